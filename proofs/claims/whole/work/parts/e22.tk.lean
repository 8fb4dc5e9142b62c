theorem pk_n {sg : Nat → Int32} {f m : Nat} (h : ∀ k : Nat, k < m + 1 → nCh (sg (f + k)).toInt) : 48 ≤ pk sg f (m + 1) := by
  have z := nCh_b (h m (by omega))
  show 48 ≤ pk sg f m * 256 + (sg (f + m)).toInt.toNat
  omega
theorem pk_i {sg : Nat → Int32} {f g : Nat} : ∀ {m l : Nat}, (∀ k : Nat, k < m → nCh (sg (f + k)).toInt) → (∀ k : Nat, k < l → nCh (sg (g + k)).toInt) → pk sg f m = pk sg g l → m = l ∧ ∀ k : Nat, k < m → sg (f + k) = sg (g + k)
  | 0, 0, _, _, _ => ⟨rfl, fun k hk => absurd hk (by omega)⟩
  | 0, l + 1, _, h2, e => by
    have := pk_n h2
    rw [← e] at this
    exact absurd this (by show ¬ 48 ≤ 0; omega)
  | m + 1, 0, h1, _, e => by
    have := pk_n h1
    rw [e] at this
    exact absurd this (by show ¬ 48 ≤ 0; omega)
  | m + 1, l + 1, h1, h2, e => by
    have a := nCh_b (h1 m (by omega))
    have b := nCh_b (h2 l (by omega))
    have e : pk sg f m * 256 + (sg (f + m)).toInt.toNat = pk sg g l * 256 + (sg (g + l)).toInt.toNat := e
    have q := pk_i (m := m) (l := l) (fun k hk => h1 k (by omega)) (fun k hk => h2 k (by omega)) (by omega)
    refine ⟨by omega, fun k hk => ?_⟩
    by_cases ek : k = m
    · subst ek
      have el : l = k := q.1.symm
      subst el
      apply Int32.toInt_inj.mp
      omega
    · exact q.2 k (by omega)
def KL1 (sg : Nat → Int32) (n : Nat) (o : cf_O) (i l : Nat) : Prop := celOk sg n l ∧ nv (o.2.2 2 i) = pk sg (wf sg n l 1).toNat (wt sg n l 1 - wf sg n l 1).toNat ∧ (o.2.1 3 i).toInt = cA sg n l ∧ (o.2.1 4 i).toInt = cD sg n l ∧ (o.2.1 5 i).toInt = cP sg n l ∧ (o.2.1 6 i).toInt = (cT sg n l : Int)
def KLq (sg : Nat → Int32) (n : Nat) (o : cf_O) (c : Nat) (ln : Nat → Nat) : Prop := ∀ i : Nat, i < c → KL1 sg n o i (ln i)
theorem KL_f {sg : Nat → Int32} {n c : Nat} {o r : cf_O} {ln : Nat → Nat} (h : KLq sg n o c ln) (e2 : ∀ i : Nat, i < c → r.2.2 2 i = o.2.2 2 i) (e3 : ∀ i : Nat, i < c → r.2.1 3 i = o.2.1 3 i) (e4 : ∀ i : Nat, i < c → r.2.1 4 i = o.2.1 4 i) (e5 : ∀ i : Nat, i < c → r.2.1 5 i = o.2.1 5 i) (e6 : ∀ i : Nat, i < c → r.2.1 6 i = o.2.1 6 i) : KLq sg n r c ln := fun i hi => by
  unfold KL1
  rw [e2 i hi, e3 i hi, e4 i hi, e5 i hi, e6 i hi]; exact h i hi
theorem pk_s {sg : Nat → Int32} {n m l : Nat} (h : celOk sg n m) (g : celOk sg n l) : pk sg (wf sg n m 1).toNat (wt sg n m 1 - wf sg n m 1).toNat = pk sg (wf sg n l 1).toNat (wt sg n l 1 - wf sg n l 1).toNat ↔ sNm sg n m l := by
  have a := cel_w h (i := 1) (by omega)
  have b := cel_w g (i := 1) (by omega)
  constructor
  · intro e
    have q := pk_i (fun k hk => h.2.2.1.2 k (by omega)) (fun k hk => g.2.2.1.2 k (by omega)) e
    exact ⟨by omega, fun k hk => q.2 k (by omega)⟩
  · intro q
    have keyq : ∀ j : Nat, (j : Int) ≤ wt sg n m 1 - wf sg n m 1 → pk sg (wf sg n m 1).toNat j = pk sg (wf sg n l 1).toNat j := by
      intro j
      induction j with
      | zero => exact fun _ => rfl
      | succ j ih =>
        intro hj
        show pk sg (wf sg n m 1).toNat j * 256 + (sg ((wf sg n m 1).toNat + j)).toInt.toNat = pk sg (wf sg n l 1).toNat j * 256 + (sg ((wf sg n l 1).toNat + j)).toInt.toNat
        rw [ih (by omega), q.2 j (by omega)]
    rw [keyq _ (by omega), q.1]
def NwC (sg : Nat → Int32) (n m : Nat) (r : cf_O) (c : Nat) : Prop := KL1 sg n r c m
def SmC (o r : cf_O) (c : Nat) : Prop := (∀ i : Nat, i < c → r.2.2 2 i = o.2.2 2 i) ∧ (∀ i : Nat, i < c → r.2.1 3 i = o.2.1 3 i) ∧ (∀ i : Nat, i < c → r.2.1 4 i = o.2.1 4 i) ∧ (∀ i : Nat, i < c → r.2.1 5 i = o.2.1 5 i) ∧ (∀ i : Nat, i < c → r.2.1 6 i = o.2.1 6 i)
theorem p2_c {p : Int32} {x : Int} (h1 : 1 ≤ p.toInt) (h3 : p.toInt ≤ 3) (e : x = 2 ^ p.toInt.toNat) : (x = 2 ∧ p.toInt = 1) ∨ (x = 4 ∧ p.toInt = 2) ∨ (x = 8 ∧ p.toInt = 3) := by
  rcases (show p.toInt.toNat = 1 ∨ p.toInt.toNat = 2 ∨ p.toInt.toNat = 3 by omega) with q | q | q
  · rw [q] at e; exact Or.inl ⟨e, by omega⟩
  · rw [q] at e; exact Or.inr (Or.inl ⟨e, by omega⟩)
  · rw [q] at e; exact Or.inr (Or.inr ⟨e, by omega⟩)
theorem takeCell_sp {o o1 : cf_O} {r : Int32 × cf_O} {sg : Nat → Int32} {n m c : Nat} (ho : okO I_Tx o1) (hs : o1.2.1 0 = sg) (w : ∀ i : Nat, i < 5 → (o1.2.1 1 i).toInt = wf sg n m i ∧ (o1.2.1 2 i).toInt = wt sg n m i ∧ wf sg n m i < wt sg n m i) (hw : Wn sg n m 5) (hC : isCel sg n m) (ec : (o.1 0).toInt = (c : Int)) (h : fLi_takeCell o o1 = some r) : r.2.1 0 = o.1 0 ∧ SmC o r.2 c ∧ ((r.1 = 1 ∧ NwC sg n m r.2 c) ∨ (r.1 = 0 ∧ ¬ celOk sg n m)) := by
  have ci : (o.1 0).toNatClampNeg = c := by have := tn_n (o.1 0); omega
  obtain ⟨q1, g1, h⟩ := bd h
  have h := (ifn h).2
  obtain ⟨q2, g2, h⟩ := bd h
  have h := (ifn h).2
  obtain ⟨q3, g3, h⟩ := bd h
  have h : gLi_takeCell cfFU 0 1 (xp (xp (yp o 2 (o.1 0).toNatClampNeg q1) 3 (o.1 0).toNatClampNeg q2) 4 (o.1 0).toNatClampNeg q3) o1 = some r := (ifn h).2
  have w1 := w 1 (by omega)
  have w2 := w 2 (by omega)
  have w3 := w 3 (by omega)
  have w4 := w 4 (by omega)
  have g1 : (Nm sg (wf sg n m 1) (wt sg n m 1) ∧ nv q1 = pk sg (wf sg n m 1).toNat (wt sg n m 1 - wf sg n m 1).toNat) ∨ (¬ Nm sg (wf sg n m 1) (wt sg n m 1) ∧ q1 = 0) := by
    have z : (Nm (o1.2.1 0) (o1.2.1 1 1).toInt (o1.2.1 2 1).toInt ∧ nv q1 = pk (o1.2.1 0) (o1.2.1 1 1).toInt.toNat ((o1.2.1 2 1).toInt - (o1.2.1 1 1).toInt).toNat) ∨ (¬ Nm (o1.2.1 0) (o1.2.1 1 1).toInt (o1.2.1 2 1).toInt ∧ q1 = 0) := name_sp (v1 := 1) ho (by show (o1.2.1 1 1).toInt ≤ (o1.2.1 2 1).toInt; rw [w1.1, w1.2.1]; omega) g1
    rw [hs, w1.1, w1.2.1] at z; exact z
  have g2 : Dg sg (wf sg n m 2) (wt sg n m 2) 3 q2.toInt := by
    have z : Dg (o1.2.1 0) (o1.2.1 1 2).toInt (o1.2.1 2 2).toInt 3 q2.toInt := digits_sp (v1 := 2) (v2 := 3) ho (by decide) (by show (o1.2.1 1 2).toInt ≤ (o1.2.1 2 2).toInt; rw [w2.1, w2.2.1]; omega) g2
    rw [hs, w2.1, w2.2.1] at z; exact z
  have g3 : Dg sg (wf sg n m 3) (wt sg n m 3) 2 q3.toInt := by
    have z : Dg (o1.2.1 0) (o1.2.1 1 3).toInt (o1.2.1 2 3).toInt 2 q3.toInt := digits_sp (v1 := 3) (v2 := 2) ho (by decide) (by show (o1.2.1 1 3).toInt ≤ (o1.2.1 2 3).toInt; rw [w3.1, w3.2.1]; omega) g3
    rw [hs, w3.1, w3.2.1] at z; exact z
  rw [ci] at h
  rcases takeCell_go cfFU 1 _ o1 r ho (by decide) (by decide) h with ⟨p, tb, p1, p3, el, gb, er, yn⟩ | ⟨nl, er⟩
  · have p1 : 1 ≤ p.toInt := p1
    have er : r.2 = xp (xp (xp (xp (yp o 2 c q1) 3 c q2) 4 c q3) 5 c p) 6 c tb := by
      rw [er]
      show xp (xp (xp (xp (yp o 2 c q1) 3 c q2) 4 c q3) 5 (o.1 0).toNatClampNeg p) 6 (o.1 0).toNatClampNeg tb = _
      rw [ci]
    have yn : Yn r.1 (¬ q1 = 0 ∧ ¬ q2.toInt = -1 ∧ 0 < q3.toInt ∧ ¬ tb.toInt = -1) := by
      have z : Yn r.1 (¬ vp_updL (o.2.2 2) c q1 (o.1 0).toNatClampNeg = 0 ∧ ¬ (upd (o.2.1 3) c q2 (o.1 0).toNatClampNeg).toInt = -1 ∧ 0 < (upd (o.2.1 4) c q3 (o.1 0).toNatClampNeg).toInt ∧ ¬ tb.toInt = -1) := yn
      rw [ci, uL_s, up_s, up_s] at z; exact z
    rw [w4.1, w4.2.1] at el
    have pc := p2_c p1 p3 (x := cL sg n m) el
    have sp := sh_p (p := p) (by omega) p3
    have gb : Btw sg (wf sg n m 4) (wt sg n m 4) (2 ^ p.toInt.toNat) tb.toInt := by
      have z : Btw (o1.2.1 0) (o1.2.1 1 4).toInt (o1.2.1 2 4).toInt ((1 : Int32) <<< (p &&& 31)).toInt tb.toInt := bits_sp (v1 := 4) ho (by rw [sp, ← el]; have pc : (wt sg n m 4 - wf sg n m 4 = 2 ∧ p.toInt = 1) ∨ (wt sg n m 4 - wf sg n m 4 = 4 ∧ p.toInt = 2) ∨ (wt sg n m 4 - wf sg n m 4 = 8 ∧ p.toInt = 3) := pc; omega) gb
      rw [hs, w4.1, w4.2.1, sp] at z; exact z
    refine ⟨by rw [er]; rfl, ?_, ?_⟩
    · rw [er]
      refine ⟨fun i hi => ?_, fun i hi => ?_, fun i hi => ?_, fun i hi => ?_, fun i hi => ?_⟩
      · exact uL_o (f := o.2.2 2) (by omega)
      · exact up_o (f := o.2.1 3) (by omega)
      · exact up_o (f := o.2.1 4) (by omega)
      · exact up_o (f := o.2.1 5) (by omega)
      · exact up_o (f := o.2.1 6) (by omega)
    · have keyq : (¬ q1 = 0 ∧ ¬ q2.toInt = -1 ∧ 0 < q3.toInt ∧ ¬ tb.toInt = -1) ↔ celOk sg n m := by
        constructor
        · rintro ⟨a1, a2, a3, a4⟩
          have b1 : Nm sg (wf sg n m 1) (wt sg n m 1) := by
            rcases g1 with z | z
            · exact z.1
            · exact absurd z.2 a1
          have b4 : bOk sg (wf sg n m 4).toNat (cL sg n m).toNat := by
            rcases gb with z | z
            · exact z.2.1
            · exact absurd z.2 a4
          refine ⟨hw, hC, b1, ?_, ?_, by omega, b4⟩
          · rcases g2 with z | z
            · exact ⟨z.1, z.2.1⟩
            · exact absurd z.2 a2
          · rcases g3 with z | z
            · exact ⟨⟨z.1, z.2.1⟩, by unfold cD; rw [← z.2.2]; omega⟩
            · have := z.2; omega
        · intro k
          refine ⟨?_, ?_, ?_, ?_⟩
          · rcases g1 with z | z
            · intro e0
              obtain ⟨j, hj⟩ : ∃ j, (wt sg n m 1 - wf sg n m 1).toNat = j + 1 := ⟨(wt sg n m 1 - wf sg n m 1).toNat - 1, by omega⟩
              have y := pk_n (sg := sg) (f := (wf sg n m 1).toNat) (m := j) (fun k hk => z.1.2 k (by omega))
              rw [← hj, ← z.2, e0] at y
              exact absurd y (by decide)
            · exact absurd k.2.2.1 z.1
          · rcases g2 with z | z
            · have := (dv_b z.2.1).1; omega
            · exact absurd k.2.2.2.1 z.1
          · rcases g3 with z | z
            · have y := k.2.2.2.2.1.2
              unfold cD at y; omega
            · exact absurd k.2.2.2.2.1.1 z.1
          · rcases gb with z | z
            · omega
            · exact absurd ⟨el, k.2.2.2.2.2.2⟩ z.1
      rcases yn with yn | yn
      · have ok := keyq.mp yn.2
        refine Or.inl ⟨yn.1, ok, ?_, ?_, ?_, ?_, ?_⟩
        · rw [er]
          show nv (vp_updL (o.2.2 2) c q1 c) = _
          rw [uL_s]
          rcases g1 with z | z
          · exact z.2
          · exact absurd ok.2.2.1 z.1
        · rw [er]
          show (upd (o.2.1 3) c q2 c).toInt = _
          rw [up_s]
          rcases g2 with z | z
          · exact z.2.2
          · exact absurd ok.2.2.2.1 z.1
        · rw [er]
          show (upd (o.2.1 4) c q3 c).toInt = _
          rw [up_s]
          rcases g3 with z | z
          · exact z.2.2
          · exact absurd ok.2.2.2.2.1.1 z.1
        · rw [er]
          show (upd (o.2.1 5) c p c).toInt = _
          rw [up_s]
          unfold cP
          rcases pc with z | z | z
          · rw [if_pos z.1, z.2]
          · rw [if_neg (by omega), if_pos z.1, z.2]
          · rw [if_neg (by omega), if_neg (by omega), z.2]
        · rw [er]
          show (upd (o.2.1 6) c tb c).toInt = _
          rw [up_s]
          rcases gb with z | z
          · exact z.2.2
          · exact absurd ⟨el, ok.2.2.2.2.2.2⟩ z.1
      · exact Or.inr ⟨yn.1, fun k => yn.2 (keyq.mpr k)⟩
  · refine ⟨by rw [er]; rfl, ?_, Or.inr ⟨by rw [er], fun k => ?_⟩⟩
    · rw [er]
      refine ⟨fun i hi => ?_, fun i hi => ?_, fun i hi => ?_, fun i hi => rfl, fun i hi => rfl⟩
      · exact uL_o (f := o.2.2 2) (by omega)
      · exact up_o (f := o.2.1 3) (by omega)
      · exact up_o (f := o.2.1 4) (by omega)
    · have z := k.2.2.2.2.2.1
      unfold cL at z
      rw [w4.1, w4.2.1] at nl
      rcases z with z | z | z
      · exact nl 1 (by decide) (by decide) z
      · exact nl 2 (by decide) (by decide) z
      · exact nl 3 (by decide) (by decide) z
def SLn (sg : Nat → Int32) (n m c : Nat) (ln : Nat → Nat) (o : cf_O) (r : Int32 × cf_O) : Prop :=
  (isEnd sg n m ∧ (Wn sg n m 1 ∧ 0 < c) ∧ r = (0, o)) ∨ (isEnd sg n m ∧ ¬ (Wn sg n m 1 ∧ 0 < c) ∧ r.1 = 1) ∨ (¬ isEnd sg n m ∧ ¬ (celOk sg n m ∧ c < 12) ∧ r.1 = 1) ∨ (¬ isEnd sg n m ∧ (celOk sg n m ∧ c < 12) ∧ (∃ i : Nat, i < c ∧ sNm sg n (ln i) m) ∧ r.1 = 2) ∨ (¬ isEnd sg n m ∧ (celOk sg n m ∧ c < 12) ∧ (¬ ∃ i : Nat, i < c ∧ sNm sg n (ln i) m) ∧ r.1 = 0 ∧ (r.2.1 0).toInt = ((c + 1 : Nat) : Int) ∧ KLq sg n r.2 (c + 1) (fun i => if i = c then m else ln i))
theorem scanLine_go {sg : Nat → Int32} {n m c : Nat} {ln : Nat → Nat} (c12 : c < 12) : ∀ (fuel : Nat) (v2 : Int32) (o o1 : cf_O) (r : Int32 × cf_O), (o.1 0).toInt = (c : Int) → 0 ≤ v2.toInt → v2.toInt ≤ (c : Int) → KLq sg n o c ln → NwC sg n m o c → (∀ i : Nat, (i : Int) < v2.toInt → ¬ sNm sg n (ln i) m) → gLi_scanLine fuel 0 v2 o o1 = some r → ((∃ i : Nat, i < c ∧ sNm sg n (ln i) m) ∧ r.1 = 2) ∨ ((¬ ∃ i : Nat, i < c ∧ sNm sg n (ln i) m) ∧ r.1 = 0 ∧ (r.2.1 0).toInt = ((c + 1 : Nat) : Int) ∧ KLq sg n r.2 (c + 1) (fun i => if i = c then m else ln i))
  | 0, v2, o, o1, r, ec, h0, h1, K, N, hd, h => by cases h
  | fuel + 1, v2, o, o1, r, ec, h0, h1, K, N, hd, h => by
    have ci : (o.1 0).toNatClampNeg = c := by have := tn_n (o.1 0); omega
    rcases ifc h with ⟨a, h⟩ | ⟨a, h⟩
    · have a := c_le a
      have e : r = ((0 : Int32), fp o 0 ((o.1 0) + 1)) := (Option.some.inj h).symm
      subst e
      refine Or.inr ⟨fun ⟨i, hi, q⟩ => hd i (by omega) q, rfl, ?_, fun i hi => ?_⟩
      · show ((o.1 0) + 1).toInt = _
        rw [p_1 (by omega) (by omega), ec]; omega
      · by_cases e : i = c
        · subst e
          show KL1 sg n o i (if i = i then m else ln i)
          rw [if_pos rfl]; exact N
        · show KL1 sg n o i (if i = c then m else ln i)
          rw [if_neg e]; exact K i (by omega)
    · have a := c_nle a
      have h := (ifn h).2
      have h := (ifn h).2
      have e2 := p_1 (v := v2) h0 (by omega)
      have vi : v2.toNatClampNeg = v2.toInt.toNat := by have := tn_n v2; omega
      have kk := K v2.toInt.toNat (by omega)
      have eqv : lg_cmp (o.2.2 2 v2.toNatClampNeg) (o.2.2 2 (o.1 0).toNatClampNeg) = 0 ↔ sNm sg n (ln v2.toInt.toNat) m := by
        rw [lg_cmp_eq, vi, ci]
        constructor
        · intro e
          refine (pk_s kk.1 N.1).mp ?_
          rw [← kk.2.1, ← N.2.1, e]
        · intro q
          apply nv_inj
          rw [kk.2.1, N.2.1]
          exact (pk_s kk.1 N.1).mpr q
      rcases ifc h with ⟨b, h⟩ | ⟨b, h⟩
      · have e : r = ((2 : Int32), o) := (Option.some.inj h).symm
        subst e
        exact Or.inl ⟨⟨v2.toInt.toNat, by omega, eqv.mp b⟩, rfl⟩
      · refine scanLine_go c12 fuel (v2 + 1) o o1 r ec (by omega) (by omega) K N (fun i hi q => ?_) h
        by_cases ei : (i : Int) = v2.toInt
        · refine b (eqv.mpr ?_)
          rw [show v2.toInt.toNat = i from by omega]; exact q
        · exact hd i (by omega) q
theorem scanLine_sp {o o1 : cf_O} {r : Int32 × cf_O} {sg : Nat → Int32} {n : Int} {m c : Nat} {ln : Nat → Nat} (ho : okO I_Tx o1) (hs : o1.2.1 0 = sg) (hT : TC sg n (LPq sg n.toNat m) (o1.1 5).toInt (o1.2.1 1) (o1.2.1 2)) (h5 : 0 < (o1.1 5).toInt) (ec : (o.1 0).toInt = (c : Int)) (c12 : c ≤ 12) (K : KLq sg n.toNat o c ln) (h : fLi_scanLine o o1 = some r) : SLn sg n.toNat m c ln o r := by
  obtain ⟨k, ek, hk, hx⟩ := hT
  have lp : ((LPq sg n.toNat m : Nat) : Int).toNat = LPq sg n.toNat m := Int.toNat_natCast _
  rw [lp] at hk hx
  have wn : Wn sg n.toNat m k := ⟨fun i hi => (hk i hi).1, hx⟩
  have w : ∀ i : Nat, i < k → i < 9 → (o1.2.1 1 i).toInt = wf sg n.toNat m i ∧ (o1.2.1 2 i).toInt = wt sg n.toNat m i ∧ wf sg n.toNat m i < wt sg n.toNat m i := fun i hi h9 => by
    have z := (hk i hi).2 h9
    refine ⟨z.1, z.2, ?_⟩
    have y := WT_l (sg := sg) (p := LPq sg n.toNat m) (h := LH sg n.toNat (LPq sg n.toNat m)) (i := i) LH_g (hk i hi).1
    unfold wf wt; omega
  have k0 : 0 < k := by omega
  have w0 := w 0 k0 (by omega)
  obtain ⟨q1, g1, h⟩ := bd h
  have g1 : Yn q1 (isEnd sg n.toNat m) := by
    have z : Yn q1 (Wdq (o1.2.1 0) (o1.2.1 1 0).toInt (o1.2.1 2 0).toInt [46, 101, 110, 100]) := isWord0_sp (v1 := 0) ho g1
    rw [hs, w0.1, w0.2.1] at z; exact z
  rcases ifc h with ⟨a, h⟩ | ⟨a, h⟩
  · have nE := Yn_0 g1 a
    obtain ⟨q2, g2, h⟩ := bd h
    have g2 : Yn q2 (isCel sg n.toNat m) := by
      have z : Yn q2 (Wdq (o1.2.1 0) (o1.2.1 1 0).toInt (o1.2.1 2 0).toInt [99, 101, 108, 108]) := isWord1_sp (v1 := 0) ho g2
      rw [hs, w0.1, w0.2.1] at z; exact z
    have no : ∀ o' : cf_O, ¬ (celOk sg n.toNat m ∧ c < 12) → fLi_scanLine_66 (gLi_scanLine cfFU) o' o1 = some r → SLn sg n.toNat m c ln o r := fun o' q h => by
      have e : r = ((1 : Int32), o') := (Option.some.inj h).symm
      exact Or.inr (Or.inr (Or.inl ⟨nE, q, by rw [e]⟩))
    rcases ifc h with ⟨b, h⟩ | ⟨b, h⟩
    · exact no o (fun z => Yn_0 g2 b z.1.2.1) h
    have g2 := Yn_1 g2 b
    rcases ifc h with ⟨b, h⟩ | ⟨b, h⟩
    · have b : (o1.1 5).toInt = 5 := c_eq b
      have k5 : k = 5 := by omega
      subst k5
      rcases ifc h with ⟨d, h⟩ | ⟨d, h⟩
      · have d : (o.1 0).toInt = 12 := c_eq d
        exact no o (fun z => by have := z.2; omega) h
      have d : ¬ (o.1 0).toInt = 12 := c_ne d
      have l12 : c < 12 := by omega
      obtain ⟨q3, g3, h⟩ := bd h
      obtain ⟨t1, t2, t3⟩ := takeCell_sp (n := n.toNat) (m := m) ho hs (fun i hi => w i hi (by omega)) wn g2 ec g3
      rcases ifc h with ⟨f, h⟩ | ⟨f, h⟩
      · refine no q3.2 (fun z => ?_) h
        rcases t3 with t3 | t3
        · rw [t3.1] at f; exact absurd f (by decide)
        · exact t3.2 z.1
      · rcases t3 with t3 | t3
        · have K2 : KLq sg n.toNat q3.2 c ln := KL_f K t2.1 t2.2.1 t2.2.2.1 t2.2.2.2.1 t2.2.2.2.2
          rcases scanLine_go l12 cfFU 0 q3.2 o1 r (by rw [t1]; exact ec) (by decide) (by rw [show (0 : Int32).toInt = 0 from rfl]; omega) K2 t3.2 (fun i hi => absurd hi (by rw [show (0 : Int32).toInt = 0 from rfl]; omega)) h with z | z
          · exact Or.inr (Or.inr (Or.inr (Or.inl ⟨nE, ⟨t3.2.1, l12⟩, z⟩)))
          · exact Or.inr (Or.inr (Or.inr (Or.inr ⟨nE, ⟨t3.2.1, l12⟩, z⟩)))
        · exact absurd t3.1 f
    · have b : ¬ (o1.1 5).toInt = 5 := c_ne b
      exact no o (fun z => by have := Wn_u wn z.1.1; omega) h
  · have iE := Yn_1 g1 a
    have no : ¬ (Wn sg n.toNat m 1 ∧ 0 < c) → fLi_scanLine_29 (gLi_scanLine cfFU) o o1 = some r → SLn sg n.toNat m c ln o r := fun q h => by
      have e : r = ((1 : Int32), o) := (Option.some.inj h).symm
      exact Or.inr (Or.inl ⟨iE, q, by rw [e]⟩)
    rcases ifc h with ⟨b, h⟩ | ⟨b, h⟩
    · have b : (o1.1 5).toInt = 1 := c_eq b
      have k1 : k = 1 := by omega
      subst k1
      rcases ifc h with ⟨d, h⟩ | ⟨d, h⟩
      · have d : (o.1 0).toInt ≤ 0 := c_le d
        exact no (fun z => by have := z.2; omega) h
      · have d : 0 < (o.1 0).toInt := c_nle d
        have e : r = ((0 : Int32), o) := (Option.some.inj h).symm
        exact Or.inl ⟨iE, ⟨wn, by omega⟩, e⟩
    · have b : ¬ (o1.1 5).toInt = 1 := c_ne b
      exact no (fun z => by have := Wn_u wn z.1; omega) h
theorem toNextLine_sp {o : cf_O} {r : Int32 × cf_O} (ho : okO I_Tx o) (h4 : -1 ≤ (o.1 4).toInt) (h46 : (o.1 4).toInt + 1 ≤ (o.1 6).toInt) (hq : Lqq (o.2.1 0) (o.1 3).toInt ((o.1 4).toInt + 1) (o.1 6).toInt) (h : fTx_toNextLine o = some r) : Fr (fr_M [4, 5, 6] [1, 2] []) o r.2 ∧ NL (o.2.1 0) (o.1 3).toInt (o.1 4).toInt (r.2.1 4).toInt r.1.toInt (r.2.1 5).toInt (r.2.1 6).toInt (r.2.2.1 1) (r.2.2.1 2) ∧ okO I_Tx r.2 ∧ (0 ≤ (r.2.1 4).toInt ∧ (r.2.1 4).toInt ≤ 1602) ∧ (¬ r.1 = 0 → (r.2.1 4).toInt + 1 ≤ (r.2.1 6).toInt) ∧ (o.1 4).toInt < (r.2.1 4).toInt := by
  obtain ⟨r', e, Q⟩ := sTx_toNextLine o ho h46 h4
  cases e.symm.trans h
  have z := toNextLine_go (k := (o.1 4).toInt) cfFU 0 o r fr_rfl ho rfl rfl (Int.le_refl _) h4 h46 (by decide) (by rw [show (0 : Int32).toInt = 0 from rfl]; omega) hq (Bls_0 (by omega)) h
  refine ⟨z.1, z.2.1, Q.2.1, Q.2.2.2.1, fun q => ?_, z.2.2⟩
  rcases Q.2.2.2.2.1 with y | y
  · exact absurd (Int32.toInt_inj.mp y) q
  · exact y.1
def ScP (sg : Nat → Int32) (n : Int) (r : Int32 × cf_O × cf_O) : Prop := ∃ (c : Nat) (ln : Nat → Nat), LAns sg n.toNat r.1.toInt (r.2.2.1 4).toInt c ln ∧ (r.1.toInt = 0 → (r.2.1.1 0).toInt = (c : Int) ∧ KLq sg n.toNat r.2.1 c ln)
theorem scan_go {O1 : cf_O} {sg : Nat → Int32} {n : Int} (n0 : 0 ≤ n) (n1 : n ≤ 1600) : ∀ (fuel : Nat) (v2 v3 : Int32) (o o1 : cf_O) (r : Int32 × cf_O × cf_O) (s2 e : Int) (c : Nat) (ln : Nat → Nat), okO I_Li o → okO I_Tx o1 → o1.2.1 0 = sg → (o1.1 3).toInt = n → -1 ≤ (o1.1 4).toInt → (o1.1 4).toInt + 1 ≤ (o1.1 6).toInt → Lqq sg n ((o1.1 4).toInt + 1) (o1.1 6).toInt → (∀ j : Nat, (j : Int) < (o1.1 4).toInt + 1 → LPq sg n.toNat j ≤ n.toNat) → LR sg n.toNat ((o1.1 4).toInt + 1).toNat = (0, s2, e, c, ln) → v2.toInt = e → (e = 0 ∨ e = 1) → v3.toInt = (c : Int) + e → (o.1 0).toInt = (c : Int) → c ≤ 12 → KLq sg n.toNat o c ln → gLi_scan fuel 0 v2 v3 o o1 = some r → ScP sg n r
  | 0, v2, v3, o, o1, r, s2, e, c, ln, hl, ho, hs, hn, h4, h46, hq, hj, hL, ev, ee, e3, ec, c12, K, h => by cases h
  | fuel + 1, v2, v3, o, o1, r, s2, e, c, ln, hl, ho, hs, hn, h4, h46, hq, hj, hL, ev, ee, e3, ec, c12, K, h => by
    have z0 : (0 : Int32).toInt = 0 := rfl
    rcases ifc h with ⟨a, _⟩ | ⟨_, h⟩
    · have a : 1600 < v3.toInt := c_lt a
      omega
    obtain ⟨q, hN, h⟩ := bd h
    obtain ⟨f1, f2, f3, f4, f5, f6⟩ := toNextLine_sp ho h4 h46 (by rw [hs, hn]; exact hq) hN
    rw [hs, hn] at f2
    obtain ⟨bl, f2⟩ := f2
    have sq : q.2.2.1 0 = sg := by rw [f1.2.1 0 rfl]; exact hs
    have nq : (q.2.1 3).toInt = n := by rw [f1.1 3 rfl]; exact hn
    -- the lines up to the one found
    have up : ∀ (k : Int), (o1.1 4).toInt < k → (∀ j : Nat, (o1.1 4).toInt < (j : Int) → (j : Int) < k → (LPq sg n.toNat j : Int) ≤ n ∧ Bl sg n.toNat j) → LR sg n.toNat k.toNat = (0, s2, e, c, ln) ∧ ∀ j : Nat, (j : Int) < k → LPq sg n.toNat j ≤ n.toNat := fun k hk b => by
      refine ⟨?_, fun j q => ?_⟩
      · have z := LR_bs (sg := sg) (n := n.toNat) (a := ((o1.1 4).toInt + 1).toNat) (k := k.toNat - ((o1.1 4).toInt + 1).toNat) (fun j j1 j2 => (b j (by omega) (by omega)).2)
        rw [show ((o1.1 4).toInt + 1).toNat + (k.toNat - ((o1.1 4).toInt + 1).toNat) = k.toNat from by omega] at z
        rw [z]; exact hL
      · by_cases l : (j : Int) < (o1.1 4).toInt + 1
        · exact hj j l
        · have := (b j (by omega) q).1; omega
    have ev4 : (q.2.1 4).toInt = (((q.2.1 4).toInt.toNat : Nat) : Int) := by omega
    have k4 : (o1.1 4).toInt < (q.2.1 4).toInt := f6
    obtain ⟨hL2, hj2⟩ := up (q.2.1 4).toInt k4 bl
    rcases ifc h with ⟨a, h⟩ | ⟨a, h⟩
    · have zz : n < (LPq sg n.toNat (q.2.1 4).toInt.toNat : Int) := by
        rcases f2 with z | z
        · exact absurd (by rw [a]; rfl) z.1
        · exact z.2
      rcases ifc h with ⟨b, h⟩ | ⟨b, h⟩
      · have b : v2.toInt = 0 := c_eq b
        have er : r = ((1 : Int32), o, q.2) := (Option.some.inj h).symm
        subst er
        refine ⟨c, ln, ?_, fun z => absurd z (by show ¬ (1 : Int32).toInt = 0; decide)⟩
        show LAns sg n.toNat (1 : Int32).toInt (q.2.1 4).toInt c ln
        rw [ev4]
        exact LAns_n (by omega) (fun j q => hj2 j (by omega)) (by rw [hL2]) (by rw [hL2]; show ¬ e = 1; omega)
      · have b : ¬ v2.toInt = 0 := c_ne b
        obtain ⟨x, hx, h⟩ := bd h
        obtain ⟨y, hy, h⟩ := bd h
        have er : r = ((0 : Int32), y, q.2) := (Option.some.inj h).symm
        obtain ⟨x', ex, Qx⟩ := sLi_findInverter o hl
        cases ex.symm.trans hx
        obtain ⟨y', ey, Qy⟩ := sLi_findWays x Qx.1
        cases ey.symm.trans hy
        have F1 := Qx.2.1
        have F2 := Qy.2.1
        subst er
        refine ⟨c, ln, ?_, fun _ => ⟨?_, KL_f K (fun i _ => ?_) (fun i _ => ?_) (fun i _ => ?_) (fun i _ => ?_) (fun i _ => ?_)⟩⟩
        · obtain ⟨M, m1, m2, m3⟩ := LAns_e (sg := sg) (n := n.toNat) (M := (q.2.1 4).toInt.toNat) (c := c) (ln := ln) (by omega) (fun j q => hj2 j (by omega)) (by rw [hL2]) (by rw [hL2]; show e = 1; omega) (by rw [hL2]) (by rw [hL2])
          refine ⟨M, m1, m2, ?_⟩
          rcases m3 with m3 | m3 | m3
          · exact absurd m3.2.1.symm m3.1
          · exact Or.inr (Or.inl m3)
          · exact absurd m3.2.2.1 (by decide)
        · show (y.1 0).toInt = _
          rw [F2.1 0 rfl, F1.1 0 rfl]; exact ec
        · show y.2.2 2 i = _
          rw [F2.2.2 2 rfl, F1.2.2 2 rfl]
        · show y.2.1 3 i = _
          rw [F2.2.1 3 rfl, F1.2.1 3 rfl]
        · show y.2.1 4 i = _
          rw [F2.2.1 4 rfl, F1.2.1 4 rfl]
        · show y.2.1 5 i = _
          rw [F2.2.1 5 rfl, F1.2.1 5 rfl]
        · show y.2.1 6 i = _
          rw [F2.2.1 6 rfl, F1.2.1 6 rfl]
    · obtain ⟨g1, g2, g3, g4, g5⟩ : ¬ q.1.toInt = 0 ∧ (LPq sg n.toNat (q.2.1 4).toInt.toNat : Int) ≤ n ∧ TC sg n (LPq sg n.toNat (q.2.1 4).toInt.toNat) (q.2.1 5).toInt (q.2.2.1 1) (q.2.2.1 2) ∧ 0 < (q.2.1 5).toInt ∧ Lqq sg n ((q.2.1 4).toInt + 1) (q.2.1 6).toInt := by
        rcases f2 with z | z
        · exact z
        · exact absurd (Int32.toInt_inj.mp z.1) a
      have hL1 := LR_t hL2
      have nb : ¬ Bl sg n.toNat (q.2.1 4).toInt.toNat := fun y => by
        obtain ⟨k, ek, hk, -⟩ := g3
        have l := (hk 0 (by omega)).1
        rw [show ((LPq sg n.toNat (q.2.1 4).toInt.toNat : Nat) : Int).toNat = LPq sg n.toNat (q.2.1 4).toInt.toNat from Int.toNat_natCast _] at l
        have y : WF sg (LPq sg n.toNat (q.2.1 4).toInt.toNat) (LH sg n.toNat (LPq sg n.toNat (q.2.1 4).toInt.toNat)) 0 = LH sg n.toNat (LPq sg n.toNat (q.2.1 4).toInt.toNat) := y
        omega
      have la : LPq sg n.toNat (q.2.1 4).toInt.toNat ≤ n.toNat := by omega
      have flt : ∀ (k : Int32) (o' : cf_O) (x : Int × Nat × (Nat → Nat)), ¬ k.toInt = 0 → LR sg n.toNat ((q.2.1 4).toInt.toNat + 1) = (k.toInt, (((q.2.1 4).toInt.toNat : Nat) : Int), x) → r = (k, o', q.2) → ScP sg n r := fun k o' x hk hLx er => by
        subst er
        refine ⟨c, ln, ?_, fun z => absurd z hk⟩
        show LAns sg n.toNat k.toInt (q.2.1 4).toInt c ln
        rw [ev4]
        exact LAns_g la hLx hk
      have ps : ∀ (s0 : Int32) (o' : cf_O), ¬ s0 = 0 → fLi_scan_40 (gLi_scan fuel) v3 s0 o' q.2 = some r → r = (s0, o', q.2) := fun s0 o' hk h => by
        rcases ifc h with ⟨y, _⟩ | ⟨_, h⟩
        · exact absurd y hk
        · exact (Option.some.inj h).symm
      rcases ifc h with ⟨b, h⟩ | ⟨b, h⟩
      · have b : v2.toInt = 0 := c_eq b
        have e0 : e = 0 := by omega
        subst e0
        obtain ⟨x, hx, h⟩ := bd h
        obtain ⟨x', ex, Qx⟩ := sLi_scanLine o q.2 hl f3 f4
        cases ex.symm.trans hx
        have S := scanLine_sp f3 sq g3 g4 ec c12 K hx
        have w0 : (q.2.2.1 1 0).toInt = wf sg n.toNat (q.2.1 4).toInt.toNat 0 ∧ (q.2.2.1 2 0).toInt = wt sg n.toNat (q.2.1 4).toInt.toNat 0 := by
          obtain ⟨k, ek, hk, -⟩ := g3
          have l := (hk 0 (by omega)).2 (by omega)
          rw [show ((LPq sg n.toNat (q.2.1 4).toInt.toNat : Nat) : Int).toNat = LPq sg n.toNat (q.2.1 4).toInt.toNat from Int.toNat_natCast _] at l
          exact l
        have nx : ∀ (o' : cf_O) (s2' e' : Int) (c' : Nat) (ln' : Nat → Nat), okO I_Li o' → LR sg n.toNat ((q.2.1 4).toInt.toNat + 1) = (0, s2', e', c', ln') → (e' = 0 ∨ e' = 1) → ((e' = 1 ∧ isEnd sg n.toNat (q.2.1 4).toInt.toNat) ∨ (e' = 0 ∧ ¬ isEnd sg n.toNat (q.2.1 4).toInt.toNat)) → v3.toInt + 1 = (c' : Int) + e' → (o'.1 0).toInt = (c' : Int) → c' ≤ 12 → KLq sg n.toNat o' c' ln' → fLi_scan_40 (gLi_scan fuel) v3 0 o' q.2 = some r → ScP sg n r := fun o' s2' e' c' ln' k1 k2 k3 k4 k5 k6 k7 k8 h => by
          rcases ifc h with ⟨_, h⟩ | ⟨y, _⟩
          · obtain ⟨y, hy, h⟩ := bd h
            have hy : Yn y (isEnd sg n.toNat (q.2.1 4).toInt.toNat) := by
              have z : Yn y (Wdq (q.2.2.1 0) (q.2.2.1 1 0).toInt (q.2.2.1 2 0).toInt [46, 101, 110, 100]) := isWord0_sp (v1 := 0) f3 hy
              rw [sq, w0.1, w0.2] at z; exact z
            have ey : y.toInt = e' := by
              rcases hy with hy | hy
              · rcases k4 with k4 | k4
                · rw [hy.1, k4.1]; rfl
                · exact absurd hy.2 k4.2
              · rcases k4 with k4 | k4
                · exact absurd k4.2 hy.2
                · rw [hy.1, k4.1]; rfl
            have e31 : (v3 + 1).toInt = v3.toInt + 1 := p_1 (by omega) (by omega)
            exact scan_go (O1 := O1) n0 n1 fuel y (v3 + 1) o' q.2 r s2' e' c' ln' k1 f3 sq nq (by omega) (f5 a) g5 (fun j z9 => by
              by_cases l : (j : Int) < (q.2.1 4).toInt
              · exact hj2 j l
              · rw [show j = (q.2.1 4).toInt.toNat from by omega]; exact la) (by rw [show ((q.2.1 4).toInt + 1).toNat = (q.2.1 4).toInt.toNat + 1 from by omega]; exact k2) ey k3 (by omega) k6 k7 k8 h
          · exact absurd rfl y
        rcases S with ⟨iE, w1, er⟩ | ⟨iE, w1, er⟩ | ⟨nE, w1, er⟩ | ⟨nE, w1, d, er⟩ | ⟨nE, w1, d, er, e9, K9⟩
        · rw [ls_y nb iE w1.1 w1.2] at hL1
          rw [er] at h
          exact nx o _ _ _ _ hl hL1 (Or.inr rfl) (Or.inl ⟨rfl, iE⟩) (by omega) ec c12 K h
        · rw [ls_n nb iE w1] at hL1
          have er2 := ps x.1 x.2 (by rw [er]; decide) h
          rw [er] at er2
          exact flt 1 x.2 _ (by decide) hL1 er2
        · rw [ls_x nb nE w1] at hL1
          have er2 := ps x.1 x.2 (by rw [er]; decide) h
          rw [er] at er2
          exact flt 1 x.2 _ (by decide) hL1 er2
        · rw [ls_t nb nE w1 d] at hL1
          have er2 := ps x.1 x.2 (by rw [er]; decide) h
          rw [er] at er2
          exact flt 2 x.2 _ (by decide) hL1 er2
        · rw [ls_a nb nE w1 d] at hL1
          rw [er] at h
          exact nx x.2 _ _ _ _ Qx.2.1 hL1 (Or.inl rfl) (Or.inr ⟨rfl, nE⟩) (by omega) e9 (by omega) K9 h
      · have b : ¬ v2.toInt = 0 := c_ne b
        have e1 : e = 1 := by omega
        subst e1
        rw [lst_e nb] at hL1
        exact flt 1 o _ (by decide) hL1 (ps 1 o (by decide) h)
