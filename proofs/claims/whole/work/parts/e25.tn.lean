def KRi (sg : Nat → Int32) (n : Nat) (o : cf_O) (iL : Nat) : Prop := (o.1 10).toInt + 1 = (nW sg n iL : Int) ∧ ∀ k : Nat, k + 1 < nW sg n iL → (o.2.1 11 k).toInt = wf sg n iL (k + 1) ∧ (o.2.1 12 k).toInt = wt sg n iL (k + 1)
def KRo (sg : Nat → Int32) (n : Nat) (o : cf_O) (oL : Nat) : Prop := (o.1 13).toInt + 1 = (nW sg n oL : Int) ∧ (o.1 16).toInt = (oL : Int) ∧ ∀ k : Nat, k + 1 < nW sg n oL → (o.2.1 14 k).toInt = wf sg n oL (k + 1) ∧ (o.2.1 15 k).toInt = wt sg n oL (k + 1)
def KRt (sg : Nat → Int32) (n : Nat) (o : cf_O) (j tl : Nat) : Prop := (o.2.1 18 j).toInt = (tl : Int) ∧ (o.2.1 19 j).toInt + 1 = (nW sg n tl : Int) ∧ ∀ k : Nat, k + 1 < nW sg n tl → (o.2.1 20 (6 * j + k)).toInt = wf sg n tl (k + 1) ∧ (o.2.1 21 (6 * j + k)).toInt = wt sg n tl (k + 1)
noncomputable def eB (sg : Nat → Int32) (n m : Nat) : Int := if eS sg n m = 49 then 1 else 0
def KRr (sg : Nat → Int32) (n : Nat) (o : cf_O) (j c : Nat) (rl : Nat → Nat) : Prop := (o.2.1 22 j).toInt = (c : Int) ∧ (∀ r : Nat, r < c → (o.2.1 23 (16 * j + r)).toInt = wf sg n (rl r) 0) ∧ (0 < c → (o.2.1 24 j).toInt = eB sg n (rl 0))
def KRx (sg : Nat → Int32) (n : Nat) (o : cf_O) (x : NXq) : Prop := (x.1 = 0 → o.1 10 = 0) ∧ (1 ≤ x.1 → KRi sg n o x.2.1) ∧ (2 ≤ x.1 → KRo sg n o x.2.2.1) ∧ (o.1 17).toInt = (x.2.2.2.1 : Int) ∧ ∀ j : Nat, j < x.2.2.2.1 → KRt sg n o j (x.2.2.2.2.1 j) ∧ KRr sg n o j (x.2.2.2.2.2.1 j) (x.2.2.2.2.2.2 j)
def rwS (sg : Nat → Int32) (n tl m0 m : Nat) : Prop := (nW sg n tl = 2 ∨ (wt sg n m 0 - wf sg n m 0 + 2 = (nW sg n tl : Int) ∧ ∀ k : Nat, k + 2 < nW sg n tl → aSg (sg ((wf sg n m 0).toNat + k)).toInt)) ∧ (eS sg n m = 48 ∨ eS sg n m = 49) ∧ eS sg n m = eS sg n m0
def PNx (sg : Nat → Int32) (n : Nat) (x : NXq) : Prop := (1 ≤ x.1 → Nms sg n x.2.1 8 ∧ ¬ Twi sg n x.2.1) ∧ (2 ≤ x.1 → Nms sg n x.2.2.1 6 ∧ ¬ Twi sg n x.2.2.1) ∧ x.2.2.2.1 ≤ 30 ∧ (x.1 < 2 → x.2.2.2.1 = 0) ∧ ∀ j : Nat, j < x.2.2.2.1 → Nms sg n (x.2.2.2.2.1 j) 6 ∧ ¬ gvn sg n x.2.1 j x.2.2.2.2.1 (lsK sg n (x.2.2.2.2.1 j)) ∧ x.2.2.2.2.2.1 j ≤ 16 ∧ ∀ r : Nat, r < x.2.2.2.2.2.1 j → rwS sg n (x.2.2.2.2.1 j) (x.2.2.2.2.2.2 j 0) (x.2.2.2.2.2.2 j r)
theorem gvn_c {sg : Nat → Int32} {n iL t : Nat} {tL tL2 : Nat → Nat} {x : Nat} (h : ∀ j : Nat, j < t → tL2 j = tL j) : gvn sg n iL t tL2 x ↔ gvn sg n iL t tL x := by
  constructor
  · rintro (q | ⟨j, hj, q⟩)
    · exact Or.inl q
    · exact Or.inr ⟨j, hj, by rw [← h j hj]; exact q⟩
  · rintro (q | ⟨j, hj, q⟩)
    · exact Or.inl q
    · exact Or.inr ⟨j, hj, by rw [h j hj]; exact q⟩
theorem PN_s {sg : Nat → Int32} {n m : Nat} {k l : Int} {x : NXq} (P : PNx sg n x) (h : (nstep sg n m (k, l, x)).1 = 0 ∨ Bl sg n m) : PNx sg n (nstep sg n m (k, l, x)).2.2 := by
  by_cases b : Bl sg n m
  · rw [nt_b b]; exact P
  have h := h.resolve_right b
  obtain ⟨st, iL, oL, t, tL, rc, rL⟩ := x
  obtain ⟨p1, p2, p3, p4, p5⟩ := P
  have n1 : ¬ (1 : Int) = 0 := by decide
  have n2 : ¬ (2 : Int) = 0 := by decide
  by_cases s0 : st = 0
  · subst s0
    rw [nt_0 b] at h ⊢
    unfold ns0q at h ⊢
    by_cases c : isWd sg n m wInp ∧ Nms sg n m 8
    · rw [cif_t c] at h ⊢
      by_cases d : Twi sg n m
      · rw [cif_t d] at h; exact absurd h n2
      · rw [cif_f d]
        have t0 : t = 0 := p4 (by show 0 < 2; omega)
        exact ⟨fun _ => ⟨c.2, d⟩, fun q => absurd q (by show ¬ 2 ≤ 1; omega), p3, fun _ => t0, fun j hj => absurd hj (by show ¬ j < t; omega)⟩
    · rw [cif_f c] at h; exact absurd h n1
  by_cases s1 : st = 1
  · subst s1
    rw [nt_1 b] at h ⊢
    unfold ns1 at h ⊢
    by_cases c : isWd sg n m wOut ∧ Nms sg n m 6
    · rw [cif_t c] at h ⊢
      by_cases d : Twi sg n m
      · rw [cif_t d] at h; exact absurd h n2
      · rw [cif_f d]
        have t0 : t = 0 := p4 (by show 1 < 2; omega)
        exact ⟨fun _ => p1 (Nat.le_refl 1), fun _ => ⟨c.2, d⟩, p3, fun q => absurd q (by show ¬ 2 < 2; omega), fun j hj => absurd hj (by show ¬ j < t; omega)⟩
    · rw [cif_f c] at h; exact absurd h n1
  by_cases s2 : st = 2
  · subst s2
    rw [nt_2 b] at h ⊢
    unfold ns2 at h ⊢
    by_cases e : isEnd sg n m
    · rw [cif_t e] at h ⊢
      by_cases c : nW sg n m = 1
      · rw [cif_t c]
        exact ⟨fun _ => p1 (by show 1 ≤ 2; omega), fun _ => p2 (Nat.le_refl 2), p3, fun q => absurd q (by show ¬ 3 < 2; omega), p5⟩
      · rw [cif_f c] at h; exact absurd h n1
    · rw [cif_f e] at h ⊢
      by_cases c : isWd sg n m wNam
      · rw [cif_t c] at h ⊢
        unfold nsT at h ⊢
        by_cases d : Nms sg n m 6 ∧ t < 30
        · rw [cif_t (show Nms sg n m 6 ∧ (2, iL, oL, t, tL, rc, rL).2.2.2.1 < 30 from d)] at h ⊢
          by_cases g : gvn sg n iL t tL (lsK sg n m)
          · rw [cif_t (show gvn sg n (2, iL, oL, t, tL, rc, rL).2.1 (2, iL, oL, t, tL, rc, rL).2.2.2.1 (2, iL, oL, t, tL, rc, rL).2.2.2.2.1 (lsK sg n m) from g)] at h; exact absurd h n2
          · rw [cif_f (show ¬ gvn sg n (2, iL, oL, t, tL, rc, rL).2.1 (2, iL, oL, t, tL, rc, rL).2.2.2.1 (2, iL, oL, t, tL, rc, rL).2.2.2.2.1 (lsK sg n m) from g)]
            have d2 := d.2
            refine ⟨fun _ => p1 (by show 1 ≤ 2; omega), fun _ => p2 (Nat.le_refl 2), by show t + 1 ≤ 30; omega, fun q => absurd q (by show ¬ 2 < 2; omega), fun j hj => ?_⟩
            have hj : j < t + 1 := hj
            show Nms sg n (if j = t then m else tL j) 6 ∧ ¬ gvn sg n iL j (fun i => if i = t then m else tL i) (lsK sg n (if j = t then m else tL j)) ∧ (if j = t then 0 else rc j) ≤ 16 ∧ ∀ r : Nat, r < (if j = t then 0 else rc j) → rwS sg n (if j = t then m else tL j) (rL j 0) (rL j r)
            by_cases ej : j = t
            · subst ej
              rw [if_pos rfl, if_pos rfl]
              refine ⟨d.1, fun q => g ((gvn_c (fun i hi => ?_)).mp q), by omega, fun r hr => absurd hr (by omega)⟩
              show (if i = j then m else tL i) = tL i
              rw [if_neg (by omega)]
            · rw [if_neg ej, if_neg ej]
              have z := p5 j (by show j < t; omega)
              refine ⟨z.1, fun q => z.2.1 ((gvn_c (fun i hi => ?_)).mp q), z.2.2.1, z.2.2.2⟩
              show (if i = t then m else tL i) = tL i
              rw [if_neg (by omega)]
        · rw [cif_f (show ¬ (Nms sg n m 6 ∧ (2, iL, oL, t, tL, rc, rL).2.2.2.1 < 30) from d)] at h; exact absurd h n1
      · rw [cif_f c] at h ⊢
        unfold nsR at h ⊢
        by_cases d : rowOk sg n m t tL rc rL
        · rw [cif_t (show rowOk sg n m (2, iL, oL, t, tL, rc, rL).2.2.2.1 (2, iL, oL, t, tL, rc, rL).2.2.2.2.1 (2, iL, oL, t, tL, rc, rL).2.2.2.2.2.1 (2, iL, oL, t, tL, rc, rL).2.2.2.2.2.2 from d)]
          obtain ⟨d1, d2, d3, d4, d5, d6⟩ := d
          refine ⟨fun _ => p1 (by show 1 ≤ 2; omega), fun _ => p2 (Nat.le_refl 2), p3, fun q => absurd q (by show ¬ 2 < 2; omega), fun j hj => ?_⟩
          have hj : j < t := hj
          have z := p5 j hj
          show Nms sg n (tL j) 6 ∧ ¬ gvn sg n iL j tL (lsK sg n (tL j)) ∧ (if j = t - 1 then rc j + 1 else rc j) ≤ 16 ∧ ∀ r : Nat, r < (if j = t - 1 then rc j + 1 else rc j) → rwS sg n (tL j) (if j = t - 1 ∧ 0 = rc j then m else rL j 0) (if j = t - 1 ∧ r = rc j then m else rL j r)
          refine ⟨z.1, z.2.1, ?_, fun r hr => ?_⟩
          · by_cases ej : j = t - 1
            · rw [if_pos ej, ej]; omega
            · rw [if_neg ej]; exact z.2.2.1
          · by_cases ej : j = t - 1
            · rw [if_pos ej] at hr
              subst ej
              by_cases er : r = rc (t - 1)
              · have e1 : (if t - 1 = t - 1 ∧ r = rc (t - 1) then m else rL (t - 1) r) = m := if_pos ⟨rfl, er⟩
                rw [e1]
                refine ⟨d5, d4.2, ?_⟩
                by_cases e0 : 0 = rc (t - 1)
                · have e2 : (if t - 1 = t - 1 ∧ 0 = rc (t - 1) then m else rL (t - 1) 0) = m := if_pos ⟨rfl, e0⟩
                  rw [e2]
                · have e2 : (if t - 1 = t - 1 ∧ 0 = rc (t - 1) then m else rL (t - 1) 0) = rL (t - 1) 0 := if_neg (fun q => e0 q.2)
                  rw [e2]
                  exact d6.resolve_left (fun q => e0 q.symm)
              · have e1 : (if t - 1 = t - 1 ∧ r = rc (t - 1) then m else rL (t - 1) r) = rL (t - 1) r := if_neg (fun q => er q.2)
                have e2 : (if t - 1 = t - 1 ∧ 0 = rc (t - 1) then m else rL (t - 1) 0) = rL (t - 1) 0 := if_neg (fun q => by have := q.2; omega)
                have y := z.2.2.2 r (by show r < rc (t - 1); omega)
                rw [e1, e2]
                exact y
            · rw [if_neg ej] at hr
              rw [if_neg (fun q => ej q.1), if_neg (fun q => ej q.1)]
              exact z.2.2.2 r hr
        · rw [cif_f (show ¬ rowOk sg n m (2, iL, oL, t, tL, rc, rL).2.2.2.1 (2, iL, oL, t, tL, rc, rL).2.2.2.2.1 (2, iL, oL, t, tL, rc, rL).2.2.2.2.2.1 (2, iL, oL, t, tL, rc, rL).2.2.2.2.2.2 from d)] at h; exact absurd h n1
  · exfalso
    have e : nstep sg n m (k, l, st, iL, oL, t, tL, rc, rL) = (1, (m : Int), st, iL, oL, t, tL, rc, rL) := by
      unfold nstep; rw [cif_f b]
      show (if st = 0 then _ else if st = 1 then _ else if st = 2 then _ else _) = _
      rw [if_neg s0, if_neg s1, if_neg s2]
    rw [e] at h; exact n1 h
theorem PN_i {sg : Nat → Int32} {n : Nat} : ∀ {m : Nat}, (NRq sg n m).1 = 0 → PNx sg n (NRq sg n m).2.2
  | 0, _ => ⟨fun q => absurd q (by show ¬ 1 ≤ 0; omega), fun q => absurd q (by show ¬ 2 ≤ 0; omega), by show 0 ≤ 30; omega, fun _ => rfl, fun j hj => absurd hj (by show ¬ j < 0; omega)⟩
  | m + 1, h => by
    by_cases e : (NRq sg n m).1 = 0
    · rw [NR_s e] at h ⊢
      exact PN_s (k := (NRq sg n m).1) (l := (NRq sg n m).2.1) (PN_i e) (Or.inl h)
    · have q : NRq sg n (m + 1) = NRq sg n m := cif_f e
      rw [q] at h; exact absurd h e
theorem PN_e {sg : Nat → Int32} {n m : Nat} {s2 : Int} {x : NXq} (h : NRq sg n m = (0, s2, x)) : PNx sg n x := by
  have z := PN_i (sg := sg) (n := n) (m := m) (by rw [h])
  rw [h] at z; exact z
def GvR (sg : Nat → Int32) (n iL t : Nat) (tL : Nat → Nat) (x : Nat) (r : Int) : Prop := (r = -1 ∧ ¬ gvn sg n iL t tL x) ∨ (∃ k : Nat, r = (k : Int) ∧ k + 1 < nW sg n iL ∧ keyq sg n iL (k + 1) = x) ∨ (∃ j : Nat, r = 8 + (j : Int) ∧ j < t ∧ lsK sg n (tL j) = x)
theorem Nm_w {sg : Nat → Int32} {n m most i : Nat} (h : Nms sg n m most) (h1 : 1 ≤ i) (hi : i < nW sg n m) (hw : wf sg n m i < wt sg n m i) : nmO sg n m i := ⟨h.2.2.1 i h1 hi, hw⟩
theorem giver_go {sg : Nat → Int32} {n iL t : Nat} {tL : Nat → Nat} {o : cf_O} {v1 v2 : Int32} (h12 : ∀ i : Nat, (o.2.1 12 i).toInt ≤ 1600) (h21 : ∀ i : Nat, (o.2.1 21 i).toInt ≤ 1600) (hs : o.2.1 1 = sg) (a0 : 0 ≤ v1.toInt) (b1 : v2.toInt ≤ 1600) (hN : Nm sg v1.toInt v2.toInt) (l1 : v1.toInt < v2.toInt) (hI : KRi sg n o iL) (h8 : Nms sg n iL 8) (iw : ∀ i : Nat, 1 ≤ i → i < nW sg n iL → wf sg n iL i < wt sg n iL i) (et : (o.1 17).toInt = (t : Int)) (t30 : t ≤ 30) (hT : ∀ j : Nat, j < t → KRt sg n o j (tL j) ∧ Nms sg n (tL j) 6 ∧ ∀ i : Nat, 1 ≤ i → i < nW sg n (tL j) → wf sg n (tL j) i < wt sg n (tL j) i) : ∀ fuel : Nat,
    (∀ (v3 v4 r : Int32), 0 ≤ v4.toInt → v4.toInt ≤ (o.1 10).toInt → ((v3.toInt = -1 ∧ ∀ k : Nat, (k : Int) < v4.toInt → ¬ keyq sg n iL (k + 1) = pk sg v1.toInt.toNat (v2.toInt - v1.toInt).toNat) ∨ (∃ k : Nat, v3.toInt = (k : Int) ∧ (k : Int) < v4.toInt ∧ keyq sg n iL (k + 1) = pk sg v1.toInt.toNat (v2.toInt - v1.toInt).toNat)) → gM_giver fuel 0 v1 v2 v3 v4 o = some r → GvR sg n iL t tL (pk sg v1.toInt.toNat (v2.toInt - v1.toInt).toNat) r.toInt) ∧
    (∀ (v3 v4 r : Int32), 0 ≤ v4.toInt → v4.toInt ≤ (t : Int) → GvR sg n iL v4.toInt.toNat tL (pk sg v1.toInt.toNat (v2.toInt - v1.toInt).toNat) v3.toInt → gM_giver fuel 1 v1 v2 v3 v4 o = some r → GvR sg n iL t tL (pk sg v1.toInt.toNat (v2.toInt - v1.toInt).toNat) r.toInt)
  | 0 => ⟨fun _ _ _ _ _ _ h => (by cases h), fun _ _ _ _ _ _ h => (by cases h)⟩
  | fuel + 1 => by
    obtain ⟨i0, i1⟩ := giver_go h12 h21 hs a0 b1 hN l1 hI h8 iw et t30 hT fuel
    obtain ⟨e10, hk⟩ := hI
    have w9 := h8.2.1
    have z0 : (0 : Int32).toInt = 0 := rfl
    refine ⟨?_, ?_⟩
    · intro v3 v4 r h0 h1 hv h
      rcases ifc h with ⟨c, h⟩ | ⟨c, h⟩
      · have c := c_le c
        refine i1 v3 0 r (by decide) (by rw [z0]; omega) ?_ h
        rcases hv with hv | ⟨k, k1, k2, k3⟩
        · refine Or.inl ⟨hv.1, ?_⟩
          rintro (⟨k, k1, k2⟩ | ⟨j, j1, _⟩)
          · exact hv.2 k (by omega) k2
          · exact absurd j1 (by rw [z0]; exact Nat.not_lt_zero j)
        · exact Or.inr (Or.inl ⟨k, k1, by omega, k3⟩)
      · have c := c_nle c
        have h := (ifn h).2
        have h := (ifn h).2
        obtain ⟨q, g, h⟩ := bd h
        have vi : v4.toNatClampNeg = v4.toInt.toNat := by have := tn_n v4; omega
        rw [vi] at g
        have w := hk v4.toInt.toNat (by omega)
        have lw := iw (v4.toInt.toNat + 1) (by omega) (by omega)
        have bw : (o.2.1 12 v4.toInt.toNat).toInt ≤ 1600 := h12 _
        have g := alike_sp hs a0 b1 (by rw [w.1]; exact wf_0) bw hN (by rw [w.1, w.2]; exact h8.2.2.1 _ (by omega) (by omega)) l1 (by rw [w.1, w.2]; exact lw) g
        rw [w.1, w.2] at g
        have g : Yn q (pk sg v1.toInt.toNat (v2.toInt - v1.toInt).toNat = keyq sg n iL (v4.toInt.toNat + 1)) := g
        have e4 := p_1 (v := v4) h0 (by omega)
        rcases ifc h with ⟨d, h⟩ | ⟨d, h⟩
        · have ng := Yn_0 g d
          refine i0 v3 (v4 + 1) r (by omega) (by omega) ?_ h
          rcases hv with hv | ⟨k, k1, k2, k3⟩
          · refine Or.inl ⟨hv.1, fun k hk2 => ?_⟩
            by_cases ek : (k : Int) = v4.toInt
            · rw [show k = v4.toInt.toNat from by omega]; exact fun q => ng q.symm
            · exact hv.2 k (by omega)
          · exact Or.inr ⟨k, k1, by omega, k3⟩
        · refine i0 v4 (v4 + 1) r (by omega) (by omega) (Or.inr ⟨v4.toInt.toNat, by omega, by omega, (Yn_1 g d).symm⟩) h
    · intro v3 v4 r h0 h1 hv h
      rcases ifc h with ⟨c, h⟩ | ⟨c, h⟩
      · have c := c_le c
        rw [← Option.some.inj h]
        rw [show v4.toInt.toNat = t from by omega] at hv; exact hv
      · have c := c_nle c
        have vi : v4.toNatClampNeg = v4.toInt.toNat := by have := tn_n v4; omega
        obtain ⟨⟨u1, u2, u3⟩, u4, u5⟩ := hT v4.toInt.toNat (by omega)
        have w7 := u4.2.1
        have w2 := u4.1
        have m6 : (6 * v4).toInt = 6 * v4.toInt := by rw [Int32.toInt_mul, i_bm (by rw [show (6 : Int32).toInt = 6 from rfl]; omega) (by rw [show (6 : Int32).toInt = 6 from rfl]; omega)]; rfl
        have h := (ifn h).2
        rw [vi] at h
        have m7 : (6 * v4 + o.2.1 19 v4.toInt.toNat).toInt = 6 * v4.toInt + (nW sg n (tL v4.toInt.toNat) : Int) - 1 := by rw [Int32.toInt_add, m6, i_bm (by omega) (by omega)]; omega
        have m8 : (6 * v4 + o.2.1 19 v4.toInt.toNat - 1).toInt = 6 * v4.toInt + (nW sg n (tL v4.toInt.toNat) : Int) - 2 := by rw [Int32.toInt_sub, m7, i_bm (by rw [show (1 : Int32).toInt = 1 from rfl]; omega) (by rw [show (1 : Int32).toInt = 1 from rfl]; omega), show (1 : Int32).toInt = 1 from rfl]; omega
        have mi : (6 * v4 + o.2.1 19 v4.toInt.toNat - 1).toNatClampNeg = 6 * v4.toInt.toNat + (nW sg n (tL v4.toInt.toNat) - 2) := by have := tn_n (6 * v4 + o.2.1 19 v4.toInt.toNat - 1); omega
        have h := (ifn h).2
        have h := (ifn h).2
        obtain ⟨q, g, h⟩ := bd h
        rw [mi] at g
        have w := u3 (nW sg n (tL v4.toInt.toNat) - 2) (by omega)
        rw [show nW sg n (tL v4.toInt.toNat) - 2 + 1 = nW sg n (tL v4.toInt.toNat) - 1 from by omega] at w
        have bw : (o.2.1 21 (6 * v4.toInt.toNat + (nW sg n (tL v4.toInt.toNat) - 2))).toInt ≤ 1600 := h21 _
        have g := alike_sp hs a0 b1 (by rw [w.1]; exact wf_0) bw hN (by rw [w.1, w.2]; exact u4.2.2.1 _ (by omega) (by omega)) l1 (by rw [w.1, w.2]; exact u5 _ (by omega) (by omega)) g
        rw [w.1, w.2] at g
        have g : Yn q (pk sg v1.toInt.toNat (v2.toInt - v1.toInt).toNat = lsK sg n (tL v4.toInt.toNat)) := g
        have e4 := p_1 (v := v4) h0 (by omega)
        have en : (v4 + 1).toInt.toNat = v4.toInt.toNat + 1 := by omega
        rcases ifc h with ⟨d, h⟩ | ⟨d, h⟩
        · have ng := Yn_0 g d
          refine i1 v3 (v4 + 1) r (by omega) (by omega) ?_ h
          rw [en]
          rcases hv with hv | hv | ⟨j, j1, j2, j3⟩
          · refine Or.inl ⟨hv.1, ?_⟩
            rintro (q | ⟨j, j1, j2⟩)
            · exact hv.2 (Or.inl q)
            · by_cases ej : j = v4.toInt.toNat
              · rw [ej] at j2; exact ng j2.symm
              · exact hv.2 (Or.inr ⟨j, by omega, j2⟩)
          · exact Or.inr (Or.inl hv)
          · exact Or.inr (Or.inr ⟨j, j1, by omega, j3⟩)
        · have e8 : (8 + v4).toInt = 8 + v4.toInt := by rw [Int32.toInt_add, i_bm (by rw [show (8 : Int32).toInt = 8 from rfl]; omega) (by rw [show (8 : Int32).toInt = 8 from rfl]; omega)]; rfl
          refine i1 (8 + v4) (v4 + 1) r (by omega) (by omega) ?_ h
          rw [en]
          exact Or.inr (Or.inr ⟨v4.toInt.toNat, by omega, by omega, (Yn_1 g d).symm⟩)
