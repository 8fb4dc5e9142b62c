noncomputable def nW (sg : Nat → Int32) (n m : Nat) : Nat := Classical.epsilon (fun k => Wn sg n m k)
theorem nW_e {sg : Nat → Int32} {n m k : Nat} (h : Wn sg n m k) : nW sg n m = k := Wn_u (Classical.epsilon_spec (p := fun k => Wn sg n m k) ⟨k, h⟩) h
def keyq (sg : Nat → Int32) (n m i : Nat) : Nat := pk sg (wf sg n m i).toNat (wt sg n m i - wf sg n m i).toNat
def isWd (sg : Nat → Int32) (n m : Nat) (l : List Int) : Prop := Wdq sg (wf sg n m 0) (wt sg n m 0) l
def nmO (sg : Nat → Int32) (n m i : Nat) : Prop := Nm sg (wf sg n m i) (wt sg n m i) ∧ wf sg n m i < wt sg n m i
def Nms (sg : Nat → Int32) (n m most : Nat) : Prop := 2 ≤ nW sg n m ∧ nW sg n m ≤ most + 1 ∧ (∀ i : Nat, 1 ≤ i → i < nW sg n m → Nm sg (wf sg n m i) (wt sg n m i)) ∧ Wn sg n m (nW sg n m)
def Twi (sg : Nat → Int32) (n m : Nat) : Prop := ∃ a b : Nat, 1 ≤ b ∧ b < a ∧ a < nW sg n m ∧ keyq sg n m a = keyq sg n m b
noncomputable def lsK (sg : Nat → Int32) (n m : Nat) : Nat := keyq sg n m (nW sg n m - 1)
def gvn (sg : Nat → Int32) (n iL t : Nat) (tL : Nat → Nat) (x : Nat) : Prop := (∃ k : Nat, k + 1 < nW sg n iL ∧ keyq sg n iL (k + 1) = x) ∨ (∃ j : Nat, j < t ∧ lsK sg n (tL j) = x)
noncomputable def eS (sg : Nat → Int32) (n m : Nat) : Int := (sg (wf sg n m (nW sg n m - 1)).toNat).toInt
def aSg (x : Int) : Prop := x = 48 ∨ x = 49 ∨ x = 45
def rowOk (sg : Nat → Int32) (n m t : Nat) (tL rc : Nat → Nat) (rL : Nat → Nat → Nat) : Prop := 0 < t ∧ rc (t - 1) < 16 ∧ nW sg n m = (if nW sg n (tL (t - 1)) = 2 then 1 else 2) ∧ (wt sg n m (nW sg n m - 1) - wf sg n m (nW sg n m - 1) = 1 ∧ (eS sg n m = 48 ∨ eS sg n m = 49)) ∧ (nW sg n (tL (t - 1)) = 2 ∨ (wt sg n m 0 - wf sg n m 0 + 2 = (nW sg n (tL (t - 1)) : Int) ∧ ∀ k : Nat, k + 2 < nW sg n (tL (t - 1)) → aSg (sg ((wf sg n m 0).toNat + k)).toInt)) ∧ (rc (t - 1) = 0 ∨ eS sg n m = eS sg n (rL (t - 1) 0))
abbrev NSq : Type := Int × Int × Nat × Nat × Nat × Nat × (Nat → Nat) × (Nat → Nat) × (Nat → Nat → Nat)
abbrev NXq : Type := Nat × Nat × Nat × Nat × (Nat → Nat) × (Nat → Nat) × (Nat → Nat → Nat)
def wInp : List Int := [46, 105, 110, 112, 117, 116, 115]
def wOut : List Int := [46, 111, 117, 116, 112, 117, 116, 115]
def wNam : List Int := [46, 110, 97, 109, 101, 115]
noncomputable def ns0q (sg : Nat → Int32) (n m : Nat) (x : NXq) : NSq := cif (isWd sg n m wInp ∧ Nms sg n m 8) (cif (Twi sg n m) (2, (m : Int), x) (0, -1, 1, m, x.2.2)) (1, (m : Int), x)
noncomputable def ns1 (sg : Nat → Int32) (n m : Nat) (x : NXq) : NSq := cif (isWd sg n m wOut ∧ Nms sg n m 6) (cif (Twi sg n m) (2, (m : Int), x) (0, -1, 2, x.2.1, m, x.2.2.2)) (1, (m : Int), x)
noncomputable def nsT (sg : Nat → Int32) (n m : Nat) (x : NXq) : NSq := cif (Nms sg n m 6 ∧ x.2.2.2.1 < 30) (cif (gvn sg n x.2.1 x.2.2.2.1 x.2.2.2.2.1 (lsK sg n m)) (2, (m : Int), x) (0, -1, 2, x.2.1, x.2.2.1, x.2.2.2.1 + 1, (fun i => if i = x.2.2.2.1 then m else x.2.2.2.2.1 i), (fun i => if i = x.2.2.2.1 then 0 else x.2.2.2.2.2.1 i), x.2.2.2.2.2.2)) (1, (m : Int), x)
noncomputable def nsR (sg : Nat → Int32) (n m : Nat) (x : NXq) : NSq := cif (rowOk sg n m x.2.2.2.1 x.2.2.2.2.1 x.2.2.2.2.2.1 x.2.2.2.2.2.2) (0, -1, 2, x.2.1, x.2.2.1, x.2.2.2.1, x.2.2.2.2.1, (fun i => if i = x.2.2.2.1 - 1 then x.2.2.2.2.2.1 i + 1 else x.2.2.2.2.2.1 i), (fun i r => if i = x.2.2.2.1 - 1 ∧ r = x.2.2.2.2.2.1 i then m else x.2.2.2.2.2.2 i r)) (1, (m : Int), x)
noncomputable def ns2 (sg : Nat → Int32) (n m : Nat) (x : NXq) : NSq := cif (isEnd sg n m) (cif (nW sg n m = 1) (0, -1, 3, x.2) (1, (m : Int), x)) (cif (isWd sg n m wNam) (nsT sg n m x) (nsR sg n m x))
noncomputable def nstep (sg : Nat → Int32) (n m : Nat) (s : NSq) : NSq := cif (Bl sg n m) s (if s.2.2.1 = 0 then ns0q sg n m s.2.2 else if s.2.2.1 = 1 then ns1 sg n m s.2.2 else if s.2.2.1 = 2 then ns2 sg n m s.2.2 else (1, (m : Int), s.2.2))
noncomputable def NRq (sg : Nat → Int32) (n : Nat) : Nat → NSq
  | 0 => (0, -1, 0, 0, 0, 0, (fun _ => 0), (fun _ => 0), (fun _ _ => 0))
  | m + 1 => cif ((NRq sg n m).1 = 0) (nstep sg n m (NRq sg n m)) (NRq sg n m)
theorem NR_s {sg : Nat → Int32} {n m : Nat} (h : (NRq sg n m).1 = 0) : NRq sg n (m + 1) = nstep sg n m (NRq sg n m) := cif_t h
theorem NR_b {sg : Nat → Int32} {n m : Nat} (h : Bl sg n m) : NRq sg n (m + 1) = NRq sg n m := by
  by_cases e : (NRq sg n m).1 = 0
  · rw [NR_s e]; exact cif_t h
  · exact cif_f e
theorem NR_f {sg : Nat → Int32} {n : Nat} : ∀ {m k : Nat}, ¬ (NRq sg n m).1 = 0 → NRq sg n (m + k) = NRq sg n m
  | m, 0, h => rfl
  | m, k + 1, h => by
    have q := NR_f (m := m) (k := k) h
    show cif ((NRq sg n (m + k)).1 = 0) _ (NRq sg n (m + k)) = _
    rw [cif_f (by rw [q]; exact h), q]
theorem NR_bs {sg : Nat → Int32} {n : Nat} {a : Nat} : ∀ {k : Nat}, (∀ j : Nat, a ≤ j → j < a + k → Bl sg n j) → NRq sg n (a + k) = NRq sg n a
  | 0, _ => rfl
  | k + 1, h => by
    rw [show a + (k + 1) = (a + k) + 1 from rfl, NR_b (h (a + k) (by omega) (by omega))]
    exact NR_bs (fun j h1 h2 => h j h1 (by omega))
theorem NR_t {sg : Nat → Int32} {n m : Nat} {s2 : Int} {x : NXq} (h : NRq sg n m = (0, s2, x)) : NRq sg n (m + 1) = nstep sg n m (0, s2, x) := by
  rw [NR_s (by rw [h]), h]
def NAns (sg : Nat → Int32) (n : Nat) (kind line : Int) (x : NXq) : Prop := ∃ M : Nat, n < LPq sg n M ∧ (∀ j : Nat, j < M → LPq sg n j ≤ n) ∧
  ((¬ (NRq sg n M).1 = 0 ∧ kind = (NRq sg n M).1 ∧ line = (NRq sg n M).2.1) ∨ ((NRq sg n M).1 = 0 ∧ (NRq sg n M).2.2.1 = 3 ∧ kind = 0 ∧ x = (NRq sg n M).2.2) ∨ ((NRq sg n M).1 = 0 ∧ ¬ (NRq sg n M).2.2.1 = 3 ∧ kind = 1 ∧ line = (M : Int)))
theorem NAns_u {sg : Nat → Int32} {n : Nat} {k l k2 l2 : Int} {x x2 : NXq} (h : NAns sg n k l x) (g : NAns sg n k2 l2 x2) : k = k2 ∧ (¬ k = 0 → l = l2) ∧ (k = 0 → x = x2) := by
  obtain ⟨M, h1, h2, h⟩ := h
  obtain ⟨N, g1, g2, g⟩ := g
  have e := LAns_M h1 h2 g1 g2
  subst e
  rcases h with ⟨a1, a2, a3⟩ | ⟨a1, a2, a3, a4⟩ | ⟨a1, a2, a3, a4⟩
  · rcases g with ⟨b1, b2, b3⟩ | ⟨b1, b2, b3, b4⟩ | ⟨b1, b2, b3, b4⟩
    · exact ⟨by rw [a2, b2], fun _ => by rw [a3, b3], fun z => absurd (a2 ▸ z) a1⟩
    · exact absurd b1 a1
    · exact absurd b1 a1
  · rcases g with ⟨b1, b2, b3⟩ | ⟨b1, b2, b3, b4⟩ | ⟨b1, b2, b3, b4⟩
    · exact absurd a1 b1
    · exact ⟨by rw [a3, b3], fun z => absurd a3 z, fun _ => by rw [a4, b4]⟩
    · exact absurd a2 b2
  · rcases g with ⟨b1, b2, b3⟩ | ⟨b1, b2, b3, b4⟩ | ⟨b1, b2, b3, b4⟩
    · exact absurd a1 b1
    · exact absurd b2 a2
    · exact ⟨by rw [a3, b3], fun _ => by rw [a4, b4], fun z => by rw [a3] at z; cases z⟩
theorem NAns_g {sg : Nat → Int32} {n a : Nat} {k l : Int} {x x2 : NXq} (ha : LPq sg n a ≤ n) (h : NRq sg n (a + 1) = (k, l, x2)) (hk : ¬ k = 0) : NAns sg n k l x := by
  obtain ⟨M, h1, h2⟩ := LM_ex (sg := sg) (n := n)
  have l' : a < M := by
    rcases Nat.lt_or_ge a M with q | q
    · exact q
    · have := LP_m (sg := sg) (n := n) (i := M) (k := a - M)
      rw [show M + (a - M) = a from by omega] at this
      omega
  have e : NRq sg n M = NRq sg n (a + 1) := by
    have := NR_f (k := M - (a + 1)) (show ¬ (NRq sg n (a + 1)).1 = 0 by rw [h]; exact hk)
    rw [show a + 1 + (M - (a + 1)) = M from by omega] at this
    exact this
  exact ⟨M, h1, h2, Or.inl (by rw [e, h]; exact ⟨hk, rfl, rfl⟩)⟩
theorem NAns_e {sg : Nat → Int32} {n M : Nat} {l s2 : Int} {x : NXq} (h1 : n < LPq sg n M) (h2 : ∀ j : Nat, j < M → LPq sg n j ≤ n) (h : NRq sg n M = (0, s2, x)) (he : x.1 = 3) : NAns sg n 0 l x := ⟨M, h1, h2, Or.inr (Or.inl (by rw [h]; exact ⟨rfl, he, rfl, rfl⟩))⟩
theorem NAns_n {sg : Nat → Int32} {n M : Nat} {s2 : Int} {x x2 : NXq} (h1 : n < LPq sg n M) (h2 : ∀ j : Nat, j < M → LPq sg n j ≤ n) (h : NRq sg n M = (0, s2, x)) (he : ¬ x.1 = 3) : NAns sg n 1 (M : Int) x2 := ⟨M, h1, h2, Or.inr (Or.inr (by rw [h]; exact ⟨rfl, he, rfl, rfl⟩))⟩
theorem nt_b {sg : Nat → Int32} {n m : Nat} {s : NSq} (h : Bl sg n m) : nstep sg n m s = s := cif_t h
theorem nt_0 {sg : Nat → Int32} {n m : Nat} {k l : Int} {y : Nat × Nat × Nat × (Nat → Nat) × (Nat → Nat) × (Nat → Nat → Nat)} (h : ¬ Bl sg n m) : nstep sg n m (k, l, 0, y) = ns0q sg n m (0, y) := by
  unfold nstep; rw [cif_f h]; rfl
theorem nt_1 {sg : Nat → Int32} {n m : Nat} {k l : Int} {y : Nat × Nat × Nat × (Nat → Nat) × (Nat → Nat) × (Nat → Nat → Nat)} (h : ¬ Bl sg n m) : nstep sg n m (k, l, 1, y) = ns1 sg n m (1, y) := by
  unfold nstep; rw [cif_f h]; rfl
theorem nt_2 {sg : Nat → Int32} {n m : Nat} {k l : Int} {y : Nat × Nat × Nat × (Nat → Nat) × (Nat → Nat) × (Nat → Nat → Nat)} (h : ¬ Bl sg n m) : nstep sg n m (k, l, 2, y) = ns2 sg n m (2, y) := by
  unfold nstep; rw [cif_f h]; rfl
theorem nt_3 {sg : Nat → Int32} {n m : Nat} {k l : Int} {y : Nat × Nat × Nat × (Nat → Nat) × (Nat → Nat) × (Nat → Nat → Nat)} (h : ¬ Bl sg n m) : nstep sg n m (k, l, 3, y) = (1, (m : Int), 3, y) := by
  unfold nstep; rw [cif_f h]; rfl
theorem pk_e {sg : Nat → Int32} {f t f2 t2 : Int} (h : Nm sg f t) (h2 : Nm sg f2 t2) (hf : f < t) (hf2 : f2 < t2) : pk sg f.toNat (t - f).toNat = pk sg f2.toNat (t2 - f2).toNat ↔ (t - f = t2 - f2 ∧ ∀ k : Nat, (k : Int) < t - f → sg (f.toNat + k) = sg (f2.toNat + k)) := by
  constructor
  · intro e
    have q := pk_i (fun k hk => h.2 k (by omega)) (fun k hk => h2.2 k (by omega)) e
    exact ⟨by omega, fun k hk => q.2 k (by omega)⟩
  · intro q
    have ke : ∀ j : Nat, (j : Int) ≤ t - f → pk sg f.toNat j = pk sg f2.toNat j := by
      intro j
      induction j with
      | zero => exact fun _ => rfl
      | succ j ih =>
        intro hj
        show pk sg f.toNat j * 256 + (sg (f.toNat + j)).toInt.toNat = pk sg f2.toNat j * 256 + (sg (f2.toNat + j)).toInt.toNat
        rw [ih (by omega), q.2 j (by omega)]
    rw [ke _ (by omega), q.1]
theorem alike_go {sg : Nat → Int32} : ∀ (fuel : Nat) (v1 v2 v3 v5 v6 : Int32) (L : Prop) (o : cf_O) (r : Int32), o.2.1 1 = sg → 0 ≤ v1.toInt → v1.toInt ≤ 1600 → 0 ≤ v2.toInt → v2.toInt ≤ 1600 → 0 ≤ v3.toInt → v3.toInt ≤ 1600 → v1.toInt ≤ v2.toInt → 0 ≤ v6.toInt → v6.toInt ≤ v2.toInt - v1.toInt → Yn v5 (L ∧ ∀ k : Nat, (k : Int) < v6.toInt → sg (v1.toInt.toNat + k) = sg (v3.toInt.toNat + k)) → gM_alike fuel 0 v1 v2 v3 v5 v6 o = some r → Yn r (L ∧ ∀ k : Nat, (k : Int) < v2.toInt - v1.toInt → sg (v1.toInt.toNat + k) = sg (v3.toInt.toNat + k))
  | 0, v1, v2, v3, v5, v6, L, o, r, hs, a0, a1, b0, b1, c0, c1, ab, h0, h1, hv, h => by cases h
  | fuel + 1, v1, v2, v3, v5, v6, L, o, r, hs, a0, a1, b0, b1, c0, c1, ab, h0, h1, hv, h => by
    have es : (v2 - v1).toInt = v2.toInt - v1.toInt := i_sub' b0 b1 a0 a1
    rcases ifc h with ⟨c, h⟩ | ⟨c, h⟩
    · have c := c_le c
      rw [b01_sp h]
      rw [show v6.toInt = v2.toInt - v1.toInt from by omega] at hv; exact hv
    · have c := c_nle c
      rcases ifc h with ⟨d, h⟩ | ⟨d, h⟩
      · rw [b01_sp h]
        refine Or.inr ⟨d, fun z => Yn_0 hv d ⟨z.1, fun k hk => z.2 k (by omega)⟩⟩
      · have h := (ifn h).2
        have h := (ifn h).2
        have z := Yn_1 hv d
        have e6 := p_1 (v := v6) h0 (by omega)
        have p1 := pl_k (f := v1) (k := v6) a0 a1 h0 (by omega)
        have p3 := pl_k (f := v3) (k := v6) c0 c1 h0 (by omega)
        rw [hs, p1, p3] at h
        rcases ifc h with ⟨e, h⟩ | ⟨e, h⟩
        · refine alike_go fuel v1 v2 v3 1 (v6 + 1) L o r hs a0 a1 b0 b1 c0 c1 ab (by omega) (by omega) (Or.inl ⟨rfl, z.1, fun k hk => ?_⟩) h
          by_cases ek : (k : Int) = v6.toInt
          · rw [show k = v6.toInt.toNat from by omega]; exact e
          · exact z.2 k (by omega)
        · refine alike_go fuel v1 v2 v3 0 (v6 + 1) L o r hs a0 a1 b0 b1 c0 c1 ab (by omega) (by omega) (Or.inr ⟨rfl, fun q => e (q.2 _ (by omega))⟩) h
theorem alike_sp {sg : Nat → Int32} {v1 v2 v3 v4 r : Int32} {o : cf_O} (hs : o.2.1 1 = sg) (a0 : 0 ≤ v1.toInt) (b1 : v2.toInt ≤ 1600) (c0 : 0 ≤ v3.toInt) (d1 : v4.toInt ≤ 1600) (h1 : Nm sg v1.toInt v2.toInt) (h2 : Nm sg v3.toInt v4.toInt) (l1 : v1.toInt < v2.toInt) (l2 : v3.toInt < v4.toInt) (h : fM_alike v1 v2 v3 v4 o = some r) : Yn r (pk sg v1.toInt.toNat (v2.toInt - v1.toInt).toNat = pk sg v3.toInt.toNat (v4.toInt - v3.toInt).toNat) := by
  refine Yn_i ?_ (pk_e h1 h2 l1 l2).symm
  have e1 : (v2 - v1).toInt = v2.toInt - v1.toInt := i_sub' (by omega) b1 a0 (by omega)
  have e2 : (v4 - v3).toInt = v4.toInt - v3.toInt := i_sub' (by omega) d1 c0 (by omega)
  have z0 : (0 : Int32).toInt = 0 := rfl
  rcases ifc h with ⟨c, h⟩ | ⟨c, h⟩
  · have c := c_eq c
    exact alike_go cfFU v1 v2 v3 1 0 _ o r hs a0 (by omega) (by omega) b1 c0 (by omega) (by omega) (by decide) (by rw [z0]; omega) (Or.inl ⟨rfl, by omega, fun k hk => absurd hk (by rw [z0]; omega)⟩) h
  · have c := c_ne c
    exact alike_go cfFU v1 v2 v3 0 0 _ o r hs a0 (by omega) (by omega) b1 c0 (by omega) (by omega) (by decide) (by rw [z0]; omega) (Or.inr ⟨rfl, fun q => c (by have := q.1; omega)⟩) h
theorem areNames_go {sg : Nat → Int32} {n : Int} {m : Nat} : ∀ (fuel : Nat) (v2 v3 : Int32) (P : Prop) (o : cf_O) (r : Int32), okO I_M o → o.2.1 1 = sg → TK sg n (LPq sg n.toNat m) (o.1 7).toInt (o.2.1 8) (o.2.1 9) → 1 ≤ v3.toInt → v3.toInt ≤ max 1 (o.1 7).toInt → (Yn v2 (P ∧ ∀ i : Nat, 1 ≤ i → (i : Int) < v3.toInt → Nm sg (wf sg n.toNat m i) (wt sg n.toNat m i))) → gM_areNames fuel 0 v2 v3 o = some r → Yn r (P ∧ ∀ i : Nat, 1 ≤ i → (i : Int) < (o.1 7).toInt → Nm sg (wf sg n.toNat m i) (wt sg n.toNat m i))
  | 0, v2, v3, P, o, r, ho, hs, hT, h0, h1, hv, h => by cases h
  | fuel + 1, v2, v3, P, o, r, ho, hs, hT, h0, h1, hv, h => by
    have b7 : (0 : Int) ≤ (o.1 7).toInt ∧ (o.1 7).toInt ≤ 801 := ho.1 7
    rcases ifc h with ⟨c, h⟩ | ⟨c, h⟩
    · have c := c_le c
      rw [b01_sp h]
      refine Yn_i hv ⟨fun z => ⟨z.1, fun i i1 i2 => z.2 i i1 (by omega)⟩, fun z => ⟨z.1, fun i i1 i2 => z.2 i i1 (by omega)⟩⟩
    · have c := c_nle c
      rcases ifc h with ⟨d, h⟩ | ⟨d, h⟩
      · rw [b01_sp h]
        exact Or.inr ⟨d, fun z => Yn_0 hv d ⟨z.1, fun i i1 i2 => z.2 i i1 (by omega)⟩⟩
      · obtain ⟨q, g, h⟩ := bd h
        have vi : v3.toNatClampNeg = v3.toInt.toNat := by have := tn_n v3; omega
        have w := Tw hT (i := v3.toInt.toNat) (by omega)
        have g : Yn q (Nm sg (wf sg n.toNat m v3.toInt.toNat) (wt sg n.toNat m v3.toInt.toNat)) := by
          have z := isName_sp ho (by rw [vi, w.1, w.2.1]; exact w.2.2) g
          rw [vi, hs, w.1, w.2.1] at z; exact z
        have e3 := p_1 (v := v3) (by omega) (by omega)
        have z := Yn_1 hv d
        refine areNames_go fuel q (v3 + 1) P o r ho hs hT (by omega) (by omega) (Yn_i g ⟨fun y => ⟨z.1, fun i i1 i2 => ?_⟩, fun y => y.2 _ (by omega) (by omega)⟩) h
        by_cases ei : (i : Int) = v3.toInt
        · rw [show i = v3.toInt.toNat from by omega]; exact y
        · exact z.2 i i1 (by omega)
theorem areNames_sp {sg : Nat → Int32} {n : Int} {m : Nat} {v1 r : Int32} {o : cf_O} {most : Nat} (ho : okO I_M o) (hs : o.2.1 1 = sg) (hT : TK sg n (LPq sg n.toNat m) (o.1 7).toInt (o.2.1 8) (o.2.1 9)) (h7 : 0 < (o.1 7).toInt) (e1 : v1.toInt = (most : Int)) (h : fM_areNames v1 o = some r) : Yn r (Nms sg n.toNat m most) := by
  have b7 : (0 : Int) ≤ (o.1 7).toInt ∧ (o.1 7).toInt ≤ 801 := ho.1 7
  have ew := nW_e (Tn_w hT (by omega))
  obtain ⟨q, g, h⟩ := bd h
  have g := in_sp g
  have es : ((o.1 7) - 1).toInt = (o.1 7).toInt - 1 := i_sub' b7.1 (by omega) (by decide) (by decide)
  rw [es, e1, show (1 : Int32).toInt = 1 from rfl] at g
  have z := areNames_go (n := n) (m := m) cfFU q 1 (2 ≤ nW sg n.toNat m ∧ nW sg n.toNat m ≤ most + 1) o r ho hs hT (by decide) (by rw [show (1 : Int32).toInt = 1 from rfl]; omega) (Yn_i g ⟨fun y => ⟨by omega, fun i i1 i2 => absurd i2 (by rw [show (1 : Int32).toInt = 1 from rfl]; omega)⟩, fun y => by have := y.1; omega⟩) h
  have wn : Wn sg n.toNat m (nW sg n.toNat m) := by rw [ew]; exact Tn_w hT (by omega)
  refine Yn_i z ⟨fun y => ⟨y.1.1, y.1.2, fun i i1 i2 => y.2 i i1 (by omega), wn⟩, fun y => ⟨⟨y.1, y.2.1⟩, fun i i1 i2 => y.2.2.1 i i1 (by omega)⟩⟩
theorem hasTwice_go {sg : Nat → Int32} {n : Int} {m : Nat} {o : cf_O} (ho : okO I_M o) (hs : o.2.1 1 = sg) (hT : TK sg n (LPq sg n.toNat m) (o.1 7).toInt (o.2.1 8) (o.2.1 9)) (hN : ∀ i : Nat, 1 ≤ i → (i : Int) < (o.1 7).toInt → Nm sg (wf sg n.toNat m i) (wt sg n.toNat m i)) : ∀ fuel : Nat,
    (∀ (v1 v2 : Int32) (r : Int32), 1 ≤ v2.toInt → v2.toInt ≤ max 1 (o.1 7).toInt → Yn v1 (∃ a b : Nat, 1 ≤ b ∧ b < a ∧ (a : Int) < v2.toInt ∧ keyq sg n.toNat m a = keyq sg n.toNat m b) → gM_hasTwice fuel 0 v1 v2 0 o = some r → Yn r (∃ a b : Nat, 1 ≤ b ∧ b < a ∧ (a : Int) < (o.1 7).toInt ∧ keyq sg n.toNat m a = keyq sg n.toNat m b)) ∧
    (∀ (v1 v2 v3 : Int32) (r : Int32), 1 ≤ v2.toInt → v2.toInt < (o.1 7).toInt → 1 ≤ v3.toInt → v3.toInt ≤ v2.toInt → Yn v1 ((∃ a b : Nat, 1 ≤ b ∧ b < a ∧ (a : Int) < v2.toInt ∧ keyq sg n.toNat m a = keyq sg n.toNat m b) ∨ (∃ b : Nat, 1 ≤ b ∧ (b : Int) < v3.toInt ∧ keyq sg n.toNat m v2.toInt.toNat = keyq sg n.toNat m b)) → gM_hasTwice fuel 1 v1 v2 v3 o = some r → Yn r (∃ a b : Nat, 1 ≤ b ∧ b < a ∧ (a : Int) < (o.1 7).toInt ∧ keyq sg n.toNat m a = keyq sg n.toNat m b))
  | 0 => ⟨fun _ _ _ _ _ _ h => (by cases h), fun _ _ _ _ _ _ _ _ _ h => (by cases h)⟩
  | fuel + 1 => by
    obtain ⟨i0, i1⟩ := hasTwice_go ho hs hT hN fuel
    have b7 : (0 : Int) ≤ (o.1 7).toInt ∧ (o.1 7).toInt ≤ 801 := ho.1 7
    refine ⟨?_, ?_⟩
    · intro v1 v2 r h0 h1 hv h
      rcases ifc h with ⟨c, h⟩ | ⟨c, h⟩
      · have c := c_le c
        rw [b01_sp h]
        exact Yn_i hv ⟨fun ⟨a, b, q⟩ => ⟨a, b, q.1, q.2.1, by omega, q.2.2.2⟩, fun ⟨a, b, q⟩ => ⟨a, b, q.1, q.2.1, by omega, q.2.2.2⟩⟩
      · have c := c_nle c
        refine i1 v1 v2 1 r h0 (by omega) (by decide) (by rw [show (1 : Int32).toInt = 1 from rfl]; omega) (Yn_i hv ⟨Or.inl, fun q => ?_⟩) h
        rcases q with q | ⟨b, q1, q2, _⟩
        · exact q
        · rw [show (1 : Int32).toInt = 1 from rfl] at q2; omega
    · intro v1 v2 v3 r h0 h1 h2 h3 hv h
      have e2 := p_1 (v := v2) (by omega) (by omega)
      rcases ifc h with ⟨c, h⟩ | ⟨c, h⟩
      · have c := c_le c
        refine i0 v1 (v2 + 1) r (by omega) (by omega) (Yn_i hv ⟨fun q => ?_, fun ⟨a, b, q⟩ => ?_⟩) h
        · rcases q with ⟨a, b, q⟩ | ⟨b, q⟩
          · exact ⟨a, b, q.1, q.2.1, by omega, q.2.2.2⟩
          · exact ⟨v2.toInt.toNat, b, q.1, by omega, by omega, q.2.2⟩
        · by_cases ea : (a : Int) = v2.toInt
          · refine Or.inr ⟨b, q.1, by omega, ?_⟩
            rw [show v2.toInt.toNat = a from by omega]; exact q.2.2.2
          · exact Or.inl ⟨a, b, q.1, q.2.1, by omega, q.2.2.2⟩
      · have c := c_nle c
        have e3 := p_1 (v := v3) (by omega) (by omega)
        have ye : ((∃ a b : Nat, 1 ≤ b ∧ b < a ∧ (a : Int) < v2.toInt ∧ keyq sg n.toNat m a = keyq sg n.toNat m b) ∨ (∃ b : Nat, 1 ≤ b ∧ (b : Int) < (v3 + 1).toInt ∧ keyq sg n.toNat m v2.toInt.toNat = keyq sg n.toNat m b)) → gM_hasTwice fuel 1 1 v2 (v3 + 1) o = some r → Yn r (∃ a b : Nat, 1 ≤ b ∧ b < a ∧ (a : Int) < (o.1 7).toInt ∧ keyq sg n.toNat m a = keyq sg n.toNat m b) := fun q h => i1 1 v2 (v3 + 1) r h0 h1 (by omega) (by omega) (Or.inl ⟨rfl, q⟩) h
        rcases ifc h with ⟨d, h⟩ | ⟨d, h⟩
        · have h := (ifn h).2
          have h := (ifn h).2
          have h := (ifn h).2
          have h := (ifn h).2
          obtain ⟨q, g, h⟩ := bd h
          have v2i : v2.toNatClampNeg = v2.toInt.toNat := by have := tn_n v2; omega
          have v3i : v3.toNatClampNeg = v3.toInt.toNat := by have := tn_n v3; omega
          rw [v2i, v3i] at g
          have w2 := Tw hT (i := v2.toInt.toNat) (by omega)
          have w3 := Tw hT (i := v3.toInt.toNat) (by omega)
          have b2 : (0 : Int) ≤ (o.2.1 9 v2.toInt.toNat).toInt ∧ (o.2.1 9 v2.toInt.toNat).toInt ≤ 1600 := ho.2 9 _
          have b3 : (0 : Int) ≤ (o.2.1 9 v3.toInt.toNat).toInt ∧ (o.2.1 9 v3.toInt.toNat).toInt ≤ 1600 := ho.2 9 _
          have c2 : (0 : Int) ≤ (o.2.1 8 v2.toInt.toNat).toInt ∧ (o.2.1 8 v2.toInt.toNat).toInt ≤ 1599 := ho.2 8 _
          have c3 : (0 : Int) ≤ (o.2.1 8 v3.toInt.toNat).toInt ∧ (o.2.1 8 v3.toInt.toNat).toInt ≤ 1599 := ho.2 8 _
          have g := alike_sp hs c2.1 b2.2 c3.1 b3.2 (by rw [w2.1, w2.2.1]; exact hN _ (by omega) (by omega)) (by rw [w3.1, w3.2.1]; exact hN _ (by omega) (by omega)) (by rw [w2.1, w2.2.1]; exact w2.2.2) (by rw [w3.1, w3.2.1]; exact w3.2.2) g
          rw [w2.1, w2.2.1, w3.1, w3.2.1] at g
          have g : Yn q (keyq sg n.toNat m v2.toInt.toNat = keyq sg n.toNat m v3.toInt.toNat) := g
          rcases ifc h with ⟨e, h⟩ | ⟨e, h⟩
          · refine i1 0 v2 (v3 + 1) r h0 h1 (by omega) (by omega) (Or.inr ⟨rfl, fun z => ?_⟩) h
            rcases z with z | ⟨b, z1, z2, z3⟩
            · exact Yn_0 hv d (Or.inl z)
            · by_cases eb : (b : Int) = v3.toInt
              · refine Yn_0 g e ?_
                rw [z3, show b = v3.toInt.toNat from by omega]
              · exact Yn_0 hv d (Or.inr ⟨b, z1, by omega, z3⟩)
          · exact ye (Or.inr ⟨v3.toInt.toNat, by omega, by omega, Yn_1 g e⟩) h
        · refine ye ?_ h
          rcases Yn_1 hv d with z | ⟨b, z1, z2, z3⟩
          · exact Or.inl z
          · exact Or.inr ⟨b, z1, by omega, z3⟩
theorem hasTwice_sp {sg : Nat → Int32} {n : Int} {m : Nat} {o : cf_O} {r : Int32} (ho : okO I_M o) (hs : o.2.1 1 = sg) (hT : TK sg n (LPq sg n.toNat m) (o.1 7).toInt (o.2.1 8) (o.2.1 9)) (h7 : 0 < (o.1 7).toInt) {most : Nat} (hN : Nms sg n.toNat m most) (h : fM_hasTwice o = some r) : Yn r (Twi sg n.toNat m) := by
  have ew := nW_e (Tn_w hT (by omega))
  have z := (hasTwice_go ho hs hT (fun i i1 i2 => hN.2.2.1 i i1 (by omega)) cfFU).1 0 1 r (by decide) (by rw [show (1 : Int32).toInt = 1 from rfl]; omega) (Or.inr ⟨rfl, fun ⟨a, b, q⟩ => by have q3 := q.2.2.1; rw [show (1 : Int32).toInt = 1 from rfl] at q3; omega⟩) h
  exact Yn_i z ⟨fun ⟨a, b, q⟩ => ⟨a, b, q.1, q.2.1, by omega, q.2.2.2⟩, fun ⟨a, b, q⟩ => ⟨a, b, q.1, q.2.1, by omega, q.2.2.2⟩⟩
