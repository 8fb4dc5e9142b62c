theorem bt_1o {x s : Int32} {u : Nat} (ex : x = (1 : Int32) <<< (s &&& 31)) (s0 : 0 ≤ s.toInt) (s9 : s.toInt ≤ 29) (h : bt x u = true) : u = s.toInt.toNat := by
  have t : ∀ i : Nat, i < 30 → ∀ v : Nat, v < 32 → bt ((1 : Int32) <<< (Int32.ofNat i &&& 31)) v = true → v = i := by decide +kernel
  have hu : u < 32 := by
    rcases Nat.lt_or_ge u 32 with q | q
    · exact q
    · exfalso
      unfold bt at h
      rw [Nat.testBit_lt_two_pow (Nat.lt_of_lt_of_le x.toBitVec.isLt (Nat.pow_le_pow_right (by decide) q))] at h
      cases h
  have z := t s.toInt.toNat (by omega) u hu
  rw [of_n s0] at z
  rw [ex] at h; exact z h
def SnC (E : Nat → Nat → Prop) (t c : Nat) (f : Nat → Int32) : Prop := ∀ a : Nat, a < c → ∀ u : Nat, bt (f a) u = true → Wp E t a u
theorem bt_0 {u : Nat} : bt 0 u = false := by
  show Nat.testBit 0 u = false
  exact Nat.zero_testBit u
theorem nn_l {x : Int32} (h : 0 ≤ x.toInt) : x.toBitVec.toNat < 2 ^ 31 := by
  have := Int32.toInt_lt x
  have := i_nn h
  omega
theorem nn_g {x : Int32} (h : x.toBitVec.toNat < 2 ^ 31) : 0 ≤ x.toInt := by
  have e : x.toInt = (x.toBitVec.toNat : Int) := BitVec.toInt_eq_toNat_of_lt (show 2 * x.toBitVec.toNat < 2 ^ 32 by omega)
  rw [e]; omega
theorem or_nn {x y : Int32} (hx : 0 ≤ x.toInt) (hy : 0 ≤ y.toInt) : 0 ≤ (x ||| y).toInt := by
  apply nn_g
  rw [Int32.toBitVec_or, BitVec.toNat_or]
  exact Nat.or_lt_two_pow (nn_l hx) (nn_l hy)
theorem one_nn : ∀ i : Nat, i < 30 → 0 ≤ ((1 : Int32) <<< (Int32.ofNat i &&& 31)).toInt := by decide +kernel
theorem fr_go {E : Nat → Nat → Prop} {t : Nat} {O : cf_O} {w : Nat → Nat} (t30 : t ≤ 30) (et : (O.1 6).toInt = (t : Int)) (w7 : ∀ a : Nat, a < t → 2 ≤ w a ∧ w a ≤ 7 ∧ (O.2.1 8 a).toInt + 2 = (w a : Int)) (hE : ∀ a b : Nat, a < t → (E a b ↔ ∃ k : Nat, k + 2 < w a ∧ (O.2.1 13 (6 * a + k)).toInt = 8 + (b : Int))) (hb : ∀ a k : Nat, a < t → k + 2 < w a → -1 ≤ (O.2.1 13 (6 * a + k)).toInt ∧ (O.2.1 13 (6 * a + k)).toInt < 8 + (t : Int)) : ∀ fuel : Nat,
    (∀ (v1 : Int32) (o r : cf_O), Fr (fr_M [] [15] []) O o → 0 ≤ v1.toInt → v1.toInt ≤ (t : Int) → SnC E t v1.toInt.toNat (o.2.1 15) → (∀ a : Nat, 0 ≤ (o.2.1 15 a).toInt) → gNl_findReached fuel 0 v1 0 o = some r → SnC E t t (r.2.1 15)) ∧
    (∀ (v1 v2 : Int32) (o r : cf_O) (c : Nat), Fr (fr_M [] [15] []) O o → 0 ≤ v1.toInt → v1.toInt < (t : Int) → v2.toInt = 6 * v1.toInt + (c : Int) → c + 2 ≤ w v1.toInt.toNat → SnC E t (v1.toInt.toNat + 1) (o.2.1 15) → (∀ a : Nat, 0 ≤ (o.2.1 15 a).toInt) → gNl_findReached fuel 1 v1 v2 o = some r → SnC E t t (r.2.1 15)) ∧
    (∀ (v1 : Int32) (o r : cf_O), Fr (fr_M [] [15] []) O o → 0 ≤ v1.toInt → v1.toInt ≤ (t : Int) → SnC E t t (o.2.1 15) → (∀ a : Nat, 0 ≤ (o.2.1 15 a).toInt) → gNl_findReached fuel 2 v1 0 o = some r → SnC E t t (r.2.1 15)) ∧
    (∀ (v1 v2 : Int32) (o r : cf_O), Fr (fr_M [] [15] []) O o → 0 ≤ v1.toInt → v1.toInt < (t : Int) → 0 ≤ v2.toInt → v2.toInt ≤ (t : Int) → SnC E t t (o.2.1 15) → (∀ a : Nat, 0 ≤ (o.2.1 15 a).toInt) → gNl_findReached fuel 3 v1 v2 o = some r → SnC E t t (r.2.1 15))
  | 0 => ⟨fun _ _ _ _ _ _ _ _ h => (by cases h), fun _ _ _ _ _ _ _ _ _ _ _ _ h => (by cases h), fun _ _ _ _ _ _ _ _ h => (by cases h), fun _ _ _ _ _ _ _ _ _ _ _ h => (by cases h)⟩
  | fuel + 1 => by
    obtain ⟨i0, i1, i2, i3⟩ := fr_go t30 et w7 hE hb fuel
    have z0 : (0 : Int32).toInt = 0 := rfl
    refine ⟨?_, ?_, ?_, ?_⟩
    · intro v1 o r rO h0 h1 hS hN h
      have e6 : (o.1 6).toInt = (t : Int) := by rw [rO.1 6 rfl]; exact et
      rcases ifc h with ⟨a, h⟩ | ⟨a, h⟩
      · have a := c_le a
        rw [show v1.toInt.toNat = t from by omega] at hS
        exact i2 0 o r rO (by decide) (by rw [z0]; omega) hS hN h
      · have a := c_nle a
        have vi : v1.toNatClampNeg = v1.toInt.toNat := by have := tn_n v1; omega
        have m6 : (v1 * 6).toInt = 6 * v1.toInt + ((0 : Nat) : Int) := by rw [Int32.toInt_mul, i_bm (by rw [show (6 : Int32).toInt = 6 from rfl]; omega) (by rw [show (6 : Int32).toInt = 6 from rfl]; omega), show (6 : Int32).toInt = 6 from rfl]; omega
        have W := w7 v1.toInt.toNat (by omega)
        have h := (ifn h).2
        refine i1 v1 (v1 * 6) _ r 0 (fr_xp rO rfl) h0 (by omega) m6 (by omega) (fun x hx u hu => ?_) (fun x => ?_) h
        · have hu : bt (upd (o.2.1 15) v1.toNatClampNeg 0 x) u = true := hu
          rw [vi] at hu
          by_cases ex : x = v1.toInt.toNat
          · rw [ex, up_s, bt_0] at hu; cases hu
          · rw [up_o ex] at hu; exact hS x (by omega) u hu
        · show 0 ≤ (upd (o.2.1 15) v1.toNatClampNeg 0 x).toInt
          by_cases ex : x = v1.toNatClampNeg
          · rw [ex, up_s]; decide
          · rw [up_o ex]; exact hN x
    · intro v1 v2 o r c rO h0 h1 e2 hc hS hN h
      obtain ⟨W1, W2, W3⟩ := w7 v1.toInt.toNat (by omega)
      have vi : v1.toNatClampNeg = v1.toInt.toNat := by have := tn_n v1; omega
      have v2i : v2.toNatClampNeg = 6 * v1.toInt.toNat + c := by have := tn_n v2; omega
      have m6 : (v1 * 6).toInt = 6 * v1.toInt := by rw [Int32.toInt_mul, i_bm (by rw [show (6 : Int32).toInt = 6 from rfl]; omega) (by rw [show (6 : Int32).toInt = 6 from rfl]; omega), show (6 : Int32).toInt = 6 from rfl]; omega
      have e1 := p_1 (v := v1) h0 (by omega)
      have h := (ifn h).2
      rw [vi, rO.2.1 8 rfl] at h
      have m7 : (v1 * 6 + O.2.1 8 v1.toInt.toNat).toInt = 6 * v1.toInt + (O.2.1 8 v1.toInt.toNat).toInt := by rw [Int32.toInt_add, m6, i_bm (by omega) (by omega)]
      rcases ifc h with ⟨a, h⟩ | ⟨a, h⟩
      · have a := c_le a
        refine i0 (v1 + 1) o r rO (by omega) (by omega) ?_ hN h
        rw [show (v1 + 1).toInt.toNat = v1.toInt.toNat + 1 from by omega]; exact hS
      · have a := c_nle a
        have e21 : (v2 + 1).toInt = v2.toInt + 1 := p_1 (by omega) (by omega)
        have h := (ifn h).2
        rw [v2i, rO.2.1 13 rfl] at h
        have bb := hb v1.toInt.toNat c (by omega) (by omega)
        rcases ifc h with ⟨d, h⟩ | ⟨d, h⟩
        · exact i1 v1 (v2 + 1) o r (c + 1) rO h0 h1 (by omega) (by omega) hS hN h
        · have d : 8 ≤ (O.2.1 13 (6 * v1.toInt.toNat + c)).toInt := c_nlt d
          have h := (ifn h).2
          have h := (ifn h).2
          have h := (ifn h).2
          have h : gNl_findReached fuel 1 v1 (v2 + 1) (xp o 15 v1.toInt.toNat (o.2.1 15 v1.toInt.toNat ||| ((1 : Int32) <<< ((O.2.1 13 (6 * v1.toInt.toNat + c) - 8) &&& 31)))) = some r := h
          have m8 : (O.2.1 13 (6 * v1.toInt.toNat + c) - 8).toInt = (O.2.1 13 (6 * v1.toInt.toNat + c)).toInt - 8 := by rw [Int32.toInt_sub, i_bm (by rw [show (8 : Int32).toInt = 8 from rfl]; omega) (by rw [show (8 : Int32).toInt = 8 from rfl]; omega)]; rfl
          have n1 : 0 ≤ ((1 : Int32) <<< ((O.2.1 13 (6 * v1.toInt.toNat + c) - 8) &&& 31)).toInt := by
            have z := one_nn (O.2.1 13 (6 * v1.toInt.toNat + c) - 8).toInt.toNat (by omega)
            rw [of_n (by omega)] at z; exact z
          refine i1 v1 (v2 + 1) _ r (c + 1) (fr_xp rO rfl) h0 h1 (by omega) (by omega) (fun x hx u hu => ?_) (fun x => ?_) h
          · have hu : bt (upd (o.2.1 15) v1.toInt.toNat (o.2.1 15 v1.toInt.toNat ||| ((1 : Int32) <<< ((O.2.1 13 (6 * v1.toInt.toNat + c) - 8) &&& 31))) x) u = true := hu
            by_cases ex : x = v1.toInt.toNat
            · rw [ex, up_s, bt_or] at hu
              rw [ex]
              cases hq : bt (o.2.1 15 v1.toInt.toNat) u with
              | true => exact hS _ (by omega) u hq
              | false =>
                rw [hq, Bool.false_or] at hu
                have eu := bt_1o rfl (by omega) (by omega) hu
                exact Wp_0 ((hE _ _ (by omega)).mpr ⟨c, by omega, by omega⟩)
            · rw [up_o ex] at hu; exact hS x hx u hu
          · show 0 ≤ (upd (o.2.1 15) v1.toInt.toNat (o.2.1 15 v1.toInt.toNat ||| ((1 : Int32) <<< ((O.2.1 13 (6 * v1.toInt.toNat + c) - 8) &&& 31))) x).toInt
            by_cases ex : x = v1.toInt.toNat
            · rw [ex, up_s]; exact or_nn (hN _) n1
            · rw [up_o ex]; exact hN x
    · intro v1 o r rO h0 h1 hS hN h
      have e6 : (o.1 6).toInt = (t : Int) := by rw [rO.1 6 rfl]; exact et
      rcases ifc h with ⟨a, h⟩ | ⟨a, h⟩
      · rw [← Option.some.inj h]; exact hS
      · have a := c_nle a
        exact i3 v1 0 o r rO h0 (by omega) (by decide) (by rw [z0]; omega) hS hN h
    · intro v1 v2 o r rO h0 h1 h2 h3 hS hN h
      have e6 : (o.1 6).toInt = (t : Int) := by rw [rO.1 6 rfl]; exact et
      have e1 := p_1 (v := v1) h0 (by omega)
      have e2 := p_1 (v := v2) h2 (by omega)
      rcases ifc h with ⟨a, h⟩ | ⟨a, h⟩
      · exact i2 (v1 + 1) o r rO (by omega) (by omega) hS hN h
      · have a := c_nle a
        have vi : v1.toNatClampNeg = v1.toInt.toNat := by have := tn_n v1; omega
        have v2i : v2.toNatClampNeg = v2.toInt.toNat := by have := tn_n v2; omega
        have h := (ifn h).2
        rw [v2i] at h
        have tb := bt_t (x := o.2.1 15 v2.toInt.toNat) (v := v1) rfl rfl (hN _) h0 (by omega)
        rcases ifc h with ⟨d, h⟩ | ⟨d, h⟩
        · exact i3 v1 (v2 + 1) o r rO h0 h1 (by omega) (by omega) hS hN h
        · have d := c_ne d
          have tb : bt (o.2.1 15 v2.toInt.toNat) v1.toInt.toNat = true := by
            rcases tb with q | q
            · exact absurd q.1 d
            · exact q.2
          have h := (ifn h).2
          have h := (ifn h).2
          have h := (ifn h).2
          have h : gNl_findReached fuel 3 v1 (v2 + 1) (xp o 15 v2.toNatClampNeg (o.2.1 15 v2.toNatClampNeg ||| o.2.1 15 v1.toNatClampNeg)) = some r := h
          rw [vi, v2i] at h
          refine i3 v1 (v2 + 1) _ r (fr_xp rO rfl) h0 h1 (by omega) (by omega) (fun x hx u hu => ?_) (fun x => ?_) h
          · have hu : bt (upd (o.2.1 15) v2.toInt.toNat (o.2.1 15 v2.toInt.toNat ||| o.2.1 15 v1.toInt.toNat) x) u = true := hu
            by_cases ex : x = v2.toInt.toNat
            · rw [ex, up_s, bt_or] at hu
              rw [ex]
              cases hq : bt (o.2.1 15 v2.toInt.toNat) u with
              | true => exact hS _ (by omega) u hq
              | false =>
                rw [hq, Bool.false_or] at hu
                exact Wp_t (c := v1.toInt.toNat) (by omega) (hS _ (by omega) _ tb) (hS _ (by omega) u hu)
            · rw [up_o ex] at hu; exact hS x hx u hu
          · show 0 ≤ (upd (o.2.1 15) v2.toInt.toNat (o.2.1 15 v2.toInt.toNat ||| o.2.1 15 v1.toInt.toNat) x).toInt
            by_cases ex : x = v2.toInt.toNat
            · rw [ex, up_s]; exact or_nn (hN _) (hN _)
            · rw [up_o ex]; exact hN x
theorem lor_go {E : Nat → Nat → Prop} {t : Nat} {tL : Nat → Nat} {O : cf_O} (t30 : t ≤ 30) (et : (O.1 6).toInt = (t : Int)) (h9 : ∀ a : Nat, a < t → (O.2.1 9 a).toInt = (tL a : Int)) (hB : ∀ a : Nat, a < t → (bt (O.2.1 15 a) a = true ↔ Wp E t a a)) (hN : ∀ a : Nat, 0 ≤ (O.2.1 15 a).toInt) : ∀ (fuel : Nat) (v1 : Int32) (r : Int32 × cf_O), 0 ≤ v1.toInt → v1.toInt ≤ (t : Int) → (∀ a : Nat, (a : Int) < v1.toInt → ¬ Wp E t a a) → gNl_lineOfRing fuel 0 v1 O = some r → R4c (fun a => Wp E t a a) tL t r.1.toInt ∧ r.2 = O
  | 0, v1, r, h0, h1, hz, h => by cases h
  | fuel + 1, v1, r, h0, h1, hz, h => by
    rcases ifc h with ⟨a, h⟩ | ⟨a, h⟩
    · have a := c_le a
      rw [← Option.some.inj h]
      exact ⟨Or.inr ⟨fun j hj => hz j (by omega), rfl⟩, rfl⟩
    · have a := c_nle a
      have e1 := p_1 (v := v1) h0 (by omega)
      have vi : v1.toNatClampNeg = v1.toInt.toNat := by have := tn_n v1; omega
      have h := (ifn h).2
      rw [vi] at h
      have tb := bt_t (x := O.2.1 15 v1.toInt.toNat) (v := v1) rfl rfl (hN _) h0 (by omega)
      have hb := hB v1.toInt.toNat (by omega)
      rcases ifc h with ⟨d, h⟩ | ⟨d, h⟩
      · have d := c_eq d
        refine lor_go t30 et h9 hB hN fuel (v1 + 1) r (by omega) (by omega) (fun x hx => ?_) h
        by_cases ex : (x : Int) = v1.toInt
        · rw [show x = v1.toInt.toNat from by omega]
          intro y
          rcases tb with q | q
          · rw [hb.mpr y] at q; cases q.2
          · exact q.1 d
        · exact hz x (by omega)
      · have d := c_ne d
        have h := (ifn h).2
        rw [← Option.some.inj h]
        refine ⟨Or.inl ⟨v1.toInt.toNat, by omega, ?_, fun i hi => hz i (by omega), h9 _ (by omega)⟩, rfl⟩
        rcases tb with q | q
        · exact absurd q.1 d
        · exact hb.mp q.2
theorem lor_sp {sg : Nat → Int32} {n : Nat} {x : NXq} {o : cf_O} {r : Int32 × cf_O} (ho : okO I_Nl o) (f2 : ((-1) : Int) ≤ (o.1 2).toInt ∧ (o.1 2).toInt ≤ (-1)) (K : KCx sg n o x) (P : PNx sg n x) (x3 : x.1 = 3) (G : ∀ j : Nat, j < x.2.2.2.1 → KGq sg n x.2.1 x.2.2.2.1 x.2.2.2.2.1 (o.2.1 13) j (nW sg n (x.2.2.2.2.1 j))) (h : fNl_lineOfRing o = some r) : R4c (fun a => Wp (Eg sg n x.2.2.2.1 x.2.2.2.2.1) x.2.2.2.1 a a) x.2.2.2.2.1 x.2.2.2.1 r.1.toInt ∧ Fr (fr_M [] [15] []) o r.2 := by
  obtain ⟨K0, K1, K2, K3, K4, K5⟩ := K
  have p3 := P.2.2.1
  have p5 := P.2.2.2.2
  obtain ⟨q, hq, h⟩ := bd h
  obtain ⟨q', e, Q⟩ := sNl_findReached o ho f2
  cases e.symm.trans hq
  obtain ⟨Q1, Q2, Q3, Q4, -⟩ := Q
  have hE : ∀ a b : Nat, a < x.2.2.2.1 → (Eg sg n x.2.2.2.1 x.2.2.2.2.1 a b ↔ ∃ k : Nat, k + 2 < nW sg n (x.2.2.2.2.1 a) ∧ (o.2.1 13 (6 * a + k)).toInt = 8 + (b : Int)) := fun a b ha => Eg_s P (by omega) (G a ha)
  have hb : ∀ a k : Nat, a < x.2.2.2.1 → k + 2 < nW sg n (x.2.2.2.2.1 a) → -1 ≤ (o.2.1 13 (6 * a + k)).toInt ∧ (o.2.1 13 (6 * a + k)).toInt < 8 + (x.2.2.2.1 : Int) := fun a k ha hk => GvR_b P (by omega) (G a ha k (by omega) hk)
  have S := (fr_go (E := Eg sg n x.2.2.2.1 x.2.2.2.2.1) p3 K4 (fun a ha => ⟨(p5 a ha).1.1, (p5 a ha).1.2.1, (K5 a ha).1.2.1⟩) hE hb cfFU).1 0 o q fr_rfl (by decide) (by rw [show (0 : Int32).toInt = 0 from rfl]; omega) (fun a ha => absurd ha (by rw [show (0 : Int32).toInt = 0 from rfl]; exact Nat.not_lt_zero a)) (fun a => (ho.2 15 a).1) hq
  have q6 : (q.1 6).toInt = (x.2.2.2.1 : Int) := by rw [Q2.1 6 rfl]; exact K4
  rw [q6] at Q3 Q4
  have hB : ∀ a : Nat, a < x.2.2.2.1 → (bt (q.2.1 15 a) a = true ↔ Wp (Eg sg n x.2.2.2.1 x.2.2.2.2.1) x.2.2.2.1 a a) := fun a ha => by
    refine ⟨S a ha a, fun z => ?_⟩
    have ed : ∀ c b : Nat, c < x.2.2.2.1 → Eg sg n x.2.2.2.1 x.2.2.2.2.1 c b → bt (q.2.1 15 c) b = true := fun c b hc y => by
      obtain ⟨k, k1, k2⟩ := (hE c b hc).mp y
      have w8 : (q.2.1 8 c).toInt + 2 = (nW sg n (x.2.2.2.2.1 c) : Int) := by rw [Q2.2.1 8 rfl]; exact (K5 c hc).1.2.1
      have s13 : q.2.1 13 (6 * c + k) = o.2.1 13 (6 * c + k) := by rw [Q2.2.1 13 rfl]
      have u := Q4 c (by omega) (6 * c + k) (by omega) (by omega) (by rw [s13, k2]; omega)
      rw [s13, k2, show ((8 + (b : Int)) - 8).toNat = b from by omega] at u
      exact u
    exact (Wp_c (E := Eg sg n x.2.2.2.1 x.2.2.2.2.1) (S := fun y => y < x.2.2.2.1 ∧ bt (q.2.1 15 a) y = true) (a0 := a) (fun y w => ⟨w.1, ed a y ha w⟩) (fun c y w1 w2 => ⟨w2.1, Q3 c (by have := w1.1; omega) a (by omega) w1.2 y (ed c y w1.1 w2)⟩) (Or.inl rfl) z).2
  have R := lor_go (E := Eg sg n x.2.2.2.1 x.2.2.2.2.1) (tL := x.2.2.2.2.1) (O := q) p3 q6 (fun a ha => by rw [Q2.2.1 9 rfl]; exact (K5 a ha).1.1) hB (fun a => (Q1.2 15 a).1) cfFU 0 r (by decide) (by rw [show (0 : Int32).toInt = 0 from rfl]; omega) (fun a ha => absurd ha (by rw [show (0 : Int32).toInt = 0 from rfl]; omega)) h
  exact ⟨R.1, by rw [R.2]; exact Q2⟩
