def LwR (sg : Nat → Int32) (n iL oL t : Nat) (tL : Nat → Nat) (O : cf_O) (r : Int32 × cf_O) : Prop := U3c sg n iL oL t tL t r.1.toInt ∧ Fr (fr_M [] [13, 14] []) O r.2 ∧ (r.1.toInt < 0 → (∀ j : Nat, j < t → KGq sg n iL t tL (r.2.2.1 13) j (nW sg n (tL j))) ∧ ∀ k : Nat, k + 1 < nW sg n oL → GvR sg n iL t tL (keyq sg n oL (k + 1)) (r.2.2.1 14 k).toInt)
theorem lws_go {sg : Nat → Int32} {n iL oL t : Nat} {tL : Nat → Nat} {O : cf_O} (hI : KCi sg n O iL) (h8 : Nms sg n iL 8) (hOu : KCo sg n O oL) (h6 : Nms sg n oL 6) (et : (O.1 6).toInt = (t : Int)) (t30 : t ≤ 30) (hT : ∀ j : Nat, j < t → KCt sg n O j (tL j) ∧ Nms sg n (tL j) 6) : ∀ fuel : Nat,
    (∀ (v1 : Int32) (o : cf_O) (r : Int32 × cf_O), Fr (fr_M [] [13, 14] []) O o → 0 ≤ v1.toInt → v1.toInt ≤ (O.1 1).toInt → (∀ k : Nat, (k : Int) < v1.toInt → gvn sg n iL t tL (keyq sg n oL (k + 1)) ∧ GvR sg n iL t tL (keyq sg n oL (k + 1)) (o.2.1 14 k).toInt) → gNl_lineWithoutSource fuel 0 v1 0 o = some r → LwR sg n iL oL t tL O r) ∧
    (∀ (v1 : Int32) (o : cf_O) (r : Int32 × cf_O), Fr (fr_M [] [13, 14] []) O o → 0 ≤ v1.toInt → v1.toInt ≤ (t : Int) → ¬ oU sg n iL oL t tL → (∀ k : Nat, k + 1 < nW sg n oL → GvR sg n iL t tL (keyq sg n oL (k + 1)) (o.2.1 14 k).toInt) → (∀ j : Nat, (j : Int) < v1.toInt → ¬ tU sg n iL t tL j ∧ KGq sg n iL t tL (o.2.1 13) j (nW sg n (tL j))) → gNl_lineWithoutSource fuel 1 v1 0 o = some r → LwR sg n iL oL t tL O r) ∧
    (∀ (v1 v2 : Int32) (o : cf_O) (r : Int32 × cf_O) (c : Nat), Fr (fr_M [] [13, 14] []) O o → 0 ≤ v1.toInt → v1.toInt < (t : Int) → v2.toInt = 6 * v1.toInt + (c : Int) → c + 2 ≤ nW sg n (tL v1.toInt.toNat) → ¬ oU sg n iL oL t tL → (∀ k : Nat, k + 1 < nW sg n oL → GvR sg n iL t tL (keyq sg n oL (k + 1)) (o.2.1 14 k).toInt) → (∀ j : Nat, (j : Int) < v1.toInt → ¬ tU sg n iL t tL j ∧ KGq sg n iL t tL (o.2.1 13) j (nW sg n (tL j))) → ¬ tUk sg n iL t tL v1.toInt.toNat c → KGq sg n iL t tL (o.2.1 13) v1.toInt.toNat c → gNl_lineWithoutSource fuel 2 v1 v2 o = some r → LwR sg n iL oL t tL O r)
  | 0 => ⟨fun _ _ _ _ _ _ _ h => (by cases h), fun _ _ _ _ _ _ _ _ _ h => (by cases h), fun _ _ _ _ _ _ _ _ _ _ _ _ _ _ _ h => (by cases h)⟩
  | fuel + 1 => by
    obtain ⟨i0, i1, i2⟩ := lws_go hI h8 hOu h6 et t30 hT fuel
    have z0 : (0 : Int32).toInt = 0 := rfl
    have cv : ∀ o : cf_O, Fr (fr_M [] [13, 14] []) O o → KCi sg n o iL ∧ (o.1 6).toInt = (t : Int) ∧ ∀ j : Nat, j < t → ((o.2.1 8 j).toInt + 2 = (nW sg n (tL j) : Int) ∧ ∀ k : Nat, k + 1 < nW sg n (tL j) → nv (o.2.2 7 (6 * j + k)) = keyq sg n (tL j) (k + 1)) ∧ Nms sg n (tL j) 6 := fun o rO => by
      refine ⟨?_, by rw [rO.1 6 rfl]; exact et, fun j hj => ⟨?_, (hT j hj).2⟩⟩
      · unfold KCi
        rw [rO.1 0 rfl, rO.2.2 3 rfl]; exact hI
      · rw [rO.2.1 8 rfl, rO.2.2 7 rfl]; exact (hT j hj).1.2
    refine ⟨?_, ?_, ?_⟩
    · intro v1 o r rO h0 h1 hk h
      obtain ⟨I', e', T'⟩ := cv o rO
      have e1 : (o.1 1).toInt = (O.1 1).toInt := by rw [rO.1 1 rfl]
      have n7 := h6.2.1
      have o1 := hOu.1
      rcases ifc h with ⟨a, h⟩ | ⟨a, h⟩
      · have a := c_le a
        refine i1 0 o r rO (by decide) (by rw [z0]; omega) (fun ⟨k, k1, k2⟩ => k2 (hk k (by omega)).1) (fun k k1 => (hk k (by omega)).2) (fun j q => absurd q (by rw [z0]; omega)) h
      · have a := c_nle a
        have vi : v1.toNatClampNeg = v1.toInt.toNat := by have := tn_n v1; omega
        have ev := p_1 (v := v1) h0 (by omega)
        have h := (ifn h).2
        obtain ⟨q, g, h⟩ := bd h
        rw [vi] at g
        have kq : nv (o.2.2 4 v1.toInt.toNat) = keyq sg n oL (v1.toInt.toNat + 1) := by rw [rO.2.2 4 rfl]; exact hOu.2.2 _ (by omega)
        have g := source_sp (n := n) (tL := tL) kq I' h8 e' t30 T' g
        have zg := GvR_n g
        have h := (ifn h).2
        have h := (ifn h).2
        have h : (if upd (o.2.1 14) v1.toNatClampNeg q v1.toNatClampNeg = ((-1) : Int32) then some (o.1 5, xp o 14 v1.toNatClampNeg q) else gNl_lineWithoutSource fuel 0 (v1 + 1) 0 (xp o 14 v1.toNatClampNeg q)) = some r := h
        rw [up_s, vi] at h
        rcases ifc h with ⟨c, h⟩ | ⟨c, h⟩
        · have c : q.toInt = -1 := c_eq c
          rw [← Option.some.inj h]
          refine ⟨Or.inl ⟨⟨v1.toInt.toNat, by omega, zg.1.mp c⟩, ?_⟩, fr_xp rO rfl, fun z => ?_⟩
          · show (o.1 5).toInt = _
            rw [rO.1 5 rfl]; exact hOu.2.1
          · have z : (o.1 5).toInt < 0 := z
            rw [rO.1 5 rfl, hOu.2.1] at z; omega
        · have c : ¬ q.toInt = -1 := c_ne c
          refine i0 (v1 + 1) _ r (fr_xp rO rfl) (by omega) (by omega) (fun k q1 => ?_) h
          show _ ∧ GvR sg n iL t tL _ (upd (o.2.1 14) v1.toInt.toNat q k).toInt
          by_cases ek : k = v1.toInt.toNat
          · rw [ek, up_s]
            exact ⟨Classical.byContradiction (fun u => c (zg.1.mpr u)), g⟩
          · rw [up_o ek]; exact hk k (by omega)
    · intro v1 o r rO h0 h1 nO ho hg h
      obtain ⟨I', e', T'⟩ := cv o rO
      rcases ifc h with ⟨a, h⟩ | ⟨a, h⟩
      · have a := c_le a
        rw [← Option.some.inj h]
        exact ⟨Or.inr (Or.inr ⟨nO, fun j hj => (hg j (by omega)).1, rfl⟩), rO, fun _ => ⟨fun j hj => (hg j (by omega)).2, ho⟩⟩
      · have a := c_nle a
        have m6 : (v1 * 6).toInt = 6 * v1.toInt + ((0 : Nat) : Int) := by rw [Int32.toInt_mul, i_bm (by rw [show (6 : Int32).toInt = 6 from rfl]; omega) (by rw [show (6 : Int32).toInt = 6 from rfl]; omega), show (6 : Int32).toInt = 6 from rfl]; omega
        have N := (hT v1.toInt.toNat (by omega)).2
        exact i2 v1 (v1 * 6) o r 0 rO h0 (by omega) m6 (by have := N.1; omega) nO ho hg (fun ⟨k, k1, _⟩ => absurd k1 (Nat.not_lt_zero k)) (fun k k1 => absurd k1 (Nat.not_lt_zero k)) h
    · intro v1 v2 o r c rO h0 h1 e2 hc nO ho hg nU hk h
      obtain ⟨I', e', T'⟩ := cv o rO
      obtain ⟨⟨k1, k2⟩, N⟩ := T' v1.toInt.toNat (by omega)
      have n7 := N.2.1
      have vi : v1.toNatClampNeg = v1.toInt.toNat := by have := tn_n v1; omega
      have v2i : v2.toNatClampNeg = 6 * v1.toInt.toNat + c := by have := tn_n v2; omega
      have m6 : (v1 * 6).toInt = 6 * v1.toInt := by rw [Int32.toInt_mul, i_bm (by rw [show (6 : Int32).toInt = 6 from rfl]; omega) (by rw [show (6 : Int32).toInt = 6 from rfl]; omega), show (6 : Int32).toInt = 6 from rfl]; omega
      have m7 : (v1 * 6 + o.2.1 8 v1.toInt.toNat).toInt = 6 * v1.toInt + (o.2.1 8 v1.toInt.toNat).toInt := by rw [Int32.toInt_add, m6, i_bm (by omega) (by omega)]
      have e1 := p_1 (v := v1) h0 (by omega)
      have h := (ifn h).2
      rw [vi] at h
      rcases ifc h with ⟨a, h⟩ | ⟨a, h⟩
      · have a := c_le a
        have ea : nW sg n (tL v1.toInt.toNat) ≤ c + 2 := by omega
        refine i1 (v1 + 1) o r rO (by omega) (by omega) nO ho (fun j q => ?_) h
        by_cases ej : (j : Int) = v1.toInt
        · rw [show j = v1.toInt.toNat from by omega]
          exact ⟨fun y => nU ((tUk_e ea).mpr y), fun k kk1 kk2 => hk k (by omega) kk2⟩
        · exact hg j (by omega)
      · have a := c_nle a
        have hc2 : c + 2 < nW sg n (tL v1.toInt.toNat) := by omega
        have e21 : (v2 + 1).toInt = v2.toInt + 1 := p_1 (by omega) (by omega)
        have h := (ifn h).2
        obtain ⟨q, g, h⟩ := bd h
        rw [v2i] at g
        have g := source_sp (n := n) (tL := tL) (k2 c (by omega)) I' h8 e' t30 T' g
        have zg := GvR_n g
        have us := tUk_s hc2 g
        have h := (ifn h).2
        have h := (ifn h).2
        have h : (if upd (o.2.1 13) v2.toNatClampNeg q v2.toNatClampNeg = ((-1) : Int32) then (if v1 < 0 ∨ 30 ≤ v1.toNatClampNeg then none else some (o.2.1 9 v1.toNatClampNeg, xp o 13 v2.toNatClampNeg q)) else gNl_lineWithoutSource fuel 2 v1 (v2 + 1) (xp o 13 v2.toNatClampNeg q)) = some r := h
        rw [up_s, v2i] at h
        rcases ifc h with ⟨d, h⟩ | ⟨d, h⟩
        · have d : q.toInt = -1 := c_eq d
          have h := (ifn h).2
          rw [vi] at h
          rw [← Option.some.inj h]
          have e9 : (o.2.1 9 v1.toInt.toNat).toInt = (tL v1.toInt.toNat : Int) := by rw [rO.2.1 9 rfl]; exact (hT v1.toInt.toNat (by omega)).1.1
          refine ⟨Or.inr (Or.inl ⟨nO, v1.toInt.toNat, by omega, ⟨c, by omega, hc2, zg.1.mp d⟩, fun i hi => (hg i (by omega)).1, e9⟩), fr_xp rO rfl, fun z => ?_⟩
          have z : (o.2.1 9 v1.toInt.toNat).toInt < 0 := z
          omega
        · have d : ¬ q.toInt = -1 := c_ne d
          refine i2 v1 (v2 + 1) (xp o 13 (6 * v1.toInt.toNat + c) q) r (c + 1) (fr_xp rO rfl) h0 h1 (by omega) (by omega) nO ho (fun j hj => ⟨(hg j hj).1, fun k kk1 kk2 => ?_⟩) (fun y => ?_) (fun k kk1 kk2 => ?_) h
          · show GvR sg n iL t tL _ (upd (o.2.1 13) (6 * v1.toInt.toNat + c) q (6 * j + k)).toInt
            have n7j := (hT j (by omega)).2.2.1
            have ne : ¬ 6 * j + k = 6 * v1.toInt.toNat + c := by omega
            rw [up_o ne]; exact (hg j hj).2 k kk1 kk2
          · rcases us.mp y with y | y
            · exact nU y
            · have := zg.2; omega
          · show GvR sg n iL t tL _ (upd (o.2.1 13) (6 * v1.toInt.toNat + c) q (6 * v1.toInt.toNat + k)).toInt
            by_cases ek : k = c
            · rw [ek, up_s]; exact g
            · have ne : ¬ 6 * v1.toInt.toNat + k = 6 * v1.toInt.toNat + c := by omega
              rw [up_o ne]; exact hk k (by omega) kk2
theorem lws_sp {sg : Nat → Int32} {n : Nat} {x : NXq} {o : cf_O} {r : Int32 × cf_O} (K : KCx sg n o x) (P : PNx sg n x) (x3 : x.1 = 3) (h : fNl_lineWithoutSource o = some r) : LwR sg n x.2.1 x.2.2.1 x.2.2.2.1 x.2.2.2.2.1 o r := by
  obtain ⟨st, iL, oL, t, tL, rc, rL⟩ := x
  obtain ⟨K0, K1, K2, K3, K4, K5⟩ := K
  obtain ⟨P1, P2, P3, P4, P5⟩ := P
  have x3 : st = 3 := x3
  subst x3
  have Pi := P1 (by show 1 ≤ 3; omega)
  have Po := P2 (by show 2 ≤ 3; omega)
  have Ki := K2 (by show 1 ≤ 3; omega)
  have Ko := K3 (by show 2 ≤ 3; omega)
  have o1 : (o.1 1).toInt + 1 = (nW sg n oL : Int) := Ko.1
  have n2 : 2 ≤ nW sg n oL := Po.1.1
  exact (lws_go Ki Pi.1 Ko Po.1 K4 P3 (fun j hj => ⟨(K5 j hj).1, (P5 j hj).1⟩) cfFU).1 0 o r fr_rfl (by decide) (by rw [show (0 : Int32).toInt = 0 from rfl]; omega) (fun k hk => absurd hk (by rw [show (0 : Int32).toInt = 0 from rfl]; omega)) h
def Eg (sg : Nat → Int32) (n t : Nat) (tL : Nat → Nat) (a b : Nat) : Prop := b < t ∧ ∃ k : Nat, k + 2 < nW sg n (tL a) ∧ lsK sg n (tL b) = keyq sg n (tL a) (k + 1)
def Wp (E : Nat → Nat → Prop) : Nat → Nat → Nat → Prop
  | 0, a, b => E a b
  | p + 1, a, b => Wp E p a b ∨ (Wp E p a p ∧ Wp E p p b)
theorem Wp_t {E : Nat → Nat → Prop} : ∀ {p a b c : Nat}, c < p → Wp E p a c → Wp E p c b → Wp E p a b
  | 0, a, b, c, h, _, _ => absurd h (Nat.not_lt_zero c)
  | p + 1, a, b, c, h, h1, h2 => by
    have h1 : Wp E p a c ∨ (Wp E p a p ∧ Wp E p p c) := h1
    have h2 : Wp E p c b ∨ (Wp E p c p ∧ Wp E p p b) := h2
    show Wp E p a b ∨ (Wp E p a p ∧ Wp E p p b)
    by_cases e : c = p
    · subst e
      have a1 : Wp E c a c := by
        rcases h1 with q | q
        · exact q
        · exact q.1
      have a2 : Wp E c c b := by
        rcases h2 with q | q
        · exact q
        · exact q.2
      exact Or.inr ⟨a1, a2⟩
    · have hc : c < p := by omega
      rcases h1 with q1 | q1
      · rcases h2 with q2 | q2
        · exact Or.inl (Wp_t hc q1 q2)
        · exact Or.inr ⟨Wp_t hc q1 q2.1, q2.2⟩
      · rcases h2 with q2 | q2
        · exact Or.inr ⟨q1.1, Wp_t hc q1.2 q2⟩
        · exact Or.inr ⟨q1.1, q2.2⟩
theorem Wp_l {E : Nat → Nat → Prop} {p a b : Nat} (h : Wp E p a b) : Wp E (p + 1) a b := Or.inl h
theorem Wp_0 {E : Nat → Nat → Prop} : ∀ {p a b : Nat}, E a b → Wp E p a b
  | 0, _, _, h => h
  | p + 1, _, _, h => Or.inl (Wp_0 h)
theorem Wp_c {E : Nat → Nat → Prop} {S : Nat → Prop} {a0 : Nat} (h0 : ∀ b : Nat, E a0 b → S b) (h1 : ∀ a b : Nat, S a → E a b → S b) : ∀ {p a b : Nat}, (a = a0 ∨ S a) → Wp E p a b → S b
  | 0, a, b, ha, h => by
    rcases ha with ha | ha
    · rw [ha] at h; exact h0 b h
    · exact h1 a b ha h
  | p + 1, a, b, ha, h => by
    rcases h with h | h
    · exact Wp_c h0 h1 ha h
    · exact Wp_c h0 h1 (Or.inr (Wp_c h0 h1 ha h.1)) h.2
def R4c (R : Nat → Prop) (tL : Nat → Nat) (c : Nat) (l : Int) : Prop := (∃ j : Nat, j < c ∧ R j ∧ (∀ i : Nat, i < j → ¬ R i) ∧ l = (tL j : Int)) ∨ ((∀ j : Nat, j < c → ¬ R j) ∧ l = -1)
theorem R4_u {R : Nat → Prop} {tL : Nat → Nat} {c : Nat} {l k : Int} (h : R4c R tL c l) (g : R4c R tL c k) : l = k := by
  rcases h with ⟨j, a1, a2, a3, a4⟩ | ⟨a1, a2⟩
  · rcases g with ⟨i, b1, b2, b3, b4⟩ | ⟨b1, b2⟩
    · rcases Nat.lt_trichotomy j i with q | q | q
      · exact absurd a2 (b3 j q)
      · rw [a4, b4, q]
      · exact absurd b2 (a3 i q)
    · exact absurd a2 (b1 j a1)
  · rcases g with ⟨i, b1, b2, b3, b4⟩ | ⟨b1, b2⟩
    · exact absurd b2 (a1 i b1)
    · omega
theorem Eg_s {sg : Nat → Int32} {n a b : Nat} {x : NXq} {g : Nat → Int32} (P : PNx sg n x) (h1 : 1 ≤ x.1) (G : KGq sg n x.2.1 x.2.2.2.1 x.2.2.2.2.1 g a (nW sg n (x.2.2.2.2.1 a))) : Eg sg n x.2.2.2.1 x.2.2.2.2.1 a b ↔ ∃ k : Nat, k + 2 < nW sg n (x.2.2.2.2.1 a) ∧ (g (6 * a + k)).toInt = 8 + (b : Int) := by
  have n9 := (P.1 h1).1.2.1
  constructor
  · rintro ⟨hb, k, hk, e⟩
    exact ⟨k, hk, GvR_u P h1 (G k (by omega) hk) (Or.inr (Or.inr ⟨b, rfl, hb, e⟩))⟩
  · rintro ⟨k, hk, e⟩
    rcases G k (by omega) hk with ⟨q, _⟩ | ⟨k', q1, q2, q3⟩ | ⟨j, q1, q2, q3⟩
    · omega
    · omega
    · have ej : j = b := by omega
      rw [ej] at q2 q3
      exact ⟨q2, k, hk, q3⟩
theorem GvR_b {sg : Nat → Int32} {n y : Nat} {x : NXq} {r : Int} (P : PNx sg n x) (h1 : 1 ≤ x.1) (h : GvR sg n x.2.1 x.2.2.2.1 x.2.2.2.2.1 y r) : -1 ≤ r ∧ r < 8 + (x.2.2.2.1 : Int) := by
  have n9 := (P.1 h1).1.2.1
  rcases h with ⟨q, _⟩ | ⟨k', q1, q2, q3⟩ | ⟨j, q1, q2, q3⟩
  · omega
  · omega
  · omega
def TuR (E : Nat → Nat → Prop) (t j : Nat) (O : cf_O) (r : Int32 × cf_O) : Prop := Fr (fr_M [] [28] []) O r.2 ∧ Yn r.1 (Wp E t j j)
def Snd (E : Nat → Nat → Prop) (t j : Nat) (f : Nat → Int32) : Prop := ∀ b : Nat, b < t → ¬ f b = 0 → Wp E t j b
theorem turns_go {E : Nat → Nat → Prop} {t j : Nat} {O : cf_O} {w : Nat → Nat} (t30 : t ≤ 30) (hj : j < t) (hEt : ∀ a b : Nat, E a b → b < t) (et : (O.1 17).toInt = (t : Int)) (w7 : ∀ a : Nat, a < t → 2 ≤ w a ∧ w a ≤ 7 ∧ (O.2.1 19 a).toInt + 1 = (w a : Int)) (hE : ∀ a b : Nat, a < t → (E a b ↔ ∃ k : Nat, k + 2 < w a ∧ (O.2.1 25 (6 * a + k)).toInt = 8 + (b : Int))) (hb : ∀ a k : Nat, a < t → k + 2 < w a → -1 ≤ (O.2.1 25 (6 * a + k)).toInt ∧ (O.2.1 25 (6 * a + k)).toInt < 8 + (t : Int)) : ∀ fuel : Nat,
    (∀ (v1 v2 : Int32) (o : cf_O) (r : Int32 × cf_O), v1.toInt = (j : Int) → Fr (fr_M [] [28] []) O o → 0 ≤ v2.toInt → v2.toInt ≤ (t : Int) → (∀ b : Nat, (b : Int) < v2.toInt → o.2.1 28 b = 0) → gM_turns fuel 0 v1 v2 0 0 o = some r → TuR E t j O r) ∧
    (∀ (v1 v2 : Int32) (o : cf_O) (r : Int32 × cf_O), v1.toInt = (j : Int) → Fr (fr_M [] [28] []) O o → Snd E t j (o.2.1 28) → (v2 = 0 → ∀ a b : Nat, a < t → (a = j ∨ ¬ o.2.1 28 a = 0) → E a b → b < t → ¬ o.2.1 28 b = 0) → gM_turns fuel 1 v1 v2 0 0 o = some r → TuR E t j O r) ∧
    (∀ (v1 v2 v3 : Int32) (o : cf_O) (r : Int32 × cf_O), v1.toInt = (j : Int) → Fr (fr_M [] [28] []) O o → Snd E t j (o.2.1 28) → 0 ≤ v3.toInt → v3.toInt ≤ (t : Int) → (v2 = 0 → ∀ a b : Nat, (a : Int) < v3.toInt → (a = j ∨ ¬ o.2.1 28 a = 0) → E a b → b < t → ¬ o.2.1 28 b = 0) → gM_turns fuel 2 v1 v2 v3 0 o = some r → TuR E t j O r) ∧
    (∀ (v1 v2 v3 v4 : Int32) (o : cf_O) (r : Int32 × cf_O), v1.toInt = (j : Int) → Fr (fr_M [] [28] []) O o → Snd E t j (o.2.1 28) → 0 ≤ v3.toInt → v3.toInt < (t : Int) → 0 ≤ v4.toInt → v4.toInt + 2 ≤ (w v3.toInt.toNat : Int) → (v2 = 0 → ∀ a b : Nat, (a : Int) < v3.toInt → (a = j ∨ ¬ o.2.1 28 a = 0) → E a b → b < t → ¬ o.2.1 28 b = 0) → (v2 = 0 → (v3.toInt.toNat = j ∨ ¬ o.2.1 28 v3.toInt.toNat = 0) → ∀ k b : Nat, (k : Int) < v4.toInt → (O.2.1 25 (6 * v3.toInt.toNat + k)).toInt = 8 + (b : Int) → b < t → ¬ o.2.1 28 b = 0) → gM_turns fuel 3 v1 v2 v3 v4 o = some r → TuR E t j O r)
  | 0 => ⟨fun _ _ _ _ _ _ _ _ _ h => (by cases h), fun _ _ _ _ _ _ _ _ h => (by cases h), fun _ _ _ _ _ _ _ _ _ _ _ h => (by cases h), fun _ _ _ _ _ _ _ _ _ _ _ _ _ _ _ h => (by cases h)⟩
  | fuel + 1 => by
    obtain ⟨i0, i1, i2, i3⟩ := turns_go t30 hj hEt et w7 hE hb fuel
    have z0 : (0 : Int32).toInt = 0 := rfl
    refine ⟨?_, ?_, ?_, ?_⟩
    · intro v1 v2 o r e1 rO h0 h1 hz h
      have e17 : (o.1 17).toInt = (t : Int) := by rw [rO.1 17 rfl]; exact et
      rcases ifc h with ⟨a, h⟩ | ⟨a, h⟩
      · have a := c_le a
        exact i1 v1 1 o r e1 rO (fun b b1 b2 => absurd (hz b (by omega)) b2) (fun q => absurd q (by decide)) h
      · have a := c_nle a
        have e2 := p_1 (v := v2) h0 (by omega)
        have vi : v2.toNatClampNeg = v2.toInt.toNat := by have := tn_n v2; omega
        have h := (ifn h).2
        refine i0 v1 (v2 + 1) _ r e1 (fr_xp rO rfl) (by omega) (by omega) (fun b q => ?_) h
        show upd (o.2.1 28) v2.toNatClampNeg (vp_nar .boolean 0) b = 0
        rw [vi]
        by_cases eb : b = v2.toInt.toNat
        · rw [eb, up_s]; exact vb_0
        · rw [up_o eb]; exact hz b (by omega)
    · intro v1 v2 o r e1 rO hS hC h
      rcases ifc h with ⟨a, h⟩ | ⟨a, h⟩
      · have h := (ifn h).2
        have vi : v1.toNatClampNeg = j := by have := tn_n v1; omega
        rw [vi] at h
        have h2 := (ifn h).2
        have b01 := Classical.byContradiction (fun u => (ifn h).1 u)
        rw [← Option.some.inj h2]
        refine ⟨rO, ?_⟩
        rcases b01 with b | b
        · refine Or.inr ⟨b, fun z => ?_⟩
          exact (Wp_c (E := E) (S := fun y => y < t ∧ ¬ o.2.1 28 y = 0) (a0 := j) (fun y q => ⟨hEt j y q, hC a j y hj (Or.inl rfl) q (hEt j y q)⟩) (fun x y q1 q2 => ⟨hEt x y q2, hC a x y q1.1 (Or.inr q1.2) q2 (hEt x y q2)⟩) (p := t) (a := j) (b := j) (Or.inl rfl) z).2 b
        · exact Or.inl ⟨b, hS j hj (by rw [b]; decide)⟩
      · exact i2 v1 0 0 o r e1 rO hS (by decide) (by rw [z0]; omega) (fun _ x y q => absurd q (by rw [z0]; omega)) h
    · intro v1 v2 v3 o r e1 rO hS h0 h1 hC h
      have e17 : (o.1 17).toInt = (t : Int) := by rw [rO.1 17 rfl]; exact et
      rcases ifc h with ⟨a, h⟩ | ⟨a, h⟩
      · have a := c_le a
        exact i1 v1 v2 o r e1 rO hS (fun q x y x1 x2 x3 x4 => hC q x y (by omega) x2 x3 x4) h
      · have a := c_nle a
        have W := w7 v3.toInt.toNat (by omega)
        exact i3 v1 v2 v3 0 o r e1 rO hS h0 (by omega) (by decide) (by rw [z0]; omega) hC (fun _ _ k b k1 => absurd k1 (by rw [z0]; omega)) h
    · intro v1 v2 v3 v4 o r e1 rO hS h0 h1 h2 h3 hC hK h
      obtain ⟨W1, W2, W3⟩ := w7 v3.toInt.toNat (by omega)
      have vi : v3.toNatClampNeg = v3.toInt.toNat := by have := tn_n v3; omega
      have e4 := p_1 (v := v4) h2 (by omega)
      have e3 := p_1 (v := v3) h0 (by omega)
      have h := (ifn h).2
      rw [vi, rO.2.1 19 rfl] at h
      rcases ifc h with ⟨a, h⟩ | ⟨a, h⟩
      · have a := c_le a
        refine i2 v1 v2 (v3 + 1) o r e1 rO hS (by omega) (by omega) (fun q x y x1 x2 x3 x4 => ?_) h
        by_cases ex : (x : Int) = v3.toInt
        · have ex' : x = v3.toInt.toNat := by omega
          rw [ex'] at x2 x3
          obtain ⟨k, k1, k2⟩ := (hE _ _ (by omega)).mp x3
          exact hK q x2 k y (by omega) k2 x4
        · exact hC q x y (by omega) x2 x3 x4
      · have a := c_nle a
        have m6 : (6 * v3).toInt = 6 * v3.toInt := by rw [Int32.toInt_mul, i_bm (by rw [show (6 : Int32).toInt = 6 from rfl]; omega) (by rw [show (6 : Int32).toInt = 6 from rfl]; omega)]; rfl
        have m7 : (6 * v3 + v4).toInt = 6 * v3.toInt + v4.toInt := by rw [Int32.toInt_add, m6, i_bm (by omega) (by omega)]
        have mi : (6 * v3 + v4).toNatClampNeg = 6 * v3.toInt.toNat + v4.toInt.toNat := by have := tn_n (6 * v3 + v4); omega
        have h := (ifn h).2
        rw [mi, rO.2.1 25 rfl] at h
        have bb := hb v3.toInt.toNat v4.toInt.toNat (by omega) (by omega)
        have m8 : (O.2.1 25 (6 * v3.toInt.toNat + v4.toInt.toNat) - 8).toInt = (O.2.1 25 (6 * v3.toInt.toNat + v4.toInt.toNat)).toInt - 8 := by rw [Int32.toInt_sub, i_bm (by rw [show (8 : Int32).toInt = 8 from rfl]; omega) (by rw [show (8 : Int32).toInt = 8 from rfl]; omega)]; rfl
        -- on with the next input
        have nx : ∀ (u : Int32) (o' : cf_O), Fr (fr_M [] [28] []) O o' → Snd E t j (o'.2.1 28) → (u = 0 → v2 = 0 ∧ o' = o ∧ ((v3.toInt.toNat = j ∨ ¬ o.2.1 28 v3.toInt.toNat = 0) → ∀ b : Nat, (O.2.1 25 (6 * v3.toInt.toNat + v4.toInt.toNat)).toInt = 8 + (b : Int) → b < t → ¬ o.2.1 28 b = 0)) → fM_turns_113 (gM_turns fuel) v1 u v3 v4 o' = some r → TuR E t j O r := fun u o' ro hs hu h => by
          refine i3 v1 u v3 (v4 + 1) o' r e1 ro hs h0 h1 (by omega) (by omega) (fun q => ?_) (fun q q2 k b k1 k2 k3 => ?_) h
          · obtain ⟨u1, u2, u3⟩ := hu q
            rw [u2]; exact hC u1
          · obtain ⟨u1, u2, u3⟩ := hu q
            rw [u2] at q2 ⊢
            by_cases ek : (k : Int) = v4.toInt
            · rw [show k = v4.toInt.toNat from by omega] at k2
              exact u3 q2 b k2 k3
            · exact hK u1 q2 k b (by omega) k2 k3
        have r88 : (v3.toInt.toNat = j ∨ ¬ o.2.1 28 v3.toInt.toNat = 0) → fM_turns_88 (gM_turns fuel) v1 v2 v3 v4 (O.2.1 25 (6 * v3.toInt.toNat + v4.toInt.toNat) - 8) o = some r → TuR E t j O r := fun hr h => by
          rcases ifc h with ⟨c, h⟩ | ⟨c, h⟩
          · have c : (O.2.1 25 (6 * v3.toInt.toNat + v4.toInt.toNat) - 8).toInt < 0 := c_lt c
            exact nx v2 o rO hS (fun q => ⟨q, rfl, fun _ b q1 _ => by omega⟩) h
          · have c : 0 ≤ (O.2.1 25 (6 * v3.toInt.toNat + v4.toInt.toNat) - 8).toInt := c_nlt c
            have bi : (O.2.1 25 (6 * v3.toInt.toNat + v4.toInt.toNat) - 8).toNatClampNeg = ((O.2.1 25 (6 * v3.toInt.toNat + v4.toInt.toNat)).toInt - 8).toNat := by have := tn_n (O.2.1 25 (6 * v3.toInt.toNat + v4.toInt.toNat) - 8); omega
            have h := (ifn h).2
            rw [bi] at h
            rcases ifc h with ⟨d, h⟩ | ⟨d, h⟩
            · have h := (ifn h).2
              refine nx 1 _ (fr_xp rO rfl) (fun b b1 b2 => ?_) (fun q => absurd q (by decide)) h
              have b2 : ¬ upd (o.2.1 28) ((O.2.1 25 (6 * v3.toInt.toNat + v4.toInt.toNat)).toInt - 8).toNat (vp_nar .boolean 1) b = 0 := b2
              by_cases eb : b = ((O.2.1 25 (6 * v3.toInt.toNat + v4.toInt.toNat)).toInt - 8).toNat
              · have ed : E v3.toInt.toNat b := (hE _ _ (by omega)).mpr ⟨v4.toInt.toNat, by omega, by omega⟩
                rcases hr with hr | hr
                · rw [hr] at ed; exact Wp_0 ed
                · exact Wp_t (c := v3.toInt.toNat) (by omega) (hS _ (by omega) hr) (Wp_0 ed)
              · rw [up_o eb] at b2; exact hS b b1 b2
            · refine nx v2 o rO hS (fun q => ⟨q, rfl, fun _ b q1 _ => ?_⟩) h
              rw [show b = ((O.2.1 25 (6 * v3.toInt.toNat + v4.toInt.toNat)).toInt - 8).toNat from by omega]; exact d
        rcases ifc h with ⟨c, h⟩ | ⟨c, h⟩
        · have c := c_eq c
          exact r88 (Or.inl (by omega)) h
        · have c : ¬ v3.toInt = v1.toInt := c_ne c
          have h := (ifn h).2
          rcases ifc h with ⟨d, h⟩ | ⟨d, h⟩
          · exact nx v2 o rO hS (fun q => ⟨q, rfl, fun q2 => by
              rcases q2 with q2 | q2
              · omega
              · exact absurd d q2⟩) h
          · exact r88 (Or.inr d) h
