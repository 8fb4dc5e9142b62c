theorem GvR_u {sg : Nat → Int32} {n : Nat} {x : NXq} {y : Nat} {r s : Int} (P : PNx sg n x) (h1 : 1 ≤ x.1) (h : GvR sg n x.2.1 x.2.2.2.1 x.2.2.2.2.1 y r) (g : GvR sg n x.2.1 x.2.2.2.1 x.2.2.2.2.1 y s) : r = s := by
  obtain ⟨st, iL, oL, t, tL, rc, rL⟩ := x
  obtain ⟨P1, P2, P3, P4, P5⟩ := P
  have P1 := P1 h1
  have kk : ∀ k k' : Nat, k + 1 < nW sg n iL → k' + 1 < nW sg n iL → keyq sg n iL (k + 1) = y → keyq sg n iL (k' + 1) = y → k = k' := fun k k' a1 a2 b1 b2 => by
    rcases Nat.lt_trichotomy k k' with q | q | q
    · exact absurd ⟨k' + 1, k + 1, by omega, by omega, a2, by rw [b1, b2]⟩ P1.2
    · exact q
    · exact absurd ⟨k + 1, k' + 1, by omega, by omega, a1, by rw [b1, b2]⟩ P1.2
  have kj : ∀ k j : Nat, k + 1 < nW sg n iL → j < t → keyq sg n iL (k + 1) = y → lsK sg n (tL j) = y → False := fun k j a1 a2 b1 b2 => (P5 j a2).2.1 (Or.inl ⟨k, a1, by rw [b1]; exact b2.symm⟩)
  have jj : ∀ j j' : Nat, j < t → j' < t → lsK sg n (tL j) = y → lsK sg n (tL j') = y → j = j' := fun j j' a1 a2 b1 b2 => by
    rcases Nat.lt_trichotomy j j' with q | q | q
    · exact absurd (Or.inr ⟨j, q, by rw [b1]; exact b2.symm⟩) (P5 j' a2).2.1
    · exact q
    · exact absurd (Or.inr ⟨j', q, by rw [b2]; exact b1.symm⟩) (P5 j a1).2.1
  rcases h with ⟨a, b⟩ | ⟨k, a1, a2, a3⟩ | ⟨j, a1, a2, a3⟩
  · rcases g with ⟨c, d⟩ | ⟨k', c1, c2, c3⟩ | ⟨j', c1, c2, c3⟩
    · omega
    · exact absurd (Or.inl ⟨k', c2, c3⟩) b
    · exact absurd (Or.inr ⟨j', c2, c3⟩) b
  · rcases g with ⟨c, d⟩ | ⟨k', c1, c2, c3⟩ | ⟨j', c1, c2, c3⟩
    · exact absurd (Or.inl ⟨k, a2, a3⟩) d
    · have := kk k k' a2 c2 a3 c3; omega
    · exact (kj k j' a2 c2 a3 c3).elim
  · rcases g with ⟨c, d⟩ | ⟨k', c1, c2, c3⟩ | ⟨j', c1, c2, c3⟩
    · exact absurd (Or.inr ⟨j, a2, a3⟩) d
    · exact (kj k' j c2 a2 c3 a3).elim
    · have := jj j j' a2 c2 a3 c3; omega
def Gvz (r : Int) (P : Prop) : Prop := r = -1 ↔ ¬ P
theorem GvR_n {sg : Nat → Int32} {n iL t : Nat} {tL : Nat → Nat} {y : Nat} {r : Int} (h : GvR sg n iL t tL y r) : Gvz r (gvn sg n iL t tL y) ∧ (r = -1 ∨ 0 ≤ r) := by
  rcases h with ⟨a, b⟩ | ⟨k, a1, a2, a3⟩ | ⟨j, a1, a2, a3⟩
  · exact ⟨⟨fun _ => b, fun _ => a⟩, Or.inl a⟩
  · exact ⟨⟨fun q => by omega, fun q => absurd (Or.inl ⟨k, a2, a3⟩) q⟩, Or.inr (by omega)⟩
  · exact ⟨⟨fun q => by omega, fun q => absurd (Or.inr ⟨j, a2, a3⟩) q⟩, Or.inr (by omega)⟩
def oU (sg : Nat → Int32) (n iL oL t : Nat) (tL : Nat → Nat) : Prop := ∃ k : Nat, k + 1 < nW sg n oL ∧ ¬ gvn sg n iL t tL (keyq sg n oL (k + 1))
def tUk (sg : Nat → Int32) (n iL t : Nat) (tL : Nat → Nat) (j c : Nat) : Prop := ∃ k : Nat, k < c ∧ k + 2 < nW sg n (tL j) ∧ ¬ gvn sg n iL t tL (keyq sg n (tL j) (k + 1))
noncomputable def tU (sg : Nat → Int32) (n iL t : Nat) (tL : Nat → Nat) (j : Nat) : Prop := tUk sg n iL t tL j (nW sg n (tL j))
def U3c (sg : Nat → Int32) (n iL oL t : Nat) (tL : Nat → Nat) (c : Nat) (l : Int) : Prop := (oU sg n iL oL t tL ∧ l = (oL : Int)) ∨ (¬ oU sg n iL oL t tL ∧ ∃ j : Nat, j < c ∧ tU sg n iL t tL j ∧ (∀ i : Nat, i < j → ¬ tU sg n iL t tL i) ∧ l = (tL j : Int)) ∨ (¬ oU sg n iL oL t tL ∧ (∀ j : Nat, j < c → ¬ tU sg n iL t tL j) ∧ l = -1)
theorem U3_u {sg : Nat → Int32} {n iL oL t c : Nat} {tL : Nat → Nat} {l k : Int} (h : U3c sg n iL oL t tL c l) (g : U3c sg n iL oL t tL c k) : l = k := by
  rcases h with ⟨a, b⟩ | ⟨a, j, a1, a2, a3, a4⟩ | ⟨a, b, b2⟩
  · rcases g with ⟨c1, d⟩ | ⟨c1, _⟩ | ⟨c1, _⟩
    · omega
    · exact absurd a c1
    · exact absurd a c1
  · rcases g with ⟨c1, d⟩ | ⟨c1, j', c2, c3, c4, c5⟩ | ⟨c1, d, _⟩
    · exact absurd c1 a
    · rcases Nat.lt_trichotomy j j' with q | q | q
      · exact absurd a2 (c4 j q)
      · rw [a4, c5, q]
      · exact absurd c3 (a3 j' q)
    · exact absurd a2 (d j a1)
  · rcases g with ⟨c1, d⟩ | ⟨c1, j', c2, c3, c4, c5⟩ | ⟨c1, d, d2⟩
    · exact absurd c1 a
    · exact absurd c3 (b j' c2)
    · omega
theorem U3_neg {sg : Nat → Int32} {n iL oL t c : Nat} {tL : Nat → Nat} {l : Int} (h : U3c sg n iL oL t tL c l) : l = -1 ∨ 0 ≤ l := by
  rcases h with ⟨a, b⟩ | ⟨a, j, a1, a2, a3, a4⟩ | ⟨a, b, b2⟩
  · exact Or.inr (by omega)
  · exact Or.inr (by omega)
  · exact Or.inl b2
def KGq (sg : Nat → Int32) (n iL t : Nat) (tL : Nat → Nat) (g : Nat → Int32) (j c : Nat) : Prop := ∀ k : Nat, k < c → k + 2 < nW sg n (tL j) → GvR sg n iL t tL (keyq sg n (tL j) (k + 1)) (g (6 * j + k)).toInt
theorem tUk_s {sg : Nat → Int32} {n iL t j c : Nat} {tL : Nat → Nat} {r : Int} (hc : c + 2 < nW sg n (tL j)) (h : GvR sg n iL t tL (keyq sg n (tL j) (c + 1)) r) : tUk sg n iL t tL j (c + 1) ↔ (tUk sg n iL t tL j c ∨ r < 0) := by
  have z := GvR_n h
  constructor
  · rintro ⟨k, k1, k2, k3⟩
    by_cases e : k = c
    · subst e
      exact Or.inr (by have := z.1.mpr k3; omega)
    · exact Or.inl ⟨k, by omega, k2, k3⟩
  · rintro (⟨k, k1, k2, k3⟩ | q)
    · exact ⟨k, by omega, k2, k3⟩
    · exact ⟨c, by omega, hc, z.1.mp (by omega)⟩
theorem tUk_e {sg : Nat → Int32} {n iL t j c : Nat} {tL : Nat → Nat} (hc : nW sg n (tL j) ≤ c + 2) : tUk sg n iL t tL j c ↔ tU sg n iL t tL j := by
  constructor
  · rintro ⟨k, k1, k2, k3⟩
    exact ⟨k, by omega, k2, k3⟩
  · rintro ⟨k, k1, k2, k3⟩
    exact ⟨k, by omega, k2, k3⟩
def LkR (sg : Nat → Int32) (n iL oL t : Nat) (tL : Nat → Nat) (O r : cf_O) : Prop := ∃ l : Int, U3c sg n iL oL t tL t l ∧ ((l < 0 ∧ Fr (fr_M [] [25] []) O r ∧ ∀ j : Nat, j < t → KGq sg n iL t tL (r.2.1 25) j (nW sg n (tL j))) ∨ (0 ≤ l ∧ Fr (fr_M [5, 6] [25] []) O r ∧ r.1 5 = 3 ∧ (r.1 6).toInt = l))
theorem link40 {rc : Nat → Int32 → Int32 → Int32 → cf_O → Option (cf_O)} {v2 s0 : Int32} {o0 r : cf_O} (h : fM_link_40 rc v2 s0 o0 = some r) : rc 0 s0 (v2 + (-1)) 0 o0 = some r := h
theorem m_1' {v : Int32} (a : 0 ≤ v.toInt) (b : v.toInt ≤ 5) : (v + (-1)).toInt = v.toInt - 1 := by
  have e : (-1 : Int32).toInt = -1 := rfl
  rw [Int32.toInt_add, e, i_bm (by omega) (by omega)]; omega
theorem link_go {sg : Nat → Int32} {n iL oL t : Nat} {tL : Nat → Nat} {O : cf_O} (hO5 : O.1 5 = 0) (hs : O.2.1 1 = sg) (hI : KRi sg n O iL) (h8 : Nms sg n iL 8) (hOu : KRo sg n O oL) (h6 : Nms sg n oL 6) (et : (O.1 17).toInt = (t : Int)) (t30 : t ≤ 30) (hT : ∀ j : Nat, j < t → KRt sg n O j (tL j) ∧ Nms sg n (tL j) 6) : ∀ fuel : Nat,
    (∀ (v1 v2 : Int32) (o r : cf_O), okO I_M o → Fr (fr_M [] [25] []) O o → -1 ≤ v2.toInt → v2.toInt ≤ 5 → v2.toInt + 1 < (nW sg n oL : Int) → ((v1.toInt = (oL : Int) ∧ ∃ k : Nat, v2.toInt < (k : Int) ∧ k + 1 < nW sg n oL ∧ ¬ gvn sg n iL t tL (keyq sg n oL (k + 1))) ∨ (v1.toInt = -1 ∧ ∀ k : Nat, v2.toInt < (k : Int) → k + 1 < nW sg n oL → gvn sg n iL t tL (keyq sg n oL (k + 1)))) → gM_link fuel 0 v1 v2 0 o = some r → LkR sg n iL oL t tL O r) ∧
    (∀ (v1 v2 : Int32) (o r : cf_O), okO I_M o → Fr (fr_M [] [25] []) O o → 0 ≤ v2.toInt → v2.toInt ≤ (t : Int) → U3c sg n iL oL t tL v2.toInt.toNat v1.toInt → (∀ j : Nat, (j : Int) < v2.toInt → KGq sg n iL t tL (o.2.1 25) j (nW sg n (tL j))) → gM_link fuel 1 v1 v2 0 o = some r → LkR sg n iL oL t tL O r) ∧
    (∀ (v1 v2 v3 : Int32) (o r : cf_O), okO I_M o → Fr (fr_M [] [25] []) O o → 0 ≤ v2.toInt → v2.toInt < (t : Int) → 0 ≤ v3.toInt → v3.toInt + 2 ≤ (nW sg n (tL v2.toInt.toNat) : Int) → (U3c sg n iL oL t tL v2.toInt.toNat v1.toInt ∧ (0 ≤ v1.toInt ∨ ¬ tUk sg n iL t tL v2.toInt.toNat v3.toInt.toNat) ∨ (¬ oU sg n iL oL t tL ∧ (∀ j : Nat, j < v2.toInt.toNat → ¬ tU sg n iL t tL j) ∧ tUk sg n iL t tL v2.toInt.toNat v3.toInt.toNat ∧ v1.toInt = (tL v2.toInt.toNat : Int))) → (∀ j : Nat, (j : Int) < v2.toInt → KGq sg n iL t tL (o.2.1 25) j (nW sg n (tL j))) → KGq sg n iL t tL (o.2.1 25) v2.toInt.toNat v3.toInt.toNat → gM_link fuel 2 v1 v2 v3 o = some r → LkR sg n iL oL t tL O r)
  | 0 => ⟨fun _ _ _ _ _ _ _ _ _ _ h => (by cases h), fun _ _ _ _ _ _ _ _ _ _ h => (by cases h), fun _ _ _ _ _ _ _ _ _ _ _ _ _ _ h => (by cases h)⟩
  | fuel + 1 => by
    obtain ⟨i0, i1, i2⟩ := link_go hO5 hs hI h8 hOu h6 et t30 hT fuel
    have z0 : (0 : Int32).toInt = 0 := rfl
    -- the facts at a later object
    have cv : ∀ o : cf_O, Fr (fr_M [] [25] []) O o → o.2.1 1 = sg ∧ KRi sg n o iL ∧ (o.1 17).toInt = (t : Int) ∧ ∀ j : Nat, j < t → KRt sg n o j (tL j) ∧ Nms sg n (tL j) 6 := fun o rO => by
      refine ⟨by rw [rO.2.1 1 rfl]; exact hs, ?_, by rw [rO.1 17 rfl]; exact et, fun j hj => ⟨?_, (hT j hj).2⟩⟩
      · unfold KRi
        rw [rO.1 10 rfl, rO.2.1 11 rfl, rO.2.1 12 rfl]; exact hI
      · unfold KRt
        rw [rO.2.1 18 rfl, rO.2.1 19 rfl, rO.2.1 20 rfl, rO.2.1 21 rfl]; exact (hT j hj).1
    refine ⟨?_, ?_, ?_⟩
    · intro v1 v2 o r ho rO h0 h5 h1 hv h
      obtain ⟨s', I', e', T'⟩ := cv o rO
      rcases ifc h with ⟨a, h⟩ | ⟨a, h⟩
      · have a : v2.toInt < 0 := c_lt a
        refine i1 v1 0 o r ho rO (by decide) (by rw [z0]; omega) ?_ (fun j q => absurd q (by rw [z0]; omega)) h
        rcases hv with ⟨q1, k, q2, q3, q4⟩ | ⟨q1, q2⟩
        · exact Or.inl ⟨⟨k, q3, q4⟩, q1⟩
        · exact Or.inr (Or.inr ⟨fun ⟨k, k1, k2⟩ => k2 (q2 k (by omega) k1), fun j hj => absurd hj (by rw [z0]; exact Nat.not_lt_zero j), q1⟩)
      · have a : 0 ≤ v2.toInt := c_nlt a
        have h := (ifn h).2
        have h := (ifn h).2
        obtain ⟨q, g, h⟩ := bd h
        have vi : v2.toNatClampNeg = v2.toInt.toNat := by have := tn_n v2; omega
        rw [vi] at g
        have w := hOu.2.2 v2.toInt.toNat (by omega)
        have e14 : o.2.1 14 = O.2.1 14 := rO.2.1 14 rfl
        have e15 : o.2.1 15 = O.2.1 15 := rO.2.1 15 rfl
        rw [e14, e15] at g
        have b15 : (O.2.1 15 v2.toInt.toNat).toInt ≤ 1600 := by rw [← e15]; exact (ho.2 15 _).2
        have g := giver_sp (n := n) (tL := tL) ho s' (by rw [w.1]; exact wf_0) b15 (by rw [w.1, w.2]; exact h6.2.2.1 _ (by omega) (by omega)) (by rw [w.1, w.2]; exact Nms_w h6 (by omega)) I' h8 e' t30 T' g
        rw [w.1, w.2] at g
        have g : GvR sg n iL t tL (keyq sg n oL (v2.toInt.toNat + 1)) q.toInt := g
        have zg := GvR_n g
        rcases ifc h with ⟨c, h⟩ | ⟨c, h⟩
        · have c : 0 ≤ q.toInt := c_le c
          have h : gM_link fuel 0 v1 (v2 + (-1)) 0 o = some r := link40 h
          have em := m_1' a (by omega : v2.toInt ≤ 5)
          generalize v2 + (-1) = w' at h em
          refine i0 v1 w' o r ho rO (by omega) (by omega) (by omega) ?_ h
          rcases hv with ⟨q1, k, q2, q3, q4⟩ | ⟨q1, q2⟩
          · exact Or.inl ⟨q1, k, by omega, q3, q4⟩
          · refine Or.inr ⟨q1, fun k k1 k2 => ?_⟩
            by_cases ek : (k : Int) = v2.toInt
            · rw [show k = v2.toInt.toNat from by omega]
              exact Classical.byContradiction (fun u => by have := zg.1.mpr u; omega)
            · exact q2 k (by omega) k2
        · have c : q.toInt < 0 := c_nle c
          have h : gM_link fuel 0 (o.1 16) (v2 + (-1)) 0 o = some r := link40 h
          have em := m_1' a (by omega : v2.toInt ≤ 5)
          generalize v2 + (-1) = w' at h em
          refine i0 (o.1 16) w' o r ho rO (by omega) (by omega) (by omega) (Or.inl ⟨?_, v2.toInt.toNat, by omega, by omega, zg.1.mp (by have := zg.2; omega)⟩) h
          rw [rO.1 16 rfl]; exact hOu.2.1
    · intro v1 v2 o r ho rO h0 h1 hv hg h
      obtain ⟨s', I', e', T'⟩ := cv o rO
      rcases ifc h with ⟨a, h⟩ | ⟨a, h⟩
      · have a := c_le a
        have e2 : v2.toInt.toNat = t := by omega
        rw [e2] at hv
        rcases ifc h with ⟨b, h⟩ | ⟨b, h⟩
        · have b : v1.toInt < 0 := c_lt b
          have er : r = o := (Option.some.inj h).symm
          subst er
          exact ⟨v1.toInt, hv, Or.inl ⟨b, rO, fun j hj => hg j (by omega)⟩⟩
        · have b : 0 ≤ v1.toInt := c_nlt b
          obtain ⟨x, hx, h⟩ := bd h
          have er : r = fp (fp o 5 3) 6 v1 := by rw [← Option.some.inj h]; exact fail_sp (by rw [rO.1 5 rfl]; exact hO5) hx
          subst er
          exact ⟨v1.toInt, hv, Or.inr ⟨b, fr_fp (fr_fp (fr_tr fr_rfl rO rfl rfl rfl) rfl) rfl, rfl, rfl⟩⟩
      · have a := c_nle a
        have N := (hT v2.toInt.toNat (by omega)).2
        refine i2 v1 v2 0 o r ho rO h0 (by omega) (by decide) (by have := N.1; rw [z0]; omega) (Or.inl ⟨hv, Or.inr (fun ⟨k, k1, _⟩ => absurd k1 (by rw [z0]; exact Nat.not_lt_zero k))⟩) hg (fun k k1 => absurd k1 (by rw [z0]; exact Nat.not_lt_zero k)) h
    · intro v1 v2 v3 o r ho rO h0 h1 h2 h3 hv hg hk h
      obtain ⟨s', I', e', T'⟩ := cv o rO
      obtain ⟨⟨k1, k2, k3⟩, N⟩ := T' v2.toInt.toNat (by omega)
      have n7 := N.2.1
      have vi : v2.toNatClampNeg = v2.toInt.toNat := by have := tn_n v2; omega
      have e3 := p_1 (v := v3) h2 (by omega)
      have e2 := p_1 (v := v2) h0 (by omega)
      have h := (ifn h).2
      rw [vi] at h
      rcases ifc h with ⟨a, h⟩ | ⟨a, h⟩
      · have a := c_le a
        have ea : nW sg n (tL v2.toInt.toNat) ≤ v3.toInt.toNat + 2 := by omega
        refine i1 v1 (v2 + 1) o r ho rO (by omega) (by omega) ?_ (fun j q => ?_) h
        · rw [show (v2 + 1).toInt.toNat = v2.toInt.toNat + 1 from by omega]
          rcases hv with ⟨u, w⟩ | ⟨u1, u2, u3, u4⟩
          · rcases u with ⟨u1, u2⟩ | ⟨u1, j, u2, u3, u4, u5⟩ | ⟨u1, u2, u3⟩
            · exact Or.inl ⟨u1, u2⟩
            · exact Or.inr (Or.inl ⟨u1, j, by omega, u3, u4, u5⟩)
            · refine Or.inr (Or.inr ⟨u1, fun j hj => ?_, u3⟩)
              by_cases ej : j = v2.toInt.toNat
              · rw [ej]
                exact fun y => (w.resolve_left (by omega)) ((tUk_e ea).mpr y)
              · exact u2 j (by omega)
          · exact Or.inr (Or.inl ⟨u1, v2.toInt.toNat, by omega, (tUk_e ea).mp u3, u2, u4⟩)
        · by_cases ej : (j : Int) = v2.toInt
          · have ej' : j = v2.toInt.toNat := by omega
            rw [ej']
            intro k kk1 kk2
            exact hk k (by omega) kk2
          · exact hg j (by omega)
      · have a := c_nle a
        have m6 : (6 * v2).toInt = 6 * v2.toInt := by rw [Int32.toInt_mul, i_bm (by rw [show (6 : Int32).toInt = 6 from rfl]; omega) (by rw [show (6 : Int32).toInt = 6 from rfl]; omega)]; rfl
        have m7 : (6 * v2 + v3).toInt = 6 * v2.toInt + v3.toInt := by rw [Int32.toInt_add, m6, i_bm (by omega) (by omega)]
        have mi : (6 * v2 + v3).toNatClampNeg = 6 * v2.toInt.toNat + v3.toInt.toNat := by have := tn_n (6 * v2 + v3); omega
        have h := (ifn h).2
        have h := (ifn h).2
        obtain ⟨q, g, h⟩ := bd h
        rw [mi] at g
        have w := k3 v3.toInt.toNat (by omega)
        have b21 : (o.2.1 21 (6 * v2.toInt.toNat + v3.toInt.toNat)).toInt ≤ 1600 := (ho.2 21 _).2
        have g := giver_sp (n := n) (tL := tL) ho s' (by rw [w.1]; exact wf_0) b21 (by rw [w.1, w.2]; exact N.2.2.1 _ (by omega) (by omega)) (by rw [w.1, w.2]; exact Nms_w N (by omega)) I' h8 e' t30 T' g
        rw [w.1, w.2] at g
        have g : GvR sg n iL t tL (keyq sg n (tL v2.toInt.toNat) (v3.toInt.toNat + 1)) q.toInt := g
        have h := (ifn h).2
        have h := (ifn h).2
        have h : (if (0 : Int32) ≤ upd (o.2.1 25) (6 * v2 + v3).toNatClampNeg q (6 * v2 + v3).toNatClampNeg then fM_link_135 (gM_link fuel) v1 v2 v3 (xp o 25 (6 * v2 + v3).toNatClampNeg q) else (if (0 : Int32) ≤ v1 then fM_link_135 (gM_link fuel) v1 v2 v3 (xp o 25 (6 * v2 + v3).toNatClampNeg q) else (if v2 < 0 ∨ 31 ≤ v2.toNatClampNeg then none else fM_link_136 (gM_link fuel) v2 v3 (o.2.1 18 v2.toNatClampNeg) (xp o 25 (6 * v2 + v3).toNatClampNeg q)))) = some r := h
        rw [up_s, mi] at h
        have bq : (I_M.2 25).1 ≤ q.toInt ∧ q.toInt ≤ (I_M.2 25).2 := by
          have u : (-1 : Int) ≤ q.toInt ∧ q.toInt ≤ 37 := by
            rcases g with u | ⟨k, u1, u2, _⟩ | ⟨j, u1, u2, _⟩
            · omega
            · have := h8.2.1; omega
            · omega
          exact u
        have ho2 : okO I_M (xp o 25 (6 * v2.toInt.toNat + v3.toInt.toNat) q) := ok_xp ho bq
        have rO2 : Fr (fr_M [] [25] []) O (xp o 25 (6 * v2.toInt.toNat + v3.toInt.toNat) q) := fr_xp rO rfl
        have s31 : (v3 + 1).toInt.toNat = v3.toInt.toNat + 1 := by omega
        have hg2 : ∀ j : Nat, (j : Int) < v2.toInt → KGq sg n iL t tL ((xp o 25 (6 * v2.toInt.toNat + v3.toInt.toNat) q).2.1 25) j (nW sg n (tL j)) := fun j hj k kk1 kk2 => by
          show GvR sg n iL t tL _ (upd (o.2.1 25) (6 * v2.toInt.toNat + v3.toInt.toNat) q (6 * j + k)).toInt
          have n7j := (hT j (by omega)).2.2.1
          have ne : ¬ 6 * j + k = 6 * v2.toInt.toNat + v3.toInt.toNat := by omega
          rw [up_o ne]; exact hg j hj k kk1 kk2
        have hk2 : KGq sg n iL t tL ((xp o 25 (6 * v2.toInt.toNat + v3.toInt.toNat) q).2.1 25) v2.toInt.toNat (v3 + 1).toInt.toNat := fun k kk1 kk2 => by
          show GvR sg n iL t tL _ (upd (o.2.1 25) (6 * v2.toInt.toNat + v3.toInt.toNat) q (6 * v2.toInt.toNat + k)).toInt
          by_cases ek : k = v3.toInt.toNat
          · rw [ek, up_s]; exact g
          · have ne : ¬ 6 * v2.toInt.toNat + k = 6 * v2.toInt.toNat + v3.toInt.toNat := by omega
            rw [up_o ne]; exact hk k (by omega) kk2
        have us := tUk_s (c := v3.toInt.toNat) (by omega) g
        rcases ifc h with ⟨c, h⟩ | ⟨c, h⟩
        · have c : 0 ≤ q.toInt := c_le c
          refine i2 v1 v2 (v3 + 1) _ r ho2 rO2 h0 h1 (by omega) (by omega) ?_ hg2 hk2 h
          rw [s31, us]
          rcases hv with ⟨u, w⟩ | ⟨u1, u2, u3, u4⟩
          · exact Or.inl ⟨u, w.imp id (fun y z => z.elim y (fun z => by omega))⟩
          · exact Or.inr ⟨u1, u2, Or.inl u3, u4⟩
        · have c : q.toInt < 0 := c_nle c
          rcases ifc h with ⟨d, h⟩ | ⟨d, h⟩
          · have d : 0 ≤ v1.toInt := c_le d
            refine i2 v1 v2 (v3 + 1) _ r ho2 rO2 h0 h1 (by omega) (by omega) ?_ hg2 hk2 h
            rw [s31, us]
            rcases hv with ⟨u, w⟩ | ⟨u1, u2, u3, u4⟩
            · exact Or.inl ⟨u, Or.inl d⟩
            · exact Or.inr ⟨u1, u2, Or.inl u3, u4⟩
          · have d : v1.toInt < 0 := c_nle d
            have h := (ifn h).2
            rw [vi] at h
            refine i2 (o.2.1 18 v2.toInt.toNat) v2 (v3 + 1) _ r ho2 rO2 h0 h1 (by omega) (by omega) ?_ hg2 hk2 h
            rw [s31, us]
            refine Or.inr ?_
            rcases hv with ⟨u, w⟩ | ⟨u1, u2, u3, u4⟩
            · rcases u with ⟨u1, u2⟩ | ⟨u1, j, u2, u3, u4, u5⟩ | ⟨u1, u2, u3⟩
              · omega
              · omega
              · exact ⟨u1, u2, Or.inr c, k1⟩
            · omega
theorem link_sp {sg : Nat → Int32} {n : Nat} {x : NXq} {o r : cf_O} (ho : okO I_M o) (h5 : o.1 5 = 0) (hs : o.2.1 1 = sg) (K : KRx sg n o x) (P : PNx sg n x) (x3 : x.1 = 3) (h : fM_link o = some r) : LkR sg n x.2.1 x.2.2.1 x.2.2.2.1 x.2.2.2.2.1 o r := by
  obtain ⟨st, iL, oL, t, tL, rc, rL⟩ := x
  obtain ⟨K1, K2, K3, K4, K5⟩ := K
  obtain ⟨P1, P2, P3, P4, P5⟩ := P
  have x3 : st = 3 := x3
  subst x3
  have Pi := P1 (by show 1 ≤ 3; omega)
  have Po := P2 (by show 2 ≤ 3; omega)
  have Ki := K2 (by show 1 ≤ 3; omega)
  have Ko := K3 (by show 2 ≤ 3; omega)
  have n7 := Po.1.2.1
  have n2 := Po.1.1
  have e13 := Ko.1
  have n7 : nW sg n oL ≤ 6 + 1 := n7
  have n2 : 2 ≤ nW sg n oL := n2
  have e13 : (o.1 13).toInt + 1 = (nW sg n oL : Int) := e13
  have em : ((o.1 13) - 1).toInt = (o.1 13).toInt - 1 := i_sub' (by omega) (by omega) (by decide) (by decide)
  exact (link_go h5 hs Ki Pi.1 Ko Po.1 K4 P3 (fun j hj => ⟨(K5 j hj).1, (P5 j hj).1⟩) cfFU).1 (-1) ((o.1 13) - 1) o r ho fr_rfl (by omega) (by omega) (by omega) (Or.inr ⟨rfl, fun k k1 k2 => by omega⟩) h
