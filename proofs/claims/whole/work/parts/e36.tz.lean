theorem asv_d {sg : Nat → Int32} {f : Nat} : ∀ {w k : Nat}, k < w → (∀ i : Nat, i < w → aSg (sg (f + i)).toInt) → asv sg f w / 4 ^ k % 4 = asd (sg (f + k)).toInt
  | 0, k, h, _ => absurd h (Nat.not_lt_zero k)
  | w + 1, k, h, ha => by
    show (asv sg f w + asd (sg (f + w)).toInt * 4 ^ w) / 4 ^ k % 4 = _
    have p : 0 < 4 ^ k := Nat.pow_pos (by decide)
    by_cases e : k = w
    · subst e
      have b := asv_b (sg := sg) (f := f) (k := k) (fun i hi => ha i (by omega))
      rw [Nat.add_mul_div_right _ _ p, Nat.div_eq_of_lt b, Nat.zero_add]
      exact Nat.mod_eq_of_lt (asd_b (ha k (by omega)))
    · obtain ⟨d, hd⟩ : ∃ d, w = k + 1 + d := ⟨w - (k + 1), by omega⟩
      have q := asv_d (sg := sg) (f := f) (w := w) (k := k) (by omega) (fun i hi => ha i (by omega))
      have e4 : asd (sg (f + w)).toInt * 4 ^ w = 4 ^ k * (4 * (asd (sg (f + w)).toInt * 4 ^ d)) := by
        rw [hd, Nat.pow_add, Nat.pow_add, Nat.pow_one]
        rw [Nat.mul_assoc (4 ^ k) 4 (4 ^ d), Nat.mul_left_comm, Nat.mul_left_comm (asd _) 4]
      rw [e4, Nat.add_mul_div_left _ _ p, Nat.add_mul_mod_self_left]
      exact q
theorem as_x : ∀ k : Nat, k < 5 → ∀ v : Nat, v < 1024 → ((Int32.ofNat v >>> ((2 * Int32.ofNat k) &&& 31)) &&& 3).toInt = ((v / 4 ^ k % 4 : Nat) : Int) := by decide +kernel
theorem ask_x {sg : Nat → Int32} {f w : Nat} {v k : Int32} (ev : v.toInt = (asv sg f w : Int)) (w5 : w ≤ 5) (k0 : 0 ≤ k.toInt) (kw : k.toInt < (w : Int)) (ha : ∀ i : Nat, i < w → aSg (sg (f + i)).toInt) : ((v >>> ((2 * k) &&& 31)) &&& 3).toInt = (asd (sg (f + k.toInt.toNat)).toInt : Int) := by
  have b := asv_b ha
  have p : 4 ^ w ≤ 4 ^ 5 := Nat.pow_le_pow_right (by decide) w5
  have e1 : v = Int32.ofNat (asv sg f w) := by have := of_i (x := v) (by omega); rw [this]; congr 1; omega
  have e2 : k = Int32.ofNat k.toInt.toNat := of_i k0
  have p5 : (4 : Nat) ^ 5 = 1024 := by decide
  have z := as_x k.toInt.toNat (by omega) (asv sg f w) (by omega)
  rw [← e1, ← e2, asv_d (by omega) ha] at z
  exact z
def TbS (sg : Nat → Int32) (N t : Nat) (w c : Nat → Nat) (rf : Nat → Nat → Nat) (en : Nat → Int) (nl om : cf_O) : Prop := om.2.1 1 = sg ∧ t ≤ 30 ∧ N ≤ 8 ∧ (∀ j : Nat, j < t → w j ≤ 5 ∧ c j ≤ 16 ∧ (om.2.1 19 j).toInt = (w j : Int) + 1 ∧ (nl.2.1 8 j).toInt = (w j : Int) ∧ (om.2.1 22 j).toInt = (c j : Int) ∧ (nl.2.1 10 j).toInt = (c j : Int)) ∧ (∀ j r : Nat, j < t → r < c j → rf j r + w j ≤ 1600 ∧ ((om.2.1 23 (16 * j + r)).toInt = (rf j r : Int) ∨ w j = 0) ∧ (nl.2.1 12 (16 * j + r)).toInt = (asv sg (rf j r) (w j) : Int) ∧ ∀ i : Nat, i < w j → aSg (sg (rf j r + i)).toInt) ∧ (∀ j k : Nat, j < t → k < w j → om.2.1 25 (6 * j + k) = nl.2.1 13 (6 * j + k) ∧ ((0 ≤ (om.2.1 25 (6 * j + k)).toInt ∧ (om.2.1 25 (6 * j + k)).toInt < (N : Int)) ∨ (8 ≤ (om.2.1 25 (6 * j + k)).toInt ∧ (om.2.1 25 (6 * j + k)).toInt < 8 + (t : Int)))) ∧ (∀ j : Nat, j < t → (0 < c j → (om.2.1 24 j).toInt = en j) ∧ (nl.2.1 11 j).toInt = (if c j = 0 then 1 else en j))
def LtS (t lim : Nat) (nl om : cf_O) : Prop := ∀ j : Nat, j < t → (om.2.1 27 j = 0 ∧ nl.2.1 16 j = -1) ∨ (om.2.1 27 j = 1 ∧ nl.2.1 16 j = om.2.1 26 j ∧ 0 ≤ (om.2.1 26 j).toInt ∧ (om.2.1 26 j).toInt < 2 * (lim : Int))
theorem lit_sp {v r : Int32} {o : cf_O} (h : fM_literal v o = some r) : (v.toInt < 8 ∧ r = 2 * (v + 1)) ∨ (8 ≤ v.toInt ∧ r = o.2.1 26 (v - 8).toNatClampNeg) := by
  rcases ifc h with ⟨a, h⟩ | ⟨a, h⟩
  · have a : 8 ≤ v.toInt := c_le a
    have h := (ifn h).2
    exact Or.inr ⟨a, (Option.some.inj h).symm⟩
  · have a : v.toInt < 8 := c_nle a
    exact Or.inl ⟨a, (Option.some.inj h).symm⟩
theorem x1_b {x : Int32} {m : Nat} (h0 : 0 ≤ x.toInt) (h1 : x.toInt < 2 * (m : Int)) : 0 ≤ (x ^^^ 1).toInt ∧ (x ^^^ 1).toInt < 2 * (m : Int) := by
  have := i_x1 h0
  omega
theorem pr_90 {rc : Nat → Int32 → Int32 → Int32 → Int32 → cf_O → cf_O → Option (Int32 × cf_O)} {v1 v2 v4 v5 : Int32} {o0 o1 : cf_O} : fNl_productOf_90 rc v1 v2 v4 v5 o0 o1 = rc 0 v1 v2 v4 (v5 + 1) o0 o1 := rfl
theorem tl_106 {rc : Nat → Int32 → Int32 → Int32 → Int32 → Int32 → cf_O → Option (Int32 × cf_O)} {v1 v2 v3 v5 s0 : Int32} {o : cf_O} : fM_tableLiteral_106 rc v1 v2 v3 v5 s0 o = rc 1 v1 v2 v3 s0 (v5 + 1) o := rfl
theorem tl_e {rc : Nat → Int32 → Int32 → Int32 → Int32 → Int32 → cf_O → Option (Int32 × cf_O)} {v1 all vr v4 : Int32} {om : cf_O} {rm : Int32 × cf_O} (h : op_k (all ^^^ 1) (fun x_5 => op_k (v4 ^^^ 1) (fun x_6 => Option.bind (fM_and x_5 x_6 om) (fun q_7 => op_k (q_7.1 ^^^ 1) (fun x_10 => op_k (vr + 1) (fun x_11 => rc 0 v1 x_10 x_11 0 0 q_7.2))))) = some rm) : Option.bind (fM_and (all ^^^ 1) (v4 ^^^ 1) om) (fun q_7 => rc 0 v1 (q_7.1 ^^^ 1) (vr + 1) 0 0 q_7.2) = some rm := h
theorem pr_73 {rc : Nat → Int32 → Int32 → Int32 → Int32 → cf_O → cf_O → Option (Int32 × cf_O)} {v1 v2 v4 v5 v6 s0 : Int32} {o0 o1 : cf_O} : fNl_productOf_73 rc v1 v2 v4 v5 v6 s0 o0 o1 = Option.bind (fGr_and v4 (s0 ^^^ (1 - v6)) o1) (fun q_3 => fNl_productOf_90 rc v1 v2 q_3.1 v5 o0 q_3.2) := by
  unfold fNl_productOf_73
  rw [opk, opk]
theorem prod_sim {sg : Nat → Int32} {N t b : Nat} {w c : Nat → Nat} {rf : Nat → Nat → Nat} {en : Nat → Int} {nl : cf_O} {j q : Nat} {v1 row all vr : Int32} (ej : v1.toInt = (j : Int)) (hj : j < t) (hq : q < c j) (er : vr.toInt = (q : Int)) (eb : b = N + 1) : ∀ (f1 f2 : Nat) (v4 v5 : Int32) (n : Nat) (gr om : cf_O) (rg rm : Int32 × cf_O), TbS sg N t w c rf en nl om → LtS t (b + n) nl om → (∀ k : Nat, k < w j → 8 ≤ (om.2.1 25 (6 * j + k)).toInt → om.2.1 27 ((om.2.1 25 (6 * j + k)).toInt - 8).toNat = 1) → Rg b n gr om → row = nl.2.1 12 (16 * j + q) → 0 ≤ v4.toInt → v4.toInt < 2 * ((b + n : Nat) : Int) → 0 ≤ v5.toInt → v5.toInt ≤ (w j : Int) → gNl_productOf f1 0 v1 row v4 v5 nl gr = some rg → gM_tableLiteral f2 1 v1 all vr v4 v5 om = some rm → ∃ (n' f : Nat) (om' : cf_O), n ≤ n' ∧ Rg b n' rg.2 om' ∧ 0 ≤ rg.1.toInt ∧ rg.1.toInt < 2 * ((b + n' : Nat) : Int) ∧ Fr (fr_M [31, 36] [32, 33, 34] []) om om' ∧ Fr (fr_M [2, 3] [4, 5, 6, 8, 9] []) gr rg.2 ∧ Option.bind (fM_and (all ^^^ 1) (rg.1 ^^^ 1) om') (fun q_7 => gM_tableLiteral f 0 v1 (q_7.1 ^^^ 1) (vr + 1) 0 0 q_7.2) = some rm
  | 0, f2, v4, v5, n, gr, om, rg, rm, T, L, F, R, eR, a0, a1, k0, k1, h1, h2 => by cases h1
  | f1 + 1, 0, v4, v5, n, gr, om, rg, rm, T, L, F, R, eR, a0, a1, k0, k1, h1, h2 => by cases h2
  | f1 + 1, f2 + 1, v4, v5, n, gr, om, rg, rm, T, L, F, R, eR, a0, a1, k0, k1, h1, h2 => by
    have T0 := T
    obtain ⟨T1, T2, T3, T4, T5, T6, T7⟩ := T
    obtain ⟨w5, c16, w1, w2, c1, c2⟩ := T4 j hj
    obtain ⟨y1, y2, y3, y4⟩ := T5 j q hj hq
    have vi : v1.toNatClampNeg = j := by have := tn_n v1; omega
    have e5 := p_1 (v := v5) k0 (by omega)
    have h1 := (ifn h1).2
    have h2 := (ifn h2).2
    rw [vi] at h1 h2
    have n2 := R.1.2.2.2.2.1
    rcases ifc h1 with ⟨ca, h1⟩ | ⟨ca, h1⟩
    · have ca := c_le ca
      rcases ifc h2 with ⟨_, h2⟩ | ⟨d, _⟩
      · have er : rg = (v4, gr) := (Option.some.inj h1).symm
        subst er
        exact ⟨n, f2, om, Nat.le_refl n, R, a0, a1, fr_rfl, fr_rfl, tl_e (rc := gM_tableLiteral f2) h2⟩
      · have d := c_nle d; omega
    · have ca := c_nle ca
      rcases ifc h2 with ⟨d, _⟩ | ⟨_, h2⟩
      · have d := c_le d; omega
      -- the sign and the source
      have m16 : (16 * v1).toInt = 16 * (j : Int) := by rw [Int32.toInt_mul, ej, i_bm (by rw [show (16 : Int32).toInt = 16 from rfl]; omega) (by rw [show (16 : Int32).toInt = 16 from rfl]; omega)]; rfl
      have m17 : (16 * v1 + vr).toInt = 16 * (j : Int) + (q : Int) := by rw [Int32.toInt_add, m16, er, i_bm (by omega) (by omega)]
      have mi16 : (16 * v1 + vr).toNatClampNeg = 16 * j + q := by have := tn_n (16 * v1 + vr); omega
      have y2 := y2.resolve_right (by omega)
      have h2 := (ifn h2).2
      rw [mi16] at h2
      have e23 : (om.2.1 23 (16 * j + q) + v5).toInt = (rf j q : Int) + v5.toInt := by rw [i_add' (by omega) (by omega) k0 (by omega), y2]
      have mi23 : (om.2.1 23 (16 * j + q) + v5).toNatClampNeg = rf j q + v5.toInt.toNat := by have := tn_n (om.2.1 23 (16 * j + q) + v5); omega
      have h2 := (ifn h2).2
      rw [mi23, T1] at h2
      have m6 : (6 * v1).toInt = 6 * (j : Int) := by rw [Int32.toInt_mul, ej, i_bm (by rw [show (6 : Int32).toInt = 6 from rfl]; omega) (by rw [show (6 : Int32).toInt = 6 from rfl]; omega)]; rfl
      have m7 : (6 * v1 + v5).toInt = 6 * (j : Int) + v5.toInt := by rw [Int32.toInt_add, m6, i_bm (by omega) (by omega)]
      have mi : (6 * v1 + v5).toNatClampNeg = 6 * j + v5.toInt.toNat := by have := tn_n (6 * v1 + v5); omega
      have m6' : (v1 * 6).toInt = 6 * (j : Int) := by rw [Int32.toInt_mul, ej, i_bm (by rw [show (6 : Int32).toInt = 6 from rfl]; omega) (by rw [show (6 : Int32).toInt = 6 from rfl]; omega), show (6 : Int32).toInt = 6 from rfl]; omega
      have m7' : (v1 * 6 + v5).toInt = 6 * (j : Int) + v5.toInt := by rw [Int32.toInt_add, m6', i_bm (by omega) (by omega)]
      have mi' : (v1 * 6 + v5).toNatClampNeg = 6 * j + v5.toInt.toNat := by have := tn_n (v1 * 6 + v5); omega
      have h2 := (ifn h2).2
      rw [mi] at h2
      obtain ⟨lt, hl, h2⟩ := bd h2
      obtain ⟨s1, s2⟩ := T6 j v5.toInt.toNat hj (by omega)
      have ak := ask_x (v := row) (k := v5) (w := w j) (f := rf j q) (sg := sg) (by rw [eR]; exact y3) w5 k0 (by omega) y4
      have sgn := y4 v5.toInt.toNat (by omega)
      -- the literals are the same, and good
      have lits : ∀ l2 : Int32, (¬ (8 : Int32) ≤ nl.2.1 13 (6 * j + v5.toInt.toNat) → l2 = 2 * (nl.2.1 13 (6 * j + v5.toInt.toNat) + 1)) → ((8 : Int32) ≤ nl.2.1 13 (6 * j + v5.toInt.toNat) → l2 = nl.2.1 16 (nl.2.1 13 (6 * j + v5.toInt.toNat) - 8).toNatClampNeg) → l2 = lt ∧ 0 ≤ lt.toInt ∧ lt.toInt < 2 * ((b + n : Nat) : Int) := fun l2 q1 q2 => by
        rw [← s1] at q1 q2
        rcases lit_sp hl with ⟨u1, u2⟩ | ⟨u1, u2⟩
        · have q1 := q1 (fun z => by have z : (8 : Int) ≤ _ := c_le z; omega)
          have s2 := s2.resolve_right (by omega)
          have e1 : (om.2.1 25 (6 * j + v5.toInt.toNat) + 1).toInt = (om.2.1 25 (6 * j + v5.toInt.toNat)).toInt + 1 := p_1 s2.1 (by omega)
          have e2 : (2 * (om.2.1 25 (6 * j + v5.toInt.toNat) + 1)).toInt = 2 * ((om.2.1 25 (6 * j + v5.toInt.toNat)).toInt + 1) := by rw [Int32.toInt_mul, e1, i_bm (by rw [show (2 : Int32).toInt = 2 from rfl]; omega) (by rw [show (2 : Int32).toInt = 2 from rfl]; omega)]; rfl
          exact ⟨by rw [q1, u2], by rw [u2, e2]; omega, by rw [u2, e2]; omega⟩
        · have q2 := q2 (Int32.le_iff_toInt_le.mpr u1)
          have s2 := s2.resolve_left (by omega)
          have e8 : (om.2.1 25 (6 * j + v5.toInt.toNat) - 8).toInt = (om.2.1 25 (6 * j + v5.toInt.toNat)).toInt - 8 := i_sub' (by omega) (by omega) (by decide) (by decide)
          have i8 : (om.2.1 25 (6 * j + v5.toInt.toNat) - 8).toNatClampNeg = ((om.2.1 25 (6 * j + v5.toInt.toNat)).toInt - 8).toNat := by have := tn_n (om.2.1 25 (6 * j + v5.toInt.toNat) - 8); omega
          rw [i8] at q2 u2
          have fd := F v5.toInt.toNat (by omega) u1
          rcases L ((om.2.1 25 (6 * j + v5.toInt.toNat)).toInt - 8).toNat (by omega) with z | z
          · rw [z.1] at fd; exact absurd fd (by decide)
          · exact ⟨by rw [q2, u2]; exact z.2.1, by rw [u2]; exact z.2.2.1, by rw [u2]; have := z.2.2.2; omega⟩
      have sk : sg (rf j q + v5.toInt.toNat) = 45 → fNl_productOf_90 (gNl_productOf f1) v1 row v4 v5 nl gr = some rg → fM_tableLiteral_106 (gM_tableLiteral f2) v1 all vr v5 v4 om = some rm → ∃ (n' f : Nat) (om' : cf_O), n ≤ n' ∧ Rg b n' rg.2 om' ∧ 0 ≤ rg.1.toInt ∧ rg.1.toInt < 2 * ((b + n' : Nat) : Int) ∧ Fr (fr_M [31, 36] [32, 33, 34] []) om om' ∧ Fr (fr_M [2, 3] [4, 5, 6, 8, 9] []) gr rg.2 ∧ Option.bind (fM_and (all ^^^ 1) (rg.1 ^^^ 1) om') (fun q_7 => gM_tableLiteral f 0 v1 (q_7.1 ^^^ 1) (vr + 1) 0 0 q_7.2) = some rm := fun _ h1 h2 => prod_sim ej hj hq er eb f1 f2 v4 (v5 + 1) n gr om rg rm T0 L F R eR a0 a1 (by omega) (by omega) (pr_90.symm.trans h1) (tl_106.symm.trans h2)
      -- a literal comes in
      have go : ∀ x : Int32, 0 ≤ x.toInt → x.toInt < 2 * ((b + n : Nat) : Int) → Option.bind (fGr_and v4 x gr) (fun q_3 => fNl_productOf_90 (gNl_productOf f1) v1 row q_3.1 v5 nl q_3.2) = some rg → fM_tableLiteral_103 (gM_tableLiteral f2) v1 all vr v5 v4 x om = some rm → ∃ (n' f : Nat) (om' : cf_O), n ≤ n' ∧ Rg b n' rg.2 om' ∧ 0 ≤ rg.1.toInt ∧ rg.1.toInt < 2 * ((b + n' : Nat) : Int) ∧ Fr (fr_M [31, 36] [32, 33, 34] []) om om' ∧ Fr (fr_M [2, 3] [4, 5, 6, 8, 9] []) gr rg.2 ∧ Option.bind (fM_and (all ^^^ 1) (rg.1 ^^^ 1) om') (fun q_7 => gM_tableLiteral f 0 v1 (q_7.1 ^^^ 1) (vr + 1) 0 0 q_7.2) = some rm := fun x x0 x1 h1 h2 => by
        obtain ⟨g, hg, h1⟩ := bd h1
        obtain ⟨m, hm, h2⟩ := bd h2
        obtain ⟨A1, n', A2, A3, A4, A5, A6, A7, A8⟩ := eq_and R a0 a1 x0 x1 hg hm
        have e1 : m.2.2.1 1 = om.2.1 1 := A6.2.1 1 rfl
        have T' : TbS sg N t w c rf en nl m.2 := by
          unfold TbS
          rw [A6.2.1 1 rfl, A6.2.1 19 rfl, A6.2.1 22 rfl, A6.2.1 23 rfl, A6.2.1 24 rfl, A6.2.1 25 rfl]; exact T0
        have L' : LtS t (b + n') nl m.2 := fun i hi => by
          rw [A6.2.1 27 rfl, A6.2.1 26 rfl]
          rcases L i hi with z | z
          · exact Or.inl z
          · exact Or.inr ⟨z.1, z.2.1, z.2.2.1, by have := z.2.2.2; omega⟩
        have F' : ∀ k : Nat, k < w j → 8 ≤ (m.2.2.1 25 (6 * j + k)).toInt → m.2.2.1 27 ((m.2.2.1 25 (6 * j + k)).toInt - 8).toNat = 1 := by
          rw [A6.2.1 27 rfl, A6.2.1 25 rfl]; exact F
        rw [A1, pr_90] at h1
        rw [tl_106] at h2
        obtain ⟨n3, f, om3, B1, B2, B3, B4, B5, B6, B7⟩ := prod_sim ej hj hq er eb f1 f2 m.1 (v5 + 1) n' g.2 m.2 rg rm T' L' F' A3 eR A4 A5 (by omega) (by omega) h1 h2
        exact ⟨n3, f, om3, by omega, B2, B3, B4, fr_tr A6 B5 rfl rfl rfl, fr_tr A7 B6 rfl rfl rfl, B7⟩
      -- which way
      rw [opk, opk, opk] at h1
      have k73 : ∀ l2 : Int32, l2 = lt → 0 ≤ lt.toInt → lt.toInt < 2 * ((b + n : Nat) : Int) → ¬ (sg (rf j q + v5.toInt.toNat)).toInt = 45 → fNl_productOf_73 (gNl_productOf f1) v1 row v4 v5 ((row >>> ((2 * v5) &&& 31)) &&& 3) l2 nl gr = some rg → ∃ (n' f : Nat) (om' : cf_O), n ≤ n' ∧ Rg b n' rg.2 om' ∧ 0 ≤ rg.1.toInt ∧ rg.1.toInt < 2 * ((b + n' : Nat) : Int) ∧ Fr (fr_M [31, 36] [32, 33, 34] []) om om' ∧ Fr (fr_M [2, 3] [4, 5, 6, 8, 9] []) gr rg.2 ∧ Option.bind (fM_and (all ^^^ 1) (rg.1 ^^^ 1) om') (fun q_7 => gM_tableLiteral f 0 v1 (q_7.1 ^^^ 1) (vr + 1) 0 0 q_7.2) = some rm := fun l2 el l0 l1 n45 h1 => by
        rcases ifc h2 with ⟨y, _⟩ | ⟨_, h2⟩
        · exact absurd (show (sg (rf j q + v5.toInt.toNat)).toInt = 45 by rw [y]; rfl) n45
        rw [el] at h1
        rcases ifc h2 with ⟨y, h2⟩ | ⟨y, h2⟩
        · have y : (sg (rf j q + v5.toInt.toNat)).toInt = 49 := c_eq y
          have e1 : (row >>> ((2 * v5) &&& 31)) &&& 3 = 1 := Int32.toInt_inj.mp (by rw [ak, y]; decide)
          rw [pr_73] at h1
          rw [e1, show (1 : Int32) - 1 = 0 from rfl, Int32.xor_zero] at h1
          exact go lt l0 l1 h1 h2
        · have y : ¬ (sg (rf j q + v5.toInt.toNat)).toInt = 49 := c_ne y
          have y48 : (sg (rf j q + v5.toInt.toNat)).toInt = 48 := by rcases sgn with z | z | z <;> omega
          have e1 : (row >>> ((2 * v5) &&& 31)) &&& 3 = 0 := Int32.toInt_inj.mp (by rw [ak, y48]; decide)
          rw [pr_73] at h1
          rw [e1, show (1 : Int32) - 0 = 1 from rfl] at h1
          have xb := x1_b (m := b + n) l0 l1
          exact go (lt ^^^ 1) xb.1 xb.2 h1 h2
      rcases ifc h1 with ⟨d, h1⟩ | ⟨d, h1⟩
      · have d : ((row >>> ((2 * v5) &&& 31)) &&& 3).toInt = 2 := c_eq d
        have y45 : (sg (rf j q + v5.toInt.toNat)).toInt = 45 := by
          rw [ak] at d
          unfold asd at d
          rcases sgn with z | z | z
          · rw [z] at d; exact absurd d (by decide)
          · rw [z] at d; exact absurd d (by decide)
          · exact z
        have y45' : sg (rf j q + v5.toInt.toNat) = 45 := Int32.toInt_inj.mp y45
        rcases ifc h2 with ⟨_, h2⟩ | ⟨y, _⟩
        · exact sk y45' h1 h2
        · exact absurd y45' y
      · have d : ¬ ((row >>> ((2 * v5) &&& 31)) &&& 3).toInt = 2 := c_ne d
        have n45 : ¬ (sg (rf j q + v5.toInt.toNat)).toInt = 45 := fun z => d (by rw [ak, z]; decide)
        rw [opk, opk, mi'] at h1
        have h1 := (ifn h1).2
        rw [opk] at h1
        rcases ifc h1 with ⟨e, h1⟩ | ⟨e, h1⟩
        · rw [opk] at h1
          have h1 := (ifn h1).2
          rw [opk] at h1
          obtain ⟨u1, u2, u3⟩ := lits _ (fun z => absurd e z) (fun _ => rfl)
          exact k73 _ u1 u2 u3 n45 h1
        · rw [opk, opk] at h1
          obtain ⟨u1, u2, u3⟩ := lits _ (fun _ => rfl) (fun z => absurd z e)
          exact k73 _ u1 u2 u3 n45 h1
