theorem TbS_f {sg : Nat → Int32} {N t : Nat} {w c : Nat → Nat} {rf : Nat → Nat → Nat} {en : Nat → Int} {nl om nl' om' : cf_O} (T : TbS sg N t w c rf en nl om) (a1 : om'.2.1 1 = om.2.1 1) (a2 : om'.2.1 19 = om.2.1 19) (a3 : om'.2.1 22 = om.2.1 22) (a4 : om'.2.1 23 = om.2.1 23) (a5 : om'.2.1 24 = om.2.1 24) (a6 : om'.2.1 25 = om.2.1 25) (b1 : nl'.2.1 8 = nl.2.1 8) (b2 : nl'.2.1 10 = nl.2.1 10) (b3 : nl'.2.1 11 = nl.2.1 11) (b4 : nl'.2.1 12 = nl.2.1 12) (b5 : nl'.2.1 13 = nl.2.1 13) : TbS sg N t w c rf en nl' om' := by
  unfold TbS
  rw [a1, a2, a3, a4, a5, a6, b1, b2, b3, b4, b5]; exact T
def Fddq (w : Nat → Nat) (om : cf_O) (j p : Nat) : Prop := ∀ k : Nat, k < p → k < w j → 8 ≤ (om.2.1 25 (6 * j + k)).toInt → om.2.1 27 ((om.2.1 25 (6 * j + k)).toInt - 8).toNat = 1
theorem sum_sim {sg : Nat → Int32} {N t b : Nat} {w c : Nat → Nat} {rf : Nat → Nat → Nat} {en : Nat → Int} {nl : cf_O} {j : Nat} {v1 : Int32} (ej : v1.toInt = (j : Int)) (hj : j < t) (eb : b = N + 1) : ∀ (f1 f2 : Nat) (v3 v4 : Int32) (n : Nat) (gr om : cf_O) (rg rm : Int32 × cf_O), TbS sg N t w c rf en nl om → LtS t (b + n) nl om → Fddq w om j (w j) → Rg b n gr om → 0 ≤ v3.toInt → v3.toInt < 2 * ((b + n : Nat) : Int) → 0 ≤ v4.toInt → v4.toInt ≤ (c j : Int) → gNl_sumOf f1 0 v1 v3 v4 nl gr = some rg → gM_tableLiteral f2 0 v1 v3 v4 0 0 om = some rm → ∃ n' : Nat, n ≤ n' ∧ Rg b n' rg.2 rm.2 ∧ rg.1 = rm.1 ∧ 0 ≤ rm.1.toInt ∧ rm.1.toInt < 2 * ((b + n' : Nat) : Int) ∧ Fr (fr_M [31, 36] [32, 33, 34] []) om rm.2 ∧ Fr (fr_M [2, 3] [4, 5, 6, 8, 9] []) gr rg.2
  | 0, f2, v3, v4, n, gr, om, rg, rm, T, L, F, R, a0, a1, k0, k1, h1, h2 => by cases h1
  | f1 + 1, 0, v3, v4, n, gr, om, rg, rm, T, L, F, R, a0, a1, k0, k1, h1, h2 => by cases h2
  | f1 + 1, f2 + 1, v3, v4, n, gr, om, rg, rm, T, L, F, R, a0, a1, k0, k1, h1, h2 => by
    have T0 := T
    obtain ⟨T1, T2, T3, T4, T5, T6, T7⟩ := T
    obtain ⟨w5, c16, w1, w2, c1, c2⟩ := T4 j hj
    obtain ⟨e1, e2⟩ := T7 j hj
    have vi : v1.toNatClampNeg = j := by have := tn_n v1; omega
    have e4 := p_1 (v := v4) k0 (by omega)
    have h1 := (ifn h1).2
    have h2 := (ifn h2).2
    rw [vi] at h1 h2
    rcases ifc h1 with ⟨a, h1⟩ | ⟨a, h1⟩
    · have a := c_le a
      have h2 := ift h2 (Int32.le_iff_toInt_le.mpr (by omega))
      have h1 := (ifn h1).2
      have h2 := (ifn h2).2
      have xb := x1_b (m := b + n) a0 a1
      have same : ∀ x : Int32, 0 ≤ x.toInt → x.toInt < 2 * ((b + n : Nat) : Int) → some (x, gr) = some rg → some (x, om) = some rm → ∃ n' : Nat, n ≤ n' ∧ Rg b n' rg.2 rm.2 ∧ rg.1 = rm.1 ∧ 0 ≤ rm.1.toInt ∧ rm.1.toInt < 2 * ((b + n' : Nat) : Int) ∧ Fr (fr_M [31, 36] [32, 33, 34] []) om rm.2 ∧ Fr (fr_M [2, 3] [4, 5, 6, 8, 9] []) gr rg.2 := fun x x0 x1 q1 q2 => by
        rw [← Option.some.inj q1, ← Option.some.inj q2]
        exact ⟨n, Nat.le_refl n, R, rfl, x0, x1, fr_rfl, fr_rfl⟩
      by_cases c0 : c j = 0
      · rw [if_pos c0] at e2
        rcases ifc h1 with ⟨d, _⟩ | ⟨_, h1⟩
        · have d : (nl.2.1 11 j).toInt = 0 := c_eq d
          omega
        rcases ifc h2 with ⟨_, h2⟩ | ⟨d, _⟩
        · exact same v3 a0 a1 h1 h2
        · have d := c_nle d
          have d : 0 < (om.2.1 22 j).toInt := d
          omega
      · rw [if_neg c0] at e2
        have e1 := e1 (by omega)
        rcases ifc h2 with ⟨d, _⟩ | ⟨_, h2⟩
        · have d : (om.2.1 22 j).toInt ≤ 0 := c_le d
          omega
        have h2 := (ifn h2).2
        rcases ifc h1 with ⟨d, h1⟩ | ⟨d, h1⟩
        · have d : (nl.2.1 11 j).toInt = 0 := c_eq d
          rcases ifc h2 with ⟨_, h2⟩ | ⟨d', _⟩
          · exact same (v3 ^^^ 1) xb.1 xb.2 h1 h2
          · exact absurd (Int32.toInt_inj.mp (show (om.2.1 24 j).toInt = (0 : Int32).toInt by rw [e1, ← e2, d]; rfl)) d'
        · have d : ¬ (nl.2.1 11 j).toInt = 0 := c_ne d
          rcases ifc h2 with ⟨d', _⟩ | ⟨_, h2⟩
          · have d' : (om.2.1 24 j).toInt = 0 := c_eq d'
            omega
          · exact same v3 a0 a1 h1 h2
    · have a := c_nle a
      rcases ifc h2 with ⟨a', _⟩ | ⟨_, h2⟩
      · have a' := c_le a'; omega
      have m16 : (v1 * 16).toInt = 16 * (j : Int) := by rw [Int32.toInt_mul, ej, i_bm (by rw [show (16 : Int32).toInt = 16 from rfl]; omega) (by rw [show (16 : Int32).toInt = 16 from rfl]; omega), show (16 : Int32).toInt = 16 from rfl]; omega
      have m17 : (v1 * 16 + v4).toInt = 16 * (j : Int) + v4.toInt := by rw [Int32.toInt_add, m16, i_bm (by omega) (by omega)]
      have mi : (v1 * 16 + v4).toNatClampNeg = 16 * j + v4.toInt.toNat := by have := tn_n (v1 * 16 + v4); omega
      have h1 := (ifn h1).2
      rw [mi] at h1
      obtain ⟨p, hp, h1⟩ := bd h1
      obtain ⟨u, hu, h1⟩ := bd h1
      obtain ⟨n', f, om', B1, B2, B3, B4, B5, B6, B7⟩ := prod_sim (all := v3) (vr := v4) (q := v4.toInt.toNat) ej hj (by omega) (by omega) eb cfFU f2 1 0 n gr om p rm T0 L (fun k hk => F k hk hk) R rfl (by decide) (by rw [show (1 : Int32).toInt = 1 from rfl]; have := R.1.2.2.2.2.2.1; omega) (by decide) (by rw [show (0 : Int32).toInt = 0 from rfl]; omega) hp h2
      obtain ⟨m, hm, h2⟩ := bd B7
      obtain ⟨g, hg, hu⟩ := bd hu
      have eu : u = (g.1 ^^^ 1, g.2) := (Option.some.inj hu).symm
      have xa := x1_b (m := b + n') a0 (by omega)
      have xc := x1_b (m := b + n') B3 B4
      obtain ⟨A1, n3, A2, A3, A4, A5, A6, A7, A8⟩ := eq_and B2 xa.1 xa.2 xc.1 xc.2 hg hm
      have xd := x1_b (m := b + n3) A4 A5
      subst eu
      have h1 : gNl_sumOf f1 0 v1 (g.1 ^^^ 1) (v4 + 1) nl g.2 = some rg := h1
      rw [A1] at h1
      have fo : Fr (fr_M [31, 36] [32, 33, 34] []) om m.2 := fr_tr B5 A6 rfl rfl rfl
      have T' : TbS sg N t w c rf en nl m.2 := TbS_f T0 (fo.2.1 1 rfl) (fo.2.1 19 rfl) (fo.2.1 22 rfl) (fo.2.1 23 rfl) (fo.2.1 24 rfl) (fo.2.1 25 rfl) rfl rfl rfl rfl rfl
      have L' : LtS t (b + n3) nl m.2 := fun i hi => by
        rw [fo.2.1 27 rfl, fo.2.1 26 rfl]
        rcases L i hi with z | z
        · exact Or.inl z
        · exact Or.inr ⟨z.1, z.2.1, z.2.2.1, by have := z.2.2.2; omega⟩
      have F' : Fddq w m.2 j (w j) := by
        unfold Fddq
        rw [fo.2.1 27 rfl, fo.2.1 25 rfl]; exact F
      obtain ⟨n4, C1, C2, C3, C4, C5, C6, C7⟩ := sum_sim ej hj eb f1 f (m.1 ^^^ 1) (v4 + 1) n3 g.2 m.2 rg rm T' L' F' A3 xd.1 xd.2 (by omega) (by omega) h1 h2
      exact ⟨n4, by omega, C2, C3, C4, C5, fr_tr fo C6 rfl rfl rfl, fr_tr (fr_tr B6 A7 rfl rfl rfl) C7 rfl rfl rfl⟩
