theorem eq_instance {v1 v2 : Int32} {F mp gr li om : cf_O} {r rm : Int32 × cf_O} (hG : F.1 18 = 1 → ∃ b n : Nat, GW b n gr ∧ RGq b n gr om) (MI : MpI F gr mp li om) (h1 : fF_instance v1 v2 F mp li = some r) (h2 : fM_instance v1 v2 om = some rm) : AnsC [(2, 1), (3, 2), (1, 3)] r.2 r.1 rm := by
  unfold fF_instance fF_instance_0 at h1
  unfold fM_instance fM_instance_0 at h2
  rcases MI.2 with z | ⟨z, S⟩
  · have z85 := MI.1.symm.trans z
    rw [if_pos z] at h1
    rw [if_pos z85] at h2
    unfold fM_instance_25 fM_instance_26 at h2
    rw [if_pos rfl] at h2
    unfold fM_instance_41 at h2
    rw [if_pos rfl] at h2
    unfold fM_instance_71 fM_instance_90 fM_instance_95 at h2
    rw [if_pos rfl, if_pos z85] at h2
    unfold fM_instance_110 fM_instance_126 fM_instance_127 fM_instance_139 fM_instance_140 at h2
    rw [if_pos z85, if_pos rfl, refuse_1, Option.bind_some, if_neg (show ¬ ((1 : Int32), fp om 0 1).1 = 0 from (show ¬ (1 : Int32) = 0 by decide))] at h2
    rw [← Option.some.inj h1, ← Option.some.inj h2]
    exact Or.inr ⟨(2, 1), by decide, rfl, rfl⟩
  · rw [if_neg (by rw [z]; decide)] at h1
    have n85 : ¬ om.1 85 = 0 := by rw [← MI.1, z]; decide
    rw [if_neg n85, opk] at h2
    obtain ⟨b, n, G, RG⟩ := hG z
    have G0 := G.1
    obtain ⟨c, M, L, s1, s2, ⟨s3, s4, _⟩, s5, s6, s7, s8, s9, s10, s11, _⟩ := MpS_x S G
    have hF := LRq_F s4
    obtain ⟨q, hq, h2⟩ := bd h2
    have iq := in_sp hq
    have e93 := s9.1
    have m93 : (om.1 93 - 1).toInt = (L.length : Int) - 1 ∨ 2147483647 < (L.length : Int) := by
      by_cases y : (L.length : Int) ≤ 2147483647
      · exact Or.inl (by rw [i_sub (by rw [e93]; show -2147483648 ≤ (L.length : Int) - 1; omega) (by rw [e93]; show (L.length : Int) - 1 ≤ 2147483647; omega), e93]; rfl)
      · exact Or.inr (by omega)
    have lx := (om.1 93).toInt_lt
    have m93 : (om.1 93 - 1).toInt = (L.length : Int) - 1 := m93.resolve_right (by omega)
    rw [m93, show (0 : Int32).toInt = 0 from rfl] at iq
    have thr : ∀ s1' : Int32, s1' = 0 → ∀ s3' : Int32, fM_instance_127 v2 s3' (if s3' = 0 then 2 else om.2.1 94 v1.toNatClampNeg) s1' 1 om = some rm → rm.2.1 0 = 2 := fun s1' e1 s3' y => by
      subst e1
      unfold fM_instance_127 fM_instance_139 fM_instance_140 at y
      have k : ∀ u : Int32, Option.bind (fM_refuse 0 1 u om) (fun q_1 => (if q_1.1 = (0 : Int32) then (if v2 = (0 : Int32) then fM_instance_208 (if s3' = 0 then 2 else om.2.1 94 v1.toNatClampNeg) q_1.2 else (if v2 = (1 : Int32) then op_k (5 * (if s3' = 0 then 2 else om.2.1 94 v1.toNatClampNeg)) (fun x_17 => op_k (x_17 + 1) (fun x_18 => (if x_18 < 0 ∨ 2100 ≤ x_18.toNatClampNeg then none else op_k (q_1.2.2.1 87 x_18.toNatClampNeg) (fun x_20 => fM_instance_208 x_20 q_1.2)))) else (if v2 = (2 : Int32) then op_k (5 * (if s3' = 0 then 2 else om.2.1 94 v1.toNatClampNeg)) (fun x_14 => (if x_14 < 0 ∨ 2100 ≤ x_14.toNatClampNeg then none else op_k (q_1.2.2.1 87 x_14.toNatClampNeg) (fun x_16 => fM_instance_208 x_16 q_1.2))) else op_k (5 * (if s3' = 0 then 2 else om.2.1 94 v1.toNatClampNeg)) (fun x_8 => op_k (x_8 + 2) (fun x_9 => op_k (x_9 + v2) (fun x_10 => op_k (x_10 - 3) (fun x_11 => (if x_11 < 0 ∨ 2100 ≤ x_11.toNatClampNeg then none else op_k (q_1.2.2.1 87 x_11.toNatClampNeg) (fun x_13 => fM_instance_208 x_13 q_1.2))))))))) else some ((0 : Int32), q_1.2))) = some rm → rm.2.1 0 = 2 := fun u w => by
        rw [show fM_refuse 0 1 u om = some (1, fp om 0 2) from refuse_01, Option.bind_some, if_neg (show ¬ ((1 : Int32), fp om 0 2).1 = 0 from (show ¬ (1 : Int32) = 0 by decide))] at w
        rw [← Option.some.inj w]; rfl
      rcases ifc y with ⟨_, y⟩ | ⟨_, y⟩
      · exact k 0 y
      · rcases ifc y with ⟨_, y⟩ | ⟨_, y⟩
        · exact k 0 y
        · exact k 1 y
    rcases ifc h2 with ⟨d, h2⟩ | ⟨d, h2⟩
    · have nq := Yn_0 iq d
      unfold fM_instance_25 fM_instance_26 at h2
      rw [if_pos rfl] at h2
      unfold fM_instance_41 at h2
      rw [if_pos rfl] at h2
      unfold fM_instance_71 fM_instance_90 fM_instance_95 at h2
      rw [if_pos rfl, if_neg n85] at h2
      unfold fM_instance_110 at h2
      rw [if_neg n85, if_neg (by decide)] at h2
      have t2 := thr 0 rfl 0 (by rw [if_pos rfl]; exact h2)
      have er : r = (0, fp F 30 3) := by
        unfold fF_instance_7 fF_instance_26 at h1
        have k27 : fF_instance_27 v1 v2 0 F mp li = some r → r = (0, fp F 30 3) := fun y => by
          unfold fF_instance_27 at y
          rw [if_pos rfl] at y
          exact (Option.some.inj y).symm
        rcases ifc h1 with ⟨_, h1⟩ | ⟨y1, h1⟩
        · exact k27 h1
        · rcases ifc h1 with ⟨_, h1⟩ | ⟨y2, h1⟩
          · exact k27 h1
          · have y1 : 0 ≤ v1.toInt := c_nlt y1
            have y2 := c_nle y2
            rw [s8.1] at y2
            exact absurd (show (0 : Int) ≤ v1.toInt ∧ v1.toInt ≤ (L.length : Int) - 1 from ⟨y1, by omega⟩) nq
      rw [er]
      exact Or.inr ⟨(3, 2), by decide, rfl, t2⟩
    · have nq := Yn_1 iq d
      obtain ⟨i, ei⟩ : ∃ i : Nat, v1.toInt = (i : Int) := ⟨v1.toInt.toNat, by omega⟩
      have il : i < L.length := by omega
      have ex : L[i]? = some L[i] := List.getElem?_eq_getElem il
      have H := s7 _ (List.getElem_mem il)
      generalize L[i] = x at ex H
      have e94 := s9.2 i x ex
      have e3 := s8.2.1 i x ex
      rcases rw_time s5 s2 (FcQ_a hF) s6 H.2.1 H.2.2.2 with ⟨y, _⟩ | ⟨_, _, t1, t2, t3, t4, t5⟩
      · rcases y with y | y
        · omega
        · rw [H.2.2.1] at y; cases y
      have c12 := hF.1
      have F1 := hF.2 _ t3
      have Le := (s4.2 _ t3).1.2.2.1
      unfold fM_instance_26 at h2
      rw [if_neg (by decide)] at h2
      have h2 := (ifn h2).2
      rw [opk, tW ei] at h2
      unfold fM_instance_41 at h2
      have m5 := mul5 e94 (show x < 100000 by omega)
      rw [if_neg (by decide), opk, opk, tW (addk (k := 1) m5 rfl (by omega) (by decide))] at h2
      have h2 := (ifn h2).2
      rw [opk, opk, opk, tW (addk (k := 2) (mul4 t2 (by omega)) rfl (by omega) (by decide))] at h2
      have h2 := (ifn h2).2
      rw [opk] at h2
      unfold fM_instance_71 at h2
      rw [if_neg (by decide)] at h2
      -- the class
      unfold fF_instance_7 at h1
      rw [if_neg (fun y => by have y : v1.toInt < 0 := c_lt y; omega), if_neg (fun y => by have y := c_le y; rw [s8.1] at y; omega)] at h1
      unfold fF_instance_27 at h1
      rw [if_neg (by decide)] at h1
      unfold fF_instance_30 at h1
      have bad : fM_instance_90 v2 1 (om.2.1 94 i) om = some rm → rm.2.1 0 = 2 := fun y => by
        unfold fM_instance_90 fM_instance_95 at y
        rw [if_neg n85] at y
        unfold fM_instance_110 at y
        rw [if_neg n85, if_neg (by decide)] at y
        refine thr 0 rfl 1 ?_
        rw [if_neg (by decide), tW ei]; exact y
      have okk : fM_instance_94 v2 1 (om.2.1 94 i) om = some rm → (v2.toInt < 0 ∧ rm.2.1 0 = 3) ∨ (0 ≤ v2.toInt ∧ fM_instance_140 v2 (om.2.1 94 i) 0 0 0 om = some rm) := fun y => by
        unfold fM_instance_94 fM_instance_95 at y
        rw [if_neg n85] at y
        unfold fM_instance_110 at y
        rw [if_neg n85, if_pos rfl] at y
        unfold fM_instance_126 fM_instance_127 at y
        rw [if_neg (by decide)] at y
        rcases ifc y with ⟨w, y⟩ | ⟨w, y⟩
        · have w : 0 ≤ v2.toInt := c_le w
          unfold fM_instance_139 at y
          exact Or.inr ⟨w, y⟩
        · have w : v2.toInt < 0 := c_nle w
          refine Or.inl ⟨w, ?_⟩
          unfold fM_instance_140 at y
          rw [refuse_3 (by decide), Option.bind_some, if_neg (show ¬ ((1 : Int32), fp om 0 3).1 = 0 from (show ¬ (1 : Int32) = 0 by decide))] at y
          rw [← Option.some.inj y]; rfl
      by_cases neg : v2.toInt < 0
      · rw [if_neg (fun y => by have y : 0 ≤ v2.toInt := c_le y; omega)] at h1
        rw [if_pos (Int32.le_iff_toInt_le.mpr (show v2.toInt ≤ 2 by omega))] at h2
        rcases okk h2 with ⟨_, y⟩ | ⟨y, _⟩
        · rw [← Option.some.inj h1]
          exact Or.inr ⟨(1, 3), by decide, rfl, y⟩
        · omega
      · rw [if_pos (show (0 : Int32) ≤ v2 from Int32.le_iff_toInt_le.mpr (by show (0 : Int) ≤ v2.toInt; omega))] at h1
        have h1 := (ifn h1).2
        rw [opk, tW ei] at h1
        have h1 := (ifn h1).2
        rw [opk, tW e3] at h1
        have good : fM_instance_94 v2 1 (om.2.1 94 i) om = some rm → fM_instance_140 v2 (om.2.1 94 i) 0 0 0 om = some rm := fun y => by
          rcases okk y with ⟨w, _⟩ | ⟨_, w⟩
          · exact absurd w neg
          · exact w
        by_cases le2 : v2.toInt ≤ 2
        · rw [if_pos (Int32.le_iff_toInt_le.mpr le2)] at h2
          have h2 := good h2
          unfold fM_instance_140 fM_instance_208 at h2
          rw [refuse_00, Option.bind_some, if_pos (show ((0 : Int32), fp om 0 0).1 = 0 from rfl)] at h2
          rcases ifc h2 with ⟨w, h2⟩ | ⟨w, h2⟩
          · rw [if_pos w] at h1
            rw [← Option.some.inj h1, ← Option.some.inj h2]
            exact Or.inl ⟨rfl, rfl, Int32.toInt_inj.mp (by show (mp.2.1 3 i).toInt = (om.2.1 94 i).toInt; rw [e3, e94])⟩
          · rw [if_neg w] at h1
            rcases ifc h2 with ⟨w2, h2⟩ | ⟨w2, h2⟩
            · rw [if_pos w2] at h1
              obtain ⟨u, hu, h1⟩ := bd h1
              have eu := cellOf_sp hu
              unfold fF_instance_99 at h1
              rw [opk, opk, tW (addk (k := 1) m5 rfl (by omega) (by decide))] at h2
              have h2 := (ifn h2).2
              rw [opk] at h2
              rw [← Option.some.inj h1, ← Option.some.inj h2]
              exact Or.inl ⟨rfl, rfl, Int32.toInt_inj.mp (by show u.toInt = (om.2.1 87 (5 * x + 1)).toInt; rw [t2]; exact eu)⟩
            · rw [if_neg w2] at h1
              have e2 : v2 = 2 := Int32.toInt_inj.mp (by
                have n0 : ¬ v2.toInt = 0 := fun y => w (Int32.toInt_inj.mp y)
                have n1 : ¬ v2.toInt = 1 := fun y => w2 (Int32.toInt_inj.mp y)
                show v2.toInt = 2
                omega)
              rw [if_pos e2] at h1 h2
              obtain ⟨u, hu, h1⟩ := bd h1
              have lt : nv (mp.2.2 4 x) < 2 ^ 63 := by
                have : nv (mp.2.2 4 x) / 2 ^ 44 ≤ 50000 := t4
                omega
              have eu := time_f hu lt
              unfold fF_instance_105 at h1
              rw [opk, tW m5] at h2
              have h2 := (ifn h2).2
              rw [opk] at h2
              rw [← Option.some.inj h1, ← Option.some.inj h2]
              exact Or.inl ⟨rfl, rfl, Int32.toInt_inj.mp (by show u.toInt = (om.2.1 87 (5 * x)).toInt; rw [t1]; exact eu)⟩
        · have n0 : ¬ v2 = 0 := fun y => by rw [y] at le2; exact le2 (by decide)
          have n1 : ¬ v2 = 1 := fun y => by rw [y] at le2; exact le2 (by decide)
          have n2 : ¬ v2 = 2 := fun y => by rw [y] at le2; exact le2 (by decide)
          rw [if_neg n0, if_neg n1, if_neg n2, opk] at h1
          obtain ⟨u, hu, h1⟩ := bd h1
          have eu := cellOf_sp hu
          have eu : u.toInt = (celW (wvM mp x) : Int) := eu
          have v3 : (v2 - 3).toInt = v2.toInt - 3 := by rw [i_sub (by show -2147483648 ≤ v2.toInt - 3; omega) (by show v2.toInt - 3 ≤ 2147483647; have := v2.toInt_lt; omega)]; rfl
          unfold fF_instance_121 at h1
          have h1 := (ifn h1).2
          rw [opk, tW eu] at h1
          rw [if_neg (fun y => le2 (c_le y)), opk] at h2
          rcases ifc h1 with ⟨w, h1⟩ | ⟨w, h1⟩
          · have w := c_le w
            rw [Le] at w
            unfold fF_instance_130 at h1
            rw [if_pos rfl] at h1
            rw [if_neg (fun y => by have y := c_lt y; omega)] at h2
            rw [← Option.some.inj h1]
            exact Or.inr ⟨(3, 2), by decide, rfl, bad h2⟩
          · have w := c_nle w
            rw [Le] at w
            unfold fF_instance_130 at h1
            rw [if_neg (by decide)] at h1
            unfold fF_instance_133 at h1
            rw [opk] at h1
            obtain ⟨k, ek⟩ : ∃ k : Nat, v2.toInt = ((k + 3 : Nat) : Int) := ⟨(v2.toInt - 3).toNat, by omega⟩
            obtain ⟨y, hy, h1⟩ := bd h1
            have ey := pinOf_sp hy (by omega) (by omega)
            rw [show (v2 - 3).toInt.toNat = k by omega] at ey
            unfold fF_instance_141 at h1
            rw [if_pos (Int32.lt_iff_toInt_lt.mpr w)] at h2
            have h2 := good h2
            unfold fM_instance_140 fM_instance_208 at h2
            rw [refuse_00, Option.bind_some, if_pos (show ((0 : Int32), fp om 0 0).1 = 0 from rfl), if_neg n0, if_neg n1, if_neg n2] at h2
            have a2 := addk (k := 2) m5 (w := 2) rfl (by omega) (by decide)
            have a3 := addk a2 ek (by omega) (by omega)
            have a4 : (5 * om.2.1 94 i + 2 + v2 - 3).toInt = ((5 * x + 2 + k : Nat) : Int) := by rw [i_sub (by rw [a3]; show -2147483648 ≤ ((5 * x + 2 + (k + 3) : Nat) : Int) - 3; omega) (by rw [a3]; show ((5 * x + 2 + (k + 3) : Nat) : Int) - 3 ≤ 2147483647; omega), a3]; show ((5 * x + 2 + (k + 3) : Nat) : Int) - 3 = _; omega
            rw [opk, opk, opk, opk, tW a4] at h2
            have h2 := (ifn h2).2
            rw [opk] at h2
            rw [← Option.some.inj h1, ← Option.some.inj h2]
            refine Or.inl ⟨rfl, rfl, Int32.toInt_inj.mp ?_⟩
            show y.toInt = (om.2.1 87 (5 * x + 2 + k)).toInt
            rw [t5 k (by omega) (by omega)]; exact ey
