def TwN (sb om : cf_O) : Prop := ∃ L : List Int32, SbQ sb L ∧ ((om.1 96).toInt = (L.length : Int) ∧ ∀ (i : Nat) (x : Int32), L[i]? = some x → om.2.1 97 i = x) ∧ AsQ L
theorem TwN_f {sb om om2 : cf_O} (T : TwN sb om) (u96 : om2.1 96 = om.1 96) (u97 : om2.2.1 97 = om.2.1 97) : TwN sb om2 := by
  obtain ⟨L, h1, h2, h3⟩ := T
  refine ⟨L, h1, ?_, h3⟩
  rw [u96, u97]; exact h2
def SmI (F sc sb om : cf_O) : Prop := (∃ L : List Int32, SbQ sb L) ∧ (F.1 18 = 1 → sc.1 0 = 0 ∨ TwN sb om)
theorem sgm_c {v : Int32} {sc sb om : cf_O} {r : Int32} (T : TwN sb om) (h0 : 0 ≤ v.toInt) (h : fSc_signAt v sc sb = some r) : ((om.1 96).toInt ≤ v.toInt ∧ r = -1) ∨ (v.toInt < (om.1 96).toInt ∧ om.2.1 97 v.toInt.toNat = r) := by
  obtain ⟨L, S, R, A⟩ := T
  rcases sgn_sp S A h0 h with ⟨z1, z2⟩ | ⟨z1, z2⟩
  · exact Or.inl ⟨by rw [R.1]; exact z1, z2⟩
  · exact Or.inr ⟨by rw [R.1]; exact z1, R.2 _ _ z2⟩
theorem in_q {b n c x : Nat} {li mp om : cf_O} (R : RwQ b c (b + n) om (wvM mp)) (hN : b + n ≤ 209) (Lq : LRq c li (om.2.1 84)) (x2 : 2 ≤ x) (xN : x < 2 * (b + n)) (g : gvB b x = false) (nx : ¬ wvM mp x = NOM) (pn : ∀ y : Nat, PiQ (faL li) (wvM mp) x y → 2 ≤ y) : InQ c mp om x := by
  have hA := FcQ_a (LRq_F Lq)
  rcases R x x2 xN with ⟨z, _⟩ | ⟨_, ⟨_, z⟩ | ⟨_, z2, z3⟩⟩
  · rw [g] at z; cases z
  · exact absurd z nx
  · have Z := z2
    obtain ⟨m1, m2, m3, m4⟩ := mf_pin z2 (by omega) hA
    rw [← z3] at m1 m2 m3 m4
    refine ⟨⟨x2, by omega⟩, m2, m1, fun k hk lt => ?_⟩
    have e2 := (FaE_l Lq _ m2).2.2.1
    have p := (m4 k hk).1 lt
    refine ⟨p, pn _ ⟨k, by rw [← e2]; exact lt, hk, rfl⟩, ?_⟩
    obtain ⟨c1, s1, ⟨h1, h1'⟩, ⟨h2, h2'⟩, h3, h4⟩ := Z
    have ec : c1 = celW (wvM mp x) := by omega
    subst ec
    have := (h4 k hk).1 (by omega)
    omega
theorem eq_mappedSign {v1 : Int32} {F mp sc nl gr li sb om : cf_O} {r : Int32 × cf_O × cf_O × cf_O} {rm : Int32 × cf_O} (hG : F.1 18 = 1 → ∃ b n : Nat, GW b n gr ∧ RGq b n gr om) (MI : MpI F gr mp li om) (hN : F.1 18 = 1 → NaI nl gr om) (W : W4 (om.2.2 4)) (hS : SmI F sc sb om) (h1 : fF_mappedSign v1 F mp sc nl gr li sb = some r) (h2 : fM_mappedSign v1 om = some rm) : AnsC [(2, 1), (3, 2)] r.2.1 r.1 rm ∧ (∃ k : Int32, rm.2 = fp om 0 k) ∧ SmI r.2.1 r.2.2.1 r.2.2.2 rm.2 ∧ r.2.1.1 18 = F.1 18 := by
  unfold fF_mappedSign fF_mappedSign_0 at h1
  unfold fM_mappedSign fM_mappedSign_0 at h2
  rcases MI.2 with a | ⟨a, S⟩
  · have a2 := MI.1.symm.trans a
    rw [if_pos a] at h1
    rw [if_pos a2] at h2
    unfold fM_mappedSign_13 fM_mappedSign_28 fM_mappedSign_29 at h2
    rw [if_pos a2, refuse_1, Option.bind_some, if_neg (show ¬ ((1 : Int32), fp om 0 1).1 = 0 by show ¬ (1 : Int32) = 0; decide)] at h2
    rw [← Option.some.inj h1, ← Option.some.inj h2]
    exact ⟨Or.inr ⟨(2, 1), by decide, rfl, rfl⟩, ⟨1, rfl⟩, ⟨hS.1, fun z => (hS.2 z).imp id (fun t => TwN_f t rfl rfl)⟩, rfl⟩
  · obtain ⟨b, n, G, R⟩ := hG a
    have N := hN a
    have G0 := G.1
    have a2 : ¬ om.1 85 = 0 := by rw [← MI.1, a]; decide
    rw [if_neg (by rw [a]; decide)] at h1
    rw [if_neg a2] at h2
    unfold fM_mappedSign_13 fM_mappedSign_28 fM_mappedSign_29 at h2
    rw [if_neg a2] at h2
    unfold fF_mappedSign_7 at h1
    by_cases c : v1 < 0
    · rw [if_pos c] at h1
      unfold fF_mappedSign_16 at h1
      rw [if_pos rfl] at h1
      have c := Int32.lt_iff_toInt_lt.mp c
      rw [if_neg (fun z => by have := c_le z; omega), refuse_01, Option.bind_some, if_neg (show ¬ ((1 : Int32), fp om 0 2).1 = 0 by show ¬ (1 : Int32) = 0; decide)] at h2
      rw [← Option.some.inj h1, ← Option.some.inj h2]
      exact ⟨Or.inr ⟨(3, 2), by decide, rfl, rfl⟩, ⟨2, rfl⟩, ⟨hS.1, fun z => (hS.2 z).imp id (fun t => TwN_f t rfl rfl)⟩, rfl⟩
    · rw [if_neg c] at h1
      have c : ¬ v1.toInt < (0 : Int32).toInt := fun z => c (Int32.lt_iff_toInt_lt.mpr z)
      rw [show (0 : Int32).toInt = 0 from rfl] at c
      unfold fF_mappedSign_16 at h1
      rw [if_neg (by decide)] at h1
      rw [if_pos (Int32.le_iff_toInt_le.mpr (by rw [show (0 : Int32).toInt = 0 from rfl]; omega)), refuse_00, Option.bind_some, if_pos (show ((0 : Int32), fp om 0 0).1 = 0 from rfl)] at h2
      have iv : v1.toNatClampNeg = v1.toInt.toNat := by have := tn_n v1; omega
      have m2 : ((om.1 96).toInt ≤ v1.toInt ∧ rm = (-1, fp om 0 0)) ∨ (v1.toInt < (om.1 96).toInt ∧ rm = (om.2.1 97 v1.toInt.toNat, fp om 0 0)) := by
        unfold fM_mappedSign_56 at h2
        rcases ifc h2 with ⟨d, h2⟩ | ⟨d, h2⟩
        · exact Or.inl ⟨c_le d, (Option.some.inj h2).symm⟩
        · have h2 := (ifn h2).2
          rw [opk, iv] at h2
          exact Or.inr ⟨c_nle d, (Option.some.inj h2).symm⟩
      have fin : ∀ s2 b2 : cf_O, TwN b2 om → fF_mappedSign_52 v1 F mp s2 nl gr li b2 = some r → AnsC [(2, 1), (3, 2)] r.2.1 r.1 rm ∧ (∃ k : Int32, rm.2 = fp om 0 k) ∧ SmI r.2.1 r.2.2.1 r.2.2.2 rm.2 ∧ r.2.1.1 18 = F.1 18 := fun s2 b2 T z => by
        unfold fF_mappedSign_52 at z
        obtain ⟨q, hq, z⟩ := bd z
        unfold fF_mappedSign_60 at z
        rw [← Option.some.inj z]
        have S2 : ∀ k : Int32, SmI (fp F 30 0) s2 b2 (fp om 0 k) := fun k => ⟨by obtain ⟨L, S, _⟩ := T; exact ⟨L, S⟩, fun _ => Or.inr (TwN_f T rfl rfl)⟩
        rcases sgm_c T (by omega) hq with ⟨y1, y2⟩ | ⟨y1, y2⟩
        · rcases m2 with ⟨_, m⟩ | ⟨m, _⟩
          · rw [m]; exact ⟨Or.inl ⟨rfl, rfl, y2⟩, ⟨0, rfl⟩, S2 0, rfl⟩
          · omega
        · rcases m2 with ⟨m, _⟩ | ⟨_, m⟩
          · omega
          · rw [m]; exact ⟨Or.inl ⟨rfl, rfl, y2.symm⟩, ⟨0, rfl⟩, S2 0, rfl⟩
      unfold fF_mappedSign_19 at h1
      rcases ifc h1 with ⟨d, h1⟩ | ⟨d, h1⟩
      · obtain ⟨q, hq, h1⟩ := bd h1
        obtain ⟨L0, S0⟩ := hS.1
        obtain ⟨cc, M, L, t1, t2, ⟨t3, t4, t5⟩, t6, t7, t8, t9, t10, t11, t12, t13, oc, oc', w1, w2, w3, w4, w5, w6, w7, w8, w9, w10, w11, w12⟩ := MpS_x S G
        have Noc : NaI nl gr oc := NaI_f N (by rw [w3.1.2.2.1, R.1.2.2.1]) (by rw [w3.1.2.2.2.2.1, R.1.2.2.2.2.1]) w8 w9
        have Loc : LRq cc li (oc.2.1 84) := by rw [w7]; exact t4
        have z1 := wrM_sim G t1 w3 Noc (by rw [w10]; exact W) w2 Loc (by rw [w6]; exact t5) t9 w5 (fun x hx => in_q w4 t2 Loc (t8 x hx).1 (t8 x hx).2.1 (t8 x hx).2.2.1 (t8 x hx).2.2.2 (t13 x hx)) S0 hq w1
        obtain ⟨K, k1, k2, k3, _⟩ := z1
        exact fin q.1 q.2 ⟨K, k1, ⟨by rw [← w11]; exact k2.2.1.1, by rw [← w12]; exact k2.2.2⟩, k3⟩ h1
      · exact fin sc sb ((hS.2 a).resolve_left d) h1
theorem lib_w {o0 o1 o2 o3 om : cf_O} {r : Int32 × cf_O × cf_O × cf_O × cf_O} (h : fF_library o0 o1 o2 o3 = some r) (RL : RLb r.2.2.2.1 om) : (r.1 = 0 → om.1 78 = 1 → LwI r.2.2.2.1) ∧ (¬ r.1 = 0 → r.2.2.2.1 = o2 ∧ r.2.2.2.2 = r.2.2.2.2) ∧ (r.1 = 0 → r.2.1.1 18 = 0) ∧ (¬ r.1 = 0 → r.2.1.1 18 = o0.1 18) := by
  unfold fF_library fF_library_0 at h
  obtain ⟨q, hq, h⟩ := bd h
  unfold fF_library_11 at h
  rcases ifc h with ⟨a, h⟩ | ⟨a, h⟩
  · rw [opk, opk] at h
    unfold fF_library_58 at h
    have er := Option.some.inj h
    subst er
    refine ⟨fun _ z78 => ?_, fun z => absurd a z, fun _ => rfl, fun z => absurd a z⟩
    unfold fLi_scan fLi_scan_0 at hq
    rw [opk] at hq
    obtain ⟨t, ht, hq⟩ := bd hq
    obtain ⟨li, ls, l1, l2⟩ := scan_0 cfFU 0 0 _ _ q hq a
    have f1 := wF_Li_findInverter_o0 l1
    have f2 := wF_Li_findWays_o0 l2
    have RL : RLb q.2.1 om := RL
    obtain ⟨c, e82, L⟩ := LRq_i RL z78
    refine lw_sp (c := c) ⟨⟨?_, L.1.2⟩, fun i hi => ?_⟩ l1 l2
    · have := L.1.1
      rw [f2.1 0 rfl, f1.1 0 rfl] at this; exact this
    · have q5 := (L.2 i hi).1
      have q6 := (L.2 i hi).2
      have e5 : q.2.1.2.1 5 = li.2.1 5 := by rw [f2.2.1 5 rfl, f1.2.1 5 rfl]
      have e6 : q.2.1.2.1 6 = li.2.1 6 := by rw [f2.2.1 6 rfl, f1.2.1 6 rfl]
      rw [e5, e6] at q5
      rw [q5.2.2.1, q5.2.2.2]
      exact ⟨q6.2.2.1, q6.2.2.2.1⟩
  · rw [opk] at h
    unfold fF_library_58 at h
    have er := Option.some.inj h
    subst er
    exact ⟨fun z => absurd z a, fun _ => ⟨rfl, rfl⟩, fun z => absurd z a, fun _ => rfl⟩
