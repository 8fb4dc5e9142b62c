theorem rd_127 {rc : Nat → Int32 → Int32 → Int32 → Int32 → cf_O → Option (Int32 × cf_O)} {v1 v2 v5 s0 : Int32} {om : cf_O} : fM_differ_127 rc v1 v2 v5 s0 om = rc 0 v1 v2 s0 (v5 + (-1)) om := by
  unfold fM_differ_127
  rw [opk]
def LdC (N : Nat) (f g : Nat → Bool) (u : Nat) (r : Int32) : Prop := (r = -1 ∧ ∀ i : Nat, u ≤ i → i < N → f i = g i) ∨ (∃ i : Nat, u ≤ i ∧ i < N ∧ r.toInt = (i : Int) ∧ ¬ f i = g i ∧ ∀ j : Nat, u ≤ j → j < i → f j = g j)
theorem df_go {b n N : Nat} {V : Nat → Nat → Bool} {gr OM : cf_O} {v1 v2 : Int32} (G : GW b n gr) (S : VSq b n gr V) (R0 : RGq b n gr OM) (h38 : OM.1 38 = 1) (eN : N = 2 ^ (b - 1)) (N9 : N ≤ 256) (a0 : 0 ≤ v1.toInt) (a1 : v1.toInt < (gr.1 1).toInt) (c0 : 0 ≤ v2.toInt) (c1 : v2.toInt < (gr.1 1).toInt) : ∀ (f : Nat) (v4 v5 : Int32) (u : Nat) (om : cf_O) (r : Int32 × cf_O), Fr (fr_M [0] [75] []) OM om → om.1 0 = 0 → v5.toInt = (u : Int) - 1 → u ≤ N → LdC N (lvq V (gr.2.1 7 v1.toInt.toNat)) (lvq V (gr.2.1 7 v2.toInt.toNat)) u v4 → gM_differ f 0 v1 v2 v4 v5 om = some r → LuC N (lvq V (gr.2.1 7 v1.toInt.toNat)) (lvq V (gr.2.1 7 v2.toInt.toNat)) r.1 ∧ r.2.1 0 = 0
  | 0, v4, v5, u, om, r, fo, z0, e5, hu, L, h => by cases h
  | f + 1, v4, v5, u, om, r, fo, z0, e5, hu, L, h => by
    have G0 := G.1
    have h : fM_differ_92 (gM_differ f) v1 v2 v4 v5 om = some r := h
    unfold fM_differ_92 at h
    rcases ifc h with ⟨a, h⟩ | ⟨a, h⟩
    · have a : v5.toInt < 0 := c_lt a
      rw [show u = 0 from by omega] at L
      rw [← Option.some.inj h]
      refine ⟨?_, z0⟩
      rcases L with ⟨l1, l2⟩ | ⟨i, _, l1, l2, l3, l4⟩
      · exact Or.inl ⟨l1, fun i hi => l2 i (Nat.zero_le i) hi⟩
      · exact Or.inr ⟨i, l1, l2, l3, fun j hj => l4 j (Nat.zero_le j) hj⟩
    · have a : 0 ≤ v5.toInt := c_nlt a
      obtain ⟨q, hq, h⟩ := bd h
      have R : RGq b n gr om := RGq_f R0 (fo.1 39 rfl) (fo.1 40 rfl) (fo.1 43 rfl) (fo.2.1 44 rfl) (fo.2.1 45 rfl) (fo.2.1 46 rfl) (fo.2.1 47 rfl)
      obtain ⟨w1, w2, _⟩ := value_sp G S R (by rw [fo.1 38 rfl]; exact h38) a (by rw [← eN]; omega) hq
      obtain ⟨i, hi⟩ : ∃ i : Nat, u = i + 1 := ⟨u - 1, by omega⟩
      have ei : v5.toInt.toNat = i := by omega
      rw [ei] at w1
      have nn : 0 ≤ q.1.toInt := by rw [w1]; exact ouV_nn (by omega)
      rw [opk, opk, opk, opk, sbt_b nn a0 (by omega), sbt_b nn c0 (by omega), w1, ouV_b (by omega) _ (by omega), ouV_b (by omega) _ (by omega), decide_eq_true (show v1.toInt.toNat < (gr.1 1).toInt.toNat by omega), decide_eq_true (show v2.toInt.toNat < (gr.1 1).toInt.toNat by omega), Bool.true_and, Bool.true_and] at h
      have fo' : Fr (fr_M [0] [75] []) OM q.2 := fr_tr (fr_tr fo (fr_fp fr_rfl rfl : Fr (fr_M [0] [75] []) om (fp om 0 0)) rfl rfl rfl) w2 rfl rfl rfl
      have z0' : q.2.1 0 = 0 := by rw [w2.1 0 rfl]; rfl
      have m5 := m_1g (v := v5) a
      rcases ifc h with ⟨c, h⟩ | ⟨c, h⟩
      · have c := bI_i.mp c
        rw [rd_127] at h
        generalize v5 + (-1) = w5 at h m5
        refine df_go G S R0 h38 eN N9 a0 a1 c0 c1 f v4 w5 i q.2 r fo' z0' (by omega) (by omega) ?_ h
        rcases L with ⟨l1, l2⟩ | ⟨j, l0, l1, l2, l3, l4⟩
        · refine Or.inl ⟨l1, fun k k1 k2 => ?_⟩
          by_cases e : k = i
          · rw [e]; exact c
          · exact l2 k (by omega) k2
        · refine Or.inr ⟨j, by omega, l1, l2, l3, fun k k1 k2 => ?_⟩
          by_cases e : k = i
          · rw [e]; exact c
          · exact l4 k (by omega) k2
      · have c : ¬ lvq V (gr.2.1 7 v1.toInt.toNat) i = lvq V (gr.2.1 7 v2.toInt.toNat) i := fun z => c (bI_i.mpr z)
        rw [rd_127] at h
        generalize v5 + (-1) = w5 at h m5
        exact df_go G S R0 h38 eN N9 a0 a1 c0 c1 f v5 w5 i q.2 r fo' z0' (by omega) (by omega) (Or.inr ⟨i, Nat.le_refl i, by omega, by omega, c, fun k k1 k2 => by omega⟩) h
theorem eq_differ {v1 v2 : Int32} {o0 fu gr om : cf_O} {r : Int32 × cf_O × cf_O} {rm : Int32 × cf_O} (h38 : om.1 38 = o0.1 16) (h16 : o0.1 16 = 0 ∨ (o0.1 16 = 1 ∧ ∃ b n : Nat, GW b n gr ∧ RGq b n gr om)) (hI : FuI fu gr) (h1 : fF_differ v1 v2 o0 fu gr = some r) (h2 : fM_differ v1 v2 om = some rm) : AnsC [(2, 1), (3, 2)] r.2.1 r.1 rm ∧ FuI r.2.2 gr := by
  unfold fF_differ fF_differ_0 at h1
  unfold fM_differ fM_differ_0 at h2
  rcases h16 with a | ⟨a, b, n, G, R⟩
  · have a38 := h38.trans a
    rw [if_pos a] at h1
    rw [if_pos a38] at h2
    unfold fM_differ_39 fM_differ_40 at h2
    rw [if_pos a38] at h2
    unfold fM_differ_54 at h2
    rw [if_pos a38] at h2
    unfold fM_differ_69 fM_differ_70 at h2
    rw [refuse_1, Option.bind_some, if_neg (show ¬ ((1 : Int32), fp om 0 1).1 = 0 by show ¬ (1 : Int32) = 0; decide)] at h2
    rw [← Option.some.inj h1, ← Option.some.inj h2]
    exact ⟨Or.inr ⟨(2, 1), List.mem_cons_self .., rfl, rfl⟩, hI⟩
  · have n16 : ¬ o0.1 16 = 0 := by rw [a]; decide
    have h381 : om.1 38 = 1 := h38.trans a
    have n38 : ¬ om.1 38 = 0 := by rw [h381]; decide
    have G0 := G.1
    have e40 : om.1 40 = gr.1 1 := R.1.2.2.2.2.1
    have e1 : ((om.1 40) - 1).toInt = (gr.1 1).toInt - 1 := by rw [e40, Int32.toInt_sub, show (1 : Int32).toInt = 1 from rfl, i_bm (by omega) (by omega)]
    rw [if_neg n16] at h1
    rw [if_neg n38, opk] at h2
    unfold fF_differ_7 at h1
    -- both refuse
    have bad : ¬ ((0 ≤ v1.toInt ∧ v1.toInt < (gr.1 1).toInt) ∧ (0 ≤ v2.toInt ∧ v2.toInt < (gr.1 1).toInt)) → fM_differ_39 (gM_differ cfFU) v1 v2 om = some rm → AnsC [(2, 1), (3, 2)] r.2.1 r.1 rm ∧ FuI r.2.2 gr := fun nb z => by
      unfold fM_differ_39 fM_differ_40 at z
      rw [if_neg n38] at z
      unfold fM_differ_54 at z
      rw [if_neg n38, if_pos rfl] at z
      unfold fM_differ_70 at z
      rw [refuse_2 (by decide), Option.bind_some, if_neg (show ¬ ((1 : Int32), fp om 0 2).1 = 0 by show ¬ (1 : Int32) = 0; decide)] at z
      have k41 : fF_differ_41 v1 v2 o0 fu gr = some r → r = (0, fp o0 30 3, fu) := fun w => by
        unfold fF_differ_41 fF_differ_42 at w
        rw [if_pos rfl] at w
        exact (Option.some.inj w).symm
      have er : r = (0, fp o0 30 3, fu) := by
        rcases ifc h1 with ⟨d, w⟩ | ⟨d, w⟩
        · exact k41 w
        · have d : 0 ≤ v1.toInt := c_nlt d
          rcases ifc w with ⟨e, w⟩ | ⟨e, w⟩
          · exact k41 w
          · have e := c_nle e
            rcases ifc w with ⟨g, w⟩ | ⟨g, w⟩
            · exact k41 w
            · have g : 0 ≤ v2.toInt := c_nlt g
              rcases ifc w with ⟨i, w⟩ | ⟨i, w⟩
              · exact k41 w
              · have i := c_nle i
                exact absurd ⟨⟨d, e⟩, g, i⟩ nb
      rw [er, ← Option.some.inj z]
      exact ⟨Or.inr ⟨(3, 2), List.mem_cons_of_mem _ (List.mem_cons_self ..), rfl, rfl⟩, hI⟩
    obtain ⟨q, hq, h2⟩ := bd h2
    have yq := in_sp hq
    rw [show (0 : Int32).toInt = 0 from rfl, e1] at yq
    rcases ifc h2 with ⟨c, h2⟩ | ⟨c, h2⟩
    · have nq := Yn_0 yq c
      exact bad (fun z => nq ⟨z.1.1, by omega⟩) h2
    · have iq := Yn_1 yq c
      rw [opk] at h2
      obtain ⟨t, ht, h2⟩ := bd h2
      have yt := in_sp ht
      rw [show (0 : Int32).toInt = 0 from rfl, e1] at yt
      rcases ifc h2 with ⟨d, h2⟩ | ⟨d, h2⟩
      · have nt := Yn_0 yt d
        exact bad (fun z => nt ⟨z.2.1, by omega⟩) h2
      · have it := Yn_1 yt d
        unfold fM_differ_40 at h2
        rw [if_neg n38] at h2
        unfold fM_differ_54 at h2
        rw [if_neg n38, if_neg (by decide)] at h2
        unfold fM_differ_69 fM_differ_70 at h2
        rw [refuse_00, Option.bind_some, if_pos (show ((0 : Int32), fp om 0 0).1 = 0 from rfl), opk, opk] at h2
        obtain ⟨V, S⟩ := VS_ex G
        have R1 : RGq b n gr (fp om 0 0) := RGq_f R rfl rfl rfl rfl rfl rfl rfl
        have p2 : 2 ^ (b - 1) ≤ 256 := Nat.le_trans (Nat.pow_le_pow_right (by decide) (show b - 1 ≤ 8 by omega)) (by decide)
        have er := rows_i R1
        have p0 : 0 < 2 ^ (b - 1) := Nat.pow_pos (by decide)
        have em : ((1 : Int32) <<< (((fp om 0 0).1 39) &&& 31) - 1).toInt = ((2 ^ (b - 1) : Nat) : Int) - 1 := by
          generalize 2 ^ (b - 1) = N at er p2
          rw [i_sub' (by omega) (by omega) (by decide) (by decide), er]; rfl
        obtain ⟨L2, z2⟩ := df_go (OM := fp om 0 0) G S R1 h381 rfl p2 iq.1 (by omega) it.1 (by omega) cfFU (-1) _ (2 ^ (b - 1)) (fp om 0 0) rm fr_rfl rfl em (Nat.le_refl _) (Or.inl ⟨rfl, fun i h1 h2 => by omega⟩) h2
        rcases ifc h1 with ⟨e, _⟩ | ⟨_, h1⟩
        · have e : v1.toInt < 0 := c_lt e
          omega
        rcases ifc h1 with ⟨e, _⟩ | ⟨_, h1⟩
        · have e := c_le e
          omega
        rcases ifc h1 with ⟨e, _⟩ | ⟨_, h1⟩
        · have e : v2.toInt < 0 := c_lt e
          omega
        rcases ifc h1 with ⟨e, _⟩ | ⟨_, h1⟩
        · have e := c_le e
          omega
        unfold fF_differ_42 at h1
        rw [if_neg (by decide)] at h1
        unfold fF_differ_45 at h1
        obtain ⟨p, hp, h1⟩ := bd h1
        obtain ⟨_, _, _, B⟩ := fuf_sp G S hI hp
        have i1 : v1.toNatClampNeg = v1.toInt.toNat := by have := tn_n v1; omega
        have i2 : v2.toNatClampNeg = v2.toInt.toNat := by have := tn_n v2; omega
        unfold fF_differ_56 at h1
        have h1 := (ifn h1).2
        rw [opk] at h1
        have h1 := (ifn h1).2
        rw [opk, i1, i2] at h1
        obtain ⟨l, hl, h1⟩ := bd h1
        have ob1 := G.2.2 v1.toInt.toNat (by omega)
        have ob2 := G.2.2 v2.toInt.toNat (by omega)
        unfold fFu_leastUnlike fFu_leastUnlike_0 at hl
        have L1 := LuC_n G S (by omega) (by omega) (lu2_go B ob1.1 ob1.2 ob2.1 ob2.2 (by omega) cfFU 0 l (by decide) (by decide) (fun i hi => absurd hi (by rw [show (0 : Int32).toInt = 0 from rfl]; omega)) hl)
        rw [← Option.some.inj h1]
        exact ⟨Or.inl ⟨rfl, z2, LuC_u L1 L2⟩, fuI_find G hI hp⟩
