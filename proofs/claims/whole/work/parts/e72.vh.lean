def AnsC (L : List (Int32 × Int32)) (F : cf_O) (ra : Int32) (rm : Int32 × cf_O) : Prop := (F.1 30 = 0 ∧ rm.2.1 0 = 0 ∧ ra = rm.1) ∨ ∃ p ∈ L, F.1 30 = p.1 ∧ rm.2.1 0 = p.2
theorem refuse_3 {s : Int32} {o : cf_O} (h : ¬ s = 0) : fM_refuse 0 0 s o = some (1, fp o 0 3) := by
  unfold fM_refuse fM_refuse_0
  rw [if_pos rfl, if_pos rfl, if_neg h]
  rfl
def mxl (gr : cf_O) : Nat → Int32
  | 0 => 0
  | k + 1 => op_mx (mxl gr k) (gr.2.1 6 ((gr.2.1 7 k).toInt.toNat / 2))
theorem glv_go {b n : Nat} {gr : cf_O} (G : GW b n gr) : ∀ (f : Nat) (a v r : Int32), 0 ≤ v.toInt → v.toInt ≤ (gr.1 1).toInt → a = mxl gr v.toInt.toNat → gGr_greatestLevel f 0 a v gr = some r → r = mxl gr (gr.1 1).toInt.toNat
  | 0, a, v, r, h0, h1, ea, h => by cases h
  | f + 1, a, v, r, h0, h1, ea, h => by
    have G0 := G.1
    have h : fGr_greatestLevel_4 (gGr_greatestLevel f) a v gr = some r := h
    unfold fGr_greatestLevel_4 at h
    rcases ifc h with ⟨c, h⟩ | ⟨c, h⟩
    · have c := c_le c
      rw [← Option.some.inj h, ea, show v.toInt.toNat = (gr.1 1).toInt.toNat from by omega]
    · have c := c_nle c
      have iv : v.toNatClampNeg = v.toInt.toNat := by have := tn_n v; omega
      have p1 := p_1 (v := v) h0 (by omega)
      have ob := G.2.2 v.toInt.toNat (by omega)
      have h := (ifn h).2
      rw [opk, opk] at h
      have h := (ifn h).2
      rw [opk, opk, opk, iv, sr_i ob.1] at h
      refine glv_go G f _ (v + 1) r (by omega) (by omega) ?_ h
      rw [show (v + 1).toInt.toNat = v.toInt.toNat + 1 from by omega, ea]; rfl
theorem rgr_go {b n : Nat} {gr om : cf_O} {v1 : Int32} (G : GW b n gr) (R : RGq b n gr om) : ∀ (f : Nat) (a v : Int32) (r : Int32 × cf_O), 0 ≤ v.toInt → v.toInt ≤ (gr.1 1).toInt → a = mxl gr v.toInt.toNat → gM_graph f 0 v1 a v om = some r → r = (if v1 = 0 then om.1 39 else if v1 = 1 then om.1 40 else if v1 = 2 then om.1 43 else mxl gr (gr.1 1).toInt.toNat, om)
  | 0, a, v, r, h0, h1, ea, h => by cases h
  | f + 1, a, v, r, h0, h1, ea, h => by
    have G0 := G.1
    have e40 : om.1 40 = gr.1 1 := R.1.2.2.2.2.1
    have h : fM_graph_47 (gM_graph f) v1 a v om = some r := h
    unfold fM_graph_47 at h
    rcases ifc h with ⟨c, h⟩ | ⟨c, h⟩
    · have c := c_le c
      rw [e40] at c
      have em : a = mxl gr (gr.1 1).toInt.toNat := by rw [ea, show v.toInt.toNat = (gr.1 1).toInt.toNat from by omega]
      rcases ifc h with ⟨d, h⟩ | ⟨d, h⟩
      · rw [if_pos d]; exact (Option.some.inj h).symm
      · rw [if_neg d]
        rcases ifc h with ⟨d, h⟩ | ⟨d, h⟩
        · rw [if_pos d]; exact (Option.some.inj h).symm
        · rw [if_neg d]
          rcases ifc h with ⟨d, h⟩ | ⟨d, h⟩
          · rw [if_pos d]; exact (Option.some.inj h).symm
          · rw [if_neg d, ← em]; exact (Option.some.inj h).symm
    · have c := c_nle c
      rw [e40] at c
      have iv : v.toNatClampNeg = v.toInt.toNat := by have := tn_n v; omega
      have p1 := p_1 (v := v) h0 (by omega)
      have ob := G.2.2 v.toInt.toNat (by omega)
      have e47 := R.2.2.2.1 v.toInt.toNat (by omega)
      have e46 := R.2.2.1 ((gr.2.1 7 v.toInt.toNat).toInt.toNat / 2) (by omega)
      have ms : mxl gr (v + 1).toInt.toNat = op_mx a (gr.2.1 6 ((gr.2.1 7 v.toInt.toNat).toInt.toNat / 2)) := by
        rw [show (v + 1).toInt.toNat = v.toInt.toNat + 1 from by omega, ea]; rfl
      have k89 : ∀ s : Int32, s = mxl gr (v + 1).toInt.toNat → fM_graph_89 (gM_graph f) v1 v s om = some r → r = (if v1 = 0 then om.1 39 else if v1 = 1 then om.1 40 else if v1 = 2 then om.1 43 else mxl gr (gr.1 1).toInt.toNat, om) := fun s es z => by
        unfold fM_graph_89 at z
        rw [opk] at z
        exact rgr_go G R f s (v + 1) r (by omega) (by omega) es z
      have h := (ifn h).2
      rw [opk, opk] at h
      have h := (ifn h).2
      rw [opk, iv, e47, hf_i ob.1, e46.1] at h
      rcases ifc h with ⟨d, h⟩ | ⟨d, h⟩
      · have d := c_le d
        refine k89 a ?_ h
        rw [ms]
        exact Int32.toInt_inj.mp (by rw [mx_n]; omega)
      · have d := c_nle d
        have h := (ifn h).2
        rw [opk, opk] at h
        have h := (ifn h).2
        rw [opk, hf_i ob.1, e46.1] at h
        refine k89 _ ?_ h
        rw [ms]
        exact Int32.toInt_inj.mp (by rw [mx_n]; omega)
theorem eq_graph {v1 : Int32} {o0 gr om : cf_O} {r rm : Int32 × cf_O} (h38 : om.1 38 = o0.1 16) (h16 : o0.1 16 = 0 ∨ (o0.1 16 = 1 ∧ ∃ b n : Nat, GW b n gr ∧ RGq b n gr om)) (h1 : fF_graph v1 o0 gr = some r) (h2 : fM_graph v1 om = some rm) : AnsC [(2, 1), (1, 2)] r.2 r.1 rm := by
  unfold fF_graph fF_graph_0 at h1
  unfold fM_graph fM_graph_0 at h2
  rcases h16 with a | ⟨a, b, n, G, R⟩
  · rw [if_pos a] at h1
    rw [if_pos (h38.trans a)] at h2
    unfold fM_graph_13 at h2
    rw [if_pos (h38.trans a)] at h2
    unfold fM_graph_33 fM_graph_34 at h2
    rw [refuse_1, Option.bind_some, if_neg (show ¬ ((1 : Int32), fp om 0 1).1 = 0 by show ¬ (1 : Int32) = 0; decide)] at h2
    rw [← Option.some.inj h1, ← Option.some.inj h2]
    exact Or.inr ⟨(2, 1), List.mem_cons_self .., rfl, rfl⟩
  · have n16 : ¬ o0.1 16 = 0 := by rw [a]; decide
    have n38 : ¬ om.1 38 = 0 := by rw [h38]; exact n16
    have R1 : RGq b n gr (fp om 0 0) := RGq_f R rfl rfl rfl rfl rfl rfl rfl
    have G0 := G.1
    rw [if_neg n16] at h1
    rw [if_neg n38] at h2
    unfold fF_graph_7 at h1
    unfold fM_graph_13 at h2
    rw [if_neg n38] at h2
    obtain ⟨q, hq, h2⟩ := bd h2
    have yq := in_sp hq
    rw [show (0 : Int32).toInt = 0 from rfl, show (3 : Int32).toInt = 3 from rfl] at yq
    rcases ifc h2 with ⟨c, h2⟩ | ⟨c, h2⟩
    · have nq := Yn_0 yq c
      unfold fM_graph_34 at h2
      rw [refuse_2 (by decide), Option.bind_some, if_neg (show ¬ ((1 : Int32), fp om 0 2).1 = 0 by show ¬ (1 : Int32) = 0; decide)] at h2
      have ne : ∀ k : Int32, 0 ≤ k.toInt → k.toInt ≤ 3 → ¬ v1 = k := fun k k0 k3 z => nq (by rw [z]; exact ⟨k0, k3⟩)
      rw [if_neg (ne 0 (by decide) (by decide)), if_neg (ne 1 (by decide) (by decide)), if_neg (ne 2 (by decide) (by decide)), if_neg (ne 3 (by decide) (by decide))] at h1
      rw [← Option.some.inj h1, ← Option.some.inj h2]
      exact Or.inr ⟨(1, 2), List.mem_cons_of_mem _ (List.mem_cons_self ..), rfl, rfl⟩
    · have iq := Yn_1 yq c
      unfold fM_graph_33 fM_graph_34 at h2
      rw [refuse_00, Option.bind_some, if_pos (show ((0 : Int32), fp om 0 0).1 = 0 from rfl)] at h2
      have em := rgr_go G R1 cfFU 0 0 rm (by decide) (by rw [show (0 : Int32).toInt = 0 from rfl]; omega) rfl h2
      refine Or.inl ?_
      rw [em]
      rcases ifc h1 with ⟨d, h1⟩ | ⟨d, h1⟩
      · rw [← Option.some.inj h1]
        exact ⟨rfl, rfl, by rw [if_pos d]; exact R.1.2.2.1.symm⟩
      · rcases ifc h1 with ⟨d2, h1⟩ | ⟨d2, h1⟩
        · rw [← Option.some.inj h1]
          exact ⟨rfl, rfl, by rw [if_neg d, if_pos d2]; exact R.1.2.2.2.2.1.symm⟩
        · rcases ifc h1 with ⟨d3, h1⟩ | ⟨d3, h1⟩
          · rw [← Option.some.inj h1]
            exact ⟨rfl, rfl, by rw [if_neg d, if_neg d2, if_pos d3]; exact Int32.toInt_inj.mp (by show (gr.1 2).toInt = (om.1 43).toInt; rw [R.1.1, R.1.2.1])⟩
          · rcases ifc h1 with ⟨d4, h1⟩ | ⟨d4, h1⟩
            · obtain ⟨g, hg, h1⟩ := bd h1
              unfold fGr_greatestLevel fGr_greatestLevel_0 at hg
              have eg := glv_go G cfFU 0 0 g (by decide) (by rw [show (0 : Int32).toInt = 0 from rfl]; omega) rfl hg
              rw [← Option.some.inj h1]
              exact ⟨rfl, rfl, by rw [if_neg d, if_neg d2, if_neg d3]; exact eg⟩
            · exfalso
              have y0 : ¬ v1.toInt = 0 := c_ne d
              have y1 : ¬ v1.toInt = 1 := c_ne d2
              have y2 : ¬ v1.toInt = 2 := c_ne d3
              have y3 : ¬ v1.toInt = 3 := c_ne d4
              omega
theorem eq_output {v1 : Int32} {o0 gr om : cf_O} {r rm : Int32 × cf_O} (h38 : om.1 38 = o0.1 16) (h16 : o0.1 16 = 0 ∨ (o0.1 16 = 1 ∧ ∃ b n : Nat, GW b n gr ∧ RGq b n gr om)) (h1 : fF_output v1 o0 gr = some r) (h2 : fM_output v1 om = some rm) : AnsC [(2, 1), (3, 2)] r.2 r.1 rm := by
  unfold fF_output fF_output_0 at h1
  unfold fM_output fM_output_0 at h2
  rcases h16 with a | ⟨a, b, n, G, R⟩
  · rw [if_pos a] at h1
    rw [if_pos (h38.trans a)] at h2
    unfold fM_output_13 at h2
    rw [if_pos (h38.trans a)] at h2
    unfold fM_output_38 fM_output_39 at h2
    rw [refuse_1, Option.bind_some, if_neg (show ¬ ((1 : Int32), fp om 0 1).1 = 0 by show ¬ (1 : Int32) = 0; decide)] at h2
    rw [← Option.some.inj h1, ← Option.some.inj h2]
    exact Or.inr ⟨(2, 1), List.mem_cons_self .., rfl, rfl⟩
  · have n16 : ¬ o0.1 16 = 0 := by rw [a]; decide
    have n38 : ¬ om.1 38 = 0 := by rw [h38]; exact n16
    have G0 := G.1
    have e40 : om.1 40 = gr.1 1 := R.1.2.2.2.2.1
    rw [if_neg n16] at h1
    rw [if_neg n38] at h2
    unfold fF_output_7 at h1
    unfold fM_output_13 at h2
    rw [if_neg n38, opk] at h2
    obtain ⟨q, hq, h2⟩ := bd h2
    have yq := in_sp hq
    have e1 : ((om.1 40) - 1).toInt = (gr.1 1).toInt - 1 := by rw [e40, Int32.toInt_sub, show (1 : Int32).toInt = 1 from rfl, i_bm (by omega) (by omega)]
    rw [show (0 : Int32).toInt = 0 from rfl, e1] at yq
    rcases ifc h2 with ⟨c, h2⟩ | ⟨c, h2⟩
    · have nq := Yn_0 yq c
      unfold fM_output_39 at h2
      rw [refuse_2 (by decide), Option.bind_some, if_neg (show ¬ ((1 : Int32), fp om 0 2).1 = 0 by show ¬ (1 : Int32) = 0; decide)] at h2
      have k26 : fF_output_26 v1 o0 gr = some r → r = (0, fp o0 30 3) := fun z => by
        unfold fF_output_26 fF_output_27 at z
        rw [if_pos rfl] at z
        exact (Option.some.inj z).symm
      have er : r = (0, fp o0 30 3) := by
        rcases ifc h1 with ⟨d, h1⟩ | ⟨d, h1⟩
        · exact k26 h1
        · rcases ifc h1 with ⟨e, h1⟩ | ⟨e, h1⟩
          · exact k26 h1
          · have d : 0 ≤ v1.toInt := c_nlt d
            have e := c_nle e
            exact absurd ⟨d, by omega⟩ nq
      rw [er, ← Option.some.inj h2]
      exact Or.inr ⟨(3, 2), List.mem_cons_of_mem _ (List.mem_cons_self ..), rfl, rfl⟩
    · have iq := Yn_1 yq c
      unfold fM_output_38 fM_output_39 at h2
      rw [refuse_00, Option.bind_some, if_pos (show ((0 : Int32), fp om 0 0).1 = 0 from rfl)] at h2
      have h2 := (ifn h2).2
      rw [opk] at h2
      have iv : v1.toNatClampNeg = v1.toInt.toNat := by have := tn_n v1; omega
      rcases ifc h1 with ⟨d, _⟩ | ⟨d, h1⟩
      · have d : v1.toInt < 0 := c_lt d
        omega
      · rcases ifc h1 with ⟨e, _⟩ | ⟨e, h1⟩
        · have e := c_le e
          omega
        · unfold fF_output_27 at h1
          rw [if_neg (by decide)] at h1
          unfold fF_output_30 at h1
          have h1 := (ifn h1).2
          rw [opk] at h1
          rw [← Option.some.inj h1, ← Option.some.inj h2, iv]
          exact Or.inl ⟨rfl, rfl, (R.2.2.2.1 v1.toInt.toNat (by omega)).symm⟩
