theorem tw_N1 {i : Nat} {v : Int32} {l : Int64} {sc sb sb2 om om2 : cf_O} (T : TwS sb om) (ev : v.toInt = (i : Int)) (hi : i < 8) (H : NmR l (fun k => om.2.1 41 (8 * i + k))) (k1 : fSc_writeName l sc sb = some sb2) (k2 : fM_name_M41 v om = some om2) : TwS sb2 om2 ∧ Fr (fr_M [76] [77] []) om om2 := by
  obtain ⟨L, S, R, A, l5⟩ := T
  obtain ⟨R2, f2⟩ := na1_sp R ev hi k2
  exact ⟨⟨_, wnm_sp S H k1, R2, AsQ_a A (nmF_a H), by rw [List.length_append]; omega⟩, f2⟩
theorem tw_N2 {i : Nat} {v : Int32} {l : Int64} {sc sb sb2 om om2 : cf_O} (T : TwS sb om) (ev : v.toInt = (i : Int)) (hi : i < 6) (H : NmR l (fun k => om.2.1 42 (8 * i + k))) (k1 : fSc_writeName l sc sb = some sb2) (k2 : fM_name_M42 v om = some om2) : TwS sb2 om2 ∧ Fr (fr_M [76] [77] []) om om2 := by
  obtain ⟨L, S, R, A, l5⟩ := T
  obtain ⟨R2, f2⟩ := na2_sp R ev hi k2
  exact ⟨⟨_, wnm_sp S H k1, R2, AsQ_a A (nmF_a H), by rw [List.length_append]; omega⟩, f2⟩
theorem an2_t : ∀ k : Nat, k < 418 → (Int32.ofNat k &&& (-2)).toInt = 2 * ((k / 2 : Nat) : Int) := by decide +kernel
theorem out_sp {b n k : Nat} {v1 v2 s x9 : Int32} {gr nl sc sb sb2 om om2 : cf_O} (G : GW b n gr) (RG : RGq b n gr om) (N : NaI nl gr om) (W : W4 (om.2.2 4)) (T : TwS sb om) (hk : (k : Int) < (gr.1 1).toInt) (e1 : v1.toInt = (k : Int)) (e2 : v2.toInt = (k : Int)) (ex : x9 = gr.2.1 7 k &&& (-2)) (es : (s = 0 ∧ (gr.2.1 7 k).toInt % 2 = 0) ∨ (s = 1 ∧ (gr.2.1 7 k).toInt % 2 = 1)) (k1 : fSc_writeResult v2 x9 s sc nl sb = some sb2) (k2 : fM_writeOutput v1 om = some om2) : TwS sb2 om2 ∧ Fr (fr_M [76] [77] []) om om2 := by
  have G0 := G.1
  have R0 := RG.1
  have o := og_sp G hk
  have x0 := G.2.2 k hk
  have e9 : x9.toInt = 2 * (og gr k : Int) := by
    have z := an2_t (gr.2.1 7 k).toInt.toNat (by omega)
    rw [of_n x0.1, ← ex] at z
    exact z
  unfold fM_writeOutput fM_writeOutput_0 at k2
  have k2 := (ifn k2).2
  rw [opk, opk, tW e1, RG.2.2.2.1 k hk] at k2
  have k2 := (ifn k2).2
  rw [opk, opk] at k2
  have ed : (og gr k : Int) = (gr.2.1 7 k).toInt / 2 := by unfold og; omega
  have em : (gr.2.1 7 k / 2 * 2).toInt = 2 * (og gr k : Int) := by
    rw [Int32.toInt_mul, o.2.2, show (2 : Int32).toInt = 2 from rfl, i_bm (by omega) (by omega)]; omega
  have ep : (gr.2.1 7 k - gr.2.1 7 k / 2 * 2).toInt = (gr.2.1 7 k).toInt % 2 := by
    rw [Int32.toInt_sub, em, i_bm (by omega) (by omega)]; omega
  have k2 : fM_writeOutput_26 v1 (gr.2.1 7 k / 2) s om = some om2 := by
    rcases es with ⟨q1, q2⟩ | ⟨q1, q2⟩
    · rw [if_neg (fun z => by rw [z, show (1 : Int32).toInt = 1 from rfl] at ep; omega)] at k2
      rw [q1]; exact k2
    · rw [if_pos (Int32.toInt_inj.mp (by rw [ep, q2]; rfl))] at k2
      rw [q1]; exact k2
  unfold fM_writeOutput_26 at k2
  obtain ⟨o1, m1, k2⟩ := bd k2
  unfold fSc_writeResult fSc_writeResult_0 at k1
  obtain ⟨L, S, R, A, l5⟩ := T
  obtain ⟨R1, F1⟩ := wor_sp (w := 2) R W rfl (by decide) m1
  have aw : AsQ (wdR 2) := by rw [show wdR 2 = [46, 110, 97, 109, 101, 115] from by decide +kernel]; unfold AsQ; decide
  have hN := N.2.2.2 k (by rw [R0.2.2.2.2.1]; exact hk)
  -- behind the literal
  have tail : ∀ (v5 : Int32) (s3 o3 : cf_O), TwS s3 o3 → Fr (fr_M [76] [77] []) om o3 → ((v5 = 0 ∧ 1 ≤ og gr k) ∨ (¬ v5 = 0 ∧ og gr k = 0)) → fSc_writeResult_33 v2 x9 s v5 sc nl s3 = some sb2 → fM_writeOutput_41 v1 (gr.2.1 7 k / 2) s o3 = some om2 → TwS sb2 om2 ∧ Fr (fr_M [76] [77] []) om om2 := fun v5 s3 o3 T3 F3 h5 y1 y2 => by
    unfold fSc_writeResult_33 at y1
    have y1 := (ifn y1).2
    rw [opk, tW e2] at y1
    obtain ⟨s4, a4, y1⟩ := bd y1
    unfold fM_writeOutput_41 at y2
    obtain ⟨o4, b4, y2⟩ := bd y2
    obtain ⟨T4, F4⟩ := tw_N2 T3 e1 (by omega) (by rw [F3.2.1 42 rfl]; exact hN) a4 b4
    unfold fSc_writeResult_43 at y1
    obtain ⟨s5, a5, y1⟩ := bd y1
    obtain ⟨o5, b5, y2⟩ := bd y2
    obtain ⟨T5, F5⟩ := tw_C T4 (by decide) (by decide) (by decide) a5 b5
    have F5 : Fr (fr_M [76] [77] []) om o5 := fr_tr (fr_tr F3 F4 rfl rfl rfl) F5 rfl rfl rfl
    unfold fSc_writeResult_52 at y1
    rcases h5 with ⟨q5, qg⟩ | ⟨q5, qg⟩
    · rw [if_pos q5] at y1
      rw [if_neg (fun z => by have := c_le z; rw [o.2.2, show (0 : Int32).toInt = 0 from rfl] at this; omega)] at y2
      have e4 : ∀ (c : Int64) (sw : Nat) (s6 : cf_O), (∀ L : List Int32, SbQ s5 L → SbQ s6 (L ++ wdL sw 4)) → wdL sw 4 = [c.toInt32, 32, 49, 10] → AsQ (wdL sw 4) → sb2 = s6 → fM_writeOutput_75 c o5 = some om2 → TwS sb2 om2 ∧ Fr (fr_M [76] [77] []) om om2 := fun c sw s6 hS hw ha e6 y2 => by
        obtain ⟨L2, S2, R2, A2, m5⟩ := T5
        unfold fM_writeOutput_75 fM_writeOutput_120 at y2
        obtain ⟨p1, c1, y2⟩ := bd y2
        obtain ⟨p2, c2, y2⟩ := bd y2
        obtain ⟨p3, c3, y2⟩ := bd y2
        obtain ⟨p4, c4, y2⟩ := bd y2
        have e7 : om2 = p4 := (Option.some.inj y2).symm
        obtain ⟨Q1, g1⟩ := em_sp R2 c1
        obtain ⟨Q2, g2⟩ := em_sp Q1 c2
        obtain ⟨Q3, g3⟩ := em_sp Q2 c3
        obtain ⟨Q4, g4⟩ := em_sp Q3 c4
        rw [List.append_assoc, List.append_assoc, List.append_assoc] at Q4
        rw [e6, e7]
        refine ⟨⟨_, hS _ S2, ?_, AsQ_a A2 ha, by rw [List.length_append]; omega⟩, fr_tr (fr_tr (fr_tr (fr_tr F5 g1 rfl rfl rfl) g2 rfl rfl rfl) g3 rfl rfl rfl) g4 rfl rfl rfl⟩
        rw [hw]; exact Q4
      rcases es with ⟨q1, _⟩ | ⟨q1, _⟩
      · rw [if_pos q1] at y1 y2
        obtain ⟨s6, a6, y1⟩ := bd y1
        exact e4 49 14 s6 (fun L z => apS_14 z a6) (by decide +kernel) (by rw [show wdL 14 4 = [49, 32, 49, 10] from by decide +kernel]; unfold AsQ; decide) (Option.some.inj y1).symm y2
      · rw [if_neg (by rw [q1]; decide)] at y1 y2
        obtain ⟨s6, a6, y1⟩ := bd y1
        exact e4 48 13 s6 (fun L z => apS_13 z a6) (by decide +kernel) (by rw [show wdL 13 4 = [48, 32, 49, 10] from by decide +kernel]; unfold AsQ; decide) (Option.some.inj y1).symm y2
    · rw [if_neg q5, if_neg (fun z => by rw [z, show (1 : Int32).toInt = 1 from rfl] at e9; omega)] at y1
      rw [if_pos (Int32.le_iff_toInt_le.mpr (by rw [o.2.2, qg]; decide))] at y2
      rcases es with ⟨q1, _⟩ | ⟨q1, _⟩
      · rw [if_pos q1] at y1 y2
        have e6 : sb2 = s5 := (Option.some.inj y1).symm
        have e7 : om2 = o5 := (Option.some.inj y2).symm
        rw [e6, e7]; exact ⟨T5, F5⟩
      · rw [if_neg (by rw [q1]; decide)] at y1 y2
        unfold fSc_writeResult_91 at y1
        obtain ⟨s6, a6, y1⟩ := bd y1
        have e6 : sb2 = s6 := (Option.some.inj y1).symm
        obtain ⟨p1, c1, y2⟩ := bd y2
        obtain ⟨p2, c2, y2⟩ := bd y2
        have e7 : om2 = p2 := (Option.some.inj y2).symm
        obtain ⟨L2, S2, R2, A2, m5⟩ := T5
        obtain ⟨Q1, g1⟩ := em_sp R2 c1
        obtain ⟨Q2, g2⟩ := em_sp Q1 c2
        rw [List.append_assoc] at Q2
        have S6 := apS_15 S2 a6
        rw [show wdL 15 2 = [49, 10] from by decide +kernel] at S6
        rw [e6, e7]
        exact ⟨⟨_, S6, Q2, AsQ_a A2 (by unfold AsQ; decide), by rw [List.length_append]; omega⟩, fr_tr (fr_tr F5 g1 rfl rfl rfl) g2 rfl rfl rfl⟩
  rcases ifc k1 with ⟨c, k1⟩ | ⟨c, k1⟩
  · have c := c_le c
    rw [show (2 : Int32).toInt = 2 from rfl] at c
    unfold fSc_writeResult_10 at k1
    obtain ⟨s2, a2, k1⟩ := bd k1
    have S2 := apS_12 S a2
    rw [show wdL 12 6 = wdR 2 from by decide +kernel] at S2
    have T2 : TwS s2 o1 := ⟨_, S2, R1, AsQ_a A aw, by rw [List.length_append]; omega⟩
    unfold fSc_writeResult_21 at k1
    rw [if_pos rfl] at k1
    obtain ⟨s3, a3, k1⟩ := bd k1
    rw [if_neg (fun z => by have := c_le z; rw [o.2.2, show (0 : Int32).toInt = 0 from rfl] at this; omega)] at k2
    obtain ⟨o3, b3, k2⟩ := bd k2
    obtain ⟨T3, F3⟩ := liw_sp (v := og gr k) (RGq_f RG (F1.1 39 rfl) (F1.1 40 rfl) (F1.1 43 rfl) (F1.2.1 44 rfl) (F1.2.1 45 rfl) (F1.2.1 46 rfl) (F1.2.1 47 rfl)) (NaI_f N (F1.1 39 rfl) (F1.1 40 rfl) (F1.2.1 41 rfl) (F1.2.1 42 rfl)) T2 o.2.2 e9 (by omega) (by omega) a3 b3
    exact tail 0 s3 o3 T3 (fr_tr F1 F3 rfl rfl rfl) (Or.inl ⟨rfl, by omega⟩) k1 k2
  · have c := c_nle c
    rw [show (2 : Int32).toInt = 2 from rfl] at c
    unfold fSc_writeResult_10 at k1
    obtain ⟨s2, a2, k1⟩ := bd k1
    have S2 := apS_12 S a2
    rw [show wdL 12 6 = wdR 2 from by decide +kernel] at S2
    have T2 : TwS s2 o1 := ⟨_, S2, R1, AsQ_a A aw, by rw [List.length_append]; omega⟩
    unfold fSc_writeResult_21 at k1
    rw [if_neg (by decide)] at k1
    rw [if_pos (Int32.le_iff_toInt_le.mpr (by rw [o.2.2, show (0 : Int32).toInt = 0 from rfl]; omega))] at k2
    exact tail 1 s2 o1 T2 F1 (Or.inr ⟨by decide, by omega⟩) k1 k2
