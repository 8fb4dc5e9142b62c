theorem ouM_go {b n M : Nat} {gr sc nl li mp OM : cf_O} (G : GW b n gr) (eM : (gr.1 1).toInt = (M : Int)) (RG : RGq b n gr OM) (N : NaI nl gr OM) (W : W4 (OM.2.2 4)) : ∀ (D f1 f2 k : Nat) (v5 v1 : Int32) (sb om r : cf_O) (rc : cf_O × cf_O), M = k + D → v5.toInt = (k : Int) → v1.toInt = (k : Int) → Fr (fr_M [96] [97] []) OM om → TwM sb om → gMp_writeTo f1 2 v5 0 0 0 mp sc nl gr li sb = some rc → gM_writeMap f2 3 v1 om = some r → TwM rc.2 r ∧ Fr (fr_M [96] [97] []) OM r := by
  intro D
  have G0 := G.1
  induction D with
  | zero =>
    intro f1 f2 k v5 v1 sb om r rc hD e5 e1 F T h1 h2
    cases f1 with
    | zero => cases h1
    | succ f1 =>
      cases f2 with
      | zero => cases h2
      | succ f2 =>
        have h1 : fMp_writeTo_125 (gMp_writeTo f1) v5 mp sc nl gr li sb = some rc := h1
        have h2 : fM_writeMap_107 (gM_writeMap f2) v1 om = some r := h2
        unfold fMp_writeTo_125 fMp_writeTo_159 at h1
        unfold fM_writeMap_107 at h2
        rw [if_pos (Int32.le_iff_toInt_le.mpr (by omega))] at h1
        rw [if_pos (Int32.le_iff_toInt_le.mpr (by rw [F.1 40 rfl, RG.1.2.2.2.2.1]; omega))] at h2
        obtain ⟨q, hq, h1⟩ := bd h1
        unfold fSc_close fSc_close_0 at hq
        obtain ⟨s1, a1, hq⟩ := bd hq
        unfold fSc_close_9 at hq
        rw [opk] at hq
        have eq : q = (fp sc 0 1, s1) := (Option.some.inj hq).symm
        subst eq
        have er : rc = (fp sc 0 1, s1) := (Option.some.inj h1).symm
        subst er
        obtain ⟨o1, b1, h2⟩ := bd h2
        obtain ⟨o2, b2, h2⟩ := bd h2
        have er : r = o2 := (Option.some.inj h2).symm
        subst er
        obtain ⟨L, S, R, A, l5⟩ := T
        obtain ⟨R1, F1⟩ := worM_sp (w := 3) R (by rw [F.2.2 4 rfl]; exact W) rfl (by decide) b1
        obtain ⟨R2, F2⟩ := emM_sp R1 b2
        have S1 := apS_16 S a1
        rw [List.append_assoc, ← show wdL 16 5 = wdR 3 ++ [(10 : Int64).toInt32] from by decide +kernel] at R2
        exact ⟨⟨_, S1, R2, AsQ_a A (by rw [show wdL 16 5 = [46, 101, 110, 100, 10] from by decide +kernel]; unfold AsQ; decide), by rw [List.length_append]; omega⟩, fr_tr (fr_tr F F1 rfl rfl rfl) F2 rfl rfl rfl⟩
  | succ D ih =>
    intro f1 f2 k v5 v1 sb om r rc hD e5 e1 F T h1 h2
    cases f1 with
    | zero => cases h1
    | succ f1 =>
      cases f2 with
      | zero => cases h2
      | succ f2 =>
        have h1 : fMp_writeTo_125 (gMp_writeTo f1) v5 mp sc nl gr li sb = some rc := h1
        have h2 : fM_writeMap_107 (gM_writeMap f2) v1 om = some r := h2
        unfold fMp_writeTo_125 at h1
        unfold fM_writeMap_107 at h2
        have kM : k < M := by omega
        rw [if_neg (fun z => by have z := c_le z; omega)] at h1
        rw [if_neg (fun z => by have z := c_le z; rw [F.1 40 rfl, RG.1.2.2.2.2.1] at z; omega)] at h2
        have RG2 : RGq b n gr om := RGq_f RG (F.1 39 rfl) (F.1 40 rfl) (F.1 43 rfl) (F.2.1 44 rfl) (F.2.1 45 rfl) (F.2.1 46 rfl) (F.2.1 47 rfl)
        have x0 := G.2.2 k (by omega)
        have eo : (gr.2.1 7 k).toInt = (otN gr k : Int) := by unfold otN; omega
        have hN := N.2.2.2 k (by rw [RG.1.2.2.2.2.1]; omega)
        have e47 : OM.2.1 47 k = gr.2.1 7 k := RG.2.2.2.1 k (by omega)
        have h1 := (ifn h1).2
        rw [opk, tW e5] at h1
        obtain ⟨sf, hf, h1⟩ := bd h1
        obtain ⟨o1, b1, h2⟩ := bd h2
        obtain ⟨L, S, R, A, l5⟩ := T
        obtain ⟨R1, F1⟩ := worM_sp (w := 2) R (by rw [F.2.2 4 rfl]; exact W) rfl (by decide) b1
        have Fa : Fr (fr_M [96] [97] []) OM o1 := fr_tr F F1 rfl rfl rfl
        have aw : AsQ (wdR 2) := by rw [show wdR 2 = [46, 110, 97, 109, 101, 115] from by decide +kernel]; unfold AsQ; decide
        have h2 := (ifn h2).2
        rw [opk, tW e1, Fa.2.1 47 rfl, e47] at h2
        have nxt : ∀ om' : cf_O, Fr (fr_M [96] [97] []) OM om' → TwM sf om' → fM_writeMap_203 (gM_writeMap f2) v1 om' = some r → TwM rc.2 r ∧ Fr (fr_M [96] [97] []) OM r := fun om' Fo To y => by
          unfold fMp_writeTo_149 at h1
          rw [opk] at h1
          unfold fM_writeMap_203 at y
          rw [opk] at y
          exact ih f1 f2 (k + 1) (v5 + 1) (v1 + 1) sf om' r rc (by omega) (by rw [pW (by omega) (by omega)]; omega) (by rw [pW (by omega) (by omega)]; omega) Fo To h1 y
        -- behind the literal
        have tail : ∀ (u5 : Int32) (s3 o3 : cf_O), TwM s3 o3 → Fr (fr_M [96] [97] []) OM o3 → ((u5 = 0 ∧ 2 ≤ otN gr k) ∨ (u5 = 1 ∧ otN gr k < 2)) → fSc_writeResult_33 v5 (gr.2.1 7 k) 0 u5 sc nl s3 = some sf → fM_writeMap_140 (gM_writeMap f2) v1 o3 = some r → TwM rc.2 r ∧ Fr (fr_M [96] [97] []) OM r := fun u5 s3 o3 T3 F3 h5 y1 y2 => by
          unfold fSc_writeResult_33 at y1
          have y1 := (ifn y1).2
          rw [opk, tW e5] at y1
          obtain ⟨s4, a4, y1⟩ := bd y1
          unfold fM_writeMap_140 at y2
          obtain ⟨o4, b4, y2⟩ := bd y2
          obtain ⟨T4, F4⟩ := twM_N2 T3 e1 (by omega) (by rw [F3.2.1 42 rfl]; exact hN) a4 b4
          unfold fSc_writeResult_43 at y1
          obtain ⟨s5, a5, y1⟩ := bd y1
          obtain ⟨o5, b5, y2⟩ := bd y2
          obtain ⟨T5, F5⟩ := twM_C T4 (by decide) (by decide) (by decide) a5 b5
          have F5 : Fr (fr_M [96] [97] []) OM o5 := fr_tr (fr_tr F3 F4 rfl rfl rfl) F5 rfl rfl rfl
          have y2 := (ifn y2).2
          rw [opk, tW e1, F5.2.1 47 rfl, e47] at y2
          unfold fSc_writeResult_52 at y1
          have k180 : ∀ (o6 : cf_O), Fr (fr_M [96] [97] []) OM o6 → fM_writeMap_180 (gM_writeMap f2) v1 o6 = some r → (otN gr k = 0 ∧ fM_writeMap_203 (gM_writeMap f2) v1 o6 = some r) ∨ (1 ≤ otN gr k ∧ ∃ p1 p2 : cf_O, fM_emit 49 o6 = some p1 ∧ fM_emit 10 p1 = some p2 ∧ fM_writeMap_203 (gM_writeMap f2) v1 p2 = some r) := fun o6 F6 z => by
            unfold fM_writeMap_180 at z
            have z := (ifn z).2
            rw [opk, tW e1, F6.2.1 47 rfl, e47] at z
            rcases ifc z with ⟨w, z⟩ | ⟨w, z⟩
            · have w : (gr.2.1 7 k).toInt ≤ 0 := c_le w
              exact Or.inl ⟨by omega, z⟩
            · have w : 0 < (gr.2.1 7 k).toInt := c_nle w
              obtain ⟨p1, c1, z⟩ := bd z
              obtain ⟨p2, c2, z⟩ := bd z
              exact Or.inr ⟨by omega, p1, p2, c1, c2, z⟩
          rcases h5 with ⟨q5, qg⟩ | ⟨q5, qg⟩
          · rw [if_pos q5, if_pos rfl] at y1
            obtain ⟨s6, a6, y1⟩ := bd y1
            have e6 : sf = s6 := (Option.some.inj y1).symm
            rw [if_neg (fun z => by have z : (gr.2.1 7 k).toInt ≤ 1 := c_le z; omega)] at y2
            obtain ⟨p1, c1, y2⟩ := bd y2
            obtain ⟨p2, c2, y2⟩ := bd y2
            obtain ⟨L2, S2, R2, A2, m5⟩ := T5
            obtain ⟨Q1, g1⟩ := emM_sp R2 c1
            obtain ⟨Q2, g2⟩ := emM_sp Q1 c2
            have Fp2 : Fr (fr_M [96] [97] []) OM p2 := fr_tr (fr_tr F5 g1 rfl rfl rfl) g2 rfl rfl rfl
            rcases k180 p2 Fp2 y2 with ⟨z, _⟩ | ⟨_, p3, p4, c3, c4, y2⟩
            · omega
            obtain ⟨Q3, g3⟩ := emM_sp Q2 c3
            obtain ⟨Q4, g4⟩ := emM_sp Q3 c4
            rw [List.append_assoc, List.append_assoc, List.append_assoc] at Q4
            have S6 := apS_14 S2 a6
            rw [show wdL 14 4 = [49, 32, 49, 10] from by decide +kernel] at S6
            exact nxt p4 (fr_tr (fr_tr Fp2 g3 rfl rfl rfl) g4 rfl rfl rfl) (by rw [e6]; exact ⟨_, S6, Q4, AsQ_a A2 (by unfold AsQ; decide), by rw [List.length_append]; omega⟩) y2
          · rw [if_neg (by rw [q5]; decide)] at y1
            rw [if_pos (Int32.le_iff_toInt_le.mpr (show (gr.2.1 7 k).toInt ≤ 1 by omega))] at y2
            rcases k180 o5 F5 y2 with ⟨z, y2⟩ | ⟨z, p1, p2, c1, c2, y2⟩
            · rw [if_neg (fun w => by have w := c_eq w; rw [show (1 : Int32).toInt = 1 from rfl] at w; omega), if_pos rfl] at y1
              have e6 : sf = s5 := (Option.some.inj y1).symm
              exact nxt o5 F5 (by rw [e6]; exact T5) y2
            · rw [if_pos (Int32.toInt_inj.mp (by show (gr.2.1 7 k).toInt = 1; omega))] at y1
              unfold fSc_writeResult_91 at y1
              obtain ⟨s6, a6, y1⟩ := bd y1
              have e6 : sf = s6 := (Option.some.inj y1).symm
              obtain ⟨L2, S2, R2, A2, m5⟩ := T5
              obtain ⟨Q1, g1⟩ := emM_sp R2 c1
              obtain ⟨Q2, g2⟩ := emM_sp Q1 c2
              rw [List.append_assoc] at Q2
              have S6 := apS_15 S2 a6
              rw [show wdL 15 2 = [49, 10] from by decide +kernel] at S6
              exact nxt p2 (fr_tr (fr_tr F5 g1 rfl rfl rfl) g2 rfl rfl rfl) (by rw [e6]; exact ⟨_, S6, Q2, AsQ_a A2 (by unfold AsQ; decide), by rw [List.length_append]; omega⟩) y2
        unfold fSc_writeResult fSc_writeResult_0 at hf
        rcases ifc hf with ⟨c, hf⟩ | ⟨c, hf⟩
        · have c : 2 ≤ (gr.2.1 7 k).toInt := c_le c
          unfold fSc_writeResult_10 at hf
          obtain ⟨s2, a2, hf⟩ := bd hf
          have S2 := apS_12 S a2
          rw [show wdL 12 6 = wdR 2 from by decide +kernel] at S2
          have T2 : TwM s2 o1 := ⟨_, S2, R1, AsQ_a A aw, by rw [List.length_append]; omega⟩
          unfold fSc_writeResult_21 at hf
          rw [if_pos rfl] at hf
          obtain ⟨s3, a3, hf⟩ := bd hf
          rw [if_neg (fun z => by have z : (gr.2.1 7 k).toInt ≤ 1 := c_le z; omega)] at h2
          have h2 := (ifn h2).2
          rw [opk] at h2
          obtain ⟨o3, b3, h2⟩ := bd h2
          obtain ⟨T3, F3⟩ := litM_sp (x := otN gr k) (RGq_f RG2 (F1.1 39 rfl) (F1.1 40 rfl) (F1.1 43 rfl) (F1.2.1 44 rfl) (F1.2.1 45 rfl) (F1.2.1 46 rfl) (F1.2.1 47 rfl)) (NaI_f N (Fa.1 39 rfl) (Fa.1 40 rfl) (Fa.2.1 41 rfl) (Fa.2.1 42 rfl)) T2 eo eo (by omega) (by omega) a3 b3
          exact tail 0 s3 o3 T3 (fr_tr Fa F3 rfl rfl rfl) (Or.inl ⟨rfl, by omega⟩) hf h2
        · have c : (gr.2.1 7 k).toInt < 2 := c_nle c
          unfold fSc_writeResult_10 at hf
          obtain ⟨s2, a2, hf⟩ := bd hf
          have S2 := apS_12 S a2
          rw [show wdL 12 6 = wdR 2 from by decide +kernel] at S2
          have T2 : TwM s2 o1 := ⟨_, S2, R1, AsQ_a A aw, by rw [List.length_append]; omega⟩
          unfold fSc_writeResult_21 at hf
          rw [if_neg (by decide)] at hf
          rw [if_pos (Int32.le_iff_toInt_le.mpr (show (gr.2.1 7 k).toInt ≤ 1 by omega))] at h2
          exact tail 1 s2 o1 T2 Fa (Or.inr ⟨rfl, by omega⟩) hf h2
theorem wrM_sim {b n c M : Nat} {gr mp sc nl li sb om r : cf_O} {L0 : List Int32} {L : List Nat} {rc : cf_O × cf_O} (G : GW b n gr) (eM : (gr.1 1).toInt = (M : Int)) (RG : RGq b n gr om) (N : NaI nl gr om) (W : W4 (om.2.2 4)) (h95 : om.1 95 = 1) (Lq : LRq c li (om.2.1 84)) (Nm' : NmL c li (om.2.1 83)) (LC : LiC li mp mp L) (LR : LiR om L) (HL : ∀ x ∈ L, InQ c mp om x) (S0 : SbQ sb L0) (h1 : fMp_writeTo mp sc nl gr li sb = some rc) (h2 : fM_writeMap om = some r) : TwM rc.2 r := by
  have G0 := G.1
  unfold fMp_writeTo fMp_writeTo_0 at h1
  obtain ⟨sh, hsh, h1⟩ := bd h1
  unfold fSc_writeHead fSc_writeHead_0 at hsh
  obtain ⟨s0, a0, hsh⟩ := bd hsh
  have S1 := sle_sp S0 a0
  unfold fSc_writeHead_8 at hsh
  obtain ⟨s1, a1, hsh⟩ := bd hsh
  have S2 := apS_6 S1 a1
  unfold fM_writeMap fM_writeMap_0 at h2
  rw [opk] at h2
  obtain ⟨o1, b1, h2⟩ := bd h2
  have R0 : RtM (fp om 96 0) [] := ⟨h95, ⟨rfl, by decide⟩, fun i x hx => by rw [List.getElem?_nil] at hx; cases hx⟩
  obtain ⟨R1, F1⟩ := worM_sp (w := 0) R0 W rfl (by decide) b1
  rw [← show wdL 6 7 = wdR 0 from by decide +kernel] at R1
  have T1 : TwM s1 o1 := ⟨_, S2, R1, by rw [show [] ++ wdL 6 7 = [46, 105, 110, 112, 117, 116, 115] from by decide +kernel]; unfold AsQ; decide, by rw [show [] ++ wdL 6 7 = [46, 105, 110, 112, 117, 116, 115] from by decide +kernel]; decide⟩
  have Fo : Fr (fr_M [96] [97] []) om o1 := fr_tr (fr_fp fr_rfl rfl) F1 rfl rfl rfl
  obtain ⟨f, o2, T2, F2, h2⟩ := h1M_go (OM := om) (sc := sc) G eM RG N W cfFU cfFU 0 0 0 s1 o1 sh r rfl rfl (by omega) Fo T1 hsh h2
  unfold fMp_writeTo_5 at h1
  obtain ⟨g1, g2, s3, o3, T3, F3, h1, h2⟩ := ins_go (OM := om) (sc := sc) RG N Lq Nm' LC LR HL L.length cfFU f 0 0 0 sh o2 r rc (by omega) rfl rfl F2 T2 h1 h2
  exact (ouM_go (OM := om) (sc := sc) G eM RG N W M g1 g2 0 0 0 s3 o3 r rc (by omega) rfl rfl F3 T3 h1 h2).1
