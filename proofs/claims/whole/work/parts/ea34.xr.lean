theorem ou_go {b n M : Nat} {gr cv sc nl OM : cf_O} (G : GW b n gr) (eM : (gr.1 1).toInt = (M : Int)) (RG : RGq b n gr OM) (N : NaI nl gr OM) (W : W4 (OM.2.2 4)) : ∀ (f1 f2 k : Nat) (v4 v1 : Int32) (sb om : cf_O) (rc : cf_O × cf_O) (r : cf_O), v4.toInt = (k : Int) → v1.toInt = (k : Int) → k ≤ M → Fr (fr_M [76] [75, 77] []) OM om → TwS sb om → gCv_writeTo f1 2 v4 0 0 cv sc nl gr sb = some rc → gM_write f2 3 v1 om = some r → TwS rc.2 r ∧ rc.1.1 0 = 1 ∧ Fr (fr_M [76] [75, 77] []) OM r
  | 0, f2, k, v4, v1, sb, om, rc, r, e4, e1, kM, F, T, h1, h2 => by cases h1
  | f1 + 1, 0, k, v4, v1, sb, om, rc, r, e4, e1, kM, F, T, h1, h2 => by cases h2
  | f1 + 1, f2 + 1, k, v4, v1, sb, om, rc, r, e4, e1, kM, F, T, h1, h2 => by
    have G0 := G.1
    have h1 : fCv_writeTo_114 (gCv_writeTo f1) v4 cv sc nl gr sb = some rc := h1
    have h2 : fM_write_107 (gM_write f2) v1 om = some r := h2
    unfold fCv_writeTo_114 at h1
    unfold fM_write_107 at h2
    have RG2 : RGq b n gr om := RGq_f RG (F.1 39 rfl) (F.1 40 rfl) (F.1 43 rfl) (F.2.1 44 rfl) (F.2.1 45 rfl) (F.2.1 46 rfl) (F.2.1 47 rfl)
    have N2 : NaI nl gr om := NaI_f N (F.1 39 rfl) (F.1 40 rfl) (F.2.1 41 rfl) (F.2.1 42 rfl)
    have W2 : W4 (om.2.2 4) := by rw [F.2.2 4 rfl]; exact W
    have R0 := RG2.1
    rcases ifc h1 with ⟨a, h1⟩ | ⟨a, h1⟩
    · have a := c_le a
      rcases ifc h2 with ⟨_, h2⟩ | ⟨d, _⟩
      · obtain ⟨q, hq, h1⟩ := bd h1
        unfold fSc_close fSc_close_0 at hq
        obtain ⟨s1, a1, hq⟩ := bd hq
        unfold fSc_close_9 at hq
        rw [opk] at hq
        have eq : q = (fp sc 0 1, s1) := (Option.some.inj hq).symm
        subst eq
        have er : rc = (fp sc 0 1, s1) := (Option.some.inj h1).symm
        subst er
        obtain ⟨o1, b1, h2⟩ := bd h2
        obtain ⟨o2, b2, h2⟩ := bd h2
        have er : r = o2 := (Option.some.inj h2).symm
        subst er
        obtain ⟨L, S, R, A, l5⟩ := T
        obtain ⟨R1, F1⟩ := wor_sp (w := 3) R W2 rfl (by decide) b1
        obtain ⟨R2, F2⟩ := em_sp R1 b2
        have S1 := apS_16 S a1
        rw [List.append_assoc, ← show wdL 16 5 = wdR 3 ++ [(10 : Int64).toInt32] from by decide +kernel] at R2
        exact ⟨⟨_, S1, R2, AsQ_a A (by rw [show wdL 16 5 = [46, 101, 110, 100, 10] from by decide +kernel]; unfold AsQ; decide), by rw [List.length_append]; omega⟩, rfl, fr_tr (fr_tr F F1 rfl rfl rfl) F2 rfl rfl rfl⟩
      · exact absurd (Int32.le_iff_toInt_le.mpr (by rw [R0.2.2.2.2.1]; omega)) d
    · have a := c_nle a
      rcases ifc h2 with ⟨d, _⟩ | ⟨_, h2⟩
      · have d := c_le d
        rw [R0.2.2.2.2.1] at d; omega
      have h1 := (ifn h1).2
      rw [opk, opk, opk, tW e4] at h1
      obtain ⟨o1, b1, h2⟩ := bd h2
      rw [opk] at h2
      have x0 := G.2.2 k (by omega)
      have ea := i_a1 (x := gr.2.1 7 k) x0.1
      have go : ∀ s : Int32, ((s = 0 ∧ (gr.2.1 7 k).toInt % 2 = 0) ∨ (s = 1 ∧ (gr.2.1 7 k).toInt % 2 = 1)) → fCv_writeTo_153 (gCv_writeTo f1) v4 v4 (gr.2.1 7 k &&& (-2)) s cv sc nl gr sb = some rc → TwS rc.2 r ∧ rc.1.1 0 = 1 ∧ Fr (fr_M [76] [75, 77] []) OM r := fun s es z => by
        unfold fCv_writeTo_153 at z
        obtain ⟨s1, a1, z⟩ := bd z
        obtain ⟨T1, F1⟩ := out_sp G RG2 N2 W2 T (by omega) e1 e4 rfl es a1 b1
        unfold fCv_writeTo_156 at z
        rw [opk] at z
        exact ou_go G eM RG N W f1 f2 (k + 1) (v4 + 1) (v1 + 1) s1 o1 rc r (by rw [pW (by omega) (by omega)]; omega) (by rw [pW (by omega) (by omega)]; omega) (by omega) (fr_tr F F1 rfl rfl rfl) T1 z h2
      rcases ifc h1 with ⟨c, h1⟩ | ⟨c, h1⟩
      · rw [c, show (0 : Int32).toInt = 0 from rfl] at ea
        exact go 0 (Or.inl ⟨rfl, by omega⟩) h1
      · have c : ¬ (gr.2.1 7 k &&& 1).toInt = 0 := c_ne c
        exact go 1 (Or.inr ⟨rfl, by omega⟩) h1
theorem h2_go {b n M : Nat} {gr sc nl OM : cf_O} (G : GW b n gr) (eM : (gr.1 1).toInt = (M : Int)) (RG : RGq b n gr OM) (N : NaI nl gr OM) : ∀ (f1 f2 k : Nat) (v2 v1 : Int32) (sb om r1 r : cf_O), v2.toInt = (k : Int) → v1.toInt = (k : Int) → k ≤ M → Fr (fr_M [76] [75, 77] []) OM om → TwS sb om → gSc_writeHead f1 1 v2 sc nl sb = some r1 → gM_write f2 1 v1 om = some r → ∃ (f : Nat) (om' : cf_O), TwS r1 om' ∧ Fr (fr_M [76] [75, 77] []) OM om' ∧ gM_write f 2 0 om' = some r
  | 0, f2, k, v2, v1, sb, om, r1, r, e2, e1, kM, F, T, h1, h2 => by cases h1
  | f1 + 1, 0, k, v2, v1, sb, om, r1, r, e2, e1, kM, F, T, h1, h2 => by cases h2
  | f1 + 1, f2 + 1, k, v2, v1, sb, om, r1, r, e2, e1, kM, F, T, h1, h2 => by
    have G0 := G.1
    have R0 := RG.1
    have h1 : fSc_writeHead_56 (gSc_writeHead f1) v2 sc nl sb = some r1 := h1
    have h2 : fM_write_49 (gM_write f2) v1 om = some r := h2
    unfold fSc_writeHead_56 at h1
    unfold fM_write_49 at h2
    rcases ifc h1 with ⟨a, h1⟩ | ⟨a, h1⟩
    · have a := c_le a
      rw [N.2.1] at a
      rcases ifc h2 with ⟨_, h2⟩ | ⟨d, _⟩
      · obtain ⟨s1, a1, h1⟩ := bd h1
        have er : r1 = s1 := (Option.some.inj h1).symm
        subst er
        obtain ⟨o1, b1, h2⟩ := bd h2
        obtain ⟨T1, F1⟩ := tw_C T (by decide) (by decide) (by decide) a1 b1
        exact ⟨f2, o1, T1, fr_tr F F1 rfl rfl rfl, h2⟩
      · exact absurd (Int32.le_iff_toInt_le.mpr (by rw [F.1 40 rfl, R0.2.2.2.2.1]; omega)) d
    · have a := c_nle a
      rw [N.2.1] at a
      rcases ifc h2 with ⟨d, _⟩ | ⟨_, h2⟩
      · have d := c_le d
        rw [F.1 40 rfl, R0.2.2.2.2.1] at d; omega
      have h1 := (ifn h1).2
      rw [opk, tW e2] at h1
      obtain ⟨s1, a1, h1⟩ := bd h1
      obtain ⟨o1, b1, h2⟩ := bd h2
      rw [opk] at h2
      obtain ⟨T1, F1⟩ := tw_N2 T e1 (by omega) (by rw [F.2.1 42 rfl]; exact N.2.2.2 k (by rw [R0.2.2.2.2.1]; omega)) a1 b1
      unfold fSc_writeHead_74 at h1
      rw [opk] at h1
      exact h2_go G eM RG N f1 f2 (k + 1) (v2 + 1) (v1 + 1) s1 o1 r1 r (by rw [pW (by omega) (by omega)]; omega) (by rw [pW (by omega) (by omega)]; omega) (by omega) (fr_tr F F1 rfl rfl rfl) T1 h1 h2
theorem h1_go {b n M : Nat} {gr sc nl OM : cf_O} (G : GW b n gr) (eM : (gr.1 1).toInt = (M : Int)) (RG : RGq b n gr OM) (N : NaI nl gr OM) (W : W4 (OM.2.2 4)) : ∀ (f1 f2 k : Nat) (v2 v1 : Int32) (sb om r1 r : cf_O), v2.toInt = (k : Int) → v1.toInt = (k : Int) → k + 1 ≤ b → Fr (fr_M [76] [75, 77] []) OM om → TwS sb om → gSc_writeHead f1 0 v2 sc nl sb = some r1 → gM_write f2 0 v1 om = some r → ∃ (f : Nat) (om' : cf_O), TwS r1 om' ∧ Fr (fr_M [76] [75, 77] []) OM om' ∧ gM_write f 2 0 om' = some r
  | 0, f2, k, v2, v1, sb, om, r1, r, e2, e1, kM, F, T, h1, h2 => by cases h1
  | f1 + 1, 0, k, v2, v1, sb, om, r1, r, e2, e1, kM, F, T, h1, h2 => by cases h2
  | f1 + 1, f2 + 1, k, v2, v1, sb, om, r1, r, e2, e1, kM, F, T, h1, h2 => by
    have G0 := G.1
    have R0 := RG.1
    have h1 : fSc_writeHead_20 (gSc_writeHead f1) v2 sc nl sb = some r1 := h1
    have h2 : fM_write_12 (gM_write f2) v1 om = some r := h2
    unfold fSc_writeHead_20 at h1
    unfold fM_write_12 at h2
    rcases ifc h1 with ⟨a, h1⟩ | ⟨a, h1⟩
    · have a := c_le a
      rw [N.1] at a
      rcases ifc h2 with ⟨_, h2⟩ | ⟨d, _⟩
      · obtain ⟨s1, a1, h1⟩ := bd h1
        obtain ⟨o1, b1, h2⟩ := bd h2
        obtain ⟨o2, b2, h2⟩ := bd h2
        obtain ⟨L, S, R, A, l5⟩ := T
        obtain ⟨R1, F1⟩ := em_sp R b1
        obtain ⟨R2, F2⟩ := wor_sp (w := 1) R1 (by rw [F1.2.2 4 rfl, F.2.2 4 rfl]; exact W) rfl (by decide) b2
        have S1 := apS_7 S a1
        rw [List.append_assoc, ← show wdL 7 9 = [(10 : Int64).toInt32] ++ wdR 1 from by decide +kernel] at R2
        have T2 : TwS s1 o2 := ⟨_, S1, R2, AsQ_a A (by rw [show wdL 7 9 = [10, 46, 111, 117, 116, 112, 117, 116, 115] from by decide +kernel]; unfold AsQ; decide), by rw [List.length_append]; omega⟩
        exact h2_go G eM RG N f1 f2 0 0 0 s1 o2 r1 r rfl rfl (Nat.zero_le _) (fr_tr (fr_tr F F1 rfl rfl rfl) F2 rfl rfl rfl) T2 h1 h2
      · exact absurd (Int32.le_iff_toInt_le.mpr (by rw [F.1 39 rfl, R0.2.2.1]; omega)) d
    · have a := c_nle a
      rw [N.1] at a
      rcases ifc h2 with ⟨d, _⟩ | ⟨_, h2⟩
      · have d := c_le d
        rw [F.1 39 rfl, R0.2.2.1] at d; omega
      have h1 := (ifn h1).2
      rw [opk, tW e2] at h1
      obtain ⟨s1, a1, h1⟩ := bd h1
      obtain ⟨o1, b1, h2⟩ := bd h2
      rw [opk] at h2
      obtain ⟨T1, F1⟩ := tw_N1 T e1 (by omega) (by rw [F.2.1 41 rfl]; exact N.2.2.1 k (by rw [R0.2.2.1]; omega)) a1 b1
      unfold fSc_writeHead_38 at h1
      rw [opk] at h1
      exact h1_go G eM RG N W f1 f2 (k + 1) (v2 + 1) (v1 + 1) s1 o1 r1 r (by rw [pW (by omega) (by omega)]; omega) (by rw [pW (by omega) (by omega)]; omega) (by omega) (fr_tr F F1 rfl rfl rfl) T1 h1 h2
theorem wri_sim {b n M : Nat} {gr cv sc nl sb om r : cf_O} {L0 : List Int32} {rc : cf_O × cf_O} (G : GW b n gr) (eM : (gr.1 1).toInt = (M : Int)) (RG : RGq b n gr om) (N : NaI nl gr om) (W : W4 (om.2.2 4)) (h95 : om.1 95 = 0) (C : CvR b n M gr cv om) (S0 : SbQ sb L0) (h1 : fCv_writeTo cv sc nl gr sb = some rc) (h2 : fM_write om = some r) : TwS rc.2 r ∧ rc.1.1 0 = 1 := by
  have G0 := G.1
  unfold fCv_writeTo fCv_writeTo_0 at h1
  obtain ⟨sh, hsh, h1⟩ := bd h1
  unfold fSc_writeHead fSc_writeHead_0 at hsh
  obtain ⟨s0, a0, hsh⟩ := bd hsh
  have S1 := sle_sp S0 a0
  unfold fSc_writeHead_8 at hsh
  obtain ⟨s1, a1, hsh⟩ := bd hsh
  have S2 := apS_6 S1 a1
  unfold fM_write fM_write_0 at h2
  rw [opk] at h2
  obtain ⟨o1, b1, h2⟩ := bd h2
  have R0 : RtQ (fp om 76 0) [] := ⟨h95, ⟨rfl, by decide⟩, fun i x hx => by rw [List.getElem?_nil] at hx; cases hx⟩
  obtain ⟨R1, F1⟩ := wor_sp (w := 0) R0 W rfl (by decide) b1
  rw [← show wdL 6 7 = wdR 0 from by decide +kernel] at R1
  have T1 : TwS s1 o1 := ⟨_, S2, R1, by rw [show [] ++ wdL 6 7 = [46, 105, 110, 112, 117, 116, 115] from by decide +kernel]; unfold AsQ; decide, by rw [show [] ++ wdL 6 7 = [46, 105, 110, 112, 117, 116, 115] from by decide +kernel]; decide⟩
  have Fo : Fr (fr_M [76] [75, 77] []) om o1 := fr_tr (fr_fp fr_rfl rfl) F1 rfl rfl rfl
  obtain ⟨f, o2, T2, F2, h2⟩ := h1_go (OM := om) (sc := sc) G eM RG N W cfFU cfFU 0 0 0 s1 o1 sh r rfl rfl (by omega) Fo T1 hsh h2
  obtain ⟨c1, ⟨K, c2, c3, c4⟩, _⟩ := C
  have h1 : gCv_writeTo cfFU 0 0 0 0 cv sc nl gr sh = some rc := h1
  obtain ⟨g1, g2, s3, o3, T3, F3, h1, h2⟩ := ce_go (OM := om) (sc := sc) G c2 (by omega) c1 c4 RG N W f cfFU 0 0 0 sh o2 rc r rfl rfl (Nat.zero_le _) F2 T2 h1 h2
  obtain ⟨z1, z2, _⟩ := ou_go (OM := om) (sc := sc) G eM RG N W g1 g2 0 0 0 s3 o3 rc r rfl rfl (Nat.zero_le _) F3 T3 h1 h2
  exact ⟨z1, z2⟩
