theorem cut_r {vc : Int32} {c g : Nat} {cv : cf_O} {q : Int64} (ec : vc.toInt = (c : Int)) (eg : (cv.2.1 2 c).toInt = (g : Int)) (h : fCv_cutOf vc cv = some q) : q = cv.2.2 5 g := by
  unfold fCv_cutOf fCv_cutOf_0 at h
  have y := (ifn h).2
  rw [opk, tW ec] at y
  have y := (ifn y).2
  rw [opk, tW eg] at y
  exact (Option.some.inj y).symm
theorem cn_go {b n c g ci : Nat} {l : List Nat} {vc v5 v1 v2 v3 : Int32} {gr cv sc nl : cf_O} (G : GW b n gr) (ec : vc.toInt = (c : Int)) (g1 : b ≤ g) (g2 : g < b + n) (eg : (cv.2.1 2 c).toInt = (g : Int)) (hT : TuQ b n gr (cv.2.2 5 g) g (cv.2.1 3 c)) (hv : nv (cv.2.2 5 g) = enc l) (hf : Fall g l) (l2 : 2 ≤ l.length) (l5 : l.length ≤ 5) (hc : CvG b gr (upL l) g) (e5 : v5.toInt = (l.length : Int)) (e1 : v1.toInt = (g : Int)) (e2 : v2.toInt = (ci : Int)) (e3 : v3.toInt = (l.length : Int)) : ∀ (f1 f2 k : Nat) (v6 v4 : Int32) (sb om : cf_O) (rc : cf_O × cf_O) (r2 : cf_O), v6.toInt = (k : Int) → v4.toInt = (k : Int) → k ≤ l.length → RGq b n gr om → NaI nl gr om → (om.2.1 63 g).toInt = (ci : Int) → CtM ci (upL l) om → TwS sb om → gCv_writeTo f1 1 vc v5 v6 cv sc nl gr sb = some rc → gM_writeCell f2 0 v1 v2 v3 v4 0 om = some r2 → ∃ (f' : Nat) (sb' : cf_O), TwS sb' r2 ∧ Fr (fr_M [76] [75, 77] []) om r2 ∧ gCv_writeTo f' 0 (vc + 1) 0 0 cv sc nl gr sb' = some rc
  | 0, f2, k, v6, v4, sb, om, rc, r2, e6, e4, kl, RG, N, e63, hC, T, h1, h2 => by cases h1
  | f1 + 1, 0, k, v6, v4, sb, om, rc, r2, e6, e4, kl, RG, N, e63, hC, T, h1, h2 => by cases h2
  | f1 + 1, f2 + 1, k, v6, v4, sb, om, rc, r2, e6, e4, kl, RG, N, e63, hC, T, h1, h2 => by
    have G0 := G.1
    have h1 : fCv_writeTo_41 (gCv_writeTo f1) vc v5 v6 cv sc nl gr sb = some rc := h1
    have h2 : fM_writeCell_22 (gM_writeCell f2) v1 v2 v3 v4 om = some r2 := h2
    unfold fCv_writeTo_41 at h1
    unfold fM_writeCell_22 at h2
    have ul : (upL l).length = l.length := up_l
    rcases ifc h1 with ⟨a, h1⟩ | ⟨a, h1⟩
    · have a := c_le a
      rcases ifc h2 with ⟨_, h2⟩ | ⟨d, _⟩
      · have h1 := (ifn h1).2
        rw [opk, tW ec] at h1
        obtain ⟨s1, k1, h1⟩ := bd h1
        obtain ⟨o1, m1, h2⟩ := bd h2
        obtain ⟨T1, F1⟩ := nod_sp RG N T e1 eg (by omega) (by omega) k1 m1
        unfold fCv_writeTo_82 at h1
        obtain ⟨s2, k2, h1⟩ := bd h1
        obtain ⟨o2, m2, h2⟩ := bd h2
        obtain ⟨T2, F2⟩ := tw_C T1 (by decide) (by decide) (by decide) k2 m2
        unfold fCv_writeTo_91 at h1
        have h1 := (ifn h1).2
        rw [opk, tW ec] at h1
        obtain ⟨s3, k3, h1⟩ := bd h1
        have F : Fr (fr_M [76] [77] []) om o2 := fr_tr F1 F2 rfl rfl rfl
        obtain ⟨W, hW⟩ := CV_ex (C := upL l) G (up_sd hf)
        have h2 : gM_writeCell f2 1 v1 0 v3 0 0 o2 = some r2 := h2
        obtain ⟨T3, F3⟩ := row_go (t := cv.2.1 3 c) G hW g2 e1 e5 e3 l5 (fun j hj => by
          rw [hT l W hv hf (by omega) l5 hc hW j (by
            have : l.length = 2 ∨ l.length = 3 ∨ l.length = 4 ∨ l.length = 5 := by omega
            rcases this with e | e | e | e <;> rw [e] at hj <;> omega), ul, decide_eq_true hj]; rfl) (2 ^ l.length) 0 cfFU f2 0 s2 o2 s3 r2 (Nat.sub_zero _) (Nat.zero_le _) rfl (RGq_f RG (F.1 39 rfl) (F.1 40 rfl) (F.1 43 rfl) (F.2.1 44 rfl) (F.2.1 45 rfl) (F.2.1 46 rfl) (F.2.1 47 rfl)) (by rw [F.2.1 63 rfl]; exact e63) (CtM_f hC (F.2.1 59 rfl) (F.2.1 58 rfl)) T2 k3 h2
        unfold fCv_writeTo_105 at h1
        rw [opk] at h1
        exact ⟨f1, s3, T3, fr_tr (fr_tr fr_rfl F rfl rfl rfl) F3 rfl rfl rfl, h1⟩
      · exact absurd (Int32.le_iff_toInt_le.mpr (by omega)) d
    · have a := c_nle a
      rcases ifc h2 with ⟨d, _⟩ | ⟨_, h2⟩
      · have d := c_le d; omega
      obtain ⟨q, hq, h1⟩ := bd h1
      have eq := cut_r ec eg hq
      subst eq
      unfold fCv_writeTo_56 at h1
      obtain ⟨x, hx, h1⟩ := bd h1
      obtain ⟨y, y1, y2, y3, y4⟩ := ndat_sp hv hf (by omega) (show k < l.length by omega) l5 e6 hx
      rw [opk, opk, ix5 e2 e4 hC.1 (by omega)] at h2
      have h2 := (ifn h2).2
      rw [opk] at h2
      have ct := CtM_g (t := k) hC (by omega)
      have x5 : (om.2.1 58 (5 * ci + k)).toInt = (y : Int) := Option.some.inj (ct.symm.trans y1)
      obtain ⟨o1, m1, h2⟩ := bd h2
      rw [opk] at h2
      unfold fCv_writeTo_61 at h1
      obtain ⟨s1, k1, h1⟩ := bd h1
      obtain ⟨T1, F1⟩ := nod_sp RG N T x5 y4 (by omega) (by omega) k1 m1
      unfold fCv_writeTo_64 at h1
      rw [opk] at h1
      obtain ⟨f', sb', z1, z2, z3⟩ := cn_go G ec g1 g2 eg hT hv hf l2 l5 hc e5 e1 e2 e3 f1 f2 (k + 1) (v6 + 1) (v4 + 1) s1 o1 rc r2 (by rw [pW (by omega) (by omega)]; omega) (by rw [pW (by omega) (by omega)]; omega) (by omega) (RGq_f RG (F1.1 39 rfl) (F1.1 40 rfl) (F1.1 43 rfl) (F1.2.1 44 rfl) (F1.2.1 45 rfl) (F1.2.1 46 rfl) (F1.2.1 47 rfl)) (NaI_f N (F1.1 39 rfl) (F1.1 40 rfl) (F1.2.1 41 rfl) (F1.2.1 42 rfl)) (by rw [F1.2.1 63 rfl]; exact e63) (CtM_f hC (F1.2.1 59 rfl) (F1.2.1 58 rfl)) T1 h1 h2
      exact ⟨f', sb', z1, fr_tr (fr_tr fr_rfl F1 rfl rfl rfl) z2 rfl rfl rfl, z3⟩
theorem CcQ_f {b n c : Nat} {gr cv om om2 : cf_O} (h : CcQ b n gr cv om c) (u58 : om2.2.1 58 = om.2.1 58) (u59 : om2.2.1 59 = om.2.1 59) (u62 : om2.2.1 62 = om.2.1 62) (u63 : om2.2.1 63 = om.2.1 63) (u74 : om2.2.1 74 = om.2.1 74) : CcQ b n gr cv om2 c := by
  obtain ⟨g, l, ci, z1, z2, z3, z4, z5, z6, z7, z8, z9, z10, z11, z12, z13⟩ := h
  exact ⟨g, l, ci, z1, z2, z3, by rw [u74]; exact z4, by rw [u62]; exact z5, z6, z7, z8, z9, z10, z11, by rw [u63]; exact z12, CtM_f z13 u59 u58⟩
theorem ce_go {b n K : Nat} {gr cv sc nl OM : cf_O} (G : GW b n gr) (eK : (cv.1 0).toInt = (K : Int)) (K2 : K ≤ 200) (e73 : OM.1 73 = cv.1 0) (hC : ∀ c : Nat, c < K → CcQ b n gr cv OM c) (RG : RGq b n gr OM) (N : NaI nl gr OM) (W : W4 (OM.2.2 4)) : ∀ (f2 f1 c : Nat) (v4 v1 : Int32) (sb om : cf_O) (rc : cf_O × cf_O) (r : cf_O), v4.toInt = (c : Int) → v1.toInt = (c : Int) → c ≤ K → Fr (fr_M [76] [75, 77] []) OM om → TwS sb om → gCv_writeTo f1 0 v4 0 0 cv sc nl gr sb = some rc → gM_write f2 2 v1 om = some r → ∃ (f1' f2' : Nat) (sb' om' : cf_O), TwS sb' om' ∧ Fr (fr_M [76] [75, 77] []) OM om' ∧ gCv_writeTo f1' 2 0 0 0 cv sc nl gr sb' = some rc ∧ gM_write f2' 3 0 om' = some r
  | 0, f1, c, v4, v1, sb, om, rc, r, e4, e1, cK, F, T, h1, h2 => by cases h2
  | f2 + 1, 0, c, v4, v1, sb, om, rc, r, e4, e1, cK, F, T, h1, h2 => by cases h1
  | f2 + 1, f1 + 1, c, v4, v1, sb, om, rc, r, e4, e1, cK, F, T, h1, h2 => by
    have G0 := G.1
    have h1 : fCv_writeTo_8 (gCv_writeTo f1) v4 cv sc nl gr sb = some rc := h1
    have h2 : fM_write_81 (gM_write f2) v1 om = some r := h2
    unfold fCv_writeTo_8 at h1
    unfold fM_write_81 at h2
    rcases ifc h1 with ⟨a, h1⟩ | ⟨a, h1⟩
    · have a := c_le a
      rcases ifc h2 with ⟨_, h2⟩ | ⟨d, _⟩
      · exact ⟨f1, f2, sb, om, T, F, h1, h2⟩
      · exact absurd (Int32.le_iff_toInt_le.mpr (by rw [F.1 73 rfl, e73]; omega)) d
    · have a := c_nle a
      rcases ifc h2 with ⟨d, _⟩ | ⟨_, h2⟩
      · have d := c_le d
        rw [F.1 73 rfl, e73] at d; omega
      obtain ⟨g, l, ci, z1, z2, z3, z4, z5, z6, z7, z8, z9, z10, z11, z12, z13⟩ := CcQ_f (om2 := om) (hC c (by omega)) (F.2.1 58 rfl) (F.2.1 59 rfl) (F.2.1 62 rfl) (F.2.1 63 rfl) (F.2.1 74 rfl)
      have ul : (upL l).length = l.length := up_l
      obtain ⟨q, hq, h1⟩ := bd h1
      have eq := cut_r e4 z3 hq
      subst eq
      unfold fCv_writeTo_23 at h1
      obtain ⟨s, hs, h1⟩ := bd h1
      have es := sizeOf_sp (s := l.length) (by omega) z10 (by rw [z7]; exact enc_ge z8 (fun z => by rw [z] at z9; exact absurd z9 (by decide))) (by rw [z7]; exact enc_lt z8 (by omega)) hs
      unfold fCv_writeTo_26 at h1
      obtain ⟨s1, k1, h1⟩ := bd h1
      have h2 := (ifn h2).2
      rw [opk, tW e1, z4] at h2
      obtain ⟨o2, m2, h2⟩ := bd h2
      rw [opk] at h2
      unfold fM_writeCell fM_writeCell_0 at m2
      have m2 := (ifn m2).2
      rw [opk, tW z3] at m2
      have m2 := (ifn m2).2
      rw [opk, tW z12] at m2
      obtain ⟨o1, m1, m2⟩ := bd m2
      obtain ⟨L, S, R, A, l5⟩ := T
      obtain ⟨R1, F1⟩ := wor_sp (w := 2) R (by rw [F.2.2 4 rfl]; exact W) rfl (by decide) m1
      have S1 := apS_8 S k1
      rw [show wdL 8 6 = wdR 2 from by decide +kernel] at S1
      have T1 : TwS s1 o1 := ⟨_, S1, R1, AsQ_a A (by rw [show wdR 2 = [46, 110, 97, 109, 101, 115] from by decide +kernel]; unfold AsQ; decide), by rw [List.length_append]; omega⟩
      have F2 : Fr (fr_M [76] [75, 77] []) OM o1 := fr_tr F F1 rfl rfl rfl
      have e59 : (om.2.1 59 ci).toInt = (l.length : Int) := by rw [z13.2.2.1, ul]
      obtain ⟨f', sb', y1, y2, y3⟩ := cn_go (vc := v4) (v1 := cv.2.1 2 c) (v2 := om.2.1 63 g) (v3 := om.2.1 59 ci) G e4 z1 z2 z3 z6 z7 z8 z9 z10 z11 es z3 z12 e59 f1 cfFU 0 0 0 s1 o1 rc o2 rfl rfl (Nat.zero_le _) (RGq_f RG (F2.1 39 rfl) (F2.1 40 rfl) (F2.1 43 rfl) (F2.2.1 44 rfl) (F2.2.1 45 rfl) (F2.2.1 46 rfl) (F2.2.1 47 rfl)) (NaI_f N (F2.1 39 rfl) (F2.1 40 rfl) (F2.2.1 41 rfl) (F2.2.1 42 rfl)) (by rw [F1.2.1 63 rfl]; exact z12) (CtM_f z13 (F1.2.1 59 rfl) (F1.2.1 58 rfl)) T1 h1 m2
      exact ce_go G eK K2 e73 hC RG N W f2 f' (c + 1) (v4 + 1) (v1 + 1) sb' o2 rc r (by rw [pW (by omega) (by omega)]; omega) (by rw [pW (by omega) (by omega)]; omega) (by omega) (fr_tr F2 y2 rfl rfl rfl) y1 y3 h2
