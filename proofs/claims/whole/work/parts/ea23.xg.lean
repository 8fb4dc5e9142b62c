def CvW (b n M : Nat) (gr cv om : cf_O) : Prop := ∃ oc oc' : cf_O, fM_write oc = some oc' ∧ RGq b n gr oc ∧ CvR b n M gr cv oc ∧ oc.2.1 41 = om.2.1 41 ∧ oc.2.1 42 = om.2.1 42 ∧ oc.2.2 4 = om.2.2 4 ∧ oc.1 95 = om.1 95 ∧ oc'.1 76 = om.1 76 ∧ oc'.2.1 77 = om.2.1 77
theorem CvW_f {b n M : Nat} {gr cv om om2 : cf_O} (h : CvW b n M gr cv om) (u41 : om2.2.1 41 = om.2.1 41) (u42 : om2.2.1 42 = om.2.1 42) (u4 : om2.2.2 4 = om.2.2 4) (u95 : om2.1 95 = om.1 95) (u76 : om2.1 76 = om.1 76) (u77 : om2.2.1 77 = om.2.1 77) : CvW b n M gr cv om2 := by
  unfold CvW at h ⊢
  rw [u41, u42, u4, u95, u76, u77]; exact h
def CvS (gr cv om : cf_O) : Prop := ∃ b n M : Nat, (gr.1 0).toInt + 1 = (b : Int) ∧ (gr.1 2).toInt = (n : Int) ∧ (gr.1 1).toInt = (M : Int) ∧ CvR b n M gr cv om ∧ CvK gr cv om ∧ CvW b n M gr cv om
def CvI (F gr cv om : cf_O) : Prop := F.1 17 = om.1 64 ∧ (F.1 17 = 0 ∨ (F.1 17 = 1 ∧ CvS gr cv om))
theorem CvL_f {cv om om2 : cf_O} (h : CvL cv om) (u73 : om2.1 73 = om.1 73) (u74 : om2.2.1 74 = om.2.1 74) : CvL cv om2 := by
  unfold CvL at h ⊢
  rw [u73, u74]; exact h
theorem CvS_f {gr cv om om2 : cf_O} (h : CvS gr cv om) (u65 : om2.1 65 = om.1 65) (u66 : om2.1 66 = om.1 66) (u73 : om2.1 73 = om.1 73) (u76 : om2.1 76 = om.1 76) (u95 : om2.1 95 = om.1 95) (u41 : om2.2.1 41 = om.2.1 41) (u42 : om2.2.1 42 = om.2.1 42) (u58 : om2.2.1 58 = om.2.1 58) (u59 : om2.2.1 59 = om.2.1 59) (u62 : om2.2.1 62 = om.2.1 62) (u63 : om2.2.1 63 = om.2.1 63) (u74 : om2.2.1 74 = om.2.1 74) (u77 : om2.2.1 77 = om.2.1 77) (u4 : om2.2.2 4 = om.2.2 4) : CvS gr cv om2 := by
  obtain ⟨b, n, M, h1, h2, h3, h4, h5, h6⟩ := h
  exact ⟨b, n, M, h1, h2, h3, CvR_f h4 (CvL_f (CvR_l h4) u73 u74) u58 u59 u62 u63, CvK_f h5 u65 u66, CvW_f h6 u41 u42 u4 u95 u76 u77⟩
theorem CvS_0 {gr cv om : cf_O} {v : Int32} (h : CvS gr cv om) : CvS gr cv (fp om 0 v) := CvS_f h rfl rfl rfl rfl rfl rfl rfl rfl rfl rfl rfl rfl rfl rfl
theorem again_S {b n : Nat} {gr cv om om1 u : cf_O} (G : GW b n gr) (R : RGq b n gr om1) (S : om.1 64 = 0 ∨ (om.1 64 = 1 ∧ CvS gr cv om)) (ho : okO I_M om1) (f0 : (0 : Int) ≤ (om1.1 0).toInt ∧ (om1.1 0).toInt ≤ 2) (h38 : om1.1 38 = 1) (f95 : (0 : Int) ≤ (om1.1 95).toInt ∧ (om1.1 95).toInt ≤ 0) (hcn : Cn (om1.2.1 59) (om1.2.1 58)) (u64 : om1.1 64 = om.1 64) (u65 : om1.1 65 = om.1 65) (u66 : om1.1 66 = om.1 66) (u73 : om1.1 73 = om.1 73) (u76 : om1.1 76 = om.1 76) (u95 : om1.1 95 = om.1 95) (u41 : om1.2.1 41 = om.2.1 41) (u42 : om1.2.1 42 = om.2.1 42) (u74 : om1.2.1 74 = om.2.1 74) (u77 : om1.2.1 77 = om.2.1 77) (u4 : om1.2.2 4 = om.2.2 4) (h : fM_again om1 = some u) : u.1 64 = om.1 64 ∧ (om.1 64 = 0 ∨ (om.1 64 = 1 ∧ CvS gr cv u)) := by
  have f := wF_M_again h
  refine ⟨by rw [f.1 64 rfl]; exact u64, ?_⟩
  rcases S with S | ⟨S1, b2, n2, M, e1, e2, e3, S2, S3, S4⟩
  · exact Or.inl S
  · have G0 := G.1
    have eb : b2 = b := by omega
    have en : n2 = n := by omega
    subst eb; subst en
    refine Or.inr ⟨S1, b2, n2, M, e1, e2, e3, ?_⟩
    obtain ⟨z1, z2⟩ := again_sim G R e3 (CvK_f S3 u65 u66) (CvL_f (CvR_l S2) u73 u74) ho f0 h38 f95 hcn (u64.trans S1) h
    exact ⟨z1, z2, CvW_f S4 ((f.2.1 41 rfl).trans u41) ((f.2.1 42 rfl).trans u42) ((f.2.2 4 rfl).trans u4) ((f.1 95 rfl).trans u95) ((f.1 76 rfl).trans u76) ((f.2.1 77 rfl).trans u77)⟩
def CoM (v1 v2 : Int32) (om : cf_O) (rm : Int32 × cf_O) : Prop := (om.1 38 = 0 ∧ rm = (0, fp om 0 1)) ∨ (¬ om.1 38 = 0 ∧ ¬ ((2 : Int) ≤ v1.toInt ∧ v1.toInt ≤ 5) ∧ rm = (0, fp om 0 2)) ∨ (¬ om.1 38 = 0 ∧ ((2 : Int) ≤ v1.toInt ∧ v1.toInt ≤ 5) ∧ fM_coverBy v1 v2 (fp om 0 0) = some rm)
theorem com_c {v1 : Int32} {om : cf_O} {rm : Int32 × cf_O} (h : fM_cover v1 om = some rm) : CoM v1 0 om rm := by
  unfold fM_cover fM_cover_0 at h
  rcases ifc h with ⟨a, h⟩ | ⟨a, h⟩
  · unfold fM_cover_13 fM_cover_33 fM_cover_34 at h
    rw [if_pos a, refuse_1, Option.bind_some, if_neg (show ¬ ((1 : Int32), fp om 0 1).1 = 0 by show ¬ (1 : Int32) = 0; decide)] at h
    exact Or.inl ⟨a, (Option.some.inj h).symm⟩
  · unfold fM_cover_13 fM_cover_33 fM_cover_34 at h
    rw [if_neg a] at h
    obtain ⟨q, hq, h⟩ := bd h
    have y := in_sp hq
    rcases ifc h with ⟨c, h⟩ | ⟨c, h⟩
    · rw [refuse_01, Option.bind_some, if_neg (show ¬ ((1 : Int32), fp om 0 2).1 = 0 by show ¬ (1 : Int32) = 0; decide)] at h
      exact Or.inr (Or.inl ⟨a, Yn_0 y c, (Option.some.inj h).symm⟩)
    · rw [refuse_00, Option.bind_some, if_pos (show ((0 : Int32), fp om 0 0).1 = 0 from rfl)] at h
      obtain ⟨w, hw, h⟩ := bd h
      exact Or.inr (Or.inr ⟨a, Yn_1 y c, hw.trans h⟩)
theorem com_f {v1 : Int32} {om : cf_O} {rm : Int32 × cf_O} (h : fM_coverFew v1 om = some rm) : CoM v1 1 om rm := by
  unfold fM_coverFew fM_coverFew_0 at h
  rcases ifc h with ⟨a, h⟩ | ⟨a, h⟩
  · unfold fM_coverFew_13 fM_coverFew_33 fM_coverFew_34 at h
    rw [if_pos a, refuse_1, Option.bind_some, if_neg (show ¬ ((1 : Int32), fp om 0 1).1 = 0 by show ¬ (1 : Int32) = 0; decide)] at h
    exact Or.inl ⟨a, (Option.some.inj h).symm⟩
  · unfold fM_coverFew_13 fM_coverFew_33 fM_coverFew_34 at h
    rw [if_neg a] at h
    obtain ⟨q, hq, h⟩ := bd h
    have y := in_sp hq
    rcases ifc h with ⟨c, h⟩ | ⟨c, h⟩
    · rw [refuse_01, Option.bind_some, if_neg (show ¬ ((1 : Int32), fp om 0 2).1 = 0 by show ¬ (1 : Int32) = 0; decide)] at h
      exact Or.inr (Or.inl ⟨a, Yn_0 y c, (Option.some.inj h).symm⟩)
    · rw [refuse_00, Option.bind_some, if_pos (show ((0 : Int32), fp om 0 0).1 = 0 from rfl)] at h
      obtain ⟨w, hw, h⟩ := bd h
      exact Or.inr (Or.inr ⟨a, Yn_1 y c, hw.trans h⟩)
def CbE (o4 o5 om : cf_O) (r : Int32 × cf_O × cf_O × cf_O × cf_O × cf_O) (rm : Int32 × cf_O) : Prop := AnsC [(2, 1), (1, 2), (4, 3)] r.2.1 r.1 rm ∧ CvI r.2.1 o5 r.2.2.2.2.1 rm.2 ∧ r.2.2.1.2.1 1 0 = 0 ∧ ((r.2.1.1 30 = 0 ∧ r.2.2.2.2.2.1 0 = 0) ∨ (¬ r.2.1.1 30 = 0 ∧ r.2.2.2.2.2 = o4 ∧ rm.2.1 76 = om.1 76 ∧ rm.2.2.1 77 = om.2.1 77))
theorem cvb_sim {v1 v2 : Int32} {o0 o1 o2 o3 o4 o5 o6 om : cf_O} {r : Int32 × cf_O × cf_O × cf_O × cf_O × cf_O} {rm : Int32 × cf_O} (hv2 : v2 = 0 ∨ v2 = 1) (h38 : om.1 38 = o0.1 16) (h16 : o0.1 16 = 0 ∨ (o0.1 16 = 1 ∧ ∃ b n : Nat, GW b n o5 ∧ RGq b n o5 om)) (hl : 0 ≤ (o1.1 4).toInt ∧ o1.1 4 = o1.1 5) (hC : CuI o1 o5) (d0 : o1.2.1 1 0 = 0) (ho : okO I_M om) (f95 : (0 : Int) ≤ (om.1 95).toInt ∧ (om.1 95).toInt ≤ 0) (hcn : Cn (om.2.1 59) (om.2.1 58)) (hI : CvI o0 o5 o3 om) (h1 : fF_coverBy v1 v2 o0 o1 o2 o3 o4 o5 o6 = some r) (h2 : CoM v1 v2 om rm) : CbE o4 o5 om r rm := by
  unfold fF_coverBy fF_coverBy_0 at h1
  have ref : ∀ k j : Int32, (k, j) ∈ [((2 : Int32), (1 : Int32)), (1, 2), (4, 3)] → ¬ k = 0 → r = (0, fp o0 30 k, o1, o2, o3, o4) → rm = (0, fp om 0 j) → CbE o4 o5 om r rm := fun k j hm hk e1 e2 => by
    subst e1; subst e2
    refine ⟨Or.inr ⟨(k, j), hm, rfl, rfl⟩, ⟨hI.1, ?_⟩, d0, Or.inr ⟨hk, rfl, rfl, rfl⟩⟩
    rcases hI.2 with z | ⟨z1, z2⟩
    · exact Or.inl z
    · exact Or.inr ⟨z1, CvS_0 z2⟩
  rcases ifc h1 with ⟨a, h1⟩ | ⟨a, h1⟩
  · rcases h2 with ⟨_, h2⟩ | ⟨c, _⟩ | ⟨c, _⟩
    · exact ref 2 1 (by decide) (by decide) (Option.some.inj h1).symm h2
    · exact absurd (h38.trans a) c
    · exact absurd (h38.trans a) c
  · obtain ⟨a1, b, n, G, R⟩ := h16.resolve_left a
    have m38 : om.1 38 = 1 := h38.trans a1
    have G0 := G.1
    unfold fF_coverBy_7 at h1
    have bad : ¬ ((2 : Int) ≤ v1.toInt ∧ v1.toInt ≤ 5) → fF_coverBy_17 o0 o1 o2 o3 o4 o5 o6 = some r → CbE o4 o5 om r rm := fun nb z => by
      rcases h2 with ⟨c, _⟩ | ⟨_, _, h2⟩ | ⟨_, c, _⟩
      · rw [m38] at c; exact absurd c (by decide)
      · exact ref 1 2 (by decide) (by decide) (Option.some.inj z).symm h2
      · exact absurd c nb
    rcases ifc h1 with ⟨c, h1⟩ | ⟨c, h1⟩
    · have c := Int32.lt_iff_toInt_lt.mp c
      rw [show (2 : Int32).toInt = 2 from rfl] at c
      exact bad (by omega) h1
    by_cases d : v1 ≤ 5
    case neg =>
      rw [if_neg d] at h1
      have d := c_nle d
      rw [show (5 : Int32).toInt = 5 from rfl] at d
      exact bad (by omega) h1
    rw [if_pos d] at h1
    have c : ¬ v1.toInt < 2 := fun q => c (Int32.lt_iff_toInt_lt.mpr q)
    have d : v1.toInt ≤ 5 := c_le d
    rcases h2 with ⟨e, _⟩ | ⟨_, e, _⟩ | ⟨_, _, h2⟩
    · rw [m38] at e; exact absurd e (by decide)
    · exact absurd ⟨by omega, d⟩ e
    obtain ⟨K, eK⟩ : ∃ K : Nat, v1.toInt = (K : Int) := ⟨v1.toInt.toNat, by omega⟩
    obtain ⟨M, eM⟩ : ∃ M : Nat, (o5.1 1).toInt = (M : Int) := ⟨(o5.1 1).toInt.toNat, by omega⟩
    obtain ⟨p, hp, h1⟩ := bd h1
    unfold fM_coverBy fM_coverBy_0 at h2
    obtain ⟨q, hq, h2⟩ := bd h2
    have R1 : RGq b n o5 (fp om 0 0) := RGq_f R rfl rfl rfl rfl rfl rfl rfl
    obtain ⟨c1, c2, c3, c4, c5⟩ := cuts_both G R1 (by omega) (by omega) eK eK hl hC (ok_fp ho ⟨by decide, by decide⟩) ⟨by show (0 : Int) ≤ (0 : Int32).toInt; decide, by show (0 : Int32).toInt ≤ 2; decide⟩ m38 f95 hcn hp hq
    have R2 : RGq b n o5 q.2 := RGq_f R1 (c3.1 39 rfl) (c3.1 40 rfl) (c3.1 43 rfl) (c3.2.1 44 rfl) (c3.2.1 45 rfl) (c3.2.1 46 rfl) (c3.2.1 47 rfl)
    have dp : p.2.2.1 1 0 = 0 := (find_d G hp).trans d0
    unfold fF_coverBy_37 at h1
    rcases c5 with ⟨y1, y2⟩ | ⟨y1, y2, y3, y4, y5, y6, y7⟩
    · rw [if_pos y1] at h1
      rw [if_pos y2] at h2
      obtain ⟨u, hu, h2⟩ := bd h2
      rw [show fM_refuse 0 0 1 u = some (1, fp u 0 3) from refuse_3 (by decide), Option.bind_some] at h2
      have e1 := (Option.some.inj h1).symm
      have e2 := (Option.some.inj h2).symm
      subst e1; subst e2
      have S := again_S (om := om) (om1 := q.2) (cv := o3) G R2 (by rw [← hI.1]; exact hI.2) c2 ⟨by rw [c3.1 0 rfl]; show (0 : Int) ≤ (0 : Int32).toInt; decide, by rw [c3.1 0 rfl]; show (0 : Int32).toInt ≤ 2; decide⟩ (by rw [c3.1 38 rfl]; exact m38) (by rw [c3.1 95 rfl]; exact f95) c4 (c3.1 64 rfl) (c3.1 65 rfl) (c3.1 66 rfl) (c3.1 73 rfl) (c3.1 76 rfl) (c3.1 95 rfl) (c3.2.1 41 rfl) (c3.2.1 42 rfl) (c3.2.1 74 rfl) (c3.2.1 77 rfl) (c3.2.2 4 rfl) hu
      refine ⟨Or.inr ⟨(4, 3), by decide, rfl, rfl⟩, ⟨?_, ?_⟩, dp, Or.inr ⟨by show ¬ (4 : Int32) = 0; decide, rfl, ?_, ?_⟩⟩
      · show o0.1 17 = u.1 64
        rw [S.1]; exact hI.1
      · show o0.1 17 = 0 ∨ (o0.1 17 = 1 ∧ CvS o5 o3 (fp u 0 3))
        rw [hI.1]
        rcases S.2 with z | ⟨z1, z2⟩
        · exact Or.inl z
        · exact Or.inr ⟨z1, CvS_0 z2⟩
      · show u.1 76 = om.1 76
        rw [(wF_M_again hu).1 76 rfl, c3.1 76 rfl]; rfl
      · show u.2.1 77 = om.2.1 77
        rw [(wF_M_again hu).2.1 77 rfl, c3.2.1 77 rfl]; rfl
    · rw [if_neg y1] at h1
      rw [if_neg y2, opk] at h2
      unfold fF_coverBy_40 at h1
      obtain ⟨rc, hrc, h1⟩ := bd h1
      unfold fF_coverBy_60 at h1
      rw [opk, opk] at h1
      have e1 := (Option.some.inj h1).symm
      subst e1
      have h2 := (ifn h2).2
      rw [opk] at h2
      have F := fnd_sp G eK (by omega) (by omega) hl (fun e => hC K b n (by omega) (by omega) (by rw [e]; exact eK) G) hp
      have F0 : p.2.1 0 = v1 ∧ (0 ≤ (p.2.1 4).toInt ∧ p.2.1 4 = p.2.1 5) := by
        rcases F with ⟨z, _⟩ | ⟨_, z, RR, rows, C⟩
        · exact absurd z y1
        · obtain ⟨_, _, C3, _, C5, _⟩ := C
          exact ⟨z, by omega, C5.2⟩
      have X : CxF b n K o5 p.2 (fp (fp q.2 65 v1) 66 v2) := CxF_f (CxF_i G R2 (by omega) c2 y4 y5 y6) rfl rfl rfl rfl rfl rfl rfl rfl rfl rfl rfl
      have fin : ∀ w : cf_O, CvR b n M o5 rc.1 w → Fr (fr_M [73] [63, 67, 72, 74] []) (fp (fp q.2 65 v1) 66 v2) w → fM_coverBy_47 w = some rm → CbE o4 o5 om (rc.1.1 0, fp (fp o0 17 1) 30 0, p.2, rc.2, rc.1, fp o4 0 0) rm := fun w cw fw z => by
        unfold fM_coverBy_47 at z
        obtain ⟨y, hy, z⟩ := bd z
        rw [opk] at z
        have e2 := (Option.some.inj z).symm
        subst e2
        have fy := wF_M_write hy
        have Rw : RGq b n o5 w := RGq_f R2 (fw.1 39 rfl) (fw.1 40 rfl) (fw.1 43 rfl) (fw.2.1 44 rfl) (fw.2.1 45 rfl) (fw.2.1 46 rfl) (fw.2.1 47 rfl)
        have e65 : (fp y 64 1).1 65 = v1 := by show y.1 65 = v1; rw [fy.1 65 rfl, fw.1 65 rfl]; rfl
        have e66 : (fp y 64 1).1 66 = v2 := by show y.1 66 = v2; rw [fy.1 66 rfl, fw.1 66 rfl]; rfl
        have cr : CvR b n M o5 rc.1 (fp y 64 1) := CvR_f cw (CvL_f (CvR_l cw) (fy.1 73 rfl) (fy.2.1 74 rfl)) (fy.2.1 58 rfl) (fy.2.1 59 rfl) (fy.2.1 62 rfl) (fy.2.1 63 rfl)
        refine ⟨Or.inl ⟨rfl, ?_, ?_⟩, ⟨rfl, Or.inr ⟨rfl, b, n, M, G0.1, G0.2.1, eM, cr, ?_, ?_⟩⟩, dp, Or.inl ⟨rfl, rfl⟩⟩
        · show y.1 0 = 0
          rw [fy.1 0 rfl, fw.1 0 rfl]
          show q.2.1 0 = 0
          rw [c3.1 0 rfl]; rfl
        · exact cr.1.symm
        · refine ⟨p.2, o2, o3, rc.2, K, by omega, by omega, by rw [e65]; exact eK, by rw [e66]; exact hv2, by rw [e65]; exact F0.1, F0.2, c1, dp, ?_⟩
          rw [e66]; exact hrc
        · exact ⟨w, y, hy, Rw, cw, (fy.2.1 41 rfl).symm, (fy.2.1 42 rfl).symm, (fy.2.2 4 rfl).symm, (fy.1 95 rfl).symm, rfl, rfl⟩
      rcases ifc h2 with ⟨e, h2⟩ | ⟨e, h2⟩
      · obtain ⟨w, hw, h2⟩ := bd h2
        rw [e] at hrc
        obtain ⟨z1, z2, _, _⟩ := ch_cv (cc_sim X y3 dp eM hrc hw)
        rw [← e] at hrc
        exact fin w z1 z2 h2
      · obtain ⟨w, hw, h2⟩ := bd h2
        obtain ⟨z1, z2, _, _⟩ := ch_cv (cf_sim e X dp eM hrc hw)
        exact fin w z1 z2 h2
theorem eq_cover {v1 : Int32} {o0 o1 o2 o3 o4 o5 o6 om : cf_O} {r : Int32 × cf_O × cf_O × cf_O × cf_O × cf_O} {rm : Int32 × cf_O} (h38 : om.1 38 = o0.1 16) (h16 : o0.1 16 = 0 ∨ (o0.1 16 = 1 ∧ ∃ b n : Nat, GW b n o5 ∧ RGq b n o5 om)) (hl : 0 ≤ (o1.1 4).toInt ∧ o1.1 4 = o1.1 5) (hC : CuI o1 o5) (d0 : o1.2.1 1 0 = 0) (ho : okO I_M om) (f95 : (0 : Int) ≤ (om.1 95).toInt ∧ (om.1 95).toInt ≤ 0) (hcn : Cn (om.2.1 59) (om.2.1 58)) (hI : CvI o0 o5 o3 om) (h1 : fF_cover v1 o0 o1 o2 o3 o4 o5 o6 = some r) (h2 : fM_cover v1 om = some rm) : CbE o4 o5 om r rm := by
  unfold fF_cover fF_cover_0 at h1
  obtain ⟨q, hq, h1⟩ := bd h1
  have z := cvb_sim (Or.inl rfl) h38 h16 hl hC d0 ho f95 hcn hI hq (com_c h2)
  rcases ifc h1 with ⟨e, h1⟩ | ⟨e, h1⟩
  · unfold fF_cover_6 at h1
    rw [← Option.some.inj h1]
    obtain ⟨z1, z2, z3, z4⟩ := z
    refine ⟨?_, z2, z3, ?_⟩
    · rcases z1 with ⟨_, y2, y3⟩ | ⟨k, k1, k2, k3⟩
      · exact Or.inl ⟨rfl, y2, y3⟩
      · rw [e] at k2
        exfalso
        rcases List.mem_cons.mp k1 with z | k1
        · rw [z] at k2; exact absurd k2 (by decide)
        · rcases List.mem_cons.mp k1 with z | k1
          · rw [z] at k2; exact absurd k2 (by decide)
          · rw [List.mem_singleton.mp k1] at k2; exact absurd k2 (by decide)
    · rcases z4 with ⟨_, y⟩ | ⟨y, _⟩
      · exact Or.inl ⟨rfl, y⟩
      · exact absurd e y
  · rw [← Option.some.inj h1]
    obtain ⟨z1, z2⟩ := z
    refine ⟨?_, z2⟩
    rcases z1 with ⟨y, _⟩ | y
    · exact absurd y e
    · exact Or.inr y
theorem eq_coverFew {v1 : Int32} {o0 o1 o2 o3 o4 o5 o6 om : cf_O} {r : Int32 × cf_O × cf_O × cf_O × cf_O × cf_O} {rm : Int32 × cf_O} (h38 : om.1 38 = o0.1 16) (h16 : o0.1 16 = 0 ∨ (o0.1 16 = 1 ∧ ∃ b n : Nat, GW b n o5 ∧ RGq b n o5 om)) (hl : 0 ≤ (o1.1 4).toInt ∧ o1.1 4 = o1.1 5) (hC : CuI o1 o5) (d0 : o1.2.1 1 0 = 0) (ho : okO I_M om) (f95 : (0 : Int) ≤ (om.1 95).toInt ∧ (om.1 95).toInt ≤ 0) (hcn : Cn (om.2.1 59) (om.2.1 58)) (hI : CvI o0 o5 o3 om) (h1 : fF_coverFew v1 o0 o1 o2 o3 o4 o5 o6 = some r) (h2 : fM_coverFew v1 om = some rm) : CbE o4 o5 om r rm := by
  unfold fF_coverFew fF_coverFew_0 at h1
  obtain ⟨q, hq, h1⟩ := bd h1
  have z := cvb_sim (Or.inr rfl) h38 h16 hl hC d0 ho f95 hcn hI hq (com_f h2)
  rcases ifc h1 with ⟨e, h1⟩ | ⟨e, h1⟩
  · unfold fF_coverFew_6 at h1
    rw [← Option.some.inj h1]
    obtain ⟨z1, z2, z3, z4⟩ := z
    refine ⟨?_, z2, z3, ?_⟩
    · rcases z1 with ⟨_, y2, y3⟩ | ⟨k, k1, k2, k3⟩
      · exact Or.inl ⟨rfl, y2, y3⟩
      · rw [e] at k2
        exfalso
        rcases List.mem_cons.mp k1 with z | k1
        · rw [z] at k2; exact absurd k2 (by decide)
        · rcases List.mem_cons.mp k1 with z | k1
          · rw [z] at k2; exact absurd k2 (by decide)
          · rw [List.mem_singleton.mp k1] at k2; exact absurd k2 (by decide)
    · rcases z4 with ⟨_, y⟩ | ⟨y, _⟩
      · exact Or.inl ⟨rfl, y⟩
      · exact absurd e y
  · rw [← Option.some.inj h1]
    obtain ⟨z1, z2⟩ := z
    refine ⟨?_, z2⟩
    rcases z1 with ⟨y, _⟩ | y
    · exact absurd y e
    · exact Or.inr y
