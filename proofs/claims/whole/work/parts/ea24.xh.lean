theorem dpm_go {b n M : Nat} {gr om : cf_O} (G : GW b n gr) (eM : (gr.1 1).toInt = (M : Int)) (R : RGq b n gr om) : ∀ (f k : Nat) (v1 v2 : Int32) (r : Int32 × cf_O), v2.toInt = (k : Int) → k ≤ M → v1 = mxO (om.2.1 62) gr k → gM_depth f 0 v1 v2 om = some r → r = (mxO (om.2.1 62) gr M, om)
  | 0, k, v1, v2, r, e2, k2, em, h => by cases h
  | f + 1, k, v1, v2, r, e2, k2, em, h => by
    have G0 := G.1
    have R0 := R.1
    have h : fM_depth_27 (gM_depth f) v1 v2 om = some r := h
    unfold fM_depth_27 at h
    rcases ifc h with ⟨a, h⟩ | ⟨a, h⟩
    · have a := c_le a
      rw [R0.2.2.2.2.1] at a
      have ek : k = M := by omega
      rw [← Option.some.inj h, em, ek]
    · have a := c_nle a
      rw [R0.2.2.2.2.1] at a
      have o := og_sp (k := k) G (by omega)
      have e2' : (v2 + 1).toInt = ((k + 1 : Nat) : Int) := by rw [pW (by omega) (by omega)]; omega
      have h := (ifn h).2
      rw [opk, opk, tW e2, R.2.2.2.1 k (by omega)] at h
      have h := (ifn h).2
      rw [opk, tW o.2.2] at h
      rcases ifc h with ⟨c, h⟩ | ⟨c, h⟩
      · have c := c_le c
        refine dpm_go G eM R f (k + 1) v1 (v2 + 1) r e2' (by omega) ?_ h
        show v1 = op_mx (mxO (om.2.1 62) gr k) (om.2.1 62 (og gr k))
        rw [← em]
        exact Int32.toInt_inj.mp (by rw [mx_i]; omega)
      · have c := c_nle c
        have h := (ifn h).2
        rw [opk, opk] at h
        have h := (ifn h).2
        rw [opk, tW o.2.2] at h
        refine dpm_go G eM R f (k + 1) (om.2.1 62 (og gr k)) (v2 + 1) r e2' (by omega) ?_ h
        show om.2.1 62 (og gr k) = op_mx (mxO (om.2.1 62) gr k) (om.2.1 62 (og gr k))
        rw [← em]
        exact Int32.toInt_inj.mp (by rw [mx_i]; omega)
theorem eq_depth {o0 cv gr om : cf_O} {r rm : Int32 × cf_O} (hG : o0.1 17 = 1 → ∃ b n : Nat, GW b n gr ∧ RGq b n gr om) (hI : CvI o0 gr cv om) (h1 : fF_depth o0 cv = some r) (h2 : fM_depth om = some rm) : AnsC [(2, 1)] r.2 r.1 rm ∧ ∃ k : Int32, rm.2 = fp om 0 k := by
  unfold fF_depth fF_depth_0 at h1
  unfold fM_depth fM_depth_0 at h2
  rcases ifc h1 with ⟨a, h1⟩ | ⟨a, h1⟩
  · rw [if_pos (hI.1.symm.trans a)] at h2
    unfold fM_depth_13 at h2
    rw [refuse_1, Option.bind_some, if_neg (show ¬ ((1 : Int32), fp om 0 1).1 = 0 by show ¬ (1 : Int32) = 0; decide)] at h2
    rw [← Option.some.inj h1, ← Option.some.inj h2]
    exact ⟨Or.inr ⟨(2, 1), List.mem_singleton.mpr rfl, rfl, rfl⟩, 1, rfl⟩
  · obtain ⟨a1, b, n, M, e1, e2, e3, S1, S2, S3⟩ := hI.2.resolve_left a
    obtain ⟨b2, n2, G, R⟩ := hG a1
    have G0 := G.1
    rw [if_neg (by rw [← hI.1, a1]; decide)] at h2
    unfold fM_depth_13 at h2
    rw [refuse_00, Option.bind_some, if_pos (show ((0 : Int32), fp om 0 0).1 = 0 from rfl)] at h2
    have z := dpm_go (om := fp om 0 0) G e3 (RGq_f R rfl rfl rfl rfl rfl rfl rfl) cfFU 0 0 0 rm rfl (Nat.zero_le _) rfl h2
    have ev : fF_depth_7 o0 cv = some (cv.1 1, fp o0 30 0) := rfl
    rw [ev] at h1
    rw [← Option.some.inj h1, z]
    exact ⟨Or.inl ⟨rfl, rfl, S1.2.2⟩, 0, rfl⟩
def ClM (v1 v2 : Int32) (om : cf_O) (rm : Int32 × cf_O) : Prop := (om.1 64 = 0 ∧ rm = (0, fp om 0 1)) ∨ (¬ om.1 64 = 0 ∧ ((¬ ((0 : Int) ≤ v1.toInt ∧ v1.toInt ≤ ((om.1 73) - 1).toInt) ∧ rm = (0, fp om 0 2)) ∨ (((0 : Int) ≤ v1.toInt ∧ v1.toInt ≤ ((om.1 73) - 1).toInt) ∧ ∃ x : Int32, x = om.2.1 63 (om.2.1 74 v1.toNatClampNeg).toNatClampNeg ∧ ((v2.toInt < 0 ∧ rm = (0, fp om 0 3)) ∨ (3 < v2.toInt ∧ ¬ v2 - 4 < om.2.1 59 x.toNatClampNeg ∧ rm = (0, fp om 0 2)) ∨ (0 ≤ v2.toInt ∧ (3 < v2.toInt → v2 - 4 < om.2.1 59 x.toNatClampNeg) ∧ fM_cell_136 v1 v2 x 0 0 0 om = some rm)))))
theorem cell_m {v1 v2 : Int32} {om : cf_O} {rm : Int32 × cf_O} (h : fM_cell v1 v2 om = some rm) : ClM v1 v2 om rm := by
  unfold fM_cell fM_cell_0 at h
  have r0 : ∀ (v1 v2 v4 : Int32), fM_cell_136 v1 v2 v4 1 0 0 om = some rm → rm = (0, fp om 0 1) := fun v1 v2 v4 z => by
    unfold fM_cell_136 at z
    rw [refuse_1, Option.bind_some, if_neg (show ¬ ((1 : Int32), fp om 0 1).1 = 0 by show ¬ (1 : Int32) = 0; decide)] at z
    exact (Option.some.inj z).symm
  have r1 : ∀ (v1 v2 v4 : Int32), fM_cell_136 v1 v2 v4 0 1 0 om = some rm → rm = (0, fp om 0 2) := fun v1 v2 v4 z => by
    unfold fM_cell_136 at z
    rw [refuse_01, Option.bind_some, if_neg (show ¬ ((1 : Int32), fp om 0 2).1 = 0 by show ¬ (1 : Int32) = 0; decide)] at z
    exact (Option.some.inj z).symm
  have r2 : ∀ (v1 v2 v4 : Int32), fM_cell_136 v1 v2 v4 0 0 1 om = some rm → rm = (0, fp om 0 3) := fun v1 v2 v4 z => by
    unfold fM_cell_136 at z
    rw [refuse_3 (by decide), Option.bind_some, if_neg (show ¬ ((1 : Int32), fp om 0 3).1 = 0 by show ¬ (1 : Int32) = 0; decide)] at z
    exact (Option.some.inj z).symm
  rcases ifc h with ⟨a, h⟩ | ⟨a, h⟩
  · unfold fM_cell_25 fM_cell_26 fM_cell_46 fM_cell_61 fM_cell_62 fM_cell_86 fM_cell_91 fM_cell_106 fM_cell_122 fM_cell_123 fM_cell_135 at h
    rw [if_pos rfl, if_pos rfl, if_pos rfl, if_pos a, if_pos a, if_pos rfl] at h
    exact Or.inl ⟨a, r0 _ _ _ h⟩
  · refine Or.inr ⟨a, ?_⟩
    rw [opk] at h
    obtain ⟨q, hq, h⟩ := bd h
    have y := in_sp hq
    rcases ifc h with ⟨c, h⟩ | ⟨c, h⟩
    · unfold fM_cell_25 fM_cell_26 fM_cell_46 fM_cell_61 fM_cell_62 fM_cell_86 fM_cell_91 fM_cell_106 fM_cell_123 fM_cell_135 at h
      rw [if_pos rfl, if_pos rfl, if_pos rfl, if_neg a, if_neg a, if_neg (by decide), if_pos rfl] at h
      exact Or.inl ⟨Yn_0 y c, r1 _ _ _ h⟩
    · refine Or.inr ⟨Yn_1 y c, ?_⟩
      unfold fM_cell_26 at h
      rw [if_neg (by decide)] at h
      have h := (ifn h).2
      rw [opk] at h
      have h := (ifn h).2
      rw [opk] at h
      refine ⟨_, rfl, ?_⟩
      generalize om.2.1 63 (om.2.1 74 v1.toNatClampNeg).toNatClampNeg = x at h
      unfold fM_cell_46 at h
      rw [if_neg (by decide)] at h
      have ok90 : fM_cell_90 v1 v2 1 x om = some rm → (v2.toInt < 0 ∧ rm = (0, fp om 0 3)) ∨ (0 ≤ v2.toInt ∧ fM_cell_136 v1 v2 x 0 0 0 om = some rm) := fun z => by
        unfold fM_cell_90 fM_cell_91 fM_cell_106 fM_cell_122 fM_cell_123 fM_cell_135 at z
        rw [if_neg a, if_neg a, if_pos rfl, if_neg (by decide)] at z
        rcases ifc z with ⟨t, z⟩ | ⟨t, z⟩
        · have t := c_le t
          exact Or.inr ⟨t, z⟩
        · have t := c_nle t
          exact Or.inl ⟨t, r2 _ _ _ z⟩
      rcases ifc h with ⟨d, h⟩ | ⟨d, h⟩
      · have d := c_le d
        rw [show (3 : Int32).toInt = 3 from rfl] at d
        unfold fM_cell_61 fM_cell_62 at h
        rw [if_neg (by decide), if_pos rfl] at h
        rcases ok90 h with z | ⟨z1, z2⟩
        · exact Or.inl z
        · exact Or.inr (Or.inr ⟨z1, fun e => by omega, z2⟩)
      · have d := c_nle d
        rw [show (3 : Int32).toInt = 3 from rfl] at d
        unfold fM_cell_62 at h
        rw [if_neg (by decide), if_neg (by decide), opk] at h
        have h := (ifn h).2
        rw [opk] at h
        rcases ifc h with ⟨e, h⟩ | ⟨e, h⟩
        · rcases ok90 h with ⟨z, _⟩ | ⟨z1, z2⟩
          · omega
          · exact Or.inr (Or.inr ⟨z1, fun _ => e, z2⟩)
        · unfold fM_cell_86 fM_cell_91 fM_cell_106 fM_cell_123 fM_cell_135 at h
          rw [if_neg a, if_neg a, if_neg (by decide), if_neg (by decide), if_pos (Int32.le_iff_toInt_le.mpr (by show (0 : Int) ≤ v2.toInt; omega))] at h
          exact Or.inr (Or.inl ⟨d, e, r1 _ _ _ h⟩)
