theorem i5m {v4 v2 : Int32} {ci k : Nat} (e4 : v4.toInt = (ci : Int)) (e2 : v2.toInt = ((k + 4 : Nat) : Int)) (hc : ci < 63210) (hk : k < 5) : (5 * v4 + v2 - 4).toNatClampNeg = 5 * ci + k := by
  have m : (5 * v4).toInt = 5 * (ci : Int) := by rw [Int32.toInt_mul, e4, show (5 : Int32).toInt = 5 from rfl, i_bm (by omega) (by omega)]
  have a : (5 * v4 + v2).toInt = 5 * (ci : Int) + ((k + 4 : Nat) : Int) := by rw [Int32.toInt_add, m, e2, i_bm (by omega) (by omega)]
  have s : (5 * v4 + v2 - 4).toInt = 5 * (ci : Int) + ((k + 4 : Nat) : Int) - 4 := by rw [Int32.toInt_sub, a, show (4 : Int32).toInt = 4 from rfl, i_bm (by omega) (by omega)]
  exact tW (by rw [s]; omega)
theorem eq_cell {v1 v2 : Int32} {o0 cv gr om : cf_O} {r rm : Int32 × cf_O} (hG : o0.1 17 = 1 → ∃ b n : Nat, GW b n gr ∧ RGq b n gr om) (hI : CvI o0 gr cv om) (h1 : fF_cell v1 v2 o0 cv = some r) (h2 : fM_cell v1 v2 om = some rm) : AnsC [(2, 1), (3, 2), (1, 3)] r.2 r.1 rm ∧ Fr (fr_M [0] [75] []) om rm.2 := by
  unfold fF_cell fF_cell_0 at h1
  have ref : ∀ k j : Int32, (k, j) ∈ [((2 : Int32), (1 : Int32)), (3, 2), (1, 3)] → r = (0, fp o0 30 k) → rm = (0, fp om 0 j) → AnsC [(2, 1), (3, 2), (1, 3)] r.2 r.1 rm ∧ Fr (fr_M [0] [75] []) om rm.2 := fun k j hm e1 e2 => by
    rw [e1, e2]
    exact ⟨Or.inr ⟨(k, j), hm, rfl, rfl⟩, fr_fp fr_rfl rfl⟩
  have h2 := cell_m h2
  rcases ifc h1 with ⟨a, h1⟩ | ⟨a, h1⟩
  · rcases h2 with ⟨_, h2⟩ | ⟨c, _⟩
    · exact ref 2 1 (by decide) (Option.some.inj h1).symm h2
    · exact absurd (hI.1.symm.trans a) c
  · obtain ⟨a1, b0, n0, M, e1, e2, e3, S1, S2, S3⟩ := hI.2.resolve_left a
    obtain ⟨b, n, G, R⟩ := hG a1
    have G0 := G.1
    have eb : b0 = b := by omega
    have en : n0 = n := by omega
    subst eb; subst en
    rcases h2 with ⟨c, _⟩ | ⟨_, h2⟩
    · rw [← hI.1, a1] at c; exact absurd c (by decide)
    obtain ⟨z1, ⟨k, z2, z3, z4⟩, _⟩ := S1
    have em : ((om.1 73) - 1).toInt = (k : Int) - 1 := by
      rw [z1, i_sub' (by omega) (by omega) (by decide) (by decide), z2]; rfl
    unfold fF_cell_7 at h1
    have out : ¬ ((0 : Int) ≤ v1.toInt ∧ v1.toInt ≤ ((om.1 73) - 1).toInt) → fF_cell_26 v1 v2 o0 cv = some r → AnsC [(2, 1), (3, 2), (1, 3)] r.2 r.1 rm ∧ Fr (fr_M [0] [75] []) om rm.2 := fun nb z => by
      unfold fF_cell_26 fF_cell_27 at z
      rw [if_pos rfl] at z
      rcases h2 with ⟨_, h2⟩ | ⟨c, _⟩
      · exact ref 3 2 (by decide) (Option.some.inj z).symm h2
      · exact absurd c nb
    rcases ifc h1 with ⟨c, h1⟩ | ⟨c, h1⟩
    · have c := Int32.lt_iff_toInt_lt.mp c
      rw [show (0 : Int32).toInt = 0 from rfl] at c
      exact out (by omega) h1
    have c : ¬ v1.toInt < 0 := fun q => c (Int32.lt_iff_toInt_lt.mpr q)
    rcases ifc h1 with ⟨d, h1⟩ | ⟨d, h1⟩
    · have d := c_le d
      exact out (by omega) h1
    have d := c_nle d
    rcases h2 with ⟨e, _⟩ | ⟨_, x, ex, h2⟩
    · exact absurd ⟨by omega, by omega⟩ e
    obtain ⟨i, ei⟩ : ∃ i : Nat, v1.toInt = (i : Int) := ⟨v1.toInt.toNat, by omega⟩
    obtain ⟨g, l, ci, g1, g2, g3, g4, g5, g6, g7, g8, g9, g10, g11, g12, g13⟩ := z4 i (by omega)
    have ex : x = om.2.1 63 g := by rw [ex, tW ei, g4, tW g3]
    have exi : x.toInt = (ci : Int) := by rw [ex]; exact g12
    have l5 : (upL l).length = l.length := up_l
    have e59 : (om.2.1 59 x.toNatClampNeg).toInt = (l.length : Int) := by rw [tW exi, g13.2.2.1, l5]
    unfold fF_cell_27 fF_cell_30 at h1
    rw [if_neg (by decide)] at h1
    have sz : ∀ s : Int32, fCu_sizeOf (cv.2.2 5 g) = some s → s.toInt = (l.length : Int) := fun s hs => sizeOf_sp (by omega) g10 (by rw [g7]; exact enc_ge g8 (fun z => by rw [z] at g9; exact absurd g9 (by decide))) (by rw [g7]; exact enc_lt g8 (by omega)) hs
    by_cases t : (0 : Int32) ≤ v2
    case neg =>
      rw [if_neg t] at h1
      have t := c_nle t
      rw [show (0 : Int32).toInt = 0 from rfl] at t
      rcases h2 with ⟨_, h2⟩ | ⟨z, _⟩ | ⟨z, _⟩
      · exact ref 1 3 (by decide) (Option.some.inj h1).symm h2
      · omega
      · omega
    rw [if_pos t] at h1
    have t : 0 ≤ v2.toInt := c_le t
    obtain ⟨cut, hcut, h1⟩ := bd h1
    have ec : cut = cv.2.2 5 g := by
      unfold fCv_cutOf fCv_cutOf_0 at hcut
      have y := (ifn hcut).2
      rw [opk, tW ei] at y
      have y := (ifn y).2
      rw [opk, tW g3] at y
      exact (Option.some.inj y).symm
    subst ec
    unfold fF_cell_50 at h1
    have good : (v2.toInt ≤ 3 ∨ ∃ j : Nat, j < l.length ∧ v2.toInt = ((j + 4 : Nat) : Int)) → fM_cell_136 v1 v2 x 0 0 0 om = some rm := fun hj => by
      rcases h2 with ⟨z, _⟩ | ⟨z1, z2, _⟩ | ⟨_, _, z⟩
      · omega
      · rcases hj with q | ⟨j, j1, j2⟩
        · omega
        · exact absurd (Int32.lt_iff_toInt_lt.mpr (by rw [e59, i_sub' (by omega) (by omega) (by decide) (by decide), j2, show (4 : Int32).toInt = 4 from rfl]; omega)) z2
      · exact z
    have m136 : fM_cell_136 v1 v2 x 0 0 0 om = some rm → (v2 = 0 ∧ rm = (cv.2.1 2 i, fp om 0 0)) ∨ (v2 = 1 ∧ rm = (om.2.1 59 ci, fp om 0 0)) ∨ (v2 = 2 ∧ ∃ q : Int32 × cf_O, fM_table (cv.2.1 2 i) (fp om 0 0) = some q ∧ rm = q) ∨ (v2 = 3 ∧ rm = (om.2.1 62 g, fp om 0 0)) ∨ (3 < v2.toInt ∧ ∀ j : Nat, j < l.length → v2.toInt = ((j + 4 : Nat) : Int) → rm = (om.2.1 58 (5 * ci + j), fp om 0 0)) := fun z => by
      unfold fM_cell_136 at z
      rw [refuse_00, Option.bind_some, if_pos (show ((0 : Int32), fp om 0 0).1 = 0 from rfl)] at z
      have z := (ifn z).2
      rw [opk, tW ei] at z
      have e74 : (fp om 0 0).2.1 74 i = cv.2.1 2 i := g4
      rw [show (((0 : Int32), fp om 0 0).2).2.1 74 i = cv.2.1 2 i from g4] at z
      unfold fM_cell_218 at z
      rcases ifc z with ⟨y, z⟩ | ⟨y0, z⟩
      · exact Or.inl ⟨y, (Option.some.inj z).symm⟩
      rcases ifc z with ⟨y, z⟩ | ⟨y1, z⟩
      · have z := (ifn z).2
        rw [opk, tW exi] at z
        exact Or.inr (Or.inl ⟨y, (Option.some.inj z).symm⟩)
      rcases ifc z with ⟨y, z⟩ | ⟨y2, z⟩
      · obtain ⟨q, hq, z⟩ := bd z
        exact Or.inr (Or.inr (Or.inl ⟨y, q, hq, (Option.some.inj z).symm⟩))
      rcases ifc z with ⟨y, z⟩ | ⟨y3, z⟩
      · have z := (ifn z).2
        rw [opk, tW g3] at z
        exact Or.inr (Or.inr (Or.inr (Or.inl ⟨y, (Option.some.inj z).symm⟩)))
      · have z0 : ¬ v2.toInt = 0 := c_ne y0
        have z1 : ¬ v2.toInt = 1 := c_ne y1
        have z2 : ¬ v2.toInt = 2 := c_ne y2
        have z3 : ¬ v2.toInt = 3 := c_ne y3
        refine Or.inr (Or.inr (Or.inr (Or.inr ⟨by omega, fun j j1 j2 => ?_⟩)))
        rw [opk, opk, opk] at z
        have z := (ifn z).2
        rw [opk, i5m exi j2 g13.1 (by omega)] at z
        exact (Option.some.inj z).symm
    have w0 : ∀ a : Int32, (fp o0 30 0).1 30 = 0 := fun _ => rfl
    rcases ifc h1 with ⟨y, h1⟩ | ⟨y0, h1⟩
    · have h1 := (ifn h1).2
      rw [opk, tW ei] at h1
      rcases m136 (good (Or.inl (by rw [y]; decide))) with ⟨_, z⟩ | ⟨z, _⟩ | ⟨z, _⟩ | ⟨z, _⟩ | ⟨z, _⟩
      · rw [← Option.some.inj h1, z]; exact ⟨Or.inl ⟨rfl, rfl, rfl⟩, fr_fp fr_rfl rfl⟩
      · rw [y] at z; exact absurd z (by decide)
      · rw [y] at z; exact absurd z (by decide)
      · rw [y] at z; exact absurd z (by decide)
      · rw [y] at z; exact absurd z (by decide)
    rcases ifc h1 with ⟨y, h1⟩ | ⟨y1, h1⟩
    · obtain ⟨s, hs, h1⟩ := bd h1
      have es := sz s hs
      rcases m136 (good (Or.inl (by rw [y]; decide))) with ⟨z, _⟩ | ⟨_, z⟩ | ⟨z, _⟩ | ⟨z, _⟩ | ⟨z, _⟩
      · rw [y] at z; exact absurd z (by decide)
      · unfold fF_cell_98 at h1
        rw [← Option.some.inj h1, z]
        refine ⟨Or.inl ⟨rfl, rfl, Int32.toInt_inj.mp ?_⟩, fr_fp fr_rfl rfl⟩
        show s.toInt = (om.2.1 59 ci).toInt
        rw [es, g13.2.2.1, l5]
      · rw [y] at z; exact absurd z (by decide)
      · rw [y] at z; exact absurd z (by decide)
      · rw [y] at z; exact absurd z (by decide)
    rcases ifc h1 with ⟨y, h1⟩ | ⟨y2, h1⟩
    · have h1 := (ifn h1).2
      rw [opk, tW ei] at h1
      rcases m136 (good (Or.inl (by rw [y]; decide))) with ⟨z, _⟩ | ⟨z, _⟩ | ⟨_, q, hq, z⟩ | ⟨z, _⟩ | ⟨z, _⟩
      · rw [y] at z; exact absurd z (by decide)
      · rw [y] at z; exact absurd z (by decide)
      · obtain ⟨W, hW⟩ := CV_ex (C := upL l) G (up_sd g8)
        obtain ⟨t1, t2⟩ := table_sp (om := fp om 0 0) G (RGq_f R rfl rfl rfl rfl rfl rfl rfl) hW g2 g3 g12 (CtM_f g13 rfl rfl) hq
        rw [← Option.some.inj h1, z]
        refine ⟨Or.inl ⟨rfl, ?_, bt_e (fun j hj => ?_)⟩, fr_tr (fr_fp fr_rfl rfl) t2 rfl rfl rfl⟩
        · rw [t2.1 0 rfl]; rfl
        · rw [t1 j hj]; exact g6 l W g7 g8 (by omega) g10 g11 hW j hj
      · rw [y] at z; exact absurd z (by decide)
      · rw [y] at z; exact absurd z (by decide)
    rcases ifc h1 with ⟨y, h1⟩ | ⟨y3, h1⟩
    · have h1 := (ifn h1).2
      rw [opk, tW ei] at h1
      rcases m136 (good (Or.inl (by rw [y]; decide))) with ⟨z, _⟩ | ⟨z, _⟩ | ⟨z, _⟩ | ⟨_, z⟩ | ⟨z, _⟩
      · rw [y] at z; exact absurd z (by decide)
      · rw [y] at z; exact absurd z (by decide)
      · rw [y] at z; exact absurd z (by decide)
      · rw [← Option.some.inj h1, z]; exact ⟨Or.inl ⟨rfl, rfl, g5⟩, fr_fp fr_rfl rfl⟩
      · rw [y] at z; exact absurd z (by decide)
    have n0 : ¬ v2.toInt = 0 := c_ne y0
    have n1 : ¬ v2.toInt = 1 := c_ne y1
    have n2 : ¬ v2.toInt = 2 := c_ne y2
    have n3 : ¬ v2.toInt = 3 := c_ne y3
    obtain ⟨j, ej⟩ : ∃ j : Nat, v2.toInt = ((j + 4 : Nat) : Int) := ⟨v2.toInt.toNat - 4, by omega⟩
    have hv : v2.toInt < 2147483648 := by have := Int32.toInt_lt v2; omega
    have e4 : (v2 - 4).toInt = (j : Int) := by rw [Int32.toInt_sub, ej, show (4 : Int32).toInt = 4 from rfl, i_bm (by omega) (by omega)]; omega
    rw [opk] at h1
    obtain ⟨s, hs, h1⟩ := bd h1
    have es := sz s hs
    unfold fF_cell_126 fF_cell_134 at h1
    rcases ifc h1 with ⟨q, h1⟩ | ⟨q, h1⟩
    · have q := c_le q
      rw [if_pos rfl] at h1
      rcases h2 with ⟨z, _⟩ | ⟨_, _, z⟩ | ⟨_, z, _⟩
      · omega
      · exact ref 3 2 (by decide) (Option.some.inj h1).symm z
      · have z := Int32.lt_iff_toInt_lt.mp (z (by omega))
        omega
    · have q := c_nle q
      rw [if_neg (by decide)] at h1
      unfold fF_cell_137 at h1
      rw [opk] at h1
      obtain ⟨w, hw, h1⟩ := bd h1
      obtain ⟨x2, x3, _, _, x4⟩ := ndat_sp g7 g8 (by omega) (show j < l.length by omega) g10 e4 hw
      rcases m136 (good (Or.inr ⟨j, by omega, ej⟩)) with ⟨z, _⟩ | ⟨z, _⟩ | ⟨z, _⟩ | ⟨z, _⟩ | ⟨_, z⟩
      · exact absurd z y0
      · exact absurd z y1
      · exact absurd z y2
      · exact absurd z y3
      · have z := z j (by omega) ej
        have ct := CtM_g (t := j) g13 (by omega)
        have x5 : (om.2.1 58 (5 * ci + j)).toInt = (x2 : Int) := Option.some.inj (ct.symm.trans x3)
        unfold fF_cell_144 at h1
        rw [← Option.some.inj h1, z]
        refine ⟨Or.inl ⟨rfl, rfl, Int32.toInt_inj.mp ?_⟩, fr_fp fr_rfl rfl⟩
        show w.toInt = _
        rw [x4, x5]
