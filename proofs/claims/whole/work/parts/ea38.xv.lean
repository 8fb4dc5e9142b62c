theorem mpl_go {O : cf_O} : ∀ (f : Nat) (v : Int32) (o : cf_O) (r : Int32 × cf_O), Fr (fr_M [93, 95, 96] [94, 97] []) O o → o.1 95 = 0 → gM_map f 0 v o = some r → Fr (fr_M [93, 95, 96] [94, 97] []) O r.2 ∧ r.2.1 95 = 0
  | 0, v, o, r, F, e, h => by cases h
  | f + 1, v, o, r, F, e, h => by
    have h : fM_map_86 (gM_map f) v o = some r := h
    unfold fM_map_86 at h
    rcases ifc h with ⟨_, h⟩ | ⟨_, h⟩
    · rw [opk] at h
      obtain ⟨q, hq, h⟩ := bd h
      rw [opk] at h
      have fw := wXF_M_writeMap (o0 := fp o 95 1) (show ¬ (1 : Int32) = 0 by decide) hq
      rw [← Option.some.inj h]
      exact ⟨fr_fp (fr_tr (fr_fp F rfl) fw rfl rfl rfl) rfl, rfl⟩
    · have h := (ifn h).2
      rw [opk] at h
      rcases ifc h with ⟨_, h⟩ | ⟨_, h⟩
      · unfold fM_map_122 at h
        rw [opk] at h
        exact mpl_go f _ o r F e h
      · have h := (ifn h).2
        rw [opk, opk, opk] at h
        unfold fM_map_122 at h
        rw [opk] at h
        have F2 : Fr (fr_M [93, 95, 96] [94, 97] []) O (fp (xp o 94 (o.1 93).toNatClampNeg v) 93 ((xp o 94 (o.1 93).toNatClampNeg v).1 93 + 1)) := fr_fp (fr_xp F rfl) rfl
        exact mpl_go f _ _ r F2 e h
theorem map_cv {gr cv om : cf_O} {rm : Int32 × cf_O} (hG : om.1 38 = 0 ∨ (om.1 38 = 1 ∧ ∃ b n : Nat, GW b n gr ∧ RGq b n gr om)) (ho : okO I_M om) (f95 : (0 : Int) ≤ (om.1 95).toInt ∧ (om.1 95).toInt ≤ 0) (hcn : Cn (om.2.1 59) (om.2.1 58)) (m87 : Mt (om.2.1 87)) (m89 : Mt (om.2.1 89)) (m90 : Mt (om.2.1 90)) (fp84 : Fp (om.2.1 84)) (S : om.1 64 = 0 ∨ (om.1 64 = 1 ∧ CvS gr cv om)) (h : fM_map om = some rm) : (rm.2.1 64 = om.1 64 ∧ (om.1 64 = 0 ∨ (om.1 64 = 1 ∧ CvS gr cv rm.2))) ∧ rm.2.1 76 = om.1 76 ∧ rm.2.2.1 77 = om.2.1 77 := by
  have e95 : om.1 95 = 0 := Int32.toInt_inj.mp (by rw [show (0 : Int32).toInt = 0 from rfl]; omega)
  unfold fM_map fM_map_0 at h
  have ref : fM_map_14 (gM_map cfFU) om = some rm → (rm.2.1 64 = om.1 64 ∧ (om.1 64 = 0 ∨ (om.1 64 = 1 ∧ CvS gr cv rm.2))) ∧ rm.2.1 76 = om.1 76 ∧ rm.2.2.1 77 = om.2.1 77 := fun z => by
    unfold fM_map_14 fM_map_19 at z
    rw [refuse_1, Option.bind_some, if_neg (show ¬ ((1 : Int32), fp om 0 1).1 = 0 by show ¬ (1 : Int32) = 0; decide)] at z
    rw [← Option.some.inj z]
    exact ⟨⟨rfl, S.imp id (fun y => ⟨y.1, CvS_0 y.2⟩)⟩, rfl, rfl⟩
  rcases ifc h with ⟨_, h⟩ | ⟨a, h⟩
  · exact ref h
  rcases ifc h with ⟨_, h⟩ | ⟨a2, h⟩
  · exact ref h
  obtain ⟨a1, b, n, G, R⟩ := hG.resolve_left a
  have G0 := G.1
  unfold fM_map_19 at h
  rw [refuse_00, Option.bind_some, if_pos (show ((0 : Int32), fp om 0 0).1 = 0 from rfl)] at h
  obtain ⟨q, hq, h⟩ := bd h
  have hq : fM_cutAll 3 (fp om 0 0) = some q := hq
  have R1 : RGq b n gr (fp om 0 0) := RGq_f R rfl rfl rfl rfl rfl rfl rfl
  have ok0 : okO I_M (fp om 0 0) := ok_fp ho ⟨by decide, by decide⟩
  obtain ⟨q', eq', Q⟩ := sN_cutAll 3 (fp om 0 0) ok0 ⟨by decide, by decide⟩ ⟨by show (0 : Int) ≤ (0 : Int32).toInt; decide, by show (0 : Int32).toInt ≤ 2; decide⟩ ⟨by show (1 : Int) ≤ (om.1 38).toInt; rw [a1]; decide, by show (om.1 38).toInt ≤ 1; rw [a1]; decide⟩ f95 hcn (by decide) (by
    have z := BlC_Gx G R1
    rw [R1.1.1, R1.1.2.2.1, R1.1.2.2.2.1]; exact z) (by decide)
  cases eq'.symm.trans hq
  obtain ⟨_, c2, c3, c4, _⟩ := Q
  have R2 : RGq b n gr q.2 := RGq_f R1 (c3.1 39 rfl) (c3.1 40 rfl) (c3.1 43 rfl) (c3.2.1 44 rfl) (c3.2.1 45 rfl) (c3.2.1 46 rfl) (c3.2.1 47 rfl)
  have z0 : (0 : Int) ≤ (q.2.1 0).toInt ∧ (q.2.1 0).toInt ≤ 0 := by rw [c3.1 0 rfl]; show (0 : Int) ≤ (0 : Int32).toInt ∧ (0 : Int32).toInt ≤ 0; decide
  have z38 : (1 : Int) ≤ (q.2.1 38).toInt ∧ (q.2.1 38).toInt ≤ 1 := by rw [c3.1 38 rfl]; show (1 : Int) ≤ (om.1 38).toInt ∧ (om.1 38).toInt ≤ 1; rw [a1]; decide
  have z95 : (0 : Int) ≤ (q.2.1 95).toInt ∧ (q.2.1 95).toInt ≤ 0 := by rw [c3.1 95 rfl]; exact f95
  have z78 : (1 : Int) ≤ (q.2.1 78).toInt ∧ (q.2.1 78).toInt ≤ 1 := by
    have y := c2.1 78
    have y2 : (0 : Int) ≤ (q.2.1 78).toInt ∧ (q.2.1 78).toInt ≤ 1 := y
    have y3 : ¬ (q.2.1 78).toInt = 0 := fun w => a2 (by
      have e : q.2.1 78 = 0 := Int32.toInt_inj.mp (by rw [w]; rfl)
      rw [c3.1 78 rfl] at e; exact e)
    omega
  rcases ifc h with ⟨y, h⟩ | ⟨y, h⟩
  · obtain ⟨u, hu, h⟩ := bd h
    rw [show fM_refuse 0 1 0 u = some (1, fp u 0 2) from refuse_2 (by decide), Option.bind_some] at h
    rw [← Option.some.inj h]
    have Z := again_S (om := om) (om1 := q.2) (cv := cv) G R2 S c2 ⟨z0.1, by omega⟩ (by rw [c3.1 38 rfl]; exact a1) z95 c4 (c3.1 64 rfl) (c3.1 65 rfl) (c3.1 66 rfl) (c3.1 73 rfl) (c3.1 76 rfl) (c3.1 95 rfl) (c3.2.1 41 rfl) (c3.2.1 42 rfl) (c3.2.1 74 rfl) (c3.2.1 77 rfl) (c3.2.2 4 rfl) hu
    have fa := wF_M_again hu
    exact ⟨⟨Z.1, Z.2.imp id (fun y => ⟨y.1, CvS_0 y.2⟩)⟩, (fa.1 76 rfl).trans (c3.1 76 rfl), (fa.2.1 77 rfl).trans (c3.2.1 77 rfl)⟩
  · obtain ⟨k, hk, h⟩ := bd h
    obtain ⟨k', ek', QA⟩ := sM_makeAll q.2 c2 z0 (c2.1 36) z38 z78 z95 (by rw [c3.2.1 87 rfl]; exact m87) (by rw [c3.2.1 89 rfl]; exact m89) (by rw [c3.2.1 90 rfl]; exact m90) (by rw [c3.2.1 84 rfl]; exact fp84) c4
    cases ek'.symm.trans hk
    obtain ⟨d1, d2, d3, _, _, d4, d5, _⟩ := QA
    obtain ⟨m, hm, h⟩ := bd h
    obtain ⟨m', em', QB⟩ := sM_markAll k d1 (by rw [d2.1 0 rfl]; exact z0) (d1.1 36) (by rw [d2.1 38 rfl]; exact z38) (by rw [d2.1 78 rfl]; exact z78) (by rw [d2.1 95 rfl]; exact z95) d3 d4 d5
    cases em'.symm.trans hm
    obtain ⟨g1, g2, g3, _⟩ := QB
    have h := (ifn h).2
    rw [opk] at h
    obtain ⟨u, hu, h⟩ := bd h
    have F : Fr (fr_M [36, 85] [57, 58, 59, 60, 61, 62, 63, 86, 87, 88, 89, 90, 91, 92, 98] []) (fp om 0 0) (fp m.2 85 m.1) := fr_fp (fr_tr (fr_tr (fr_tr fr_rfl c3 rfl rfl rfl) d2 rfl rfl rfl) g3 rfl rfl rfl) rfl
    have okm : okO I_M (fp m.2 85 m.1) := ok_fp g2 g1
    have Z := again_S (om := om) (om1 := fp m.2 85 m.1) (cv := cv) G (RGq_f R1 (F.1 39 rfl) (F.1 40 rfl) (F.1 43 rfl) (F.2.1 44 rfl) (F.2.1 45 rfl) (F.2.1 46 rfl) (F.2.1 47 rfl)) S okm (by rw [F.1 0 rfl]; show (0 : Int) ≤ (0 : Int32).toInt ∧ (0 : Int32).toInt ≤ 2; decide) (by rw [F.1 38 rfl]; exact a1) (by rw [F.1 95 rfl]; exact f95) (by
      show Cn (m.2.2.1 59) (m.2.2.1 58)
      rw [g3.2.1 59 rfl, g3.2.1 58 rfl, d2.2.1 59 rfl, d2.2.1 58 rfl]; exact c4) (F.1 64 rfl) (F.1 65 rfl) (F.1 66 rfl) (F.1 73 rfl) (F.1 76 rfl) (F.1 95 rfl) (F.2.1 41 rfl) (F.2.1 42 rfl) (F.2.1 74 rfl) (F.2.1 77 rfl) (F.2.2 4 rfl) hu
    have fa := wF_M_again hu
    rcases ifc h with ⟨_, h⟩ | ⟨_, h⟩
    · rw [← Option.some.inj h]; exact ⟨Z, (fa.1 76 rfl).trans (F.1 76 rfl), (fa.2.1 77 rfl).trans (F.2.1 77 rfl)⟩
    · rw [opk] at h
      have u95 : u.1 95 = 0 := by rw [fa.1 95 rfl, F.1 95 rfl]; exact e95
      obtain ⟨w1, w2⟩ := mpl_go (O := u) cfFU 0 (fp u 93 0) rm (fr_fp fr_rfl rfl) u95 h
      refine ⟨⟨by rw [w1.1 64 rfl]; exact Z.1, Z.2.imp id (fun y => ⟨y.1, ?_⟩)⟩, by rw [w1.1 76 rfl, fa.1 76 rfl, F.1 76 rfl]; rfl, by rw [w1.2.1 77 rfl, fa.2.1 77 rfl, F.2.1 77 rfl]; rfl⟩
      exact CvS_f y.2 (w1.1 65 rfl) (w1.1 66 rfl) (w1.1 73 rfl) (w1.1 76 rfl) (w2.trans u95.symm) (w1.2.1 41 rfl) (w1.2.1 42 rfl) (w1.2.1 58 rfl) (w1.2.1 59 rfl) (w1.2.1 62 rfl) (w1.2.1 63 rfl) (w1.2.1 74 rfl) (w1.2.1 77 rfl) (w1.2.2 4 rfl)
