theorem scan_c : ∀ (fu : Nat) (v2 v3 : Int32) (o0 o1 : cf_O) (r : Int32 × cf_O × cf_O), (v2 = 0 ∨ 0 < (o0.1 0).toInt) → gLi_scan fu 0 v2 v3 o0 o1 = some r → r.1 = 0 → 0 < (r.2.1.1 0).toInt
  | 0, v2, v3, o0, o1, r, _, h, _ => by cases h
  | fu + 1, v2, v3, o0, o1, r, H, h, e => by
    have h : fLi_scan_13 (gLi_scan fu) v2 v3 o0 o1 = some r := h
    unfold fLi_scan_13 at h
    have k64 : ∀ o1 : cf_O, fLi_scan_64 (gLi_scan fu) v2 o0 o1 = some r → 0 < (r.2.1.1 0).toInt := fun o1 z => by
      unfold fLi_scan_64 at z
      rcases ifc z with ⟨_, z⟩ | ⟨n, z⟩
      · rw [← Option.some.inj z] at e; exact absurd (show (1 : Int32) = 0 from e) (by decide)
      · obtain ⟨q, hq, z⟩ := bd z
        obtain ⟨u, hu, z⟩ := bd z
        rw [← Option.some.inj z]
        show 0 < (u.1 0).toInt
        rw [(wF_Li_findWays_o0 hu).1 0 rfl, (wF_Li_findInverter_o0 hq).1 0 rfl]
        exact H.resolve_left n
    have k40 : ∀ (s : Int32) (o0 o1 : cf_O), (s = 0 → ∀ q : Int32, fTx_isWord_S0 0 o1 = some q → q = 0 ∨ 0 < (o0.1 0).toInt) → fLi_scan_40 (gLi_scan fu) v3 s o0 o1 = some r → 0 < (r.2.1.1 0).toInt := fun s o0 o1 hs z => by
      unfold fLi_scan_40 at z
      rcases ifc z with ⟨y, z⟩ | ⟨y, z⟩
      · obtain ⟨q, hq, z⟩ := bd z
        rw [opk] at z
        exact scan_c fu _ _ _ _ r (hs y q hq) z e
      · rw [← Option.some.inj z] at e; exact absurd e y
    rcases ifc h with ⟨_, h⟩ | ⟨_, h⟩
    · exact k64 _ h
    · obtain ⟨q, hq, h⟩ := bd h
      rcases ifc h with ⟨_, h⟩ | ⟨_, h⟩
      · exact k64 _ h
      · rcases ifc h with ⟨_, h⟩ | ⟨_, h⟩
        · obtain ⟨u, hu, h⟩ := bd h
          refine k40 _ _ _ (fun s0 w hw => ?_) h
          unfold fLi_scanLine fLi_scanLine_0 at hu
          obtain ⟨x, hx, hu⟩ := bd hu
          cases hx.symm.trans hw
          rcases ifc hu with ⟨z, hu⟩ | ⟨z, hu⟩
          · exact Or.inl z
          · refine Or.inr ?_
            unfold fLi_scanLine_29 fLi_scanLine_30 at hu
            have bad : some ((1 : Int32), o0) = some u → 0 < (u.2.1 0).toInt := fun y => by
              rw [← Option.some.inj y] at s0; exact absurd (show (1 : Int32) = 0 from s0) (by decide)
            rcases ifc hu with ⟨_, hu⟩ | ⟨_, hu⟩
            · rcases ifc hu with ⟨_, hu⟩ | ⟨c, hu⟩
              · exact bad hu
              · have c : 0 < (o0.1 0).toInt := c_nle c
                rw [← Option.some.inj hu]; exact c
            · exact bad hu
        · exact k40 _ _ _ (fun s0 => absurd s0 (by decide)) h
theorem lib_c {o0 o1 o2 o3 : cf_O} {r : Int32 × cf_O × cf_O × cf_O × cf_O} (h : fF_library o0 o1 o2 o3 = some r) (e : r.1 = 0) : 0 < (r.2.2.2.1.1 0).toInt := by
  unfold fF_library fF_library_0 at h
  obtain ⟨q, hq, h⟩ := bd h
  unfold fF_library_11 at h
  rcases ifc h with ⟨a, h⟩ | ⟨a, h⟩
  · rw [opk, opk] at h
    unfold fF_library_58 at h
    rw [← Option.some.inj h]
    unfold fLi_scan fLi_scan_0 at hq
    rw [opk] at hq
    obtain ⟨t, ht, hq⟩ := bd hq
    exact scan_c cfFU 0 0 _ _ q (Or.inl rfl) hq a
  · rw [opk] at h
    unfold fF_library_58 at h
    rw [← Option.some.inj h] at e
    exact absurd e a
theorem lm_85 : ∀ (f k : Nat) (v : Int32) (o : cf_O) (r : Int32 × cf_O), o.1 85 = 0 → gM_library f k v o = some r → r.2.1 85 = 0 ∧ r.1 = 0
  | 0, k, v, o, r, e, h => by cases h
  | f + 1, 0, v, o, r, e, h => by
    have h : fM_library_70 (gM_library f) v o = some r := h
    unfold fM_library_70 at h
    rw [opk] at h
    rcases ifc h with ⟨_, h⟩ | ⟨_, h⟩
    · exact lm_85 f 1 0 o r e h
    · have h := (ifn h).2
      rw [opk] at h
      have h := (ifn h).2
      rw [opk, opk] at h
      refine lm_85 f 0 _ _ r ?_ h
      exact e
  | f + 1, 1, v, o, r, e, h => by
    have h : fM_library_101 (gM_library f) v o = some r := h
    unfold fM_library_101 at h
    rw [opk] at h
    rcases ifc h with ⟨_, h⟩ | ⟨_, h⟩
    · rw [← Option.some.inj h]; exact ⟨e, rfl⟩
    · have h := (ifn h).2
      rw [opk] at h
      have h := (ifn h).2
      rw [opk, opk] at h
      refine lm_85 f 1 _ _ r ?_ h
      exact e
  | f + 1, k + 2, v, o, r, e, h => by cases h
theorem lib_m {om : cf_O} {rm : Int32 × cf_O} (h : fM_library om = some rm) : (rm.1 = 0 ∧ rm.2.1 85 = 0) ∨ (¬ rm.1 = 0 ∧ ∃ q : cf_O, fM_readLibrary (fp om 0 0) = some q ∧ Fr (fr_M [3, 6] [] []) q rm.2) := by
  unfold fM_library fM_library_0 at h
  rw [opk] at h
  obtain ⟨q, hq, h⟩ := bd h
  have k30 : ∀ s : Int32, fM_library_30 (gM_library cfFU) ((fp om 0 0).1 6) s q = some rm → (rm.1 = 0 ∧ rm.2.1 85 = 0) ∨ (¬ rm.1 = 0 ∧ ∃ q : cf_O, fM_readLibrary (fp om 0 0) = some q ∧ Fr (fr_M [3, 6] [] []) q rm.2) := fun s z => by
    unfold fM_library_30 at z
    rw [opk, opk] at z
    rcases ifc z with ⟨_, z⟩ | ⟨c, z⟩
    · rw [opk, opk, opk] at z
      have w := lm_85 cfFU 0 0 _ rm rfl z
      exact Or.inl ⟨w.2, w.1⟩
    · refine Or.inr ?_
      rw [← Option.some.inj z]
      refine ⟨fun y => c (Int32.le_iff_toInt_le.mpr (by rw [show (fp (fp q 3 s) 6 ((fp om 0 0).1 6)).1 5 = 0 from y]; decide)), q, hq, fr_fp (fr_fp fr_rfl rfl) rfl⟩
  rcases ifc h with ⟨_, h⟩ | ⟨_, h⟩
  · exact k30 _ h
  · exact k30 _ h
def RMpQ (st : Nat → cf_O) (om : cf_O) : Prop := MpI (st 0) (st 12) (st 7) (st 14) om ∧ SmI (st 0) (st 9) (st 17) om ∧ (om.1 78 = 1 → LwI (st 14) ∧ 0 < ((st 14).1 0).toInt) ∧ ((st 0).1 18 = 1 → (st 0).1 16 = 1)
theorem SmI_f {F F2 sc sb om om2 : cf_O} (h : SmI F sc sb om) (e18 : F2.1 18 = F.1 18) (u96 : om2.1 96 = om.1 96) (u97 : om2.2.1 97 = om.2.1 97) : SmI F2 sc sb om2 := ⟨h.1, fun z => (h.2 (e18.symm.trans z)).imp id (fun t => TwN_f t u96 u97)⟩
theorem RMp_k {st st2 : Nat → cf_O} {om om2 : cf_O} (h : RMpQ st om) (e16 : (st2 0).1 16 = (st 0).1 16) (e18 : (st2 0).1 18 = (st 0).1 18) (s12 : st2 12 = st 12) (s7 : st2 7 = st 7) (s14 : st2 14 = st 14) (s9 : st2 9 = st 9) (s17 : st2 17 = st 17) (u78 : om2.1 78 = om.1 78) (u82 : om2.1 82 = om.1 82) (u85 : om2.1 85 = om.1 85) (u93 : om2.1 93 = om.1 93) (u96 : om2.1 96 = om.1 96) (u41 : om2.2.1 41 = om.2.1 41) (u42 : om2.2.1 42 = om.2.1 42) (u83 : om2.2.1 83 = om.2.1 83) (u84 : om2.2.1 84 = om.2.1 84) (u86 : om2.2.1 86 = om.2.1 86) (u87 : om2.2.1 87 = om.2.1 87) (u94 : om2.2.1 94 = om.2.1 94) (u97 : om2.2.1 97 = om.2.1 97) (u4 : om2.2.2 4 = om.2.2 4) : RMpQ st2 om2 := by
  obtain ⟨h1, h2, h3, h4⟩ := h
  unfold RMpQ MpI
  rw [s12, s7, s14, s9, s17, e16, e18, u85, u78]
  exact ⟨⟨h1.1, h1.2.imp id (fun z => ⟨z.1, MpS_f z.2 u82 u93 u96 u41 u42 u83 u84 u86 u87 u94 u97 u4⟩)⟩, SmI_f h2 e18 u96 u97, h3, h4⟩
theorem RMp_g {st st2 : Nat → cf_O} {om : cf_O} {ra : Int32} {rm : Int32 × cf_O} (h : RMpQ st om) (g : GrC (st 0) (st2 0) (st 12) (st2 12) ra om rm) (s7 : st2 7 = st 7) (s14 : st2 14 = st 14) (s9 : st2 9 = st 9) (s17 : st2 17 = st 17) (u78 : rm.2.1 78 = om.1 78) (u82 : rm.2.1 82 = om.1 82) (u93 : rm.2.1 93 = om.1 93) (u96 : rm.2.1 96 = om.1 96) (u41 : rm.2.2.1 41 = om.2.1 41) (u42 : rm.2.2.1 42 = om.2.1 42) (u83 : rm.2.2.1 83 = om.2.1 83) (u84 : rm.2.2.1 84 = om.2.1 84) (u86 : rm.2.2.1 86 = om.2.1 86) (u87 : rm.2.2.1 87 = om.2.1 87) (u94 : rm.2.2.1 94 = om.2.1 94) (u97 : rm.2.2.1 97 = om.2.1 97) (u4 : rm.2.2.2 4 = om.2.2 4) : RMpQ st2 rm.2 := by
  rcases g with ⟨_, _, _, _, _, e18, _, e85, _⟩ | ⟨_, e16, _, e18, eg, _, e85, _⟩
  · obtain ⟨h1, h2, h3, h4⟩ := h
    exact ⟨⟨by rw [e18, e85], Or.inl e18⟩, ⟨by rw [s17]; exact h2.1, fun z => by rw [e18] at z; exact absurd z (by decide)⟩, by rw [u78, s14]; exact h3, fun z => by rw [e18] at z; exact absurd z (by decide)⟩
  · exact RMp_k h e16 e18 eg s7 s14 s9 s17 u78 u82 e85 u93 u96 u41 u42 u83 u84 u86 u87 u94 u97 u4
theorem RMp_s {st st2 : Nat → cf_O} {om : cf_O} {rm : Int32 × cf_O} (h : RMpQ st om) (k : ∃ k : Int32, rm.2 = fp om 0 k) (c : SmI (st2 0) (st2 9) (st2 17) rm.2) (e16 : (st2 0).1 16 = (st 0).1 16) (e18 : (st2 0).1 18 = (st 0).1 18) (s12 : st2 12 = st 12) (s7 : st2 7 = st 7) (s14 : st2 14 = st 14) : RMpQ st2 rm.2 := by
  obtain ⟨h1, h2, h3, h4⟩ := h
  obtain ⟨k, ek⟩ := k
  refine ⟨?_, c, by rw [s14, ek]; exact h3, fun z => e16.trans (h4 (e18.symm.trans z))⟩
  unfold MpI
  rw [s12, s7, s14, e18, ek]
  exact ⟨h1.1, h1.2.imp id (fun z => ⟨z.1, MpS_f z.2 rfl rfl rfl rfl rfl rfl rfl rfl rfl rfl rfl rfl⟩)⟩
theorem RMp_m {st st2 : Nat → cf_O} {om : cf_O} {r : Int32 × cf_O × cf_O × cf_O × cf_O × cf_O} {rm : Int32 × cf_O} (h : RMpQ st om) (c1 : MpI r.2.1 (st 12) r.2.2.2.2.1 (st 14) rm.2) (c2 : (r.2.1.1 30 = 0 ∧ r.2.2.2.2.2.1 0 = 0 ∧ ¬ (st 0).1 16 = 0) ∨ (¬ r.2.1.1 30 = 0 ∧ r.2.2.2.2.2 = st 9 ∧ r.2.1.1 18 = (st 0).1 18 ∧ rm.2.1 96 = om.1 96 ∧ rm.2.2.1 97 = om.2.1 97)) (h16 : (st 0).1 16 = 0 ∨ (st 0).1 16 = 1) (e16 : (st2 0).1 16 = (st 0).1 16) (s0 : st2 0 = r.2.1) (s7 : st2 7 = r.2.2.2.2.1) (s9 : st2 9 = r.2.2.2.2.2) (s12 : st2 12 = st 12) (s14 : st2 14 = st 14) (s17 : st2 17 = st 17) (u78 : rm.2.1 78 = om.1 78) : RMpQ st2 rm.2 := by
  obtain ⟨h1, h2, h3, h4⟩ := h
  refine ⟨by rw [s0, s12, s7, s14]; exact c1, ?_, by rw [u78, s14]; exact h3, fun z => ?_⟩
  · rw [s0, s9, s17]
    rcases c2 with ⟨_, y, _⟩ | ⟨_, y1, y2, y3, y4⟩
    · exact ⟨h2.1, fun _ => Or.inl y⟩
    · rw [y1]; exact SmI_f h2 y2 y3 y4
  · rw [e16]
    rcases c2 with ⟨_, _, y⟩ | ⟨_, _, y2, _⟩
    · exact h16.resolve_left y
    · rw [s0] at z; exact h4 (y2.symm.trans z)
