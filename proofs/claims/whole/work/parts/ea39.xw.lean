def RCvQ (st : Nat → cf_O) (om : cf_O) : Prop := CvI (st 0) (st 12) (st 6) om ∧ (st 3).2.1 1 0 = 0 ∧ ScI (st 0) (st 8) (st 16) om ∧ ((st 0).1 16 = 1 → NaI (st 10) (st 12) om) ∧ ((st 0).1 17 = 1 → (st 0).1 16 = 1)
theorem ScI_f {F F2 sc sb om om2 : cf_O} (h : ScI F sc sb om) (e17 : F2.1 17 = F.1 17) (u95 : om2.1 95 = om.1 95) (u76 : om2.1 76 = om.1 76) (u77 : om2.2.1 77 = om.2.1 77) : ScI F2 sc sb om2 :=
  ⟨h.1, fun z => (h.2 (e17.symm.trans z)).imp id (fun t => TwS_f t u95 u76 u77)⟩
theorem RCv_k {st st2 : Nat → cf_O} {om om2 : cf_O} (h : RCvQ st om) (e16 : (st2 0).1 16 = (st 0).1 16) (e17 : (st2 0).1 17 = (st 0).1 17) (s12 : st2 12 = st 12) (s6 : st2 6 = st 6) (s8 : st2 8 = st 8) (sb : st2 16 = st 16) (s10 : st2 10 = st 10) (s3 : (st2 3).2.1 1 0 = 0) (u39 : om2.1 39 = om.1 39) (u40 : om2.1 40 = om.1 40) (u64 : om2.1 64 = om.1 64) (u65 : om2.1 65 = om.1 65) (u66 : om2.1 66 = om.1 66) (u73 : om2.1 73 = om.1 73) (u76 : om2.1 76 = om.1 76) (u95 : om2.1 95 = om.1 95) (u41 : om2.2.1 41 = om.2.1 41) (u42 : om2.2.1 42 = om.2.1 42) (u58 : om2.2.1 58 = om.2.1 58) (u59 : om2.2.1 59 = om.2.1 59) (u62 : om2.2.1 62 = om.2.1 62) (u63 : om2.2.1 63 = om.2.1 63) (u74 : om2.2.1 74 = om.2.1 74) (u77 : om2.2.1 77 = om.2.1 77) (u4 : om2.2.2 4 = om.2.2 4) : RCvQ st2 om2 := by
  obtain ⟨h1, h2, h3, h4, h5⟩ := h
  unfold RCvQ CvI
  rw [s12, s6, s8, sb, s10, e17, e16, u64]
  refine ⟨⟨h1.1, h1.2.imp id (fun z => ⟨z.1, CvS_f z.2 u65 u66 u73 u76 u95 u41 u42 u58 u59 u62 u63 u74 u77 u4⟩)⟩, s3, ScI_f h3 e17 u95 u76 u77, fun z => NaI_f (h4 z) u39 u40 u41 u42, h5⟩
theorem RCv_g {st st2 : Nat → cf_O} {om : cf_O} {ra : Int32} {rm : Int32 × cf_O} (h : RCvQ st om) (g : GrC (st 0) (st2 0) (st 12) (st2 12) ra om rm) (s6 : st2 6 = st 6) (s8 : st2 8 = st 8) (sb : st2 16 = st 16) (s10 : st2 10 = st 10) (s3 : (st2 3).2.1 1 0 = 0) (u39 : rm.2.1 39 = om.1 39) (u40 : rm.2.1 40 = om.1 40) (u65 : rm.2.1 65 = om.1 65) (u66 : rm.2.1 66 = om.1 66) (u73 : rm.2.1 73 = om.1 73) (u76 : rm.2.1 76 = om.1 76) (u95 : rm.2.1 95 = om.1 95) (u41 : rm.2.2.1 41 = om.2.1 41) (u42 : rm.2.2.1 42 = om.2.1 42) (u58 : rm.2.2.1 58 = om.2.1 58) (u59 : rm.2.2.1 59 = om.2.1 59) (u62 : rm.2.2.1 62 = om.2.1 62) (u63 : rm.2.2.1 63 = om.2.1 63) (u74 : rm.2.2.1 74 = om.2.1 74) (u77 : rm.2.2.1 77 = om.2.1 77) (u4 : rm.2.2.2 4 = om.2.2 4) : RCvQ st2 rm.2 := by
  rcases g with ⟨_, _, _, e16, e17, _, e64, _, g0, g1, _⟩ | ⟨_, e16, e17, _, eg, e64, _, _⟩
  · obtain ⟨h1, h2, h3, h4, h5⟩ := h
    refine ⟨⟨by rw [e17, e64], Or.inl e17⟩, s3, ⟨by rw [sb]; exact h3.1, fun z => by rw [e17] at z; exact absurd z (by decide)⟩, fun z => ?_, fun z => by rw [e17] at z; exact absurd z (by decide)⟩
    have N := NaI_f (h4 (e16.symm.trans z)) u39 u40 u41 u42
    rw [s10]
    exact ⟨N.1.trans g0.symm, N.2.1.trans g1.symm, N.2.2⟩
  · exact RCv_k h e16 e17 eg s6 s8 sb s10 s3 u39 u40 e64 u65 u66 u73 u76 u95 u41 u42 u58 u59 u62 u63 u74 u77 u4
theorem RCv_w {st st2 : Nat → cf_O} {om : cf_O} {ra : Int32} {rm : Int32 × cf_O} (h : RCvQ st om) (g : GrC (st 0) (st2 0) (st 12) (st2 12) ra om rm) (c : CvI (st2 0) (st2 12) (st 6) rm.2) (s6 : st2 6 = st 6) (s8 : st2 8 = st 8) (sb : st2 16 = st 16) (s10 : st2 10 = st 10) (s3 : (st2 3).2.1 1 0 = 0) (u39 : rm.2.1 39 = om.1 39) (u40 : rm.2.1 40 = om.1 40) (u76 : rm.2.1 76 = om.1 76) (u95 : rm.2.1 95 = om.1 95) (u41 : rm.2.2.1 41 = om.2.1 41) (u42 : rm.2.2.1 42 = om.2.1 42) (u77 : rm.2.2.1 77 = om.2.1 77) : RCvQ st2 rm.2 := by
  obtain ⟨h1, h2, h3, h4, h5⟩ := h
  refine ⟨by rw [s6]; exact c, s3, ?_, fun z => ?_, fun z => ?_⟩
  · rw [s8, sb]
    rcases g with ⟨_, _, _, _, e17, _⟩ | ⟨_, _, e17, _⟩
    · exact ⟨h3.1, fun z => by rw [e17] at z; exact absurd z (by decide)⟩
    · exact ScI_f h3 e17 u95 u76 u77
  · rw [s10]
    rcases g with ⟨_, _, _, e16, _, _, _, _, g0, g1, _⟩ | ⟨_, e16, _, _, eg, _⟩
    · have N := NaI_f (h4 (e16.symm.trans z)) u39 u40 u41 u42
      exact ⟨N.1.trans g0.symm, N.2.1.trans g1.symm, N.2.2⟩
    · rw [eg]; exact NaI_f (h4 (e16.symm.trans z)) u39 u40 u41 u42
  · rcases g with ⟨_, _, _, _, e17, _⟩ | ⟨_, e16, e17, _⟩
    · rw [e17] at z; exact absurd z (by decide)
    · exact e16.trans (h5 (e17.symm.trans z))
theorem RCv_c {st st2 : Nat → cf_O} {om : cf_O} {r : Int32 × cf_O × cf_O × cf_O × cf_O × cf_O} {rm : Int32 × cf_O} (h : RCvQ st om) (c : CbE (st 8) (st 12) om r rm) (e16 : (st2 0).1 16 = (st 0).1 16) (s0 : st2 0 = r.2.1) (h16 : (st 0).1 16 = 0 ∨ (st 0).1 16 = 1) (c17 : (r.2.1.1 30 = 0 ∧ ¬ (st 0).1 16 = 0) ∨ (¬ r.2.1.1 30 = 0 ∧ r.2.1.1 17 = (st 0).1 17)) (s3 : st2 3 = r.2.2.1) (s6 : st2 6 = r.2.2.2.2.1) (s8 : st2 8 = r.2.2.2.2.2) (s12 : st2 12 = st 12) (sb : st2 16 = st 16) (s10 : st2 10 = st 10) (u39 : rm.2.1 39 = om.1 39) (u40 : rm.2.1 40 = om.1 40) (u95 : rm.2.1 95 = om.1 95) (u41 : rm.2.2.1 41 = om.2.1 41) (u42 : rm.2.2.1 42 = om.2.1 42) : RCvQ st2 rm.2 := by
  obtain ⟨h1, h2, h3, h4, h5⟩ := h
  obtain ⟨_, c2, c3, c4⟩ := c
  refine ⟨by rw [s0, s12, s6]; exact c2, by rw [s3]; exact c3, ?_, fun z => by rw [s10, s12]; exact NaI_f (h4 (e16.symm.trans z)) u39 u40 u41 u42, fun z => ?_⟩
  · rw [s0, s8, sb]
    rcases c4 with ⟨_, y⟩ | ⟨y, y1, y2, y3⟩
    · exact ⟨h3.1, fun _ => Or.inl y⟩
    · rcases c17 with ⟨w, _⟩ | ⟨_, w⟩
      · exact absurd w y
      · rw [y1]; exact ScI_f h3 w u95 y2 y3
  · rcases c17 with ⟨_, w⟩ | ⟨_, w⟩
    · exact e16.trans (h16.resolve_left w)
    · rw [s0] at z
      exact e16.trans (h5 (w.symm.trans z))
theorem RCv_m {st st2 : Nat → cf_O} {om om2 : cf_O} (h : RCvQ st om) (c : (om2.1 64 = om.1 64 ∧ (om.1 64 = 0 ∨ (om.1 64 = 1 ∧ CvS (st 12) (st 6) om2))) ∧ om2.1 76 = om.1 76 ∧ om2.2.1 77 = om.2.1 77) (e16 : (st2 0).1 16 = (st 0).1 16) (e17 : (st2 0).1 17 = (st 0).1 17) (s12 : st2 12 = st 12) (s6 : st2 6 = st 6) (s8 : st2 8 = st 8) (sb : st2 16 = st 16) (s10 : st2 10 = st 10) (s3 : (st2 3).2.1 1 0 = 0) (u39 : om2.1 39 = om.1 39) (u40 : om2.1 40 = om.1 40) (u95 : om2.1 95 = om.1 95) (u41 : om2.2.1 41 = om.2.1 41) (u42 : om2.2.1 42 = om.2.1 42) : RCvQ st2 om2 := by
  obtain ⟨h1, h2, h3, h4, h5⟩ := h
  unfold RCvQ CvI
  rw [s12, s6, s8, sb, s10, e17, e16]
  refine ⟨⟨by rw [c.1.1]; exact h1.1, ?_⟩, s3, ScI_f h3 e17 u95 c.2.1 c.2.2, fun z => NaI_f (h4 z) u39 u40 u41 u42, h5⟩
  rw [h1.1]; exact c.1.2
theorem RCv_s {st st2 : Nat → cf_O} {om : cf_O} {rm : Int32 × cf_O} (h : RCvQ st om) (k : ∃ k : Int32, rm.2 = fp om 0 k) (c : ScI (st2 0) (st2 8) (st2 16) rm.2) (e16 : (st2 0).1 16 = (st 0).1 16) (e17 : (st2 0).1 17 = (st 0).1 17) (s12 : st2 12 = st 12) (s6 : st2 6 = st 6) (s10 : st2 10 = st 10) (s3 : st2 3 = st 3) : RCvQ st2 rm.2 := by
  obtain ⟨h1, h2, h3, h4, h5⟩ := h
  obtain ⟨k, ek⟩ := k
  refine ⟨?_, by rw [s3]; exact h2, c, fun z => ?_, fun z => e16.trans (h5 (e17.symm.trans z))⟩
  · unfold CvI
    rw [s12, s6, e17, ek]
    exact ⟨h1.1, h1.2.imp id (fun z => ⟨z.1, CvS_0 z.2⟩)⟩
  · rw [s10, s12, ek]
    exact NaI_f (h4 (e16.symm.trans z)) rfl rfl rfl rfl
