theorem RMp_l {st st2 : Nat → cf_O} {om : cf_O} {r : Int32 × cf_O × cf_O × cf_O × cf_O} {rm : Int32 × cf_O} (h : RMpQ st om) (h1 : fF_library (st 0) (st 1) (st 14) (st 15) = some r) (h2 : fM_library om = some rm) (ea : r.1 = rm.1) (RL : RLb r.2.2.2.1 rm.2) (e16 : (st2 0).1 16 = (st 0).1 16) (s0 : st2 0 = r.2.1) (s14 : st2 14 = r.2.2.2.1) (s7 : st2 7 = st 7) (s9 : st2 9 = st 9) (s12 : st2 12 = st 12) (s17 : st2 17 = st 17) : RMpQ st2 rm.2 := by
  obtain ⟨w1, w2, w3, w4⟩ := lib_w h1 RL
  rcases lib_m h2 with ⟨z, z85⟩ | ⟨z, q, hq, f⟩
  · have r0 := ea.trans z
    have e18 : (st2 0).1 18 = 0 := by rw [s0]; exact w3 r0
    obtain ⟨_, h2', _, _⟩ := h
    exact ⟨⟨by rw [e18, z85], Or.inl e18⟩, ⟨by rw [s17]; exact h2'.1, fun y => by rw [e18] at y; exact absurd y (by decide)⟩, fun y => by rw [s14]; exact ⟨w1 r0 y, lib_c h1 r0⟩, fun y => by rw [e18] at y; exact absurd y (by decide)⟩
  · have r0 : ¬ r.1 = 0 := fun y => z (ea.symm.trans y)
    have fq := wF_M_readLibrary hq
    have F : Fr (fr_M [0, 3, 5, 6, 7, 79] [8, 9, 80, 81] []) om rm.2 := fr_tr (fr_tr (fr_fp fr_rfl rfl) fq rfl rfl rfl) f rfl rfl rfl
    exact RMp_k h e16 (by rw [s0]; exact w4 r0) s12 s7 (by rw [s14]; exact (w2 r0).1) s9 s17 (F.1 78 rfl) (F.1 82 rfl) (F.1 85 rfl) (F.1 93 rfl) (F.1 96 rfl) (F.2.1 41 rfl) (F.2.1 42 rfl) (F.2.1 83 rfl) (F.2.1 84 rfl) (F.2.1 86 rfl) (F.2.1 87 rfl) (F.2.1 94 rfl) (F.2.1 97 rfl) (F.2.2 4 rfl)
theorem RMp_r {st st2 : Nat → cf_O} {om : cf_O} {r : Int32 × cf_O × cf_O × cf_O × cf_O × cf_O × cf_O × cf_O × cf_O} {rm : Int32 × cf_O} (h : RMpQ st om) (g : RdC (st 0) (st 10) (st 12) om r rm) (s0 : st2 0 = r.2.1) (s12 : st2 12 = r.2.2.2.2.2.2.2.1) (s7 : st2 7 = st 7) (s9 : st2 9 = st 9) (s14 : st2 14 = st 14) (s17 : st2 17 = st 17) (u78 : rm.2.1 78 = om.1 78) : RMpQ st2 rm.2 := by
  have kp : ∀ (f : Fr (fr_M [15, 30] [] []) (st 0) r.2.1) (e : r.2.2.2.2.2.2.2.1 = st 12) (m : MKp om rm.2), RMpQ st2 rm.2 := fun f e F => by
    unfold MKp at F
    exact RMp_k h (by rw [s0]; exact f.1 16 rfl) (by rw [s0]; exact f.1 18 rfl) (by rw [s12]; exact e) s7 s14 s9 s17 (F.1 78 rfl) (F.1 82 rfl) (F.1 85 rfl) (F.1 93 rfl) (F.1 96 rfl) (F.2.1 41 rfl) (F.2.1 42 rfl) (F.2.1 83 rfl) (F.2.1 84 rfl) (F.2.1 86 rfl) (F.2.1 87 rfl) (F.2.1 94 rfl) (F.2.1 97 rfl) (F.2.2 4 rfl)
  rcases g with ⟨_, _, _, _, ⟨_, f, _, e, m⟩ | ⟨_, _, _, e18, _, _, e85, _⟩⟩ | ⟨_, _, _, _, f, _, e, m⟩
  · exact kp f e m
  · have e18 : (st2 0).1 18 = 0 := by rw [s0]; exact e18
    obtain ⟨_, h2', h3', _⟩ := h
    exact ⟨⟨by rw [e18, e85], Or.inl e18⟩, ⟨by rw [s17]; exact h2'.1, fun y => by rw [e18] at y; exact absurd y (by decide)⟩, by rw [u78, s14]; exact h3', fun y => by rw [e18] at y; exact absurd y (by decide)⟩
  · exact kp f e m
theorem RMp_0 {st : Nat → cf_O} {om : cf_O} (e18 : (st 0).1 18 = 0) (e85 : om.1 85 = 0) (e78 : om.1 78 = 0) (S : SbQ (st 17) []) : RMpQ st om := ⟨⟨by rw [e18, e85], Or.inl e18⟩, ⟨⟨[], S⟩, fun y => by rw [e18] at y; exact absurd y (by decide)⟩, fun y => by rw [e78] at y; exact absurd y (by decide), fun y => by rw [e18] at y; exact absurd y (by decide)⟩
theorem RCv_0 {st : Nat → cf_O} {om : cf_O} (e17 : (st 0).1 17 = 0) (e64 : om.1 64 = 0) (e16 : (st 0).1 16 = 0) (d0 : (st 3).2.1 1 0 = 0) (S : SbQ (st 16) []) : RCvQ st om := ⟨⟨by rw [e17, e64], Or.inl e17⟩, d0, ⟨⟨[], S⟩, fun y => by rw [e17] at y; exact absurd y (by decide)⟩, fun y => by rw [e16] at y; exact absurd y (by decide), fun y => by rw [e17] at y; exact absurd y (by decide)⟩
