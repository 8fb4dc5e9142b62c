theorem bal_d {o0 o1 o2 o3 o4 o5 : cf_O} {r : Int32 × cf_O × cf_O × cf_O × cf_O × cf_O × cf_O} (h : fF_balance o0 o1 o2 o3 o4 o5 = some r) : r.2.2.2.1.2.1 1 0 = o2.2.1 1 0 := by
  rcases bal_c h with ⟨_, e⟩ | ⟨_, q, _, ⟨_, e⟩ | ⟨_, e⟩⟩
  · rw [e]
  · rw [e]; rfl
  · rw [e]
theorem red_d {o0 o1 o2 o3 o4 o5 : cf_O} {r : Int32 × cf_O × cf_O × cf_O × cf_O × cf_O × cf_O} (h : fF_reduce o0 o1 o2 o3 o4 o5 = some r) : r.2.2.2.1.2.1 1 0 = o2.2.1 1 0 := by
  rcases red_c h with ⟨_, e⟩ | ⟨_, p, q, _, _, ⟨_, e⟩ | ⟨_, e⟩⟩
  · rw [e]
  · rw [e]; rfl
  · rw [e]
theorem rew_d {o0 o1 o2 o3 o4 o5 o6 : cf_O} {r : Int32 × cf_O × cf_O × cf_O × cf_O × cf_O × cf_O × cf_O} (h16 : o0.1 16 = 0 ∨ (o0.1 16 = 1 ∧ ∃ b n : Nat, GW b n o5)) (h : fF_rewrite o0 o1 o2 o3 o4 o5 o6 = some r) : r.2.2.2.1.2.1 1 0 = o2.2.1 1 0 := by
  rcases rew_c h with ⟨_, e⟩ | ⟨a, p, hp, h⟩
  · rw [e]
  · obtain ⟨_, b, n, G⟩ := h16.resolve_left a
    have d := find_d G hp
    rcases h with ⟨_, e⟩ | ⟨_, q, _, ⟨_, e⟩ | ⟨_, e⟩⟩
    · rw [e]; exact d
    · rw [e]; exact d
    · rw [e]; exact d
theorem map_d {o0 o1 o2 o3 o4 o5 o6 o7 : cf_O} {r : Int32 × cf_O × cf_O × cf_O × cf_O × cf_O} (h16 : o0.1 16 = 0 ∨ (o0.1 16 = 1 ∧ ∃ b n : Nat, GW b n o5)) (h : fF_map o0 o1 o2 o3 o4 o5 o6 o7 = some r) : r.2.2.1.2.1 1 0 = o1.2.1 1 0 := by
  unfold fF_map fF_map_0 at h
  have k21 : fF_map_21 o0 o1 o2 o3 o4 o5 o6 o7 = some r → r.2.2.1.2.1 1 0 = o1.2.1 1 0 := fun h => by
    unfold fF_map_21 fF_map_22 at h
    rw [if_pos rfl] at h
    rw [← Option.some.inj h]
  rcases ifc h with ⟨_, h⟩ | ⟨a, h⟩
  · exact k21 h
  · obtain ⟨_, b, n, G⟩ := h16.resolve_left a
    rcases ifc h with ⟨_, h⟩ | ⟨_, h⟩
    · exact k21 h
    · unfold fF_map_22 at h
      rw [if_neg (by decide)] at h
      unfold fF_map_25 at h
      obtain ⟨p, hp, h⟩ := bd h
      have Cp := find_d G hp
      unfold fF_map_37 at h
      rcases ifc h with ⟨_, h⟩ | ⟨_, h⟩
      · rw [← Option.some.inj h]; exact Cp
      · unfold fF_map_40 at h
        rw [opk] at h
        obtain ⟨q, hq, h⟩ := bd h
        unfold fF_map_72 at h
        have h := (ifn h).2
        rw [opk] at h
        rcases ifc h with ⟨_, h⟩ | ⟨_, h⟩
        · unfold fF_map_93 at h
          rw [← Option.some.inj h]; exact Cp
        · unfold fF_map_93 at h
          rw [← Option.some.inj h]; exact Cp
theorem cvb_17 {v1 v2 : Int32} {o0 o1 o2 o3 o4 o5 o6 : cf_O} {r : Int32 × cf_O × cf_O × cf_O × cf_O × cf_O} (h : fF_coverBy v1 v2 o0 o1 o2 o3 o4 o5 o6 = some r) : (r.2.1.1 30 = 0 ∧ ¬ o0.1 16 = 0) ∨ (¬ r.2.1.1 30 = 0 ∧ r.2.1.1 17 = o0.1 17) := by
  unfold fF_coverBy fF_coverBy_0 at h
  rcases ifc h with ⟨_, h⟩ | ⟨a, h⟩
  · rw [← Option.some.inj h]; exact Or.inr ⟨by show ¬ (2 : Int32) = 0; decide, rfl⟩
  · unfold fF_coverBy_7 at h
    rcases ifc h with ⟨_, h⟩ | ⟨_, h⟩
    · rw [← Option.some.inj h]; exact Or.inr ⟨by show ¬ (1 : Int32) = 0; decide, rfl⟩
    rcases ifc h with ⟨_, h⟩ | ⟨_, h⟩
    · obtain ⟨p, hp, h⟩ := bd h
      unfold fF_coverBy_37 at h
      rcases ifc h with ⟨_, h⟩ | ⟨_, h⟩
      · rw [← Option.some.inj h]; exact Or.inr ⟨by show ¬ (4 : Int32) = 0; decide, rfl⟩
      · unfold fF_coverBy_40 at h
        obtain ⟨q, hq, h⟩ := bd h
        unfold fF_coverBy_60 at h
        rw [opk, opk] at h
        rw [← Option.some.inj h]; exact Or.inl ⟨rfl, a⟩
    · rw [← Option.some.inj h]; exact Or.inr ⟨by show ¬ (1 : Int32) = 0; decide, rfl⟩
theorem cov_17 {v1 : Int32} {o0 o1 o2 o3 o4 o5 o6 : cf_O} {r : Int32 × cf_O × cf_O × cf_O × cf_O × cf_O} (h : fF_cover v1 o0 o1 o2 o3 o4 o5 o6 = some r) : (r.2.1.1 30 = 0 ∧ ¬ o0.1 16 = 0) ∨ (¬ r.2.1.1 30 = 0 ∧ r.2.1.1 17 = o0.1 17) := by
  unfold fF_cover fF_cover_0 at h
  obtain ⟨q, hq, h⟩ := bd h
  have z := cvb_17 hq
  rcases ifc h with ⟨e, h⟩ | ⟨_, h⟩
  · unfold fF_cover_6 at h
    rw [← Option.some.inj h]
    rcases z with z | ⟨z, _⟩
    · exact Or.inl ⟨rfl, z.2⟩
    · exact absurd e z
  · rw [← Option.some.inj h]; exact z
theorem cvf_17 {v1 : Int32} {o0 o1 o2 o3 o4 o5 o6 : cf_O} {r : Int32 × cf_O × cf_O × cf_O × cf_O × cf_O} (h : fF_coverFew v1 o0 o1 o2 o3 o4 o5 o6 = some r) : (r.2.1.1 30 = 0 ∧ ¬ o0.1 16 = 0) ∨ (¬ r.2.1.1 30 = 0 ∧ r.2.1.1 17 = o0.1 17) := by
  unfold fF_coverFew fF_coverFew_0 at h
  obtain ⟨q, hq, h⟩ := bd h
  have z := cvb_17 hq
  rcases ifc h with ⟨e, h⟩ | ⟨_, h⟩
  · unfold fF_coverFew_6 at h
    rw [← Option.some.inj h]
    rcases z with z | ⟨z, _⟩
    · exact Or.inl ⟨rfl, z.2⟩
    · exact absurd e z
  · rw [← Option.some.inj h]; exact z
theorem RCv_r {st st2 : Nat → cf_O} {om : cf_O} {r : Int32 × cf_O × cf_O × cf_O × cf_O × cf_O × cf_O × cf_O × cf_O} {rm : Int32 × cf_O} (h : RCvQ st om) (g : RdC (st 0) (st 10) (st 12) om r rm) (s0 : st2 0 = r.2.1) (s10 : st2 10 = r.2.2.2.2.2.1) (s12 : st2 12 = r.2.2.2.2.2.2.2.1) (s6 : st2 6 = st 6) (s8 : st2 8 = st 8) (sb : st2 16 = st 16) (s3 : (st2 3).2.1 1 0 = 0) : RCvQ st2 rm.2 := by
  have kp : ∀ (f : Fr (fr_M [15, 30] [] []) (st 0) r.2.1) (e10 : r.2.2.2.2.2.1 = st 10) (e12 : r.2.2.2.2.2.2.2.1 = st 12) (m : MKp om rm.2), RCvQ st2 rm.2 := fun f e10 e12 m => by
    unfold MKp at m
    exact RCv_k h (by rw [s0, f.1 16 rfl]) (by rw [s0, f.1 17 rfl]) (s12.trans e12) s6 s8 sb (s10.trans e10) s3 (m.1 39 rfl) (m.1 40 rfl) (m.1 64 rfl) (m.1 65 rfl) (m.1 66 rfl) (m.1 73 rfl) (m.1 76 rfl) (m.1 95 rfl) (m.2.1 41 rfl) (m.2.1 42 rfl) (m.2.1 58 rfl) (m.2.1 59 rfl) (m.2.1 62 rfl) (m.2.1 63 rfl) (m.2.1 74 rfl) (m.2.1 77 rfl) (m.2.2 4 rfl)
  rcases g with ⟨_, _, _, _, ⟨_, f, e10, e12, m⟩ | ⟨_, a16, a17, _, _, a64, _, _, N⟩⟩ | ⟨_, _, _, _, f, e10, e12, m⟩
  · exact kp f e10 e12 m
  · obtain ⟨h1, h2, h3, h4, h5⟩ := h
    refine ⟨⟨by rw [s0, a17, a64], Or.inl (by rw [s0]; exact a17)⟩, s3, ⟨by rw [sb]; exact h3.1, fun z => by rw [s0, a17] at z; exact absurd z (by decide)⟩, fun _ => by rw [s10, s12]; exact N, fun z => by rw [s0, a17] at z; exact absurd z (by decide)⟩
  · exact kp f e10 e12 m
