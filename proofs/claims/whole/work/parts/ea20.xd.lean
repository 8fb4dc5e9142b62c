theorem wB_Cu_add_46_o0 {O : cf_O} {v1 : Int64} {v3 : Int64} {o0 : cf_O} {r : (cf_O)} (F : Fr (fr_M [3, 4, 5] [] [4, 5]) O o0) (h : fCu_add_46 v1 v3 o0 = some r) : Fr (fr_M [3, 4, 5] [] [4, 5]) O r := by
  unfold fCu_add_46 at h
  have h := (ifn h).2
  obtain ⟨o_2, eo_2, h⟩ := opq h
  have Fo_2 : Fr (fr_M [3, 4, 5] [] [4, 5]) O o_2 := by rw [eo_2]; exact fr_yp F rfl
  have h := (ifn h).2
  obtain ⟨o_5, eo_5, h⟩ := opq h
  have Fo_5 : Fr (fr_M [3, 4, 5] [] [4, 5]) O o_5 := by rw [eo_5]; exact fr_yp Fo_2 rfl
  obtain ⟨x_7, _, h⟩ := opq h
  obtain ⟨o_8, eo_8, h⟩ := opq h
  have Fo_8 : Fr (fr_M [3, 4, 5] [] [4, 5]) O o_8 := by rw [eo_8]; exact fr_fp Fo_5 rfl
  rw [← Option.some.inj h]
  exact Fo_8
theorem wB_Cu_add_29_o0 {O : cf_O} {v1 : Int64} {v3 : Int64} {o0 : cf_O} {r : (cf_O)} (F : Fr (fr_M [3, 4, 5] [] [4, 5]) O o0) (h : fCu_add_29 v1 v3 o0 = some r) : Fr (fr_M [3, 4, 5] [] [4, 5]) O r := by
  unfold fCu_add_29 at h
  obtain ⟨x_1, _, h⟩ := opq h
  have h := (ifn h).2
  obtain ⟨o_3, eo_3, h⟩ := opq h
  have Fo_3 : Fr (fr_M [3, 4, 5] [] [4, 5]) O o_3 := by rw [eo_3]; exact fr_gp F rfl rfl
  exact wB_Cu_add_46_o0 Fo_3 h
theorem wB_Cu_add_0_o0 {O : cf_O} {v1 : Int64} {v3 : Int64} {o0 : cf_O} {r : (cf_O)} (F : Fr (fr_M [3, 4, 5] [] [4, 5]) O o0) (h : fCu_add_0 v1 v3 o0 = some r) : Fr (fr_M [3, 4, 5] [] [4, 5]) O r := by
  unfold fCu_add_0 at h
  have h := (ifn h).2
  obtain ⟨x_2, _, h⟩ := opq h
  rcases ifc h with ⟨_, h⟩ | ⟨_, h⟩
  · obtain ⟨x_4, _, h⟩ := opq h
    have h := (ifn h).2
    obtain ⟨o_6, eo_6, h⟩ := opq h
    have Fo_6 : Fr (fr_M [3, 4, 5] [] [4, 5]) O o_6 := by rw [eo_6]; exact fr_gp F rfl rfl
    exact wB_Cu_add_29_o0 Fo_6 h
  · exact wB_Cu_add_46_o0 F h
theorem wF_Cu_add_o0 {v1 : Int64} {v3 : Int64} {o0 : cf_O} {r : (cf_O)} (h : fCu_add v1 v3 o0 = some r) : Fr (fr_M [3, 4, 5] [] [4, 5]) o0 r := by
  unfold fCu_add at h
  exact wB_Cu_add_0_o0 fr_rfl h
theorem wB_Cu_joinAll_191_o0 {O : cf_O} {rc : Nat → Int32 → Int32 → Int32 → Int32 → Int64 → Int32 → Int32 → cf_O → Option ((Int32 × cf_O))} {o0 : cf_O} {r : (Int32 × cf_O)} (H : ∀ (k : Nat) (u1i : Int32) (u2i : Int32) (u3i : Int32) (u4i : Int32) (u5l : Int64) (u7i : Int32) (u8i : Int32) (o0 : cf_O) (r : (Int32 × cf_O)), Fr (fr_M [3, 4, 5] [] [4, 5]) O o0 → rc k u1i u2i u3i u4i u5l u7i u8i o0 = some r → Fr (fr_M [3, 4, 5] [] [4, 5]) O r.2) (F : Fr (fr_M [3, 4, 5] [] [4, 5]) O o0) (h : fCu_joinAll_191 rc o0 = some r) : Fr (fr_M [3, 4, 5] [] [4, 5]) O r.2 := by
  unfold fCu_joinAll_191 at h
  rw [← Option.some.inj h]
  exact F
theorem wB_Cu_joinAll_185_o0 {O : cf_O} {rc : Nat → Int32 → Int32 → Int32 → Int32 → Int64 → Int32 → Int32 → cf_O → Option ((Int32 × cf_O))} {v1 : Int32} {v2 : Int32} {v3 : Int32} {v4 : Int32} {v5 : Int64} {v7 : Int32} {o0 : cf_O} {r : (Int32 × cf_O)} (H : ∀ (k : Nat) (u1i : Int32) (u2i : Int32) (u3i : Int32) (u4i : Int32) (u5l : Int64) (u7i : Int32) (u8i : Int32) (o0 : cf_O) (r : (Int32 × cf_O)), Fr (fr_M [3, 4, 5] [] [4, 5]) O o0 → rc k u1i u2i u3i u4i u5l u7i u8i o0 = some r → Fr (fr_M [3, 4, 5] [] [4, 5]) O r.2) (F : Fr (fr_M [3, 4, 5] [] [4, 5]) O o0) (h : fCu_joinAll_185 rc v1 v2 v3 v4 v5 v7 o0 = some r) : Fr (fr_M [3, 4, 5] [] [4, 5]) O r.2 := by
  unfold fCu_joinAll_185 at h
  obtain ⟨x_1, _, h⟩ := opq h
  exact H _ _ _ _ _ _ _ _ _ _ F h
theorem wB_Cu_joinAll_179_o0 {O : cf_O} {rc : Nat → Int32 → Int32 → Int32 → Int32 → Int64 → Int32 → Int32 → cf_O → Option ((Int32 × cf_O))} {v1 : Int32} {v2 : Int32} {v3 : Int32} {v4 : Int32} {v5 : Int64} {v7 : Int32} {v8 : Int32} {o0 : cf_O} {r : (Int32 × cf_O)} (H : ∀ (k : Nat) (u1i : Int32) (u2i : Int32) (u3i : Int32) (u4i : Int32) (u5l : Int64) (u7i : Int32) (u8i : Int32) (o0 : cf_O) (r : (Int32 × cf_O)), Fr (fr_M [3, 4, 5] [] [4, 5]) O o0 → rc k u1i u2i u3i u4i u5l u7i u8i o0 = some r → Fr (fr_M [3, 4, 5] [] [4, 5]) O r.2) (F : Fr (fr_M [3, 4, 5] [] [4, 5]) O o0) (h : fCu_joinAll_179 rc v1 v2 v3 v4 v5 v7 v8 o0 = some r) : Fr (fr_M [3, 4, 5] [] [4, 5]) O r.2 := by
  unfold fCu_joinAll_179 at h
  obtain ⟨x_1, _, h⟩ := opq h
  exact H _ _ _ _ _ _ _ _ _ _ F h
theorem wB_Cu_joinAll_150_o0 {O : cf_O} {rc : Nat → Int32 → Int32 → Int32 → Int32 → Int64 → Int32 → Int32 → cf_O → Option ((Int32 × cf_O))} {v1 : Int32} {v2 : Int32} {v3 : Int32} {v4 : Int32} {v5 : Int64} {v7 : Int32} {v8 : Int32} {v9 : Int64} {v11 : Int64} {s0 : Int32} {o0 : cf_O} {r : (Int32 × cf_O)} (H : ∀ (k : Nat) (u1i : Int32) (u2i : Int32) (u3i : Int32) (u4i : Int32) (u5l : Int64) (u7i : Int32) (u8i : Int32) (o0 : cf_O) (r : (Int32 × cf_O)), Fr (fr_M [3, 4, 5] [] [4, 5]) O o0 → rc k u1i u2i u3i u4i u5l u7i u8i o0 = some r → Fr (fr_M [3, 4, 5] [] [4, 5]) O r.2) (F : Fr (fr_M [3, 4, 5] [] [4, 5]) O o0) (h : fCu_joinAll_150 rc v1 v2 v3 v4 v5 v7 v8 v9 v11 s0 o0 = some r) : Fr (fr_M [3, 4, 5] [] [4, 5]) O r.2 := by
  unfold fCu_joinAll_150 at h
  rcases ifc h with ⟨_, h⟩ | ⟨_, h⟩
  · obtain ⟨x_2, _, h⟩ := opq h
    rcases ifc h with ⟨_, h⟩ | ⟨_, h⟩
    · rw [← Option.some.inj h]
      exact F
    · obtain ⟨q_4, hq_4, h⟩ := bd h
      have Fq_4 : Fr (fr_M [3, 4, 5] [] [4, 5]) O q_4 := fr_tr F (wF_Cu_add_o0 hq_4) rfl rfl rfl
      exact wB_Cu_joinAll_179_o0 H Fq_4 h
  · exact wB_Cu_joinAll_179_o0 H F h
theorem wB_Cu_joinAll_124_o0 {O : cf_O} {rc : Nat → Int32 → Int32 → Int32 → Int32 → Int64 → Int32 → Int32 → cf_O → Option ((Int32 × cf_O))} {v1 : Int32} {v2 : Int32} {v3 : Int32} {v4 : Int32} {v5 : Int64} {v7 : Int32} {v8 : Int32} {v9 : Int64} {s0 : Int64} {o0 : cf_O} {r : (Int32 × cf_O)} (H : ∀ (k : Nat) (u1i : Int32) (u2i : Int32) (u3i : Int32) (u4i : Int32) (u5l : Int64) (u7i : Int32) (u8i : Int32) (o0 : cf_O) (r : (Int32 × cf_O)), Fr (fr_M [3, 4, 5] [] [4, 5]) O o0 → rc k u1i u2i u3i u4i u5l u7i u8i o0 = some r → Fr (fr_M [3, 4, 5] [] [4, 5]) O r.2) (F : Fr (fr_M [3, 4, 5] [] [4, 5]) O o0) (h : fCu_joinAll_124 rc v1 v2 v3 v4 v5 v7 v8 v9 s0 o0 = some r) : Fr (fr_M [3, 4, 5] [] [4, 5]) O r.2 := by
  unfold fCu_joinAll_124 at h
  obtain ⟨x_1, _, h⟩ := opq h
  obtain ⟨x_2, _, h⟩ := opq h
  obtain ⟨x_3, _, h⟩ := opq h
  obtain ⟨x_4, _, h⟩ := opq h
  rcases ifc h with ⟨_, h⟩ | ⟨_, h⟩
  · exact wB_Cu_joinAll_179_o0 H F h
  · obtain ⟨q_6, _, h⟩ := bd h
    exact wB_Cu_joinAll_150_o0 H F h
theorem wB_Cu_joinAll_98_o0 {O : cf_O} {rc : Nat → Int32 → Int32 → Int32 → Int32 → Int64 → Int32 → Int32 → cf_O → Option ((Int32 × cf_O))} {v1 : Int32} {v2 : Int32} {v3 : Int32} {v4 : Int32} {v5 : Int64} {v7 : Int32} {v8 : Int32} {v9 : Int64} {s0 : Int32} {o0 : cf_O} {r : (Int32 × cf_O)} (H : ∀ (k : Nat) (u1i : Int32) (u2i : Int32) (u3i : Int32) (u4i : Int32) (u5l : Int64) (u7i : Int32) (u8i : Int32) (o0 : cf_O) (r : (Int32 × cf_O)), Fr (fr_M [3, 4, 5] [] [4, 5]) O o0 → rc k u1i u2i u3i u4i u5l u7i u8i o0 = some r → Fr (fr_M [3, 4, 5] [] [4, 5]) O r.2) (F : Fr (fr_M [3, 4, 5] [] [4, 5]) O o0) (h : fCu_joinAll_98 rc v1 v2 v3 v4 v5 v7 v8 v9 s0 o0 = some r) : Fr (fr_M [3, 4, 5] [] [4, 5]) O r.2 := by
  unfold fCu_joinAll_98 at h
  rcases ifc h with ⟨_, h⟩ | ⟨_, h⟩
  · have h := (ifn h).2
    obtain ⟨x_3, _, h⟩ := opq h
    have h := (ifn h).2
    obtain ⟨x_5, _, h⟩ := opq h
    obtain ⟨q_6, _, h⟩ := bd h
    exact wB_Cu_joinAll_124_o0 H F h
  · exact wB_Cu_joinAll_124_o0 H F h
theorem wB_Cu_joinAll_50_o0 {O : cf_O} {rc : Nat → Int32 → Int32 → Int32 → Int32 → Int64 → Int32 → Int32 → cf_O → Option ((Int32 × cf_O))} {v1 : Int32} {v2 : Int32} {v3 : Int32} {v4 : Int32} {v5 : Int64} {v7 : Int32} {v8 : Int32} {o0 : cf_O} {r : (Int32 × cf_O)} (H : ∀ (k : Nat) (u1i : Int32) (u2i : Int32) (u3i : Int32) (u4i : Int32) (u5l : Int64) (u7i : Int32) (u8i : Int32) (o0 : cf_O) (r : (Int32 × cf_O)), Fr (fr_M [3, 4, 5] [] [4, 5]) O o0 → rc k u1i u2i u3i u4i u5l u7i u8i o0 = some r → Fr (fr_M [3, 4, 5] [] [4, 5]) O r.2) (F : Fr (fr_M [3, 4, 5] [] [4, 5]) O o0) (h : fCu_joinAll_50 rc v1 v2 v3 v4 v5 v7 v8 o0 = some r) : Fr (fr_M [3, 4, 5] [] [4, 5]) O r.2 := by
  unfold fCu_joinAll_50 at h
  obtain ⟨x_1, _, h⟩ := opq h
  have h := (ifn h).2
  obtain ⟨x_3, _, h⟩ := opq h
  rcases ifc h with ⟨_, h⟩ | ⟨_, h⟩
  · exact wB_Cu_joinAll_185_o0 H F h
  · have h := (ifn h).2
    obtain ⟨x_6, _, h⟩ := opq h
    obtain ⟨x_7, _, h⟩ := opq h
    rcases ifc h with ⟨_, h⟩ | ⟨_, h⟩
    · exact wB_Cu_joinAll_185_o0 H F h
    · have h := (ifn h).2
      obtain ⟨x_10, _, h⟩ := opq h
      have h := (ifn h).2
      obtain ⟨x_12, _, h⟩ := opq h
      obtain ⟨x_13, _, h⟩ := opq h
      obtain ⟨q_14, _, h⟩ := bd h
      exact wB_Cu_joinAll_98_o0 H F h
theorem wB_Cu_joinAll_16_o0 {O : cf_O} {rc : Nat → Int32 → Int32 → Int32 → Int32 → Int64 → Int32 → Int32 → cf_O → Option ((Int32 × cf_O))} {v1 : Int32} {v2 : Int32} {v3 : Int32} {v4 : Int32} {v5 : Int64} {v7 : Int32} {o0 : cf_O} {r : (Int32 × cf_O)} (H : ∀ (k : Nat) (u1i : Int32) (u2i : Int32) (u3i : Int32) (u4i : Int32) (u5l : Int64) (u7i : Int32) (u8i : Int32) (o0 : cf_O) (r : (Int32 × cf_O)), Fr (fr_M [3, 4, 5] [] [4, 5]) O o0 → rc k u1i u2i u3i u4i u5l u7i u8i o0 = some r → Fr (fr_M [3, 4, 5] [] [4, 5]) O r.2) (F : Fr (fr_M [3, 4, 5] [] [4, 5]) O o0) (h : fCu_joinAll_16 rc v1 v2 v3 v4 v5 v7 o0 = some r) : Fr (fr_M [3, 4, 5] [] [4, 5]) O r.2 := by
  unfold fCu_joinAll_16 at h
  obtain ⟨x_1, _, h⟩ := opq h
  have h := (ifn h).2
  obtain ⟨x_3, _, h⟩ := opq h
  rcases ifc h with ⟨_, h⟩ | ⟨_, h⟩
  · exact wB_Cu_joinAll_191_o0 H F h
  · have h := (ifn h).2
    obtain ⟨x_6, _, h⟩ := opq h
    obtain ⟨x_7, _, h⟩ := opq h
    rcases ifc h with ⟨_, h⟩ | ⟨_, h⟩
    · exact wB_Cu_joinAll_191_o0 H F h
    · have h := (ifn h).2
      obtain ⟨x_10, _, h⟩ := opq h
      exact H _ _ _ _ _ _ _ _ _ _ F h
theorem wB_Cu_joinAll_0_o0 {O : cf_O} {rc : Nat → Int32 → Int32 → Int32 → Int32 → Int64 → Int32 → Int32 → cf_O → Option ((Int32 × cf_O))} {v1 : Int32} {v2 : Int32} {v3 : Int32} {v4 : Int32} {o0 : cf_O} {r : (Int32 × cf_O)} (H : ∀ (k : Nat) (u1i : Int32) (u2i : Int32) (u3i : Int32) (u4i : Int32) (u5l : Int64) (u7i : Int32) (u8i : Int32) (o0 : cf_O) (r : (Int32 × cf_O)), Fr (fr_M [3, 4, 5] [] [4, 5]) O o0 → rc k u1i u2i u3i u4i u5l u7i u8i o0 = some r → Fr (fr_M [3, 4, 5] [] [4, 5]) O r.2) (F : Fr (fr_M [3, 4, 5] [] [4, 5]) O o0) (h : fCu_joinAll_0 rc v1 v2 v3 v4 o0 = some r) : Fr (fr_M [3, 4, 5] [] [4, 5]) O r.2 := by
  unfold fCu_joinAll_0 at h
  obtain ⟨x_1, _, h⟩ := opq h
  obtain ⟨x_2, _, h⟩ := opq h
  have h := (ifn h).2
  obtain ⟨x_4, _, h⟩ := opq h
  exact H _ _ _ _ _ _ _ _ _ _ F h
theorem wG_Cu_joinAll_o0 {O : cf_O} : ∀ (n k : Nat) (u1i : Int32) (u2i : Int32) (u3i : Int32) (u4i : Int32) (u5l : Int64) (u7i : Int32) (u8i : Int32) (o0 : cf_O) (r : (Int32 × cf_O)), Fr (fr_M [3, 4, 5] [] [4, 5]) O o0 → gCu_joinAll n k u1i u2i u3i u4i u5l u7i u8i o0 = some r → Fr (fr_M [3, 4, 5] [] [4, 5]) O r.2 := by
  intro n
  induction n with
  | zero => intro k u1i u2i u3i u4i u5l u7i u8i o0 r F h; cases h
  | succ n ih =>
    intro k u1i u2i u3i u4i u5l u7i u8i o0 r F h
    cases k with
    | zero => exact wB_Cu_joinAll_16_o0 (rc := gCu_joinAll n) ih F h
    | succ k =>
      cases k with
      | zero => exact wB_Cu_joinAll_50_o0 (rc := gCu_joinAll n) ih F h
      | succ k =>
        cases h
theorem wF_Cu_joinAll_o0 {v1 : Int32} {v2 : Int32} {v3 : Int32} {v4 : Int32} {o0 : cf_O} {r : (Int32 × cf_O)} (h : fCu_joinAll v1 v2 v3 v4 o0 = some r) : Fr (fr_M [3, 4, 5] [] [4, 5]) o0 r.2 := by
  unfold fCu_joinAll at h
  exact wB_Cu_joinAll_0_o0 (rc := gCu_joinAll cfFU) (fun k u1i u2i u3i u4i u5l u7i u8i o0 r F h => wG_Cu_joinAll_o0 cfFU k u1i u2i u3i u4i u5l u7i u8i o0 r F h) fr_rfl h
