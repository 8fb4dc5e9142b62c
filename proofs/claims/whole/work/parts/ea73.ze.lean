theorem wB_M_fail_17 {O : cf_O} {o0 : cf_O} {r : (cf_O)} (F : Fr (fr_M [5, 6] [] []) O o0) (h : fM_fail_17 o0 = some r) : Fr (fr_M [5, 6] [] []) O r := by
  unfold fM_fail_17 at h
  rw [← Option.some.inj h]
  exact F
theorem wB_M_fail_0 {O : cf_O} {v1 : Int32} {v2 : Int32} {o0 : cf_O} {r : (cf_O)} (F : Fr (fr_M [5, 6] [] []) O o0) (h : fM_fail_0 v1 v2 o0 = some r) : Fr (fr_M [5, 6] [] []) O r := by
  unfold fM_fail_0 at h
  rcases ifc h with ⟨_, h⟩ | ⟨_, h⟩
  · obtain ⟨o_2, eo_2, h⟩ := opq h
    have Fo_2 : Fr (fr_M [5, 6] [] []) O o_2 := by rw [eo_2]; exact fr_fp F rfl
    obtain ⟨o_3, eo_3, h⟩ := opq h
    have Fo_3 : Fr (fr_M [5, 6] [] []) O o_3 := by rw [eo_3]; exact fr_fp Fo_2 rfl
    exact wB_M_fail_17 Fo_3 h
  · exact wB_M_fail_17 F h
theorem wF_M_fail {v1 : Int32} {v2 : Int32} {o0 : cf_O} {r : (cf_O)} (h : fM_fail v1 v2 o0 = some r) : Fr (fr_M [5, 6] [] []) o0 r := by
  unfold fM_fail at h
  exact wB_M_fail_0 fr_rfl h
theorem wB_M_takeLine_130 {O : cf_O} {rc : Nat → Int32 → Int32 → Int32 → Int32 → cf_O → Option ((Int32 × cf_O))} {v2 : Int32} {v3 : Int32} {v4 : Int32} {o0 : cf_O} {r : (Int32 × cf_O)} (H : ∀ (k : Nat) (u1i : Int32) (u2i : Int32) (u3i : Int32) (u4i : Int32) (o0 : cf_O) (r : (Int32 × cf_O)), Fr (fr_M [7] [8, 9] []) O o0 → rc k u1i u2i u3i u4i o0 = some r → Fr (fr_M [7] [8, 9] []) O r.2) (F : Fr (fr_M [7] [8, 9] []) O o0) (h : fM_takeLine_130 rc v2 v3 v4 o0 = some r) : Fr (fr_M [7] [8, 9] []) O r.2 := by
  unfold fM_takeLine_130 at h
  have h := (ifn h).2
  obtain ⟨o_2, eo_2, h⟩ := opq h
  have Fo_2 : Fr (fr_M [7] [8, 9] []) O o_2 := by rw [eo_2]; exact fr_xp F rfl
  obtain ⟨x_3, _, h⟩ := opq h
  obtain ⟨o_4, eo_4, h⟩ := opq h
  have Fo_4 : Fr (fr_M [7] [8, 9] []) O o_4 := by rw [eo_4]; exact fr_fp Fo_2 rfl
  exact H _ _ _ _ _ _ _ Fo_4 h
theorem wB_M_takeLine_106 {O : cf_O} {rc : Nat → Int32 → Int32 → Int32 → Int32 → cf_O → Option ((Int32 × cf_O))} {v2 : Int32} {v3 : Int32} {v4 : Int32} {o0 : cf_O} {r : (Int32 × cf_O)} (H : ∀ (k : Nat) (u1i : Int32) (u2i : Int32) (u3i : Int32) (u4i : Int32) (o0 : cf_O) (r : (Int32 × cf_O)), Fr (fr_M [7] [8, 9] []) O o0 → rc k u1i u2i u3i u4i o0 = some r → Fr (fr_M [7] [8, 9] []) O r.2) (F : Fr (fr_M [7] [8, 9] []) O o0) (h : fM_takeLine_106 rc v2 v3 v4 o0 = some r) : Fr (fr_M [7] [8, 9] []) O r.2 := by
  unfold fM_takeLine_106 at h
  rcases ifc h with ⟨_, h⟩ | ⟨_, h⟩
  · exact wB_M_takeLine_130 H F h
  · have h := (ifn h).2
    obtain ⟨x_3, _, h⟩ := opq h
    rcases ifc h with ⟨_, h⟩ | ⟨_, h⟩
    · exact wB_M_takeLine_130 H F h
    · obtain ⟨x_5, _, h⟩ := opq h
      exact H _ _ _ _ _ _ _ F h
theorem wB_M_takeLine_89 {O : cf_O} {rc : Nat → Int32 → Int32 → Int32 → Int32 → cf_O → Option ((Int32 × cf_O))} {v2 : Int32} {v3 : Int32} {v4 : Int32} {o0 : cf_O} {r : (Int32 × cf_O)} (H : ∀ (k : Nat) (u1i : Int32) (u2i : Int32) (u3i : Int32) (u4i : Int32) (o0 : cf_O) (r : (Int32 × cf_O)), Fr (fr_M [7] [8, 9] []) O o0 → rc k u1i u2i u3i u4i o0 = some r → Fr (fr_M [7] [8, 9] []) O r.2) (F : Fr (fr_M [7] [8, 9] []) O o0) (h : fM_takeLine_89 rc v2 v3 v4 o0 = some r) : Fr (fr_M [7] [8, 9] []) O r.2 := by
  unfold fM_takeLine_89 at h
  rcases ifc h with ⟨_, h⟩ | ⟨_, h⟩
  · exact H _ _ _ _ _ _ _ F h
  · have h := (ifn h).2
    obtain ⟨o_3, eo_3, h⟩ := opq h
    have Fo_3 : Fr (fr_M [7] [8, 9] []) O o_3 := by rw [eo_3]; exact fr_xp F rfl
    exact H _ _ _ _ _ _ _ Fo_3 h
theorem wB_M_takeLine_65 {O : cf_O} {rc : Nat → Int32 → Int32 → Int32 → Int32 → cf_O → Option ((Int32 × cf_O))} {v2 : Int32} {v3 : Int32} {v4 : Int32} {o0 : cf_O} {r : (Int32 × cf_O)} (H : ∀ (k : Nat) (u1i : Int32) (u2i : Int32) (u3i : Int32) (u4i : Int32) (o0 : cf_O) (r : (Int32 × cf_O)), Fr (fr_M [7] [8, 9] []) O o0 → rc k u1i u2i u3i u4i o0 = some r → Fr (fr_M [7] [8, 9] []) O r.2) (F : Fr (fr_M [7] [8, 9] []) O o0) (h : fM_takeLine_65 rc v2 v3 v4 o0 = some r) : Fr (fr_M [7] [8, 9] []) O r.2 := by
  unfold fM_takeLine_65 at h
  rcases ifc h with ⟨_, h⟩ | ⟨_, h⟩
  · exact wB_M_takeLine_89 H F h
  · have h := (ifn h).2
    obtain ⟨x_3, _, h⟩ := opq h
    rcases ifc h with ⟨_, h⟩ | ⟨_, h⟩
    · obtain ⟨x_5, _, h⟩ := opq h
      exact H _ _ _ _ _ _ _ F h
    · exact wB_M_takeLine_89 H F h
theorem wB_M_takeLine_59 {O : cf_O} {rc : Nat → Int32 → Int32 → Int32 → Int32 → cf_O → Option ((Int32 × cf_O))} {v2 : Int32} {v3 : Int32} {v4 : Int32} {o0 : cf_O} {r : (Int32 × cf_O)} (H : ∀ (k : Nat) (u1i : Int32) (u2i : Int32) (u3i : Int32) (u4i : Int32) (o0 : cf_O) (r : (Int32 × cf_O)), Fr (fr_M [7] [8, 9] []) O o0 → rc k u1i u2i u3i u4i o0 = some r → Fr (fr_M [7] [8, 9] []) O r.2) (F : Fr (fr_M [7] [8, 9] []) O o0) (h : fM_takeLine_59 rc v2 v3 v4 o0 = some r) : Fr (fr_M [7] [8, 9] []) O r.2 := by
  unfold fM_takeLine_59 at h
  rcases ifc h with ⟨_, h⟩ | ⟨_, h⟩
  · rw [← Option.some.inj h]
    exact F
  · exact H _ _ _ _ _ _ _ F h
theorem wB_M_takeLine_51 {O : cf_O} {rc : Nat → Int32 → Int32 → Int32 → Int32 → cf_O → Option ((Int32 × cf_O))} {v1 : Int32} {v2 : Int32} {v3 : Int32} {o0 : cf_O} {r : (Int32 × cf_O)} (H : ∀ (k : Nat) (u1i : Int32) (u2i : Int32) (u3i : Int32) (u4i : Int32) (o0 : cf_O) (r : (Int32 × cf_O)), Fr (fr_M [7] [8, 9] []) O o0 → rc k u1i u2i u3i u4i o0 = some r → Fr (fr_M [7] [8, 9] []) O r.2) (F : Fr (fr_M [7] [8, 9] []) O o0) (h : fM_takeLine_51 rc v1 v2 v3 o0 = some r) : Fr (fr_M [7] [8, 9] []) O r.2 := by
  unfold fM_takeLine_51 at h
  obtain ⟨o_1, eo_1, h⟩ := opq h
  have Fo_1 : Fr (fr_M [7] [8, 9] []) O o_1 := by rw [eo_1]; exact fr_fp F rfl
  exact H _ _ _ _ _ _ _ Fo_1 h
theorem wB_M_takeLine_29 {O : cf_O} {rc : Nat → Int32 → Int32 → Int32 → Int32 → cf_O → Option ((Int32 × cf_O))} {v1 : Int32} {v2 : Int32} {v3 : Int32} {o0 : cf_O} {r : (Int32 × cf_O)} (H : ∀ (k : Nat) (u1i : Int32) (u2i : Int32) (u3i : Int32) (u4i : Int32) (o0 : cf_O) (r : (Int32 × cf_O)), Fr (fr_M [7] [8, 9] []) O o0 → rc k u1i u2i u3i u4i o0 = some r → Fr (fr_M [7] [8, 9] []) O r.2) (F : Fr (fr_M [7] [8, 9] []) O o0) (h : fM_takeLine_29 rc v1 v2 v3 o0 = some r) : Fr (fr_M [7] [8, 9] []) O r.2 := by
  unfold fM_takeLine_29 at h
  rcases ifc h with ⟨_, h⟩ | ⟨_, h⟩
  · exact wB_M_takeLine_51 H F h
  · have h := (ifn h).2
    obtain ⟨x_3, _, h⟩ := opq h
    rcases ifc h with ⟨_, h⟩ | ⟨_, h⟩
    · exact wB_M_takeLine_51 H F h
    · obtain ⟨x_5, _, h⟩ := opq h
      exact H _ _ _ _ _ _ _ F h
theorem wB_M_takeLine_27 {O : cf_O} {rc : Nat → Int32 → Int32 → Int32 → Int32 → cf_O → Option ((Int32 × cf_O))} {v1 : Int32} {v2 : Int32} {o0 : cf_O} {r : (Int32 × cf_O)} (H : ∀ (k : Nat) (u1i : Int32) (u2i : Int32) (u3i : Int32) (u4i : Int32) (o0 : cf_O) (r : (Int32 × cf_O)), Fr (fr_M [7] [8, 9] []) O o0 → rc k u1i u2i u3i u4i o0 = some r → Fr (fr_M [7] [8, 9] []) O r.2) (F : Fr (fr_M [7] [8, 9] []) O o0) (h : fM_takeLine_27 rc v1 v2 o0 = some r) : Fr (fr_M [7] [8, 9] []) O r.2 := by
  unfold fM_takeLine_27 at h
  exact H _ _ _ _ _ _ _ F h
theorem wB_M_takeLine_2 {O : cf_O} {rc : Nat → Int32 → Int32 → Int32 → Int32 → cf_O → Option ((Int32 × cf_O))} {v1 : Int32} {v2 : Int32} {o0 : cf_O} {r : (Int32 × cf_O)} (H : ∀ (k : Nat) (u1i : Int32) (u2i : Int32) (u3i : Int32) (u4i : Int32) (o0 : cf_O) (r : (Int32 × cf_O)), Fr (fr_M [7] [8, 9] []) O o0 → rc k u1i u2i u3i u4i o0 = some r → Fr (fr_M [7] [8, 9] []) O r.2) (F : Fr (fr_M [7] [8, 9] []) O o0) (h : fM_takeLine_2 rc v1 v2 o0 = some r) : Fr (fr_M [7] [8, 9] []) O r.2 := by
  unfold fM_takeLine_2 at h
  rcases ifc h with ⟨_, h⟩ | ⟨_, h⟩
  · exact wB_M_takeLine_27 H F h
  · have h := (ifn h).2
    obtain ⟨x_3, _, h⟩ := opq h
    rcases ifc h with ⟨_, h⟩ | ⟨_, h⟩
    · exact wB_M_takeLine_27 H F h
    · obtain ⟨x_5, _, h⟩ := opq h
      exact H _ _ _ _ _ _ _ F h
theorem wB_M_takeLine_0 {O : cf_O} {rc : Nat → Int32 → Int32 → Int32 → Int32 → cf_O → Option ((Int32 × cf_O))} {v1 : Int32} {o0 : cf_O} {r : (Int32 × cf_O)} (H : ∀ (k : Nat) (u1i : Int32) (u2i : Int32) (u3i : Int32) (u4i : Int32) (o0 : cf_O) (r : (Int32 × cf_O)), Fr (fr_M [7] [8, 9] []) O o0 → rc k u1i u2i u3i u4i o0 = some r → Fr (fr_M [7] [8, 9] []) O r.2) (F : Fr (fr_M [7] [8, 9] []) O o0) (h : fM_takeLine_0 rc v1 o0 = some r) : Fr (fr_M [7] [8, 9] []) O r.2 := by
  unfold fM_takeLine_0 at h
  exact H _ _ _ _ _ _ _ F h
theorem wG_M_takeLine {O : cf_O} : ∀ (n k : Nat) (u1i : Int32) (u2i : Int32) (u3i : Int32) (u4i : Int32) (o0 : cf_O) (r : (Int32 × cf_O)), Fr (fr_M [7] [8, 9] []) O o0 → gM_takeLine n k u1i u2i u3i u4i o0 = some r → Fr (fr_M [7] [8, 9] []) O r.2 := by
  intro n
  induction n with
  | zero => intro k u1i u2i u3i u4i o0 r F h; cases h
  | succ n ih =>
    intro k u1i u2i u3i u4i o0 r F h
    cases k with
    | zero => exact wB_M_takeLine_2 (rc := gM_takeLine n) ih F h
    | succ k =>
      cases k with
      | zero => exact wB_M_takeLine_29 (rc := gM_takeLine n) ih F h
      | succ k =>
        cases k with
        | zero => exact wB_M_takeLine_59 (rc := gM_takeLine n) ih F h
        | succ k =>
          cases k with
          | zero => exact wB_M_takeLine_65 (rc := gM_takeLine n) ih F h
          | succ k =>
            cases k with
            | zero => exact wB_M_takeLine_106 (rc := gM_takeLine n) ih F h
            | succ k =>
              cases h
theorem wF_M_takeLine {v1 : Int32} {o0 : cf_O} {r : (Int32 × cf_O)} (h : fM_takeLine v1 o0 = some r) : Fr (fr_M [7] [8, 9] []) o0 r.2 := by
  unfold fM_takeLine at h
  exact wB_M_takeLine_0 (rc := gM_takeLine cfFU) (fun k u1i u2i u3i u4i o0 r F h => wG_M_takeLine cfFU k u1i u2i u3i u4i o0 r F h) fr_rfl h
theorem wB_M_cellLine_189 {O : cf_O} {rc : Nat → Int32 → Int32 → cf_O → Option ((cf_O))} {v3 : Int32} {s0 : Int32} {o0 : cf_O} {r : (cf_O)} (H : ∀ (k : Nat) (u2i : Int32) (u3i : Int32) (o0 : cf_O) (r : (cf_O)), Fr (fr_M [5, 6, 79] [80, 81] []) O o0 → rc k u2i u3i o0 = some r → Fr (fr_M [5, 6, 79] [80, 81] []) O r) (F : Fr (fr_M [5, 6, 79] [80, 81] []) O o0) (h : fM_cellLine_189 rc v3 s0 o0 = some r) : Fr (fr_M [5, 6, 79] [80, 81] []) O r := by
  unfold fM_cellLine_189 at h
  obtain ⟨x_1, _, h⟩ := opq h
  exact H _ _ _ _ _ F h
theorem wB_M_cellLine_152 {O : cf_O} {rc : Nat → Int32 → Int32 → cf_O → Option ((cf_O))} {v2 : Int32} {v3 : Int32} {o0 : cf_O} {r : (cf_O)} (H : ∀ (k : Nat) (u2i : Int32) (u3i : Int32) (o0 : cf_O) (r : (cf_O)), Fr (fr_M [5, 6, 79] [80, 81] []) O o0 → rc k u2i u3i o0 = some r → Fr (fr_M [5, 6, 79] [80, 81] []) O r) (F : Fr (fr_M [5, 6, 79] [80, 81] []) O o0) (h : fM_cellLine_152 rc v2 v3 o0 = some r) : Fr (fr_M [5, 6, 79] [80, 81] []) O r := by
  unfold fM_cellLine_152 at h
  have h := (ifn h).2
  obtain ⟨x_2, _, h⟩ := opq h
  rcases ifc h with ⟨_, h⟩ | ⟨_, h⟩
  · obtain ⟨x_4, _, h⟩ := opq h
    obtain ⟨q_5, _, h⟩ := bd h
    have h := (ifn h).2
    obtain ⟨o_9, eo_9, h⟩ := opq h
    have Fo_9 : Fr (fr_M [5, 6, 79] [80, 81] []) O o_9 := by rw [eo_9]; exact fr_xp F rfl
    obtain ⟨x_10, _, h⟩ := opq h
    obtain ⟨x_11, _, h⟩ := opq h
    obtain ⟨q_12, _, h⟩ := bd h
    have h := (ifn h).2
    obtain ⟨o_16, eo_16, h⟩ := opq h
    have Fo_16 : Fr (fr_M [5, 6, 79] [80, 81] []) O o_16 := by rw [eo_16]; exact fr_xp Fo_9 rfl
    obtain ⟨x_17, _, h⟩ := opq h
    obtain ⟨x_18, _, h⟩ := opq h
    obtain ⟨q_19, _, h⟩ := bd h
    have h := (ifn h).2
    obtain ⟨o_23, eo_23, h⟩ := opq h
    have Fo_23 : Fr (fr_M [5, 6, 79] [80, 81] []) O o_23 := by rw [eo_23]; exact fr_xp Fo_16 rfl
    obtain ⟨x_24, _, h⟩ := opq h
    obtain ⟨x_25, _, h⟩ := opq h
    have h := (ifn h).2
    obtain ⟨o_27, eo_27, h⟩ := opq h
    have Fo_27 : Fr (fr_M [5, 6, 79] [80, 81] []) O o_27 := by rw [eo_27]; exact fr_xp Fo_23 rfl
    obtain ⟨x_28, _, h⟩ := opq h
    obtain ⟨o_29, eo_29, h⟩ := opq h
    have Fo_29 : Fr (fr_M [5, 6, 79] [80, 81] []) O o_29 := by rw [eo_29]; exact fr_fp Fo_27 rfl
    rw [← Option.some.inj h]
    exact Fo_29
  · have h := (ifn h).2
    obtain ⟨x_31, _, h⟩ := opq h
    rcases ifc h with ⟨_, h⟩ | ⟨_, h⟩
    · have h := (ifn h).2
      obtain ⟨x_34, _, h⟩ := opq h
      obtain ⟨x_35, _, h⟩ := opq h
      obtain ⟨x_36, _, h⟩ := opq h
      obtain ⟨x_37, _, h⟩ := opq h
      exact wB_M_cellLine_189 H F h
    · exact wB_M_cellLine_189 H F h
theorem wB_M_cellLine_136 {O : cf_O} {rc : Nat → Int32 → Int32 → cf_O → Option ((cf_O))} {v2 : Int32} {s1 : Int32} {s2 : Int32} {o0 : cf_O} {r : (cf_O)} (H : ∀ (k : Nat) (u2i : Int32) (u3i : Int32) (o0 : cf_O) (r : (cf_O)), Fr (fr_M [5, 6, 79] [80, 81] []) O o0 → rc k u2i u3i o0 = some r → Fr (fr_M [5, 6, 79] [80, 81] []) O r) (F : Fr (fr_M [5, 6, 79] [80, 81] []) O o0) (h : fM_cellLine_136 rc v2 s1 s2 o0 = some r) : Fr (fr_M [5, 6, 79] [80, 81] []) O r := by
  unfold fM_cellLine_136 at h
  have h := (ifn h).2
  obtain ⟨o_2, eo_2, h⟩ := opq h
  have Fo_2 : Fr (fr_M [5, 6, 79] [80, 81] []) O o_2 := by rw [eo_2]; exact fr_xp F rfl
  obtain ⟨x_3, _, h⟩ := opq h
  exact H _ _ _ _ _ Fo_2 h
theorem wB_M_cellLine_83 {O : cf_O} {rc : Nat → Int32 → Int32 → cf_O → Option ((cf_O))} {v2 : Int32} {o0 : cf_O} {r : (cf_O)} (H : ∀ (k : Nat) (u2i : Int32) (u3i : Int32) (o0 : cf_O) (r : (cf_O)), Fr (fr_M [5, 6, 79] [80, 81] []) O o0 → rc k u2i u3i o0 = some r → Fr (fr_M [5, 6, 79] [80, 81] []) O r) (F : Fr (fr_M [5, 6, 79] [80, 81] []) O o0) (h : fM_cellLine_83 rc v2 o0 = some r) : Fr (fr_M [5, 6, 79] [80, 81] []) O r := by
  unfold fM_cellLine_83 at h
  rcases ifc h with ⟨_, h⟩ | ⟨_, h⟩
  · have h := (ifn h).2
    obtain ⟨x_3, _, h⟩ := opq h
    exact H _ _ _ _ _ F h
  · obtain ⟨x_4, _, h⟩ := opq h
    obtain ⟨x_5, _, h⟩ := opq h
    have h := (ifn h).2
    obtain ⟨x_7, _, h⟩ := opq h
    obtain ⟨x_8, _, h⟩ := opq h
    have h := (ifn h).2
    obtain ⟨x_10, _, h⟩ := opq h
    rcases ifc h with ⟨_, h⟩ | ⟨_, h⟩
    · exact wB_M_cellLine_136 H F h
    · have h := (ifn h).2
      obtain ⟨x_13, _, h⟩ := opq h
      obtain ⟨x_14, _, h⟩ := opq h
      have h := (ifn h).2
      obtain ⟨x_16, _, h⟩ := opq h
      exact wB_M_cellLine_136 H F h
theorem wB_M_cellLine_59 {O : cf_O} {rc : Nat → Int32 → Int32 → cf_O → Option ((cf_O))} {v1 : Int32} {o0 : cf_O} {r : (cf_O)} (H : ∀ (k : Nat) (u2i : Int32) (u3i : Int32) (o0 : cf_O) (r : (cf_O)), Fr (fr_M [5, 6, 79] [80, 81] []) O o0 → rc k u2i u3i o0 = some r → Fr (fr_M [5, 6, 79] [80, 81] []) O r) (F : Fr (fr_M [5, 6, 79] [80, 81] []) O o0) (h : fM_cellLine_59 rc v1 o0 = some r) : Fr (fr_M [5, 6, 79] [80, 81] []) O r := by
  unfold fM_cellLine_59 at h
  obtain ⟨q_1, hq_1, h⟩ := bd h
  have Fq_1 : Fr (fr_M [5, 6, 79] [80, 81] []) O q_1 := fr_tr F (wF_M_fail hq_1) rfl rfl rfl
  rw [← Option.some.inj h]
  exact Fq_1
theorem wB_M_cellLine_0 {O : cf_O} {rc : Nat → Int32 → Int32 → cf_O → Option ((cf_O))} {v1 : Int32} {o0 : cf_O} {r : (cf_O)} (H : ∀ (k : Nat) (u2i : Int32) (u3i : Int32) (o0 : cf_O) (r : (cf_O)), Fr (fr_M [5, 6, 79] [80, 81] []) O o0 → rc k u2i u3i o0 = some r → Fr (fr_M [5, 6, 79] [80, 81] []) O r) (F : Fr (fr_M [5, 6, 79] [80, 81] []) O o0) (h : fM_cellLine_0 rc v1 o0 = some r) : Fr (fr_M [5, 6, 79] [80, 81] []) O r := by
  unfold fM_cellLine_0 at h
  rcases ifc h with ⟨_, h⟩ | ⟨_, h⟩
  · obtain ⟨q_2, _, h⟩ := bd h
    rcases ifc h with ⟨_, h⟩ | ⟨_, h⟩
    · exact wB_M_cellLine_59 H F h
    · rcases ifc h with ⟨_, h⟩ | ⟨_, h⟩
      · exact wB_M_cellLine_59 H F h
      · obtain ⟨q_7, _, h⟩ := bd h
        rcases ifc h with ⟨_, h⟩ | ⟨_, h⟩
        · exact wB_M_cellLine_59 H F h
        · obtain ⟨q_11, _, h⟩ := bd h
          rcases ifc h with ⟨_, h⟩ | ⟨_, h⟩
          · exact wB_M_cellLine_59 H F h
          · obtain ⟨q_15, _, h⟩ := bd h
            rcases ifc h with ⟨_, h⟩ | ⟨_, h⟩
            · exact wB_M_cellLine_59 H F h
            · obtain ⟨q_19, _, h⟩ := bd h
              rcases ifc h with ⟨_, h⟩ | ⟨_, h⟩
              · exact wB_M_cellLine_59 H F h
              · obtain ⟨q_23, _, h⟩ := bd h
                rcases ifc h with ⟨_, h⟩ | ⟨_, h⟩
                · exact H _ _ _ _ _ F h
                · obtain ⟨q_27, hq_27, h⟩ := bd h
                  have Fq_27 : Fr (fr_M [5, 6, 79] [80, 81] []) O q_27 := fr_tr F (wF_M_fail hq_27) rfl rfl rfl
                  rw [← Option.some.inj h]
                  exact Fq_27
  · exact wB_M_cellLine_59 H F h
theorem wG_M_cellLine {O : cf_O} : ∀ (n k : Nat) (u2i : Int32) (u3i : Int32) (o0 : cf_O) (r : (cf_O)), Fr (fr_M [5, 6, 79] [80, 81] []) O o0 → gM_cellLine n k u2i u3i o0 = some r → Fr (fr_M [5, 6, 79] [80, 81] []) O r := by
  intro n
  induction n with
  | zero => intro k u2i u3i o0 r F h; cases h
  | succ n ih =>
    intro k u2i u3i o0 r F h
    cases k with
    | zero => exact wB_M_cellLine_83 (rc := gM_cellLine n) ih F h
    | succ k =>
      cases k with
      | zero => exact wB_M_cellLine_152 (rc := gM_cellLine n) ih F h
      | succ k =>
        cases h
theorem wF_M_cellLine {v1 : Int32} {o0 : cf_O} {r : (cf_O)} (h : fM_cellLine v1 o0 = some r) : Fr (fr_M [5, 6, 79] [80, 81] []) o0 r := by
  unfold fM_cellLine at h
  exact wB_M_cellLine_0 (rc := gM_cellLine cfFU) (fun k u2i u3i o0 r F h => wG_M_cellLine cfFU k u2i u3i o0 r F h) fr_rfl h
theorem wB_M_readLibrary_139 {O : cf_O} {rc : Nat → Int32 → Int32 → Int32 → cf_O → Option ((cf_O))} {o0 : cf_O} {r : (cf_O)} (H : ∀ (k : Nat) (u1i : Int32) (u2i : Int32) (u3i : Int32) (o0 : cf_O) (r : (cf_O)), Fr (fr_M [5, 6, 7, 79] [8, 9, 80, 81] []) O o0 → rc k u1i u2i u3i o0 = some r → Fr (fr_M [5, 6, 7, 79] [8, 9, 80, 81] []) O r) (F : Fr (fr_M [5, 6, 7, 79] [8, 9, 80, 81] []) O o0) (h : fM_readLibrary_139 rc o0 = some r) : Fr (fr_M [5, 6, 7, 79] [8, 9, 80, 81] []) O r := by
  unfold fM_readLibrary_139 at h
  rw [← Option.some.inj h]
  exact F
theorem wB_M_readLibrary_129 {O : cf_O} {rc : Nat → Int32 → Int32 → Int32 → cf_O → Option ((cf_O))} {v1 : Int32} {v2 : Int32} {o0 : cf_O} {r : (cf_O)} (H : ∀ (k : Nat) (u1i : Int32) (u2i : Int32) (u3i : Int32) (o0 : cf_O) (r : (cf_O)), Fr (fr_M [5, 6, 7, 79] [8, 9, 80, 81] []) O o0 → rc k u1i u2i u3i o0 = some r → Fr (fr_M [5, 6, 7, 79] [8, 9, 80, 81] []) O r) (F : Fr (fr_M [5, 6, 7, 79] [8, 9, 80, 81] []) O o0) (h : fM_readLibrary_129 rc v1 v2 o0 = some r) : Fr (fr_M [5, 6, 7, 79] [8, 9, 80, 81] []) O r := by
  unfold fM_readLibrary_129 at h
  rcases ifc h with ⟨_, h⟩ | ⟨_, h⟩
  · obtain ⟨q_2, hq_2, h⟩ := bd h
    have Fq_2 : Fr (fr_M [5, 6, 7, 79] [8, 9, 80, 81] []) O q_2 := fr_tr F (wF_M_fail hq_2) rfl rfl rfl
    exact wB_M_readLibrary_139 H Fq_2 h
  · exact wB_M_readLibrary_139 H F h
theorem wB_M_readLibrary_118 {O : cf_O} {rc : Nat → Int32 → Int32 → Int32 → cf_O → Option ((cf_O))} {v1 : Int32} {v2 : Int32} {v4 : Int32} {o0 : cf_O} {r : (cf_O)} (H : ∀ (k : Nat) (u1i : Int32) (u2i : Int32) (u3i : Int32) (o0 : cf_O) (r : (cf_O)), Fr (fr_M [5, 6, 7, 79] [8, 9, 80, 81] []) O o0 → rc k u1i u2i u3i o0 = some r → Fr (fr_M [5, 6, 7, 79] [8, 9, 80, 81] []) O r) (F : Fr (fr_M [5, 6, 7, 79] [8, 9, 80, 81] []) O o0) (h : fM_readLibrary_118 rc v1 v2 v4 o0 = some r) : Fr (fr_M [5, 6, 7, 79] [8, 9, 80, 81] []) O r := by
  unfold fM_readLibrary_118 at h
  obtain ⟨x_1, _, h⟩ := opq h
  obtain ⟨x_2, _, h⟩ := opq h
  exact H _ _ _ _ _ _ F h
theorem wB_M_readLibrary_108 {O : cf_O} {rc : Nat → Int32 → Int32 → Int32 → cf_O → Option ((cf_O))} {v1 : Int32} {v2 : Int32} {v4 : Int32} {v5 : Int32} {o0 : cf_O} {r : (cf_O)} (H : ∀ (k : Nat) (u1i : Int32) (u2i : Int32) (u3i : Int32) (o0 : cf_O) (r : (cf_O)), Fr (fr_M [5, 6, 7, 79] [8, 9, 80, 81] []) O o0 → rc k u1i u2i u3i o0 = some r → Fr (fr_M [5, 6, 7, 79] [8, 9, 80, 81] []) O r) (F : Fr (fr_M [5, 6, 7, 79] [8, 9, 80, 81] []) O o0) (h : fM_readLibrary_108 rc v1 v2 v4 v5 o0 = some r) : Fr (fr_M [5, 6, 7, 79] [8, 9, 80, 81] []) O r := by
  unfold fM_readLibrary_108 at h
  rcases ifc h with ⟨_, h⟩ | ⟨_, h⟩
  · obtain ⟨q_2, hq_2, h⟩ := bd h
    have Fq_2 : Fr (fr_M [5, 6, 7, 79] [8, 9, 80, 81] []) O q_2 := fr_tr F (wF_M_cellLine hq_2) rfl rfl rfl
    exact wB_M_readLibrary_118 H Fq_2 h
  · exact wB_M_readLibrary_118 H F h
theorem wB_M_readLibrary_75 {O : cf_O} {rc : Nat → Int32 → Int32 → Int32 → cf_O → Option ((cf_O))} {v1 : Int32} {v2 : Int32} {v4 : Int32} {v5 : Int32} {o0 : cf_O} {r : (cf_O)} (H : ∀ (k : Nat) (u1i : Int32) (u2i : Int32) (u3i : Int32) (o0 : cf_O) (r : (cf_O)), Fr (fr_M [5, 6, 7, 79] [8, 9, 80, 81] []) O o0 → rc k u1i u2i u3i o0 = some r → Fr (fr_M [5, 6, 7, 79] [8, 9, 80, 81] []) O r) (F : Fr (fr_M [5, 6, 7, 79] [8, 9, 80, 81] []) O o0) (h : fM_readLibrary_75 rc v1 v2 v4 v5 o0 = some r) : Fr (fr_M [5, 6, 7, 79] [8, 9, 80, 81] []) O r := by
  unfold fM_readLibrary_75 at h
  rcases ifc h with ⟨_, h⟩ | ⟨_, h⟩
  · rcases ifc h with ⟨_, h⟩ | ⟨_, h⟩
    · exact wB_M_readLibrary_108 H F h
    · rcases ifc h with ⟨_, h⟩ | ⟨_, h⟩
      · obtain ⟨q_4, _, h⟩ := bd h
        rcases ifc h with ⟨_, h⟩ | ⟨_, h⟩
        · exact wB_M_readLibrary_118 H F h
        · exact wB_M_readLibrary_108 H F h
      · exact wB_M_readLibrary_108 H F h
  · exact wB_M_readLibrary_108 H F h
theorem wB_M_readLibrary_55 {O : cf_O} {rc : Nat → Int32 → Int32 → Int32 → cf_O → Option ((cf_O))} {v1 : Int32} {v2 : Int32} {v4 : Int32} {s0 : Int32} {o0 : cf_O} {r : (cf_O)} (H : ∀ (k : Nat) (u1i : Int32) (u2i : Int32) (u3i : Int32) (o0 : cf_O) (r : (cf_O)), Fr (fr_M [5, 6, 7, 79] [8, 9, 80, 81] []) O o0 → rc k u1i u2i u3i o0 = some r → Fr (fr_M [5, 6, 7, 79] [8, 9, 80, 81] []) O r) (F : Fr (fr_M [5, 6, 7, 79] [8, 9, 80, 81] []) O o0) (h : fM_readLibrary_55 rc v1 v2 v4 s0 o0 = some r) : Fr (fr_M [5, 6, 7, 79] [8, 9, 80, 81] []) O r := by
  unfold fM_readLibrary_55 at h
  rcases ifc h with ⟨_, h⟩ | ⟨_, h⟩
  · rcases ifc h with ⟨_, h⟩ | ⟨_, h⟩
    · exact wB_M_readLibrary_75 H F h
    · obtain ⟨q_3, hq_3, h⟩ := bd h
      have Fq_3 : Fr (fr_M [5, 6, 7, 79] [8, 9, 80, 81] []) O q_3 := fr_tr F (wF_M_fail hq_3) rfl rfl rfl
      exact wB_M_readLibrary_118 H Fq_3 h
  · exact wB_M_readLibrary_75 H F h
theorem wB_M_readLibrary_21 {O : cf_O} {rc : Nat → Int32 → Int32 → Int32 → cf_O → Option ((cf_O))} {v1 : Int32} {v2 : Int32} {v3 : Int32} {o0 : cf_O} {r : (cf_O)} (H : ∀ (k : Nat) (u1i : Int32) (u2i : Int32) (u3i : Int32) (o0 : cf_O) (r : (cf_O)), Fr (fr_M [5, 6, 7, 79] [8, 9, 80, 81] []) O o0 → rc k u1i u2i u3i o0 = some r → Fr (fr_M [5, 6, 7, 79] [8, 9, 80, 81] []) O r) (F : Fr (fr_M [5, 6, 7, 79] [8, 9, 80, 81] []) O o0) (h : fM_readLibrary_21 rc v1 v2 v3 o0 = some r) : Fr (fr_M [5, 6, 7, 79] [8, 9, 80, 81] []) O r := by
  unfold fM_readLibrary_21 at h
  rcases ifc h with ⟨_, h⟩ | ⟨_, h⟩
  · exact wB_M_readLibrary_129 H F h
  · rcases ifc h with ⟨_, h⟩ | ⟨_, h⟩
    · obtain ⟨q_3, hq_3, h⟩ := bd h
      have Fq_3 : Fr (fr_M [5, 6, 7, 79] [8, 9, 80, 81] []) O q_3.2 := fr_tr F (wF_M_takeLine hq_3) rfl rfl rfl
      rcases ifc h with ⟨_, h⟩ | ⟨_, h⟩
      · exact wB_M_readLibrary_55 H Fq_3 h
      · exact wB_M_readLibrary_55 H Fq_3 h
    · exact wB_M_readLibrary_129 H F h
theorem wB_M_readLibrary_0 {O : cf_O} {rc : Nat → Int32 → Int32 → Int32 → cf_O → Option ((cf_O))} {o0 : cf_O} {r : (cf_O)} (H : ∀ (k : Nat) (u1i : Int32) (u2i : Int32) (u3i : Int32) (o0 : cf_O) (r : (cf_O)), Fr (fr_M [5, 6, 7, 79] [8, 9, 80, 81] []) O o0 → rc k u1i u2i u3i o0 = some r → Fr (fr_M [5, 6, 7, 79] [8, 9, 80, 81] []) O r) (F : Fr (fr_M [5, 6, 7, 79] [8, 9, 80, 81] []) O o0) (h : fM_readLibrary_0 rc o0 = some r) : Fr (fr_M [5, 6, 7, 79] [8, 9, 80, 81] []) O r := by
  unfold fM_readLibrary_0 at h
  obtain ⟨o_1, eo_1, h⟩ := opq h
  have Fo_1 : Fr (fr_M [5, 6, 7, 79] [8, 9, 80, 81] []) O o_1 := by rw [eo_1]; exact fr_fp F rfl
  obtain ⟨o_2, eo_2, h⟩ := opq h
  have Fo_2 : Fr (fr_M [5, 6, 7, 79] [8, 9, 80, 81] []) O o_2 := by rw [eo_2]; exact fr_fp Fo_1 rfl
  obtain ⟨o_3, eo_3, h⟩ := opq h
  have Fo_3 : Fr (fr_M [5, 6, 7, 79] [8, 9, 80, 81] []) O o_3 := by rw [eo_3]; exact fr_fp Fo_2 rfl
  exact H _ _ _ _ _ _ Fo_3 h
theorem wG_M_readLibrary {O : cf_O} : ∀ (n k : Nat) (u1i : Int32) (u2i : Int32) (u3i : Int32) (o0 : cf_O) (r : (cf_O)), Fr (fr_M [5, 6, 7, 79] [8, 9, 80, 81] []) O o0 → gM_readLibrary n k u1i u2i u3i o0 = some r → Fr (fr_M [5, 6, 7, 79] [8, 9, 80, 81] []) O r := by
  intro n
  induction n with
  | zero => intro k u1i u2i u3i o0 r F h; cases h
  | succ n ih =>
    intro k u1i u2i u3i o0 r F h
    cases k with
    | zero => exact wB_M_readLibrary_21 (rc := gM_readLibrary n) ih F h
    | succ k =>
      cases h
theorem wF_M_readLibrary {o0 : cf_O} {r : (cf_O)} (h : fM_readLibrary o0 = some r) : Fr (fr_M [5, 6, 7, 79] [8, 9, 80, 81] []) o0 r := by
  unfold fM_readLibrary at h
  exact wB_M_readLibrary_0 (rc := gM_readLibrary cfFU) (fun k u1i u2i u3i o0 r F h => wG_M_readLibrary cfFU k u1i u2i u3i o0 r F h) fr_rfl h
