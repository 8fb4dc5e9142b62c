theorem wB_M_maskAll_192 {O : cf_O} {rc : Nat → Int32 → Int32 → Int32 → Int32 → cf_O → Option ((cf_O))} {v1 : Int32} {v2 : Int32} {v3 : Int32} {v4 : Int32} {s1 : Int32} {s2 : Int32} {o0 : cf_O} {r : (cf_O)} (H : ∀ (k : Nat) (u1i : Int32) (u2i : Int32) (u3i : Int32) (u4i : Int32) (o0 : cf_O) (r : (cf_O)), Fr (fr_M [] [91] []) O o0 → rc k u1i u2i u3i u4i o0 = some r → Fr (fr_M [] [91] []) O r) (F : Fr (fr_M [] [91] []) O o0) (h : fM_maskAll_192 rc v1 v2 v3 v4 s1 s2 o0 = some r) : Fr (fr_M [] [91] []) O r := by
  unfold fM_maskAll_192 at h
  have h := (ifn h).2
  obtain ⟨o_2, eo_2, h⟩ := opq h
  have Fo_2 : Fr (fr_M [] [91] []) O o_2 := by rw [eo_2]; exact fr_xp F rfl
  obtain ⟨x_3, _, h⟩ := opq h
  exact H _ _ _ _ _ _ _ Fo_2 h
theorem wB_M_maskAll_126 {O : cf_O} {rc : Nat → Int32 → Int32 → Int32 → Int32 → cf_O → Option ((cf_O))} {v1 : Int32} {v2 : Int32} {v3 : Int32} {v4 : Int32} {o0 : cf_O} {r : (cf_O)} (H : ∀ (k : Nat) (u1i : Int32) (u2i : Int32) (u3i : Int32) (u4i : Int32) (o0 : cf_O) (r : (cf_O)), Fr (fr_M [] [91] []) O o0 → rc k u1i u2i u3i u4i o0 = some r → Fr (fr_M [] [91] []) O r) (F : Fr (fr_M [] [91] []) O o0) (h : fM_maskAll_126 rc v1 v2 v3 v4 o0 = some r) : Fr (fr_M [] [91] []) O r := by
  unfold fM_maskAll_126 at h
  have h := (ifn h).2
  obtain ⟨x_2, _, h⟩ := opq h
  rcases ifc h with ⟨_, h⟩ | ⟨_, h⟩
  · obtain ⟨x_4, _, h⟩ := opq h
    exact H _ _ _ _ _ _ _ F h
  · obtain ⟨x_5, _, h⟩ := opq h
    obtain ⟨x_6, _, h⟩ := opq h
    have h := (ifn h).2
    obtain ⟨x_8, _, h⟩ := opq h
    rcases ifc h with ⟨_, h⟩ | ⟨_, h⟩
    · rcases ifc h with ⟨_, h⟩ | ⟨_, h⟩
      · exact wB_M_maskAll_192 H F h
      · rcases ifc h with ⟨_, h⟩ | ⟨_, h⟩
        · exact wB_M_maskAll_192 H F h
        · exact wB_M_maskAll_192 H F h
    · have h := (ifn h).2
      obtain ⟨x_11, _, h⟩ := opq h
      exact wB_M_maskAll_192 H F h
theorem wB_M_maskAll_123 {O : cf_O} {rc : Nat → Int32 → Int32 → Int32 → Int32 → cf_O → Option ((cf_O))} {v1 : Int32} {v2 : Int32} {v3 : Int32} {o0 : cf_O} {r : (cf_O)} (H : ∀ (k : Nat) (u1i : Int32) (u2i : Int32) (u3i : Int32) (u4i : Int32) (o0 : cf_O) (r : (cf_O)), Fr (fr_M [] [91] []) O o0 → rc k u1i u2i u3i u4i o0 = some r → Fr (fr_M [] [91] []) O r) (F : Fr (fr_M [] [91] []) O o0) (h : fM_maskAll_123 rc v1 v2 v3 o0 = some r) : Fr (fr_M [] [91] []) O r := by
  unfold fM_maskAll_123 at h
  exact H _ _ _ _ _ _ _ F h
theorem wB_M_maskAll_109 {O : cf_O} {rc : Nat → Int32 → Int32 → Int32 → Int32 → cf_O → Option ((cf_O))} {v1 : Int32} {v2 : Int32} {v3 : Int32} {v4 : Int32} {s0 : Int32} {s1 : Int32} {o0 : cf_O} {r : (cf_O)} (H : ∀ (k : Nat) (u1i : Int32) (u2i : Int32) (u3i : Int32) (u4i : Int32) (o0 : cf_O) (r : (cf_O)), Fr (fr_M [] [91] []) O o0 → rc k u1i u2i u3i u4i o0 = some r → Fr (fr_M [] [91] []) O r) (F : Fr (fr_M [] [91] []) O o0) (h : fM_maskAll_109 rc v1 v2 v3 v4 s0 s1 o0 = some r) : Fr (fr_M [] [91] []) O r := by
  unfold fM_maskAll_109 at h
  obtain ⟨x_1, _, h⟩ := opq h
  obtain ⟨x_2, _, h⟩ := opq h
  have h := (ifn h).2
  obtain ⟨o_4, eo_4, h⟩ := opq h
  have Fo_4 : Fr (fr_M [] [91] []) O o_4 := by rw [eo_4]; exact fr_xp F rfl
  exact wB_M_maskAll_123 H Fo_4 h
theorem wB_M_maskAll_64 {O : cf_O} {rc : Nat → Int32 → Int32 → Int32 → Int32 → cf_O → Option ((cf_O))} {v1 : Int32} {v2 : Int32} {v3 : Int32} {s0 : Int32} {s1 : Int32} {o0 : cf_O} {r : (cf_O)} (H : ∀ (k : Nat) (u1i : Int32) (u2i : Int32) (u3i : Int32) (u4i : Int32) (o0 : cf_O) (r : (cf_O)), Fr (fr_M [] [91] []) O o0 → rc k u1i u2i u3i u4i o0 = some r → Fr (fr_M [] [91] []) O r) (F : Fr (fr_M [] [91] []) O o0) (h : fM_maskAll_64 rc v1 v2 v3 s0 s1 o0 = some r) : Fr (fr_M [] [91] []) O r := by
  unfold fM_maskAll_64 at h
  obtain ⟨x_1, _, h⟩ := opq h
  obtain ⟨q_2, _, h⟩ := bd h
  obtain ⟨x_5, _, h⟩ := opq h
  have h := (ifn h).2
  obtain ⟨x_7, _, h⟩ := opq h
  obtain ⟨x_8, _, h⟩ := opq h
  have h := (ifn h).2
  obtain ⟨x_10, _, h⟩ := opq h
  obtain ⟨q_11, _, h⟩ := bd h
  obtain ⟨x_14, _, h⟩ := opq h
  have h := (ifn h).2
  obtain ⟨x_16, _, h⟩ := opq h
  obtain ⟨x_17, _, h⟩ := opq h
  rcases ifc h with ⟨_, h⟩ | ⟨_, h⟩
  · exact wB_M_maskAll_109 H F h
  · exact wB_M_maskAll_109 H F h
theorem wB_M_maskAll_2 {O : cf_O} {rc : Nat → Int32 → Int32 → Int32 → Int32 → cf_O → Option ((cf_O))} {v1 : Int32} {v2 : Int32} {v3 : Int32} {o0 : cf_O} {r : (cf_O)} (H : ∀ (k : Nat) (u1i : Int32) (u2i : Int32) (u3i : Int32) (u4i : Int32) (o0 : cf_O) (r : (cf_O)), Fr (fr_M [] [91] []) O o0 → rc k u1i u2i u3i u4i o0 = some r → Fr (fr_M [] [91] []) O r) (F : Fr (fr_M [] [91] []) O o0) (h : fM_maskAll_2 rc v1 v2 v3 o0 = some r) : Fr (fr_M [] [91] []) O r := by
  unfold fM_maskAll_2 at h
  rcases ifc h with ⟨_, h⟩ | ⟨_, h⟩
  · rw [← Option.some.inj h]
    exact F
  · have h := (ifn h).2
    obtain ⟨o_3, eo_3, h⟩ := opq h
    have Fo_3 : Fr (fr_M [] [91] []) O o_3 := by rw [eo_3]; exact fr_xp F rfl
    obtain ⟨q_4, _, h⟩ := bd h
    rcases ifc h with ⟨_, h⟩ | ⟨_, h⟩
    · exact wB_M_maskAll_123 H Fo_3 h
    · obtain ⟨q_8, _, h⟩ := bd h
      obtain ⟨x_11, _, h⟩ := opq h
      have h := (ifn h).2
      obtain ⟨x_13, _, h⟩ := opq h
      obtain ⟨x_14, _, h⟩ := opq h
      have h := (ifn h).2
      obtain ⟨x_16, _, h⟩ := opq h
      obtain ⟨q_17, _, h⟩ := bd h
      obtain ⟨x_20, _, h⟩ := opq h
      have h := (ifn h).2
      obtain ⟨x_22, _, h⟩ := opq h
      obtain ⟨x_23, _, h⟩ := opq h
      rcases ifc h with ⟨_, h⟩ | ⟨_, h⟩
      · exact wB_M_maskAll_64 H Fo_3 h
      · exact wB_M_maskAll_64 H Fo_3 h
theorem wB_M_maskAll_0 {O : cf_O} {rc : Nat → Int32 → Int32 → Int32 → Int32 → cf_O → Option ((cf_O))} {v1 : Int32} {v2 : Int32} {o0 : cf_O} {r : (cf_O)} (H : ∀ (k : Nat) (u1i : Int32) (u2i : Int32) (u3i : Int32) (u4i : Int32) (o0 : cf_O) (r : (cf_O)), Fr (fr_M [] [91] []) O o0 → rc k u1i u2i u3i u4i o0 = some r → Fr (fr_M [] [91] []) O r) (F : Fr (fr_M [] [91] []) O o0) (h : fM_maskAll_0 rc v1 v2 o0 = some r) : Fr (fr_M [] [91] []) O r := by
  unfold fM_maskAll_0 at h
  exact H _ _ _ _ _ _ _ F h
theorem wG_M_maskAll {O : cf_O} : ∀ (n k : Nat) (u1i : Int32) (u2i : Int32) (u3i : Int32) (u4i : Int32) (o0 : cf_O) (r : (cf_O)), Fr (fr_M [] [91] []) O o0 → gM_maskAll n k u1i u2i u3i u4i o0 = some r → Fr (fr_M [] [91] []) O r := by
  intro n
  induction n with
  | zero => intro k u1i u2i u3i u4i o0 r F h; cases h
  | succ n ih =>
    intro k u1i u2i u3i u4i o0 r F h
    cases k with
    | zero => exact wB_M_maskAll_2 (rc := gM_maskAll n) ih F h
    | succ k =>
      cases k with
      | zero => exact wB_M_maskAll_126 (rc := gM_maskAll n) ih F h
      | succ k =>
        cases h
theorem wF_M_maskAll {v1 : Int32} {v2 : Int32} {o0 : cf_O} {r : (cf_O)} (h : fM_maskAll v1 v2 o0 = some r) : Fr (fr_M [] [91] []) o0 r := by
  unfold fM_maskAll at h
  exact wB_M_maskAll_0 (rc := gM_maskAll cfFU) (fun k u1i u2i u3i u4i o0 r F h => wG_M_maskAll cfFU k u1i u2i u3i u4i o0 r F h) fr_rfl h
theorem wB_M_keepMatch_M89_2 {O : cf_O} {rc : Nat → Int32 → Int32 → cf_O → Option ((cf_O))} {v2 : Int32} {v3 : Int32} {o0 : cf_O} {r : (cf_O)} (H : ∀ (k : Nat) (u2i : Int32) (u3i : Int32) (o0 : cf_O) (r : (cf_O)), Fr (fr_M [] [89] []) O o0 → rc k u2i u3i o0 = some r → Fr (fr_M [] [89] []) O r) (F : Fr (fr_M [] [89] []) O o0) (h : fM_keepMatch_M89_2 rc v2 v3 o0 = some r) : Fr (fr_M [] [89] []) O r := by
  unfold fM_keepMatch_M89_2 at h
  rcases ifc h with ⟨_, h⟩ | ⟨_, h⟩
  · rw [← Option.some.inj h]
    exact F
  · obtain ⟨x_2, _, h⟩ := opq h
    have h := (ifn h).2
    obtain ⟨x_4, _, h⟩ := opq h
    have h := (ifn h).2
    obtain ⟨o_6, eo_6, h⟩ := opq h
    have Fo_6 : Fr (fr_M [] [89] []) O o_6 := by rw [eo_6]; exact fr_xp F rfl
    obtain ⟨x_7, _, h⟩ := opq h
    exact H _ _ _ _ _ Fo_6 h
theorem wB_M_keepMatch_M89_0 {O : cf_O} {rc : Nat → Int32 → Int32 → cf_O → Option ((cf_O))} {v2 : Int32} {o0 : cf_O} {r : (cf_O)} (H : ∀ (k : Nat) (u2i : Int32) (u3i : Int32) (o0 : cf_O) (r : (cf_O)), Fr (fr_M [] [89] []) O o0 → rc k u2i u3i o0 = some r → Fr (fr_M [] [89] []) O r) (F : Fr (fr_M [] [89] []) O o0) (h : fM_keepMatch_M89_0 rc v2 o0 = some r) : Fr (fr_M [] [89] []) O r := by
  unfold fM_keepMatch_M89_0 at h
  exact H _ _ _ _ _ F h
theorem wG_M_keepMatch_M89 {O : cf_O} : ∀ (n k : Nat) (u2i : Int32) (u3i : Int32) (o0 : cf_O) (r : (cf_O)), Fr (fr_M [] [89] []) O o0 → gM_keepMatch_M89 n k u2i u3i o0 = some r → Fr (fr_M [] [89] []) O r := by
  intro n
  induction n with
  | zero => intro k u2i u3i o0 r F h; cases h
  | succ n ih =>
    intro k u2i u3i o0 r F h
    cases k with
    | zero => exact wB_M_keepMatch_M89_2 (rc := gM_keepMatch_M89 n) ih F h
    | succ k =>
      cases h
theorem wF_M_keepMatch_M89 {v2 : Int32} {o0 : cf_O} {r : (cf_O)} (h : fM_keepMatch_M89 v2 o0 = some r) : Fr (fr_M [] [89] []) o0 r := by
  unfold fM_keepMatch_M89 at h
  exact wB_M_keepMatch_M89_0 (rc := gM_keepMatch_M89 cfFU) (fun k u2i u3i o0 r F h => wG_M_keepMatch_M89 cfFU k u2i u3i o0 r F h) fr_rfl h
theorem wB_M_tryMatch_138 {O : cf_O} {rc : Nat → Int32 → Int32 → Int32 → Int32 → cf_O → Option ((cf_O))} {o0 : cf_O} {r : (cf_O)} (H : ∀ (k : Nat) (u1i : Int32) (u2i : Int32) (u3i : Int32) (u4i : Int32) (o0 : cf_O) (r : (cf_O)), Fr (fr_M [] [88, 89, 90] []) O o0 → rc k u1i u2i u3i u4i o0 = some r → Fr (fr_M [] [88, 89, 90] []) O r) (F : Fr (fr_M [] [88, 89, 90] []) O o0) (h : fM_tryMatch_138 rc o0 = some r) : Fr (fr_M [] [88, 89, 90] []) O r := by
  unfold fM_tryMatch_138 at h
  rw [← Option.some.inj h]
  exact F
theorem wB_M_tryMatch_120 {O : cf_O} {rc : Nat → Int32 → Int32 → Int32 → Int32 → cf_O → Option ((cf_O))} {v1 : Int32} {o0 : cf_O} {r : (cf_O)} (H : ∀ (k : Nat) (u1i : Int32) (u2i : Int32) (u3i : Int32) (u4i : Int32) (o0 : cf_O) (r : (cf_O)), Fr (fr_M [] [88, 89, 90] []) O o0 → rc k u1i u2i u3i u4i o0 = some r → Fr (fr_M [] [88, 89, 90] []) O r) (F : Fr (fr_M [] [88, 89, 90] []) O o0) (h : fM_tryMatch_120 rc v1 o0 = some r) : Fr (fr_M [] [88, 89, 90] []) O r := by
  unfold fM_tryMatch_120 at h
  have h := (ifn h).2
  obtain ⟨o_2, eo_2, h⟩ := opq h
  have Fo_2 : Fr (fr_M [] [88, 89, 90] []) O o_2 := by rw [eo_2]; exact fr_xp F rfl
  obtain ⟨x_3, _, h⟩ := opq h
  obtain ⟨q_4, hq_4, h⟩ := bd h
  have Fq_4 : Fr (fr_M [] [88, 89, 90] []) O q_4 := fr_tr Fo_2 (wF_M_keepMatch_M89 hq_4) rfl rfl rfl
  exact wB_M_tryMatch_138 H Fq_4 h
theorem wB_M_tryMatch_53 {O : cf_O} {rc : Nat → Int32 → Int32 → Int32 → Int32 → cf_O → Option ((cf_O))} {v1 : Int32} {v2 : Int32} {v4 : Int32} {s0 : Int32} {o0 : cf_O} {r : (cf_O)} (H : ∀ (k : Nat) (u1i : Int32) (u2i : Int32) (u3i : Int32) (u4i : Int32) (o0 : cf_O) (r : (cf_O)), Fr (fr_M [] [88, 89, 90] []) O o0 → rc k u1i u2i u3i u4i o0 = some r → Fr (fr_M [] [88, 89, 90] []) O r) (F : Fr (fr_M [] [88, 89, 90] []) O o0) (h : fM_tryMatch_53 rc v1 v2 v4 s0 o0 = some r) : Fr (fr_M [] [88, 89, 90] []) O r := by
  unfold fM_tryMatch_53 at h
  obtain ⟨x_1, _, h⟩ := opq h
  exact H _ _ _ _ _ _ _ F h
theorem wB_M_tryMatch_5 {O : cf_O} {rc : Nat → Int32 → Int32 → Int32 → Int32 → cf_O → Option ((cf_O))} {v1 : Int32} {v2 : Int32} {v3 : Int32} {v4 : Int32} {o0 : cf_O} {r : (cf_O)} (H : ∀ (k : Nat) (u1i : Int32) (u2i : Int32) (u3i : Int32) (u4i : Int32) (o0 : cf_O) (r : (cf_O)), Fr (fr_M [] [88, 89, 90] []) O o0 → rc k u1i u2i u3i u4i o0 = some r → Fr (fr_M [] [88, 89, 90] []) O r) (F : Fr (fr_M [] [88, 89, 90] []) O o0) (h : fM_tryMatch_5 rc v1 v2 v3 v4 o0 = some r) : Fr (fr_M [] [88, 89, 90] []) O r := by
  unfold fM_tryMatch_5 at h
  rcases ifc h with ⟨_, h⟩ | ⟨_, h⟩
  · have h := (ifn h).2
    obtain ⟨x_3, _, h⟩ := opq h
    obtain ⟨x_4, _, h⟩ := opq h
    obtain ⟨x_5, _, h⟩ := opq h
    have h := (ifn h).2
    obtain ⟨x_7, _, h⟩ := opq h
    obtain ⟨x_8, _, h⟩ := opq h
    have h := (ifn h).2
    obtain ⟨o_10, eo_10, h⟩ := opq h
    have Fo_10 : Fr (fr_M [] [88, 89, 90] []) O o_10 := by rw [eo_10]; exact fr_xp F rfl
    obtain ⟨q_11, _, h⟩ := bd h
    rcases ifc h with ⟨_, h⟩ | ⟨_, h⟩
    · exact wB_M_tryMatch_138 H Fo_10 h
    · have h := (ifn h).2
      obtain ⟨x_16, _, h⟩ := opq h
      rcases ifc h with ⟨_, h⟩ | ⟨_, h⟩
      · exact wB_M_tryMatch_120 H Fo_10 h
      · obtain ⟨x_18, _, h⟩ := opq h
        obtain ⟨q_19, _, h⟩ := bd h
        rcases ifc h with ⟨_, h⟩ | ⟨_, h⟩
        · exact wB_M_tryMatch_138 H Fo_10 h
        · exact wB_M_tryMatch_120 H Fo_10 h
  · obtain ⟨x_23, _, h⟩ := opq h
    have h := (ifn h).2
    obtain ⟨x_25, _, h⟩ := opq h
    have h := (ifn h).2
    obtain ⟨x_27, _, h⟩ := opq h
    rcases ifc h with ⟨_, h⟩ | ⟨_, h⟩
    · rw [← Option.some.inj h]
      exact F
    · obtain ⟨q_29, _, h⟩ := bd h
      rcases ifc h with ⟨_, h⟩ | ⟨_, h⟩
      · exact wB_M_tryMatch_53 H F h
      · obtain ⟨q_33, _, h⟩ := bd h
        exact wB_M_tryMatch_53 H F h
theorem wB_M_tryMatch_0 {O : cf_O} {rc : Nat → Int32 → Int32 → Int32 → Int32 → cf_O → Option ((cf_O))} {v1 : Int32} {v2 : Int32} {o0 : cf_O} {r : (cf_O)} (H : ∀ (k : Nat) (u1i : Int32) (u2i : Int32) (u3i : Int32) (u4i : Int32) (o0 : cf_O) (r : (cf_O)), Fr (fr_M [] [88, 89, 90] []) O o0 → rc k u1i u2i u3i u4i o0 = some r → Fr (fr_M [] [88, 89, 90] []) O r) (F : Fr (fr_M [] [88, 89, 90] []) O o0) (h : fM_tryMatch_0 rc v1 v2 o0 = some r) : Fr (fr_M [] [88, 89, 90] []) O r := by
  unfold fM_tryMatch_0 at h
  exact H _ _ _ _ _ _ _ F h
theorem wG_M_tryMatch {O : cf_O} : ∀ (n k : Nat) (u1i : Int32) (u2i : Int32) (u3i : Int32) (u4i : Int32) (o0 : cf_O) (r : (cf_O)), Fr (fr_M [] [88, 89, 90] []) O o0 → gM_tryMatch n k u1i u2i u3i u4i o0 = some r → Fr (fr_M [] [88, 89, 90] []) O r := by
  intro n
  induction n with
  | zero => intro k u1i u2i u3i u4i o0 r F h; cases h
  | succ n ih =>
    intro k u1i u2i u3i u4i o0 r F h
    cases k with
    | zero => exact wB_M_tryMatch_5 (rc := gM_tryMatch n) ih F h
    | succ k =>
      cases h
theorem wF_M_tryMatch {v1 : Int32} {v2 : Int32} {o0 : cf_O} {r : (cf_O)} (h : fM_tryMatch v1 v2 o0 = some r) : Fr (fr_M [] [88, 89, 90] []) o0 r := by
  unfold fM_tryMatch at h
  exact wB_M_tryMatch_0 (rc := gM_tryMatch cfFU) (fun k u1i u2i u3i u4i o0 r F h => wG_M_tryMatch cfFU k u1i u2i u3i u4i o0 r F h) fr_rfl h
theorem wB_M_tryCell_215 {O : cf_O} {rc : Nat → Int32 → Int32 → Int32 → Int32 → Int32 → Int32 → Int32 → Int32 → Int32 → cf_O → Option ((cf_O))} {v1 : Int32} {v2 : Int32} {v4 : Int32} {v5 : Int32} {v6 : Int32} {o0 : cf_O} {r : (cf_O)} (H : ∀ (k : Nat) (u1i : Int32) (u2i : Int32) (u4i : Int32) (u5i : Int32) (u6i : Int32) (u8i : Int32) (u9i : Int32) (u10i : Int32) (u11i : Int32) (o0 : cf_O) (r : (cf_O)), Fr (fr_M [] [88, 89, 90, 98] []) O o0 → rc k u1i u2i u4i u5i u6i u8i u9i u10i u11i o0 = some r → Fr (fr_M [] [88, 89, 90, 98] []) O r) (F : Fr (fr_M [] [88, 89, 90, 98] []) O o0) (h : fM_tryCell_215 rc v1 v2 v4 v5 v6 o0 = some r) : Fr (fr_M [] [88, 89, 90, 98] []) O r := by
  unfold fM_tryCell_215 at h
  obtain ⟨x_1, _, h⟩ := opq h
  exact H _ _ _ _ _ _ _ _ _ _ _ _ F h
theorem wB_M_tryCell_182 {O : cf_O} {rc : Nat → Int32 → Int32 → Int32 → Int32 → Int32 → Int32 → Int32 → Int32 → Int32 → cf_O → Option ((cf_O))} {v1 : Int32} {v2 : Int32} {v4 : Int32} {v5 : Int32} {v6 : Int32} {v9 : Int32} {v10 : Int32} {v11 : Int32} {s1 : Int32} {s2 : Int32} {o0 : cf_O} {r : (cf_O)} (H : ∀ (k : Nat) (u1i : Int32) (u2i : Int32) (u4i : Int32) (u5i : Int32) (u6i : Int32) (u8i : Int32) (u9i : Int32) (u10i : Int32) (u11i : Int32) (o0 : cf_O) (r : (cf_O)), Fr (fr_M [] [88, 89, 90, 98] []) O o0 → rc k u1i u2i u4i u5i u6i u8i u9i u10i u11i o0 = some r → Fr (fr_M [] [88, 89, 90, 98] []) O r) (F : Fr (fr_M [] [88, 89, 90, 98] []) O o0) (h : fM_tryCell_182 rc v1 v2 v4 v5 v6 v9 v10 v11 s1 s2 o0 = some r) : Fr (fr_M [] [88, 89, 90, 98] []) O r := by
  unfold fM_tryCell_182 at h
  have h := (ifn h).2
  obtain ⟨o_2, eo_2, h⟩ := opq h
  have Fo_2 : Fr (fr_M [] [88, 89, 90, 98] []) O o_2 := by rw [eo_2]; exact fr_xp F rfl
  obtain ⟨x_3, _, h⟩ := opq h
  exact H _ _ _ _ _ _ _ _ _ _ _ _ Fo_2 h
theorem wB_M_tryCell_133 {O : cf_O} {rc : Nat → Int32 → Int32 → Int32 → Int32 → Int32 → Int32 → Int32 → Int32 → Int32 → cf_O → Option ((cf_O))} {v1 : Int32} {v2 : Int32} {v4 : Int32} {v5 : Int32} {v6 : Int32} {v9 : Int32} {v10 : Int32} {v11 : Int32} {o0 : cf_O} {r : (cf_O)} (H : ∀ (k : Nat) (u1i : Int32) (u2i : Int32) (u4i : Int32) (u5i : Int32) (u6i : Int32) (u8i : Int32) (u9i : Int32) (u10i : Int32) (u11i : Int32) (o0 : cf_O) (r : (cf_O)), Fr (fr_M [] [88, 89, 90, 98] []) O o0 → rc k u1i u2i u4i u5i u6i u8i u9i u10i u11i o0 = some r → Fr (fr_M [] [88, 89, 90, 98] []) O r) (F : Fr (fr_M [] [88, 89, 90, 98] []) O o0) (h : fM_tryCell_133 rc v1 v2 v4 v5 v6 v9 v10 v11 o0 = some r) : Fr (fr_M [] [88, 89, 90, 98] []) O r := by
  unfold fM_tryCell_133 at h
  rcases ifc h with ⟨_, h⟩ | ⟨_, h⟩
  · obtain ⟨x_2, _, h⟩ := opq h
    obtain ⟨q_3, hq_3, h⟩ := bd h
    have Fq_3 : Fr (fr_M [] [88, 89, 90, 98] []) O q_3 := fr_tr F (wF_M_tryMatch hq_3) rfl rfl rfl
    obtain ⟨x_5, _, h⟩ := opq h
    obtain ⟨x_6, _, h⟩ := opq h
    obtain ⟨q_7, hq_7, h⟩ := bd h
    have Fq_7 : Fr (fr_M [] [88, 89, 90, 98] []) O q_7 := fr_tr Fq_3 (wF_M_tryMatch hq_7) rfl rfl rfl
    obtain ⟨x_9, _, h⟩ := opq h
    exact H _ _ _ _ _ _ _ _ _ _ _ _ Fq_7 h
  · obtain ⟨x_10, _, h⟩ := opq h
    rcases ifc h with ⟨_, h⟩ | ⟨_, h⟩
    · exact wB_M_tryCell_182 H F h
    · obtain ⟨x_12, _, h⟩ := opq h
      have h := (ifn h).2
      obtain ⟨x_14, _, h⟩ := opq h
      obtain ⟨x_15, _, h⟩ := opq h
      have h := (ifn h).2
      obtain ⟨x_17, _, h⟩ := opq h
      obtain ⟨x_18, _, h⟩ := opq h
      obtain ⟨x_19, _, h⟩ := opq h
      obtain ⟨x_20, _, h⟩ := opq h
      obtain ⟨x_21, _, h⟩ := opq h
      exact wB_M_tryCell_182 H F h
theorem wB_M_tryCell_110 {O : cf_O} {rc : Nat → Int32 → Int32 → Int32 → Int32 → Int32 → Int32 → Int32 → Int32 → Int32 → cf_O → Option ((cf_O))} {v1 : Int32} {v2 : Int32} {v4 : Int32} {v5 : Int32} {v6 : Int32} {v9 : Int32} {v10 : Int32} {o0 : cf_O} {r : (cf_O)} (H : ∀ (k : Nat) (u1i : Int32) (u2i : Int32) (u4i : Int32) (u5i : Int32) (u6i : Int32) (u8i : Int32) (u9i : Int32) (u10i : Int32) (u11i : Int32) (o0 : cf_O) (r : (cf_O)), Fr (fr_M [] [88, 89, 90, 98] []) O o0 → rc k u1i u2i u4i u5i u6i u8i u9i u10i u11i o0 = some r → Fr (fr_M [] [88, 89, 90, 98] []) O r) (F : Fr (fr_M [] [88, 89, 90, 98] []) O o0) (h : fM_tryCell_110 rc v1 v2 v4 v5 v6 v9 v10 o0 = some r) : Fr (fr_M [] [88, 89, 90, 98] []) O r := by
  unfold fM_tryCell_110 at h
  obtain ⟨x_1, _, h⟩ := opq h
  rcases ifc h with ⟨_, h⟩ | ⟨_, h⟩
  · exact wB_M_tryCell_215 H F h
  · obtain ⟨x_3, _, h⟩ := opq h
    obtain ⟨x_4, _, h⟩ := opq h
    rcases ifc h with ⟨_, h⟩ | ⟨_, h⟩
    · exact H _ _ _ _ _ _ _ _ _ _ _ _ F h
    · exact wB_M_tryCell_215 H F h
theorem wB_M_tryCell_65 {O : cf_O} {rc : Nat → Int32 → Int32 → Int32 → Int32 → Int32 → Int32 → Int32 → Int32 → Int32 → cf_O → Option ((cf_O))} {v1 : Int32} {v2 : Int32} {v4 : Int32} {v5 : Int32} {v6 : Int32} {v8 : Int32} {v9 : Int32} {v10 : Int32} {o0 : cf_O} {r : (cf_O)} (H : ∀ (k : Nat) (u1i : Int32) (u2i : Int32) (u4i : Int32) (u5i : Int32) (u6i : Int32) (u8i : Int32) (u9i : Int32) (u10i : Int32) (u11i : Int32) (o0 : cf_O) (r : (cf_O)), Fr (fr_M [] [88, 89, 90, 98] []) O o0 → rc k u1i u2i u4i u5i u6i u8i u9i u10i u11i o0 = some r → Fr (fr_M [] [88, 89, 90, 98] []) O r) (F : Fr (fr_M [] [88, 89, 90, 98] []) O o0) (h : fM_tryCell_65 rc v1 v2 v4 v5 v6 v8 v9 v10 o0 = some r) : Fr (fr_M [] [88, 89, 90, 98] []) O r := by
  unfold fM_tryCell_65 at h
  rcases ifc h with ⟨_, h⟩ | ⟨_, h⟩
  · exact H _ _ _ _ _ _ _ _ _ _ _ _ F h
  · have h := (ifn h).2
    obtain ⟨x_3, _, h⟩ := opq h
    have h := (ifn h).2
    obtain ⟨o_5, eo_5, h⟩ := opq h
    have Fo_5 : Fr (fr_M [] [88, 89, 90, 98] []) O o_5 := by rw [eo_5]; exact fr_xp F rfl
    have h := (ifn h).2
    obtain ⟨x_7, _, h⟩ := opq h
    have h := (ifn h).2
    obtain ⟨x_9, _, h⟩ := opq h
    obtain ⟨x_10, _, h⟩ := opq h
    obtain ⟨x_11, _, h⟩ := opq h
    obtain ⟨x_12, _, h⟩ := opq h
    exact H _ _ _ _ _ _ _ _ _ _ _ _ Fo_5 h
theorem wB_M_tryCell_42 {O : cf_O} {rc : Nat → Int32 → Int32 → Int32 → Int32 → Int32 → Int32 → Int32 → Int32 → Int32 → cf_O → Option ((cf_O))} {v1 : Int32} {v2 : Int32} {v4 : Int32} {v5 : Int32} {v6 : Int32} {o0 : cf_O} {r : (cf_O)} (H : ∀ (k : Nat) (u1i : Int32) (u2i : Int32) (u4i : Int32) (u5i : Int32) (u6i : Int32) (u8i : Int32) (u9i : Int32) (u10i : Int32) (u11i : Int32) (o0 : cf_O) (r : (cf_O)), Fr (fr_M [] [88, 89, 90, 98] []) O o0 → rc k u1i u2i u4i u5i u6i u8i u9i u10i u11i o0 = some r → Fr (fr_M [] [88, 89, 90, 98] []) O r) (F : Fr (fr_M [] [88, 89, 90, 98] []) O o0) (h : fM_tryCell_42 rc v1 v2 v4 v5 v6 o0 = some r) : Fr (fr_M [] [88, 89, 90, 98] []) O r := by
  unfold fM_tryCell_42 at h
  rcases ifc h with ⟨_, h⟩ | ⟨_, h⟩
  · rw [← Option.some.inj h]
    exact F
  · exact H _ _ _ _ _ _ _ _ _ _ _ _ F h
theorem wB_M_tryCell_30 {O : cf_O} {rc : Nat → Int32 → Int32 → Int32 → Int32 → Int32 → Int32 → Int32 → Int32 → Int32 → cf_O → Option ((cf_O))} {v1 : Int32} {v2 : Int32} {v3 : Int32} {v4 : Int32} {s0 : Int32} {o0 : cf_O} {r : (cf_O)} (H : ∀ (k : Nat) (u1i : Int32) (u2i : Int32) (u4i : Int32) (u5i : Int32) (u6i : Int32) (u8i : Int32) (u9i : Int32) (u10i : Int32) (u11i : Int32) (o0 : cf_O) (r : (cf_O)), Fr (fr_M [] [88, 89, 90, 98] []) O o0 → rc k u1i u2i u4i u5i u6i u8i u9i u10i u11i o0 = some r → Fr (fr_M [] [88, 89, 90, 98] []) O r) (F : Fr (fr_M [] [88, 89, 90, 98] []) O o0) (h : fM_tryCell_30 rc v1 v2 v3 v4 s0 o0 = some r) : Fr (fr_M [] [88, 89, 90, 98] []) O r := by
  unfold fM_tryCell_30 at h
  have h := (ifn h).2
  obtain ⟨o_2, eo_2, h⟩ := opq h
  have Fo_2 : Fr (fr_M [] [88, 89, 90, 98] []) O o_2 := by rw [eo_2]; exact fr_xp F rfl
  exact H _ _ _ _ _ _ _ _ _ _ _ _ Fo_2 h
theorem wB_M_tryCell_0 {O : cf_O} {rc : Nat → Int32 → Int32 → Int32 → Int32 → Int32 → Int32 → Int32 → Int32 → Int32 → cf_O → Option ((cf_O))} {v1 : Int32} {v2 : Int32} {v3 : Int32} {o0 : cf_O} {r : (cf_O)} (H : ∀ (k : Nat) (u1i : Int32) (u2i : Int32) (u4i : Int32) (u5i : Int32) (u6i : Int32) (u8i : Int32) (u9i : Int32) (u10i : Int32) (u11i : Int32) (o0 : cf_O) (r : (cf_O)), Fr (fr_M [] [88, 89, 90, 98] []) O o0 → rc k u1i u2i u4i u5i u6i u8i u9i u10i u11i o0 = some r → Fr (fr_M [] [88, 89, 90, 98] []) O r) (F : Fr (fr_M [] [88, 89, 90, 98] []) O o0) (h : fM_tryCell_0 rc v1 v2 v3 o0 = some r) : Fr (fr_M [] [88, 89, 90, 98] []) O r := by
  unfold fM_tryCell_0 at h
  have h := (ifn h).2
  obtain ⟨x_2, _, h⟩ := opq h
  rcases ifc h with ⟨_, h⟩ | ⟨_, h⟩
  · exact wB_M_tryCell_30 H F h
  · rcases ifc h with ⟨_, h⟩ | ⟨_, h⟩
    · exact wB_M_tryCell_30 H F h
    · exact wB_M_tryCell_30 H F h
theorem wG_M_tryCell {O : cf_O} : ∀ (n k : Nat) (u1i : Int32) (u2i : Int32) (u4i : Int32) (u5i : Int32) (u6i : Int32) (u8i : Int32) (u9i : Int32) (u10i : Int32) (u11i : Int32) (o0 : cf_O) (r : (cf_O)), Fr (fr_M [] [88, 89, 90, 98] []) O o0 → gM_tryCell n k u1i u2i u4i u5i u6i u8i u9i u10i u11i o0 = some r → Fr (fr_M [] [88, 89, 90, 98] []) O r := by
  intro n
  induction n with
  | zero => intro k u1i u2i u4i u5i u6i u8i u9i u10i u11i o0 r F h; cases h
  | succ n ih =>
    intro k u1i u2i u4i u5i u6i u8i u9i u10i u11i o0 r F h
    cases k with
    | zero => exact wB_M_tryCell_42 (rc := gM_tryCell n) ih F h
    | succ k =>
      cases k with
      | zero => exact wB_M_tryCell_65 (rc := gM_tryCell n) ih F h
      | succ k =>
        cases k with
        | zero => exact wB_M_tryCell_110 (rc := gM_tryCell n) ih F h
        | succ k =>
          cases k with
          | zero => exact wB_M_tryCell_133 (rc := gM_tryCell n) ih F h
          | succ k =>
            cases h
theorem wF_M_tryCell {v1 : Int32} {v2 : Int32} {v3 : Int32} {o0 : cf_O} {r : (cf_O)} (h : fM_tryCell v1 v2 v3 o0 = some r) : Fr (fr_M [] [88, 89, 90, 98] []) o0 r := by
  unfold fM_tryCell at h
  exact wB_M_tryCell_0 (rc := gM_tryCell cfFU) (fun k u1i u2i u4i u5i u6i u8i u9i u10i u11i o0 r F h => wG_M_tryCell cfFU k u1i u2i u4i u5i u6i u8i u9i u10i u11i o0 r F h) fr_rfl h
theorem wB_M_plainMatches_64 {O : cf_O} {rc : Nat → Int32 → Int32 → Int32 → cf_O → Option ((cf_O))} {v1 : Int32} {v2 : Int32} {v3 : Int32} {o0 : cf_O} {r : (cf_O)} (H : ∀ (k : Nat) (u1i : Int32) (u2i : Int32) (u3i : Int32) (o0 : cf_O) (r : (cf_O)), Fr (fr_M [] [88, 89, 90, 91, 98] []) O o0 → rc k u1i u2i u3i o0 = some r → Fr (fr_M [] [88, 89, 90, 91, 98] []) O r) (F : Fr (fr_M [] [88, 89, 90, 91, 98] []) O o0) (h : fM_plainMatches_64 rc v1 v2 v3 o0 = some r) : Fr (fr_M [] [88, 89, 90, 91, 98] []) O r := by
  unfold fM_plainMatches_64 at h
  obtain ⟨x_1, _, h⟩ := opq h
  exact H _ _ _ _ _ _ F h
theorem wB_M_plainMatches_30 {O : cf_O} {rc : Nat → Int32 → Int32 → Int32 → cf_O → Option ((cf_O))} {v1 : Int32} {v2 : Int32} {v3 : Int32} {o0 : cf_O} {r : (cf_O)} (H : ∀ (k : Nat) (u1i : Int32) (u2i : Int32) (u3i : Int32) (o0 : cf_O) (r : (cf_O)), Fr (fr_M [] [88, 89, 90, 91, 98] []) O o0 → rc k u1i u2i u3i o0 = some r → Fr (fr_M [] [88, 89, 90, 91, 98] []) O r) (F : Fr (fr_M [] [88, 89, 90, 91, 98] []) O o0) (h : fM_plainMatches_30 rc v1 v2 v3 o0 = some r) : Fr (fr_M [] [88, 89, 90, 91, 98] []) O r := by
  unfold fM_plainMatches_30 at h
  rcases ifc h with ⟨_, h⟩ | ⟨_, h⟩
  · obtain ⟨x_2, _, h⟩ := opq h
    exact H _ _ _ _ _ _ F h
  · obtain ⟨x_3, _, h⟩ := opq h
    obtain ⟨x_4, _, h⟩ := opq h
    have h := (ifn h).2
    obtain ⟨x_6, _, h⟩ := opq h
    have h := (ifn h).2
    obtain ⟨x_8, _, h⟩ := opq h
    rcases ifc h with ⟨_, h⟩ | ⟨_, h⟩
    · obtain ⟨q_10, hq_10, h⟩ := bd h
      have Fq_10 : Fr (fr_M [] [88, 89, 90, 91, 98] []) O q_10 := fr_tr F (wF_M_tryCell hq_10) rfl rfl rfl
      exact wB_M_plainMatches_64 H Fq_10 h
    · exact wB_M_plainMatches_64 H F h
theorem wB_M_plainMatches_6 {O : cf_O} {rc : Nat → Int32 → Int32 → Int32 → cf_O → Option ((cf_O))} {v1 : Int32} {v2 : Int32} {o0 : cf_O} {r : (cf_O)} (H : ∀ (k : Nat) (u1i : Int32) (u2i : Int32) (u3i : Int32) (o0 : cf_O) (r : (cf_O)), Fr (fr_M [] [88, 89, 90, 91, 98] []) O o0 → rc k u1i u2i u3i o0 = some r → Fr (fr_M [] [88, 89, 90, 91, 98] []) O r) (F : Fr (fr_M [] [88, 89, 90, 91, 98] []) O o0) (h : fM_plainMatches_6 rc v1 v2 o0 = some r) : Fr (fr_M [] [88, 89, 90, 91, 98] []) O r := by
  unfold fM_plainMatches_6 at h
  obtain ⟨x_1, _, h⟩ := opq h
  have h := (ifn h).2
  obtain ⟨x_3, _, h⟩ := opq h
  obtain ⟨x_4, _, h⟩ := opq h
  rcases ifc h with ⟨_, h⟩ | ⟨_, h⟩
  · rw [← Option.some.inj h]
    exact F
  · obtain ⟨q_6, hq_6, h⟩ := bd h
    have Fq_6 : Fr (fr_M [] [88, 89, 90, 91, 98] []) O q_6 := fr_tr F (wF_M_maskAll hq_6) rfl rfl rfl
    exact H _ _ _ _ _ _ Fq_6 h
theorem wB_M_plainMatches_0 {O : cf_O} {rc : Nat → Int32 → Int32 → Int32 → cf_O → Option ((cf_O))} {v1 : Int32} {o0 : cf_O} {r : (cf_O)} (H : ∀ (k : Nat) (u1i : Int32) (u2i : Int32) (u3i : Int32) (o0 : cf_O) (r : (cf_O)), Fr (fr_M [] [88, 89, 90, 91, 98] []) O o0 → rc k u1i u2i u3i o0 = some r → Fr (fr_M [] [88, 89, 90, 91, 98] []) O r) (F : Fr (fr_M [] [88, 89, 90, 91, 98] []) O o0) (h : fM_plainMatches_0 rc v1 o0 = some r) : Fr (fr_M [] [88, 89, 90, 91, 98] []) O r := by
  unfold fM_plainMatches_0 at h
  obtain ⟨x_1, _, h⟩ := opq h
  exact H _ _ _ _ _ _ F h
theorem wG_M_plainMatches {O : cf_O} : ∀ (n k : Nat) (u1i : Int32) (u2i : Int32) (u3i : Int32) (o0 : cf_O) (r : (cf_O)), Fr (fr_M [] [88, 89, 90, 91, 98] []) O o0 → gM_plainMatches n k u1i u2i u3i o0 = some r → Fr (fr_M [] [88, 89, 90, 91, 98] []) O r := by
  intro n
  induction n with
  | zero => intro k u1i u2i u3i o0 r F h; cases h
  | succ n ih =>
    intro k u1i u2i u3i o0 r F h
    cases k with
    | zero => exact wB_M_plainMatches_6 (rc := gM_plainMatches n) ih F h
    | succ k =>
      cases k with
      | zero => exact wB_M_plainMatches_30 (rc := gM_plainMatches n) ih F h
      | succ k =>
        cases h
theorem wF_M_plainMatches {v1 : Int32} {o0 : cf_O} {r : (cf_O)} (h : fM_plainMatches v1 o0 = some r) : Fr (fr_M [] [88, 89, 90, 91, 98] []) o0 r := by
  unfold fM_plainMatches at h
  exact wB_M_plainMatches_0 (rc := gM_plainMatches cfFU) (fun k u1i u2i u3i o0 r F h => wG_M_plainMatches cfFU k u1i u2i u3i o0 r F h) fr_rfl h
theorem wB_M_keepMatch_M87_2 {O : cf_O} {rc : Nat → Int32 → Int32 → cf_O → Option ((cf_O))} {v2 : Int32} {v3 : Int32} {o0 : cf_O} {r : (cf_O)} (H : ∀ (k : Nat) (u2i : Int32) (u3i : Int32) (o0 : cf_O) (r : (cf_O)), Fr (fr_M [] [87] []) O o0 → rc k u2i u3i o0 = some r → Fr (fr_M [] [87] []) O r) (F : Fr (fr_M [] [87] []) O o0) (h : fM_keepMatch_M87_2 rc v2 v3 o0 = some r) : Fr (fr_M [] [87] []) O r := by
  unfold fM_keepMatch_M87_2 at h
  rcases ifc h with ⟨_, h⟩ | ⟨_, h⟩
  · rw [← Option.some.inj h]
    exact F
  · obtain ⟨x_2, _, h⟩ := opq h
    have h := (ifn h).2
    obtain ⟨x_4, _, h⟩ := opq h
    have h := (ifn h).2
    obtain ⟨o_6, eo_6, h⟩ := opq h
    have Fo_6 : Fr (fr_M [] [87] []) O o_6 := by rw [eo_6]; exact fr_xp F rfl
    obtain ⟨x_7, _, h⟩ := opq h
    exact H _ _ _ _ _ Fo_6 h
theorem wB_M_keepMatch_M87_0 {O : cf_O} {rc : Nat → Int32 → Int32 → cf_O → Option ((cf_O))} {v2 : Int32} {o0 : cf_O} {r : (cf_O)} (H : ∀ (k : Nat) (u2i : Int32) (u3i : Int32) (o0 : cf_O) (r : (cf_O)), Fr (fr_M [] [87] []) O o0 → rc k u2i u3i o0 = some r → Fr (fr_M [] [87] []) O r) (F : Fr (fr_M [] [87] []) O o0) (h : fM_keepMatch_M87_0 rc v2 o0 = some r) : Fr (fr_M [] [87] []) O r := by
  unfold fM_keepMatch_M87_0 at h
  exact H _ _ _ _ _ F h
theorem wG_M_keepMatch_M87 {O : cf_O} : ∀ (n k : Nat) (u2i : Int32) (u3i : Int32) (o0 : cf_O) (r : (cf_O)), Fr (fr_M [] [87] []) O o0 → gM_keepMatch_M87 n k u2i u3i o0 = some r → Fr (fr_M [] [87] []) O r := by
  intro n
  induction n with
  | zero => intro k u2i u3i o0 r F h; cases h
  | succ n ih =>
    intro k u2i u3i o0 r F h
    cases k with
    | zero => exact wB_M_keepMatch_M87_2 (rc := gM_keepMatch_M87 n) ih F h
    | succ k =>
      cases h
theorem wF_M_keepMatch_M87 {v2 : Int32} {o0 : cf_O} {r : (cf_O)} (h : fM_keepMatch_M87 v2 o0 = some r) : Fr (fr_M [] [87] []) o0 r := by
  unfold fM_keepMatch_M87 at h
  exact wB_M_keepMatch_M87_0 (rc := gM_keepMatch_M87 cfFU) (fun k u2i u3i o0 r F h => wG_M_keepMatch_M87 cfFU k u2i u3i o0 r F h) fr_rfl h
theorem wB_M_make_308 {O : cf_O} {rc : Nat → Int32 → Int32 → Int32 → Int32 → Int32 → cf_O → Option ((cf_O))} {o0 : cf_O} {r : (cf_O)} (H : ∀ (k : Nat) (u1i : Int32) (u2i : Int32) (u3i : Int32) (u4i : Int32) (u5i : Int32) (o0 : cf_O) (r : (cf_O)), Fr (fr_M [] [86, 87, 90] []) O o0 → rc k u1i u2i u3i u4i u5i o0 = some r → Fr (fr_M [] [86, 87, 90] []) O r) (F : Fr (fr_M [] [86, 87, 90] []) O o0) (h : fM_make_308 rc o0 = some r) : Fr (fr_M [] [86, 87, 90] []) O r := by
  unfold fM_make_308 at h
  rw [← Option.some.inj h]
  exact F
theorem wB_M_make_302 {O : cf_O} {rc : Nat → Int32 → Int32 → Int32 → Int32 → Int32 → cf_O → Option ((cf_O))} {v1 : Int32} {v3 : Int32} {v4 : Int32} {v5 : Int32} {o0 : cf_O} {r : (cf_O)} (H : ∀ (k : Nat) (u1i : Int32) (u2i : Int32) (u3i : Int32) (u4i : Int32) (u5i : Int32) (o0 : cf_O) (r : (cf_O)), Fr (fr_M [] [86, 87, 90] []) O o0 → rc k u1i u2i u3i u4i u5i o0 = some r → Fr (fr_M [] [86, 87, 90] []) O r) (F : Fr (fr_M [] [86, 87, 90] []) O o0) (h : fM_make_302 rc v1 v3 v4 v5 o0 = some r) : Fr (fr_M [] [86, 87, 90] []) O r := by
  unfold fM_make_302 at h
  obtain ⟨x_1, _, h⟩ := opq h
  exact H _ _ _ _ _ _ _ _ F h
theorem wB_M_make_239 {O : cf_O} {rc : Nat → Int32 → Int32 → Int32 → Int32 → Int32 → cf_O → Option ((cf_O))} {v1 : Int32} {v3 : Int32} {v4 : Int32} {v5 : Int32} {v6 : Int32} {v7 : Int32} {s0 : Int32} {o0 : cf_O} {r : (cf_O)} (H : ∀ (k : Nat) (u1i : Int32) (u2i : Int32) (u3i : Int32) (u4i : Int32) (u5i : Int32) (o0 : cf_O) (r : (cf_O)), Fr (fr_M [] [86, 87, 90] []) O o0 → rc k u1i u2i u3i u4i u5i o0 = some r → Fr (fr_M [] [86, 87, 90] []) O r) (F : Fr (fr_M [] [86, 87, 90] []) O o0) (h : fM_make_239 rc v1 v3 v4 v5 v6 v7 s0 o0 = some r) : Fr (fr_M [] [86, 87, 90] []) O r := by
  unfold fM_make_239 at h
  rcases ifc h with ⟨_, h⟩ | ⟨_, h⟩
  · exact wB_M_make_302 H F h
  · have h := (ifn h).2
    obtain ⟨o_3, eo_3, h⟩ := opq h
    have Fo_3 : Fr (fr_M [] [86, 87, 90] []) O o_3 := by rw [eo_3]; exact fr_xp F rfl
    have h := (ifn h).2
    obtain ⟨o_5, eo_5, h⟩ := opq h
    have Fo_5 : Fr (fr_M [] [86, 87, 90] []) O o_5 := by rw [eo_5]; exact fr_xp Fo_3 rfl
    have h := (ifn h).2
    obtain ⟨o_7, eo_7, h⟩ := opq h
    have Fo_7 : Fr (fr_M [] [86, 87, 90] []) O o_7 := by rw [eo_7]; exact fr_xp Fo_5 rfl
    obtain ⟨x_8, _, h⟩ := opq h
    have h := (ifn h).2
    obtain ⟨o_10, eo_10, h⟩ := opq h
    have Fo_10 : Fr (fr_M [] [86, 87, 90] []) O o_10 := by rw [eo_10]; exact fr_xp Fo_7 rfl
    have h := (ifn h).2
    obtain ⟨o_12, eo_12, h⟩ := opq h
    have Fo_12 : Fr (fr_M [] [86, 87, 90] []) O o_12 := by rw [eo_12]; exact fr_xp Fo_10 rfl
    have h := (ifn h).2
    obtain ⟨o_14, eo_14, h⟩ := opq h
    have Fo_14 : Fr (fr_M [] [86, 87, 90] []) O o_14 := by rw [eo_14]; exact fr_xp Fo_12 rfl
    obtain ⟨q_15, hq_15, h⟩ := bd h
    have Fq_15 : Fr (fr_M [] [86, 87, 90] []) O q_15 := fr_tr Fo_14 (wF_M_keepMatch_M87 hq_15) rfl rfl rfl
    exact wB_M_make_302 H Fq_15 h
theorem wB_M_make_238 {O : cf_O} {rc : Nat → Int32 → Int32 → Int32 → Int32 → Int32 → cf_O → Option ((cf_O))} {v1 : Int32} {v3 : Int32} {v4 : Int32} {v5 : Int32} {v6 : Int32} {v7 : Int32} {o0 : cf_O} {r : (cf_O)} (H : ∀ (k : Nat) (u1i : Int32) (u2i : Int32) (u3i : Int32) (u4i : Int32) (u5i : Int32) (o0 : cf_O) (r : (cf_O)), Fr (fr_M [] [86, 87, 90] []) O o0 → rc k u1i u2i u3i u4i u5i o0 = some r → Fr (fr_M [] [86, 87, 90] []) O r) (F : Fr (fr_M [] [86, 87, 90] []) O o0) (h : fM_make_238 rc v1 v3 v4 v5 v6 v7 o0 = some r) : Fr (fr_M [] [86, 87, 90] []) O r := by
  unfold fM_make_238 at h
  exact wB_M_make_239 H F h
theorem wB_M_make_234 {O : cf_O} {rc : Nat → Int32 → Int32 → Int32 → Int32 → Int32 → cf_O → Option ((cf_O))} {v1 : Int32} {v3 : Int32} {v4 : Int32} {v5 : Int32} {v6 : Int32} {v7 : Int32} {o0 : cf_O} {r : (cf_O)} (H : ∀ (k : Nat) (u1i : Int32) (u2i : Int32) (u3i : Int32) (u4i : Int32) (u5i : Int32) (o0 : cf_O) (r : (cf_O)), Fr (fr_M [] [86, 87, 90] []) O o0 → rc k u1i u2i u3i u4i u5i o0 = some r → Fr (fr_M [] [86, 87, 90] []) O r) (F : Fr (fr_M [] [86, 87, 90] []) O o0) (h : fM_make_234 rc v1 v3 v4 v5 v6 v7 o0 = some r) : Fr (fr_M [] [86, 87, 90] []) O r := by
  unfold fM_make_234 at h
  exact wB_M_make_239 H F h
theorem wB_M_make_106 {O : cf_O} {rc : Nat → Int32 → Int32 → Int32 → Int32 → Int32 → cf_O → Option ((cf_O))} {v1 : Int32} {v3 : Int32} {v4 : Int32} {v5 : Int32} {o0 : cf_O} {r : (cf_O)} (H : ∀ (k : Nat) (u1i : Int32) (u2i : Int32) (u3i : Int32) (u4i : Int32) (u5i : Int32) (o0 : cf_O) (r : (cf_O)), Fr (fr_M [] [86, 87, 90] []) O o0 → rc k u1i u2i u3i u4i u5i o0 = some r → Fr (fr_M [] [86, 87, 90] []) O r) (F : Fr (fr_M [] [86, 87, 90] []) O o0) (h : fM_make_106 rc v1 v3 v4 v5 o0 = some r) : Fr (fr_M [] [86, 87, 90] []) O r := by
  unfold fM_make_106 at h
  rcases ifc h with ⟨_, h⟩ | ⟨_, h⟩
  · exact wB_M_make_308 H F h
  · rcases ifc h with ⟨_, h⟩ | ⟨_, h⟩
    · exact wB_M_make_308 H F h
    · obtain ⟨x_3, _, h⟩ := opq h
      obtain ⟨x_4, _, h⟩ := opq h
      have h := (ifn h).2
      obtain ⟨x_6, _, h⟩ := opq h
      rcases ifc h with ⟨_, h⟩ | ⟨_, h⟩
      · obtain ⟨x_8, _, h⟩ := opq h
        obtain ⟨x_9, _, h⟩ := opq h
        have h := (ifn h).2
        obtain ⟨x_11, _, h⟩ := opq h
        rcases ifc h with ⟨_, h⟩ | ⟨_, h⟩
        · obtain ⟨x_13, _, h⟩ := opq h
          obtain ⟨x_14, _, h⟩ := opq h
          have h := (ifn h).2
          obtain ⟨x_16, _, h⟩ := opq h
          obtain ⟨x_17, _, h⟩ := opq h
          obtain ⟨x_18, _, h⟩ := opq h
          have h := (ifn h).2
          obtain ⟨x_20, _, h⟩ := opq h
          rcases ifc h with ⟨_, h⟩ | ⟨_, h⟩
          · exact wB_M_make_234 H F h
          · have h := (ifn h).2
            obtain ⟨x_23, _, h⟩ := opq h
            rcases ifc h with ⟨_, h⟩ | ⟨_, h⟩
            · exact wB_M_make_234 H F h
            · have h := (ifn h).2
              obtain ⟨x_26, _, h⟩ := opq h
              rcases ifc h with ⟨_, h⟩ | ⟨_, h⟩
              · obtain ⟨x_28, _, h⟩ := opq h
                have h := (ifn h).2
                obtain ⟨x_30, _, h⟩ := opq h
                obtain ⟨x_31, _, h⟩ := opq h
                have h := (ifn h).2
                obtain ⟨x_33, _, h⟩ := opq h
                obtain ⟨x_34, _, h⟩ := opq h
                have h := (ifn h).2
                obtain ⟨x_36, _, h⟩ := opq h
                rcases ifc h with ⟨_, h⟩ | ⟨_, h⟩
                · exact wB_M_make_238 H F h
                · exact wB_M_make_234 H F h
              · exact wB_M_make_238 H F h
        · exact wB_M_make_302 H F h
      · exact wB_M_make_302 H F h
theorem wB_M_make_101 {O : cf_O} {rc : Nat → Int32 → Int32 → Int32 → Int32 → Int32 → cf_O → Option ((cf_O))} {v1 : Int32} {v3 : Int32} {s0 : Int32} {o0 : cf_O} {r : (cf_O)} (H : ∀ (k : Nat) (u1i : Int32) (u2i : Int32) (u3i : Int32) (u4i : Int32) (u5i : Int32) (o0 : cf_O) (r : (cf_O)), Fr (fr_M [] [86, 87, 90] []) O o0 → rc k u1i u2i u3i u4i u5i o0 = some r → Fr (fr_M [] [86, 87, 90] []) O r) (F : Fr (fr_M [] [86, 87, 90] []) O o0) (h : fM_make_101 rc v1 v3 s0 o0 = some r) : Fr (fr_M [] [86, 87, 90] []) O r := by
  unfold fM_make_101 at h
  exact H _ _ _ _ _ _ _ _ F h
theorem wB_M_make_82 {O : cf_O} {rc : Nat → Int32 → Int32 → Int32 → Int32 → Int32 → cf_O → Option ((cf_O))} {v1 : Int32} {v2 : Int32} {s0 : Int32} {o0 : cf_O} {r : (cf_O)} (H : ∀ (k : Nat) (u1i : Int32) (u2i : Int32) (u3i : Int32) (u4i : Int32) (u5i : Int32) (o0 : cf_O) (r : (cf_O)), Fr (fr_M [] [86, 87, 90] []) O o0 → rc k u1i u2i u3i u4i u5i o0 = some r → Fr (fr_M [] [86, 87, 90] []) O r) (F : Fr (fr_M [] [86, 87, 90] []) O o0) (h : fM_make_82 rc v1 v2 s0 o0 = some r) : Fr (fr_M [] [86, 87, 90] []) O r := by
  unfold fM_make_82 at h
  rcases ifc h with ⟨_, h⟩ | ⟨_, h⟩
  · obtain ⟨x_2, _, h⟩ := opq h
    obtain ⟨x_3, _, h⟩ := opq h
    have h := (ifn h).2
    obtain ⟨x_5, _, h⟩ := opq h
    exact wB_M_make_101 H F h
  · exact wB_M_make_101 H F h
theorem wB_M_make_77 {O : cf_O} {rc : Nat → Int32 → Int32 → Int32 → Int32 → Int32 → cf_O → Option ((cf_O))} {v1 : Int32} {v2 : Int32} {o0 : cf_O} {r : (cf_O)} (H : ∀ (k : Nat) (u1i : Int32) (u2i : Int32) (u3i : Int32) (u4i : Int32) (u5i : Int32) (o0 : cf_O) (r : (cf_O)), Fr (fr_M [] [86, 87, 90] []) O o0 → rc k u1i u2i u3i u4i u5i o0 = some r → Fr (fr_M [] [86, 87, 90] []) O r) (F : Fr (fr_M [] [86, 87, 90] []) O o0) (h : fM_make_77 rc v1 v2 o0 = some r) : Fr (fr_M [] [86, 87, 90] []) O r := by
  unfold fM_make_77 at h
  exact wB_M_make_82 H F h
theorem wB_M_make_54 {O : cf_O} {rc : Nat → Int32 → Int32 → Int32 → Int32 → Int32 → cf_O → Option ((cf_O))} {v1 : Int32} {o0 : cf_O} {r : (cf_O)} (H : ∀ (k : Nat) (u1i : Int32) (u2i : Int32) (u3i : Int32) (u4i : Int32) (u5i : Int32) (o0 : cf_O) (r : (cf_O)), Fr (fr_M [] [86, 87, 90] []) O o0 → rc k u1i u2i u3i u4i u5i o0 = some r → Fr (fr_M [] [86, 87, 90] []) O r) (F : Fr (fr_M [] [86, 87, 90] []) O o0) (h : fM_make_54 rc v1 o0 = some r) : Fr (fr_M [] [86, 87, 90] []) O r := by
  unfold fM_make_54 at h
  obtain ⟨x_1, _, h⟩ := opq h
  obtain ⟨q_2, _, h⟩ := bd h
  rcases ifc h with ⟨_, h⟩ | ⟨_, h⟩
  · obtain ⟨x_6, _, h⟩ := opq h
    have h := (ifn h).2
    obtain ⟨x_8, _, h⟩ := opq h
    rcases ifc h with ⟨_, h⟩ | ⟨_, h⟩
    · exact wB_M_make_82 H F h
    · exact wB_M_make_77 H F h
  · exact wB_M_make_77 H F h
theorem wB_M_make_14 {O : cf_O} {rc : Nat → Int32 → Int32 → Int32 → Int32 → Int32 → cf_O → Option ((cf_O))} {v1 : Int32} {v2 : Int32} {o0 : cf_O} {r : (cf_O)} (H : ∀ (k : Nat) (u1i : Int32) (u2i : Int32) (u3i : Int32) (u4i : Int32) (u5i : Int32) (o0 : cf_O) (r : (cf_O)), Fr (fr_M [] [86, 87, 90] []) O o0 → rc k u1i u2i u3i u4i u5i o0 = some r → Fr (fr_M [] [86, 87, 90] []) O r) (F : Fr (fr_M [] [86, 87, 90] []) O o0) (h : fM_make_14 rc v1 v2 o0 = some r) : Fr (fr_M [] [86, 87, 90] []) O r := by
  unfold fM_make_14 at h
  rcases ifc h with ⟨_, h⟩ | ⟨_, h⟩
  · exact wB_M_make_54 H F h
  · have h := (ifn h).2
    obtain ⟨x_3, _, h⟩ := opq h
    rcases ifc h with ⟨_, h⟩ | ⟨_, h⟩
    · exact wB_M_make_54 H F h
    · obtain ⟨x_5, _, h⟩ := opq h
      obtain ⟨x_6, _, h⟩ := opq h
      obtain ⟨x_7, _, h⟩ := opq h
      obtain ⟨x_8, _, h⟩ := opq h
      have h := (ifn h).2
      obtain ⟨x_10, _, h⟩ := opq h
      have h := (ifn h).2
      obtain ⟨o_12, eo_12, h⟩ := opq h
      have Fo_12 : Fr (fr_M [] [86, 87, 90] []) O o_12 := by rw [eo_12]; exact fr_xp F rfl
      obtain ⟨x_13, _, h⟩ := opq h
      exact H _ _ _ _ _ _ _ _ Fo_12 h
theorem wB_M_make_0 {O : cf_O} {rc : Nat → Int32 → Int32 → Int32 → Int32 → Int32 → cf_O → Option ((cf_O))} {v1 : Int32} {o0 : cf_O} {r : (cf_O)} (H : ∀ (k : Nat) (u1i : Int32) (u2i : Int32) (u3i : Int32) (u4i : Int32) (u5i : Int32) (o0 : cf_O) (r : (cf_O)), Fr (fr_M [] [86, 87, 90] []) O o0 → rc k u1i u2i u3i u4i u5i o0 = some r → Fr (fr_M [] [86, 87, 90] []) O r) (F : Fr (fr_M [] [86, 87, 90] []) O o0) (h : fM_make_0 rc v1 o0 = some r) : Fr (fr_M [] [86, 87, 90] []) O r := by
  unfold fM_make_0 at h
  have h := (ifn h).2
  obtain ⟨x_2, _, h⟩ := opq h
  have h := (ifn h).2
  obtain ⟨o_4, eo_4, h⟩ := opq h
  have Fo_4 : Fr (fr_M [] [86, 87, 90] []) O o_4 := by rw [eo_4]; exact fr_xp F rfl
  exact H _ _ _ _ _ _ _ _ Fo_4 h
theorem wG_M_make {O : cf_O} : ∀ (n k : Nat) (u1i : Int32) (u2i : Int32) (u3i : Int32) (u4i : Int32) (u5i : Int32) (o0 : cf_O) (r : (cf_O)), Fr (fr_M [] [86, 87, 90] []) O o0 → gM_make n k u1i u2i u3i u4i u5i o0 = some r → Fr (fr_M [] [86, 87, 90] []) O r := by
  intro n
  induction n with
  | zero => intro k u1i u2i u3i u4i u5i o0 r F h; cases h
  | succ n ih =>
    intro k u1i u2i u3i u4i u5i o0 r F h
    cases k with
    | zero => exact wB_M_make_14 (rc := gM_make n) ih F h
    | succ k =>
      cases k with
      | zero => exact wB_M_make_106 (rc := gM_make n) ih F h
      | succ k =>
        cases h
theorem wF_M_make {v1 : Int32} {o0 : cf_O} {r : (cf_O)} (h : fM_make v1 o0 = some r) : Fr (fr_M [] [86, 87, 90] []) o0 r := by
  unfold fM_make at h
  exact wB_M_make_0 (rc := gM_make cfFU) (fun k u1i u2i u3i u4i u5i o0 r F h => wG_M_make cfFU k u1i u2i u3i u4i u5i o0 r F h) fr_rfl h
theorem wB_M_makeAll_63 {O : cf_O} {rc : Nat → Int32 → cf_O → Option ((cf_O))} {v1 : Int32} {o0 : cf_O} {r : (cf_O)} (H : ∀ (k : Nat) (u1i : Int32) (o0 : cf_O) (r : (cf_O)), Fr (fr_M [] [86, 87, 88, 89, 90, 91, 98] []) O o0 → rc k u1i o0 = some r → Fr (fr_M [] [86, 87, 88, 89, 90, 91, 98] []) O r) (F : Fr (fr_M [] [86, 87, 88, 89, 90, 91, 98] []) O o0) (h : fM_makeAll_63 rc v1 o0 = some r) : Fr (fr_M [] [86, 87, 88, 89, 90, 91, 98] []) O r := by
  unfold fM_makeAll_63 at h
  obtain ⟨q_1, _, h⟩ := bd h
  obtain ⟨x_4, _, h⟩ := opq h
  rcases ifc h with ⟨_, h⟩ | ⟨_, h⟩
  · rw [← Option.some.inj h]
    exact F
  · obtain ⟨q_6, hq_6, h⟩ := bd h
    have Fq_6 : Fr (fr_M [] [86, 87, 88, 89, 90, 91, 98] []) O q_6 := fr_tr F (wF_M_plainMatches hq_6) rfl rfl rfl
    obtain ⟨x_8, _, h⟩ := opq h
    obtain ⟨q_9, hq_9, h⟩ := bd h
    have Fq_9 : Fr (fr_M [] [86, 87, 88, 89, 90, 91, 98] []) O q_9 := fr_tr Fq_6 (wF_M_make hq_9) rfl rfl rfl
    obtain ⟨x_11, _, h⟩ := opq h
    obtain ⟨x_12, _, h⟩ := opq h
    obtain ⟨q_13, hq_13, h⟩ := bd h
    have Fq_13 : Fr (fr_M [] [86, 87, 88, 89, 90, 91, 98] []) O q_13 := fr_tr Fq_9 (wF_M_make hq_13) rfl rfl rfl
    obtain ⟨x_15, _, h⟩ := opq h
    exact H _ _ _ _ Fq_13 h
theorem wB_M_makeAll_35 {O : cf_O} {rc : Nat → Int32 → cf_O → Option ((cf_O))} {v1 : Int32} {o0 : cf_O} {r : (cf_O)} (H : ∀ (k : Nat) (u1i : Int32) (o0 : cf_O) (r : (cf_O)), Fr (fr_M [] [86, 87, 88, 89, 90, 91, 98] []) O o0 → rc k u1i o0 = some r → Fr (fr_M [] [86, 87, 88, 89, 90, 91, 98] []) O r) (F : Fr (fr_M [] [86, 87, 88, 89, 90, 91, 98] []) O o0) (h : fM_makeAll_35 rc v1 o0 = some r) : Fr (fr_M [] [86, 87, 88, 89, 90, 91, 98] []) O r := by
  unfold fM_makeAll_35 at h
  obtain ⟨q_1, _, h⟩ := bd h
  rcases ifc h with ⟨_, h⟩ | ⟨_, h⟩
  · obtain ⟨q_5, _, h⟩ := bd h
    exact H _ _ _ _ F h
  · obtain ⟨x_8, _, h⟩ := opq h
    obtain ⟨x_9, _, h⟩ := opq h
    obtain ⟨q_10, hq_10, h⟩ := bd h
    have Fq_10 : Fr (fr_M [] [86, 87, 88, 89, 90, 91, 98] []) O q_10 := fr_tr F (wF_M_make hq_10) rfl rfl rfl
    obtain ⟨x_12, _, h⟩ := opq h
    exact H _ _ _ _ Fq_10 h
theorem wB_M_makeAll_2 {O : cf_O} {rc : Nat → Int32 → cf_O → Option ((cf_O))} {v1 : Int32} {o0 : cf_O} {r : (cf_O)} (H : ∀ (k : Nat) (u1i : Int32) (o0 : cf_O) (r : (cf_O)), Fr (fr_M [] [86, 87, 88, 89, 90, 91, 98] []) O o0 → rc k u1i o0 = some r → Fr (fr_M [] [86, 87, 88, 89, 90, 91, 98] []) O r) (F : Fr (fr_M [] [86, 87, 88, 89, 90, 91, 98] []) O o0) (h : fM_makeAll_2 rc v1 o0 = some r) : Fr (fr_M [] [86, 87, 88, 89, 90, 91, 98] []) O r := by
  unfold fM_makeAll_2 at h
  rcases ifc h with ⟨_, h⟩ | ⟨_, h⟩
  · exact H _ _ _ _ F h
  · obtain ⟨q_2, _, h⟩ := bd h
    have h := (ifn h).2
    obtain ⟨o_6, eo_6, h⟩ := opq h
    have Fo_6 : Fr (fr_M [] [86, 87, 88, 89, 90, 91, 98] []) O o_6 := by rw [eo_6]; exact fr_xp F rfl
    have h := (ifn h).2
    obtain ⟨o_8, eo_8, h⟩ := opq h
    have Fo_8 : Fr (fr_M [] [86, 87, 88, 89, 90, 91, 98] []) O o_8 := by rw [eo_8]; exact fr_xp Fo_6 rfl
    obtain ⟨x_9, _, h⟩ := opq h
    exact H _ _ _ _ Fo_8 h
theorem wB_M_makeAll_0 {O : cf_O} {rc : Nat → Int32 → cf_O → Option ((cf_O))} {o0 : cf_O} {r : (cf_O)} (H : ∀ (k : Nat) (u1i : Int32) (o0 : cf_O) (r : (cf_O)), Fr (fr_M [] [86, 87, 88, 89, 90, 91, 98] []) O o0 → rc k u1i o0 = some r → Fr (fr_M [] [86, 87, 88, 89, 90, 91, 98] []) O r) (F : Fr (fr_M [] [86, 87, 88, 89, 90, 91, 98] []) O o0) (h : fM_makeAll_0 rc o0 = some r) : Fr (fr_M [] [86, 87, 88, 89, 90, 91, 98] []) O r := by
  unfold fM_makeAll_0 at h
  exact H _ _ _ _ F h
theorem wG_M_makeAll {O : cf_O} : ∀ (n k : Nat) (u1i : Int32) (o0 : cf_O) (r : (cf_O)), Fr (fr_M [] [86, 87, 88, 89, 90, 91, 98] []) O o0 → gM_makeAll n k u1i o0 = some r → Fr (fr_M [] [86, 87, 88, 89, 90, 91, 98] []) O r := by
  intro n
  induction n with
  | zero => intro k u1i o0 r F h; cases h
  | succ n ih =>
    intro k u1i o0 r F h
    cases k with
    | zero => exact wB_M_makeAll_2 (rc := gM_makeAll n) ih F h
    | succ k =>
      cases k with
      | zero => exact wB_M_makeAll_35 (rc := gM_makeAll n) ih F h
      | succ k =>
        cases k with
        | zero => exact wB_M_makeAll_63 (rc := gM_makeAll n) ih F h
        | succ k =>
          cases h
theorem wF_M_makeAll {o0 : cf_O} {r : (cf_O)} (h : fM_makeAll o0 = some r) : Fr (fr_M [] [86, 87, 88, 89, 90, 91, 98] []) o0 r := by
  unfold fM_makeAll at h
  exact wB_M_makeAll_0 (rc := gM_makeAll cfFU) (fun k u1i o0 r F h => wG_M_makeAll cfFU k u1i o0 r F h) fr_rfl h
theorem wB_M_markAll_209 {O : cf_O} {rc : Nat → Int32 → Int32 → Int32 → Int32 → cf_O → Option ((Int32 × cf_O))} {v1 : Int32} {v2 : Int32} {v3 : Int32} {o0 : cf_O} {r : (Int32 × cf_O)} (H : ∀ (k : Nat) (u1i : Int32) (u2i : Int32) (u3i : Int32) (u4i : Int32) (o0 : cf_O) (r : (Int32 × cf_O)), Fr (fr_M [] [92] []) O o0 → rc k u1i u2i u3i u4i o0 = some r → Fr (fr_M [] [92] []) O r.2) (F : Fr (fr_M [] [92] []) O o0) (h : fM_markAll_209 rc v1 v2 v3 o0 = some r) : Fr (fr_M [] [92] []) O r.2 := by
  unfold fM_markAll_209 at h
  obtain ⟨x_1, _, h⟩ := opq h
  exact H _ _ _ _ _ _ _ F h
theorem wB_M_markAll_203 {O : cf_O} {rc : Nat → Int32 → Int32 → Int32 → Int32 → cf_O → Option ((Int32 × cf_O))} {v1 : Int32} {v2 : Int32} {v3 : Int32} {v4 : Int32} {o0 : cf_O} {r : (Int32 × cf_O)} (H : ∀ (k : Nat) (u1i : Int32) (u2i : Int32) (u3i : Int32) (u4i : Int32) (o0 : cf_O) (r : (Int32 × cf_O)), Fr (fr_M [] [92] []) O o0 → rc k u1i u2i u3i u4i o0 = some r → Fr (fr_M [] [92] []) O r.2) (F : Fr (fr_M [] [92] []) O o0) (h : fM_markAll_203 rc v1 v2 v3 v4 o0 = some r) : Fr (fr_M [] [92] []) O r.2 := by
  unfold fM_markAll_203 at h
  obtain ⟨x_1, _, h⟩ := opq h
  exact H _ _ _ _ _ _ _ F h
theorem wB_M_markAll_139 {O : cf_O} {rc : Nat → Int32 → Int32 → Int32 → Int32 → cf_O → Option ((Int32 × cf_O))} {v1 : Int32} {v2 : Int32} {v3 : Int32} {v4 : Int32} {o0 : cf_O} {r : (Int32 × cf_O)} (H : ∀ (k : Nat) (u1i : Int32) (u2i : Int32) (u3i : Int32) (u4i : Int32) (o0 : cf_O) (r : (Int32 × cf_O)), Fr (fr_M [] [92] []) O o0 → rc k u1i u2i u3i u4i o0 = some r → Fr (fr_M [] [92] []) O r.2) (F : Fr (fr_M [] [92] []) O o0) (h : fM_markAll_139 rc v1 v2 v3 v4 o0 = some r) : Fr (fr_M [] [92] []) O r.2 := by
  unfold fM_markAll_139 at h
  rcases ifc h with ⟨_, h⟩ | ⟨_, h⟩
  · exact wB_M_markAll_209 H F h
  · have h := (ifn h).2
    obtain ⟨x_3, _, h⟩ := opq h
    rcases ifc h with ⟨_, h⟩ | ⟨_, h⟩
    · exact wB_M_markAll_209 H F h
    · obtain ⟨x_5, _, h⟩ := opq h
      obtain ⟨x_6, _, h⟩ := opq h
      obtain ⟨x_7, _, h⟩ := opq h
      have h := (ifn h).2
      obtain ⟨x_9, _, h⟩ := opq h
      rcases ifc h with ⟨_, h⟩ | ⟨_, h⟩
      · exact wB_M_markAll_203 H F h
      · obtain ⟨q_11, _, h⟩ := bd h
        rcases ifc h with ⟨_, h⟩ | ⟨_, h⟩
        · exact wB_M_markAll_203 H F h
        · have h := (ifn h).2
          obtain ⟨x_16, _, h⟩ := opq h
          rcases ifc h with ⟨_, h⟩ | ⟨_, h⟩
          · have h := (ifn h).2
            obtain ⟨o_19, eo_19, h⟩ := opq h
            have Fo_19 : Fr (fr_M [] [92] []) O o_19 := by rw [eo_19]; exact fr_xp F rfl
            exact wB_M_markAll_203 H Fo_19 h
          · exact wB_M_markAll_203 H F h
theorem wB_M_markAll_132 {O : cf_O} {rc : Nat → Int32 → Int32 → Int32 → Int32 → cf_O → Option ((Int32 × cf_O))} {v1 : Int32} {v2 : Int32} {v3 : Int32} {o0 : cf_O} {r : (Int32 × cf_O)} (H : ∀ (k : Nat) (u1i : Int32) (u2i : Int32) (u3i : Int32) (u4i : Int32) (o0 : cf_O) (r : (Int32 × cf_O)), Fr (fr_M [] [92] []) O o0 → rc k u1i u2i u3i u4i o0 = some r → Fr (fr_M [] [92] []) O r.2) (F : Fr (fr_M [] [92] []) O o0) (h : fM_markAll_132 rc v1 v2 v3 o0 = some r) : Fr (fr_M [] [92] []) O r.2 := by
  unfold fM_markAll_132 at h
  rcases ifc h with ⟨_, h⟩ | ⟨_, h⟩
  · exact H _ _ _ _ _ _ _ F h
  · exact H _ _ _ _ _ _ _ F h
theorem wB_M_markAll_122 {O : cf_O} {rc : Nat → Int32 → Int32 → Int32 → Int32 → cf_O → Option ((Int32 × cf_O))} {v1 : Int32} {v2 : Int32} {o0 : cf_O} {r : (Int32 × cf_O)} (H : ∀ (k : Nat) (u1i : Int32) (u2i : Int32) (u3i : Int32) (u4i : Int32) (o0 : cf_O) (r : (Int32 × cf_O)), Fr (fr_M [] [92] []) O o0 → rc k u1i u2i u3i u4i o0 = some r → Fr (fr_M [] [92] []) O r.2) (F : Fr (fr_M [] [92] []) O o0) (h : fM_markAll_122 rc v1 v2 o0 = some r) : Fr (fr_M [] [92] []) O r.2 := by
  unfold fM_markAll_122 at h
  rcases ifc h with ⟨_, h⟩ | ⟨_, h⟩
  · have h := (ifn h).2
    rw [← Option.some.inj h]
    exact F
  · exact H _ _ _ _ _ _ _ F h
theorem wB_M_markAll_113 {O : cf_O} {rc : Nat → Int32 → Int32 → Int32 → Int32 → cf_O → Option ((Int32 × cf_O))} {v2 : Int32} {s0 : Int32} {o0 : cf_O} {r : (Int32 × cf_O)} (H : ∀ (k : Nat) (u1i : Int32) (u2i : Int32) (u3i : Int32) (u4i : Int32) (o0 : cf_O) (r : (Int32 × cf_O)), Fr (fr_M [] [92] []) O o0 → rc k u1i u2i u3i u4i o0 = some r → Fr (fr_M [] [92] []) O r.2) (F : Fr (fr_M [] [92] []) O o0) (h : fM_markAll_113 rc v2 s0 o0 = some r) : Fr (fr_M [] [92] []) O r.2 := by
  unfold fM_markAll_113 at h
  obtain ⟨x_1, _, h⟩ := opq h
  exact H _ _ _ _ _ _ _ F h
theorem wB_M_markAll_112 {O : cf_O} {rc : Nat → Int32 → Int32 → Int32 → Int32 → cf_O → Option ((Int32 × cf_O))} {v2 : Int32} {o0 : cf_O} {r : (Int32 × cf_O)} (H : ∀ (k : Nat) (u1i : Int32) (u2i : Int32) (u3i : Int32) (u4i : Int32) (o0 : cf_O) (r : (Int32 × cf_O)), Fr (fr_M [] [92] []) O o0 → rc k u1i u2i u3i u4i o0 = some r → Fr (fr_M [] [92] []) O r.2) (F : Fr (fr_M [] [92] []) O o0) (h : fM_markAll_112 rc v2 o0 = some r) : Fr (fr_M [] [92] []) O r.2 := by
  unfold fM_markAll_112 at h
  exact wB_M_markAll_113 H F h
theorem wB_M_markAll_108 {O : cf_O} {rc : Nat → Int32 → Int32 → Int32 → Int32 → cf_O → Option ((Int32 × cf_O))} {v2 : Int32} {o0 : cf_O} {r : (Int32 × cf_O)} (H : ∀ (k : Nat) (u1i : Int32) (u2i : Int32) (u3i : Int32) (u4i : Int32) (o0 : cf_O) (r : (Int32 × cf_O)), Fr (fr_M [] [92] []) O o0 → rc k u1i u2i u3i u4i o0 = some r → Fr (fr_M [] [92] []) O r.2) (F : Fr (fr_M [] [92] []) O o0) (h : fM_markAll_108 rc v2 o0 = some r) : Fr (fr_M [] [92] []) O r.2 := by
  unfold fM_markAll_108 at h
  exact wB_M_markAll_113 H F h
theorem wB_M_markAll_76 {O : cf_O} {rc : Nat → Int32 → Int32 → Int32 → Int32 → cf_O → Option ((Int32 × cf_O))} {v1 : Int32} {v2 : Int32} {s1 : Int32} {s2 : Int32} {o0 : cf_O} {r : (Int32 × cf_O)} (H : ∀ (k : Nat) (u1i : Int32) (u2i : Int32) (u3i : Int32) (u4i : Int32) (o0 : cf_O) (r : (Int32 × cf_O)), Fr (fr_M [] [92] []) O o0 → rc k u1i u2i u3i u4i o0 = some r → Fr (fr_M [] [92] []) O r.2) (F : Fr (fr_M [] [92] []) O o0) (h : fM_markAll_76 rc v1 v2 s1 s2 o0 = some r) : Fr (fr_M [] [92] []) O r.2 := by
  unfold fM_markAll_76 at h
  have h := (ifn h).2
  obtain ⟨o_2, eo_2, h⟩ := opq h
  have Fo_2 : Fr (fr_M [] [92] []) O o_2 := by rw [eo_2]; exact fr_xp F rfl
  rcases ifc h with ⟨_, h⟩ | ⟨_, h⟩
  · exact wB_M_markAll_112 H Fo_2 h
  · have h := (ifn h).2
    obtain ⟨x_5, _, h⟩ := opq h
    obtain ⟨q_6, _, h⟩ := bd h
    rcases ifc h with ⟨_, h⟩ | ⟨_, h⟩
    · exact wB_M_markAll_108 H Fo_2 h
    · have h := (ifn h).2
      obtain ⟨x_11, _, h⟩ := opq h
      have h := (ifn h).2
      obtain ⟨x_13, _, h⟩ := opq h
      rcases ifc h with ⟨_, h⟩ | ⟨_, h⟩
      · exact wB_M_markAll_112 H Fo_2 h
      · exact wB_M_markAll_108 H Fo_2 h
theorem wB_M_markAll_71 {O : cf_O} {rc : Nat → Int32 → Int32 → Int32 → Int32 → cf_O → Option ((Int32 × cf_O))} {v1 : Int32} {v2 : Int32} {s1 : Int32} {o0 : cf_O} {r : (Int32 × cf_O)} (H : ∀ (k : Nat) (u1i : Int32) (u2i : Int32) (u3i : Int32) (u4i : Int32) (o0 : cf_O) (r : (Int32 × cf_O)), Fr (fr_M [] [92] []) O o0 → rc k u1i u2i u3i u4i o0 = some r → Fr (fr_M [] [92] []) O r.2) (F : Fr (fr_M [] [92] []) O o0) (h : fM_markAll_71 rc v1 v2 s1 o0 = some r) : Fr (fr_M [] [92] []) O r.2 := by
  unfold fM_markAll_71 at h
  exact wB_M_markAll_76 H F h
theorem wB_M_markAll_26 {O : cf_O} {rc : Nat → Int32 → Int32 → Int32 → Int32 → cf_O → Option ((Int32 × cf_O))} {v1 : Int32} {v2 : Int32} {o0 : cf_O} {r : (Int32 × cf_O)} (H : ∀ (k : Nat) (u1i : Int32) (u2i : Int32) (u3i : Int32) (u4i : Int32) (o0 : cf_O) (r : (Int32 × cf_O)), Fr (fr_M [] [92] []) O o0 → rc k u1i u2i u3i u4i o0 = some r → Fr (fr_M [] [92] []) O r.2) (F : Fr (fr_M [] [92] []) O o0) (h : fM_markAll_26 rc v1 v2 o0 = some r) : Fr (fr_M [] [92] []) O r.2 := by
  unfold fM_markAll_26 at h
  rcases ifc h with ⟨_, h⟩ | ⟨_, h⟩
  · exact H _ _ _ _ _ _ _ F h
  · have h := (ifn h).2
    obtain ⟨x_3, _, h⟩ := opq h
    have h := (ifn h).2
    obtain ⟨x_5, _, h⟩ := opq h
    have h := (ifn h).2
    obtain ⟨x_7, _, h⟩ := opq h
    rcases ifc h with ⟨_, h⟩ | ⟨_, h⟩
    · have h := (ifn h).2
      obtain ⟨x_10, _, h⟩ := opq h
      obtain ⟨q_11, _, h⟩ := bd h
      rcases ifc h with ⟨_, h⟩ | ⟨_, h⟩
      · exact wB_M_markAll_76 H F h
      · exact wB_M_markAll_71 H F h
    · exact wB_M_markAll_71 H F h
theorem wB_M_markAll_2 {O : cf_O} {rc : Nat → Int32 → Int32 → Int32 → Int32 → cf_O → Option ((Int32 × cf_O))} {v1 : Int32} {o0 : cf_O} {r : (Int32 × cf_O)} (H : ∀ (k : Nat) (u1i : Int32) (u2i : Int32) (u3i : Int32) (u4i : Int32) (o0 : cf_O) (r : (Int32 × cf_O)), Fr (fr_M [] [92] []) O o0 → rc k u1i u2i u3i u4i o0 = some r → Fr (fr_M [] [92] []) O r.2) (F : Fr (fr_M [] [92] []) O o0) (h : fM_markAll_2 rc v1 o0 = some r) : Fr (fr_M [] [92] []) O r.2 := by
  unfold fM_markAll_2 at h
  rcases ifc h with ⟨_, h⟩ | ⟨_, h⟩
  · exact H _ _ _ _ _ _ _ F h
  · have h := (ifn h).2
    obtain ⟨o_3, eo_3, h⟩ := opq h
    have Fo_3 : Fr (fr_M [] [92] []) O o_3 := by rw [eo_3]; exact fr_xp F rfl
    obtain ⟨x_4, _, h⟩ := opq h
    exact H _ _ _ _ _ _ _ Fo_3 h
theorem wB_M_markAll_0 {O : cf_O} {rc : Nat → Int32 → Int32 → Int32 → Int32 → cf_O → Option ((Int32 × cf_O))} {o0 : cf_O} {r : (Int32 × cf_O)} (H : ∀ (k : Nat) (u1i : Int32) (u2i : Int32) (u3i : Int32) (u4i : Int32) (o0 : cf_O) (r : (Int32 × cf_O)), Fr (fr_M [] [92] []) O o0 → rc k u1i u2i u3i u4i o0 = some r → Fr (fr_M [] [92] []) O r.2) (F : Fr (fr_M [] [92] []) O o0) (h : fM_markAll_0 rc o0 = some r) : Fr (fr_M [] [92] []) O r.2 := by
  unfold fM_markAll_0 at h
  exact H _ _ _ _ _ _ _ F h
theorem wG_M_markAll {O : cf_O} : ∀ (n k : Nat) (u1i : Int32) (u2i : Int32) (u3i : Int32) (u4i : Int32) (o0 : cf_O) (r : (Int32 × cf_O)), Fr (fr_M [] [92] []) O o0 → gM_markAll n k u1i u2i u3i u4i o0 = some r → Fr (fr_M [] [92] []) O r.2 := by
  intro n
  induction n with
  | zero => intro k u1i u2i u3i u4i o0 r F h; cases h
  | succ n ih =>
    intro k u1i u2i u3i u4i o0 r F h
    cases k with
    | zero => exact wB_M_markAll_2 (rc := gM_markAll n) ih F h
    | succ k =>
      cases k with
      | zero => exact wB_M_markAll_26 (rc := gM_markAll n) ih F h
      | succ k =>
        cases k with
        | zero => exact wB_M_markAll_122 (rc := gM_markAll n) ih F h
        | succ k =>
          cases k with
          | zero => exact wB_M_markAll_132 (rc := gM_markAll n) ih F h
          | succ k =>
            cases k with
            | zero => exact wB_M_markAll_139 (rc := gM_markAll n) ih F h
            | succ k =>
              cases h
theorem wF_M_markAll {o0 : cf_O} {r : (Int32 × cf_O)} (h : fM_markAll o0 = some r) : Fr (fr_M [] [92] []) o0 r.2 := by
  unfold fM_markAll at h
  exact wB_M_markAll_0 (rc := gM_markAll cfFU) (fun k u1i u2i u3i u4i o0 r F h => wG_M_markAll cfFU k u1i u2i u3i u4i o0 r F h) fr_rfl h
