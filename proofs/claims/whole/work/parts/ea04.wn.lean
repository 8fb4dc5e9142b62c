theorem opq {α β : Type} {x : α} {f : α → Option β} {r : β} (h : op_k x f = some r) : ∃ y : α, y = x ∧ f y = some r := ⟨x, rfl, h⟩
theorem wB_M_alone_67 {O : cf_O} {s1 : Int32} {s2 : Int32} {o0 : cf_O} {r : (cf_O)} (F : Fr (fr_M [] [58, 59, 60, 61] []) O o0) (h : fM_alone_67 s1 s2 o0 = some r) : Fr (fr_M [] [58, 59, 60, 61] []) O r := by
  unfold fM_alone_67 at h
  have h := (ifn h).2
  obtain ⟨o_2, eo_2, h⟩ := opq h
  have Fo_2 : Fr (fr_M [] [58, 59, 60, 61] []) O o_2 := by rw [eo_2]; exact fr_xp F rfl
  rw [← Option.some.inj h]
  exact Fo_2
theorem wB_M_alone_38 {O : cf_O} {v1 : Int32} {v2 : Int32} {s1 : Int32} {s2 : Int32} {o0 : cf_O} {r : (cf_O)} (F : Fr (fr_M [] [58, 59, 60, 61] []) O o0) (h : fM_alone_38 v1 v2 s1 s2 o0 = some r) : Fr (fr_M [] [58, 59, 60, 61] []) O r := by
  unfold fM_alone_38 at h
  have h := (ifn h).2
  obtain ⟨o_2, eo_2, h⟩ := opq h
  have Fo_2 : Fr (fr_M [] [58, 59, 60, 61] []) O o_2 := by rw [eo_2]; exact fr_xp F rfl
  obtain ⟨x_3, _, h⟩ := opq h
  have h := (ifn h).2
  obtain ⟨o_5, eo_5, h⟩ := opq h
  have Fo_5 : Fr (fr_M [] [58, 59, 60, 61] []) O o_5 := by rw [eo_5]; exact fr_xp Fo_2 rfl
  rcases ifc h with ⟨_, h⟩ | ⟨_, h⟩
  · exact wB_M_alone_67 Fo_5 h
  · obtain ⟨x_7, _, h⟩ := opq h
    obtain ⟨x_8, _, h⟩ := opq h
    exact wB_M_alone_67 Fo_5 h
theorem wB_M_alone_11 {O : cf_O} {v1 : Int32} {o0 : cf_O} {r : (cf_O)} (F : Fr (fr_M [] [58, 59, 60, 61] []) O o0) (h : fM_alone_11 v1 o0 = some r) : Fr (fr_M [] [58, 59, 60, 61] []) O r := by
  unfold fM_alone_11 at h
  obtain ⟨x_1, _, h⟩ := opq h
  have h := (ifn h).2
  obtain ⟨x_3, _, h⟩ := opq h
  obtain ⟨x_4, _, h⟩ := opq h
  rcases ifc h with ⟨_, h⟩ | ⟨_, h⟩
  · exact wB_M_alone_38 F h
  · exact wB_M_alone_38 F h
theorem wB_M_alone_0 {O : cf_O} {v1 : Int32} {o0 : cf_O} {r : (cf_O)} (F : Fr (fr_M [] [58, 59, 60, 61] []) O o0) (h : fM_alone_0 v1 o0 = some r) : Fr (fr_M [] [58, 59, 60, 61] []) O r := by
  unfold fM_alone_0 at h
  rcases ifc h with ⟨_, h⟩ | ⟨_, h⟩
  · exact wB_M_alone_11 F h
  · have h := (ifn h).2
    obtain ⟨o_3, eo_3, h⟩ := opq h
    have Fo_3 : Fr (fr_M [] [58, 59, 60, 61] []) O o_3 := by rw [eo_3]; exact fr_xp F rfl
    exact wB_M_alone_11 Fo_3 h
theorem wF_M_alone {v1 : Int32} {o0 : cf_O} {r : (cf_O)} (h : fM_alone v1 o0 = some r) : Fr (fr_M [] [58, 59, 60, 61] []) o0 r := by
  unfold fM_alone at h
  exact wB_M_alone_0 fr_rfl h
theorem wB_M_keepCut_43 {O : cf_O} {rc : Nat → Int32 → Int32 → Int32 → cf_O → Option ((cf_O))} {v2 : Int32} {v4 : Int32} {v5 : Int32} {o0 : cf_O} {r : (cf_O)} (H : ∀ (k : Nat) (u2i : Int32) (u4i : Int32) (u5i : Int32) (o0 : cf_O) (r : (cf_O)), Fr (fr_M [] [57, 58, 59, 60] []) O o0 → rc k u2i u4i u5i o0 = some r → Fr (fr_M [] [57, 58, 59, 60] []) O r) (F : Fr (fr_M [] [57, 58, 59, 60] []) O o0) (h : fM_keepCut_43 rc v2 v4 v5 o0 = some r) : Fr (fr_M [] [57, 58, 59, 60] []) O r := by
  unfold fM_keepCut_43 at h
  rcases ifc h with ⟨_, h⟩ | ⟨_, h⟩
  · rw [← Option.some.inj h]
    exact F
  · obtain ⟨x_2, _, h⟩ := opq h
    obtain ⟨x_3, _, h⟩ := opq h
    have h := (ifn h).2
    obtain ⟨x_5, _, h⟩ := opq h
    have h := (ifn h).2
    obtain ⟨o_7, eo_7, h⟩ := opq h
    have Fo_7 : Fr (fr_M [] [57, 58, 59, 60] []) O o_7 := by rw [eo_7]; exact fr_xp F rfl
    obtain ⟨x_8, _, h⟩ := opq h
    exact H _ _ _ _ _ _ Fo_7 h
theorem wB_M_keepCut_0 {O : cf_O} {rc : Nat → Int32 → Int32 → Int32 → cf_O → Option ((cf_O))} {v1 : Int32} {v2 : Int32} {v3 : Int32} {o0 : cf_O} {r : (cf_O)} (H : ∀ (k : Nat) (u2i : Int32) (u4i : Int32) (u5i : Int32) (o0 : cf_O) (r : (cf_O)), Fr (fr_M [] [57, 58, 59, 60] []) O o0 → rc k u2i u4i u5i o0 = some r → Fr (fr_M [] [57, 58, 59, 60] []) O r) (F : Fr (fr_M [] [57, 58, 59, 60] []) O o0) (h : fM_keepCut_0 rc v1 v2 v3 o0 = some r) : Fr (fr_M [] [57, 58, 59, 60] []) O r := by
  unfold fM_keepCut_0 at h
  obtain ⟨x_1, _, h⟩ := opq h
  have h := (ifn h).2
  obtain ⟨x_3, _, h⟩ := opq h
  obtain ⟨x_4, _, h⟩ := opq h
  have h := (ifn h).2
  obtain ⟨x_6, _, h⟩ := opq h
  obtain ⟨x_7, _, h⟩ := opq h
  have h := (ifn h).2
  obtain ⟨o_9, eo_9, h⟩ := opq h
  have Fo_9 : Fr (fr_M [] [57, 58, 59, 60] []) O o_9 := by rw [eo_9]; exact fr_xp F rfl
  have h := (ifn h).2
  obtain ⟨o_11, eo_11, h⟩ := opq h
  have Fo_11 : Fr (fr_M [] [57, 58, 59, 60] []) O o_11 := by rw [eo_11]; exact fr_xp Fo_9 rfl
  have h := (ifn h).2
  obtain ⟨o_13, eo_13, h⟩ := opq h
  have Fo_13 : Fr (fr_M [] [57, 58, 59, 60] []) O o_13 := by rw [eo_13]; exact fr_xp Fo_11 rfl
  exact H _ _ _ _ _ _ Fo_13 h
theorem wG_M_keepCut {O : cf_O} : ∀ (n k : Nat) (u2i : Int32) (u4i : Int32) (u5i : Int32) (o0 : cf_O) (r : (cf_O)), Fr (fr_M [] [57, 58, 59, 60] []) O o0 → gM_keepCut n k u2i u4i u5i o0 = some r → Fr (fr_M [] [57, 58, 59, 60] []) O r := by
  intro n
  induction n with
  | zero => intro k u2i u4i u5i o0 r F h; cases h
  | succ n ih =>
    intro k u2i u4i u5i o0 r F h
    cases k with
    | zero => exact wB_M_keepCut_43 (rc := gM_keepCut n) ih F h
    | succ k =>
      cases h
theorem wF_M_keepCut {v1 : Int32} {v2 : Int32} {v3 : Int32} {o0 : cf_O} {r : (cf_O)} (h : fM_keepCut v1 v2 v3 o0 = some r) : Fr (fr_M [] [57, 58, 59, 60] []) o0 r := by
  unfold fM_keepCut at h
  exact wB_M_keepCut_0 (rc := gM_keepCut cfFU) (fun k u2i u4i u5i o0 r F h => wG_M_keepCut cfFU k u2i u4i u5i o0 r F h) fr_rfl h
theorem wB_M_join_142 {O : cf_O} {rc : Nat → Int32 → Int32 → Int32 → Int32 → Int32 → cf_O → Option ((Int32 × cf_O))} {v1 : Int32} {v2 : Int32} {v3 : Int32} {v5 : Int32} {s0 : Int32} {o0 : cf_O} {r : (Int32 × cf_O)} (H : ∀ (k : Nat) (u1i : Int32) (u2i : Int32) (u3i : Int32) (u4i : Int32) (u5i : Int32) (o0 : cf_O) (r : (Int32 × cf_O)), Fr (fr_M [] [61] []) O o0 → rc k u1i u2i u3i u4i u5i o0 = some r → Fr (fr_M [] [61] []) O r.2) (F : Fr (fr_M [] [61] []) O o0) (h : fM_join_142 rc v1 v2 v3 v5 s0 o0 = some r) : Fr (fr_M [] [61] []) O r.2 := by
  unfold fM_join_142 at h
  exact H _ _ _ _ _ _ _ _ F h
theorem wB_M_join_125 {O : cf_O} {rc : Nat → Int32 → Int32 → Int32 → Int32 → Int32 → cf_O → Option ((Int32 × cf_O))} {v1 : Int32} {v2 : Int32} {v4 : Int32} {v5 : Int32} {v6 : Int32} {v7 : Int32} {s0 : Int32} {o0 : cf_O} {r : (Int32 × cf_O)} (H : ∀ (k : Nat) (u1i : Int32) (u2i : Int32) (u3i : Int32) (u4i : Int32) (u5i : Int32) (o0 : cf_O) (r : (Int32 × cf_O)), Fr (fr_M [] [61] []) O o0 → rc k u1i u2i u3i u4i u5i o0 = some r → Fr (fr_M [] [61] []) O r.2) (F : Fr (fr_M [] [61] []) O o0) (h : fM_join_125 rc v1 v2 v4 v5 v6 v7 s0 o0 = some r) : Fr (fr_M [] [61] []) O r.2 := by
  unfold fM_join_125 at h
  rcases ifc h with ⟨_, h⟩ | ⟨_, h⟩
  · exact wB_M_join_142 H F h
  · obtain ⟨x_2, _, h⟩ := opq h
    exact wB_M_join_142 H F h
theorem wB_M_join_107 {O : cf_O} {rc : Nat → Int32 → Int32 → Int32 → Int32 → Int32 → cf_O → Option ((Int32 × cf_O))} {v1 : Int32} {v2 : Int32} {v3 : Int32} {v4 : Int32} {v5 : Int32} {v6 : Int32} {v7 : Int32} {s1 : Int32} {s2 : Int32} {o0 : cf_O} {r : (Int32 × cf_O)} (H : ∀ (k : Nat) (u1i : Int32) (u2i : Int32) (u3i : Int32) (u4i : Int32) (u5i : Int32) (o0 : cf_O) (r : (Int32 × cf_O)), Fr (fr_M [] [61] []) O o0 → rc k u1i u2i u3i u4i u5i o0 = some r → Fr (fr_M [] [61] []) O r.2) (F : Fr (fr_M [] [61] []) O o0) (h : fM_join_107 rc v1 v2 v3 v4 v5 v6 v7 s1 s2 o0 = some r) : Fr (fr_M [] [61] []) O r.2 := by
  unfold fM_join_107 at h
  have h := (ifn h).2
  obtain ⟨o_2, eo_2, h⟩ := opq h
  have Fo_2 : Fr (fr_M [] [61] []) O o_2 := by rw [eo_2]; exact fr_xp F rfl
  obtain ⟨x_3, _, h⟩ := opq h
  rcases ifc h with ⟨_, h⟩ | ⟨_, h⟩
  · exact wB_M_join_125 H Fo_2 h
  · obtain ⟨x_5, _, h⟩ := opq h
    exact wB_M_join_125 H Fo_2 h
theorem wB_M_join_85 {O : cf_O} {rc : Nat → Int32 → Int32 → Int32 → Int32 → Int32 → cf_O → Option ((Int32 × cf_O))} {v1 : Int32} {v2 : Int32} {v3 : Int32} {v4 : Int32} {v5 : Int32} {v6 : Int32} {s0 : Int32} {o0 : cf_O} {r : (Int32 × cf_O)} (H : ∀ (k : Nat) (u1i : Int32) (u2i : Int32) (u3i : Int32) (u4i : Int32) (u5i : Int32) (o0 : cf_O) (r : (Int32 × cf_O)), Fr (fr_M [] [61] []) O o0 → rc k u1i u2i u3i u4i u5i o0 = some r → Fr (fr_M [] [61] []) O r.2) (F : Fr (fr_M [] [61] []) O o0) (h : fM_join_85 rc v1 v2 v3 v4 v5 v6 s0 o0 = some r) : Fr (fr_M [] [61] []) O r.2 := by
  unfold fM_join_85 at h
  rcases ifc h with ⟨_, h⟩ | ⟨_, h⟩
  · exact wB_M_join_107 H F h
  · exact wB_M_join_107 H F h
theorem wB_M_join_55 {O : cf_O} {rc : Nat → Int32 → Int32 → Int32 → Int32 → Int32 → cf_O → Option ((Int32 × cf_O))} {v1 : Int32} {v2 : Int32} {v3 : Int32} {v4 : Int32} {v5 : Int32} {s0 : Int32} {o0 : cf_O} {r : (Int32 × cf_O)} (H : ∀ (k : Nat) (u1i : Int32) (u2i : Int32) (u3i : Int32) (u4i : Int32) (u5i : Int32) (o0 : cf_O) (r : (Int32 × cf_O)), Fr (fr_M [] [61] []) O o0 → rc k u1i u2i u3i u4i u5i o0 = some r → Fr (fr_M [] [61] []) O r.2) (F : Fr (fr_M [] [61] []) O o0) (h : fM_join_55 rc v1 v2 v3 v4 v5 s0 o0 = some r) : Fr (fr_M [] [61] []) O r.2 := by
  unfold fM_join_55 at h
  have h := (ifn h).2
  obtain ⟨x_2, _, h⟩ := opq h
  rcases ifc h with ⟨_, h⟩ | ⟨_, h⟩
  · exact wB_M_join_85 H F h
  · obtain ⟨x_4, _, h⟩ := opq h
    obtain ⟨x_5, _, h⟩ := opq h
    have h := (ifn h).2
    obtain ⟨x_7, _, h⟩ := opq h
    exact wB_M_join_85 H F h
theorem wB_M_join_29 {O : cf_O} {rc : Nat → Int32 → Int32 → Int32 → Int32 → Int32 → cf_O → Option ((Int32 × cf_O))} {v1 : Int32} {v2 : Int32} {v3 : Int32} {v4 : Int32} {v5 : Int32} {o0 : cf_O} {r : (Int32 × cf_O)} (H : ∀ (k : Nat) (u1i : Int32) (u2i : Int32) (u3i : Int32) (u4i : Int32) (u5i : Int32) (o0 : cf_O) (r : (Int32 × cf_O)), Fr (fr_M [] [61] []) O o0 → rc k u1i u2i u3i u4i u5i o0 = some r → Fr (fr_M [] [61] []) O r.2) (F : Fr (fr_M [] [61] []) O o0) (h : fM_join_29 rc v1 v2 v3 v4 v5 o0 = some r) : Fr (fr_M [] [61] []) O r.2 := by
  unfold fM_join_29 at h
  have h := (ifn h).2
  obtain ⟨x_2, _, h⟩ := opq h
  rcases ifc h with ⟨_, h⟩ | ⟨_, h⟩
  · exact wB_M_join_55 H F h
  · obtain ⟨x_4, _, h⟩ := opq h
    obtain ⟨x_5, _, h⟩ := opq h
    have h := (ifn h).2
    obtain ⟨x_7, _, h⟩ := opq h
    exact wB_M_join_55 H F h
theorem wB_M_join_8 {O : cf_O} {rc : Nat → Int32 → Int32 → Int32 → Int32 → Int32 → cf_O → Option ((Int32 × cf_O))} {v1 : Int32} {v2 : Int32} {v3 : Int32} {v4 : Int32} {v5 : Int32} {o0 : cf_O} {r : (Int32 × cf_O)} (H : ∀ (k : Nat) (u1i : Int32) (u2i : Int32) (u3i : Int32) (u4i : Int32) (u5i : Int32) (o0 : cf_O) (r : (Int32 × cf_O)), Fr (fr_M [] [61] []) O o0 → rc k u1i u2i u3i u4i u5i o0 = some r → Fr (fr_M [] [61] []) O r.2) (F : Fr (fr_M [] [61] []) O o0) (h : fM_join_8 rc v1 v2 v3 v4 v5 o0 = some r) : Fr (fr_M [] [61] []) O r.2 := by
  unfold fM_join_8 at h
  have h := (ifn h).2
  obtain ⟨x_2, _, h⟩ := opq h
  rcases ifc h with ⟨_, h⟩ | ⟨_, h⟩
  · exact wB_M_join_29 H F h
  · have h := (ifn h).2
    obtain ⟨x_5, _, h⟩ := opq h
    rcases ifc h with ⟨_, h⟩ | ⟨_, h⟩
    · rw [← Option.some.inj h]
      exact F
    · exact wB_M_join_29 H F h
theorem wB_M_join_0 {O : cf_O} {rc : Nat → Int32 → Int32 → Int32 → Int32 → Int32 → cf_O → Option ((Int32 × cf_O))} {v1 : Int32} {v2 : Int32} {o0 : cf_O} {r : (Int32 × cf_O)} (H : ∀ (k : Nat) (u1i : Int32) (u2i : Int32) (u3i : Int32) (u4i : Int32) (u5i : Int32) (o0 : cf_O) (r : (Int32 × cf_O)), Fr (fr_M [] [61] []) O o0 → rc k u1i u2i u3i u4i u5i o0 = some r → Fr (fr_M [] [61] []) O r.2) (F : Fr (fr_M [] [61] []) O o0) (h : fM_join_0 rc v1 v2 o0 = some r) : Fr (fr_M [] [61] []) O r.2 := by
  unfold fM_join_0 at h
  exact H _ _ _ _ _ _ _ _ F h
theorem wG_M_join {O : cf_O} : ∀ (n k : Nat) (u1i : Int32) (u2i : Int32) (u3i : Int32) (u4i : Int32) (u5i : Int32) (o0 : cf_O) (r : (Int32 × cf_O)), Fr (fr_M [] [61] []) O o0 → gM_join n k u1i u2i u3i u4i u5i o0 = some r → Fr (fr_M [] [61] []) O r.2 := by
  intro n
  induction n with
  | zero => intro k u1i u2i u3i u4i u5i o0 r F h; cases h
  | succ n ih =>
    intro k u1i u2i u3i u4i u5i o0 r F h
    cases k with
    | zero => exact wB_M_join_8 (rc := gM_join n) ih F h
    | succ k =>
      cases h
theorem wF_M_join {v1 : Int32} {v2 : Int32} {o0 : cf_O} {r : (Int32 × cf_O)} (h : fM_join v1 v2 o0 = some r) : Fr (fr_M [] [61] []) o0 r.2 := by
  unfold fM_join at h
  exact wB_M_join_0 (rc := gM_join cfFU) (fun k u1i u2i u3i u4i u5i o0 r F h => wG_M_join cfFU k u1i u2i u3i u4i u5i o0 r F h) fr_rfl h
theorem wB_M_tryCut_39 {O : cf_O} {rc : Nat → Int32 → Int32 → Int32 → Int32 → cf_O → Option ((cf_O))} {v1 : Int32} {v2 : Int32} {v3 : Int32} {v4 : Int32} {o0 : cf_O} {r : (cf_O)} (H : ∀ (k : Nat) (u1i : Int32) (u2i : Int32) (u3i : Int32) (u4i : Int32) (o0 : cf_O) (r : (cf_O)), Fr (fr_M [36] [57, 58, 59, 60] []) O o0 → rc k u1i u2i u3i u4i o0 = some r → Fr (fr_M [36] [57, 58, 59, 60] []) O r) (F : Fr (fr_M [36] [57, 58, 59, 60] []) O o0) (h : fM_tryCut_39 rc v1 v2 v3 v4 o0 = some r) : Fr (fr_M [36] [57, 58, 59, 60] []) O r := by
  unfold fM_tryCut_39 at h
  obtain ⟨x_1, _, h⟩ := opq h
  have h := (ifn h).2
  obtain ⟨x_3, _, h⟩ := opq h
  obtain ⟨x_4, _, h⟩ := opq h
  rcases ifc h with ⟨_, h⟩ | ⟨_, h⟩
  · have h := (ifn h).2
    obtain ⟨x_7, _, h⟩ := opq h
    rcases ifc h with ⟨_, h⟩ | ⟨_, h⟩
    · obtain ⟨o_11, eo_11, h⟩ := opq h
      have Fo_11 : Fr (fr_M [36] [57, 58, 59, 60] []) O o_11 := by rw [eo_11]; exact fr_fp F rfl
      rw [← Option.some.inj h]
      exact Fo_11
    · obtain ⟨q_9, hq_9, h⟩ := bd h
      have Fq_9 : Fr (fr_M [36] [57, 58, 59, 60] []) O q_9 := fr_tr F (wF_M_keepCut hq_9) rfl rfl rfl
      rw [← Option.some.inj h]
      exact Fq_9
  · obtain ⟨q_12, _, h⟩ := bd h
    rcases ifc h with ⟨_, h⟩ | ⟨_, h⟩
    · obtain ⟨x_16, _, h⟩ := opq h
      exact H _ _ _ _ _ _ _ F h
    · rw [← Option.some.inj h]
      exact F
theorem wB_M_tryCut_5 {O : cf_O} {rc : Nat → Int32 → Int32 → Int32 → Int32 → cf_O → Option ((cf_O))} {v1 : Int32} {v2 : Int32} {v3 : Int32} {v4 : Int32} {o0 : cf_O} {r : (cf_O)} (H : ∀ (k : Nat) (u1i : Int32) (u2i : Int32) (u3i : Int32) (u4i : Int32) (o0 : cf_O) (r : (cf_O)), Fr (fr_M [36] [57, 58, 59, 60] []) O o0 → rc k u1i u2i u3i u4i o0 = some r → Fr (fr_M [36] [57, 58, 59, 60] []) O r) (F : Fr (fr_M [36] [57, 58, 59, 60] []) O o0) (h : fM_tryCut_5 rc v1 v2 v3 v4 o0 = some r) : Fr (fr_M [36] [57, 58, 59, 60] []) O r := by
  unfold fM_tryCut_5 at h
  rcases ifc h with ⟨_, h⟩ | ⟨_, h⟩
  · obtain ⟨x_2, _, h⟩ := opq h
    exact H _ _ _ _ _ _ _ F h
  · have h := (ifn h).2
    obtain ⟨x_4, _, h⟩ := opq h
    obtain ⟨x_5, _, h⟩ := opq h
    obtain ⟨x_6, _, h⟩ := opq h
    obtain ⟨x_7, _, h⟩ := opq h
    obtain ⟨x_8, _, h⟩ := opq h
    exact H _ _ _ _ _ _ _ F h
theorem wB_M_tryCut_0 {O : cf_O} {rc : Nat → Int32 → Int32 → Int32 → Int32 → cf_O → Option ((cf_O))} {v1 : Int32} {v2 : Int32} {o0 : cf_O} {r : (cf_O)} (H : ∀ (k : Nat) (u1i : Int32) (u2i : Int32) (u3i : Int32) (u4i : Int32) (o0 : cf_O) (r : (cf_O)), Fr (fr_M [36] [57, 58, 59, 60] []) O o0 → rc k u1i u2i u3i u4i o0 = some r → Fr (fr_M [36] [57, 58, 59, 60] []) O r) (F : Fr (fr_M [36] [57, 58, 59, 60] []) O o0) (h : fM_tryCut_0 rc v1 v2 o0 = some r) : Fr (fr_M [36] [57, 58, 59, 60] []) O r := by
  unfold fM_tryCut_0 at h
  exact H _ _ _ _ _ _ _ F h
theorem wG_M_tryCut {O : cf_O} : ∀ (n k : Nat) (u1i : Int32) (u2i : Int32) (u3i : Int32) (u4i : Int32) (o0 : cf_O) (r : (cf_O)), Fr (fr_M [36] [57, 58, 59, 60] []) O o0 → gM_tryCut n k u1i u2i u3i u4i o0 = some r → Fr (fr_M [36] [57, 58, 59, 60] []) O r := by
  intro n
  induction n with
  | zero => intro k u1i u2i u3i u4i o0 r F h; cases h
  | succ n ih =>
    intro k u1i u2i u3i u4i o0 r F h
    cases k with
    | zero => exact wB_M_tryCut_5 (rc := gM_tryCut n) ih F h
    | succ k =>
      cases k with
      | zero => exact wB_M_tryCut_39 (rc := gM_tryCut n) ih F h
      | succ k =>
        cases h
theorem wF_M_tryCut {v1 : Int32} {v2 : Int32} {o0 : cf_O} {r : (cf_O)} (h : fM_tryCut v1 v2 o0 = some r) : Fr (fr_M [36] [57, 58, 59, 60] []) o0 r := by
  unfold fM_tryCut at h
  exact wB_M_tryCut_0 (rc := gM_tryCut cfFU) (fun k u1i u2i u3i u4i o0 r F h => wG_M_tryCut cfFU k u1i u2i u3i u4i o0 r F h) fr_rfl h
theorem wB_M_cut_206 {O : cf_O} {rc : Nat → Int32 → Int32 → Int32 → Int32 → Int32 → Int32 → Int32 → cf_O → Option ((cf_O))} {v2 : Int32} {v3 : Int32} {v4 : Int32} {v5 : Int32} {v6 : Int32} {o0 : cf_O} {r : (cf_O)} (H : ∀ (k : Nat) (u2i : Int32) (u3i : Int32) (u4i : Int32) (u5i : Int32) (u6i : Int32) (u7i : Int32) (u8i : Int32) (o0 : cf_O) (r : (cf_O)), Fr (fr_M [36] [57, 58, 59, 60, 61] []) O o0 → rc k u2i u3i u4i u5i u6i u7i u8i o0 = some r → Fr (fr_M [36] [57, 58, 59, 60, 61] []) O r) (F : Fr (fr_M [36] [57, 58, 59, 60, 61] []) O o0) (h : fM_cut_206 rc v2 v3 v4 v5 v6 o0 = some r) : Fr (fr_M [36] [57, 58, 59, 60, 61] []) O r := by
  unfold fM_cut_206 at h
  obtain ⟨x_1, _, h⟩ := opq h
  exact H _ _ _ _ _ _ _ _ _ _ F h
theorem wB_M_cut_200 {O : cf_O} {rc : Nat → Int32 → Int32 → Int32 → Int32 → Int32 → Int32 → Int32 → cf_O → Option ((cf_O))} {v2 : Int32} {v3 : Int32} {v4 : Int32} {v5 : Int32} {v6 : Int32} {v7 : Int32} {o0 : cf_O} {r : (cf_O)} (H : ∀ (k : Nat) (u2i : Int32) (u3i : Int32) (u4i : Int32) (u5i : Int32) (u6i : Int32) (u7i : Int32) (u8i : Int32) (o0 : cf_O) (r : (cf_O)), Fr (fr_M [36] [57, 58, 59, 60, 61] []) O o0 → rc k u2i u3i u4i u5i u6i u7i u8i o0 = some r → Fr (fr_M [36] [57, 58, 59, 60, 61] []) O r) (F : Fr (fr_M [36] [57, 58, 59, 60, 61] []) O o0) (h : fM_cut_200 rc v2 v3 v4 v5 v6 v7 o0 = some r) : Fr (fr_M [36] [57, 58, 59, 60, 61] []) O r := by
  unfold fM_cut_200 at h
  obtain ⟨x_1, _, h⟩ := opq h
  exact H _ _ _ _ _ _ _ _ _ _ F h
theorem wB_M_cut_194 {O : cf_O} {rc : Nat → Int32 → Int32 → Int32 → Int32 → Int32 → Int32 → Int32 → cf_O → Option ((cf_O))} {v2 : Int32} {v3 : Int32} {v4 : Int32} {v5 : Int32} {v6 : Int32} {v7 : Int32} {v8 : Int32} {o0 : cf_O} {r : (cf_O)} (H : ∀ (k : Nat) (u2i : Int32) (u3i : Int32) (u4i : Int32) (u5i : Int32) (u6i : Int32) (u7i : Int32) (u8i : Int32) (o0 : cf_O) (r : (cf_O)), Fr (fr_M [36] [57, 58, 59, 60, 61] []) O o0 → rc k u2i u3i u4i u5i u6i u7i u8i o0 = some r → Fr (fr_M [36] [57, 58, 59, 60, 61] []) O r) (F : Fr (fr_M [36] [57, 58, 59, 60, 61] []) O o0) (h : fM_cut_194 rc v2 v3 v4 v5 v6 v7 v8 o0 = some r) : Fr (fr_M [36] [57, 58, 59, 60, 61] []) O r := by
  unfold fM_cut_194 at h
  obtain ⟨x_1, _, h⟩ := opq h
  exact H _ _ _ _ _ _ _ _ _ _ F h
theorem wB_M_cut_145 {O : cf_O} {rc : Nat → Int32 → Int32 → Int32 → Int32 → Int32 → Int32 → Int32 → cf_O → Option ((cf_O))} {v2 : Int32} {v3 : Int32} {v4 : Int32} {v5 : Int32} {v6 : Int32} {v7 : Int32} {v8 : Int32} {s0 : Int32} {o0 : cf_O} {r : (cf_O)} (H : ∀ (k : Nat) (u2i : Int32) (u3i : Int32) (u4i : Int32) (u5i : Int32) (u6i : Int32) (u7i : Int32) (u8i : Int32) (o0 : cf_O) (r : (cf_O)), Fr (fr_M [36] [57, 58, 59, 60, 61] []) O o0 → rc k u2i u3i u4i u5i u6i u7i u8i o0 = some r → Fr (fr_M [36] [57, 58, 59, 60, 61] []) O r) (F : Fr (fr_M [36] [57, 58, 59, 60, 61] []) O o0) (h : fM_cut_145 rc v2 v3 v4 v5 v6 v7 v8 s0 o0 = some r) : Fr (fr_M [36] [57, 58, 59, 60, 61] []) O r := by
  unfold fM_cut_145 at h
  rcases ifc h with ⟨_, h⟩ | ⟨_, h⟩
  · exact wB_M_cut_194 H F h
  · have h := (ifn h).2
    obtain ⟨x_3, _, h⟩ := opq h
    have h := (ifn h).2
    obtain ⟨x_5, _, h⟩ := opq h
    obtain ⟨x_6, _, h⟩ := opq h
    rcases ifc h with ⟨_, h⟩ | ⟨_, h⟩
    · exact wB_M_cut_194 H F h
    · obtain ⟨q_8, hq_8, h⟩ := bd h
      have Fq_8 : Fr (fr_M [36] [57, 58, 59, 60, 61] []) O q_8.2 := fr_tr F (wF_M_join hq_8) rfl rfl rfl
      rcases ifc h with ⟨_, h⟩ | ⟨_, h⟩
      · obtain ⟨q_12, hq_12, h⟩ := bd h
        have Fq_12 : Fr (fr_M [36] [57, 58, 59, 60, 61] []) O q_12 := fr_tr Fq_8 (wF_M_tryCut hq_12) rfl rfl rfl
        exact wB_M_cut_194 H Fq_12 h
      · exact wB_M_cut_194 H Fq_8 h
theorem wB_M_cut_85 {O : cf_O} {rc : Nat → Int32 → Int32 → Int32 → Int32 → Int32 → Int32 → Int32 → cf_O → Option ((cf_O))} {v2 : Int32} {v3 : Int32} {v4 : Int32} {v5 : Int32} {v6 : Int32} {v7 : Int32} {v8 : Int32} {o0 : cf_O} {r : (cf_O)} (H : ∀ (k : Nat) (u2i : Int32) (u3i : Int32) (u4i : Int32) (u5i : Int32) (u6i : Int32) (u7i : Int32) (u8i : Int32) (o0 : cf_O) (r : (cf_O)), Fr (fr_M [36] [57, 58, 59, 60, 61] []) O o0 → rc k u2i u3i u4i u5i u6i u7i u8i o0 = some r → Fr (fr_M [36] [57, 58, 59, 60, 61] []) O r) (F : Fr (fr_M [36] [57, 58, 59, 60, 61] []) O o0) (h : fM_cut_85 rc v2 v3 v4 v5 v6 v7 v8 o0 = some r) : Fr (fr_M [36] [57, 58, 59, 60, 61] []) O r := by
  unfold fM_cut_85 at h
  obtain ⟨x_1, _, h⟩ := opq h
  have h := (ifn h).2
  obtain ⟨x_3, _, h⟩ := opq h
  obtain ⟨x_4, _, h⟩ := opq h
  rcases ifc h with ⟨_, h⟩ | ⟨_, h⟩
  · exact wB_M_cut_200 H F h
  · rcases ifc h with ⟨_, h⟩ | ⟨_, h⟩
    · have h := (ifn h).2
      obtain ⟨x_8, _, h⟩ := opq h
      have h := (ifn h).2
      obtain ⟨x_10, _, h⟩ := opq h
      rcases ifc h with ⟨_, h⟩ | ⟨_, h⟩
      · have h := (ifn h).2
        obtain ⟨x_13, _, h⟩ := opq h
        exact wB_M_cut_145 H F h
      · have h := (ifn h).2
        obtain ⟨x_15, _, h⟩ := opq h
        exact wB_M_cut_145 H F h
    · exact wB_M_cut_200 H F h
theorem wB_M_cut_51 {O : cf_O} {rc : Nat → Int32 → Int32 → Int32 → Int32 → Int32 → Int32 → Int32 → cf_O → Option ((cf_O))} {v2 : Int32} {v3 : Int32} {v4 : Int32} {v5 : Int32} {v6 : Int32} {v7 : Int32} {o0 : cf_O} {r : (cf_O)} (H : ∀ (k : Nat) (u2i : Int32) (u3i : Int32) (u4i : Int32) (u5i : Int32) (u6i : Int32) (u7i : Int32) (u8i : Int32) (o0 : cf_O) (r : (cf_O)), Fr (fr_M [36] [57, 58, 59, 60, 61] []) O o0 → rc k u2i u3i u4i u5i u6i u7i u8i o0 = some r → Fr (fr_M [36] [57, 58, 59, 60, 61] []) O r) (F : Fr (fr_M [36] [57, 58, 59, 60, 61] []) O o0) (h : fM_cut_51 rc v2 v3 v4 v5 v6 v7 o0 = some r) : Fr (fr_M [36] [57, 58, 59, 60, 61] []) O r := by
  unfold fM_cut_51 at h
  obtain ⟨x_1, _, h⟩ := opq h
  have h := (ifn h).2
  obtain ⟨x_3, _, h⟩ := opq h
  obtain ⟨x_4, _, h⟩ := opq h
  rcases ifc h with ⟨_, h⟩ | ⟨_, h⟩
  · exact wB_M_cut_206 H F h
  · rcases ifc h with ⟨_, h⟩ | ⟨_, h⟩
    · obtain ⟨x_7, _, h⟩ := opq h
      exact H _ _ _ _ _ _ _ _ _ _ F h
    · exact wB_M_cut_206 H F h
theorem wB_M_cut_37 {O : cf_O} {rc : Nat → Int32 → Int32 → Int32 → Int32 → Int32 → Int32 → Int32 → cf_O → Option ((cf_O))} {v2 : Int32} {v3 : Int32} {v4 : Int32} {v5 : Int32} {v6 : Int32} {o0 : cf_O} {r : (cf_O)} (H : ∀ (k : Nat) (u2i : Int32) (u3i : Int32) (u4i : Int32) (u5i : Int32) (u6i : Int32) (u7i : Int32) (u8i : Int32) (o0 : cf_O) (r : (cf_O)), Fr (fr_M [36] [57, 58, 59, 60, 61] []) O o0 → rc k u2i u3i u4i u5i u6i u7i u8i o0 = some r → Fr (fr_M [36] [57, 58, 59, 60, 61] []) O r) (F : Fr (fr_M [36] [57, 58, 59, 60, 61] []) O o0) (h : fM_cut_37 rc v2 v3 v4 v5 v6 o0 = some r) : Fr (fr_M [36] [57, 58, 59, 60, 61] []) O r := by
  unfold fM_cut_37 at h
  rcases ifc h with ⟨_, h⟩ | ⟨_, h⟩
  · obtain ⟨q_2, hq_2, h⟩ := bd h
    have Fq_2 : Fr (fr_M [36] [57, 58, 59, 60, 61] []) O q_2 := fr_tr F (wF_M_alone hq_2) rfl rfl rfl
    rw [← Option.some.inj h]
    exact Fq_2
  · obtain ⟨x_4, _, h⟩ := opq h
    exact H _ _ _ _ _ _ _ _ _ _ F h
theorem wB_M_cut_0 {O : cf_O} {rc : Nat → Int32 → Int32 → Int32 → Int32 → Int32 → Int32 → Int32 → cf_O → Option ((cf_O))} {v1 : Int32} {v2 : Int32} {o0 : cf_O} {r : (cf_O)} (H : ∀ (k : Nat) (u2i : Int32) (u3i : Int32) (u4i : Int32) (u5i : Int32) (u6i : Int32) (u7i : Int32) (u8i : Int32) (o0 : cf_O) (r : (cf_O)), Fr (fr_M [36] [57, 58, 59, 60, 61] []) O o0 → rc k u2i u3i u4i u5i u6i u7i u8i o0 = some r → Fr (fr_M [36] [57, 58, 59, 60, 61] []) O r) (F : Fr (fr_M [36] [57, 58, 59, 60, 61] []) O o0) (h : fM_cut_0 rc v1 v2 o0 = some r) : Fr (fr_M [36] [57, 58, 59, 60, 61] []) O r := by
  unfold fM_cut_0 at h
  obtain ⟨q_1, _, h⟩ := bd h
  obtain ⟨x_4, _, h⟩ := opq h
  have h := (ifn h).2
  obtain ⟨x_6, _, h⟩ := opq h
  obtain ⟨x_7, _, h⟩ := opq h
  have h := (ifn h).2
  obtain ⟨x_9, _, h⟩ := opq h
  obtain ⟨x_10, _, h⟩ := opq h
  have h := (ifn h).2
  obtain ⟨o_12, eo_12, h⟩ := opq h
  have Fo_12 : Fr (fr_M [36] [57, 58, 59, 60, 61] []) O o_12 := by rw [eo_12]; exact fr_xp F rfl
  exact H _ _ _ _ _ _ _ _ _ _ Fo_12 h
theorem wG_M_cut {O : cf_O} : ∀ (n k : Nat) (u2i : Int32) (u3i : Int32) (u4i : Int32) (u5i : Int32) (u6i : Int32) (u7i : Int32) (u8i : Int32) (o0 : cf_O) (r : (cf_O)), Fr (fr_M [36] [57, 58, 59, 60, 61] []) O o0 → gM_cut n k u2i u3i u4i u5i u6i u7i u8i o0 = some r → Fr (fr_M [36] [57, 58, 59, 60, 61] []) O r := by
  intro n
  induction n with
  | zero => intro k u2i u3i u4i u5i u6i u7i u8i o0 r F h; cases h
  | succ n ih =>
    intro k u2i u3i u4i u5i u6i u7i u8i o0 r F h
    cases k with
    | zero => exact wB_M_cut_37 (rc := gM_cut n) ih F h
    | succ k =>
      cases k with
      | zero => exact wB_M_cut_51 (rc := gM_cut n) ih F h
      | succ k =>
        cases k with
        | zero => exact wB_M_cut_85 (rc := gM_cut n) ih F h
        | succ k =>
          cases h
theorem wF_M_cut {v1 : Int32} {v2 : Int32} {o0 : cf_O} {r : (cf_O)} (h : fM_cut v1 v2 o0 = some r) : Fr (fr_M [36] [57, 58, 59, 60, 61] []) o0 r := by
  unfold fM_cut at h
  exact wB_M_cut_0 (rc := gM_cut cfFU) (fun k u2i u3i u4i u5i u6i u7i u8i o0 r F h => wG_M_cut cfFU k u2i u3i u4i u5i u6i u7i u8i o0 r F h) fr_rfl h
theorem wB_M_findBest_44 {O : cf_O} {rc : Nat → Int32 → Int32 → Int32 → cf_O → Option ((cf_O))} {v1 : Int32} {v3 : Int32} {s0 : Int32} {o0 : cf_O} {r : (cf_O)} (H : ∀ (k : Nat) (u1i : Int32) (u2i : Int32) (u3i : Int32) (o0 : cf_O) (r : (cf_O)), Fr (fr_M [] [62, 63] []) O o0 → rc k u1i u2i u3i o0 = some r → Fr (fr_M [] [62, 63] []) O r) (F : Fr (fr_M [] [62, 63] []) O o0) (h : fM_findBest_44 rc v1 v3 s0 o0 = some r) : Fr (fr_M [] [62, 63] []) O r := by
  unfold fM_findBest_44 at h
  obtain ⟨x_1, _, h⟩ := opq h
  exact H _ _ _ _ _ _ F h
theorem wB_M_findBest_14 {O : cf_O} {rc : Nat → Int32 → Int32 → Int32 → cf_O → Option ((cf_O))} {v1 : Int32} {v2 : Int32} {v3 : Int32} {o0 : cf_O} {r : (cf_O)} (H : ∀ (k : Nat) (u1i : Int32) (u2i : Int32) (u3i : Int32) (o0 : cf_O) (r : (cf_O)), Fr (fr_M [] [62, 63] []) O o0 → rc k u1i u2i u3i o0 = some r → Fr (fr_M [] [62, 63] []) O r) (F : Fr (fr_M [] [62, 63] []) O o0) (h : fM_findBest_14 rc v1 v2 v3 o0 = some r) : Fr (fr_M [] [62, 63] []) O r := by
  unfold fM_findBest_14 at h
  obtain ⟨x_1, _, h⟩ := opq h
  have h := (ifn h).2
  obtain ⟨x_3, _, h⟩ := opq h
  obtain ⟨x_4, _, h⟩ := opq h
  rcases ifc h with ⟨_, h⟩ | ⟨_, h⟩
  · have h := (ifn h).2
    obtain ⟨o_7, eo_7, h⟩ := opq h
    have Fo_7 : Fr (fr_M [] [62, 63] []) O o_7 := by rw [eo_7]; exact fr_xp F rfl
    obtain ⟨q_8, _, h⟩ := bd h
    have h := (ifn h).2
    obtain ⟨o_12, eo_12, h⟩ := opq h
    have Fo_12 : Fr (fr_M [] [62, 63] []) O o_12 := by rw [eo_12]; exact fr_xp Fo_7 rfl
    rw [← Option.some.inj h]
    exact Fo_12
  · obtain ⟨q_13, _, h⟩ := bd h
    rcases ifc h with ⟨_, h⟩ | ⟨_, h⟩
    · exact wB_M_findBest_44 H F h
    · exact wB_M_findBest_44 H F h
theorem wB_M_findBest_0 {O : cf_O} {rc : Nat → Int32 → Int32 → Int32 → cf_O → Option ((cf_O))} {v1 : Int32} {o0 : cf_O} {r : (cf_O)} (H : ∀ (k : Nat) (u1i : Int32) (u2i : Int32) (u3i : Int32) (o0 : cf_O) (r : (cf_O)), Fr (fr_M [] [62, 63] []) O o0 → rc k u1i u2i u3i o0 = some r → Fr (fr_M [] [62, 63] []) O r) (F : Fr (fr_M [] [62, 63] []) O o0) (h : fM_findBest_0 rc v1 o0 = some r) : Fr (fr_M [] [62, 63] []) O r := by
  unfold fM_findBest_0 at h
  obtain ⟨x_1, _, h⟩ := opq h
  obtain ⟨x_2, _, h⟩ := opq h
  obtain ⟨x_3, _, h⟩ := opq h
  exact H _ _ _ _ _ _ F h
theorem wG_M_findBest {O : cf_O} : ∀ (n k : Nat) (u1i : Int32) (u2i : Int32) (u3i : Int32) (o0 : cf_O) (r : (cf_O)), Fr (fr_M [] [62, 63] []) O o0 → gM_findBest n k u1i u2i u3i o0 = some r → Fr (fr_M [] [62, 63] []) O r := by
  intro n
  induction n with
  | zero => intro k u1i u2i u3i o0 r F h; cases h
  | succ n ih =>
    intro k u1i u2i u3i o0 r F h
    cases k with
    | zero => exact wB_M_findBest_14 (rc := gM_findBest n) ih F h
    | succ k =>
      cases h
theorem wF_M_findBest {v1 : Int32} {o0 : cf_O} {r : (cf_O)} (h : fM_findBest v1 o0 = some r) : Fr (fr_M [] [62, 63] []) o0 r := by
  unfold fM_findBest at h
  exact wB_M_findBest_0 (rc := gM_findBest cfFU) (fun k u1i u2i u3i o0 r F h => wG_M_findBest cfFU k u1i u2i u3i o0 r F h) fr_rfl h
theorem wB_M_cutAll_98 {O : cf_O} {rc : Nat → Int32 → Int32 → cf_O → Option ((Int32 × cf_O))} {s0 : Int32} {o0 : cf_O} {r : (Int32 × cf_O)} (H : ∀ (k : Nat) (u1i : Int32) (u2i : Int32) (o0 : cf_O) (r : (Int32 × cf_O)), Fr (fr_M [36] [57, 58, 59, 60, 61, 62, 63] []) O o0 → rc k u1i u2i o0 = some r → Fr (fr_M [36] [57, 58, 59, 60, 61, 62, 63] []) O r.2) (F : Fr (fr_M [36] [57, 58, 59, 60, 61, 62, 63] []) O o0) (h : fM_cutAll_98 rc s0 o0 = some r) : Fr (fr_M [36] [57, 58, 59, 60, 61, 62, 63] []) O r.2 := by
  unfold fM_cutAll_98 at h
  have h := (ifn h).2
  rw [← Option.some.inj h]
  exact F
theorem wB_M_cutAll_86 {O : cf_O} {rc : Nat → Int32 → Int32 → cf_O → Option ((Int32 × cf_O))} {o0 : cf_O} {r : (Int32 × cf_O)} (H : ∀ (k : Nat) (u1i : Int32) (u2i : Int32) (o0 : cf_O) (r : (Int32 × cf_O)), Fr (fr_M [36] [57, 58, 59, 60, 61, 62, 63] []) O o0 → rc k u1i u2i o0 = some r → Fr (fr_M [36] [57, 58, 59, 60, 61, 62, 63] []) O r.2) (F : Fr (fr_M [36] [57, 58, 59, 60, 61, 62, 63] []) O o0) (h : fM_cutAll_86 rc o0 = some r) : Fr (fr_M [36] [57, 58, 59, 60, 61, 62, 63] []) O r.2 := by
  unfold fM_cutAll_86 at h
  rcases ifc h with ⟨_, h⟩ | ⟨_, h⟩
  · exact wB_M_cutAll_98 H F h
  · exact wB_M_cutAll_98 H F h
theorem wB_M_cutAll_80 {O : cf_O} {rc : Nat → Int32 → Int32 → cf_O → Option ((Int32 × cf_O))} {v1 : Int32} {v2 : Int32} {o0 : cf_O} {r : (Int32 × cf_O)} (H : ∀ (k : Nat) (u1i : Int32) (u2i : Int32) (o0 : cf_O) (r : (Int32 × cf_O)), Fr (fr_M [36] [57, 58, 59, 60, 61, 62, 63] []) O o0 → rc k u1i u2i o0 = some r → Fr (fr_M [36] [57, 58, 59, 60, 61, 62, 63] []) O r.2) (F : Fr (fr_M [36] [57, 58, 59, 60, 61, 62, 63] []) O o0) (h : fM_cutAll_80 rc v1 v2 o0 = some r) : Fr (fr_M [36] [57, 58, 59, 60, 61, 62, 63] []) O r.2 := by
  unfold fM_cutAll_80 at h
  obtain ⟨x_1, _, h⟩ := opq h
  exact H _ _ _ _ _ F h
theorem wB_M_cutAll_42 {O : cf_O} {rc : Nat → Int32 → Int32 → cf_O → Option ((Int32 × cf_O))} {v1 : Int32} {v2 : Int32} {o0 : cf_O} {r : (Int32 × cf_O)} (H : ∀ (k : Nat) (u1i : Int32) (u2i : Int32) (o0 : cf_O) (r : (Int32 × cf_O)), Fr (fr_M [36] [57, 58, 59, 60, 61, 62, 63] []) O o0 → rc k u1i u2i o0 = some r → Fr (fr_M [36] [57, 58, 59, 60, 61, 62, 63] []) O r.2) (F : Fr (fr_M [36] [57, 58, 59, 60, 61, 62, 63] []) O o0) (h : fM_cutAll_42 rc v1 v2 o0 = some r) : Fr (fr_M [36] [57, 58, 59, 60, 61, 62, 63] []) O r.2 := by
  unfold fM_cutAll_42 at h
  rcases ifc h with ⟨_, h⟩ | ⟨_, h⟩
  · exact wB_M_cutAll_86 H F h
  · rcases ifc h with ⟨_, h⟩ | ⟨_, h⟩
    · obtain ⟨q_3, hq_3, h⟩ := bd h
      have Fq_3 : Fr (fr_M [36] [57, 58, 59, 60, 61, 62, 63] []) O q_3 := fr_tr F (wF_M_cut hq_3) rfl rfl rfl
      rcases ifc h with ⟨_, h⟩ | ⟨_, h⟩
      · obtain ⟨q_6, _, h⟩ := bd h
        obtain ⟨x_9, _, h⟩ := opq h
        obtain ⟨q_10, hq_10, h⟩ := bd h
        have Fq_10 : Fr (fr_M [36] [57, 58, 59, 60, 61, 62, 63] []) O q_10 := fr_tr Fq_3 (wF_M_findBest hq_10) rfl rfl rfl
        exact wB_M_cutAll_80 H Fq_10 h
      · exact wB_M_cutAll_80 H Fq_3 h
    · exact wB_M_cutAll_86 H F h
theorem wB_M_cutAll_7 {O : cf_O} {rc : Nat → Int32 → Int32 → cf_O → Option ((Int32 × cf_O))} {v1 : Int32} {v2 : Int32} {o0 : cf_O} {r : (Int32 × cf_O)} (H : ∀ (k : Nat) (u1i : Int32) (u2i : Int32) (o0 : cf_O) (r : (Int32 × cf_O)), Fr (fr_M [36] [57, 58, 59, 60, 61, 62, 63] []) O o0 → rc k u1i u2i o0 = some r → Fr (fr_M [36] [57, 58, 59, 60, 61, 62, 63] []) O r.2) (F : Fr (fr_M [36] [57, 58, 59, 60, 61, 62, 63] []) O o0) (h : fM_cutAll_7 rc v1 v2 o0 = some r) : Fr (fr_M [36] [57, 58, 59, 60, 61, 62, 63] []) O r.2 := by
  unfold fM_cutAll_7 at h
  obtain ⟨q_1, _, h⟩ := bd h
  rcases ifc h with ⟨_, h⟩ | ⟨_, h⟩
  · exact H _ _ _ _ _ F h
  · have h := (ifn h).2
    obtain ⟨o_6, eo_6, h⟩ := opq h
    have Fo_6 : Fr (fr_M [36] [57, 58, 59, 60, 61, 62, 63] []) O o_6 := by rw [eo_6]; exact fr_xp F rfl
    have h := (ifn h).2
    obtain ⟨o_8, eo_8, h⟩ := opq h
    have Fo_8 : Fr (fr_M [36] [57, 58, 59, 60, 61, 62, 63] []) O o_8 := by rw [eo_8]; exact fr_xp Fo_6 rfl
    obtain ⟨q_9, hq_9, h⟩ := bd h
    have Fq_9 : Fr (fr_M [36] [57, 58, 59, 60, 61, 62, 63] []) O q_9 := fr_tr Fo_8 (wF_M_alone hq_9) rfl rfl rfl
    obtain ⟨x_11, _, h⟩ := opq h
    exact H _ _ _ _ _ Fq_9 h
theorem wB_M_cutAll_0 {O : cf_O} {rc : Nat → Int32 → Int32 → cf_O → Option ((Int32 × cf_O))} {v1 : Int32} {o0 : cf_O} {r : (Int32 × cf_O)} (H : ∀ (k : Nat) (u1i : Int32) (u2i : Int32) (o0 : cf_O) (r : (Int32 × cf_O)), Fr (fr_M [36] [57, 58, 59, 60, 61, 62, 63] []) O o0 → rc k u1i u2i o0 = some r → Fr (fr_M [36] [57, 58, 59, 60, 61, 62, 63] []) O r.2) (F : Fr (fr_M [36] [57, 58, 59, 60, 61, 62, 63] []) O o0) (h : fM_cutAll_0 rc v1 o0 = some r) : Fr (fr_M [36] [57, 58, 59, 60, 61, 62, 63] []) O r.2 := by
  unfold fM_cutAll_0 at h
  obtain ⟨o_1, eo_1, h⟩ := opq h
  have Fo_1 : Fr (fr_M [36] [57, 58, 59, 60, 61, 62, 63] []) O o_1 := by rw [eo_1]; exact fr_fp F rfl
  exact H _ _ _ _ _ Fo_1 h
theorem wG_M_cutAll {O : cf_O} : ∀ (n k : Nat) (u1i : Int32) (u2i : Int32) (o0 : cf_O) (r : (Int32 × cf_O)), Fr (fr_M [36] [57, 58, 59, 60, 61, 62, 63] []) O o0 → gM_cutAll n k u1i u2i o0 = some r → Fr (fr_M [36] [57, 58, 59, 60, 61, 62, 63] []) O r.2 := by
  intro n
  induction n with
  | zero => intro k u1i u2i o0 r F h; cases h
  | succ n ih =>
    intro k u1i u2i o0 r F h
    cases k with
    | zero => exact wB_M_cutAll_7 (rc := gM_cutAll n) ih F h
    | succ k =>
      cases k with
      | zero => exact wB_M_cutAll_42 (rc := gM_cutAll n) ih F h
      | succ k =>
        cases h
theorem wF_M_cutAll {v1 : Int32} {o0 : cf_O} {r : (Int32 × cf_O)} (h : fM_cutAll v1 o0 = some r) : Fr (fr_M [36] [57, 58, 59, 60, 61, 62, 63] []) o0 r.2 := by
  unfold fM_cutAll at h
  exact wB_M_cutAll_0 (rc := gM_cutAll cfFU) (fun k u1i u2i o0 r F h => wG_M_cutAll cfFU k u1i u2i o0 r F h) fr_rfl h
theorem wB_M_listCells_52 {O : cf_O} {rc : Nat → Int32 → cf_O → Option ((cf_O))} {v1 : Int32} {o0 : cf_O} {r : (cf_O)} (H : ∀ (k : Nat) (u1i : Int32) (o0 : cf_O) (r : (cf_O)), Fr (fr_M [73] [74] []) O o0 → rc k u1i o0 = some r → Fr (fr_M [73] [74] []) O r) (F : Fr (fr_M [73] [74] []) O o0) (h : fM_listCells_52 rc v1 o0 = some r) : Fr (fr_M [73] [74] []) O r := by
  unfold fM_listCells_52 at h
  obtain ⟨x_1, _, h⟩ := opq h
  exact H _ _ _ _ F h
theorem wB_M_listCells_10 {O : cf_O} {rc : Nat → Int32 → cf_O → Option ((cf_O))} {v1 : Int32} {o0 : cf_O} {r : (cf_O)} (H : ∀ (k : Nat) (u1i : Int32) (o0 : cf_O) (r : (cf_O)), Fr (fr_M [73] [74] []) O o0 → rc k u1i o0 = some r → Fr (fr_M [73] [74] []) O r) (F : Fr (fr_M [73] [74] []) O o0) (h : fM_listCells_10 rc v1 o0 = some r) : Fr (fr_M [73] [74] []) O r := by
  unfold fM_listCells_10 at h
  obtain ⟨q_1, _, h⟩ := bd h
  obtain ⟨x_4, _, h⟩ := opq h
  rcases ifc h with ⟨_, h⟩ | ⟨_, h⟩
  · rw [← Option.some.inj h]
    exact F
  · have h := (ifn h).2
    obtain ⟨x_7, _, h⟩ := opq h
    rcases ifc h with ⟨_, h⟩ | ⟨_, h⟩
    · exact wB_M_listCells_52 H F h
    · have h := (ifn h).2
      obtain ⟨o_10, eo_10, h⟩ := opq h
      have Fo_10 : Fr (fr_M [73] [74] []) O o_10 := by rw [eo_10]; exact fr_xp F rfl
      obtain ⟨x_11, _, h⟩ := opq h
      obtain ⟨o_12, eo_12, h⟩ := opq h
      have Fo_12 : Fr (fr_M [73] [74] []) O o_12 := by rw [eo_12]; exact fr_fp Fo_10 rfl
      exact wB_M_listCells_52 H Fo_12 h
theorem wB_M_listCells_0 {O : cf_O} {rc : Nat → Int32 → cf_O → Option ((cf_O))} {o0 : cf_O} {r : (cf_O)} (H : ∀ (k : Nat) (u1i : Int32) (o0 : cf_O) (r : (cf_O)), Fr (fr_M [73] [74] []) O o0 → rc k u1i o0 = some r → Fr (fr_M [73] [74] []) O r) (F : Fr (fr_M [73] [74] []) O o0) (h : fM_listCells_0 rc o0 = some r) : Fr (fr_M [73] [74] []) O r := by
  unfold fM_listCells_0 at h
  obtain ⟨o_1, eo_1, h⟩ := opq h
  have Fo_1 : Fr (fr_M [73] [74] []) O o_1 := by rw [eo_1]; exact fr_fp F rfl
  obtain ⟨q_2, _, h⟩ := bd h
  exact H _ _ _ _ Fo_1 h
theorem wG_M_listCells {O : cf_O} : ∀ (n k : Nat) (u1i : Int32) (o0 : cf_O) (r : (cf_O)), Fr (fr_M [73] [74] []) O o0 → gM_listCells n k u1i o0 = some r → Fr (fr_M [73] [74] []) O r := by
  intro n
  induction n with
  | zero => intro k u1i o0 r F h; cases h
  | succ n ih =>
    intro k u1i o0 r F h
    cases k with
    | zero => exact wB_M_listCells_10 (rc := gM_listCells n) ih F h
    | succ k =>
      cases h
theorem wF_M_listCells {o0 : cf_O} {r : (cf_O)} (h : fM_listCells o0 = some r) : Fr (fr_M [73] [74] []) o0 r := by
  unfold fM_listCells at h
  exact wB_M_listCells_0 (rc := gM_listCells cfFU) (fun k u1i o0 r F h => wG_M_listCells cfFU k u1i o0 r F h) fr_rfl h
theorem wB_M_chooseFew_374 {O : cf_O} {rc : Nat → Int32 → Int32 → Int32 → Int32 → cf_O → Option ((cf_O))} {v2 : Int32} {o0 : cf_O} {r : (cf_O)} (H : ∀ (k : Nat) (u1i : Int32) (u2i : Int32) (u3i : Int32) (u4i : Int32) (o0 : cf_O) (r : (cf_O)), Fr (fr_M [73] [63, 67, 72, 74] []) O o0 → rc k u1i u2i u3i u4i o0 = some r → Fr (fr_M [73] [63, 67, 72, 74] []) O r) (F : Fr (fr_M [73] [63, 67, 72, 74] []) O o0) (h : fM_chooseFew_374 rc v2 o0 = some r) : Fr (fr_M [73] [63, 67, 72, 74] []) O r := by
  unfold fM_chooseFew_374 at h
  obtain ⟨x_1, _, h⟩ := opq h
  exact H _ _ _ _ _ _ _ F h
theorem wB_M_chooseFew_367 {O : cf_O} {rc : Nat → Int32 → Int32 → Int32 → Int32 → cf_O → Option ((cf_O))} {v2 : Int32} {v3 : Int32} {v4 : Int32} {s1 : Int32} {s2 : Int32} {o0 : cf_O} {r : (cf_O)} (H : ∀ (k : Nat) (u1i : Int32) (u2i : Int32) (u3i : Int32) (u4i : Int32) (o0 : cf_O) (r : (cf_O)), Fr (fr_M [73] [63, 67, 72, 74] []) O o0 → rc k u1i u2i u3i u4i o0 = some r → Fr (fr_M [73] [63, 67, 72, 74] []) O r) (F : Fr (fr_M [73] [63, 67, 72, 74] []) O o0) (h : fM_chooseFew_367 rc v2 v3 v4 s1 s2 o0 = some r) : Fr (fr_M [73] [63, 67, 72, 74] []) O r := by
  unfold fM_chooseFew_367 at h
  have h := (ifn h).2
  obtain ⟨o_2, eo_2, h⟩ := opq h
  have Fo_2 : Fr (fr_M [73] [63, 67, 72, 74] []) O o_2 := by rw [eo_2]; exact fr_xp F rfl
  obtain ⟨x_3, _, h⟩ := opq h
  exact H _ _ _ _ _ _ _ Fo_2 h
theorem wB_M_chooseFew_362 {O : cf_O} {rc : Nat → Int32 → Int32 → Int32 → Int32 → cf_O → Option ((cf_O))} {v2 : Int32} {v3 : Int32} {v4 : Int32} {s1 : Int32} {o0 : cf_O} {r : (cf_O)} (H : ∀ (k : Nat) (u1i : Int32) (u2i : Int32) (u3i : Int32) (u4i : Int32) (o0 : cf_O) (r : (cf_O)), Fr (fr_M [73] [63, 67, 72, 74] []) O o0 → rc k u1i u2i u3i u4i o0 = some r → Fr (fr_M [73] [63, 67, 72, 74] []) O r) (F : Fr (fr_M [73] [63, 67, 72, 74] []) O o0) (h : fM_chooseFew_362 rc v2 v3 v4 s1 o0 = some r) : Fr (fr_M [73] [63, 67, 72, 74] []) O r := by
  unfold fM_chooseFew_362 at h
  exact wB_M_chooseFew_367 H F h
theorem wB_M_chooseFew_336 {O : cf_O} {rc : Nat → Int32 → Int32 → Int32 → Int32 → cf_O → Option ((cf_O))} {v2 : Int32} {v3 : Int32} {v4 : Int32} {v5 : Int32} {s1 : Int32} {s2 : Int32} {o0 : cf_O} {r : (cf_O)} (H : ∀ (k : Nat) (u1i : Int32) (u2i : Int32) (u3i : Int32) (u4i : Int32) (o0 : cf_O) (r : (cf_O)), Fr (fr_M [73] [63, 67, 72, 74] []) O o0 → rc k u1i u2i u3i u4i o0 = some r → Fr (fr_M [73] [63, 67, 72, 74] []) O r) (F : Fr (fr_M [73] [63, 67, 72, 74] []) O o0) (h : fM_chooseFew_336 rc v2 v3 v4 v5 s1 s2 o0 = some r) : Fr (fr_M [73] [63, 67, 72, 74] []) O r := by
  unfold fM_chooseFew_336 at h
  have h := (ifn h).2
  obtain ⟨o_2, eo_2, h⟩ := opq h
  have Fo_2 : Fr (fr_M [73] [63, 67, 72, 74] []) O o_2 := by rw [eo_2]; exact fr_xp F rfl
  have h := (ifn h).2
  obtain ⟨x_4, _, h⟩ := opq h
  rcases ifc h with ⟨_, h⟩ | ⟨_, h⟩
  · obtain ⟨q_6, _, h⟩ := bd h
    rcases ifc h with ⟨_, h⟩ | ⟨_, h⟩
    · exact wB_M_chooseFew_367 H Fo_2 h
    · exact wB_M_chooseFew_362 H Fo_2 h
  · exact wB_M_chooseFew_362 H Fo_2 h
theorem wB_M_chooseFew_318 {O : cf_O} {rc : Nat → Int32 → Int32 → Int32 → Int32 → cf_O → Option ((cf_O))} {v2 : Int32} {v3 : Int32} {v4 : Int32} {v5 : Int32} {s1 : Int32} {o0 : cf_O} {r : (cf_O)} (H : ∀ (k : Nat) (u1i : Int32) (u2i : Int32) (u3i : Int32) (u4i : Int32) (o0 : cf_O) (r : (cf_O)), Fr (fr_M [73] [63, 67, 72, 74] []) O o0 → rc k u1i u2i u3i u4i o0 = some r → Fr (fr_M [73] [63, 67, 72, 74] []) O r) (F : Fr (fr_M [73] [63, 67, 72, 74] []) O o0) (h : fM_chooseFew_318 rc v2 v3 v4 v5 s1 o0 = some r) : Fr (fr_M [73] [63, 67, 72, 74] []) O r := by
  unfold fM_chooseFew_318 at h
  have h := (ifn h).2
  obtain ⟨x_2, _, h⟩ := opq h
  obtain ⟨x_3, _, h⟩ := opq h
  exact wB_M_chooseFew_336 H F h
theorem wB_M_chooseFew_260 {O : cf_O} {rc : Nat → Int32 → Int32 → Int32 → Int32 → cf_O → Option ((cf_O))} {v2 : Int32} {v3 : Int32} {v4 : Int32} {o0 : cf_O} {r : (cf_O)} (H : ∀ (k : Nat) (u1i : Int32) (u2i : Int32) (u3i : Int32) (u4i : Int32) (o0 : cf_O) (r : (cf_O)), Fr (fr_M [73] [63, 67, 72, 74] []) O o0 → rc k u1i u2i u3i u4i o0 = some r → Fr (fr_M [73] [63, 67, 72, 74] []) O r) (F : Fr (fr_M [73] [63, 67, 72, 74] []) O o0) (h : fM_chooseFew_260 rc v2 v3 v4 o0 = some r) : Fr (fr_M [73] [63, 67, 72, 74] []) O r := by
  unfold fM_chooseFew_260 at h
  have h := (ifn h).2
  obtain ⟨x_2, _, h⟩ := opq h
  rcases ifc h with ⟨_, h⟩ | ⟨_, h⟩
  · exact wB_M_chooseFew_374 H F h
  · obtain ⟨x_4, _, h⟩ := opq h
    obtain ⟨x_5, _, h⟩ := opq h
    have h := (ifn h).2
    obtain ⟨x_7, _, h⟩ := opq h
    have h := (ifn h).2
    obtain ⟨x_9, _, h⟩ := opq h
    rcases ifc h with ⟨_, h⟩ | ⟨_, h⟩
    · exact wB_M_chooseFew_318 H F h
    · have h := (ifn h).2
      obtain ⟨x_12, _, h⟩ := opq h
      obtain ⟨x_13, _, h⟩ := opq h
      have h := (ifn h).2
      obtain ⟨x_15, _, h⟩ := opq h
      rcases ifc h with ⟨_, h⟩ | ⟨_, h⟩
      · have h := (ifn h).2
        obtain ⟨x_18, _, h⟩ := opq h
        exact wB_M_chooseFew_336 H F h
      · exact wB_M_chooseFew_318 H F h
theorem wB_M_chooseFew_243 {O : cf_O} {rc : Nat → Int32 → Int32 → Int32 → Int32 → cf_O → Option ((cf_O))} {v2 : Int32} {v4 : Int32} {s0 : Int32} {o0 : cf_O} {r : (cf_O)} (H : ∀ (k : Nat) (u1i : Int32) (u2i : Int32) (u3i : Int32) (u4i : Int32) (o0 : cf_O) (r : (cf_O)), Fr (fr_M [73] [63, 67, 72, 74] []) O o0 → rc k u1i u2i u3i u4i o0 = some r → Fr (fr_M [73] [63, 67, 72, 74] []) O r) (F : Fr (fr_M [73] [63, 67, 72, 74] []) O o0) (h : fM_chooseFew_243 rc v2 v4 s0 o0 = some r) : Fr (fr_M [73] [63, 67, 72, 74] []) O r := by
  unfold fM_chooseFew_243 at h
  obtain ⟨x_1, _, h⟩ := opq h
  exact H _ _ _ _ _ _ _ F h
theorem wB_M_chooseFew_242 {O : cf_O} {rc : Nat → Int32 → Int32 → Int32 → Int32 → cf_O → Option ((cf_O))} {v2 : Int32} {v3 : Int32} {v4 : Int32} {o0 : cf_O} {r : (cf_O)} (H : ∀ (k : Nat) (u1i : Int32) (u2i : Int32) (u3i : Int32) (u4i : Int32) (o0 : cf_O) (r : (cf_O)), Fr (fr_M [73] [63, 67, 72, 74] []) O o0 → rc k u1i u2i u3i u4i o0 = some r → Fr (fr_M [73] [63, 67, 72, 74] []) O r) (F : Fr (fr_M [73] [63, 67, 72, 74] []) O o0) (h : fM_chooseFew_242 rc v2 v3 v4 o0 = some r) : Fr (fr_M [73] [63, 67, 72, 74] []) O r := by
  unfold fM_chooseFew_242 at h
  exact wB_M_chooseFew_243 H F h
theorem wB_M_chooseFew_237 {O : cf_O} {rc : Nat → Int32 → Int32 → Int32 → Int32 → cf_O → Option ((cf_O))} {v2 : Int32} {v4 : Int32} {o0 : cf_O} {r : (cf_O)} (H : ∀ (k : Nat) (u1i : Int32) (u2i : Int32) (u3i : Int32) (u4i : Int32) (o0 : cf_O) (r : (cf_O)), Fr (fr_M [73] [63, 67, 72, 74] []) O o0 → rc k u1i u2i u3i u4i o0 = some r → Fr (fr_M [73] [63, 67, 72, 74] []) O r) (F : Fr (fr_M [73] [63, 67, 72, 74] []) O o0) (h : fM_chooseFew_237 rc v2 v4 o0 = some r) : Fr (fr_M [73] [63, 67, 72, 74] []) O r := by
  unfold fM_chooseFew_237 at h
  exact wB_M_chooseFew_243 H F h
theorem wB_M_chooseFew_216 {O : cf_O} {rc : Nat → Int32 → Int32 → Int32 → Int32 → cf_O → Option ((cf_O))} {v2 : Int32} {v3 : Int32} {v4 : Int32} {s0 : Int32} {o0 : cf_O} {r : (cf_O)} (H : ∀ (k : Nat) (u1i : Int32) (u2i : Int32) (u3i : Int32) (u4i : Int32) (o0 : cf_O) (r : (cf_O)), Fr (fr_M [73] [63, 67, 72, 74] []) O o0 → rc k u1i u2i u3i u4i o0 = some r → Fr (fr_M [73] [63, 67, 72, 74] []) O r) (F : Fr (fr_M [73] [63, 67, 72, 74] []) O o0) (h : fM_chooseFew_216 rc v2 v3 v4 s0 o0 = some r) : Fr (fr_M [73] [63, 67, 72, 74] []) O r := by
  unfold fM_chooseFew_216 at h
  rcases ifc h with ⟨_, h⟩ | ⟨_, h⟩
  · exact wB_M_chooseFew_242 H F h
  · rcases ifc h with ⟨_, h⟩ | ⟨_, h⟩
    · exact wB_M_chooseFew_237 H F h
    · obtain ⟨q_3, _, h⟩ := bd h
      rcases ifc h with ⟨_, h⟩ | ⟨_, h⟩
      · exact wB_M_chooseFew_242 H F h
      · exact wB_M_chooseFew_237 H F h
theorem wB_M_chooseFew_179 {O : cf_O} {rc : Nat → Int32 → Int32 → Int32 → Int32 → cf_O → Option ((cf_O))} {v2 : Int32} {v3 : Int32} {v4 : Int32} {o0 : cf_O} {r : (cf_O)} (H : ∀ (k : Nat) (u1i : Int32) (u2i : Int32) (u3i : Int32) (u4i : Int32) (o0 : cf_O) (r : (cf_O)), Fr (fr_M [73] [63, 67, 72, 74] []) O o0 → rc k u1i u2i u3i u4i o0 = some r → Fr (fr_M [73] [63, 67, 72, 74] []) O r) (F : Fr (fr_M [73] [63, 67, 72, 74] []) O o0) (h : fM_chooseFew_179 rc v2 v3 v4 o0 = some r) : Fr (fr_M [73] [63, 67, 72, 74] []) O r := by
  unfold fM_chooseFew_179 at h
  obtain ⟨x_1, _, h⟩ := opq h
  have h := (ifn h).2
  obtain ⟨x_3, _, h⟩ := opq h
  obtain ⟨x_4, _, h⟩ := opq h
  rcases ifc h with ⟨_, h⟩ | ⟨_, h⟩
  · have h := (ifn h).2
    obtain ⟨o_7, eo_7, h⟩ := opq h
    have Fo_7 : Fr (fr_M [73] [63, 67, 72, 74] []) O o_7 := by rw [eo_7]; exact fr_xp F rfl
    exact H _ _ _ _ _ _ _ Fo_7 h
  · obtain ⟨q_8, _, h⟩ := bd h
    have h := (ifn h).2
    obtain ⟨x_12, _, h⟩ := opq h
    rcases ifc h with ⟨_, h⟩ | ⟨_, h⟩
    · exact wB_M_chooseFew_216 H F h
    · exact wB_M_chooseFew_216 H F h
theorem wB_M_chooseFew_150 {O : cf_O} {rc : Nat → Int32 → Int32 → Int32 → Int32 → cf_O → Option ((cf_O))} {v2 : Int32} {o0 : cf_O} {r : (cf_O)} (H : ∀ (k : Nat) (u1i : Int32) (u2i : Int32) (u3i : Int32) (u4i : Int32) (o0 : cf_O) (r : (cf_O)), Fr (fr_M [73] [63, 67, 72, 74] []) O o0 → rc k u1i u2i u3i u4i o0 = some r → Fr (fr_M [73] [63, 67, 72, 74] []) O r) (F : Fr (fr_M [73] [63, 67, 72, 74] []) O o0) (h : fM_chooseFew_150 rc v2 o0 = some r) : Fr (fr_M [73] [63, 67, 72, 74] []) O r := by
  unfold fM_chooseFew_150 at h
  obtain ⟨q_1, _, h⟩ := bd h
  rcases ifc h with ⟨_, h⟩ | ⟨_, h⟩
  · obtain ⟨q_5, hq_5, h⟩ := bd h
    have Fq_5 : Fr (fr_M [73] [63, 67, 72, 74] []) O q_5 := fr_tr F (wF_M_listCells hq_5) rfl rfl rfl
    rw [← Option.some.inj h]
    exact Fq_5
  · have h := (ifn h).2
    obtain ⟨x_8, _, h⟩ := opq h
    rcases ifc h with ⟨_, h⟩ | ⟨_, h⟩
    · exact wB_M_chooseFew_374 H F h
    · obtain ⟨x_10, _, h⟩ := opq h
      exact H _ _ _ _ _ _ _ F h
theorem wB_M_chooseFew_117 {O : cf_O} {rc : Nat → Int32 → Int32 → Int32 → Int32 → cf_O → Option ((cf_O))} {v1 : Int32} {v2 : Int32} {s1 : Int32} {s2 : Int32} {o0 : cf_O} {r : (cf_O)} (H : ∀ (k : Nat) (u1i : Int32) (u2i : Int32) (u3i : Int32) (u4i : Int32) (o0 : cf_O) (r : (cf_O)), Fr (fr_M [73] [63, 67, 72, 74] []) O o0 → rc k u1i u2i u3i u4i o0 = some r → Fr (fr_M [73] [63, 67, 72, 74] []) O r) (F : Fr (fr_M [73] [63, 67, 72, 74] []) O o0) (h : fM_chooseFew_117 rc v1 v2 s1 s2 o0 = some r) : Fr (fr_M [73] [63, 67, 72, 74] []) O r := by
  unfold fM_chooseFew_117 at h
  have h := (ifn h).2
  obtain ⟨o_2, eo_2, h⟩ := opq h
  have Fo_2 : Fr (fr_M [73] [63, 67, 72, 74] []) O o_2 := by rw [eo_2]; exact fr_xp F rfl
  have h := (ifn h).2
  obtain ⟨x_4, _, h⟩ := opq h
  obtain ⟨x_5, _, h⟩ := opq h
  have h := (ifn h).2
  obtain ⟨o_7, eo_7, h⟩ := opq h
  have Fo_7 : Fr (fr_M [73] [63, 67, 72, 74] []) O o_7 := by rw [eo_7]; exact fr_xp Fo_2 rfl
  obtain ⟨x_8, _, h⟩ := opq h
  exact H _ _ _ _ _ _ _ Fo_7 h
theorem wB_M_chooseFew_77 {O : cf_O} {rc : Nat → Int32 → Int32 → Int32 → Int32 → cf_O → Option ((cf_O))} {v1 : Int32} {v2 : Int32} {o0 : cf_O} {r : (cf_O)} (H : ∀ (k : Nat) (u1i : Int32) (u2i : Int32) (u3i : Int32) (u4i : Int32) (o0 : cf_O) (r : (cf_O)), Fr (fr_M [73] [63, 67, 72, 74] []) O o0 → rc k u1i u2i u3i u4i o0 = some r → Fr (fr_M [73] [63, 67, 72, 74] []) O r) (F : Fr (fr_M [73] [63, 67, 72, 74] []) O o0) (h : fM_chooseFew_77 rc v1 v2 o0 = some r) : Fr (fr_M [73] [63, 67, 72, 74] []) O r := by
  unfold fM_chooseFew_77 at h
  rcases ifc h with ⟨_, h⟩ | ⟨_, h⟩
  · obtain ⟨q_2, _, h⟩ := bd h
    obtain ⟨x_5, _, h⟩ := opq h
    obtain ⟨x_6, _, h⟩ := opq h
    exact H _ _ _ _ _ _ _ F h
  · have h := (ifn h).2
    obtain ⟨x_8, _, h⟩ := opq h
    obtain ⟨x_9, _, h⟩ := opq h
    have h := (ifn h).2
    obtain ⟨x_11, _, h⟩ := opq h
    obtain ⟨x_12, _, h⟩ := opq h
    obtain ⟨q_13, _, h⟩ := bd h
    rcases ifc h with ⟨_, h⟩ | ⟨_, h⟩
    · exact wB_M_chooseFew_117 H F h
    · exact wB_M_chooseFew_117 H F h
theorem wB_M_chooseFew_68 {O : cf_O} {rc : Nat → Int32 → Int32 → Int32 → Int32 → cf_O → Option ((cf_O))} {v2 : Int32} {s0 : Int32} {o0 : cf_O} {r : (cf_O)} (H : ∀ (k : Nat) (u1i : Int32) (u2i : Int32) (u3i : Int32) (u4i : Int32) (o0 : cf_O) (r : (cf_O)), Fr (fr_M [73] [63, 67, 72, 74] []) O o0 → rc k u1i u2i u3i u4i o0 = some r → Fr (fr_M [73] [63, 67, 72, 74] []) O r) (F : Fr (fr_M [73] [63, 67, 72, 74] []) O o0) (h : fM_chooseFew_68 rc v2 s0 o0 = some r) : Fr (fr_M [73] [63, 67, 72, 74] []) O r := by
  unfold fM_chooseFew_68 at h
  obtain ⟨x_1, _, h⟩ := opq h
  exact H _ _ _ _ _ _ _ F h
theorem wB_M_chooseFew_26 {O : cf_O} {rc : Nat → Int32 → Int32 → Int32 → Int32 → cf_O → Option ((cf_O))} {v1 : Int32} {v2 : Int32} {o0 : cf_O} {r : (cf_O)} (H : ∀ (k : Nat) (u1i : Int32) (u2i : Int32) (u3i : Int32) (u4i : Int32) (o0 : cf_O) (r : (cf_O)), Fr (fr_M [73] [63, 67, 72, 74] []) O o0 → rc k u1i u2i u3i u4i o0 = some r → Fr (fr_M [73] [63, 67, 72, 74] []) O r) (F : Fr (fr_M [73] [63, 67, 72, 74] []) O o0) (h : fM_chooseFew_26 rc v1 v2 o0 = some r) : Fr (fr_M [73] [63, 67, 72, 74] []) O r := by
  unfold fM_chooseFew_26 at h
  rcases ifc h with ⟨_, h⟩ | ⟨_, h⟩
  · exact H _ _ _ _ _ _ _ F h
  · have h := (ifn h).2
    obtain ⟨x_3, _, h⟩ := opq h
    obtain ⟨x_4, _, h⟩ := opq h
    have h := (ifn h).2
    obtain ⟨x_6, _, h⟩ := opq h
    rcases ifc h with ⟨_, h⟩ | ⟨_, h⟩
    · exact wB_M_chooseFew_68 H F h
    · have h := (ifn h).2
      obtain ⟨x_9, _, h⟩ := opq h
      obtain ⟨x_10, _, h⟩ := opq h
      have h := (ifn h).2
      obtain ⟨x_12, _, h⟩ := opq h
      exact wB_M_chooseFew_68 H F h
theorem wB_M_chooseFew_4 {O : cf_O} {rc : Nat → Int32 → Int32 → Int32 → Int32 → cf_O → Option ((cf_O))} {v1 : Int32} {v2 : Int32} {o0 : cf_O} {r : (cf_O)} (H : ∀ (k : Nat) (u1i : Int32) (u2i : Int32) (u3i : Int32) (u4i : Int32) (o0 : cf_O) (r : (cf_O)), Fr (fr_M [73] [63, 67, 72, 74] []) O o0 → rc k u1i u2i u3i u4i o0 = some r → Fr (fr_M [73] [63, 67, 72, 74] []) O r) (F : Fr (fr_M [73] [63, 67, 72, 74] []) O o0) (h : fM_chooseFew_4 rc v1 v2 o0 = some r) : Fr (fr_M [73] [63, 67, 72, 74] []) O r := by
  unfold fM_chooseFew_4 at h
  rcases ifc h with ⟨_, h⟩ | ⟨_, h⟩
  · exact H _ _ _ _ _ _ _ F h
  · have h := (ifn h).2
    obtain ⟨o_3, eo_3, h⟩ := opq h
    have Fo_3 : Fr (fr_M [73] [63, 67, 72, 74] []) O o_3 := by rw [eo_3]; exact fr_xp F rfl
    obtain ⟨x_4, _, h⟩ := opq h
    exact H _ _ _ _ _ _ _ Fo_3 h
theorem wB_M_chooseFew_0 {O : cf_O} {rc : Nat → Int32 → Int32 → Int32 → Int32 → cf_O → Option ((cf_O))} {o0 : cf_O} {r : (cf_O)} (H : ∀ (k : Nat) (u1i : Int32) (u2i : Int32) (u3i : Int32) (u4i : Int32) (o0 : cf_O) (r : (cf_O)), Fr (fr_M [73] [63, 67, 72, 74] []) O o0 → rc k u1i u2i u3i u4i o0 = some r → Fr (fr_M [73] [63, 67, 72, 74] []) O r) (F : Fr (fr_M [73] [63, 67, 72, 74] []) O o0) (h : fM_chooseFew_0 rc o0 = some r) : Fr (fr_M [73] [63, 67, 72, 74] []) O r := by
  unfold fM_chooseFew_0 at h
  exact H _ _ _ _ _ _ _ F h
theorem wG_M_chooseFew {O : cf_O} : ∀ (n k : Nat) (u1i : Int32) (u2i : Int32) (u3i : Int32) (u4i : Int32) (o0 : cf_O) (r : (cf_O)), Fr (fr_M [73] [63, 67, 72, 74] []) O o0 → gM_chooseFew n k u1i u2i u3i u4i o0 = some r → Fr (fr_M [73] [63, 67, 72, 74] []) O r := by
  intro n
  induction n with
  | zero => intro k u1i u2i u3i u4i o0 r F h; cases h
  | succ n ih =>
    intro k u1i u2i u3i u4i o0 r F h
    cases k with
    | zero => exact wB_M_chooseFew_4 (rc := gM_chooseFew n) ih F h
    | succ k =>
      cases k with
      | zero => exact wB_M_chooseFew_26 (rc := gM_chooseFew n) ih F h
      | succ k =>
        cases k with
        | zero => exact wB_M_chooseFew_77 (rc := gM_chooseFew n) ih F h
        | succ k =>
          cases k with
          | zero => exact wB_M_chooseFew_150 (rc := gM_chooseFew n) ih F h
          | succ k =>
            cases k with
            | zero => exact wB_M_chooseFew_179 (rc := gM_chooseFew n) ih F h
            | succ k =>
              cases k with
              | zero => exact wB_M_chooseFew_260 (rc := gM_chooseFew n) ih F h
              | succ k =>
                cases h
theorem wF_M_chooseFew {o0 : cf_O} {r : (cf_O)} (h : fM_chooseFew o0 = some r) : Fr (fr_M [73] [63, 67, 72, 74] []) o0 r := by
  unfold fM_chooseFew at h
  exact wB_M_chooseFew_0 (rc := gM_chooseFew cfFU) (fun k u1i u2i u3i u4i o0 r F h => wG_M_chooseFew cfFU k u1i u2i u3i u4i o0 r F h) fr_rfl h
theorem wB_M_again_27 {O : cf_O} {o0 : cf_O} {r : (cf_O)} (F : Fr (fr_M [36, 73] [57, 58, 59, 60, 61, 62, 63, 67, 72, 74] []) O o0) (h : fM_again_27 o0 = some r) : Fr (fr_M [36, 73] [57, 58, 59, 60, 61, 62, 63, 67, 72, 74] []) O r := by
  unfold fM_again_27 at h
  rw [← Option.some.inj h]
  exact F
theorem wB_M_again_0 {O : cf_O} {o0 : cf_O} {r : (cf_O)} (F : Fr (fr_M [36, 73] [57, 58, 59, 60, 61, 62, 63, 67, 72, 74] []) O o0) (h : fM_again_0 o0 = some r) : Fr (fr_M [36, 73] [57, 58, 59, 60, 61, 62, 63, 67, 72, 74] []) O r := by
  unfold fM_again_0 at h
  rcases ifc h with ⟨_, h⟩ | ⟨_, h⟩
  · exact wB_M_again_27 F h
  · obtain ⟨q_2, hq_2, h⟩ := bd h
    have Fq_2 : Fr (fr_M [36, 73] [57, 58, 59, 60, 61, 62, 63, 67, 72, 74] []) O q_2.2 := fr_tr F (wF_M_cutAll hq_2) rfl rfl rfl
    rcases ifc h with ⟨_, h⟩ | ⟨_, h⟩
    · exact wB_M_again_27 Fq_2 h
    · obtain ⟨q_6, hq_6, h⟩ := bd h
      have Fq_6 : Fr (fr_M [36, 73] [57, 58, 59, 60, 61, 62, 63, 67, 72, 74] []) O q_6 := fr_tr Fq_2 (wF_M_chooseFew hq_6) rfl rfl rfl
      exact wB_M_again_27 Fq_6 h
theorem wF_M_again {o0 : cf_O} {r : (cf_O)} (h : fM_again o0 = some r) : Fr (fr_M [36, 73] [57, 58, 59, 60, 61, 62, 63, 67, 72, 74] []) o0 r := by
  unfold fM_again at h
  exact wB_M_again_0 fr_rfl h
theorem wB_M_refuse_41 {O : cf_O} {s0 : Int32} {o0 : cf_O} {r : (Int32 × cf_O)} (F : Fr (fr_M [0] [] []) O o0) (h : fM_refuse_41 s0 o0 = some r) : Fr (fr_M [0] [] []) O r.2 := by
  unfold fM_refuse_41 at h
  have h := (ifn h).2
  rw [← Option.some.inj h]
  exact F
theorem wB_M_refuse_26 {O : cf_O} {s1 : Int32} {o0 : cf_O} {r : (Int32 × cf_O)} (F : Fr (fr_M [0] [] []) O o0) (h : fM_refuse_26 s1 o0 = some r) : Fr (fr_M [0] [] []) O r.2 := by
  unfold fM_refuse_26 at h
  obtain ⟨o_1, eo_1, h⟩ := opq h
  have Fo_1 : Fr (fr_M [0] [] []) O o_1 := by rw [eo_1]; exact fr_fp F rfl
  rcases ifc h with ⟨_, h⟩ | ⟨_, h⟩
  · exact wB_M_refuse_41 Fo_1 h
  · exact wB_M_refuse_41 Fo_1 h
theorem wB_M_refuse_0 {O : cf_O} {v1 : Int32} {v2 : Int32} {v3 : Int32} {o0 : cf_O} {r : (Int32 × cf_O)} (F : Fr (fr_M [0] [] []) O o0) (h : fM_refuse_0 v1 v2 v3 o0 = some r) : Fr (fr_M [0] [] []) O r.2 := by
  unfold fM_refuse_0 at h
  rcases ifc h with ⟨_, h⟩ | ⟨_, h⟩
  · rcases ifc h with ⟨_, h⟩ | ⟨_, h⟩
    · rcases ifc h with ⟨_, h⟩ | ⟨_, h⟩
      · exact wB_M_refuse_26 F h
      · exact wB_M_refuse_26 F h
    · exact wB_M_refuse_26 F h
  · exact wB_M_refuse_26 F h
theorem wF_M_refuse {v1 : Int32} {v2 : Int32} {v3 : Int32} {o0 : cf_O} {r : (Int32 × cf_O)} (h : fM_refuse v1 v2 v3 o0 = some r) : Fr (fr_M [0] [] []) o0 r.2 := by
  unfold fM_refuse at h
  exact wB_M_refuse_0 fr_rfl h
theorem wB_M_take_77 {O : cf_O} {rc : Nat → Int32 → cf_O → Option ((cf_O))} {v1 : Int32} {o0 : cf_O} {r : (cf_O)} (H : ∀ (k : Nat) (u1i : Int32) (o0 : cf_O) (r : (cf_O)), Fr (fr_M [43, 64, 85] [44, 45, 46, 47] []) O o0 → rc k u1i o0 = some r → Fr (fr_M [43, 64, 85] [44, 45, 46, 47] []) O r) (F : Fr (fr_M [43, 64, 85] [44, 45, 46, 47] []) O o0) (h : fM_take_77 rc v1 o0 = some r) : Fr (fr_M [43, 64, 85] [44, 45, 46, 47] []) O r := by
  unfold fM_take_77 at h
  rcases ifc h with ⟨_, h⟩ | ⟨_, h⟩
  · obtain ⟨o_2, eo_2, h⟩ := opq h
    have Fo_2 : Fr (fr_M [43, 64, 85] [44, 45, 46, 47] []) O o_2 := by rw [eo_2]; exact fr_fp F rfl
    obtain ⟨o_3, eo_3, h⟩ := opq h
    have Fo_3 : Fr (fr_M [43, 64, 85] [44, 45, 46, 47] []) O o_3 := by rw [eo_3]; exact fr_fp Fo_2 rfl
    rw [← Option.some.inj h]
    exact Fo_3
  · have h := (ifn h).2
    obtain ⟨x_5, _, h⟩ := opq h
    have h := (ifn h).2
    obtain ⟨o_7, eo_7, h⟩ := opq h
    have Fo_7 : Fr (fr_M [43, 64, 85] [44, 45, 46, 47] []) O o_7 := by rw [eo_7]; exact fr_xp F rfl
    obtain ⟨x_8, _, h⟩ := opq h
    exact H _ _ _ _ Fo_7 h
theorem wB_M_take_50 {O : cf_O} {rc : Nat → Int32 → cf_O → Option ((cf_O))} {v1 : Int32} {o0 : cf_O} {r : (cf_O)} (H : ∀ (k : Nat) (u1i : Int32) (o0 : cf_O) (r : (cf_O)), Fr (fr_M [43, 64, 85] [44, 45, 46, 47] []) O o0 → rc k u1i o0 = some r → Fr (fr_M [43, 64, 85] [44, 45, 46, 47] []) O r) (F : Fr (fr_M [43, 64, 85] [44, 45, 46, 47] []) O o0) (h : fM_take_50 rc v1 o0 = some r) : Fr (fr_M [43, 64, 85] [44, 45, 46, 47] []) O r := by
  unfold fM_take_50 at h
  rcases ifc h with ⟨_, h⟩ | ⟨_, h⟩
  · exact H _ _ _ _ F h
  · have h := (ifn h).2
    obtain ⟨x_3, _, h⟩ := opq h
    have h := (ifn h).2
    obtain ⟨o_5, eo_5, h⟩ := opq h
    have Fo_5 : Fr (fr_M [43, 64, 85] [44, 45, 46, 47] []) O o_5 := by rw [eo_5]; exact fr_xp F rfl
    obtain ⟨x_6, _, h⟩ := opq h
    exact H _ _ _ _ Fo_5 h
theorem wB_M_take_10 {O : cf_O} {rc : Nat → Int32 → cf_O → Option ((cf_O))} {v1 : Int32} {o0 : cf_O} {r : (cf_O)} (H : ∀ (k : Nat) (u1i : Int32) (o0 : cf_O) (r : (cf_O)), Fr (fr_M [43, 64, 85] [44, 45, 46, 47] []) O o0 → rc k u1i o0 = some r → Fr (fr_M [43, 64, 85] [44, 45, 46, 47] []) O r) (F : Fr (fr_M [43, 64, 85] [44, 45, 46, 47] []) O o0) (h : fM_take_10 rc v1 o0 = some r) : Fr (fr_M [43, 64, 85] [44, 45, 46, 47] []) O r := by
  unfold fM_take_10 at h
  rcases ifc h with ⟨_, h⟩ | ⟨_, h⟩
  · exact H _ _ _ _ F h
  · have h := (ifn h).2
    obtain ⟨x_3, _, h⟩ := opq h
    have h := (ifn h).2
    obtain ⟨o_5, eo_5, h⟩ := opq h
    have Fo_5 : Fr (fr_M [43, 64, 85] [44, 45, 46, 47] []) O o_5 := by rw [eo_5]; exact fr_xp F rfl
    have h := (ifn h).2
    obtain ⟨x_7, _, h⟩ := opq h
    have h := (ifn h).2
    obtain ⟨o_9, eo_9, h⟩ := opq h
    have Fo_9 : Fr (fr_M [43, 64, 85] [44, 45, 46, 47] []) O o_9 := by rw [eo_9]; exact fr_xp Fo_5 rfl
    obtain ⟨x_10, _, h⟩ := opq h
    exact H _ _ _ _ Fo_9 h
theorem wB_M_take_0 {O : cf_O} {rc : Nat → Int32 → cf_O → Option ((cf_O))} {o0 : cf_O} {r : (cf_O)} (H : ∀ (k : Nat) (u1i : Int32) (o0 : cf_O) (r : (cf_O)), Fr (fr_M [43, 64, 85] [44, 45, 46, 47] []) O o0 → rc k u1i o0 = some r → Fr (fr_M [43, 64, 85] [44, 45, 46, 47] []) O r) (F : Fr (fr_M [43, 64, 85] [44, 45, 46, 47] []) O o0) (h : fM_take_0 rc o0 = some r) : Fr (fr_M [43, 64, 85] [44, 45, 46, 47] []) O r := by
  unfold fM_take_0 at h
  obtain ⟨o_1, eo_1, h⟩ := opq h
  have Fo_1 : Fr (fr_M [43, 64, 85] [44, 45, 46, 47] []) O o_1 := by rw [eo_1]; exact fr_fp F rfl
  exact H _ _ _ _ Fo_1 h
theorem wG_M_take {O : cf_O} : ∀ (n k : Nat) (u1i : Int32) (o0 : cf_O) (r : (cf_O)), Fr (fr_M [43, 64, 85] [44, 45, 46, 47] []) O o0 → gM_take n k u1i o0 = some r → Fr (fr_M [43, 64, 85] [44, 45, 46, 47] []) O r := by
  intro n
  induction n with
  | zero => intro k u1i o0 r F h; cases h
  | succ n ih =>
    intro k u1i o0 r F h
    cases k with
    | zero => exact wB_M_take_10 (rc := gM_take n) ih F h
    | succ k =>
      cases k with
      | zero => exact wB_M_take_50 (rc := gM_take n) ih F h
      | succ k =>
        cases k with
        | zero => exact wB_M_take_77 (rc := gM_take n) ih F h
        | succ k =>
          cases h
theorem wF_M_take {o0 : cf_O} {r : (cf_O)} (h : fM_take o0 = some r) : Fr (fr_M [43, 64, 85] [44, 45, 46, 47] []) o0 r := by
  unfold fM_take at h
  exact wB_M_take_0 (rc := gM_take cfFU) (fun k u1i o0 r F h => wG_M_take cfFU k u1i o0 r F h) fr_rfl h
theorem wB_M_finish_57 {O : cf_O} {rc : Nat → Int32 → cf_O → Option ((Int32 × cf_O))} {s1 : Int32} {o0 : cf_O} {r : (Int32 × cf_O)} (H : ∀ (k : Nat) (u1i : Int32) (o0 : cf_O) (r : (Int32 × cf_O)), Fr (fr_M [0, 43, 64, 85] [35, 44, 45, 46, 47] []) O o0 → rc k u1i o0 = some r → Fr (fr_M [0, 43, 64, 85] [35, 44, 45, 46, 47] []) O r.2) (F : Fr (fr_M [0, 43, 64, 85] [35, 44, 45, 46, 47] []) O o0) (h : fM_finish_57 rc s1 o0 = some r) : Fr (fr_M [0, 43, 64, 85] [35, 44, 45, 46, 47] []) O r.2 := by
  unfold fM_finish_57 at h
  obtain ⟨q_1, hq_1, h⟩ := bd h
  have Fq_1 : Fr (fr_M [0, 43, 64, 85] [35, 44, 45, 46, 47] []) O q_1.2 := fr_tr F (wF_M_refuse hq_1) rfl rfl rfl
  rcases ifc h with ⟨_, h⟩ | ⟨_, h⟩
  · obtain ⟨q_5, hq_5, h⟩ := bd h
    have Fq_5 : Fr (fr_M [0, 43, 64, 85] [35, 44, 45, 46, 47] []) O q_5 := fr_tr Fq_1 (wF_M_take hq_5) rfl rfl rfl
    rw [← Option.some.inj h]
    exact Fq_5
  · rw [← Option.some.inj h]
    exact Fq_1
theorem wB_M_finish_2 {O : cf_O} {rc : Nat → Int32 → cf_O → Option ((Int32 × cf_O))} {v1 : Int32} {o0 : cf_O} {r : (Int32 × cf_O)} (H : ∀ (k : Nat) (u1i : Int32) (o0 : cf_O) (r : (Int32 × cf_O)), Fr (fr_M [0, 43, 64, 85] [35, 44, 45, 46, 47] []) O o0 → rc k u1i o0 = some r → Fr (fr_M [0, 43, 64, 85] [35, 44, 45, 46, 47] []) O r.2) (F : Fr (fr_M [0, 43, 64, 85] [35, 44, 45, 46, 47] []) O o0) (h : fM_finish_2 rc v1 o0 = some r) : Fr (fr_M [0, 43, 64, 85] [35, 44, 45, 46, 47] []) O r.2 := by
  unfold fM_finish_2 at h
  rcases ifc h with ⟨_, h⟩ | ⟨_, h⟩
  · rcases ifc h with ⟨_, h⟩ | ⟨_, h⟩
    · exact wB_M_finish_57 H F h
    · exact wB_M_finish_57 H F h
  · have h := (ifn h).2
    obtain ⟨x_4, _, h⟩ := opq h
    obtain ⟨x_5, _, h⟩ := opq h
    have h := (ifn h).2
    obtain ⟨x_7, _, h⟩ := opq h
    have h := (ifn h).2
    obtain ⟨x_9, _, h⟩ := opq h
    obtain ⟨x_10, _, h⟩ := opq h
    obtain ⟨x_11, _, h⟩ := opq h
    have h := (ifn h).2
    obtain ⟨o_13, eo_13, h⟩ := opq h
    have Fo_13 : Fr (fr_M [0, 43, 64, 85] [35, 44, 45, 46, 47] []) O o_13 := by rw [eo_13]; exact fr_xp F rfl
    obtain ⟨x_14, _, h⟩ := opq h
    exact H _ _ _ _ Fo_13 h
theorem wB_M_finish_0 {O : cf_O} {rc : Nat → Int32 → cf_O → Option ((Int32 × cf_O))} {o0 : cf_O} {r : (Int32 × cf_O)} (H : ∀ (k : Nat) (u1i : Int32) (o0 : cf_O) (r : (Int32 × cf_O)), Fr (fr_M [0, 43, 64, 85] [35, 44, 45, 46, 47] []) O o0 → rc k u1i o0 = some r → Fr (fr_M [0, 43, 64, 85] [35, 44, 45, 46, 47] []) O r.2) (F : Fr (fr_M [0, 43, 64, 85] [35, 44, 45, 46, 47] []) O o0) (h : fM_finish_0 rc o0 = some r) : Fr (fr_M [0, 43, 64, 85] [35, 44, 45, 46, 47] []) O r.2 := by
  unfold fM_finish_0 at h
  exact H _ _ _ _ F h
theorem wG_M_finish {O : cf_O} : ∀ (n k : Nat) (u1i : Int32) (o0 : cf_O) (r : (Int32 × cf_O)), Fr (fr_M [0, 43, 64, 85] [35, 44, 45, 46, 47] []) O o0 → gM_finish n k u1i o0 = some r → Fr (fr_M [0, 43, 64, 85] [35, 44, 45, 46, 47] []) O r.2 := by
  intro n
  induction n with
  | zero => intro k u1i o0 r F h; cases h
  | succ n ih =>
    intro k u1i o0 r F h
    cases k with
    | zero => exact wB_M_finish_2 (rc := gM_finish n) ih F h
    | succ k =>
      cases h
theorem wF_M_finish {o0 : cf_O} {r : (Int32 × cf_O)} (h : fM_finish o0 = some r) : Fr (fr_M [0, 43, 64, 85] [35, 44, 45, 46, 47] []) o0 r.2 := by
  unfold fM_finish at h
  exact wB_M_finish_0 (rc := gM_finish cfFU) (fun k u1i o0 r F h => wG_M_finish cfFU k u1i o0 r F h) fr_rfl h
