theorem wB_M_emit_0 {O : cf_O} {v1 : Int64} {o0 : cf_O} {r : (cf_O)} (F : Fr (fr_M [76, 96] [77, 97] []) O o0) (h : fM_emit_0 v1 o0 = some r) : Fr (fr_M [76, 96] [77, 97] []) O r := by
  unfold fM_emit_0 at h
  rcases ifc h with ⟨_, h⟩ | ⟨_, h⟩
  · obtain ⟨x_2, _, h⟩ := opq h
    have h := (ifn h).2
    obtain ⟨o_4, eo_4, h⟩ := opq h
    have Fo_4 : Fr (fr_M [76, 96] [77, 97] []) O o_4 := by rw [eo_4]; exact fr_xp F rfl
    obtain ⟨x_5, _, h⟩ := opq h
    obtain ⟨o_6, eo_6, h⟩ := opq h
    have Fo_6 : Fr (fr_M [76, 96] [77, 97] []) O o_6 := by rw [eo_6]; exact fr_fp Fo_4 rfl
    rw [← Option.some.inj h]
    exact Fo_6
  · obtain ⟨x_7, _, h⟩ := opq h
    have h := (ifn h).2
    obtain ⟨o_9, eo_9, h⟩ := opq h
    have Fo_9 : Fr (fr_M [76, 96] [77, 97] []) O o_9 := by rw [eo_9]; exact fr_xp F rfl
    obtain ⟨x_10, _, h⟩ := opq h
    obtain ⟨o_11, eo_11, h⟩ := opq h
    have Fo_11 : Fr (fr_M [76, 96] [77, 97] []) O o_11 := by rw [eo_11]; exact fr_fp Fo_9 rfl
    rw [← Option.some.inj h]
    exact Fo_11
theorem wF_M_emit {v1 : Int64} {o0 : cf_O} {r : (cf_O)} (h : fM_emit v1 o0 = some r) : Fr (fr_M [76, 96] [77, 97] []) o0 r := by
  unfold fM_emit at h
  exact wB_M_emit_0 fr_rfl h
theorem wB_M_word_14 {O : cf_O} {rc : Nat → Int64 → cf_O → Option ((cf_O))} {v2 : Int64} {o0 : cf_O} {r : (cf_O)} (H : ∀ (k : Nat) (u2l : Int64) (o0 : cf_O) (r : (cf_O)), Fr (fr_M [76, 96] [77, 97] []) O o0 → rc k u2l o0 = some r → Fr (fr_M [76, 96] [77, 97] []) O r) (F : Fr (fr_M [76, 96] [77, 97] []) O o0) (h : fM_word_14 rc v2 o0 = some r) : Fr (fr_M [76, 96] [77, 97] []) O r := by
  unfold fM_word_14 at h
  obtain ⟨x_1, _, h⟩ := opq h
  rcases ifc h with ⟨_, h⟩ | ⟨_, h⟩
  · rw [← Option.some.inj h]
    exact F
  · obtain ⟨x_3, _, h⟩ := opq h
    obtain ⟨x_4, _, h⟩ := opq h
    obtain ⟨q_5, hq_5, h⟩ := bd h
    have Fq_5 : Fr (fr_M [76, 96] [77, 97] []) O q_5 := fr_tr F (wF_M_emit hq_5) rfl rfl rfl
    obtain ⟨x_7, _, h⟩ := opq h
    exact H _ _ _ _ Fq_5 h
theorem wB_M_word_0 {O : cf_O} {rc : Nat → Int64 → cf_O → Option ((cf_O))} {v1 : Int32} {o0 : cf_O} {r : (cf_O)} (H : ∀ (k : Nat) (u2l : Int64) (o0 : cf_O) (r : (cf_O)), Fr (fr_M [76, 96] [77, 97] []) O o0 → rc k u2l o0 = some r → Fr (fr_M [76, 96] [77, 97] []) O r) (F : Fr (fr_M [76, 96] [77, 97] []) O o0) (h : fM_word_0 rc v1 o0 = some r) : Fr (fr_M [76, 96] [77, 97] []) O r := by
  unfold fM_word_0 at h
  obtain ⟨q_1, hq_1, h⟩ := bd h
  have Fq_1 : Fr (fr_M [76, 96] [77, 97] []) O q_1 := fr_tr F (wF_M_emit hq_1) rfl rfl rfl
  have h := (ifn h).2
  obtain ⟨x_4, _, h⟩ := opq h
  exact H _ _ _ _ Fq_1 h
theorem wG_M_word {O : cf_O} : ∀ (n k : Nat) (u2l : Int64) (o0 : cf_O) (r : (cf_O)), Fr (fr_M [76, 96] [77, 97] []) O o0 → gM_word n k u2l o0 = some r → Fr (fr_M [76, 96] [77, 97] []) O r := by
  intro n
  induction n with
  | zero => intro k u2l o0 r F h; cases h
  | succ n ih =>
    intro k u2l o0 r F h
    cases k with
    | zero => exact wB_M_word_14 (rc := gM_word n) ih F h
    | succ k =>
      cases h
theorem wF_M_word {v1 : Int32} {o0 : cf_O} {r : (cf_O)} (h : fM_word v1 o0 = some r) : Fr (fr_M [76, 96] [77, 97] []) o0 r := by
  unfold fM_word at h
  exact wB_M_word_0 (rc := gM_word cfFU) (fun k u2l o0 r F h => wG_M_word cfFU k u2l o0 r F h) fr_rfl h
theorem wB_M_name_M41_39 {O : cf_O} {rc : Nat → Int32 → Int32 → cf_O → Option ((cf_O))} {v2 : Int32} {v3 : Int32} {o0 : cf_O} {r : (cf_O)} (H : ∀ (k : Nat) (u2i : Int32) (u3i : Int32) (o0 : cf_O) (r : (cf_O)), Fr (fr_M [76, 96] [77, 97] []) O o0 → rc k u2i u3i o0 = some r → Fr (fr_M [76, 96] [77, 97] []) O r) (F : Fr (fr_M [76, 96] [77, 97] []) O o0) (h : fM_name_M41_39 rc v2 v3 o0 = some r) : Fr (fr_M [76, 96] [77, 97] []) O r := by
  unfold fM_name_M41_39 at h
  obtain ⟨x_1, _, h⟩ := opq h
  exact H _ _ _ _ _ F h
theorem wB_M_name_M41_9 {O : cf_O} {rc : Nat → Int32 → Int32 → cf_O → Option ((cf_O))} {v2 : Int32} {v3 : Int32} {o0 : cf_O} {r : (cf_O)} (H : ∀ (k : Nat) (u2i : Int32) (u3i : Int32) (o0 : cf_O) (r : (cf_O)), Fr (fr_M [76, 96] [77, 97] []) O o0 → rc k u2i u3i o0 = some r → Fr (fr_M [76, 96] [77, 97] []) O r) (F : Fr (fr_M [76, 96] [77, 97] []) O o0) (h : fM_name_M41_9 rc v2 v3 o0 = some r) : Fr (fr_M [76, 96] [77, 97] []) O r := by
  unfold fM_name_M41_9 at h
  rcases ifc h with ⟨_, h⟩ | ⟨_, h⟩
  · rw [← Option.some.inj h]
    exact F
  · obtain ⟨x_2, _, h⟩ := opq h
    obtain ⟨x_3, _, h⟩ := opq h
    have h := (ifn h).2
    obtain ⟨x_5, _, h⟩ := opq h
    rcases ifc h with ⟨_, h⟩ | ⟨_, h⟩
    · exact wB_M_name_M41_39 H F h
    · obtain ⟨x_7, _, h⟩ := opq h
      obtain ⟨x_8, _, h⟩ := opq h
      have h := (ifn h).2
      obtain ⟨x_10, _, h⟩ := opq h
      obtain ⟨x_11, _, h⟩ := opq h
      obtain ⟨q_12, hq_12, h⟩ := bd h
      have Fq_12 : Fr (fr_M [76, 96] [77, 97] []) O q_12 := fr_tr F (wF_M_emit hq_12) rfl rfl rfl
      exact wB_M_name_M41_39 H Fq_12 h
theorem wB_M_name_M41_0 {O : cf_O} {rc : Nat → Int32 → Int32 → cf_O → Option ((cf_O))} {v2 : Int32} {o0 : cf_O} {r : (cf_O)} (H : ∀ (k : Nat) (u2i : Int32) (u3i : Int32) (o0 : cf_O) (r : (cf_O)), Fr (fr_M [76, 96] [77, 97] []) O o0 → rc k u2i u3i o0 = some r → Fr (fr_M [76, 96] [77, 97] []) O r) (F : Fr (fr_M [76, 96] [77, 97] []) O o0) (h : fM_name_M41_0 rc v2 o0 = some r) : Fr (fr_M [76, 96] [77, 97] []) O r := by
  unfold fM_name_M41_0 at h
  obtain ⟨q_1, hq_1, h⟩ := bd h
  have Fq_1 : Fr (fr_M [76, 96] [77, 97] []) O q_1 := fr_tr F (wF_M_emit hq_1) rfl rfl rfl
  exact H _ _ _ _ _ Fq_1 h
theorem wG_M_name_M41 {O : cf_O} : ∀ (n k : Nat) (u2i : Int32) (u3i : Int32) (o0 : cf_O) (r : (cf_O)), Fr (fr_M [76, 96] [77, 97] []) O o0 → gM_name_M41 n k u2i u3i o0 = some r → Fr (fr_M [76, 96] [77, 97] []) O r := by
  intro n
  induction n with
  | zero => intro k u2i u3i o0 r F h; cases h
  | succ n ih =>
    intro k u2i u3i o0 r F h
    cases k with
    | zero => exact wB_M_name_M41_9 (rc := gM_name_M41 n) ih F h
    | succ k =>
      cases h
theorem wF_M_name_M41 {v2 : Int32} {o0 : cf_O} {r : (cf_O)} (h : fM_name_M41 v2 o0 = some r) : Fr (fr_M [76, 96] [77, 97] []) o0 r := by
  unfold fM_name_M41 at h
  exact wB_M_name_M41_0 (rc := gM_name_M41 cfFU) (fun k u2i u3i o0 r F h => wG_M_name_M41 cfFU k u2i u3i o0 r F h) fr_rfl h
theorem wB_M_name_M42_39 {O : cf_O} {rc : Nat → Int32 → Int32 → cf_O → Option ((cf_O))} {v2 : Int32} {v3 : Int32} {o0 : cf_O} {r : (cf_O)} (H : ∀ (k : Nat) (u2i : Int32) (u3i : Int32) (o0 : cf_O) (r : (cf_O)), Fr (fr_M [76, 96] [77, 97] []) O o0 → rc k u2i u3i o0 = some r → Fr (fr_M [76, 96] [77, 97] []) O r) (F : Fr (fr_M [76, 96] [77, 97] []) O o0) (h : fM_name_M42_39 rc v2 v3 o0 = some r) : Fr (fr_M [76, 96] [77, 97] []) O r := by
  unfold fM_name_M42_39 at h
  obtain ⟨x_1, _, h⟩ := opq h
  exact H _ _ _ _ _ F h
theorem wB_M_name_M42_9 {O : cf_O} {rc : Nat → Int32 → Int32 → cf_O → Option ((cf_O))} {v2 : Int32} {v3 : Int32} {o0 : cf_O} {r : (cf_O)} (H : ∀ (k : Nat) (u2i : Int32) (u3i : Int32) (o0 : cf_O) (r : (cf_O)), Fr (fr_M [76, 96] [77, 97] []) O o0 → rc k u2i u3i o0 = some r → Fr (fr_M [76, 96] [77, 97] []) O r) (F : Fr (fr_M [76, 96] [77, 97] []) O o0) (h : fM_name_M42_9 rc v2 v3 o0 = some r) : Fr (fr_M [76, 96] [77, 97] []) O r := by
  unfold fM_name_M42_9 at h
  rcases ifc h with ⟨_, h⟩ | ⟨_, h⟩
  · rw [← Option.some.inj h]
    exact F
  · obtain ⟨x_2, _, h⟩ := opq h
    obtain ⟨x_3, _, h⟩ := opq h
    have h := (ifn h).2
    obtain ⟨x_5, _, h⟩ := opq h
    rcases ifc h with ⟨_, h⟩ | ⟨_, h⟩
    · exact wB_M_name_M42_39 H F h
    · obtain ⟨x_7, _, h⟩ := opq h
      obtain ⟨x_8, _, h⟩ := opq h
      have h := (ifn h).2
      obtain ⟨x_10, _, h⟩ := opq h
      obtain ⟨x_11, _, h⟩ := opq h
      obtain ⟨q_12, hq_12, h⟩ := bd h
      have Fq_12 : Fr (fr_M [76, 96] [77, 97] []) O q_12 := fr_tr F (wF_M_emit hq_12) rfl rfl rfl
      exact wB_M_name_M42_39 H Fq_12 h
theorem wB_M_name_M42_0 {O : cf_O} {rc : Nat → Int32 → Int32 → cf_O → Option ((cf_O))} {v2 : Int32} {o0 : cf_O} {r : (cf_O)} (H : ∀ (k : Nat) (u2i : Int32) (u3i : Int32) (o0 : cf_O) (r : (cf_O)), Fr (fr_M [76, 96] [77, 97] []) O o0 → rc k u2i u3i o0 = some r → Fr (fr_M [76, 96] [77, 97] []) O r) (F : Fr (fr_M [76, 96] [77, 97] []) O o0) (h : fM_name_M42_0 rc v2 o0 = some r) : Fr (fr_M [76, 96] [77, 97] []) O r := by
  unfold fM_name_M42_0 at h
  obtain ⟨q_1, hq_1, h⟩ := bd h
  have Fq_1 : Fr (fr_M [76, 96] [77, 97] []) O q_1 := fr_tr F (wF_M_emit hq_1) rfl rfl rfl
  exact H _ _ _ _ _ Fq_1 h
theorem wG_M_name_M42 {O : cf_O} : ∀ (n k : Nat) (u2i : Int32) (u3i : Int32) (o0 : cf_O) (r : (cf_O)), Fr (fr_M [76, 96] [77, 97] []) O o0 → gM_name_M42 n k u2i u3i o0 = some r → Fr (fr_M [76, 96] [77, 97] []) O r := by
  intro n
  induction n with
  | zero => intro k u2i u3i o0 r F h; cases h
  | succ n ih =>
    intro k u2i u3i o0 r F h
    cases k with
    | zero => exact wB_M_name_M42_9 (rc := gM_name_M42 n) ih F h
    | succ k =>
      cases h
theorem wF_M_name_M42 {v2 : Int32} {o0 : cf_O} {r : (cf_O)} (h : fM_name_M42 v2 o0 = some r) : Fr (fr_M [76, 96] [77, 97] []) o0 r := by
  unfold fM_name_M42 at h
  exact wB_M_name_M42_0 (rc := gM_name_M42 cfFU) (fun k u2i u3i o0 r F h => wG_M_name_M42 cfFU k u2i u3i o0 r F h) fr_rfl h
theorem wB_M_nodeName_67 {O : cf_O} {rc : Nat → Int32 → Int32 → cf_O → Option ((cf_O))} {v1 : Int32} {v2 : Int32} {o0 : cf_O} {r : (cf_O)} (H : ∀ (k : Nat) (u1i : Int32) (u2i : Int32) (o0 : cf_O) (r : (cf_O)), Fr (fr_M [76, 96] [77, 97] []) O o0 → rc k u1i u2i o0 = some r → Fr (fr_M [76, 96] [77, 97] []) O r) (F : Fr (fr_M [76, 96] [77, 97] []) O o0) (h : fM_nodeName_67 rc v1 v2 o0 = some r) : Fr (fr_M [76, 96] [77, 97] []) O r := by
  unfold fM_nodeName_67 at h
  obtain ⟨x_1, _, h⟩ := opq h
  exact H _ _ _ _ _ F h
theorem wB_M_nodeName_44 {O : cf_O} {rc : Nat → Int32 → Int32 → cf_O → Option ((cf_O))} {v1 : Int32} {v2 : Int32} {o0 : cf_O} {r : (cf_O)} (H : ∀ (k : Nat) (u1i : Int32) (u2i : Int32) (o0 : cf_O) (r : (cf_O)), Fr (fr_M [76, 96] [77, 97] []) O o0 → rc k u1i u2i o0 = some r → Fr (fr_M [76, 96] [77, 97] []) O r) (F : Fr (fr_M [76, 96] [77, 97] []) O o0) (h : fM_nodeName_44 rc v1 v2 o0 = some r) : Fr (fr_M [76, 96] [77, 97] []) O r := by
  unfold fM_nodeName_44 at h
  rcases ifc h with ⟨_, h⟩ | ⟨_, h⟩
  · rw [← Option.some.inj h]
    exact F
  · rcases ifc h with ⟨_, h⟩ | ⟨_, h⟩
    · exact wB_M_nodeName_67 H F h
    · have h := (ifn h).2
      obtain ⟨x_4, _, h⟩ := opq h
      obtain ⟨x_5, _, h⟩ := opq h
      obtain ⟨x_6, _, h⟩ := opq h
      obtain ⟨x_7, _, h⟩ := opq h
      obtain ⟨q_8, hq_8, h⟩ := bd h
      have Fq_8 : Fr (fr_M [76, 96] [77, 97] []) O q_8 := fr_tr F (wF_M_emit hq_8) rfl rfl rfl
      exact wB_M_nodeName_67 H Fq_8 h
theorem wB_M_nodeName_0 {O : cf_O} {rc : Nat → Int32 → Int32 → cf_O → Option ((cf_O))} {v1 : Int32} {o0 : cf_O} {r : (cf_O)} (H : ∀ (k : Nat) (u1i : Int32) (u2i : Int32) (o0 : cf_O) (r : (cf_O)), Fr (fr_M [76, 96] [77, 97] []) O o0 → rc k u1i u2i o0 = some r → Fr (fr_M [76, 96] [77, 97] []) O r) (F : Fr (fr_M [76, 96] [77, 97] []) O o0) (h : fM_nodeName_0 rc v1 o0 = some r) : Fr (fr_M [76, 96] [77, 97] []) O r := by
  unfold fM_nodeName_0 at h
  obtain ⟨q_1, _, h⟩ := bd h
  rcases ifc h with ⟨_, h⟩ | ⟨_, h⟩
  · obtain ⟨q_5, hq_5, h⟩ := bd h
    have Fq_5 : Fr (fr_M [76, 96] [77, 97] []) O q_5 := fr_tr F (wF_M_emit hq_5) rfl rfl rfl
    obtain ⟨q_7, hq_7, h⟩ := bd h
    have Fq_7 : Fr (fr_M [76, 96] [77, 97] []) O q_7 := fr_tr Fq_5 (wF_M_emit hq_7) rfl rfl rfl
    obtain ⟨q_9, hq_9, h⟩ := bd h
    have Fq_9 : Fr (fr_M [76, 96] [77, 97] []) O q_9 := fr_tr Fq_7 (wF_M_emit hq_9) rfl rfl rfl
    exact H _ _ _ _ _ Fq_9 h
  · obtain ⟨x_11, _, h⟩ := opq h
    obtain ⟨q_12, hq_12, h⟩ := bd h
    have Fq_12 : Fr (fr_M [76, 96] [77, 97] []) O q_12 := fr_tr F (wF_M_name_M41 hq_12) rfl rfl rfl
    rw [← Option.some.inj h]
    exact Fq_12
theorem wG_M_nodeName {O : cf_O} : ∀ (n k : Nat) (u1i : Int32) (u2i : Int32) (o0 : cf_O) (r : (cf_O)), Fr (fr_M [76, 96] [77, 97] []) O o0 → gM_nodeName n k u1i u2i o0 = some r → Fr (fr_M [76, 96] [77, 97] []) O r := by
  intro n
  induction n with
  | zero => intro k u1i u2i o0 r F h; cases h
  | succ n ih =>
    intro k u1i u2i o0 r F h
    cases k with
    | zero => exact wB_M_nodeName_44 (rc := gM_nodeName n) ih F h
    | succ k =>
      cases h
theorem wF_M_nodeName {v1 : Int32} {o0 : cf_O} {r : (cf_O)} (h : fM_nodeName v1 o0 = some r) : Fr (fr_M [76, 96] [77, 97] []) o0 r := by
  unfold fM_nodeName at h
  exact wB_M_nodeName_0 (rc := gM_nodeName cfFU) (fun k u1i u2i o0 r F h => wG_M_nodeName cfFU k u1i u2i o0 r F h) fr_rfl h
theorem wB_M_cellValue_144 {O : cf_O} {rc : Nat → Int32 → Int32 → Int32 → Int32 → Int32 → cf_O → Option ((Int32 × cf_O))} {v1 : Int32} {v2 : Int32} {v3 : Int32} {v4 : Int32} {v5 : Int32} {s1 : Int32} {s2 : Int32} {o0 : cf_O} {r : (Int32 × cf_O)} (H : ∀ (k : Nat) (u1i : Int32) (u2i : Int32) (u3i : Int32) (u4i : Int32) (u5i : Int32) (o0 : cf_O) (r : (Int32 × cf_O)), Fr (fr_M [] [75] []) O o0 → rc k u1i u2i u3i u4i u5i o0 = some r → Fr (fr_M [] [75] []) O r.2) (F : Fr (fr_M [] [75] []) O o0) (h : fM_cellValue_144 rc v1 v2 v3 v4 v5 s1 s2 o0 = some r) : Fr (fr_M [] [75] []) O r.2 := by
  unfold fM_cellValue_144 at h
  have h := (ifn h).2
  obtain ⟨o_2, eo_2, h⟩ := opq h
  have Fo_2 : Fr (fr_M [] [75] []) O o_2 := by rw [eo_2]; exact fr_xp F rfl
  obtain ⟨x_3, _, h⟩ := opq h
  exact H _ _ _ _ _ _ _ _ Fo_2 h
theorem wB_M_cellValue_86 {O : cf_O} {rc : Nat → Int32 → Int32 → Int32 → Int32 → Int32 → cf_O → Option ((Int32 × cf_O))} {v1 : Int32} {v2 : Int32} {v3 : Int32} {v4 : Int32} {v5 : Int32} {o0 : cf_O} {r : (Int32 × cf_O)} (H : ∀ (k : Nat) (u1i : Int32) (u2i : Int32) (u3i : Int32) (u4i : Int32) (u5i : Int32) (o0 : cf_O) (r : (Int32 × cf_O)), Fr (fr_M [] [75] []) O o0 → rc k u1i u2i u3i u4i u5i o0 = some r → Fr (fr_M [] [75] []) O r.2) (F : Fr (fr_M [] [75] []) O o0) (h : fM_cellValue_86 rc v1 v2 v3 v4 v5 o0 = some r) : Fr (fr_M [] [75] []) O r.2 := by
  unfold fM_cellValue_86 at h
  have h := (ifn h).2
  obtain ⟨x_2, _, h⟩ := opq h
  rcases ifc h with ⟨_, h⟩ | ⟨_, h⟩
  · obtain ⟨x_4, _, h⟩ := opq h
    exact H _ _ _ _ _ _ _ _ F h
  · obtain ⟨x_5, _, h⟩ := opq h
    obtain ⟨x_6, _, h⟩ := opq h
    have h := (ifn h).2
    obtain ⟨x_8, _, h⟩ := opq h
    rcases ifc h with ⟨_, h⟩ | ⟨_, h⟩
    · obtain ⟨x_12, _, h⟩ := opq h
      obtain ⟨x_13, _, h⟩ := opq h
      rcases ifc h with ⟨_, h⟩ | ⟨_, h⟩
      · exact wB_M_cellValue_144 H F h
      · exact wB_M_cellValue_144 H F h
    · have h := (ifn h).2
      obtain ⟨x_11, _, h⟩ := opq h
      exact wB_M_cellValue_144 H F h
theorem wB_M_cellValue_83 {O : cf_O} {rc : Nat → Int32 → Int32 → Int32 → Int32 → Int32 → cf_O → Option ((Int32 × cf_O))} {v1 : Int32} {v2 : Int32} {v3 : Int32} {v4 : Int32} {o0 : cf_O} {r : (Int32 × cf_O)} (H : ∀ (k : Nat) (u1i : Int32) (u2i : Int32) (u3i : Int32) (u4i : Int32) (u5i : Int32) (o0 : cf_O) (r : (Int32 × cf_O)), Fr (fr_M [] [75] []) O o0 → rc k u1i u2i u3i u4i u5i o0 = some r → Fr (fr_M [] [75] []) O r.2) (F : Fr (fr_M [] [75] []) O o0) (h : fM_cellValue_83 rc v1 v2 v3 v4 o0 = some r) : Fr (fr_M [] [75] []) O r.2 := by
  unfold fM_cellValue_83 at h
  exact H _ _ _ _ _ _ _ _ F h
theorem wB_M_cellValue_82 {O : cf_O} {rc : Nat → Int32 → Int32 → Int32 → Int32 → Int32 → cf_O → Option ((Int32 × cf_O))} {v1 : Int32} {v2 : Int32} {v3 : Int32} {v4 : Int32} {s1 : Int32} {s2 : Int32} {o0 : cf_O} {r : (Int32 × cf_O)} (H : ∀ (k : Nat) (u1i : Int32) (u2i : Int32) (u3i : Int32) (u4i : Int32) (u5i : Int32) (o0 : cf_O) (r : (Int32 × cf_O)), Fr (fr_M [] [75] []) O o0 → rc k u1i u2i u3i u4i u5i o0 = some r → Fr (fr_M [] [75] []) O r.2) (F : Fr (fr_M [] [75] []) O o0) (h : fM_cellValue_82 rc v1 v2 v3 v4 s1 s2 o0 = some r) : Fr (fr_M [] [75] []) O r.2 := by
  unfold fM_cellValue_82 at h
  have h := (ifn h).2
  obtain ⟨o_2, eo_2, h⟩ := opq h
  have Fo_2 : Fr (fr_M [] [75] []) O o_2 := by rw [eo_2]; exact fr_xp F rfl
  exact wB_M_cellValue_83 H Fo_2 h
theorem wB_M_cellValue_81 {O : cf_O} {rc : Nat → Int32 → Int32 → Int32 → Int32 → Int32 → cf_O → Option ((Int32 × cf_O))} {v1 : Int32} {v2 : Int32} {v3 : Int32} {v4 : Int32} {s1 : Int32} {o0 : cf_O} {r : (Int32 × cf_O)} (H : ∀ (k : Nat) (u1i : Int32) (u2i : Int32) (u3i : Int32) (u4i : Int32) (u5i : Int32) (o0 : cf_O) (r : (Int32 × cf_O)), Fr (fr_M [] [75] []) O o0 → rc k u1i u2i u3i u4i u5i o0 = some r → Fr (fr_M [] [75] []) O r.2) (F : Fr (fr_M [] [75] []) O o0) (h : fM_cellValue_81 rc v1 v2 v3 v4 s1 o0 = some r) : Fr (fr_M [] [75] []) O r.2 := by
  unfold fM_cellValue_81 at h
  exact wB_M_cellValue_82 H F h
theorem wB_M_cellValue_10 {O : cf_O} {rc : Nat → Int32 → Int32 → Int32 → Int32 → Int32 → cf_O → Option ((Int32 × cf_O))} {v1 : Int32} {v2 : Int32} {v3 : Int32} {v4 : Int32} {o0 : cf_O} {r : (Int32 × cf_O)} (H : ∀ (k : Nat) (u1i : Int32) (u2i : Int32) (u3i : Int32) (u4i : Int32) (u5i : Int32) (o0 : cf_O) (r : (Int32 × cf_O)), Fr (fr_M [] [75] []) O o0 → rc k u1i u2i u3i u4i u5i o0 = some r → Fr (fr_M [] [75] []) O r.2) (F : Fr (fr_M [] [75] []) O o0) (h : fM_cellValue_10 rc v1 v2 v3 v4 o0 = some r) : Fr (fr_M [] [75] []) O r.2 := by
  unfold fM_cellValue_10 at h
  rcases ifc h with ⟨_, h⟩ | ⟨_, h⟩
  · have h := (ifn h).2
    obtain ⟨x_3, _, h⟩ := opq h
    have h := (ifn h).2
    rw [← Option.some.inj h]
    exact F
  · have h := (ifn h).2
    obtain ⟨o_6, eo_6, h⟩ := opq h
    have Fo_6 : Fr (fr_M [] [75] []) O o_6 := by rw [eo_6]; exact fr_xp F rfl
    obtain ⟨q_7, _, h⟩ := bd h
    rcases ifc h with ⟨_, h⟩ | ⟨_, h⟩
    · exact wB_M_cellValue_83 H Fo_6 h
    · obtain ⟨q_11, _, h⟩ := bd h
      obtain ⟨x_14, _, h⟩ := opq h
      have h := (ifn h).2
      obtain ⟨x_16, _, h⟩ := opq h
      obtain ⟨q_17, _, h⟩ := bd h
      rcases ifc h with ⟨_, h⟩ | ⟨_, h⟩
      · exact wB_M_cellValue_81 H Fo_6 h
      · obtain ⟨q_21, _, h⟩ := bd h
        obtain ⟨x_24, _, h⟩ := opq h
        have h := (ifn h).2
        obtain ⟨x_26, _, h⟩ := opq h
        obtain ⟨q_27, _, h⟩ := bd h
        rcases ifc h with ⟨_, h⟩ | ⟨_, h⟩
        · exact wB_M_cellValue_81 H Fo_6 h
        · exact wB_M_cellValue_82 H Fo_6 h
theorem wB_M_cellValue_0 {O : cf_O} {rc : Nat → Int32 → Int32 → Int32 → Int32 → Int32 → cf_O → Option ((Int32 × cf_O))} {v1 : Int32} {v2 : Int32} {o0 : cf_O} {r : (Int32 × cf_O)} (H : ∀ (k : Nat) (u1i : Int32) (u2i : Int32) (u3i : Int32) (u4i : Int32) (u5i : Int32) (o0 : cf_O) (r : (Int32 × cf_O)), Fr (fr_M [] [75] []) O o0 → rc k u1i u2i u3i u4i u5i o0 = some r → Fr (fr_M [] [75] []) O r.2) (F : Fr (fr_M [] [75] []) O o0) (h : fM_cellValue_0 rc v1 v2 o0 = some r) : Fr (fr_M [] [75] []) O r.2 := by
  unfold fM_cellValue_0 at h
  have h := (ifn h).2
  obtain ⟨x_2, _, h⟩ := opq h
  exact H _ _ _ _ _ _ _ _ F h
theorem wG_M_cellValue {O : cf_O} : ∀ (n k : Nat) (u1i : Int32) (u2i : Int32) (u3i : Int32) (u4i : Int32) (u5i : Int32) (o0 : cf_O) (r : (Int32 × cf_O)), Fr (fr_M [] [75] []) O o0 → gM_cellValue n k u1i u2i u3i u4i u5i o0 = some r → Fr (fr_M [] [75] []) O r.2 := by
  intro n
  induction n with
  | zero => intro k u1i u2i u3i u4i u5i o0 r F h; cases h
  | succ n ih =>
    intro k u1i u2i u3i u4i u5i o0 r F h
    cases k with
    | zero => exact wB_M_cellValue_10 (rc := gM_cellValue n) ih F h
    | succ k =>
      cases k with
      | zero => exact wB_M_cellValue_86 (rc := gM_cellValue n) ih F h
      | succ k =>
        cases h
theorem wF_M_cellValue {v1 : Int32} {v2 : Int32} {o0 : cf_O} {r : (Int32 × cf_O)} (h : fM_cellValue v1 v2 o0 = some r) : Fr (fr_M [] [75] []) o0 r.2 := by
  unfold fM_cellValue at h
  exact wB_M_cellValue_0 (rc := gM_cellValue cfFU) (fun k u1i u2i u3i u4i u5i o0 r F h => wG_M_cellValue cfFU k u1i u2i u3i u4i u5i o0 r F h) fr_rfl h
theorem wB_M_writeCell_133 {O : cf_O} {rc : Nat → Int32 → Int32 → Int32 → Int32 → Int32 → cf_O → Option ((cf_O))} {v1 : Int32} {v3 : Int32} {v4 : Int32} {o0 : cf_O} {r : (cf_O)} (H : ∀ (k : Nat) (u1i : Int32) (u2i : Int32) (u3i : Int32) (u4i : Int32) (u5i : Int32) (o0 : cf_O) (r : (cf_O)), Fr (fr_M [76, 96] [75, 77, 97] []) O o0 → rc k u1i u2i u3i u4i u5i o0 = some r → Fr (fr_M [76, 96] [75, 77, 97] []) O r) (F : Fr (fr_M [76, 96] [75, 77, 97] []) O o0) (h : fM_writeCell_133 rc v1 v3 v4 o0 = some r) : Fr (fr_M [76, 96] [75, 77, 97] []) O r := by
  unfold fM_writeCell_133 at h
  obtain ⟨x_1, _, h⟩ := opq h
  exact H _ _ _ _ _ _ _ _ F h
theorem wB_M_writeCell_85 {O : cf_O} {rc : Nat → Int32 → Int32 → Int32 → Int32 → Int32 → cf_O → Option ((cf_O))} {v1 : Int32} {v3 : Int32} {v4 : Int32} {v5 : Int32} {o0 : cf_O} {r : (cf_O)} (H : ∀ (k : Nat) (u1i : Int32) (u2i : Int32) (u3i : Int32) (u4i : Int32) (u5i : Int32) (o0 : cf_O) (r : (cf_O)), Fr (fr_M [76, 96] [75, 77, 97] []) O o0 → rc k u1i u2i u3i u4i u5i o0 = some r → Fr (fr_M [76, 96] [75, 77, 97] []) O r) (F : Fr (fr_M [76, 96] [75, 77, 97] []) O o0) (h : fM_writeCell_85 rc v1 v3 v4 v5 o0 = some r) : Fr (fr_M [76, 96] [75, 77, 97] []) O r := by
  unfold fM_writeCell_85 at h
  rcases ifc h with ⟨_, h⟩ | ⟨_, h⟩
  · obtain ⟨q_2, hq_2, h⟩ := bd h
    have Fq_2 : Fr (fr_M [76, 96] [75, 77, 97] []) O q_2 := fr_tr F (wF_M_emit hq_2) rfl rfl rfl
    obtain ⟨q_4, hq_4, h⟩ := bd h
    have Fq_4 : Fr (fr_M [76, 96] [75, 77, 97] []) O q_4 := fr_tr Fq_2 (wF_M_emit hq_4) rfl rfl rfl
    obtain ⟨q_6, hq_6, h⟩ := bd h
    have Fq_6 : Fr (fr_M [76, 96] [75, 77, 97] []) O q_6 := fr_tr Fq_4 (wF_M_emit hq_6) rfl rfl rfl
    exact wB_M_writeCell_133 H Fq_6 h
  · obtain ⟨x_8, _, h⟩ := opq h
    obtain ⟨x_9, _, h⟩ := opq h
    obtain ⟨x_10, _, h⟩ := opq h
    obtain ⟨x_11, _, h⟩ := opq h
    obtain ⟨q_12, hq_12, h⟩ := bd h
    have Fq_12 : Fr (fr_M [76, 96] [75, 77, 97] []) O q_12 := fr_tr F (wF_M_emit hq_12) rfl rfl rfl
    obtain ⟨x_14, _, h⟩ := opq h
    exact H _ _ _ _ _ _ _ _ Fq_12 h
theorem wB_M_writeCell_64 {O : cf_O} {rc : Nat → Int32 → Int32 → Int32 → Int32 → Int32 → cf_O → Option ((cf_O))} {v1 : Int32} {v3 : Int32} {v4 : Int32} {o0 : cf_O} {r : (cf_O)} (H : ∀ (k : Nat) (u1i : Int32) (u2i : Int32) (u3i : Int32) (u4i : Int32) (u5i : Int32) (o0 : cf_O) (r : (cf_O)), Fr (fr_M [76, 96] [75, 77, 97] []) O o0 → rc k u1i u2i u3i u4i u5i o0 = some r → Fr (fr_M [76, 96] [75, 77, 97] []) O r) (F : Fr (fr_M [76, 96] [75, 77, 97] []) O o0) (h : fM_writeCell_64 rc v1 v3 v4 o0 = some r) : Fr (fr_M [76, 96] [75, 77, 97] []) O r := by
  unfold fM_writeCell_64 at h
  obtain ⟨x_1, _, h⟩ := opq h
  rcases ifc h with ⟨_, h⟩ | ⟨_, h⟩
  · rw [← Option.some.inj h]
    exact F
  · obtain ⟨q_3, hq_3, h⟩ := bd h
    have Fq_3 : Fr (fr_M [76, 96] [75, 77, 97] []) O q_3.2 := fr_tr F (wF_M_cellValue hq_3) rfl rfl rfl
    rcases ifc h with ⟨_, h⟩ | ⟨_, h⟩
    · exact wB_M_writeCell_133 H Fq_3 h
    · exact H _ _ _ _ _ _ _ _ Fq_3 h
theorem wB_M_writeCell_22 {O : cf_O} {rc : Nat → Int32 → Int32 → Int32 → Int32 → Int32 → cf_O → Option ((cf_O))} {v1 : Int32} {v2 : Int32} {v3 : Int32} {v4 : Int32} {o0 : cf_O} {r : (cf_O)} (H : ∀ (k : Nat) (u1i : Int32) (u2i : Int32) (u3i : Int32) (u4i : Int32) (u5i : Int32) (o0 : cf_O) (r : (cf_O)), Fr (fr_M [76, 96] [75, 77, 97] []) O o0 → rc k u1i u2i u3i u4i u5i o0 = some r → Fr (fr_M [76, 96] [75, 77, 97] []) O r) (F : Fr (fr_M [76, 96] [75, 77, 97] []) O o0) (h : fM_writeCell_22 rc v1 v2 v3 v4 o0 = some r) : Fr (fr_M [76, 96] [75, 77, 97] []) O r := by
  unfold fM_writeCell_22 at h
  rcases ifc h with ⟨_, h⟩ | ⟨_, h⟩
  · obtain ⟨q_2, hq_2, h⟩ := bd h
    have Fq_2 : Fr (fr_M [76, 96] [75, 77, 97] []) O q_2 := fr_tr F (wF_M_nodeName hq_2) rfl rfl rfl
    obtain ⟨q_4, hq_4, h⟩ := bd h
    have Fq_4 : Fr (fr_M [76, 96] [75, 77, 97] []) O q_4 := fr_tr Fq_2 (wF_M_emit hq_4) rfl rfl rfl
    exact H _ _ _ _ _ _ _ _ Fq_4 h
  · obtain ⟨x_6, _, h⟩ := opq h
    obtain ⟨x_7, _, h⟩ := opq h
    have h := (ifn h).2
    obtain ⟨x_9, _, h⟩ := opq h
    obtain ⟨q_10, hq_10, h⟩ := bd h
    have Fq_10 : Fr (fr_M [76, 96] [75, 77, 97] []) O q_10 := fr_tr F (wF_M_nodeName hq_10) rfl rfl rfl
    obtain ⟨x_12, _, h⟩ := opq h
    exact H _ _ _ _ _ _ _ _ Fq_10 h
theorem wB_M_writeCell_0 {O : cf_O} {rc : Nat → Int32 → Int32 → Int32 → Int32 → Int32 → cf_O → Option ((cf_O))} {v1 : Int32} {o0 : cf_O} {r : (cf_O)} (H : ∀ (k : Nat) (u1i : Int32) (u2i : Int32) (u3i : Int32) (u4i : Int32) (u5i : Int32) (o0 : cf_O) (r : (cf_O)), Fr (fr_M [76, 96] [75, 77, 97] []) O o0 → rc k u1i u2i u3i u4i u5i o0 = some r → Fr (fr_M [76, 96] [75, 77, 97] []) O r) (F : Fr (fr_M [76, 96] [75, 77, 97] []) O o0) (h : fM_writeCell_0 rc v1 o0 = some r) : Fr (fr_M [76, 96] [75, 77, 97] []) O r := by
  unfold fM_writeCell_0 at h
  have h := (ifn h).2
  obtain ⟨x_2, _, h⟩ := opq h
  have h := (ifn h).2
  obtain ⟨x_4, _, h⟩ := opq h
  obtain ⟨q_5, hq_5, h⟩ := bd h
  have Fq_5 : Fr (fr_M [76, 96] [75, 77, 97] []) O q_5 := fr_tr F (wF_M_word hq_5) rfl rfl rfl
  exact H _ _ _ _ _ _ _ _ Fq_5 h
theorem wG_M_writeCell {O : cf_O} : ∀ (n k : Nat) (u1i : Int32) (u2i : Int32) (u3i : Int32) (u4i : Int32) (u5i : Int32) (o0 : cf_O) (r : (cf_O)), Fr (fr_M [76, 96] [75, 77, 97] []) O o0 → gM_writeCell n k u1i u2i u3i u4i u5i o0 = some r → Fr (fr_M [76, 96] [75, 77, 97] []) O r := by
  intro n
  induction n with
  | zero => intro k u1i u2i u3i u4i u5i o0 r F h; cases h
  | succ n ih =>
    intro k u1i u2i u3i u4i u5i o0 r F h
    cases k with
    | zero => exact wB_M_writeCell_22 (rc := gM_writeCell n) ih F h
    | succ k =>
      cases k with
      | zero => exact wB_M_writeCell_64 (rc := gM_writeCell n) ih F h
      | succ k =>
        cases k with
        | zero => exact wB_M_writeCell_85 (rc := gM_writeCell n) ih F h
        | succ k =>
          cases h
theorem wF_M_writeCell {v1 : Int32} {o0 : cf_O} {r : (cf_O)} (h : fM_writeCell v1 o0 = some r) : Fr (fr_M [76, 96] [75, 77, 97] []) o0 r := by
  unfold fM_writeCell at h
  exact wB_M_writeCell_0 (rc := gM_writeCell cfFU) (fun k u1i u2i u3i u4i u5i o0 r F h => wG_M_writeCell cfFU k u1i u2i u3i u4i u5i o0 r F h) fr_rfl h
theorem wB_M_writeOutput_120 {O : cf_O} {o0 : cf_O} {r : (cf_O)} (F : Fr (fr_M [76, 96] [77, 97] []) O o0) (h : fM_writeOutput_120 o0 = some r) : Fr (fr_M [76, 96] [77, 97] []) O r := by
  unfold fM_writeOutput_120 at h
  rw [← Option.some.inj h]
  exact F
theorem wB_M_writeOutput_75 {O : cf_O} {s1 : Int64} {o0 : cf_O} {r : (cf_O)} (F : Fr (fr_M [76, 96] [77, 97] []) O o0) (h : fM_writeOutput_75 s1 o0 = some r) : Fr (fr_M [76, 96] [77, 97] []) O r := by
  unfold fM_writeOutput_75 at h
  obtain ⟨q_1, hq_1, h⟩ := bd h
  have Fq_1 : Fr (fr_M [76, 96] [77, 97] []) O q_1 := fr_tr F (wF_M_emit hq_1) rfl rfl rfl
  obtain ⟨q_3, hq_3, h⟩ := bd h
  have Fq_3 : Fr (fr_M [76, 96] [77, 97] []) O q_3 := fr_tr Fq_1 (wF_M_emit hq_3) rfl rfl rfl
  obtain ⟨q_5, hq_5, h⟩ := bd h
  have Fq_5 : Fr (fr_M [76, 96] [77, 97] []) O q_5 := fr_tr Fq_3 (wF_M_emit hq_5) rfl rfl rfl
  obtain ⟨q_7, hq_7, h⟩ := bd h
  have Fq_7 : Fr (fr_M [76, 96] [77, 97] []) O q_7 := fr_tr Fq_5 (wF_M_emit hq_7) rfl rfl rfl
  exact wB_M_writeOutput_120 Fq_7 h
theorem wB_M_writeOutput_41 {O : cf_O} {v1 : Int32} {v2 : Int32} {v3 : Int32} {o0 : cf_O} {r : (cf_O)} (F : Fr (fr_M [76, 96] [77, 97] []) O o0) (h : fM_writeOutput_41 v1 v2 v3 o0 = some r) : Fr (fr_M [76, 96] [77, 97] []) O r := by
  unfold fM_writeOutput_41 at h
  obtain ⟨q_1, hq_1, h⟩ := bd h
  have Fq_1 : Fr (fr_M [76, 96] [77, 97] []) O q_1 := fr_tr F (wF_M_name_M42 hq_1) rfl rfl rfl
  obtain ⟨q_3, hq_3, h⟩ := bd h
  have Fq_3 : Fr (fr_M [76, 96] [77, 97] []) O q_3 := fr_tr Fq_1 (wF_M_emit hq_3) rfl rfl rfl
  rcases ifc h with ⟨_, h⟩ | ⟨_, h⟩
  · rcases ifc h with ⟨_, h⟩ | ⟨_, h⟩
    · exact wB_M_writeOutput_120 Fq_3 h
    · obtain ⟨q_7, hq_7, h⟩ := bd h
      have Fq_7 : Fr (fr_M [76, 96] [77, 97] []) O q_7 := fr_tr Fq_3 (wF_M_emit hq_7) rfl rfl rfl
      obtain ⟨q_9, hq_9, h⟩ := bd h
      have Fq_9 : Fr (fr_M [76, 96] [77, 97] []) O q_9 := fr_tr Fq_7 (wF_M_emit hq_9) rfl rfl rfl
      exact wB_M_writeOutput_120 Fq_9 h
  · rcases ifc h with ⟨_, h⟩ | ⟨_, h⟩
    · exact wB_M_writeOutput_75 Fq_3 h
    · exact wB_M_writeOutput_75 Fq_3 h
theorem wB_M_writeOutput_26 {O : cf_O} {v1 : Int32} {v2 : Int32} {s0 : Int32} {o0 : cf_O} {r : (cf_O)} (F : Fr (fr_M [76, 96] [77, 97] []) O o0) (h : fM_writeOutput_26 v1 v2 s0 o0 = some r) : Fr (fr_M [76, 96] [77, 97] []) O r := by
  unfold fM_writeOutput_26 at h
  obtain ⟨q_1, hq_1, h⟩ := bd h
  have Fq_1 : Fr (fr_M [76, 96] [77, 97] []) O q_1 := fr_tr F (wF_M_word hq_1) rfl rfl rfl
  rcases ifc h with ⟨_, h⟩ | ⟨_, h⟩
  · exact wB_M_writeOutput_41 Fq_1 h
  · obtain ⟨q_4, hq_4, h⟩ := bd h
    have Fq_4 : Fr (fr_M [76, 96] [77, 97] []) O q_4 := fr_tr Fq_1 (wF_M_nodeName hq_4) rfl rfl rfl
    exact wB_M_writeOutput_41 Fq_4 h
theorem wB_M_writeOutput_0 {O : cf_O} {v1 : Int32} {o0 : cf_O} {r : (cf_O)} (F : Fr (fr_M [76, 96] [77, 97] []) O o0) (h : fM_writeOutput_0 v1 o0 = some r) : Fr (fr_M [76, 96] [77, 97] []) O r := by
  unfold fM_writeOutput_0 at h
  have h := (ifn h).2
  obtain ⟨x_2, _, h⟩ := opq h
  obtain ⟨x_3, _, h⟩ := opq h
  have h := (ifn h).2
  obtain ⟨x_5, _, h⟩ := opq h
  obtain ⟨x_6, _, h⟩ := opq h
  rcases ifc h with ⟨_, h⟩ | ⟨_, h⟩
  · exact wB_M_writeOutput_26 F h
  · exact wB_M_writeOutput_26 F h
theorem wF_M_writeOutput {v1 : Int32} {o0 : cf_O} {r : (cf_O)} (h : fM_writeOutput v1 o0 = some r) : Fr (fr_M [76, 96] [77, 97] []) o0 r := by
  unfold fM_writeOutput at h
  exact wB_M_writeOutput_0 fr_rfl h
theorem wB_M_write_107 {O : cf_O} {rc : Nat → Int32 → cf_O → Option ((cf_O))} {v1 : Int32} {o0 : cf_O} {r : (cf_O)} (H : ∀ (k : Nat) (u1i : Int32) (o0 : cf_O) (r : (cf_O)), Fr (fr_M [76, 96] [75, 77, 97] []) O o0 → rc k u1i o0 = some r → Fr (fr_M [76, 96] [75, 77, 97] []) O r) (F : Fr (fr_M [76, 96] [75, 77, 97] []) O o0) (h : fM_write_107 rc v1 o0 = some r) : Fr (fr_M [76, 96] [75, 77, 97] []) O r := by
  unfold fM_write_107 at h
  rcases ifc h with ⟨_, h⟩ | ⟨_, h⟩
  · obtain ⟨q_2, hq_2, h⟩ := bd h
    have Fq_2 : Fr (fr_M [76, 96] [75, 77, 97] []) O q_2 := fr_tr F (wF_M_word hq_2) rfl rfl rfl
    obtain ⟨q_4, hq_4, h⟩ := bd h
    have Fq_4 : Fr (fr_M [76, 96] [75, 77, 97] []) O q_4 := fr_tr Fq_2 (wF_M_emit hq_4) rfl rfl rfl
    rw [← Option.some.inj h]
    exact Fq_4
  · obtain ⟨q_6, hq_6, h⟩ := bd h
    have Fq_6 : Fr (fr_M [76, 96] [75, 77, 97] []) O q_6 := fr_tr F (wF_M_writeOutput hq_6) rfl rfl rfl
    obtain ⟨x_8, _, h⟩ := opq h
    exact H _ _ _ _ Fq_6 h
theorem wB_M_write_81 {O : cf_O} {rc : Nat → Int32 → cf_O → Option ((cf_O))} {v1 : Int32} {o0 : cf_O} {r : (cf_O)} (H : ∀ (k : Nat) (u1i : Int32) (o0 : cf_O) (r : (cf_O)), Fr (fr_M [76, 96] [75, 77, 97] []) O o0 → rc k u1i o0 = some r → Fr (fr_M [76, 96] [75, 77, 97] []) O r) (F : Fr (fr_M [76, 96] [75, 77, 97] []) O o0) (h : fM_write_81 rc v1 o0 = some r) : Fr (fr_M [76, 96] [75, 77, 97] []) O r := by
  unfold fM_write_81 at h
  rcases ifc h with ⟨_, h⟩ | ⟨_, h⟩
  · exact H _ _ _ _ F h
  · have h := (ifn h).2
    obtain ⟨x_3, _, h⟩ := opq h
    obtain ⟨q_4, hq_4, h⟩ := bd h
    have Fq_4 : Fr (fr_M [76, 96] [75, 77, 97] []) O q_4 := fr_tr F (wF_M_writeCell hq_4) rfl rfl rfl
    obtain ⟨x_6, _, h⟩ := opq h
    exact H _ _ _ _ Fq_4 h
theorem wB_M_write_49 {O : cf_O} {rc : Nat → Int32 → cf_O → Option ((cf_O))} {v1 : Int32} {o0 : cf_O} {r : (cf_O)} (H : ∀ (k : Nat) (u1i : Int32) (o0 : cf_O) (r : (cf_O)), Fr (fr_M [76, 96] [75, 77, 97] []) O o0 → rc k u1i o0 = some r → Fr (fr_M [76, 96] [75, 77, 97] []) O r) (F : Fr (fr_M [76, 96] [75, 77, 97] []) O o0) (h : fM_write_49 rc v1 o0 = some r) : Fr (fr_M [76, 96] [75, 77, 97] []) O r := by
  unfold fM_write_49 at h
  rcases ifc h with ⟨_, h⟩ | ⟨_, h⟩
  · obtain ⟨q_2, hq_2, h⟩ := bd h
    have Fq_2 : Fr (fr_M [76, 96] [75, 77, 97] []) O q_2 := fr_tr F (wF_M_emit hq_2) rfl rfl rfl
    exact H _ _ _ _ Fq_2 h
  · obtain ⟨q_4, hq_4, h⟩ := bd h
    have Fq_4 : Fr (fr_M [76, 96] [75, 77, 97] []) O q_4 := fr_tr F (wF_M_name_M42 hq_4) rfl rfl rfl
    obtain ⟨x_6, _, h⟩ := opq h
    exact H _ _ _ _ Fq_4 h
theorem wB_M_write_12 {O : cf_O} {rc : Nat → Int32 → cf_O → Option ((cf_O))} {v1 : Int32} {o0 : cf_O} {r : (cf_O)} (H : ∀ (k : Nat) (u1i : Int32) (o0 : cf_O) (r : (cf_O)), Fr (fr_M [76, 96] [75, 77, 97] []) O o0 → rc k u1i o0 = some r → Fr (fr_M [76, 96] [75, 77, 97] []) O r) (F : Fr (fr_M [76, 96] [75, 77, 97] []) O o0) (h : fM_write_12 rc v1 o0 = some r) : Fr (fr_M [76, 96] [75, 77, 97] []) O r := by
  unfold fM_write_12 at h
  rcases ifc h with ⟨_, h⟩ | ⟨_, h⟩
  · obtain ⟨q_2, hq_2, h⟩ := bd h
    have Fq_2 : Fr (fr_M [76, 96] [75, 77, 97] []) O q_2 := fr_tr F (wF_M_emit hq_2) rfl rfl rfl
    obtain ⟨q_4, hq_4, h⟩ := bd h
    have Fq_4 : Fr (fr_M [76, 96] [75, 77, 97] []) O q_4 := fr_tr Fq_2 (wF_M_word hq_4) rfl rfl rfl
    exact H _ _ _ _ Fq_4 h
  · obtain ⟨q_6, hq_6, h⟩ := bd h
    have Fq_6 : Fr (fr_M [76, 96] [75, 77, 97] []) O q_6 := fr_tr F (wF_M_name_M41 hq_6) rfl rfl rfl
    obtain ⟨x_8, _, h⟩ := opq h
    exact H _ _ _ _ Fq_6 h
theorem wB_M_write_0 {O : cf_O} {rc : Nat → Int32 → cf_O → Option ((cf_O))} {o0 : cf_O} {r : (cf_O)} (H : ∀ (k : Nat) (u1i : Int32) (o0 : cf_O) (r : (cf_O)), Fr (fr_M [76, 96] [75, 77, 97] []) O o0 → rc k u1i o0 = some r → Fr (fr_M [76, 96] [75, 77, 97] []) O r) (F : Fr (fr_M [76, 96] [75, 77, 97] []) O o0) (h : fM_write_0 rc o0 = some r) : Fr (fr_M [76, 96] [75, 77, 97] []) O r := by
  unfold fM_write_0 at h
  obtain ⟨o_1, eo_1, h⟩ := opq h
  have Fo_1 : Fr (fr_M [76, 96] [75, 77, 97] []) O o_1 := by rw [eo_1]; exact fr_fp F rfl
  obtain ⟨q_2, hq_2, h⟩ := bd h
  have Fq_2 : Fr (fr_M [76, 96] [75, 77, 97] []) O q_2 := fr_tr Fo_1 (wF_M_word hq_2) rfl rfl rfl
  exact H _ _ _ _ Fq_2 h
theorem wG_M_write {O : cf_O} : ∀ (n k : Nat) (u1i : Int32) (o0 : cf_O) (r : (cf_O)), Fr (fr_M [76, 96] [75, 77, 97] []) O o0 → gM_write n k u1i o0 = some r → Fr (fr_M [76, 96] [75, 77, 97] []) O r := by
  intro n
  induction n with
  | zero => intro k u1i o0 r F h; cases h
  | succ n ih =>
    intro k u1i o0 r F h
    cases k with
    | zero => exact wB_M_write_12 (rc := gM_write n) ih F h
    | succ k =>
      cases k with
      | zero => exact wB_M_write_49 (rc := gM_write n) ih F h
      | succ k =>
        cases k with
        | zero => exact wB_M_write_81 (rc := gM_write n) ih F h
        | succ k =>
          cases k with
          | zero => exact wB_M_write_107 (rc := gM_write n) ih F h
          | succ k =>
            cases h
theorem wF_M_write {o0 : cf_O} {r : (cf_O)} (h : fM_write o0 = some r) : Fr (fr_M [76, 96] [75, 77, 97] []) o0 r := by
  unfold fM_write at h
  exact wB_M_write_0 (rc := gM_write cfFU) (fun k u1i o0 r F h => wG_M_write cfFU k u1i o0 r F h) fr_rfl h
theorem wB_M_table_39 {O : cf_O} {rc : Nat → Int32 → Int32 → Int32 → cf_O → Option ((Int32 × cf_O))} {v1 : Int32} {v3 : Int32} {s0 : Int32} {o0 : cf_O} {r : (Int32 × cf_O)} (H : ∀ (k : Nat) (u1i : Int32) (u2i : Int32) (u3i : Int32) (o0 : cf_O) (r : (Int32 × cf_O)), Fr (fr_M [] [75] []) O o0 → rc k u1i u2i u3i o0 = some r → Fr (fr_M [] [75] []) O r.2) (F : Fr (fr_M [] [75] []) O o0) (h : fM_table_39 rc v1 v3 s0 o0 = some r) : Fr (fr_M [] [75] []) O r.2 := by
  unfold fM_table_39 at h
  obtain ⟨x_1, _, h⟩ := opq h
  exact H _ _ _ _ _ _ F h
theorem wB_M_table_4 {O : cf_O} {rc : Nat → Int32 → Int32 → Int32 → cf_O → Option ((Int32 × cf_O))} {v1 : Int32} {v2 : Int32} {v3 : Int32} {o0 : cf_O} {r : (Int32 × cf_O)} (H : ∀ (k : Nat) (u1i : Int32) (u2i : Int32) (u3i : Int32) (o0 : cf_O) (r : (Int32 × cf_O)), Fr (fr_M [] [75] []) O o0 → rc k u1i u2i u3i o0 = some r → Fr (fr_M [] [75] []) O r.2) (F : Fr (fr_M [] [75] []) O o0) (h : fM_table_4 rc v1 v2 v3 o0 = some r) : Fr (fr_M [] [75] []) O r.2 := by
  unfold fM_table_4 at h
  have h := (ifn h).2
  obtain ⟨x_2, _, h⟩ := opq h
  have h := (ifn h).2
  obtain ⟨x_4, _, h⟩ := opq h
  obtain ⟨x_5, _, h⟩ := opq h
  rcases ifc h with ⟨_, h⟩ | ⟨_, h⟩
  · rw [← Option.some.inj h]
    exact F
  · obtain ⟨q_7, hq_7, h⟩ := bd h
    have Fq_7 : Fr (fr_M [] [75] []) O q_7.2 := fr_tr F (wF_M_cellValue hq_7) rfl rfl rfl
    rcases ifc h with ⟨_, h⟩ | ⟨_, h⟩
    · exact wB_M_table_39 H Fq_7 h
    · obtain ⟨x_11, _, h⟩ := opq h
      obtain ⟨x_12, _, h⟩ := opq h
      exact wB_M_table_39 H Fq_7 h
theorem wB_M_table_0 {O : cf_O} {rc : Nat → Int32 → Int32 → Int32 → cf_O → Option ((Int32 × cf_O))} {v1 : Int32} {o0 : cf_O} {r : (Int32 × cf_O)} (H : ∀ (k : Nat) (u1i : Int32) (u2i : Int32) (u3i : Int32) (o0 : cf_O) (r : (Int32 × cf_O)), Fr (fr_M [] [75] []) O o0 → rc k u1i u2i u3i o0 = some r → Fr (fr_M [] [75] []) O r.2) (F : Fr (fr_M [] [75] []) O o0) (h : fM_table_0 rc v1 o0 = some r) : Fr (fr_M [] [75] []) O r.2 := by
  unfold fM_table_0 at h
  exact H _ _ _ _ _ _ F h
theorem wG_M_table {O : cf_O} : ∀ (n k : Nat) (u1i : Int32) (u2i : Int32) (u3i : Int32) (o0 : cf_O) (r : (Int32 × cf_O)), Fr (fr_M [] [75] []) O o0 → gM_table n k u1i u2i u3i o0 = some r → Fr (fr_M [] [75] []) O r.2 := by
  intro n
  induction n with
  | zero => intro k u1i u2i u3i o0 r F h; cases h
  | succ n ih =>
    intro k u1i u2i u3i o0 r F h
    cases k with
    | zero => exact wB_M_table_4 (rc := gM_table n) ih F h
    | succ k =>
      cases h
theorem wF_M_table {v1 : Int32} {o0 : cf_O} {r : (Int32 × cf_O)} (h : fM_table v1 o0 = some r) : Fr (fr_M [] [75] []) o0 r.2 := by
  unfold fM_table at h
  exact wB_M_table_0 (rc := gM_table cfFU) (fun k u1i u2i u3i o0 r F h => wG_M_table cfFU k u1i u2i u3i o0 r F h) fr_rfl h
