theorem wXB_M_emit_0 {O : cf_O} (h95 : ¬ O.1 95 = 0) {v1 : Int64} {o0 : cf_O} {r : (cf_O)} (F : Fr (fr_M [96] [97] []) O o0) (h : fM_emit_0 v1 o0 = some r) : Fr (fr_M [96] [97] []) O r := by
  unfold fM_emit_0 at h
  rcases ifc h with ⟨z9, _⟩ | ⟨_, h⟩
  · rw [F.1 95 rfl] at z9; exact absurd z9 h95
  · obtain ⟨x_7, _, h⟩ := opq h
    have h := (ifn h).2
    obtain ⟨o_9, eo_9, h⟩ := opq h
    have Fo_9 : Fr (fr_M [96] [97] []) O o_9 := by rw [eo_9]; exact fr_xp F rfl
    obtain ⟨x_10, _, h⟩ := opq h
    obtain ⟨o_11, eo_11, h⟩ := opq h
    have Fo_11 : Fr (fr_M [96] [97] []) O o_11 := by rw [eo_11]; exact fr_fp Fo_9 rfl
    rw [← Option.some.inj h]
    exact Fo_11
theorem wXF_M_emit {v1 : Int64} {o0 : cf_O} {r : (cf_O)} (h95 : ¬ o0.1 95 = 0) (h : fM_emit v1 o0 = some r) : Fr (fr_M [96] [97] []) o0 r := by
  unfold fM_emit at h
  exact wXB_M_emit_0 h95 fr_rfl h
theorem wXB_M_name_M41_39 {O : cf_O} (h95 : ¬ O.1 95 = 0) {rc : Nat → Int32 → Int32 → cf_O → Option ((cf_O))} {v2 : Int32} {v3 : Int32} {o0 : cf_O} {r : (cf_O)} (H : ∀ (k : Nat) (u2i : Int32) (u3i : Int32) (o0 : cf_O) (r : (cf_O)), Fr (fr_M [96] [97] []) O o0 → rc k u2i u3i o0 = some r → Fr (fr_M [96] [97] []) O r) (F : Fr (fr_M [96] [97] []) O o0) (h : fM_name_M41_39 rc v2 v3 o0 = some r) : Fr (fr_M [96] [97] []) O r := by
  unfold fM_name_M41_39 at h
  obtain ⟨x_1, _, h⟩ := opq h
  exact H _ _ _ _ _ F h
theorem wXB_M_name_M41_9 {O : cf_O} (h95 : ¬ O.1 95 = 0) {rc : Nat → Int32 → Int32 → cf_O → Option ((cf_O))} {v2 : Int32} {v3 : Int32} {o0 : cf_O} {r : (cf_O)} (H : ∀ (k : Nat) (u2i : Int32) (u3i : Int32) (o0 : cf_O) (r : (cf_O)), Fr (fr_M [96] [97] []) O o0 → rc k u2i u3i o0 = some r → Fr (fr_M [96] [97] []) O r) (F : Fr (fr_M [96] [97] []) O o0) (h : fM_name_M41_9 rc v2 v3 o0 = some r) : Fr (fr_M [96] [97] []) O r := by
  unfold fM_name_M41_9 at h
  rcases ifc h with ⟨_, h⟩ | ⟨_, h⟩
  · rw [← Option.some.inj h]
    exact F
  · obtain ⟨x_2, _, h⟩ := opq h
    obtain ⟨x_3, _, h⟩ := opq h
    have h := (ifn h).2
    obtain ⟨x_5, _, h⟩ := opq h
    rcases ifc h with ⟨_, h⟩ | ⟨_, h⟩
    · exact wXB_M_name_M41_39 h95 H F h
    · obtain ⟨x_7, _, h⟩ := opq h
      obtain ⟨x_8, _, h⟩ := opq h
      have h := (ifn h).2
      obtain ⟨x_10, _, h⟩ := opq h
      obtain ⟨x_11, _, h⟩ := opq h
      obtain ⟨q_12, hq_12, h⟩ := bd h
      have Fq_12 : Fr (fr_M [96] [97] []) O q_12 := fr_tr F (wXF_M_emit (by rw [F.1 95 rfl]; exact h95) hq_12) rfl rfl rfl
      exact wXB_M_name_M41_39 h95 H Fq_12 h
theorem wXB_M_name_M41_0 {O : cf_O} (h95 : ¬ O.1 95 = 0) {rc : Nat → Int32 → Int32 → cf_O → Option ((cf_O))} {v2 : Int32} {o0 : cf_O} {r : (cf_O)} (H : ∀ (k : Nat) (u2i : Int32) (u3i : Int32) (o0 : cf_O) (r : (cf_O)), Fr (fr_M [96] [97] []) O o0 → rc k u2i u3i o0 = some r → Fr (fr_M [96] [97] []) O r) (F : Fr (fr_M [96] [97] []) O o0) (h : fM_name_M41_0 rc v2 o0 = some r) : Fr (fr_M [96] [97] []) O r := by
  unfold fM_name_M41_0 at h
  obtain ⟨q_1, hq_1, h⟩ := bd h
  have Fq_1 : Fr (fr_M [96] [97] []) O q_1 := fr_tr F (wXF_M_emit (by rw [F.1 95 rfl]; exact h95) hq_1) rfl rfl rfl
  exact H _ _ _ _ _ Fq_1 h
theorem wXG_M_name_M41 {O : cf_O} (h95 : ¬ O.1 95 = 0) : ∀ (n k : Nat) (u2i : Int32) (u3i : Int32) (o0 : cf_O) (r : (cf_O)), Fr (fr_M [96] [97] []) O o0 → gM_name_M41 n k u2i u3i o0 = some r → Fr (fr_M [96] [97] []) O r := by
  intro n
  induction n with
  | zero => intro k u2i u3i o0 r F h; cases h
  | succ n ih =>
    intro k u2i u3i o0 r F h
    cases k with
    | zero => exact wXB_M_name_M41_9 h95 (rc := gM_name_M41 n) ih F h
    | succ k =>
      cases h
theorem wXF_M_name_M41 {v2 : Int32} {o0 : cf_O} {r : (cf_O)} (h95 : ¬ o0.1 95 = 0) (h : fM_name_M41 v2 o0 = some r) : Fr (fr_M [96] [97] []) o0 r := by
  unfold fM_name_M41 at h
  exact wXB_M_name_M41_0 h95 (rc := gM_name_M41 cfFU) (fun k u2i u3i o0 r F h => wXG_M_name_M41 h95 cfFU k u2i u3i o0 r F h) fr_rfl h
theorem wXB_M_nodeName_67 {O : cf_O} (h95 : ¬ O.1 95 = 0) {rc : Nat → Int32 → Int32 → cf_O → Option ((cf_O))} {v1 : Int32} {v2 : Int32} {o0 : cf_O} {r : (cf_O)} (H : ∀ (k : Nat) (u1i : Int32) (u2i : Int32) (o0 : cf_O) (r : (cf_O)), Fr (fr_M [96] [97] []) O o0 → rc k u1i u2i o0 = some r → Fr (fr_M [96] [97] []) O r) (F : Fr (fr_M [96] [97] []) O o0) (h : fM_nodeName_67 rc v1 v2 o0 = some r) : Fr (fr_M [96] [97] []) O r := by
  unfold fM_nodeName_67 at h
  obtain ⟨x_1, _, h⟩ := opq h
  exact H _ _ _ _ _ F h
theorem wXB_M_nodeName_44 {O : cf_O} (h95 : ¬ O.1 95 = 0) {rc : Nat → Int32 → Int32 → cf_O → Option ((cf_O))} {v1 : Int32} {v2 : Int32} {o0 : cf_O} {r : (cf_O)} (H : ∀ (k : Nat) (u1i : Int32) (u2i : Int32) (o0 : cf_O) (r : (cf_O)), Fr (fr_M [96] [97] []) O o0 → rc k u1i u2i o0 = some r → Fr (fr_M [96] [97] []) O r) (F : Fr (fr_M [96] [97] []) O o0) (h : fM_nodeName_44 rc v1 v2 o0 = some r) : Fr (fr_M [96] [97] []) O r := by
  unfold fM_nodeName_44 at h
  rcases ifc h with ⟨_, h⟩ | ⟨_, h⟩
  · rw [← Option.some.inj h]
    exact F
  · rcases ifc h with ⟨_, h⟩ | ⟨_, h⟩
    · exact wXB_M_nodeName_67 h95 H F h
    · have h := (ifn h).2
      obtain ⟨x_4, _, h⟩ := opq h
      obtain ⟨x_5, _, h⟩ := opq h
      obtain ⟨x_6, _, h⟩ := opq h
      obtain ⟨x_7, _, h⟩ := opq h
      obtain ⟨q_8, hq_8, h⟩ := bd h
      have Fq_8 : Fr (fr_M [96] [97] []) O q_8 := fr_tr F (wXF_M_emit (by rw [F.1 95 rfl]; exact h95) hq_8) rfl rfl rfl
      exact wXB_M_nodeName_67 h95 H Fq_8 h
theorem wXB_M_nodeName_0 {O : cf_O} (h95 : ¬ O.1 95 = 0) {rc : Nat → Int32 → Int32 → cf_O → Option ((cf_O))} {v1 : Int32} {o0 : cf_O} {r : (cf_O)} (H : ∀ (k : Nat) (u1i : Int32) (u2i : Int32) (o0 : cf_O) (r : (cf_O)), Fr (fr_M [96] [97] []) O o0 → rc k u1i u2i o0 = some r → Fr (fr_M [96] [97] []) O r) (F : Fr (fr_M [96] [97] []) O o0) (h : fM_nodeName_0 rc v1 o0 = some r) : Fr (fr_M [96] [97] []) O r := by
  unfold fM_nodeName_0 at h
  obtain ⟨q_1, _, h⟩ := bd h
  rcases ifc h with ⟨_, h⟩ | ⟨_, h⟩
  · obtain ⟨q_5, hq_5, h⟩ := bd h
    have Fq_5 : Fr (fr_M [96] [97] []) O q_5 := fr_tr F (wXF_M_emit (by rw [F.1 95 rfl]; exact h95) hq_5) rfl rfl rfl
    obtain ⟨q_7, hq_7, h⟩ := bd h
    have Fq_7 : Fr (fr_M [96] [97] []) O q_7 := fr_tr Fq_5 (wXF_M_emit (by rw [Fq_5.1 95 rfl]; exact h95) hq_7) rfl rfl rfl
    obtain ⟨q_9, hq_9, h⟩ := bd h
    have Fq_9 : Fr (fr_M [96] [97] []) O q_9 := fr_tr Fq_7 (wXF_M_emit (by rw [Fq_7.1 95 rfl]; exact h95) hq_9) rfl rfl rfl
    exact H _ _ _ _ _ Fq_9 h
  · obtain ⟨x_11, _, h⟩ := opq h
    obtain ⟨q_12, hq_12, h⟩ := bd h
    have Fq_12 : Fr (fr_M [96] [97] []) O q_12 := fr_tr F (wXF_M_name_M41 (by rw [F.1 95 rfl]; exact h95) hq_12) rfl rfl rfl
    rw [← Option.some.inj h]
    exact Fq_12
theorem wXG_M_nodeName {O : cf_O} (h95 : ¬ O.1 95 = 0) : ∀ (n k : Nat) (u1i : Int32) (u2i : Int32) (o0 : cf_O) (r : (cf_O)), Fr (fr_M [96] [97] []) O o0 → gM_nodeName n k u1i u2i o0 = some r → Fr (fr_M [96] [97] []) O r := by
  intro n
  induction n with
  | zero => intro k u1i u2i o0 r F h; cases h
  | succ n ih =>
    intro k u1i u2i o0 r F h
    cases k with
    | zero => exact wXB_M_nodeName_44 h95 (rc := gM_nodeName n) ih F h
    | succ k =>
      cases h
theorem wXF_M_nodeName {v1 : Int32} {o0 : cf_O} {r : (cf_O)} (h95 : ¬ o0.1 95 = 0) (h : fM_nodeName v1 o0 = some r) : Fr (fr_M [96] [97] []) o0 r := by
  unfold fM_nodeName at h
  exact wXB_M_nodeName_0 h95 (rc := gM_nodeName cfFU) (fun k u1i u2i o0 r F h => wXG_M_nodeName h95 cfFU k u1i u2i o0 r F h) fr_rfl h
theorem wXB_M_literalName_65 {O : cf_O} (h95 : ¬ O.1 95 = 0) {rc : Nat → Int32 → Int32 → cf_O → Option ((cf_O))} {v1 : Int32} {v2 : Int32} {o0 : cf_O} {r : (cf_O)} (H : ∀ (k : Nat) (u1i : Int32) (u2i : Int32) (o0 : cf_O) (r : (cf_O)), Fr (fr_M [96] [97] []) O o0 → rc k u1i u2i o0 = some r → Fr (fr_M [96] [97] []) O r) (F : Fr (fr_M [96] [97] []) O o0) (h : fM_literalName_65 rc v1 v2 o0 = some r) : Fr (fr_M [96] [97] []) O r := by
  unfold fM_literalName_65 at h
  obtain ⟨x_1, _, h⟩ := opq h
  exact H _ _ _ _ _ F h
theorem wXB_M_literalName_38 {O : cf_O} (h95 : ¬ O.1 95 = 0) {rc : Nat → Int32 → Int32 → cf_O → Option ((cf_O))} {v1 : Int32} {v2 : Int32} {o0 : cf_O} {r : (cf_O)} (H : ∀ (k : Nat) (u1i : Int32) (u2i : Int32) (o0 : cf_O) (r : (cf_O)), Fr (fr_M [96] [97] []) O o0 → rc k u1i u2i o0 = some r → Fr (fr_M [96] [97] []) O r) (F : Fr (fr_M [96] [97] []) O o0) (h : fM_literalName_38 rc v1 v2 o0 = some r) : Fr (fr_M [96] [97] []) O r := by
  unfold fM_literalName_38 at h
  rcases ifc h with ⟨_, h⟩ | ⟨_, h⟩
  · rw [← Option.some.inj h]
    exact F
  · obtain ⟨x_2, _, h⟩ := opq h
    rcases ifc h with ⟨_, h⟩ | ⟨_, h⟩
    · exact wXB_M_literalName_65 h95 H F h
    · obtain ⟨x_4, _, h⟩ := opq h
      have h := (ifn h).2
      obtain ⟨x_6, _, h⟩ := opq h
      obtain ⟨x_7, _, h⟩ := opq h
      obtain ⟨x_8, _, h⟩ := opq h
      obtain ⟨x_9, _, h⟩ := opq h
      obtain ⟨q_10, hq_10, h⟩ := bd h
      have Fq_10 : Fr (fr_M [96] [97] []) O q_10 := fr_tr F (wXF_M_emit (by rw [F.1 95 rfl]; exact h95) hq_10) rfl rfl rfl
      exact wXB_M_literalName_65 h95 H Fq_10 h
theorem wXB_M_literalName_0 {O : cf_O} (h95 : ¬ O.1 95 = 0) {rc : Nat → Int32 → Int32 → cf_O → Option ((cf_O))} {v1 : Int32} {o0 : cf_O} {r : (cf_O)} (H : ∀ (k : Nat) (u1i : Int32) (u2i : Int32) (o0 : cf_O) (r : (cf_O)), Fr (fr_M [96] [97] []) O o0 → rc k u1i u2i o0 = some r → Fr (fr_M [96] [97] []) O r) (F : Fr (fr_M [96] [97] []) O o0) (h : fM_literalName_0 rc v1 o0 = some r) : Fr (fr_M [96] [97] []) O r := by
  unfold fM_literalName_0 at h
  obtain ⟨x_1, _, h⟩ := opq h
  rcases ifc h with ⟨_, h⟩ | ⟨_, h⟩
  · obtain ⟨x_9, _, h⟩ := opq h
    obtain ⟨q_10, hq_10, h⟩ := bd h
    have Fq_10 : Fr (fr_M [96] [97] []) O q_10 := fr_tr F (wXF_M_nodeName (by rw [F.1 95 rfl]; exact h95) hq_10) rfl rfl rfl
    rw [← Option.some.inj h]
    exact Fq_10
  · obtain ⟨q_3, hq_3, h⟩ := bd h
    have Fq_3 : Fr (fr_M [96] [97] []) O q_3 := fr_tr F (wXF_M_emit (by rw [F.1 95 rfl]; exact h95) hq_3) rfl rfl rfl
    obtain ⟨q_5, hq_5, h⟩ := bd h
    have Fq_5 : Fr (fr_M [96] [97] []) O q_5 := fr_tr Fq_3 (wXF_M_emit (by rw [Fq_3.1 95 rfl]; exact h95) hq_5) rfl rfl rfl
    obtain ⟨q_7, hq_7, h⟩ := bd h
    have Fq_7 : Fr (fr_M [96] [97] []) O q_7 := fr_tr Fq_5 (wXF_M_emit (by rw [Fq_5.1 95 rfl]; exact h95) hq_7) rfl rfl rfl
    exact H _ _ _ _ _ Fq_7 h
theorem wXG_M_literalName {O : cf_O} (h95 : ¬ O.1 95 = 0) : ∀ (n k : Nat) (u1i : Int32) (u2i : Int32) (o0 : cf_O) (r : (cf_O)), Fr (fr_M [96] [97] []) O o0 → gM_literalName n k u1i u2i o0 = some r → Fr (fr_M [96] [97] []) O r := by
  intro n
  induction n with
  | zero => intro k u1i u2i o0 r F h; cases h
  | succ n ih =>
    intro k u1i u2i o0 r F h
    cases k with
    | zero => exact wXB_M_literalName_38 h95 (rc := gM_literalName n) ih F h
    | succ k =>
      cases h
theorem wXF_M_literalName {v1 : Int32} {o0 : cf_O} {r : (cf_O)} (h95 : ¬ o0.1 95 = 0) (h : fM_literalName v1 o0 = some r) : Fr (fr_M [96] [97] []) o0 r := by
  unfold fM_literalName at h
  exact wXB_M_literalName_0 h95 (rc := gM_literalName cfFU) (fun k u1i u2i o0 r F h => wXG_M_literalName h95 cfFU k u1i u2i o0 r F h) fr_rfl h
theorem wXB_M_name_M42_39 {O : cf_O} (h95 : ¬ O.1 95 = 0) {rc : Nat → Int32 → Int32 → cf_O → Option ((cf_O))} {v2 : Int32} {v3 : Int32} {o0 : cf_O} {r : (cf_O)} (H : ∀ (k : Nat) (u2i : Int32) (u3i : Int32) (o0 : cf_O) (r : (cf_O)), Fr (fr_M [96] [97] []) O o0 → rc k u2i u3i o0 = some r → Fr (fr_M [96] [97] []) O r) (F : Fr (fr_M [96] [97] []) O o0) (h : fM_name_M42_39 rc v2 v3 o0 = some r) : Fr (fr_M [96] [97] []) O r := by
  unfold fM_name_M42_39 at h
  obtain ⟨x_1, _, h⟩ := opq h
  exact H _ _ _ _ _ F h
theorem wXB_M_name_M42_9 {O : cf_O} (h95 : ¬ O.1 95 = 0) {rc : Nat → Int32 → Int32 → cf_O → Option ((cf_O))} {v2 : Int32} {v3 : Int32} {o0 : cf_O} {r : (cf_O)} (H : ∀ (k : Nat) (u2i : Int32) (u3i : Int32) (o0 : cf_O) (r : (cf_O)), Fr (fr_M [96] [97] []) O o0 → rc k u2i u3i o0 = some r → Fr (fr_M [96] [97] []) O r) (F : Fr (fr_M [96] [97] []) O o0) (h : fM_name_M42_9 rc v2 v3 o0 = some r) : Fr (fr_M [96] [97] []) O r := by
  unfold fM_name_M42_9 at h
  rcases ifc h with ⟨_, h⟩ | ⟨_, h⟩
  · rw [← Option.some.inj h]
    exact F
  · obtain ⟨x_2, _, h⟩ := opq h
    obtain ⟨x_3, _, h⟩ := opq h
    have h := (ifn h).2
    obtain ⟨x_5, _, h⟩ := opq h
    rcases ifc h with ⟨_, h⟩ | ⟨_, h⟩
    · exact wXB_M_name_M42_39 h95 H F h
    · obtain ⟨x_7, _, h⟩ := opq h
      obtain ⟨x_8, _, h⟩ := opq h
      have h := (ifn h).2
      obtain ⟨x_10, _, h⟩ := opq h
      obtain ⟨x_11, _, h⟩ := opq h
      obtain ⟨q_12, hq_12, h⟩ := bd h
      have Fq_12 : Fr (fr_M [96] [97] []) O q_12 := fr_tr F (wXF_M_emit (by rw [F.1 95 rfl]; exact h95) hq_12) rfl rfl rfl
      exact wXB_M_name_M42_39 h95 H Fq_12 h
theorem wXB_M_name_M42_0 {O : cf_O} (h95 : ¬ O.1 95 = 0) {rc : Nat → Int32 → Int32 → cf_O → Option ((cf_O))} {v2 : Int32} {o0 : cf_O} {r : (cf_O)} (H : ∀ (k : Nat) (u2i : Int32) (u3i : Int32) (o0 : cf_O) (r : (cf_O)), Fr (fr_M [96] [97] []) O o0 → rc k u2i u3i o0 = some r → Fr (fr_M [96] [97] []) O r) (F : Fr (fr_M [96] [97] []) O o0) (h : fM_name_M42_0 rc v2 o0 = some r) : Fr (fr_M [96] [97] []) O r := by
  unfold fM_name_M42_0 at h
  obtain ⟨q_1, hq_1, h⟩ := bd h
  have Fq_1 : Fr (fr_M [96] [97] []) O q_1 := fr_tr F (wXF_M_emit (by rw [F.1 95 rfl]; exact h95) hq_1) rfl rfl rfl
  exact H _ _ _ _ _ Fq_1 h
theorem wXG_M_name_M42 {O : cf_O} (h95 : ¬ O.1 95 = 0) : ∀ (n k : Nat) (u2i : Int32) (u3i : Int32) (o0 : cf_O) (r : (cf_O)), Fr (fr_M [96] [97] []) O o0 → gM_name_M42 n k u2i u3i o0 = some r → Fr (fr_M [96] [97] []) O r := by
  intro n
  induction n with
  | zero => intro k u2i u3i o0 r F h; cases h
  | succ n ih =>
    intro k u2i u3i o0 r F h
    cases k with
    | zero => exact wXB_M_name_M42_9 h95 (rc := gM_name_M42 n) ih F h
    | succ k =>
      cases h
theorem wXF_M_name_M42 {v2 : Int32} {o0 : cf_O} {r : (cf_O)} (h95 : ¬ o0.1 95 = 0) (h : fM_name_M42 v2 o0 = some r) : Fr (fr_M [96] [97] []) o0 r := by
  unfold fM_name_M42 at h
  exact wXB_M_name_M42_0 h95 (rc := gM_name_M42 cfFU) (fun k u2i u3i o0 r F h => wXG_M_name_M42 h95 cfFU k u2i u3i o0 r F h) fr_rfl h
theorem wXB_M_word_14 {O : cf_O} (h95 : ¬ O.1 95 = 0) {rc : Nat → Int64 → cf_O → Option ((cf_O))} {v2 : Int64} {o0 : cf_O} {r : (cf_O)} (H : ∀ (k : Nat) (u2l : Int64) (o0 : cf_O) (r : (cf_O)), Fr (fr_M [96] [97] []) O o0 → rc k u2l o0 = some r → Fr (fr_M [96] [97] []) O r) (F : Fr (fr_M [96] [97] []) O o0) (h : fM_word_14 rc v2 o0 = some r) : Fr (fr_M [96] [97] []) O r := by
  unfold fM_word_14 at h
  obtain ⟨x_1, _, h⟩ := opq h
  rcases ifc h with ⟨_, h⟩ | ⟨_, h⟩
  · rw [← Option.some.inj h]
    exact F
  · obtain ⟨x_3, _, h⟩ := opq h
    obtain ⟨x_4, _, h⟩ := opq h
    obtain ⟨q_5, hq_5, h⟩ := bd h
    have Fq_5 : Fr (fr_M [96] [97] []) O q_5 := fr_tr F (wXF_M_emit (by rw [F.1 95 rfl]; exact h95) hq_5) rfl rfl rfl
    obtain ⟨x_7, _, h⟩ := opq h
    exact H _ _ _ _ Fq_5 h
theorem wXB_M_word_0 {O : cf_O} (h95 : ¬ O.1 95 = 0) {rc : Nat → Int64 → cf_O → Option ((cf_O))} {v1 : Int32} {o0 : cf_O} {r : (cf_O)} (H : ∀ (k : Nat) (u2l : Int64) (o0 : cf_O) (r : (cf_O)), Fr (fr_M [96] [97] []) O o0 → rc k u2l o0 = some r → Fr (fr_M [96] [97] []) O r) (F : Fr (fr_M [96] [97] []) O o0) (h : fM_word_0 rc v1 o0 = some r) : Fr (fr_M [96] [97] []) O r := by
  unfold fM_word_0 at h
  obtain ⟨q_1, hq_1, h⟩ := bd h
  have Fq_1 : Fr (fr_M [96] [97] []) O q_1 := fr_tr F (wXF_M_emit (by rw [F.1 95 rfl]; exact h95) hq_1) rfl rfl rfl
  have h := (ifn h).2
  obtain ⟨x_4, _, h⟩ := opq h
  exact H _ _ _ _ Fq_1 h
theorem wXG_M_word {O : cf_O} (h95 : ¬ O.1 95 = 0) : ∀ (n k : Nat) (u2l : Int64) (o0 : cf_O) (r : (cf_O)), Fr (fr_M [96] [97] []) O o0 → gM_word n k u2l o0 = some r → Fr (fr_M [96] [97] []) O r := by
  intro n
  induction n with
  | zero => intro k u2l o0 r F h; cases h
  | succ n ih =>
    intro k u2l o0 r F h
    cases k with
    | zero => exact wXB_M_word_14 h95 (rc := gM_word n) ih F h
    | succ k =>
      cases h
theorem wXF_M_word {v1 : Int32} {o0 : cf_O} {r : (cf_O)} (h95 : ¬ o0.1 95 = 0) (h : fM_word v1 o0 = some r) : Fr (fr_M [96] [97] []) o0 r := by
  unfold fM_word at h
  exact wXB_M_word_0 h95 (rc := gM_word cfFU) (fun k u2l o0 r F h => wXG_M_word h95 cfFU k u2l o0 r F h) fr_rfl h
theorem wXB_M_name_M83_39 {O : cf_O} (h95 : ¬ O.1 95 = 0) {rc : Nat → Int32 → Int32 → cf_O → Option ((cf_O))} {v2 : Int32} {v3 : Int32} {o0 : cf_O} {r : (cf_O)} (H : ∀ (k : Nat) (u2i : Int32) (u3i : Int32) (o0 : cf_O) (r : (cf_O)), Fr (fr_M [96] [97] []) O o0 → rc k u2i u3i o0 = some r → Fr (fr_M [96] [97] []) O r) (F : Fr (fr_M [96] [97] []) O o0) (h : fM_name_M83_39 rc v2 v3 o0 = some r) : Fr (fr_M [96] [97] []) O r := by
  unfold fM_name_M83_39 at h
  obtain ⟨x_1, _, h⟩ := opq h
  exact H _ _ _ _ _ F h
theorem wXB_M_name_M83_9 {O : cf_O} (h95 : ¬ O.1 95 = 0) {rc : Nat → Int32 → Int32 → cf_O → Option ((cf_O))} {v2 : Int32} {v3 : Int32} {o0 : cf_O} {r : (cf_O)} (H : ∀ (k : Nat) (u2i : Int32) (u3i : Int32) (o0 : cf_O) (r : (cf_O)), Fr (fr_M [96] [97] []) O o0 → rc k u2i u3i o0 = some r → Fr (fr_M [96] [97] []) O r) (F : Fr (fr_M [96] [97] []) O o0) (h : fM_name_M83_9 rc v2 v3 o0 = some r) : Fr (fr_M [96] [97] []) O r := by
  unfold fM_name_M83_9 at h
  rcases ifc h with ⟨_, h⟩ | ⟨_, h⟩
  · rw [← Option.some.inj h]
    exact F
  · obtain ⟨x_2, _, h⟩ := opq h
    obtain ⟨x_3, _, h⟩ := opq h
    have h := (ifn h).2
    obtain ⟨x_5, _, h⟩ := opq h
    rcases ifc h with ⟨_, h⟩ | ⟨_, h⟩
    · exact wXB_M_name_M83_39 h95 H F h
    · obtain ⟨x_7, _, h⟩ := opq h
      obtain ⟨x_8, _, h⟩ := opq h
      have h := (ifn h).2
      obtain ⟨x_10, _, h⟩ := opq h
      obtain ⟨x_11, _, h⟩ := opq h
      obtain ⟨q_12, hq_12, h⟩ := bd h
      have Fq_12 : Fr (fr_M [96] [97] []) O q_12 := fr_tr F (wXF_M_emit (by rw [F.1 95 rfl]; exact h95) hq_12) rfl rfl rfl
      exact wXB_M_name_M83_39 h95 H Fq_12 h
theorem wXB_M_name_M83_0 {O : cf_O} (h95 : ¬ O.1 95 = 0) {rc : Nat → Int32 → Int32 → cf_O → Option ((cf_O))} {v2 : Int32} {o0 : cf_O} {r : (cf_O)} (H : ∀ (k : Nat) (u2i : Int32) (u3i : Int32) (o0 : cf_O) (r : (cf_O)), Fr (fr_M [96] [97] []) O o0 → rc k u2i u3i o0 = some r → Fr (fr_M [96] [97] []) O r) (F : Fr (fr_M [96] [97] []) O o0) (h : fM_name_M83_0 rc v2 o0 = some r) : Fr (fr_M [96] [97] []) O r := by
  unfold fM_name_M83_0 at h
  obtain ⟨q_1, hq_1, h⟩ := bd h
  have Fq_1 : Fr (fr_M [96] [97] []) O q_1 := fr_tr F (wXF_M_emit (by rw [F.1 95 rfl]; exact h95) hq_1) rfl rfl rfl
  exact H _ _ _ _ _ Fq_1 h
theorem wXG_M_name_M83 {O : cf_O} (h95 : ¬ O.1 95 = 0) : ∀ (n k : Nat) (u2i : Int32) (u3i : Int32) (o0 : cf_O) (r : (cf_O)), Fr (fr_M [96] [97] []) O o0 → gM_name_M83 n k u2i u3i o0 = some r → Fr (fr_M [96] [97] []) O r := by
  intro n
  induction n with
  | zero => intro k u2i u3i o0 r F h; cases h
  | succ n ih =>
    intro k u2i u3i o0 r F h
    cases k with
    | zero => exact wXB_M_name_M83_9 h95 (rc := gM_name_M83 n) ih F h
    | succ k =>
      cases h
theorem wXF_M_name_M83 {v2 : Int32} {o0 : cf_O} {r : (cf_O)} (h95 : ¬ o0.1 95 = 0) (h : fM_name_M83 v2 o0 = some r) : Fr (fr_M [96] [97] []) o0 r := by
  unfold fM_name_M83 at h
  exact wXB_M_name_M83_0 h95 (rc := gM_name_M83 cfFU) (fun k u2i u3i o0 r F h => wXG_M_name_M83 h95 cfFU k u2i u3i o0 r F h) fr_rfl h
theorem wXB_M_writeInstance_57 {O : cf_O} (h95 : ¬ O.1 95 = 0) {rc : Nat → Int32 → Int32 → Int32 → cf_O → Option ((cf_O))} {v1 : Int32} {v2 : Int32} {v3 : Int32} {o0 : cf_O} {r : (cf_O)} (H : ∀ (k : Nat) (u1i : Int32) (u2i : Int32) (u3i : Int32) (o0 : cf_O) (r : (cf_O)), Fr (fr_M [96] [97] []) O o0 → rc k u1i u2i u3i o0 = some r → Fr (fr_M [96] [97] []) O r) (F : Fr (fr_M [96] [97] []) O o0) (h : fM_writeInstance_57 rc v1 v2 v3 o0 = some r) : Fr (fr_M [96] [97] []) O r := by
  unfold fM_writeInstance_57 at h
  obtain ⟨x_1, _, h⟩ := opq h
  obtain ⟨x_2, _, h⟩ := opq h
  have h := (ifn h).2
  obtain ⟨x_4, _, h⟩ := opq h
  rcases ifc h with ⟨_, h⟩ | ⟨_, h⟩
  · obtain ⟨q_6, hq_6, h⟩ := bd h
    have Fq_6 : Fr (fr_M [96] [97] []) O q_6 := fr_tr F (wXF_M_literalName (by rw [F.1 95 rfl]; exact h95) hq_6) rfl rfl rfl
    obtain ⟨q_8, hq_8, h⟩ := bd h
    have Fq_8 : Fr (fr_M [96] [97] []) O q_8 := fr_tr Fq_6 (wXF_M_emit (by rw [Fq_6.1 95 rfl]; exact h95) hq_8) rfl rfl rfl
    rw [← Option.some.inj h]
    exact Fq_8
  · obtain ⟨x_10, _, h⟩ := opq h
    obtain ⟨x_11, _, h⟩ := opq h
    obtain ⟨x_12, _, h⟩ := opq h
    have h := (ifn h).2
    obtain ⟨x_14, _, h⟩ := opq h
    obtain ⟨q_15, hq_15, h⟩ := bd h
    have Fq_15 : Fr (fr_M [96] [97] []) O q_15 := fr_tr F (wXF_M_literalName (by rw [F.1 95 rfl]; exact h95) hq_15) rfl rfl rfl
    obtain ⟨x_17, _, h⟩ := opq h
    exact H _ _ _ _ _ _ Fq_15 h
theorem wXB_M_writeInstance_0 {O : cf_O} (h95 : ¬ O.1 95 = 0) {rc : Nat → Int32 → Int32 → Int32 → cf_O → Option ((cf_O))} {v1 : Int32} {o0 : cf_O} {r : (cf_O)} (H : ∀ (k : Nat) (u1i : Int32) (u2i : Int32) (u3i : Int32) (o0 : cf_O) (r : (cf_O)), Fr (fr_M [96] [97] []) O o0 → rc k u1i u2i u3i o0 = some r → Fr (fr_M [96] [97] []) O r) (F : Fr (fr_M [96] [97] []) O o0) (h : fM_writeInstance_0 rc v1 o0 = some r) : Fr (fr_M [96] [97] []) O r := by
  unfold fM_writeInstance_0 at h
  obtain ⟨x_1, _, h⟩ := opq h
  obtain ⟨x_2, _, h⟩ := opq h
  have h := (ifn h).2
  obtain ⟨x_4, _, h⟩ := opq h
  obtain ⟨q_5, hq_5, h⟩ := bd h
  have Fq_5 : Fr (fr_M [96] [97] []) O q_5 := fr_tr F (wXF_M_emit (by rw [F.1 95 rfl]; exact h95) hq_5) rfl rfl rfl
  obtain ⟨q_7, hq_7, h⟩ := bd h
  have Fq_7 : Fr (fr_M [96] [97] []) O q_7 := fr_tr Fq_5 (wXF_M_emit (by rw [Fq_5.1 95 rfl]; exact h95) hq_7) rfl rfl rfl
  obtain ⟨q_9, hq_9, h⟩ := bd h
  have Fq_9 : Fr (fr_M [96] [97] []) O q_9 := fr_tr Fq_7 (wXF_M_emit (by rw [Fq_7.1 95 rfl]; exact h95) hq_9) rfl rfl rfl
  obtain ⟨q_11, hq_11, h⟩ := bd h
  have Fq_11 : Fr (fr_M [96] [97] []) O q_11 := fr_tr Fq_9 (wXF_M_emit (by rw [Fq_9.1 95 rfl]; exact h95) hq_11) rfl rfl rfl
  obtain ⟨q_13, hq_13, h⟩ := bd h
  have Fq_13 : Fr (fr_M [96] [97] []) O q_13 := fr_tr Fq_11 (wXF_M_emit (by rw [Fq_11.1 95 rfl]; exact h95) hq_13) rfl rfl rfl
  obtain ⟨q_15, hq_15, h⟩ := bd h
  have Fq_15 : Fr (fr_M [96] [97] []) O q_15 := fr_tr Fq_13 (wXF_M_name_M83 (by rw [Fq_13.1 95 rfl]; exact h95) hq_15) rfl rfl rfl
  exact H _ _ _ _ _ _ Fq_15 h
theorem wXG_M_writeInstance {O : cf_O} (h95 : ¬ O.1 95 = 0) : ∀ (n k : Nat) (u1i : Int32) (u2i : Int32) (u3i : Int32) (o0 : cf_O) (r : (cf_O)), Fr (fr_M [96] [97] []) O o0 → gM_writeInstance n k u1i u2i u3i o0 = some r → Fr (fr_M [96] [97] []) O r := by
  intro n
  induction n with
  | zero => intro k u1i u2i u3i o0 r F h; cases h
  | succ n ih =>
    intro k u1i u2i u3i o0 r F h
    cases k with
    | zero => exact wXB_M_writeInstance_57 h95 (rc := gM_writeInstance n) ih F h
    | succ k =>
      cases h
theorem wXF_M_writeInstance {v1 : Int32} {o0 : cf_O} {r : (cf_O)} (h95 : ¬ o0.1 95 = 0) (h : fM_writeInstance v1 o0 = some r) : Fr (fr_M [96] [97] []) o0 r := by
  unfold fM_writeInstance at h
  exact wXB_M_writeInstance_0 h95 (rc := gM_writeInstance cfFU) (fun k u1i u2i u3i o0 r F h => wXG_M_writeInstance h95 cfFU k u1i u2i u3i o0 r F h) fr_rfl h
theorem wXB_M_writeMap_203 {O : cf_O} (h95 : ¬ O.1 95 = 0) {rc : Nat → Int32 → cf_O → Option ((cf_O))} {v1 : Int32} {o0 : cf_O} {r : (cf_O)} (H : ∀ (k : Nat) (u1i : Int32) (o0 : cf_O) (r : (cf_O)), Fr (fr_M [96] [97] []) O o0 → rc k u1i o0 = some r → Fr (fr_M [96] [97] []) O r) (F : Fr (fr_M [96] [97] []) O o0) (h : fM_writeMap_203 rc v1 o0 = some r) : Fr (fr_M [96] [97] []) O r := by
  unfold fM_writeMap_203 at h
  obtain ⟨x_1, _, h⟩ := opq h
  exact H _ _ _ _ F h
theorem wXB_M_writeMap_180 {O : cf_O} (h95 : ¬ O.1 95 = 0) {rc : Nat → Int32 → cf_O → Option ((cf_O))} {v1 : Int32} {o0 : cf_O} {r : (cf_O)} (H : ∀ (k : Nat) (u1i : Int32) (o0 : cf_O) (r : (cf_O)), Fr (fr_M [96] [97] []) O o0 → rc k u1i o0 = some r → Fr (fr_M [96] [97] []) O r) (F : Fr (fr_M [96] [97] []) O o0) (h : fM_writeMap_180 rc v1 o0 = some r) : Fr (fr_M [96] [97] []) O r := by
  unfold fM_writeMap_180 at h
  have h := (ifn h).2
  obtain ⟨x_2, _, h⟩ := opq h
  rcases ifc h with ⟨_, h⟩ | ⟨_, h⟩
  · exact wXB_M_writeMap_203 h95 H F h
  · obtain ⟨q_4, hq_4, h⟩ := bd h
    have Fq_4 : Fr (fr_M [96] [97] []) O q_4 := fr_tr F (wXF_M_emit (by rw [F.1 95 rfl]; exact h95) hq_4) rfl rfl rfl
    obtain ⟨q_6, hq_6, h⟩ := bd h
    have Fq_6 : Fr (fr_M [96] [97] []) O q_6 := fr_tr Fq_4 (wXF_M_emit (by rw [Fq_4.1 95 rfl]; exact h95) hq_6) rfl rfl rfl
    exact wXB_M_writeMap_203 h95 H Fq_6 h
theorem wXB_M_writeMap_140 {O : cf_O} (h95 : ¬ O.1 95 = 0) {rc : Nat → Int32 → cf_O → Option ((cf_O))} {v1 : Int32} {o0 : cf_O} {r : (cf_O)} (H : ∀ (k : Nat) (u1i : Int32) (o0 : cf_O) (r : (cf_O)), Fr (fr_M [96] [97] []) O o0 → rc k u1i o0 = some r → Fr (fr_M [96] [97] []) O r) (F : Fr (fr_M [96] [97] []) O o0) (h : fM_writeMap_140 rc v1 o0 = some r) : Fr (fr_M [96] [97] []) O r := by
  unfold fM_writeMap_140 at h
  obtain ⟨q_1, hq_1, h⟩ := bd h
  have Fq_1 : Fr (fr_M [96] [97] []) O q_1 := fr_tr F (wXF_M_name_M42 (by rw [F.1 95 rfl]; exact h95) hq_1) rfl rfl rfl
  obtain ⟨q_3, hq_3, h⟩ := bd h
  have Fq_3 : Fr (fr_M [96] [97] []) O q_3 := fr_tr Fq_1 (wXF_M_emit (by rw [Fq_1.1 95 rfl]; exact h95) hq_3) rfl rfl rfl
  have h := (ifn h).2
  obtain ⟨x_6, _, h⟩ := opq h
  rcases ifc h with ⟨_, h⟩ | ⟨_, h⟩
  · exact wXB_M_writeMap_180 h95 H Fq_3 h
  · obtain ⟨q_8, hq_8, h⟩ := bd h
    have Fq_8 : Fr (fr_M [96] [97] []) O q_8 := fr_tr Fq_3 (wXF_M_emit (by rw [Fq_3.1 95 rfl]; exact h95) hq_8) rfl rfl rfl
    obtain ⟨q_10, hq_10, h⟩ := bd h
    have Fq_10 : Fr (fr_M [96] [97] []) O q_10 := fr_tr Fq_8 (wXF_M_emit (by rw [Fq_8.1 95 rfl]; exact h95) hq_10) rfl rfl rfl
    exact wXB_M_writeMap_180 h95 H Fq_10 h
theorem wXB_M_writeMap_107 {O : cf_O} (h95 : ¬ O.1 95 = 0) {rc : Nat → Int32 → cf_O → Option ((cf_O))} {v1 : Int32} {o0 : cf_O} {r : (cf_O)} (H : ∀ (k : Nat) (u1i : Int32) (o0 : cf_O) (r : (cf_O)), Fr (fr_M [96] [97] []) O o0 → rc k u1i o0 = some r → Fr (fr_M [96] [97] []) O r) (F : Fr (fr_M [96] [97] []) O o0) (h : fM_writeMap_107 rc v1 o0 = some r) : Fr (fr_M [96] [97] []) O r := by
  unfold fM_writeMap_107 at h
  rcases ifc h with ⟨_, h⟩ | ⟨_, h⟩
  · obtain ⟨q_2, hq_2, h⟩ := bd h
    have Fq_2 : Fr (fr_M [96] [97] []) O q_2 := fr_tr F (wXF_M_word (by rw [F.1 95 rfl]; exact h95) hq_2) rfl rfl rfl
    obtain ⟨q_4, hq_4, h⟩ := bd h
    have Fq_4 : Fr (fr_M [96] [97] []) O q_4 := fr_tr Fq_2 (wXF_M_emit (by rw [Fq_2.1 95 rfl]; exact h95) hq_4) rfl rfl rfl
    rw [← Option.some.inj h]
    exact Fq_4
  · obtain ⟨q_6, hq_6, h⟩ := bd h
    have Fq_6 : Fr (fr_M [96] [97] []) O q_6 := fr_tr F (wXF_M_word (by rw [F.1 95 rfl]; exact h95) hq_6) rfl rfl rfl
    have h := (ifn h).2
    obtain ⟨x_9, _, h⟩ := opq h
    rcases ifc h with ⟨_, h⟩ | ⟨_, h⟩
    · exact wXB_M_writeMap_140 h95 H Fq_6 h
    · have h := (ifn h).2
      obtain ⟨x_12, _, h⟩ := opq h
      obtain ⟨q_13, hq_13, h⟩ := bd h
      have Fq_13 : Fr (fr_M [96] [97] []) O q_13 := fr_tr Fq_6 (wXF_M_literalName (by rw [Fq_6.1 95 rfl]; exact h95) hq_13) rfl rfl rfl
      exact wXB_M_writeMap_140 h95 H Fq_13 h
theorem wXB_M_writeMap_81 {O : cf_O} (h95 : ¬ O.1 95 = 0) {rc : Nat → Int32 → cf_O → Option ((cf_O))} {v1 : Int32} {o0 : cf_O} {r : (cf_O)} (H : ∀ (k : Nat) (u1i : Int32) (o0 : cf_O) (r : (cf_O)), Fr (fr_M [96] [97] []) O o0 → rc k u1i o0 = some r → Fr (fr_M [96] [97] []) O r) (F : Fr (fr_M [96] [97] []) O o0) (h : fM_writeMap_81 rc v1 o0 = some r) : Fr (fr_M [96] [97] []) O r := by
  unfold fM_writeMap_81 at h
  rcases ifc h with ⟨_, h⟩ | ⟨_, h⟩
  · exact H _ _ _ _ F h
  · have h := (ifn h).2
    obtain ⟨x_3, _, h⟩ := opq h
    obtain ⟨q_4, hq_4, h⟩ := bd h
    have Fq_4 : Fr (fr_M [96] [97] []) O q_4 := fr_tr F (wXF_M_writeInstance (by rw [F.1 95 rfl]; exact h95) hq_4) rfl rfl rfl
    obtain ⟨x_6, _, h⟩ := opq h
    exact H _ _ _ _ Fq_4 h
theorem wXB_M_writeMap_49 {O : cf_O} (h95 : ¬ O.1 95 = 0) {rc : Nat → Int32 → cf_O → Option ((cf_O))} {v1 : Int32} {o0 : cf_O} {r : (cf_O)} (H : ∀ (k : Nat) (u1i : Int32) (o0 : cf_O) (r : (cf_O)), Fr (fr_M [96] [97] []) O o0 → rc k u1i o0 = some r → Fr (fr_M [96] [97] []) O r) (F : Fr (fr_M [96] [97] []) O o0) (h : fM_writeMap_49 rc v1 o0 = some r) : Fr (fr_M [96] [97] []) O r := by
  unfold fM_writeMap_49 at h
  rcases ifc h with ⟨_, h⟩ | ⟨_, h⟩
  · obtain ⟨q_2, hq_2, h⟩ := bd h
    have Fq_2 : Fr (fr_M [96] [97] []) O q_2 := fr_tr F (wXF_M_emit (by rw [F.1 95 rfl]; exact h95) hq_2) rfl rfl rfl
    exact H _ _ _ _ Fq_2 h
  · obtain ⟨q_4, hq_4, h⟩ := bd h
    have Fq_4 : Fr (fr_M [96] [97] []) O q_4 := fr_tr F (wXF_M_name_M42 (by rw [F.1 95 rfl]; exact h95) hq_4) rfl rfl rfl
    obtain ⟨x_6, _, h⟩ := opq h
    exact H _ _ _ _ Fq_4 h
theorem wXB_M_writeMap_12 {O : cf_O} (h95 : ¬ O.1 95 = 0) {rc : Nat → Int32 → cf_O → Option ((cf_O))} {v1 : Int32} {o0 : cf_O} {r : (cf_O)} (H : ∀ (k : Nat) (u1i : Int32) (o0 : cf_O) (r : (cf_O)), Fr (fr_M [96] [97] []) O o0 → rc k u1i o0 = some r → Fr (fr_M [96] [97] []) O r) (F : Fr (fr_M [96] [97] []) O o0) (h : fM_writeMap_12 rc v1 o0 = some r) : Fr (fr_M [96] [97] []) O r := by
  unfold fM_writeMap_12 at h
  rcases ifc h with ⟨_, h⟩ | ⟨_, h⟩
  · obtain ⟨q_2, hq_2, h⟩ := bd h
    have Fq_2 : Fr (fr_M [96] [97] []) O q_2 := fr_tr F (wXF_M_emit (by rw [F.1 95 rfl]; exact h95) hq_2) rfl rfl rfl
    obtain ⟨q_4, hq_4, h⟩ := bd h
    have Fq_4 : Fr (fr_M [96] [97] []) O q_4 := fr_tr Fq_2 (wXF_M_word (by rw [Fq_2.1 95 rfl]; exact h95) hq_4) rfl rfl rfl
    exact H _ _ _ _ Fq_4 h
  · obtain ⟨q_6, hq_6, h⟩ := bd h
    have Fq_6 : Fr (fr_M [96] [97] []) O q_6 := fr_tr F (wXF_M_name_M41 (by rw [F.1 95 rfl]; exact h95) hq_6) rfl rfl rfl
    obtain ⟨x_8, _, h⟩ := opq h
    exact H _ _ _ _ Fq_6 h
theorem wXB_M_writeMap_0 {O : cf_O} (h95 : ¬ O.1 95 = 0) {rc : Nat → Int32 → cf_O → Option ((cf_O))} {o0 : cf_O} {r : (cf_O)} (H : ∀ (k : Nat) (u1i : Int32) (o0 : cf_O) (r : (cf_O)), Fr (fr_M [96] [97] []) O o0 → rc k u1i o0 = some r → Fr (fr_M [96] [97] []) O r) (F : Fr (fr_M [96] [97] []) O o0) (h : fM_writeMap_0 rc o0 = some r) : Fr (fr_M [96] [97] []) O r := by
  unfold fM_writeMap_0 at h
  obtain ⟨o_1, eo_1, h⟩ := opq h
  have Fo_1 : Fr (fr_M [96] [97] []) O o_1 := by rw [eo_1]; exact fr_fp F rfl
  obtain ⟨q_2, hq_2, h⟩ := bd h
  have Fq_2 : Fr (fr_M [96] [97] []) O q_2 := fr_tr Fo_1 (wXF_M_word (by rw [Fo_1.1 95 rfl]; exact h95) hq_2) rfl rfl rfl
  exact H _ _ _ _ Fq_2 h
theorem wXG_M_writeMap {O : cf_O} (h95 : ¬ O.1 95 = 0) : ∀ (n k : Nat) (u1i : Int32) (o0 : cf_O) (r : (cf_O)), Fr (fr_M [96] [97] []) O o0 → gM_writeMap n k u1i o0 = some r → Fr (fr_M [96] [97] []) O r := by
  intro n
  induction n with
  | zero => intro k u1i o0 r F h; cases h
  | succ n ih =>
    intro k u1i o0 r F h
    cases k with
    | zero => exact wXB_M_writeMap_12 h95 (rc := gM_writeMap n) ih F h
    | succ k =>
      cases k with
      | zero => exact wXB_M_writeMap_49 h95 (rc := gM_writeMap n) ih F h
      | succ k =>
        cases k with
        | zero => exact wXB_M_writeMap_81 h95 (rc := gM_writeMap n) ih F h
        | succ k =>
          cases k with
          | zero => exact wXB_M_writeMap_107 h95 (rc := gM_writeMap n) ih F h
          | succ k =>
            cases h
theorem wXF_M_writeMap {o0 : cf_O} {r : (cf_O)} (h95 : ¬ o0.1 95 = 0) (h : fM_writeMap o0 = some r) : Fr (fr_M [96] [97] []) o0 r := by
  unfold fM_writeMap at h
  exact wXB_M_writeMap_0 h95 (rc := gM_writeMap cfFU) (fun k u1i o0 r F h => wXG_M_writeMap h95 cfFU k u1i o0 r F h) fr_rfl h
