theorem wYB_M_emit_0 {O : cf_O} (h95 : O.1 95 = 0) {v1 : Int64} {o0 : cf_O} {r : (cf_O)} (F : Fr (fr_M [76] [77] []) O o0) (h : fM_emit_0 v1 o0 = some r) : Fr (fr_M [76] [77] []) O r := by
  unfold fM_emit_0 at h
  rcases ifc h with ⟨_, h⟩ | ⟨z9, _⟩
  · obtain ⟨x_2, _, h⟩ := opq h
    have h := (ifn h).2
    obtain ⟨o_4, eo_4, h⟩ := opq h
    have Fo_4 : Fr (fr_M [76] [77] []) O o_4 := by rw [eo_4]; exact fr_xp F rfl
    obtain ⟨x_5, _, h⟩ := opq h
    obtain ⟨o_6, eo_6, h⟩ := opq h
    have Fo_6 : Fr (fr_M [76] [77] []) O o_6 := by rw [eo_6]; exact fr_fp Fo_4 rfl
    rw [← Option.some.inj h]
    exact Fo_6
  · rw [F.1 95 rfl] at z9; exact absurd h95 z9
theorem wYF_M_emit {v1 : Int64} {o0 : cf_O} {r : (cf_O)} (h95 : o0.1 95 = 0) (h : fM_emit v1 o0 = some r) : Fr (fr_M [76] [77] []) o0 r := by
  unfold fM_emit at h
  exact wYB_M_emit_0 h95 fr_rfl h
theorem wYB_M_name_M41_39 {O : cf_O} (h95 : O.1 95 = 0) {rc : Nat → Int32 → Int32 → cf_O → Option ((cf_O))} {v2 : Int32} {v3 : Int32} {o0 : cf_O} {r : (cf_O)} (H : ∀ (k : Nat) (u2i : Int32) (u3i : Int32) (o0 : cf_O) (r : (cf_O)), Fr (fr_M [76] [77] []) O o0 → rc k u2i u3i o0 = some r → Fr (fr_M [76] [77] []) O r) (F : Fr (fr_M [76] [77] []) O o0) (h : fM_name_M41_39 rc v2 v3 o0 = some r) : Fr (fr_M [76] [77] []) O r := by
  unfold fM_name_M41_39 at h
  obtain ⟨x_1, _, h⟩ := opq h
  exact H _ _ _ _ _ F h
theorem wYB_M_name_M41_9 {O : cf_O} (h95 : O.1 95 = 0) {rc : Nat → Int32 → Int32 → cf_O → Option ((cf_O))} {v2 : Int32} {v3 : Int32} {o0 : cf_O} {r : (cf_O)} (H : ∀ (k : Nat) (u2i : Int32) (u3i : Int32) (o0 : cf_O) (r : (cf_O)), Fr (fr_M [76] [77] []) O o0 → rc k u2i u3i o0 = some r → Fr (fr_M [76] [77] []) O r) (F : Fr (fr_M [76] [77] []) O o0) (h : fM_name_M41_9 rc v2 v3 o0 = some r) : Fr (fr_M [76] [77] []) O r := by
  unfold fM_name_M41_9 at h
  rcases ifc h with ⟨_, h⟩ | ⟨_, h⟩
  · rw [← Option.some.inj h]
    exact F
  · obtain ⟨x_2, _, h⟩ := opq h
    obtain ⟨x_3, _, h⟩ := opq h
    have h := (ifn h).2
    obtain ⟨x_5, _, h⟩ := opq h
    rcases ifc h with ⟨_, h⟩ | ⟨_, h⟩
    · exact wYB_M_name_M41_39 h95 H F h
    · obtain ⟨x_7, _, h⟩ := opq h
      obtain ⟨x_8, _, h⟩ := opq h
      have h := (ifn h).2
      obtain ⟨x_10, _, h⟩ := opq h
      obtain ⟨x_11, _, h⟩ := opq h
      obtain ⟨q_12, hq_12, h⟩ := bd h
      have Fq_12 : Fr (fr_M [76] [77] []) O q_12 := fr_tr F (wYF_M_emit (by rw [F.1 95 rfl]; exact h95) hq_12) rfl rfl rfl
      exact wYB_M_name_M41_39 h95 H Fq_12 h
theorem wYB_M_name_M41_0 {O : cf_O} (h95 : O.1 95 = 0) {rc : Nat → Int32 → Int32 → cf_O → Option ((cf_O))} {v2 : Int32} {o0 : cf_O} {r : (cf_O)} (H : ∀ (k : Nat) (u2i : Int32) (u3i : Int32) (o0 : cf_O) (r : (cf_O)), Fr (fr_M [76] [77] []) O o0 → rc k u2i u3i o0 = some r → Fr (fr_M [76] [77] []) O r) (F : Fr (fr_M [76] [77] []) O o0) (h : fM_name_M41_0 rc v2 o0 = some r) : Fr (fr_M [76] [77] []) O r := by
  unfold fM_name_M41_0 at h
  obtain ⟨q_1, hq_1, h⟩ := bd h
  have Fq_1 : Fr (fr_M [76] [77] []) O q_1 := fr_tr F (wYF_M_emit (by rw [F.1 95 rfl]; exact h95) hq_1) rfl rfl rfl
  exact H _ _ _ _ _ Fq_1 h
theorem wYG_M_name_M41 {O : cf_O} (h95 : O.1 95 = 0) : ∀ (n k : Nat) (u2i : Int32) (u3i : Int32) (o0 : cf_O) (r : (cf_O)), Fr (fr_M [76] [77] []) O o0 → gM_name_M41 n k u2i u3i o0 = some r → Fr (fr_M [76] [77] []) O r := by
  intro n
  induction n with
  | zero => intro k u2i u3i o0 r F h; cases h
  | succ n ih =>
    intro k u2i u3i o0 r F h
    cases k with
    | zero => exact wYB_M_name_M41_9 h95 (rc := gM_name_M41 n) ih F h
    | succ k =>
      cases h
theorem wYF_M_name_M41 {v2 : Int32} {o0 : cf_O} {r : (cf_O)} (h95 : o0.1 95 = 0) (h : fM_name_M41 v2 o0 = some r) : Fr (fr_M [76] [77] []) o0 r := by
  unfold fM_name_M41 at h
  exact wYB_M_name_M41_0 h95 (rc := gM_name_M41 cfFU) (fun k u2i u3i o0 r F h => wYG_M_name_M41 h95 cfFU k u2i u3i o0 r F h) fr_rfl h
theorem wYB_M_name_M42_39 {O : cf_O} (h95 : O.1 95 = 0) {rc : Nat → Int32 → Int32 → cf_O → Option ((cf_O))} {v2 : Int32} {v3 : Int32} {o0 : cf_O} {r : (cf_O)} (H : ∀ (k : Nat) (u2i : Int32) (u3i : Int32) (o0 : cf_O) (r : (cf_O)), Fr (fr_M [76] [77] []) O o0 → rc k u2i u3i o0 = some r → Fr (fr_M [76] [77] []) O r) (F : Fr (fr_M [76] [77] []) O o0) (h : fM_name_M42_39 rc v2 v3 o0 = some r) : Fr (fr_M [76] [77] []) O r := by
  unfold fM_name_M42_39 at h
  obtain ⟨x_1, _, h⟩ := opq h
  exact H _ _ _ _ _ F h
theorem wYB_M_name_M42_9 {O : cf_O} (h95 : O.1 95 = 0) {rc : Nat → Int32 → Int32 → cf_O → Option ((cf_O))} {v2 : Int32} {v3 : Int32} {o0 : cf_O} {r : (cf_O)} (H : ∀ (k : Nat) (u2i : Int32) (u3i : Int32) (o0 : cf_O) (r : (cf_O)), Fr (fr_M [76] [77] []) O o0 → rc k u2i u3i o0 = some r → Fr (fr_M [76] [77] []) O r) (F : Fr (fr_M [76] [77] []) O o0) (h : fM_name_M42_9 rc v2 v3 o0 = some r) : Fr (fr_M [76] [77] []) O r := by
  unfold fM_name_M42_9 at h
  rcases ifc h with ⟨_, h⟩ | ⟨_, h⟩
  · rw [← Option.some.inj h]
    exact F
  · obtain ⟨x_2, _, h⟩ := opq h
    obtain ⟨x_3, _, h⟩ := opq h
    have h := (ifn h).2
    obtain ⟨x_5, _, h⟩ := opq h
    rcases ifc h with ⟨_, h⟩ | ⟨_, h⟩
    · exact wYB_M_name_M42_39 h95 H F h
    · obtain ⟨x_7, _, h⟩ := opq h
      obtain ⟨x_8, _, h⟩ := opq h
      have h := (ifn h).2
      obtain ⟨x_10, _, h⟩ := opq h
      obtain ⟨x_11, _, h⟩ := opq h
      obtain ⟨q_12, hq_12, h⟩ := bd h
      have Fq_12 : Fr (fr_M [76] [77] []) O q_12 := fr_tr F (wYF_M_emit (by rw [F.1 95 rfl]; exact h95) hq_12) rfl rfl rfl
      exact wYB_M_name_M42_39 h95 H Fq_12 h
theorem wYB_M_name_M42_0 {O : cf_O} (h95 : O.1 95 = 0) {rc : Nat → Int32 → Int32 → cf_O → Option ((cf_O))} {v2 : Int32} {o0 : cf_O} {r : (cf_O)} (H : ∀ (k : Nat) (u2i : Int32) (u3i : Int32) (o0 : cf_O) (r : (cf_O)), Fr (fr_M [76] [77] []) O o0 → rc k u2i u3i o0 = some r → Fr (fr_M [76] [77] []) O r) (F : Fr (fr_M [76] [77] []) O o0) (h : fM_name_M42_0 rc v2 o0 = some r) : Fr (fr_M [76] [77] []) O r := by
  unfold fM_name_M42_0 at h
  obtain ⟨q_1, hq_1, h⟩ := bd h
  have Fq_1 : Fr (fr_M [76] [77] []) O q_1 := fr_tr F (wYF_M_emit (by rw [F.1 95 rfl]; exact h95) hq_1) rfl rfl rfl
  exact H _ _ _ _ _ Fq_1 h
theorem wYG_M_name_M42 {O : cf_O} (h95 : O.1 95 = 0) : ∀ (n k : Nat) (u2i : Int32) (u3i : Int32) (o0 : cf_O) (r : (cf_O)), Fr (fr_M [76] [77] []) O o0 → gM_name_M42 n k u2i u3i o0 = some r → Fr (fr_M [76] [77] []) O r := by
  intro n
  induction n with
  | zero => intro k u2i u3i o0 r F h; cases h
  | succ n ih =>
    intro k u2i u3i o0 r F h
    cases k with
    | zero => exact wYB_M_name_M42_9 h95 (rc := gM_name_M42 n) ih F h
    | succ k =>
      cases h
theorem wYF_M_name_M42 {v2 : Int32} {o0 : cf_O} {r : (cf_O)} (h95 : o0.1 95 = 0) (h : fM_name_M42 v2 o0 = some r) : Fr (fr_M [76] [77] []) o0 r := by
  unfold fM_name_M42 at h
  exact wYB_M_name_M42_0 h95 (rc := gM_name_M42 cfFU) (fun k u2i u3i o0 r F h => wYG_M_name_M42 h95 cfFU k u2i u3i o0 r F h) fr_rfl h
theorem wYB_M_nodeName_67 {O : cf_O} (h95 : O.1 95 = 0) {rc : Nat → Int32 → Int32 → cf_O → Option ((cf_O))} {v1 : Int32} {v2 : Int32} {o0 : cf_O} {r : (cf_O)} (H : ∀ (k : Nat) (u1i : Int32) (u2i : Int32) (o0 : cf_O) (r : (cf_O)), Fr (fr_M [76] [77] []) O o0 → rc k u1i u2i o0 = some r → Fr (fr_M [76] [77] []) O r) (F : Fr (fr_M [76] [77] []) O o0) (h : fM_nodeName_67 rc v1 v2 o0 = some r) : Fr (fr_M [76] [77] []) O r := by
  unfold fM_nodeName_67 at h
  obtain ⟨x_1, _, h⟩ := opq h
  exact H _ _ _ _ _ F h
theorem wYB_M_nodeName_44 {O : cf_O} (h95 : O.1 95 = 0) {rc : Nat → Int32 → Int32 → cf_O → Option ((cf_O))} {v1 : Int32} {v2 : Int32} {o0 : cf_O} {r : (cf_O)} (H : ∀ (k : Nat) (u1i : Int32) (u2i : Int32) (o0 : cf_O) (r : (cf_O)), Fr (fr_M [76] [77] []) O o0 → rc k u1i u2i o0 = some r → Fr (fr_M [76] [77] []) O r) (F : Fr (fr_M [76] [77] []) O o0) (h : fM_nodeName_44 rc v1 v2 o0 = some r) : Fr (fr_M [76] [77] []) O r := by
  unfold fM_nodeName_44 at h
  rcases ifc h with ⟨_, h⟩ | ⟨_, h⟩
  · rw [← Option.some.inj h]
    exact F
  · rcases ifc h with ⟨_, h⟩ | ⟨_, h⟩
    · exact wYB_M_nodeName_67 h95 H F h
    · have h := (ifn h).2
      obtain ⟨x_4, _, h⟩ := opq h
      obtain ⟨x_5, _, h⟩ := opq h
      obtain ⟨x_6, _, h⟩ := opq h
      obtain ⟨x_7, _, h⟩ := opq h
      obtain ⟨q_8, hq_8, h⟩ := bd h
      have Fq_8 : Fr (fr_M [76] [77] []) O q_8 := fr_tr F (wYF_M_emit (by rw [F.1 95 rfl]; exact h95) hq_8) rfl rfl rfl
      exact wYB_M_nodeName_67 h95 H Fq_8 h
theorem wYB_M_nodeName_0 {O : cf_O} (h95 : O.1 95 = 0) {rc : Nat → Int32 → Int32 → cf_O → Option ((cf_O))} {v1 : Int32} {o0 : cf_O} {r : (cf_O)} (H : ∀ (k : Nat) (u1i : Int32) (u2i : Int32) (o0 : cf_O) (r : (cf_O)), Fr (fr_M [76] [77] []) O o0 → rc k u1i u2i o0 = some r → Fr (fr_M [76] [77] []) O r) (F : Fr (fr_M [76] [77] []) O o0) (h : fM_nodeName_0 rc v1 o0 = some r) : Fr (fr_M [76] [77] []) O r := by
  unfold fM_nodeName_0 at h
  obtain ⟨q_1, _, h⟩ := bd h
  rcases ifc h with ⟨_, h⟩ | ⟨_, h⟩
  · obtain ⟨q_5, hq_5, h⟩ := bd h
    have Fq_5 : Fr (fr_M [76] [77] []) O q_5 := fr_tr F (wYF_M_emit (by rw [F.1 95 rfl]; exact h95) hq_5) rfl rfl rfl
    obtain ⟨q_7, hq_7, h⟩ := bd h
    have Fq_7 : Fr (fr_M [76] [77] []) O q_7 := fr_tr Fq_5 (wYF_M_emit (by rw [Fq_5.1 95 rfl]; exact h95) hq_7) rfl rfl rfl
    obtain ⟨q_9, hq_9, h⟩ := bd h
    have Fq_9 : Fr (fr_M [76] [77] []) O q_9 := fr_tr Fq_7 (wYF_M_emit (by rw [Fq_7.1 95 rfl]; exact h95) hq_9) rfl rfl rfl
    exact H _ _ _ _ _ Fq_9 h
  · obtain ⟨x_11, _, h⟩ := opq h
    obtain ⟨q_12, hq_12, h⟩ := bd h
    have Fq_12 : Fr (fr_M [76] [77] []) O q_12 := fr_tr F (wYF_M_name_M41 (by rw [F.1 95 rfl]; exact h95) hq_12) rfl rfl rfl
    rw [← Option.some.inj h]
    exact Fq_12
theorem wYG_M_nodeName {O : cf_O} (h95 : O.1 95 = 0) : ∀ (n k : Nat) (u1i : Int32) (u2i : Int32) (o0 : cf_O) (r : (cf_O)), Fr (fr_M [76] [77] []) O o0 → gM_nodeName n k u1i u2i o0 = some r → Fr (fr_M [76] [77] []) O r := by
  intro n
  induction n with
  | zero => intro k u1i u2i o0 r F h; cases h
  | succ n ih =>
    intro k u1i u2i o0 r F h
    cases k with
    | zero => exact wYB_M_nodeName_44 h95 (rc := gM_nodeName n) ih F h
    | succ k =>
      cases h
theorem wYF_M_nodeName {v1 : Int32} {o0 : cf_O} {r : (cf_O)} (h95 : o0.1 95 = 0) (h : fM_nodeName v1 o0 = some r) : Fr (fr_M [76] [77] []) o0 r := by
  unfold fM_nodeName at h
  exact wYB_M_nodeName_0 h95 (rc := gM_nodeName cfFU) (fun k u1i u2i o0 r F h => wYG_M_nodeName h95 cfFU k u1i u2i o0 r F h) fr_rfl h
theorem wYB_M_word_14 {O : cf_O} (h95 : O.1 95 = 0) {rc : Nat → Int64 → cf_O → Option ((cf_O))} {v2 : Int64} {o0 : cf_O} {r : (cf_O)} (H : ∀ (k : Nat) (u2l : Int64) (o0 : cf_O) (r : (cf_O)), Fr (fr_M [76] [77] []) O o0 → rc k u2l o0 = some r → Fr (fr_M [76] [77] []) O r) (F : Fr (fr_M [76] [77] []) O o0) (h : fM_word_14 rc v2 o0 = some r) : Fr (fr_M [76] [77] []) O r := by
  unfold fM_word_14 at h
  obtain ⟨x_1, _, h⟩ := opq h
  rcases ifc h with ⟨_, h⟩ | ⟨_, h⟩
  · rw [← Option.some.inj h]
    exact F
  · obtain ⟨x_3, _, h⟩ := opq h
    obtain ⟨x_4, _, h⟩ := opq h
    obtain ⟨q_5, hq_5, h⟩ := bd h
    have Fq_5 : Fr (fr_M [76] [77] []) O q_5 := fr_tr F (wYF_M_emit (by rw [F.1 95 rfl]; exact h95) hq_5) rfl rfl rfl
    obtain ⟨x_7, _, h⟩ := opq h
    exact H _ _ _ _ Fq_5 h
theorem wYB_M_word_0 {O : cf_O} (h95 : O.1 95 = 0) {rc : Nat → Int64 → cf_O → Option ((cf_O))} {v1 : Int32} {o0 : cf_O} {r : (cf_O)} (H : ∀ (k : Nat) (u2l : Int64) (o0 : cf_O) (r : (cf_O)), Fr (fr_M [76] [77] []) O o0 → rc k u2l o0 = some r → Fr (fr_M [76] [77] []) O r) (F : Fr (fr_M [76] [77] []) O o0) (h : fM_word_0 rc v1 o0 = some r) : Fr (fr_M [76] [77] []) O r := by
  unfold fM_word_0 at h
  obtain ⟨q_1, hq_1, h⟩ := bd h
  have Fq_1 : Fr (fr_M [76] [77] []) O q_1 := fr_tr F (wYF_M_emit (by rw [F.1 95 rfl]; exact h95) hq_1) rfl rfl rfl
  have h := (ifn h).2
  obtain ⟨x_4, _, h⟩ := opq h
  exact H _ _ _ _ Fq_1 h
theorem wYG_M_word {O : cf_O} (h95 : O.1 95 = 0) : ∀ (n k : Nat) (u2l : Int64) (o0 : cf_O) (r : (cf_O)), Fr (fr_M [76] [77] []) O o0 → gM_word n k u2l o0 = some r → Fr (fr_M [76] [77] []) O r := by
  intro n
  induction n with
  | zero => intro k u2l o0 r F h; cases h
  | succ n ih =>
    intro k u2l o0 r F h
    cases k with
    | zero => exact wYB_M_word_14 h95 (rc := gM_word n) ih F h
    | succ k =>
      cases h
theorem wYF_M_word {v1 : Int32} {o0 : cf_O} {r : (cf_O)} (h95 : o0.1 95 = 0) (h : fM_word v1 o0 = some r) : Fr (fr_M [76] [77] []) o0 r := by
  unfold fM_word at h
  exact wYB_M_word_0 h95 (rc := gM_word cfFU) (fun k u2l o0 r F h => wYG_M_word h95 cfFU k u2l o0 r F h) fr_rfl h
theorem wYB_M_writeCell_133 {O : cf_O} (h95 : O.1 95 = 0) {rc : Nat → Int32 → Int32 → Int32 → Int32 → Int32 → cf_O → Option ((cf_O))} {v1 : Int32} {v3 : Int32} {v4 : Int32} {o0 : cf_O} {r : (cf_O)} (H : ∀ (k : Nat) (u1i : Int32) (u2i : Int32) (u3i : Int32) (u4i : Int32) (u5i : Int32) (o0 : cf_O) (r : (cf_O)), Fr (fr_M [76] [75, 77] []) O o0 → rc k u1i u2i u3i u4i u5i o0 = some r → Fr (fr_M [76] [75, 77] []) O r) (F : Fr (fr_M [76] [75, 77] []) O o0) (h : fM_writeCell_133 rc v1 v3 v4 o0 = some r) : Fr (fr_M [76] [75, 77] []) O r := by
  unfold fM_writeCell_133 at h
  obtain ⟨x_1, _, h⟩ := opq h
  exact H _ _ _ _ _ _ _ _ F h
theorem wYB_M_writeCell_85 {O : cf_O} (h95 : O.1 95 = 0) {rc : Nat → Int32 → Int32 → Int32 → Int32 → Int32 → cf_O → Option ((cf_O))} {v1 : Int32} {v3 : Int32} {v4 : Int32} {v5 : Int32} {o0 : cf_O} {r : (cf_O)} (H : ∀ (k : Nat) (u1i : Int32) (u2i : Int32) (u3i : Int32) (u4i : Int32) (u5i : Int32) (o0 : cf_O) (r : (cf_O)), Fr (fr_M [76] [75, 77] []) O o0 → rc k u1i u2i u3i u4i u5i o0 = some r → Fr (fr_M [76] [75, 77] []) O r) (F : Fr (fr_M [76] [75, 77] []) O o0) (h : fM_writeCell_85 rc v1 v3 v4 v5 o0 = some r) : Fr (fr_M [76] [75, 77] []) O r := by
  unfold fM_writeCell_85 at h
  rcases ifc h with ⟨_, h⟩ | ⟨_, h⟩
  · obtain ⟨q_2, hq_2, h⟩ := bd h
    have Fq_2 : Fr (fr_M [76] [75, 77] []) O q_2 := fr_tr F (wYF_M_emit (by rw [F.1 95 rfl]; exact h95) hq_2) rfl rfl rfl
    obtain ⟨q_4, hq_4, h⟩ := bd h
    have Fq_4 : Fr (fr_M [76] [75, 77] []) O q_4 := fr_tr Fq_2 (wYF_M_emit (by rw [Fq_2.1 95 rfl]; exact h95) hq_4) rfl rfl rfl
    obtain ⟨q_6, hq_6, h⟩ := bd h
    have Fq_6 : Fr (fr_M [76] [75, 77] []) O q_6 := fr_tr Fq_4 (wYF_M_emit (by rw [Fq_4.1 95 rfl]; exact h95) hq_6) rfl rfl rfl
    exact wYB_M_writeCell_133 h95 H Fq_6 h
  · obtain ⟨x_8, _, h⟩ := opq h
    obtain ⟨x_9, _, h⟩ := opq h
    obtain ⟨x_10, _, h⟩ := opq h
    obtain ⟨x_11, _, h⟩ := opq h
    obtain ⟨q_12, hq_12, h⟩ := bd h
    have Fq_12 : Fr (fr_M [76] [75, 77] []) O q_12 := fr_tr F (wYF_M_emit (by rw [F.1 95 rfl]; exact h95) hq_12) rfl rfl rfl
    obtain ⟨x_14, _, h⟩ := opq h
    exact H _ _ _ _ _ _ _ _ Fq_12 h
theorem wYB_M_writeCell_64 {O : cf_O} (h95 : O.1 95 = 0) {rc : Nat → Int32 → Int32 → Int32 → Int32 → Int32 → cf_O → Option ((cf_O))} {v1 : Int32} {v3 : Int32} {v4 : Int32} {o0 : cf_O} {r : (cf_O)} (H : ∀ (k : Nat) (u1i : Int32) (u2i : Int32) (u3i : Int32) (u4i : Int32) (u5i : Int32) (o0 : cf_O) (r : (cf_O)), Fr (fr_M [76] [75, 77] []) O o0 → rc k u1i u2i u3i u4i u5i o0 = some r → Fr (fr_M [76] [75, 77] []) O r) (F : Fr (fr_M [76] [75, 77] []) O o0) (h : fM_writeCell_64 rc v1 v3 v4 o0 = some r) : Fr (fr_M [76] [75, 77] []) O r := by
  unfold fM_writeCell_64 at h
  obtain ⟨x_1, _, h⟩ := opq h
  rcases ifc h with ⟨_, h⟩ | ⟨_, h⟩
  · rw [← Option.some.inj h]
    exact F
  · obtain ⟨q_3, hq_3, h⟩ := bd h
    have Fq_3 : Fr (fr_M [76] [75, 77] []) O q_3.2 := fr_tr F (wF_M_cellValue hq_3) rfl rfl rfl
    rcases ifc h with ⟨_, h⟩ | ⟨_, h⟩
    · exact wYB_M_writeCell_133 h95 H Fq_3 h
    · exact H _ _ _ _ _ _ _ _ Fq_3 h
theorem wYB_M_writeCell_22 {O : cf_O} (h95 : O.1 95 = 0) {rc : Nat → Int32 → Int32 → Int32 → Int32 → Int32 → cf_O → Option ((cf_O))} {v1 : Int32} {v2 : Int32} {v3 : Int32} {v4 : Int32} {o0 : cf_O} {r : (cf_O)} (H : ∀ (k : Nat) (u1i : Int32) (u2i : Int32) (u3i : Int32) (u4i : Int32) (u5i : Int32) (o0 : cf_O) (r : (cf_O)), Fr (fr_M [76] [75, 77] []) O o0 → rc k u1i u2i u3i u4i u5i o0 = some r → Fr (fr_M [76] [75, 77] []) O r) (F : Fr (fr_M [76] [75, 77] []) O o0) (h : fM_writeCell_22 rc v1 v2 v3 v4 o0 = some r) : Fr (fr_M [76] [75, 77] []) O r := by
  unfold fM_writeCell_22 at h
  rcases ifc h with ⟨_, h⟩ | ⟨_, h⟩
  · obtain ⟨q_2, hq_2, h⟩ := bd h
    have Fq_2 : Fr (fr_M [76] [75, 77] []) O q_2 := fr_tr F (wYF_M_nodeName (by rw [F.1 95 rfl]; exact h95) hq_2) rfl rfl rfl
    obtain ⟨q_4, hq_4, h⟩ := bd h
    have Fq_4 : Fr (fr_M [76] [75, 77] []) O q_4 := fr_tr Fq_2 (wYF_M_emit (by rw [Fq_2.1 95 rfl]; exact h95) hq_4) rfl rfl rfl
    exact H _ _ _ _ _ _ _ _ Fq_4 h
  · obtain ⟨x_6, _, h⟩ := opq h
    obtain ⟨x_7, _, h⟩ := opq h
    have h := (ifn h).2
    obtain ⟨x_9, _, h⟩ := opq h
    obtain ⟨q_10, hq_10, h⟩ := bd h
    have Fq_10 : Fr (fr_M [76] [75, 77] []) O q_10 := fr_tr F (wYF_M_nodeName (by rw [F.1 95 rfl]; exact h95) hq_10) rfl rfl rfl
    obtain ⟨x_12, _, h⟩ := opq h
    exact H _ _ _ _ _ _ _ _ Fq_10 h
theorem wYB_M_writeCell_0 {O : cf_O} (h95 : O.1 95 = 0) {rc : Nat → Int32 → Int32 → Int32 → Int32 → Int32 → cf_O → Option ((cf_O))} {v1 : Int32} {o0 : cf_O} {r : (cf_O)} (H : ∀ (k : Nat) (u1i : Int32) (u2i : Int32) (u3i : Int32) (u4i : Int32) (u5i : Int32) (o0 : cf_O) (r : (cf_O)), Fr (fr_M [76] [75, 77] []) O o0 → rc k u1i u2i u3i u4i u5i o0 = some r → Fr (fr_M [76] [75, 77] []) O r) (F : Fr (fr_M [76] [75, 77] []) O o0) (h : fM_writeCell_0 rc v1 o0 = some r) : Fr (fr_M [76] [75, 77] []) O r := by
  unfold fM_writeCell_0 at h
  have h := (ifn h).2
  obtain ⟨x_2, _, h⟩ := opq h
  have h := (ifn h).2
  obtain ⟨x_4, _, h⟩ := opq h
  obtain ⟨q_5, hq_5, h⟩ := bd h
  have Fq_5 : Fr (fr_M [76] [75, 77] []) O q_5 := fr_tr F (wYF_M_word (by rw [F.1 95 rfl]; exact h95) hq_5) rfl rfl rfl
  exact H _ _ _ _ _ _ _ _ Fq_5 h
theorem wYG_M_writeCell {O : cf_O} (h95 : O.1 95 = 0) : ∀ (n k : Nat) (u1i : Int32) (u2i : Int32) (u3i : Int32) (u4i : Int32) (u5i : Int32) (o0 : cf_O) (r : (cf_O)), Fr (fr_M [76] [75, 77] []) O o0 → gM_writeCell n k u1i u2i u3i u4i u5i o0 = some r → Fr (fr_M [76] [75, 77] []) O r := by
  intro n
  induction n with
  | zero => intro k u1i u2i u3i u4i u5i o0 r F h; cases h
  | succ n ih =>
    intro k u1i u2i u3i u4i u5i o0 r F h
    cases k with
    | zero => exact wYB_M_writeCell_22 h95 (rc := gM_writeCell n) ih F h
    | succ k =>
      cases k with
      | zero => exact wYB_M_writeCell_64 h95 (rc := gM_writeCell n) ih F h
      | succ k =>
        cases k with
        | zero => exact wYB_M_writeCell_85 h95 (rc := gM_writeCell n) ih F h
        | succ k =>
          cases h
theorem wYF_M_writeCell {v1 : Int32} {o0 : cf_O} {r : (cf_O)} (h95 : o0.1 95 = 0) (h : fM_writeCell v1 o0 = some r) : Fr (fr_M [76] [75, 77] []) o0 r := by
  unfold fM_writeCell at h
  exact wYB_M_writeCell_0 h95 (rc := gM_writeCell cfFU) (fun k u1i u2i u3i u4i u5i o0 r F h => wYG_M_writeCell h95 cfFU k u1i u2i u3i u4i u5i o0 r F h) fr_rfl h
theorem wYB_M_writeOutput_120 {O : cf_O} (h95 : O.1 95 = 0) {o0 : cf_O} {r : (cf_O)} (F : Fr (fr_M [76] [77] []) O o0) (h : fM_writeOutput_120 o0 = some r) : Fr (fr_M [76] [77] []) O r := by
  unfold fM_writeOutput_120 at h
  rw [← Option.some.inj h]
  exact F
theorem wYB_M_writeOutput_75 {O : cf_O} (h95 : O.1 95 = 0) {s1 : Int64} {o0 : cf_O} {r : (cf_O)} (F : Fr (fr_M [76] [77] []) O o0) (h : fM_writeOutput_75 s1 o0 = some r) : Fr (fr_M [76] [77] []) O r := by
  unfold fM_writeOutput_75 at h
  obtain ⟨q_1, hq_1, h⟩ := bd h
  have Fq_1 : Fr (fr_M [76] [77] []) O q_1 := fr_tr F (wYF_M_emit (by rw [F.1 95 rfl]; exact h95) hq_1) rfl rfl rfl
  obtain ⟨q_3, hq_3, h⟩ := bd h
  have Fq_3 : Fr (fr_M [76] [77] []) O q_3 := fr_tr Fq_1 (wYF_M_emit (by rw [Fq_1.1 95 rfl]; exact h95) hq_3) rfl rfl rfl
  obtain ⟨q_5, hq_5, h⟩ := bd h
  have Fq_5 : Fr (fr_M [76] [77] []) O q_5 := fr_tr Fq_3 (wYF_M_emit (by rw [Fq_3.1 95 rfl]; exact h95) hq_5) rfl rfl rfl
  obtain ⟨q_7, hq_7, h⟩ := bd h
  have Fq_7 : Fr (fr_M [76] [77] []) O q_7 := fr_tr Fq_5 (wYF_M_emit (by rw [Fq_5.1 95 rfl]; exact h95) hq_7) rfl rfl rfl
  exact wYB_M_writeOutput_120 h95 Fq_7 h
theorem wYB_M_writeOutput_41 {O : cf_O} (h95 : O.1 95 = 0) {v1 : Int32} {v2 : Int32} {v3 : Int32} {o0 : cf_O} {r : (cf_O)} (F : Fr (fr_M [76] [77] []) O o0) (h : fM_writeOutput_41 v1 v2 v3 o0 = some r) : Fr (fr_M [76] [77] []) O r := by
  unfold fM_writeOutput_41 at h
  obtain ⟨q_1, hq_1, h⟩ := bd h
  have Fq_1 : Fr (fr_M [76] [77] []) O q_1 := fr_tr F (wYF_M_name_M42 (by rw [F.1 95 rfl]; exact h95) hq_1) rfl rfl rfl
  obtain ⟨q_3, hq_3, h⟩ := bd h
  have Fq_3 : Fr (fr_M [76] [77] []) O q_3 := fr_tr Fq_1 (wYF_M_emit (by rw [Fq_1.1 95 rfl]; exact h95) hq_3) rfl rfl rfl
  rcases ifc h with ⟨_, h⟩ | ⟨_, h⟩
  · rcases ifc h with ⟨_, h⟩ | ⟨_, h⟩
    · exact wYB_M_writeOutput_120 h95 Fq_3 h
    · obtain ⟨q_7, hq_7, h⟩ := bd h
      have Fq_7 : Fr (fr_M [76] [77] []) O q_7 := fr_tr Fq_3 (wYF_M_emit (by rw [Fq_3.1 95 rfl]; exact h95) hq_7) rfl rfl rfl
      obtain ⟨q_9, hq_9, h⟩ := bd h
      have Fq_9 : Fr (fr_M [76] [77] []) O q_9 := fr_tr Fq_7 (wYF_M_emit (by rw [Fq_7.1 95 rfl]; exact h95) hq_9) rfl rfl rfl
      exact wYB_M_writeOutput_120 h95 Fq_9 h
  · rcases ifc h with ⟨_, h⟩ | ⟨_, h⟩
    · exact wYB_M_writeOutput_75 h95 Fq_3 h
    · exact wYB_M_writeOutput_75 h95 Fq_3 h
theorem wYB_M_writeOutput_26 {O : cf_O} (h95 : O.1 95 = 0) {v1 : Int32} {v2 : Int32} {s0 : Int32} {o0 : cf_O} {r : (cf_O)} (F : Fr (fr_M [76] [77] []) O o0) (h : fM_writeOutput_26 v1 v2 s0 o0 = some r) : Fr (fr_M [76] [77] []) O r := by
  unfold fM_writeOutput_26 at h
  obtain ⟨q_1, hq_1, h⟩ := bd h
  have Fq_1 : Fr (fr_M [76] [77] []) O q_1 := fr_tr F (wYF_M_word (by rw [F.1 95 rfl]; exact h95) hq_1) rfl rfl rfl
  rcases ifc h with ⟨_, h⟩ | ⟨_, h⟩
  · exact wYB_M_writeOutput_41 h95 Fq_1 h
  · obtain ⟨q_4, hq_4, h⟩ := bd h
    have Fq_4 : Fr (fr_M [76] [77] []) O q_4 := fr_tr Fq_1 (wYF_M_nodeName (by rw [Fq_1.1 95 rfl]; exact h95) hq_4) rfl rfl rfl
    exact wYB_M_writeOutput_41 h95 Fq_4 h
theorem wYB_M_writeOutput_0 {O : cf_O} (h95 : O.1 95 = 0) {v1 : Int32} {o0 : cf_O} {r : (cf_O)} (F : Fr (fr_M [76] [77] []) O o0) (h : fM_writeOutput_0 v1 o0 = some r) : Fr (fr_M [76] [77] []) O r := by
  unfold fM_writeOutput_0 at h
  have h := (ifn h).2
  obtain ⟨x_2, _, h⟩ := opq h
  obtain ⟨x_3, _, h⟩ := opq h
  have h := (ifn h).2
  obtain ⟨x_5, _, h⟩ := opq h
  obtain ⟨x_6, _, h⟩ := opq h
  rcases ifc h with ⟨_, h⟩ | ⟨_, h⟩
  · exact wYB_M_writeOutput_26 h95 F h
  · exact wYB_M_writeOutput_26 h95 F h
theorem wYF_M_writeOutput {v1 : Int32} {o0 : cf_O} {r : (cf_O)} (h95 : o0.1 95 = 0) (h : fM_writeOutput v1 o0 = some r) : Fr (fr_M [76] [77] []) o0 r := by
  unfold fM_writeOutput at h
  exact wYB_M_writeOutput_0 h95 fr_rfl h
theorem wYB_M_write_107 {O : cf_O} (h95 : O.1 95 = 0) {rc : Nat → Int32 → cf_O → Option ((cf_O))} {v1 : Int32} {o0 : cf_O} {r : (cf_O)} (H : ∀ (k : Nat) (u1i : Int32) (o0 : cf_O) (r : (cf_O)), Fr (fr_M [76] [75, 77] []) O o0 → rc k u1i o0 = some r → Fr (fr_M [76] [75, 77] []) O r) (F : Fr (fr_M [76] [75, 77] []) O o0) (h : fM_write_107 rc v1 o0 = some r) : Fr (fr_M [76] [75, 77] []) O r := by
  unfold fM_write_107 at h
  rcases ifc h with ⟨_, h⟩ | ⟨_, h⟩
  · obtain ⟨q_2, hq_2, h⟩ := bd h
    have Fq_2 : Fr (fr_M [76] [75, 77] []) O q_2 := fr_tr F (wYF_M_word (by rw [F.1 95 rfl]; exact h95) hq_2) rfl rfl rfl
    obtain ⟨q_4, hq_4, h⟩ := bd h
    have Fq_4 : Fr (fr_M [76] [75, 77] []) O q_4 := fr_tr Fq_2 (wYF_M_emit (by rw [Fq_2.1 95 rfl]; exact h95) hq_4) rfl rfl rfl
    rw [← Option.some.inj h]
    exact Fq_4
  · obtain ⟨q_6, hq_6, h⟩ := bd h
    have Fq_6 : Fr (fr_M [76] [75, 77] []) O q_6 := fr_tr F (wYF_M_writeOutput (by rw [F.1 95 rfl]; exact h95) hq_6) rfl rfl rfl
    obtain ⟨x_8, _, h⟩ := opq h
    exact H _ _ _ _ Fq_6 h
theorem wYB_M_write_81 {O : cf_O} (h95 : O.1 95 = 0) {rc : Nat → Int32 → cf_O → Option ((cf_O))} {v1 : Int32} {o0 : cf_O} {r : (cf_O)} (H : ∀ (k : Nat) (u1i : Int32) (o0 : cf_O) (r : (cf_O)), Fr (fr_M [76] [75, 77] []) O o0 → rc k u1i o0 = some r → Fr (fr_M [76] [75, 77] []) O r) (F : Fr (fr_M [76] [75, 77] []) O o0) (h : fM_write_81 rc v1 o0 = some r) : Fr (fr_M [76] [75, 77] []) O r := by
  unfold fM_write_81 at h
  rcases ifc h with ⟨_, h⟩ | ⟨_, h⟩
  · exact H _ _ _ _ F h
  · have h := (ifn h).2
    obtain ⟨x_3, _, h⟩ := opq h
    obtain ⟨q_4, hq_4, h⟩ := bd h
    have Fq_4 : Fr (fr_M [76] [75, 77] []) O q_4 := fr_tr F (wYF_M_writeCell (by rw [F.1 95 rfl]; exact h95) hq_4) rfl rfl rfl
    obtain ⟨x_6, _, h⟩ := opq h
    exact H _ _ _ _ Fq_4 h
theorem wYB_M_write_49 {O : cf_O} (h95 : O.1 95 = 0) {rc : Nat → Int32 → cf_O → Option ((cf_O))} {v1 : Int32} {o0 : cf_O} {r : (cf_O)} (H : ∀ (k : Nat) (u1i : Int32) (o0 : cf_O) (r : (cf_O)), Fr (fr_M [76] [75, 77] []) O o0 → rc k u1i o0 = some r → Fr (fr_M [76] [75, 77] []) O r) (F : Fr (fr_M [76] [75, 77] []) O o0) (h : fM_write_49 rc v1 o0 = some r) : Fr (fr_M [76] [75, 77] []) O r := by
  unfold fM_write_49 at h
  rcases ifc h with ⟨_, h⟩ | ⟨_, h⟩
  · obtain ⟨q_2, hq_2, h⟩ := bd h
    have Fq_2 : Fr (fr_M [76] [75, 77] []) O q_2 := fr_tr F (wYF_M_emit (by rw [F.1 95 rfl]; exact h95) hq_2) rfl rfl rfl
    exact H _ _ _ _ Fq_2 h
  · obtain ⟨q_4, hq_4, h⟩ := bd h
    have Fq_4 : Fr (fr_M [76] [75, 77] []) O q_4 := fr_tr F (wYF_M_name_M42 (by rw [F.1 95 rfl]; exact h95) hq_4) rfl rfl rfl
    obtain ⟨x_6, _, h⟩ := opq h
    exact H _ _ _ _ Fq_4 h
theorem wYB_M_write_12 {O : cf_O} (h95 : O.1 95 = 0) {rc : Nat → Int32 → cf_O → Option ((cf_O))} {v1 : Int32} {o0 : cf_O} {r : (cf_O)} (H : ∀ (k : Nat) (u1i : Int32) (o0 : cf_O) (r : (cf_O)), Fr (fr_M [76] [75, 77] []) O o0 → rc k u1i o0 = some r → Fr (fr_M [76] [75, 77] []) O r) (F : Fr (fr_M [76] [75, 77] []) O o0) (h : fM_write_12 rc v1 o0 = some r) : Fr (fr_M [76] [75, 77] []) O r := by
  unfold fM_write_12 at h
  rcases ifc h with ⟨_, h⟩ | ⟨_, h⟩
  · obtain ⟨q_2, hq_2, h⟩ := bd h
    have Fq_2 : Fr (fr_M [76] [75, 77] []) O q_2 := fr_tr F (wYF_M_emit (by rw [F.1 95 rfl]; exact h95) hq_2) rfl rfl rfl
    obtain ⟨q_4, hq_4, h⟩ := bd h
    have Fq_4 : Fr (fr_M [76] [75, 77] []) O q_4 := fr_tr Fq_2 (wYF_M_word (by rw [Fq_2.1 95 rfl]; exact h95) hq_4) rfl rfl rfl
    exact H _ _ _ _ Fq_4 h
  · obtain ⟨q_6, hq_6, h⟩ := bd h
    have Fq_6 : Fr (fr_M [76] [75, 77] []) O q_6 := fr_tr F (wYF_M_name_M41 (by rw [F.1 95 rfl]; exact h95) hq_6) rfl rfl rfl
    obtain ⟨x_8, _, h⟩ := opq h
    exact H _ _ _ _ Fq_6 h
theorem wYB_M_write_0 {O : cf_O} (h95 : O.1 95 = 0) {rc : Nat → Int32 → cf_O → Option ((cf_O))} {o0 : cf_O} {r : (cf_O)} (H : ∀ (k : Nat) (u1i : Int32) (o0 : cf_O) (r : (cf_O)), Fr (fr_M [76] [75, 77] []) O o0 → rc k u1i o0 = some r → Fr (fr_M [76] [75, 77] []) O r) (F : Fr (fr_M [76] [75, 77] []) O o0) (h : fM_write_0 rc o0 = some r) : Fr (fr_M [76] [75, 77] []) O r := by
  unfold fM_write_0 at h
  obtain ⟨o_1, eo_1, h⟩ := opq h
  have Fo_1 : Fr (fr_M [76] [75, 77] []) O o_1 := by rw [eo_1]; exact fr_fp F rfl
  obtain ⟨q_2, hq_2, h⟩ := bd h
  have Fq_2 : Fr (fr_M [76] [75, 77] []) O q_2 := fr_tr Fo_1 (wYF_M_word (by rw [Fo_1.1 95 rfl]; exact h95) hq_2) rfl rfl rfl
  exact H _ _ _ _ Fq_2 h
theorem wYG_M_write {O : cf_O} (h95 : O.1 95 = 0) : ∀ (n k : Nat) (u1i : Int32) (o0 : cf_O) (r : (cf_O)), Fr (fr_M [76] [75, 77] []) O o0 → gM_write n k u1i o0 = some r → Fr (fr_M [76] [75, 77] []) O r := by
  intro n
  induction n with
  | zero => intro k u1i o0 r F h; cases h
  | succ n ih =>
    intro k u1i o0 r F h
    cases k with
    | zero => exact wYB_M_write_12 h95 (rc := gM_write n) ih F h
    | succ k =>
      cases k with
      | zero => exact wYB_M_write_49 h95 (rc := gM_write n) ih F h
      | succ k =>
        cases k with
        | zero => exact wYB_M_write_81 h95 (rc := gM_write n) ih F h
        | succ k =>
          cases k with
          | zero => exact wYB_M_write_107 h95 (rc := gM_write n) ih F h
          | succ k =>
            cases h
theorem wYF_M_write {o0 : cf_O} {r : (cf_O)} (h95 : o0.1 95 = 0) (h : fM_write o0 = some r) : Fr (fr_M [76] [75, 77] []) o0 r := by
  unfold fM_write at h
  exact wYB_M_write_0 h95 (rc := gM_write cfFU) (fun k u1i o0 r F h => wYG_M_write h95 cfFU k u1i o0 r F h) fr_rfl h
theorem wYB_M_finish_57 {O : cf_O} (h95 : O.1 95 = 0) {rc : Nat → Int32 → cf_O → Option ((Int32 × cf_O))} {s1 : Int32} {o0 : cf_O} {r : (Int32 × cf_O)} (H : ∀ (k : Nat) (u1i : Int32) (o0 : cf_O) (r : (Int32 × cf_O)), Fr (fr_M [0, 43, 64, 85] [35, 44, 45, 46, 47] []) O o0 → rc k u1i o0 = some r → Fr (fr_M [0, 43, 64, 85] [35, 44, 45, 46, 47] []) O r.2) (F : Fr (fr_M [0, 43, 64, 85] [35, 44, 45, 46, 47] []) O o0) (h : fM_finish_57 rc s1 o0 = some r) : Fr (fr_M [0, 43, 64, 85] [35, 44, 45, 46, 47] []) O r.2 := by
  unfold fM_finish_57 at h
  obtain ⟨q_1, hq_1, h⟩ := bd h
  have Fq_1 : Fr (fr_M [0, 43, 64, 85] [35, 44, 45, 46, 47] []) O q_1.2 := fr_tr F (wF_M_refuse hq_1) rfl rfl rfl
  rcases ifc h with ⟨_, h⟩ | ⟨_, h⟩
  · obtain ⟨q_5, hq_5, h⟩ := bd h
    have Fq_5 : Fr (fr_M [0, 43, 64, 85] [35, 44, 45, 46, 47] []) O q_5 := fr_tr Fq_1 (wF_M_take hq_5) rfl rfl rfl
    rw [← Option.some.inj h]
    exact Fq_5
  · rw [← Option.some.inj h]
    exact Fq_1
theorem wYB_M_finish_2 {O : cf_O} (h95 : O.1 95 = 0) {rc : Nat → Int32 → cf_O → Option ((Int32 × cf_O))} {v1 : Int32} {o0 : cf_O} {r : (Int32 × cf_O)} (H : ∀ (k : Nat) (u1i : Int32) (o0 : cf_O) (r : (Int32 × cf_O)), Fr (fr_M [0, 43, 64, 85] [35, 44, 45, 46, 47] []) O o0 → rc k u1i o0 = some r → Fr (fr_M [0, 43, 64, 85] [35, 44, 45, 46, 47] []) O r.2) (F : Fr (fr_M [0, 43, 64, 85] [35, 44, 45, 46, 47] []) O o0) (h : fM_finish_2 rc v1 o0 = some r) : Fr (fr_M [0, 43, 64, 85] [35, 44, 45, 46, 47] []) O r.2 := by
  unfold fM_finish_2 at h
  rcases ifc h with ⟨_, h⟩ | ⟨_, h⟩
  · rcases ifc h with ⟨_, h⟩ | ⟨_, h⟩
    · exact wYB_M_finish_57 h95 H F h
    · exact wYB_M_finish_57 h95 H F h
  · have h := (ifn h).2
    obtain ⟨x_4, _, h⟩ := opq h
    obtain ⟨x_5, _, h⟩ := opq h
    have h := (ifn h).2
    obtain ⟨x_7, _, h⟩ := opq h
    have h := (ifn h).2
    obtain ⟨x_9, _, h⟩ := opq h
    obtain ⟨x_10, _, h⟩ := opq h
    obtain ⟨x_11, _, h⟩ := opq h
    have h := (ifn h).2
    obtain ⟨o_13, eo_13, h⟩ := opq h
    have Fo_13 : Fr (fr_M [0, 43, 64, 85] [35, 44, 45, 46, 47] []) O o_13 := by rw [eo_13]; exact fr_xp F rfl
    obtain ⟨x_14, _, h⟩ := opq h
    exact H _ _ _ _ Fo_13 h
theorem wYB_M_finish_0 {O : cf_O} (h95 : O.1 95 = 0) {rc : Nat → Int32 → cf_O → Option ((Int32 × cf_O))} {o0 : cf_O} {r : (Int32 × cf_O)} (H : ∀ (k : Nat) (u1i : Int32) (o0 : cf_O) (r : (Int32 × cf_O)), Fr (fr_M [0, 43, 64, 85] [35, 44, 45, 46, 47] []) O o0 → rc k u1i o0 = some r → Fr (fr_M [0, 43, 64, 85] [35, 44, 45, 46, 47] []) O r.2) (F : Fr (fr_M [0, 43, 64, 85] [35, 44, 45, 46, 47] []) O o0) (h : fM_finish_0 rc o0 = some r) : Fr (fr_M [0, 43, 64, 85] [35, 44, 45, 46, 47] []) O r.2 := by
  unfold fM_finish_0 at h
  exact H _ _ _ _ F h
theorem wYG_M_finish {O : cf_O} (h95 : O.1 95 = 0) : ∀ (n k : Nat) (u1i : Int32) (o0 : cf_O) (r : (Int32 × cf_O)), Fr (fr_M [0, 43, 64, 85] [35, 44, 45, 46, 47] []) O o0 → gM_finish n k u1i o0 = some r → Fr (fr_M [0, 43, 64, 85] [35, 44, 45, 46, 47] []) O r.2 := by
  intro n
  induction n with
  | zero => intro k u1i o0 r F h; cases h
  | succ n ih =>
    intro k u1i o0 r F h
    cases k with
    | zero => exact wYB_M_finish_2 h95 (rc := gM_finish n) ih F h
    | succ k =>
      cases h
theorem wYF_M_finish {o0 : cf_O} {r : (Int32 × cf_O)} (h95 : o0.1 95 = 0) (h : fM_finish o0 = some r) : Fr (fr_M [0, 43, 64, 85] [35, 44, 45, 46, 47] []) o0 r.2 := by
  unfold fM_finish at h
  exact wYB_M_finish_0 h95 (rc := gM_finish cfFU) (fun k u1i o0 r F h => wYG_M_finish h95 cfFU k u1i o0 r F h) fr_rfl h
theorem wYB_M_chooseCells_167 {O : cf_O} (h95 : O.1 95 = 0) {rc : Nat → Int32 → Int32 → cf_O → Option ((cf_O))} {v1 : Int32} {o0 : cf_O} {r : (cf_O)} (H : ∀ (k : Nat) (u1i : Int32) (u2i : Int32) (o0 : cf_O) (r : (cf_O)), Fr (fr_M [73] [72, 74] []) O o0 → rc k u1i u2i o0 = some r → Fr (fr_M [73] [72, 74] []) O r) (F : Fr (fr_M [73] [72, 74] []) O o0) (h : fM_chooseCells_167 rc v1 o0 = some r) : Fr (fr_M [73] [72, 74] []) O r := by
  unfold fM_chooseCells_167 at h
  obtain ⟨x_1, _, h⟩ := opq h
  exact H _ _ _ _ _ F h
theorem wYB_M_chooseCells_160 {O : cf_O} (h95 : O.1 95 = 0) {rc : Nat → Int32 → Int32 → cf_O → Option ((cf_O))} {v1 : Int32} {v2 : Int32} {s1 : Int32} {s2 : Int32} {o0 : cf_O} {r : (cf_O)} (H : ∀ (k : Nat) (u1i : Int32) (u2i : Int32) (o0 : cf_O) (r : (cf_O)), Fr (fr_M [73] [72, 74] []) O o0 → rc k u1i u2i o0 = some r → Fr (fr_M [73] [72, 74] []) O r) (F : Fr (fr_M [73] [72, 74] []) O o0) (h : fM_chooseCells_160 rc v1 v2 s1 s2 o0 = some r) : Fr (fr_M [73] [72, 74] []) O r := by
  unfold fM_chooseCells_160 at h
  have h := (ifn h).2
  obtain ⟨o_2, eo_2, h⟩ := opq h
  have Fo_2 : Fr (fr_M [73] [72, 74] []) O o_2 := by rw [eo_2]; exact fr_xp F rfl
  obtain ⟨x_3, _, h⟩ := opq h
  exact H _ _ _ _ _ Fo_2 h
theorem wYB_M_chooseCells_155 {O : cf_O} (h95 : O.1 95 = 0) {rc : Nat → Int32 → Int32 → cf_O → Option ((cf_O))} {v1 : Int32} {v2 : Int32} {s1 : Int32} {o0 : cf_O} {r : (cf_O)} (H : ∀ (k : Nat) (u1i : Int32) (u2i : Int32) (o0 : cf_O) (r : (cf_O)), Fr (fr_M [73] [72, 74] []) O o0 → rc k u1i u2i o0 = some r → Fr (fr_M [73] [72, 74] []) O r) (F : Fr (fr_M [73] [72, 74] []) O o0) (h : fM_chooseCells_155 rc v1 v2 s1 o0 = some r) : Fr (fr_M [73] [72, 74] []) O r := by
  unfold fM_chooseCells_155 at h
  exact wYB_M_chooseCells_160 h95 H F h
theorem wYB_M_chooseCells_93 {O : cf_O} (h95 : O.1 95 = 0) {rc : Nat → Int32 → Int32 → cf_O → Option ((cf_O))} {v1 : Int32} {v2 : Int32} {o0 : cf_O} {r : (cf_O)} (H : ∀ (k : Nat) (u1i : Int32) (u2i : Int32) (o0 : cf_O) (r : (cf_O)), Fr (fr_M [73] [72, 74] []) O o0 → rc k u1i u2i o0 = some r → Fr (fr_M [73] [72, 74] []) O r) (F : Fr (fr_M [73] [72, 74] []) O o0) (h : fM_chooseCells_93 rc v1 v2 o0 = some r) : Fr (fr_M [73] [72, 74] []) O r := by
  unfold fM_chooseCells_93 at h
  have h := (ifn h).2
  obtain ⟨x_2, _, h⟩ := opq h
  have h := (ifn h).2
  obtain ⟨x_4, _, h⟩ := opq h
  rcases ifc h with ⟨_, h⟩ | ⟨_, h⟩
  · exact wYB_M_chooseCells_167 h95 H F h
  · have h := (ifn h).2
    obtain ⟨x_7, _, h⟩ := opq h
    rcases ifc h with ⟨_, h⟩ | ⟨_, h⟩
    · exact wYB_M_chooseCells_167 h95 H F h
    · have h := (ifn h).2
      obtain ⟨x_10, _, h⟩ := opq h
      obtain ⟨x_11, _, h⟩ := opq h
      obtain ⟨x_12, _, h⟩ := opq h
      have h := (ifn h).2
      obtain ⟨x_14, _, h⟩ := opq h
      have h := (ifn h).2
      obtain ⟨x_16, _, h⟩ := opq h
      rcases ifc h with ⟨_, h⟩ | ⟨_, h⟩
      · obtain ⟨q_18, _, h⟩ := bd h
        rcases ifc h with ⟨_, h⟩ | ⟨_, h⟩
        · exact wYB_M_chooseCells_160 h95 H F h
        · exact wYB_M_chooseCells_155 h95 H F h
      · exact wYB_M_chooseCells_155 h95 H F h
theorem wYB_M_chooseCells_83 {O : cf_O} (h95 : O.1 95 = 0) {rc : Nat → Int32 → Int32 → cf_O → Option ((cf_O))} {v1 : Int32} {o0 : cf_O} {r : (cf_O)} (H : ∀ (k : Nat) (u1i : Int32) (u2i : Int32) (o0 : cf_O) (r : (cf_O)), Fr (fr_M [73] [72, 74] []) O o0 → rc k u1i u2i o0 = some r → Fr (fr_M [73] [72, 74] []) O r) (F : Fr (fr_M [73] [72, 74] []) O o0) (h : fM_chooseCells_83 rc v1 o0 = some r) : Fr (fr_M [73] [72, 74] []) O r := by
  unfold fM_chooseCells_83 at h
  obtain ⟨q_1, _, h⟩ := bd h
  rcases ifc h with ⟨_, h⟩ | ⟨_, h⟩
  · obtain ⟨q_5, hq_5, h⟩ := bd h
    have Fq_5 : Fr (fr_M [73] [72, 74] []) O q_5 := fr_tr F (wF_M_listCells hq_5) rfl rfl rfl
    rw [← Option.some.inj h]
    exact Fq_5
  · exact H _ _ _ _ _ F h
theorem wYB_M_chooseCells_64 {O : cf_O} (h95 : O.1 95 = 0) {rc : Nat → Int32 → Int32 → cf_O → Option ((cf_O))} {v1 : Int32} {s1 : Int32} {s2 : Int32} {o0 : cf_O} {r : (cf_O)} (H : ∀ (k : Nat) (u1i : Int32) (u2i : Int32) (o0 : cf_O) (r : (cf_O)), Fr (fr_M [73] [72, 74] []) O o0 → rc k u1i u2i o0 = some r → Fr (fr_M [73] [72, 74] []) O r) (F : Fr (fr_M [73] [72, 74] []) O o0) (h : fM_chooseCells_64 rc v1 s1 s2 o0 = some r) : Fr (fr_M [73] [72, 74] []) O r := by
  unfold fM_chooseCells_64 at h
  have h := (ifn h).2
  obtain ⟨o_2, eo_2, h⟩ := opq h
  have Fo_2 : Fr (fr_M [73] [72, 74] []) O o_2 := by rw [eo_2]; exact fr_xp F rfl
  obtain ⟨x_3, _, h⟩ := opq h
  exact H _ _ _ _ _ Fo_2 h
theorem wYB_M_chooseCells_24 {O : cf_O} (h95 : O.1 95 = 0) {rc : Nat → Int32 → Int32 → cf_O → Option ((cf_O))} {v1 : Int32} {o0 : cf_O} {r : (cf_O)} (H : ∀ (k : Nat) (u1i : Int32) (u2i : Int32) (o0 : cf_O) (r : (cf_O)), Fr (fr_M [73] [72, 74] []) O o0 → rc k u1i u2i o0 = some r → Fr (fr_M [73] [72, 74] []) O r) (F : Fr (fr_M [73] [72, 74] []) O o0) (h : fM_chooseCells_24 rc v1 o0 = some r) : Fr (fr_M [73] [72, 74] []) O r := by
  unfold fM_chooseCells_24 at h
  rcases ifc h with ⟨_, h⟩ | ⟨_, h⟩
  · obtain ⟨q_2, _, h⟩ := bd h
    obtain ⟨x_5, _, h⟩ := opq h
    obtain ⟨x_6, _, h⟩ := opq h
    exact H _ _ _ _ _ F h
  · have h := (ifn h).2
    obtain ⟨x_8, _, h⟩ := opq h
    obtain ⟨x_9, _, h⟩ := opq h
    have h := (ifn h).2
    obtain ⟨x_11, _, h⟩ := opq h
    obtain ⟨x_12, _, h⟩ := opq h
    obtain ⟨q_13, _, h⟩ := bd h
    rcases ifc h with ⟨_, h⟩ | ⟨_, h⟩
    · exact wYB_M_chooseCells_64 h95 H F h
    · exact wYB_M_chooseCells_64 h95 H F h
theorem wYB_M_chooseCells_2 {O : cf_O} (h95 : O.1 95 = 0) {rc : Nat → Int32 → Int32 → cf_O → Option ((cf_O))} {v1 : Int32} {o0 : cf_O} {r : (cf_O)} (H : ∀ (k : Nat) (u1i : Int32) (u2i : Int32) (o0 : cf_O) (r : (cf_O)), Fr (fr_M [73] [72, 74] []) O o0 → rc k u1i u2i o0 = some r → Fr (fr_M [73] [72, 74] []) O r) (F : Fr (fr_M [73] [72, 74] []) O o0) (h : fM_chooseCells_2 rc v1 o0 = some r) : Fr (fr_M [73] [72, 74] []) O r := by
  unfold fM_chooseCells_2 at h
  rcases ifc h with ⟨_, h⟩ | ⟨_, h⟩
  · exact H _ _ _ _ _ F h
  · have h := (ifn h).2
    obtain ⟨o_3, eo_3, h⟩ := opq h
    have Fo_3 : Fr (fr_M [73] [72, 74] []) O o_3 := by rw [eo_3]; exact fr_xp F rfl
    obtain ⟨x_4, _, h⟩ := opq h
    exact H _ _ _ _ _ Fo_3 h
theorem wYB_M_chooseCells_0 {O : cf_O} (h95 : O.1 95 = 0) {rc : Nat → Int32 → Int32 → cf_O → Option ((cf_O))} {o0 : cf_O} {r : (cf_O)} (H : ∀ (k : Nat) (u1i : Int32) (u2i : Int32) (o0 : cf_O) (r : (cf_O)), Fr (fr_M [73] [72, 74] []) O o0 → rc k u1i u2i o0 = some r → Fr (fr_M [73] [72, 74] []) O r) (F : Fr (fr_M [73] [72, 74] []) O o0) (h : fM_chooseCells_0 rc o0 = some r) : Fr (fr_M [73] [72, 74] []) O r := by
  unfold fM_chooseCells_0 at h
  exact H _ _ _ _ _ F h
theorem wYG_M_chooseCells {O : cf_O} (h95 : O.1 95 = 0) : ∀ (n k : Nat) (u1i : Int32) (u2i : Int32) (o0 : cf_O) (r : (cf_O)), Fr (fr_M [73] [72, 74] []) O o0 → gM_chooseCells n k u1i u2i o0 = some r → Fr (fr_M [73] [72, 74] []) O r := by
  intro n
  induction n with
  | zero => intro k u1i u2i o0 r F h; cases h
  | succ n ih =>
    intro k u1i u2i o0 r F h
    cases k with
    | zero => exact wYB_M_chooseCells_2 h95 (rc := gM_chooseCells n) ih F h
    | succ k =>
      cases k with
      | zero => exact wYB_M_chooseCells_24 h95 (rc := gM_chooseCells n) ih F h
      | succ k =>
        cases k with
        | zero => exact wYB_M_chooseCells_83 h95 (rc := gM_chooseCells n) ih F h
        | succ k =>
          cases k with
          | zero => exact wYB_M_chooseCells_93 h95 (rc := gM_chooseCells n) ih F h
          | succ k =>
            cases h
theorem wYF_M_chooseCells {o0 : cf_O} {r : (cf_O)} (h95 : o0.1 95 = 0) (h : fM_chooseCells o0 = some r) : Fr (fr_M [73] [72, 74] []) o0 r := by
  unfold fM_chooseCells at h
  exact wYB_M_chooseCells_0 h95 (rc := gM_chooseCells cfFU) (fun k u1i u2i o0 r F h => wYG_M_chooseCells h95 cfFU k u1i u2i o0 r F h) fr_rfl h
theorem wYB_M_coverBy_47 {O : cf_O} (h95 : O.1 95 = 0) {o0 : cf_O} {r : (Int32 × cf_O)} (F : Fr (fr_M [0, 36, 64, 65, 66, 73, 76] [57, 58, 59, 60, 61, 62, 63, 67, 72, 74, 75, 77] []) O o0) (h : fM_coverBy_47 o0 = some r) : Fr (fr_M [0, 36, 64, 65, 66, 73, 76] [57, 58, 59, 60, 61, 62, 63, 67, 72, 74, 75, 77] []) O r.2 := by
  unfold fM_coverBy_47 at h
  obtain ⟨q_1, hq_1, h⟩ := bd h
  have Fq_1 : Fr (fr_M [0, 36, 64, 65, 66, 73, 76] [57, 58, 59, 60, 61, 62, 63, 67, 72, 74, 75, 77] []) O q_1 := fr_tr F (wYF_M_write (by rw [F.1 95 rfl]; exact h95) hq_1) rfl rfl rfl
  obtain ⟨o_3, eo_3, h⟩ := opq h
  have Fo_3 : Fr (fr_M [0, 36, 64, 65, 66, 73, 76] [57, 58, 59, 60, 61, 62, 63, 67, 72, 74, 75, 77] []) O o_3 := by rw [eo_3]; exact fr_fp Fq_1 rfl
  rw [← Option.some.inj h]
  exact Fo_3
theorem wYB_M_coverBy_0 {O : cf_O} (h95 : O.1 95 = 0) {v1 : Int32} {v2 : Int32} {o0 : cf_O} {r : (Int32 × cf_O)} (F : Fr (fr_M [0, 36, 64, 65, 66, 73, 76] [57, 58, 59, 60, 61, 62, 63, 67, 72, 74, 75, 77] []) O o0) (h : fM_coverBy_0 v1 v2 o0 = some r) : Fr (fr_M [0, 36, 64, 65, 66, 73, 76] [57, 58, 59, 60, 61, 62, 63, 67, 72, 74, 75, 77] []) O r.2 := by
  unfold fM_coverBy_0 at h
  obtain ⟨q_1, hq_1, h⟩ := bd h
  have Fq_1 : Fr (fr_M [0, 36, 64, 65, 66, 73, 76] [57, 58, 59, 60, 61, 62, 63, 67, 72, 74, 75, 77] []) O q_1.2 := fr_tr F (wF_M_cutAll hq_1) rfl rfl rfl
  rcases ifc h with ⟨_, h⟩ | ⟨_, h⟩
  · obtain ⟨q_13, hq_13, h⟩ := bd h
    have Fq_13 : Fr (fr_M [0, 36, 64, 65, 66, 73, 76] [57, 58, 59, 60, 61, 62, 63, 67, 72, 74, 75, 77] []) O q_13 := fr_tr Fq_1 (wF_M_again hq_13) rfl rfl rfl
    obtain ⟨q_15, hq_15, h⟩ := bd h
    have Fq_15 : Fr (fr_M [0, 36, 64, 65, 66, 73, 76] [57, 58, 59, 60, 61, 62, 63, 67, 72, 74, 75, 77] []) O q_15.2 := fr_tr Fq_13 (wF_M_refuse hq_15) rfl rfl rfl
    rw [← Option.some.inj h]
    exact Fq_15
  · obtain ⟨o_5, eo_5, h⟩ := opq h
    have Fo_5 : Fr (fr_M [0, 36, 64, 65, 66, 73, 76] [57, 58, 59, 60, 61, 62, 63, 67, 72, 74, 75, 77] []) O o_5 := by rw [eo_5]; exact fr_fp Fq_1 rfl
    have h := (ifn h).2
    obtain ⟨o_7, eo_7, h⟩ := opq h
    have Fo_7 : Fr (fr_M [0, 36, 64, 65, 66, 73, 76] [57, 58, 59, 60, 61, 62, 63, 67, 72, 74, 75, 77] []) O o_7 := by rw [eo_7]; exact fr_fp Fo_5 rfl
    rcases ifc h with ⟨_, h⟩ | ⟨_, h⟩
    · obtain ⟨q_9, hq_9, h⟩ := bd h
      have Fq_9 : Fr (fr_M [0, 36, 64, 65, 66, 73, 76] [57, 58, 59, 60, 61, 62, 63, 67, 72, 74, 75, 77] []) O q_9 := fr_tr Fo_7 (wYF_M_chooseCells (by rw [Fo_7.1 95 rfl]; exact h95) hq_9) rfl rfl rfl
      exact wYB_M_coverBy_47 h95 Fq_9 h
    · obtain ⟨q_11, hq_11, h⟩ := bd h
      have Fq_11 : Fr (fr_M [0, 36, 64, 65, 66, 73, 76] [57, 58, 59, 60, 61, 62, 63, 67, 72, 74, 75, 77] []) O q_11 := fr_tr Fo_7 (wF_M_chooseFew hq_11) rfl rfl rfl
      exact wYB_M_coverBy_47 h95 Fq_11 h
theorem wYF_M_coverBy {v1 : Int32} {v2 : Int32} {o0 : cf_O} {r : (Int32 × cf_O)} (h95 : o0.1 95 = 0) (h : fM_coverBy v1 v2 o0 = some r) : Fr (fr_M [0, 36, 64, 65, 66, 73, 76] [57, 58, 59, 60, 61, 62, 63, 67, 72, 74, 75, 77] []) o0 r.2 := by
  unfold fM_coverBy at h
  exact wYB_M_coverBy_0 h95 fr_rfl h
theorem wYB_M_cover_34 {O : cf_O} (h95 : O.1 95 = 0) {v1 : Int32} {s1 : Int32} {s2 : Int32} {o0 : cf_O} {r : (Int32 × cf_O)} (F : Fr (fr_M [0, 36, 64, 65, 66, 73, 76] [57, 58, 59, 60, 61, 62, 63, 67, 72, 74, 75, 77] []) O o0) (h : fM_cover_34 v1 s1 s2 o0 = some r) : Fr (fr_M [0, 36, 64, 65, 66, 73, 76] [57, 58, 59, 60, 61, 62, 63, 67, 72, 74, 75, 77] []) O r.2 := by
  unfold fM_cover_34 at h
  obtain ⟨q_1, hq_1, h⟩ := bd h
  have Fq_1 : Fr (fr_M [0, 36, 64, 65, 66, 73, 76] [57, 58, 59, 60, 61, 62, 63, 67, 72, 74, 75, 77] []) O q_1.2 := fr_tr F (wF_M_refuse hq_1) rfl rfl rfl
  rcases ifc h with ⟨_, h⟩ | ⟨_, h⟩
  · obtain ⟨q_5, hq_5, h⟩ := bd h
    have Fq_5 : Fr (fr_M [0, 36, 64, 65, 66, 73, 76] [57, 58, 59, 60, 61, 62, 63, 67, 72, 74, 75, 77] []) O q_5.2 := fr_tr Fq_1 (wYF_M_coverBy (by rw [Fq_1.1 95 rfl]; exact h95) hq_5) rfl rfl rfl
    rw [← Option.some.inj h]
    exact Fq_5
  · rw [← Option.some.inj h]
    exact Fq_1
theorem wYB_M_cover_33 {O : cf_O} (h95 : O.1 95 = 0) {v1 : Int32} {s1 : Int32} {o0 : cf_O} {r : (Int32 × cf_O)} (F : Fr (fr_M [0, 36, 64, 65, 66, 73, 76] [57, 58, 59, 60, 61, 62, 63, 67, 72, 74, 75, 77] []) O o0) (h : fM_cover_33 v1 s1 o0 = some r) : Fr (fr_M [0, 36, 64, 65, 66, 73, 76] [57, 58, 59, 60, 61, 62, 63, 67, 72, 74, 75, 77] []) O r.2 := by
  unfold fM_cover_33 at h
  exact wYB_M_cover_34 h95 F h
theorem wYB_M_cover_13 {O : cf_O} (h95 : O.1 95 = 0) {v1 : Int32} {s1 : Int32} {o0 : cf_O} {r : (Int32 × cf_O)} (F : Fr (fr_M [0, 36, 64, 65, 66, 73, 76] [57, 58, 59, 60, 61, 62, 63, 67, 72, 74, 75, 77] []) O o0) (h : fM_cover_13 v1 s1 o0 = some r) : Fr (fr_M [0, 36, 64, 65, 66, 73, 76] [57, 58, 59, 60, 61, 62, 63, 67, 72, 74, 75, 77] []) O r.2 := by
  unfold fM_cover_13 at h
  rcases ifc h with ⟨_, h⟩ | ⟨_, h⟩
  · exact wYB_M_cover_33 h95 F h
  · obtain ⟨q_2, _, h⟩ := bd h
    rcases ifc h with ⟨_, h⟩ | ⟨_, h⟩
    · exact wYB_M_cover_34 h95 F h
    · exact wYB_M_cover_33 h95 F h
theorem wYB_M_cover_0 {O : cf_O} (h95 : O.1 95 = 0) {v1 : Int32} {o0 : cf_O} {r : (Int32 × cf_O)} (F : Fr (fr_M [0, 36, 64, 65, 66, 73, 76] [57, 58, 59, 60, 61, 62, 63, 67, 72, 74, 75, 77] []) O o0) (h : fM_cover_0 v1 o0 = some r) : Fr (fr_M [0, 36, 64, 65, 66, 73, 76] [57, 58, 59, 60, 61, 62, 63, 67, 72, 74, 75, 77] []) O r.2 := by
  unfold fM_cover_0 at h
  rcases ifc h with ⟨_, h⟩ | ⟨_, h⟩
  · exact wYB_M_cover_13 h95 F h
  · exact wYB_M_cover_13 h95 F h
theorem wYF_M_cover {v1 : Int32} {o0 : cf_O} {r : (Int32 × cf_O)} (h95 : o0.1 95 = 0) (h : fM_cover v1 o0 = some r) : Fr (fr_M [0, 36, 64, 65, 66, 73, 76] [57, 58, 59, 60, 61, 62, 63, 67, 72, 74, 75, 77] []) o0 r.2 := by
  unfold fM_cover at h
  exact wYB_M_cover_0 h95 fr_rfl h
theorem wYB_M_coverFew_34 {O : cf_O} (h95 : O.1 95 = 0) {v1 : Int32} {s1 : Int32} {s2 : Int32} {o0 : cf_O} {r : (Int32 × cf_O)} (F : Fr (fr_M [0, 36, 64, 65, 66, 73, 76] [57, 58, 59, 60, 61, 62, 63, 67, 72, 74, 75, 77] []) O o0) (h : fM_coverFew_34 v1 s1 s2 o0 = some r) : Fr (fr_M [0, 36, 64, 65, 66, 73, 76] [57, 58, 59, 60, 61, 62, 63, 67, 72, 74, 75, 77] []) O r.2 := by
  unfold fM_coverFew_34 at h
  obtain ⟨q_1, hq_1, h⟩ := bd h
  have Fq_1 : Fr (fr_M [0, 36, 64, 65, 66, 73, 76] [57, 58, 59, 60, 61, 62, 63, 67, 72, 74, 75, 77] []) O q_1.2 := fr_tr F (wF_M_refuse hq_1) rfl rfl rfl
  rcases ifc h with ⟨_, h⟩ | ⟨_, h⟩
  · obtain ⟨q_5, hq_5, h⟩ := bd h
    have Fq_5 : Fr (fr_M [0, 36, 64, 65, 66, 73, 76] [57, 58, 59, 60, 61, 62, 63, 67, 72, 74, 75, 77] []) O q_5.2 := fr_tr Fq_1 (wYF_M_coverBy (by rw [Fq_1.1 95 rfl]; exact h95) hq_5) rfl rfl rfl
    rw [← Option.some.inj h]
    exact Fq_5
  · rw [← Option.some.inj h]
    exact Fq_1
theorem wYB_M_coverFew_33 {O : cf_O} (h95 : O.1 95 = 0) {v1 : Int32} {s1 : Int32} {o0 : cf_O} {r : (Int32 × cf_O)} (F : Fr (fr_M [0, 36, 64, 65, 66, 73, 76] [57, 58, 59, 60, 61, 62, 63, 67, 72, 74, 75, 77] []) O o0) (h : fM_coverFew_33 v1 s1 o0 = some r) : Fr (fr_M [0, 36, 64, 65, 66, 73, 76] [57, 58, 59, 60, 61, 62, 63, 67, 72, 74, 75, 77] []) O r.2 := by
  unfold fM_coverFew_33 at h
  exact wYB_M_coverFew_34 h95 F h
theorem wYB_M_coverFew_13 {O : cf_O} (h95 : O.1 95 = 0) {v1 : Int32} {s1 : Int32} {o0 : cf_O} {r : (Int32 × cf_O)} (F : Fr (fr_M [0, 36, 64, 65, 66, 73, 76] [57, 58, 59, 60, 61, 62, 63, 67, 72, 74, 75, 77] []) O o0) (h : fM_coverFew_13 v1 s1 o0 = some r) : Fr (fr_M [0, 36, 64, 65, 66, 73, 76] [57, 58, 59, 60, 61, 62, 63, 67, 72, 74, 75, 77] []) O r.2 := by
  unfold fM_coverFew_13 at h
  rcases ifc h with ⟨_, h⟩ | ⟨_, h⟩
  · exact wYB_M_coverFew_33 h95 F h
  · obtain ⟨q_2, _, h⟩ := bd h
    rcases ifc h with ⟨_, h⟩ | ⟨_, h⟩
    · exact wYB_M_coverFew_34 h95 F h
    · exact wYB_M_coverFew_33 h95 F h
theorem wYB_M_coverFew_0 {O : cf_O} (h95 : O.1 95 = 0) {v1 : Int32} {o0 : cf_O} {r : (Int32 × cf_O)} (F : Fr (fr_M [0, 36, 64, 65, 66, 73, 76] [57, 58, 59, 60, 61, 62, 63, 67, 72, 74, 75, 77] []) O o0) (h : fM_coverFew_0 v1 o0 = some r) : Fr (fr_M [0, 36, 64, 65, 66, 73, 76] [57, 58, 59, 60, 61, 62, 63, 67, 72, 74, 75, 77] []) O r.2 := by
  unfold fM_coverFew_0 at h
  rcases ifc h with ⟨_, h⟩ | ⟨_, h⟩
  · exact wYB_M_coverFew_13 h95 F h
  · exact wYB_M_coverFew_13 h95 F h
theorem wYF_M_coverFew {v1 : Int32} {o0 : cf_O} {r : (Int32 × cf_O)} (h95 : o0.1 95 = 0) (h : fM_coverFew v1 o0 = some r) : Fr (fr_M [0, 36, 64, 65, 66, 73, 76] [57, 58, 59, 60, 61, 62, 63, 67, 72, 74, 75, 77] []) o0 r.2 := by
  unfold fM_coverFew at h
  exact wYB_M_coverFew_0 h95 fr_rfl h
