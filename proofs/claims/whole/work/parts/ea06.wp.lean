theorem wB_Re_findLeaves_129_o0 {O : cf_O} {rc : Nat → Int32 → Int32 → Int32 → cf_O → cf_O → Option ((cf_O))} {o0 : cf_O} {o1 : cf_O} {r : (cf_O)} (H : ∀ (k : Nat) (u2i : Int32) (u3i : Int32) (u4i : Int32) (o0 : cf_O) (o1 : cf_O) (r : (cf_O)), Fr (fr_M [7] [5, 6] []) O o0 → rc k u2i u3i u4i o0 o1 = some r → Fr (fr_M [7] [5, 6] []) O r) (F : Fr (fr_M [7] [5, 6] []) O o0) (h : fRe_findLeaves_129 rc o0 o1 = some r) : Fr (fr_M [7] [5, 6] []) O r := by
  unfold fRe_findLeaves_129 at h
  rw [← Option.some.inj h]
  exact F
theorem wB_Re_findLeaves_123_o0 {O : cf_O} {rc : Nat → Int32 → Int32 → Int32 → cf_O → cf_O → Option ((cf_O))} {v2 : Int32} {v3 : Int32} {v4 : Int32} {o0 : cf_O} {o1 : cf_O} {r : (cf_O)} (H : ∀ (k : Nat) (u2i : Int32) (u3i : Int32) (u4i : Int32) (o0 : cf_O) (o1 : cf_O) (r : (cf_O)), Fr (fr_M [7] [5, 6] []) O o0 → rc k u2i u3i u4i o0 o1 = some r → Fr (fr_M [7] [5, 6] []) O r) (F : Fr (fr_M [7] [5, 6] []) O o0) (h : fRe_findLeaves_123 rc v2 v3 v4 o0 o1 = some r) : Fr (fr_M [7] [5, 6] []) O r := by
  unfold fRe_findLeaves_123 at h
  obtain ⟨x_1, _, h⟩ := opq h
  exact H _ _ _ _ _ _ _ F h
theorem wB_Re_findLeaves_64_o0 {O : cf_O} {rc : Nat → Int32 → Int32 → Int32 → cf_O → cf_O → Option ((cf_O))} {v2 : Int32} {v3 : Int32} {v4 : Int32} {v6 : Int32} {o0 : cf_O} {o1 : cf_O} {r : (cf_O)} (H : ∀ (k : Nat) (u2i : Int32) (u3i : Int32) (u4i : Int32) (o0 : cf_O) (o1 : cf_O) (r : (cf_O)), Fr (fr_M [7] [5, 6] []) O o0 → rc k u2i u3i u4i o0 o1 = some r → Fr (fr_M [7] [5, 6] []) O r) (F : Fr (fr_M [7] [5, 6] []) O o0) (h : fRe_findLeaves_64 rc v2 v3 v4 v6 o0 o1 = some r) : Fr (fr_M [7] [5, 6] []) O r := by
  unfold fRe_findLeaves_64 at h
  have h := (ifn h).2
  obtain ⟨x_2, _, h⟩ := opq h
  have h := (ifn h).2
  obtain ⟨o_4, eo_4, h⟩ := opq h
  have Fo_4 : Fr (fr_M [7] [5, 6] []) O o_4 := by rw [eo_4]; exact fr_xp F rfl
  obtain ⟨x_5, _, h⟩ := opq h
  have h := (ifn h).2
  obtain ⟨x_7, _, h⟩ := opq h
  have h := (ifn h).2
  obtain ⟨o_9, eo_9, h⟩ := opq h
  have Fo_9 : Fr (fr_M [7] [5, 6] []) O o_9 := by rw [eo_9]; exact fr_xp Fo_4 rfl
  obtain ⟨x_10, _, h⟩ := opq h
  exact wB_Re_findLeaves_123_o0 H Fo_9 h
theorem wB_Re_findLeaves_19_o0 {O : cf_O} {rc : Nat → Int32 → Int32 → Int32 → cf_O → cf_O → Option ((cf_O))} {v2 : Int32} {v3 : Int32} {v4 : Int32} {o0 : cf_O} {o1 : cf_O} {r : (cf_O)} (H : ∀ (k : Nat) (u2i : Int32) (u3i : Int32) (u4i : Int32) (o0 : cf_O) (o1 : cf_O) (r : (cf_O)), Fr (fr_M [7] [5, 6] []) O o0 → rc k u2i u3i u4i o0 o1 = some r → Fr (fr_M [7] [5, 6] []) O r) (F : Fr (fr_M [7] [5, 6] []) O o0) (h : fRe_findLeaves_19 rc v2 v3 v4 o0 o1 = some r) : Fr (fr_M [7] [5, 6] []) O r := by
  unfold fRe_findLeaves_19 at h
  rcases ifc h with ⟨_, h⟩ | ⟨_, h⟩
  · exact wB_Re_findLeaves_129_o0 H F h
  · rcases ifc h with ⟨_, h⟩ | ⟨_, h⟩
    · exact wB_Re_findLeaves_129_o0 H F h
    · obtain ⟨x_3, _, h⟩ := opq h
      have h := (ifn h).2
      obtain ⟨x_5, _, h⟩ := opq h
      obtain ⟨x_6, _, h⟩ := opq h
      rcases ifc h with ⟨_, h⟩ | ⟨_, h⟩
      · exact wB_Re_findLeaves_64_o0 H F h
      · have h := (ifn h).2
        obtain ⟨x_9, _, h⟩ := opq h
        rcases ifc h with ⟨_, h⟩ | ⟨_, h⟩
        · obtain ⟨q_11, _, h⟩ := bd h
          have h := (ifn h).2
          obtain ⟨o_15, eo_15, h⟩ := opq h
          have Fo_15 : Fr (fr_M [7] [5, 6] []) O o_15 := by rw [eo_15]; exact fr_xp F rfl
          obtain ⟨x_16, _, h⟩ := opq h
          obtain ⟨o_17, eo_17, h⟩ := opq h
          have Fo_17 : Fr (fr_M [7] [5, 6] []) O o_17 := by rw [eo_17]; exact fr_fp Fo_15 rfl
          exact wB_Re_findLeaves_123_o0 H Fo_17 h
        · exact wB_Re_findLeaves_64_o0 H F h
theorem wB_Re_findLeaves_0_o0 {O : cf_O} {rc : Nat → Int32 → Int32 → Int32 → cf_O → cf_O → Option ((cf_O))} {v2 : Int32} {o0 : cf_O} {o1 : cf_O} {r : (cf_O)} (H : ∀ (k : Nat) (u2i : Int32) (u3i : Int32) (u4i : Int32) (o0 : cf_O) (o1 : cf_O) (r : (cf_O)), Fr (fr_M [7] [5, 6] []) O o0 → rc k u2i u3i u4i o0 o1 = some r → Fr (fr_M [7] [5, 6] []) O r) (F : Fr (fr_M [7] [5, 6] []) O o0) (h : fRe_findLeaves_0 rc v2 o0 o1 = some r) : Fr (fr_M [7] [5, 6] []) O r := by
  unfold fRe_findLeaves_0 at h
  obtain ⟨o_1, eo_1, h⟩ := opq h
  have Fo_1 : Fr (fr_M [7] [5, 6] []) O o_1 := by rw [eo_1]; exact fr_fp F rfl
  obtain ⟨x_2, _, h⟩ := opq h
  have h := (ifn h).2
  obtain ⟨o_4, eo_4, h⟩ := opq h
  have Fo_4 : Fr (fr_M [7] [5, 6] []) O o_4 := by rw [eo_4]; exact fr_xp Fo_1 rfl
  exact H _ _ _ _ _ _ _ Fo_4 h
theorem wG_Re_findLeaves_o0 {O : cf_O} : ∀ (n k : Nat) (u2i : Int32) (u3i : Int32) (u4i : Int32) (o0 : cf_O) (o1 : cf_O) (r : (cf_O)), Fr (fr_M [7] [5, 6] []) O o0 → gRe_findLeaves n k u2i u3i u4i o0 o1 = some r → Fr (fr_M [7] [5, 6] []) O r := by
  intro n
  induction n with
  | zero => intro k u2i u3i u4i o0 o1 r F h; cases h
  | succ n ih =>
    intro k u2i u3i u4i o0 o1 r F h
    cases k with
    | zero => exact wB_Re_findLeaves_19_o0 (rc := gRe_findLeaves n) ih F h
    | succ k =>
      cases h
theorem wF_Re_findLeaves_o0 {v2 : Int32} {o0 : cf_O} {o1 : cf_O} {r : (cf_O)} (h : fRe_findLeaves v2 o0 o1 = some r) : Fr (fr_M [7] [5, 6] []) o0 r := by
  unfold fRe_findLeaves at h
  exact wB_Re_findLeaves_0_o0 (rc := gRe_findLeaves cfFU) (fun k u2i u3i u4i o0 o1 r F h => wG_Re_findLeaves_o0 cfFU k u2i u3i u4i o0 o1 r F h) fr_rfl h
theorem wB_Re_takeLeast_69_o0 {O : cf_O} {rc : Nat → Int32 → Int32 → Int32 → cf_O → cf_O → Option ((Int32 × cf_O))} {v3 : Int32} {v4 : Int32} {o0 : cf_O} {o1 : cf_O} {r : (Int32 × cf_O)} (H : ∀ (k : Nat) (u2i : Int32) (u3i : Int32) (u4i : Int32) (o0 : cf_O) (o1 : cf_O) (r : (Int32 × cf_O)), Fr (fr_M [7] [6] []) O o0 → rc k u2i u3i u4i o0 o1 = some r → Fr (fr_M [7] [6] []) O r.2) (F : Fr (fr_M [7] [6] []) O o0) (h : fRe_takeLeast_69 rc v3 v4 o0 o1 = some r) : Fr (fr_M [7] [6] []) O r.2 := by
  unfold fRe_takeLeast_69 at h
  rcases ifc h with ⟨_, h⟩ | ⟨_, h⟩
  · rw [← Option.some.inj h]
    exact F
  · obtain ⟨x_2, _, h⟩ := opq h
    have h := (ifn h).2
    obtain ⟨x_4, _, h⟩ := opq h
    have h := (ifn h).2
    obtain ⟨o_6, eo_6, h⟩ := opq h
    have Fo_6 : Fr (fr_M [7] [6] []) O o_6 := by rw [eo_6]; exact fr_xp F rfl
    obtain ⟨x_7, _, h⟩ := opq h
    exact H _ _ _ _ _ _ _ Fo_6 h
theorem wB_Re_takeLeast_43_o0 {O : cf_O} {rc : Nat → Int32 → Int32 → Int32 → cf_O → cf_O → Option ((Int32 × cf_O))} {v2 : Int32} {v3 : Int32} {o0 : cf_O} {o1 : cf_O} {r : (Int32 × cf_O)} (H : ∀ (k : Nat) (u2i : Int32) (u3i : Int32) (u4i : Int32) (o0 : cf_O) (o1 : cf_O) (r : (Int32 × cf_O)), Fr (fr_M [7] [6] []) O o0 → rc k u2i u3i u4i o0 o1 = some r → Fr (fr_M [7] [6] []) O r.2) (F : Fr (fr_M [7] [6] []) O o0) (h : fRe_takeLeast_43 rc v2 v3 o0 o1 = some r) : Fr (fr_M [7] [6] []) O r.2 := by
  unfold fRe_takeLeast_43 at h
  obtain ⟨x_1, _, h⟩ := opq h
  exact H _ _ _ _ _ _ _ F h
theorem wB_Re_takeLeast_4_o0 {O : cf_O} {rc : Nat → Int32 → Int32 → Int32 → cf_O → cf_O → Option ((Int32 × cf_O))} {v2 : Int32} {v3 : Int32} {o0 : cf_O} {o1 : cf_O} {r : (Int32 × cf_O)} (H : ∀ (k : Nat) (u2i : Int32) (u3i : Int32) (u4i : Int32) (o0 : cf_O) (o1 : cf_O) (r : (Int32 × cf_O)), Fr (fr_M [7] [6] []) O o0 → rc k u2i u3i u4i o0 o1 = some r → Fr (fr_M [7] [6] []) O r.2) (F : Fr (fr_M [7] [6] []) O o0) (h : fRe_takeLeast_4 rc v2 v3 o0 o1 = some r) : Fr (fr_M [7] [6] []) O r.2 := by
  unfold fRe_takeLeast_4 at h
  rcases ifc h with ⟨_, h⟩ | ⟨_, h⟩
  · have h := (ifn h).2
    obtain ⟨x_3, _, h⟩ := opq h
    obtain ⟨x_4, _, h⟩ := opq h
    obtain ⟨o_5, eo_5, h⟩ := opq h
    have Fo_5 : Fr (fr_M [7] [6] []) O o_5 := by rw [eo_5]; exact fr_fp F rfl
    exact H _ _ _ _ _ _ _ Fo_5 h
  · have h := (ifn h).2
    obtain ⟨x_7, _, h⟩ := opq h
    obtain ⟨x_8, _, h⟩ := opq h
    have h := (ifn h).2
    obtain ⟨x_10, _, h⟩ := opq h
    have h := (ifn h).2
    obtain ⟨x_12, _, h⟩ := opq h
    obtain ⟨x_13, _, h⟩ := opq h
    have h := (ifn h).2
    obtain ⟨x_15, _, h⟩ := opq h
    rcases ifc h with ⟨_, h⟩ | ⟨_, h⟩
    · exact wB_Re_takeLeast_43_o0 H F h
    · exact wB_Re_takeLeast_43_o0 H F h
theorem wB_Re_takeLeast_0_o0 {O : cf_O} {rc : Nat → Int32 → Int32 → Int32 → cf_O → cf_O → Option ((Int32 × cf_O))} {o0 : cf_O} {o1 : cf_O} {r : (Int32 × cf_O)} (H : ∀ (k : Nat) (u2i : Int32) (u3i : Int32) (u4i : Int32) (o0 : cf_O) (o1 : cf_O) (r : (Int32 × cf_O)), Fr (fr_M [7] [6] []) O o0 → rc k u2i u3i u4i o0 o1 = some r → Fr (fr_M [7] [6] []) O r.2) (F : Fr (fr_M [7] [6] []) O o0) (h : fRe_takeLeast_0 rc o0 o1 = some r) : Fr (fr_M [7] [6] []) O r.2 := by
  unfold fRe_takeLeast_0 at h
  exact H _ _ _ _ _ _ _ F h
theorem wG_Re_takeLeast_o0 {O : cf_O} : ∀ (n k : Nat) (u2i : Int32) (u3i : Int32) (u4i : Int32) (o0 : cf_O) (o1 : cf_O) (r : (Int32 × cf_O)), Fr (fr_M [7] [6] []) O o0 → gRe_takeLeast n k u2i u3i u4i o0 o1 = some r → Fr (fr_M [7] [6] []) O r.2 := by
  intro n
  induction n with
  | zero => intro k u2i u3i u4i o0 o1 r F h; cases h
  | succ n ih =>
    intro k u2i u3i u4i o0 o1 r F h
    cases k with
    | zero => exact wB_Re_takeLeast_4_o0 (rc := gRe_takeLeast n) ih F h
    | succ k =>
      cases k with
      | zero => exact wB_Re_takeLeast_69_o0 (rc := gRe_takeLeast n) ih F h
      | succ k =>
        cases h
theorem wF_Re_takeLeast_o0 {o0 : cf_O} {o1 : cf_O} {r : (Int32 × cf_O)} (h : fRe_takeLeast o0 o1 = some r) : Fr (fr_M [7] [6] []) o0 r.2 := by
  unfold fRe_takeLeast at h
  exact wB_Re_takeLeast_0_o0 (rc := gRe_takeLeast cfFU) (fun k u2i u3i u4i o0 o1 r F h => wG_Re_takeLeast_o0 cfFU k u2i u3i u4i o0 o1 r F h) fr_rfl h
theorem wB_Re_joinRow_62_o0 {O : cf_O} {rc : Nat → Int32 → cf_O → cf_O → Option ((Int32 × cf_O × cf_O))} {o0 : cf_O} {o1 : cf_O} {r : (Int32 × cf_O × cf_O)} (H : ∀ (k : Nat) (u2i : Int32) (o0 : cf_O) (o1 : cf_O) (r : (Int32 × cf_O × cf_O)), Fr (fr_M [7] [6] []) O o0 → rc k u2i o0 o1 = some r → Fr (fr_M [7] [6] []) O r.2.1) (F : Fr (fr_M [7] [6] []) O o0) (h : fRe_joinRow_62 rc o0 o1 = some r) : Fr (fr_M [7] [6] []) O r.2.1 := by
  unfold fRe_joinRow_62 at h
  have h := (ifn h).2
  obtain ⟨x_2, _, h⟩ := opq h
  rw [← Option.some.inj h]
  exact F
theorem wB_Re_joinRow_2_o0 {O : cf_O} {rc : Nat → Int32 → cf_O → cf_O → Option ((Int32 × cf_O × cf_O))} {v2 : Int32} {o0 : cf_O} {o1 : cf_O} {r : (Int32 × cf_O × cf_O)} (H : ∀ (k : Nat) (u2i : Int32) (o0 : cf_O) (o1 : cf_O) (r : (Int32 × cf_O × cf_O)), Fr (fr_M [7] [6] []) O o0 → rc k u2i o0 o1 = some r → Fr (fr_M [7] [6] []) O r.2.1) (F : Fr (fr_M [7] [6] []) O o0) (h : fRe_joinRow_2 rc v2 o0 o1 = some r) : Fr (fr_M [7] [6] []) O r.2.1 := by
  unfold fRe_joinRow_2 at h
  rcases ifc h with ⟨_, h⟩ | ⟨_, h⟩
  · exact wB_Re_joinRow_62_o0 H F h
  · rcases ifc h with ⟨_, h⟩ | ⟨_, h⟩
    · exact wB_Re_joinRow_62_o0 H F h
    · obtain ⟨q_3, hq_3, h⟩ := bd h
      have Fq_3 : Fr (fr_M [7] [6] []) O q_3.2 := fr_tr F (wF_Re_takeLeast_o0 hq_3) rfl rfl rfl
      obtain ⟨q_6, hq_6, h⟩ := bd h
      have Fq_6 : Fr (fr_M [7] [6] []) O q_6.2 := fr_tr Fq_3 (wF_Re_takeLeast_o0 hq_6) rfl rfl rfl
      obtain ⟨q_9, _, h⟩ := bd h
      have h := (ifn h).2
      obtain ⟨o_13, eo_13, h⟩ := opq h
      have Fo_13 : Fr (fr_M [7] [6] []) O o_13 := by rw [eo_13]; exact fr_xp Fq_6 rfl
      obtain ⟨x_14, _, h⟩ := opq h
      obtain ⟨o_15, eo_15, h⟩ := opq h
      have Fo_15 : Fr (fr_M [7] [6] []) O o_15 := by rw [eo_15]; exact fr_fp Fo_13 rfl
      obtain ⟨x_16, _, h⟩ := opq h
      exact H _ _ _ _ _ Fo_15 h
theorem wB_Re_joinRow_0_o0 {O : cf_O} {rc : Nat → Int32 → cf_O → cf_O → Option ((Int32 × cf_O × cf_O))} {o0 : cf_O} {o1 : cf_O} {r : (Int32 × cf_O × cf_O)} (H : ∀ (k : Nat) (u2i : Int32) (o0 : cf_O) (o1 : cf_O) (r : (Int32 × cf_O × cf_O)), Fr (fr_M [7] [6] []) O o0 → rc k u2i o0 o1 = some r → Fr (fr_M [7] [6] []) O r.2.1) (F : Fr (fr_M [7] [6] []) O o0) (h : fRe_joinRow_0 rc o0 o1 = some r) : Fr (fr_M [7] [6] []) O r.2.1 := by
  unfold fRe_joinRow_0 at h
  exact H _ _ _ _ _ F h
theorem wG_Re_joinRow_o0 {O : cf_O} : ∀ (n k : Nat) (u2i : Int32) (o0 : cf_O) (o1 : cf_O) (r : (Int32 × cf_O × cf_O)), Fr (fr_M [7] [6] []) O o0 → gRe_joinRow n k u2i o0 o1 = some r → Fr (fr_M [7] [6] []) O r.2.1 := by
  intro n
  induction n with
  | zero => intro k u2i o0 o1 r F h; cases h
  | succ n ih =>
    intro k u2i o0 o1 r F h
    cases k with
    | zero => exact wB_Re_joinRow_2_o0 (rc := gRe_joinRow n) ih F h
    | succ k =>
      cases h
theorem wF_Re_joinRow_o0 {o0 : cf_O} {o1 : cf_O} {r : (Int32 × cf_O × cf_O)} (h : fRe_joinRow o0 o1 = some r) : Fr (fr_M [7] [6] []) o0 r.2.1 := by
  unfold fRe_joinRow at h
  exact wB_Re_joinRow_0_o0 (rc := gRe_joinRow cfFU) (fun k u2i o0 o1 r F h => wG_Re_joinRow_o0 cfFU k u2i o0 o1 r F h) fr_rfl h
theorem wB_Re_use_0_o0 {O : cf_O} {v1 : Int32} {o0 : cf_O} {r : (cf_O)} (F : Fr (fr_M [] [0, 1] []) O o0) (h : fRe_use_0 v1 o0 = some r) : Fr (fr_M [] [0, 1] []) O r := by
  unfold fRe_use_0 at h
  obtain ⟨x_1, _, h⟩ := opq h
  have h := (ifn h).2
  obtain ⟨o_3, eo_3, h⟩ := opq h
  have Fo_3 : Fr (fr_M [] [0, 1] []) O o_3 := by rw [eo_3]; exact fr_xp F rfl
  obtain ⟨x_4, _, h⟩ := opq h
  have h := (ifn h).2
  obtain ⟨x_6, _, h⟩ := opq h
  obtain ⟨x_7, _, h⟩ := opq h
  have h := (ifn h).2
  obtain ⟨o_9, eo_9, h⟩ := opq h
  have Fo_9 : Fr (fr_M [] [0, 1] []) O o_9 := by rw [eo_9]; exact fr_xp Fo_3 rfl
  rw [← Option.some.inj h]
  exact Fo_9
theorem wF_Re_use_o0 {v1 : Int32} {o0 : cf_O} {r : (cf_O)} (h : fRe_use v1 o0 = some r) : Fr (fr_M [] [0, 1] []) o0 r := by
  unfold fRe_use at h
  exact wB_Re_use_0_o0 fr_rfl h
theorem wB_Re_begin_121_o0 {O : cf_O} {rc : Nat → Int32 → cf_O → cf_O → cf_O → Option ((cf_O × cf_O))} {v3 : Int32} {o0 : cf_O} {o1 : cf_O} {o2 : cf_O} {r : (cf_O × cf_O)} (H : ∀ (k : Nat) (u3i : Int32) (o0 : cf_O) (o1 : cf_O) (o2 : cf_O) (r : (cf_O × cf_O)), Fr (fr_M [] [0, 1, 4] []) O o0 → rc k u3i o0 o1 o2 = some r → Fr (fr_M [] [0, 1, 4] []) O r.1) (F : Fr (fr_M [] [0, 1, 4] []) O o0) (h : fRe_begin_121 rc v3 o0 o1 o2 = some r) : Fr (fr_M [] [0, 1, 4] []) O r.1 := by
  unfold fRe_begin_121 at h
  obtain ⟨x_1, _, h⟩ := opq h
  exact H _ _ _ _ _ _ F h
theorem wB_Re_begin_84_o0 {O : cf_O} {rc : Nat → Int32 → cf_O → cf_O → cf_O → Option ((cf_O × cf_O))} {v3 : Int32} {o0 : cf_O} {o1 : cf_O} {o2 : cf_O} {r : (cf_O × cf_O)} (H : ∀ (k : Nat) (u3i : Int32) (o0 : cf_O) (o1 : cf_O) (o2 : cf_O) (r : (cf_O × cf_O)), Fr (fr_M [] [0, 1, 4] []) O o0 → rc k u3i o0 o1 o2 = some r → Fr (fr_M [] [0, 1, 4] []) O r.1) (F : Fr (fr_M [] [0, 1, 4] []) O o0) (h : fRe_begin_84 rc v3 o0 o1 o2 = some r) : Fr (fr_M [] [0, 1, 4] []) O r.1 := by
  unfold fRe_begin_84 at h
  rcases ifc h with ⟨_, h⟩ | ⟨_, h⟩
  · rw [← Option.some.inj h]
    exact F
  · have h := (ifn h).2
    obtain ⟨x_3, _, h⟩ := opq h
    rcases ifc h with ⟨_, h⟩ | ⟨_, h⟩
    · exact wB_Re_begin_121_o0 H F h
    · have h := (ifn h).2
      obtain ⟨x_6, _, h⟩ := opq h
      obtain ⟨q_7, hq_7, h⟩ := bd h
      have Fq_7 : Fr (fr_M [] [0, 1, 4] []) O q_7 := fr_tr F (wF_Re_use_o0 hq_7) rfl rfl rfl
      have h := (ifn h).2
      obtain ⟨x_10, _, h⟩ := opq h
      obtain ⟨q_11, hq_11, h⟩ := bd h
      have Fq_11 : Fr (fr_M [] [0, 1, 4] []) O q_11 := fr_tr Fq_7 (wF_Re_use_o0 hq_11) rfl rfl rfl
      exact wB_Re_begin_121_o0 H Fq_11 h
theorem wB_Re_begin_53_o0 {O : cf_O} {rc : Nat → Int32 → cf_O → cf_O → cf_O → Option ((cf_O × cf_O))} {v3 : Int32} {o0 : cf_O} {o1 : cf_O} {o2 : cf_O} {r : (cf_O × cf_O)} (H : ∀ (k : Nat) (u3i : Int32) (o0 : cf_O) (o1 : cf_O) (o2 : cf_O) (r : (cf_O × cf_O)), Fr (fr_M [] [0, 1, 4] []) O o0 → rc k u3i o0 o1 o2 = some r → Fr (fr_M [] [0, 1, 4] []) O r.1) (F : Fr (fr_M [] [0, 1, 4] []) O o0) (h : fRe_begin_53 rc v3 o0 o1 o2 = some r) : Fr (fr_M [] [0, 1, 4] []) O r.1 := by
  unfold fRe_begin_53 at h
  rcases ifc h with ⟨_, h⟩ | ⟨_, h⟩
  · obtain ⟨q_2, _, h⟩ := bd h
    obtain ⟨x_5, _, h⟩ := opq h
    exact H _ _ _ _ _ _ F h
  · have h := (ifn h).2
    obtain ⟨x_7, _, h⟩ := opq h
    obtain ⟨q_8, hq_8, h⟩ := bd h
    have Fq_8 : Fr (fr_M [] [0, 1, 4] []) O q_8 := fr_tr F (wF_Re_use_o0 hq_8) rfl rfl rfl
    obtain ⟨x_10, _, h⟩ := opq h
    exact H _ _ _ _ _ _ Fq_8 h
theorem wB_Re_begin_14_o0 {O : cf_O} {rc : Nat → Int32 → cf_O → cf_O → cf_O → Option ((cf_O × cf_O))} {v3 : Int32} {o0 : cf_O} {o1 : cf_O} {o2 : cf_O} {r : (cf_O × cf_O)} (H : ∀ (k : Nat) (u3i : Int32) (o0 : cf_O) (o1 : cf_O) (o2 : cf_O) (r : (cf_O × cf_O)), Fr (fr_M [] [0, 1, 4] []) O o0 → rc k u3i o0 o1 o2 = some r → Fr (fr_M [] [0, 1, 4] []) O r.1) (F : Fr (fr_M [] [0, 1, 4] []) O o0) (h : fRe_begin_14 rc v3 o0 o1 o2 = some r) : Fr (fr_M [] [0, 1, 4] []) O r.1 := by
  unfold fRe_begin_14 at h
  obtain ⟨q_1, _, h⟩ := bd h
  rcases ifc h with ⟨_, h⟩ | ⟨_, h⟩
  · exact H _ _ _ _ _ _ F h
  · have h := (ifn h).2
    obtain ⟨o_6, eo_6, h⟩ := opq h
    have Fo_6 : Fr (fr_M [] [0, 1, 4] []) O o_6 := by rw [eo_6]; exact fr_xp F rfl
    have h := (ifn h).2
    obtain ⟨o_8, eo_8, h⟩ := opq h
    have Fo_8 : Fr (fr_M [] [0, 1, 4] []) O o_8 := by rw [eo_8]; exact fr_xp Fo_6 rfl
    obtain ⟨x_9, _, h⟩ := opq h
    have h := (ifn h).2
    obtain ⟨o_11, eo_11, h⟩ := opq h
    have Fo_11 : Fr (fr_M [] [0, 1, 4] []) O o_11 := by rw [eo_11]; exact fr_xp Fo_8 rfl
    obtain ⟨x_12, _, h⟩ := opq h
    exact H _ _ _ _ _ _ Fo_11 h
theorem wB_Re_begin_0_o0 {O : cf_O} {rc : Nat → Int32 → cf_O → cf_O → cf_O → Option ((cf_O × cf_O))} {o0 : cf_O} {o1 : cf_O} {o2 : cf_O} {r : (cf_O × cf_O)} (H : ∀ (k : Nat) (u3i : Int32) (o0 : cf_O) (o1 : cf_O) (o2 : cf_O) (r : (cf_O × cf_O)), Fr (fr_M [] [0, 1, 4] []) O o0 → rc k u3i o0 o1 o2 = some r → Fr (fr_M [] [0, 1, 4] []) O r.1) (F : Fr (fr_M [] [0, 1, 4] []) O o0) (h : fRe_begin_0 rc o0 o1 o2 = some r) : Fr (fr_M [] [0, 1, 4] []) O r.1 := by
  unfold fRe_begin_0 at h
  obtain ⟨q_1, _, h⟩ := bd h
  exact H _ _ _ _ _ _ F h
theorem wG_Re_begin_o0 {O : cf_O} : ∀ (n k : Nat) (u3i : Int32) (o0 : cf_O) (o1 : cf_O) (o2 : cf_O) (r : (cf_O × cf_O)), Fr (fr_M [] [0, 1, 4] []) O o0 → gRe_begin n k u3i o0 o1 o2 = some r → Fr (fr_M [] [0, 1, 4] []) O r.1 := by
  intro n
  induction n with
  | zero => intro k u3i o0 o1 o2 r F h; cases h
  | succ n ih =>
    intro k u3i o0 o1 o2 r F h
    cases k with
    | zero => exact wB_Re_begin_14_o0 (rc := gRe_begin n) ih F h
    | succ k =>
      cases k with
      | zero => exact wB_Re_begin_53_o0 (rc := gRe_begin n) ih F h
      | succ k =>
        cases k with
        | zero => exact wB_Re_begin_84_o0 (rc := gRe_begin n) ih F h
        | succ k =>
          cases h
theorem wF_Re_begin_o0 {o0 : cf_O} {o1 : cf_O} {o2 : cf_O} {r : (cf_O × cf_O)} (h : fRe_begin o0 o1 o2 = some r) : Fr (fr_M [] [0, 1, 4] []) o0 r.1 := by
  unfold fRe_begin at h
  exact wB_Re_begin_0_o0 (rc := gRe_begin cfFU) (fun k u3i o0 o1 o2 r F h => wG_Re_begin_o0 cfFU k u3i o0 o1 o2 r F h) fr_rfl h
theorem wB_Re_markApart_38_o0 {O : cf_O} {s1 : Int32} {s2 : Int32} {o0 : cf_O} {o1 : cf_O} {r : (cf_O)} (F : Fr (fr_M [] [3] []) O o0) (h : fRe_markApart_38 s1 s2 o0 o1 = some r) : Fr (fr_M [] [3] []) O r := by
  unfold fRe_markApart_38 at h
  have h := (ifn h).2
  obtain ⟨o_2, eo_2, h⟩ := opq h
  have Fo_2 : Fr (fr_M [] [3] []) O o_2 := by rw [eo_2]; exact fr_xp F rfl
  rw [← Option.some.inj h]
  exact Fo_2
theorem wB_Re_markApart_37_o0 {O : cf_O} {s1 : Int32} {o0 : cf_O} {o1 : cf_O} {r : (cf_O)} (F : Fr (fr_M [] [3] []) O o0) (h : fRe_markApart_37 s1 o0 o1 = some r) : Fr (fr_M [] [3] []) O r := by
  unfold fRe_markApart_37 at h
  exact wB_Re_markApart_38_o0 F h
theorem wB_Re_markApart_0_o0 {O : cf_O} {v2 : Int32} {o0 : cf_O} {o1 : cf_O} {r : (cf_O)} (F : Fr (fr_M [] [3] []) O o0) (h : fRe_markApart_0 v2 o0 o1 = some r) : Fr (fr_M [] [3] []) O r := by
  unfold fRe_markApart_0 at h
  obtain ⟨x_1, _, h⟩ := opq h
  obtain ⟨x_2, _, h⟩ := opq h
  rcases ifc h with ⟨_, h⟩ | ⟨_, h⟩
  · obtain ⟨q_4, _, h⟩ := bd h
    rcases ifc h with ⟨_, h⟩ | ⟨_, h⟩
    · exact wB_Re_markApart_37_o0 F h
    · have h := (ifn h).2
      obtain ⟨x_9, _, h⟩ := opq h
      rcases ifc h with ⟨_, h⟩ | ⟨_, h⟩
      · exact wB_Re_markApart_38_o0 F h
      · exact wB_Re_markApart_37_o0 F h
  · exact wB_Re_markApart_37_o0 F h
theorem wF_Re_markApart_o0 {v2 : Int32} {o0 : cf_O} {o1 : cf_O} {r : (cf_O)} (h : fRe_markApart v2 o0 o1 = some r) : Fr (fr_M [] [3] []) o0 r := by
  unfold fRe_markApart at h
  exact wB_Re_markApart_0_o0 fr_rfl h
theorem wB_Re_findApart_53_o0 {O : cf_O} {rc : Nat → Int32 → cf_O → cf_O → Option ((cf_O))} {v2 : Int32} {o0 : cf_O} {o1 : cf_O} {r : (cf_O)} (H : ∀ (k : Nat) (u2i : Int32) (o0 : cf_O) (o1 : cf_O) (r : (cf_O)), Fr (fr_M [] [3] []) O o0 → rc k u2i o0 o1 = some r → Fr (fr_M [] [3] []) O r) (F : Fr (fr_M [] [3] []) O o0) (h : fRe_findApart_53 rc v2 o0 o1 = some r) : Fr (fr_M [] [3] []) O r := by
  unfold fRe_findApart_53 at h
  obtain ⟨x_1, _, h⟩ := opq h
  exact H _ _ _ _ _ F h
theorem wB_Re_findApart_7_o0 {O : cf_O} {rc : Nat → Int32 → cf_O → cf_O → Option ((cf_O))} {v2 : Int32} {o0 : cf_O} {o1 : cf_O} {r : (cf_O)} (H : ∀ (k : Nat) (u2i : Int32) (o0 : cf_O) (o1 : cf_O) (r : (cf_O)), Fr (fr_M [] [3] []) O o0 → rc k u2i o0 o1 = some r → Fr (fr_M [] [3] []) O r) (F : Fr (fr_M [] [3] []) O o0) (h : fRe_findApart_7 rc v2 o0 o1 = some r) : Fr (fr_M [] [3] []) O r := by
  unfold fRe_findApart_7 at h
  obtain ⟨q_1, _, h⟩ := bd h
  rcases ifc h with ⟨_, h⟩ | ⟨_, h⟩
  · rw [← Option.some.inj h]
    exact F
  · have h := (ifn h).2
    obtain ⟨o_6, eo_6, h⟩ := opq h
    have Fo_6 : Fr (fr_M [] [3] []) O o_6 := by rw [eo_6]; exact fr_xp F rfl
    have h := (ifn h).2
    obtain ⟨x_8, _, h⟩ := opq h
    rcases ifc h with ⟨_, h⟩ | ⟨_, h⟩
    · exact wB_Re_findApart_53_o0 H Fo_6 h
    · have h := (ifn h).2
      obtain ⟨x_11, _, h⟩ := opq h
      obtain ⟨q_12, hq_12, h⟩ := bd h
      have Fq_12 : Fr (fr_M [] [3] []) O q_12 := fr_tr Fo_6 (wF_Re_markApart_o0 hq_12) rfl rfl rfl
      have h := (ifn h).2
      obtain ⟨x_15, _, h⟩ := opq h
      obtain ⟨q_16, hq_16, h⟩ := bd h
      have Fq_16 : Fr (fr_M [] [3] []) O q_16 := fr_tr Fq_12 (wF_Re_markApart_o0 hq_16) rfl rfl rfl
      exact wB_Re_findApart_53_o0 H Fq_16 h
theorem wB_Re_findApart_0_o0 {O : cf_O} {rc : Nat → Int32 → cf_O → cf_O → Option ((cf_O))} {o0 : cf_O} {o1 : cf_O} {r : (cf_O)} (H : ∀ (k : Nat) (u2i : Int32) (o0 : cf_O) (o1 : cf_O) (r : (cf_O)), Fr (fr_M [] [3] []) O o0 → rc k u2i o0 o1 = some r → Fr (fr_M [] [3] []) O r) (F : Fr (fr_M [] [3] []) O o0) (h : fRe_findApart_0 rc o0 o1 = some r) : Fr (fr_M [] [3] []) O r := by
  unfold fRe_findApart_0 at h
  obtain ⟨x_1, _, h⟩ := opq h
  exact H _ _ _ _ _ F h
theorem wG_Re_findApart_o0 {O : cf_O} : ∀ (n k : Nat) (u2i : Int32) (o0 : cf_O) (o1 : cf_O) (r : (cf_O)), Fr (fr_M [] [3] []) O o0 → gRe_findApart n k u2i o0 o1 = some r → Fr (fr_M [] [3] []) O r := by
  intro n
  induction n with
  | zero => intro k u2i o0 o1 r F h; cases h
  | succ n ih =>
    intro k u2i o0 o1 r F h
    cases k with
    | zero => exact wB_Re_findApart_7_o0 (rc := gRe_findApart n) ih F h
    | succ k =>
      cases h
theorem wF_Re_findApart_o0 {o0 : cf_O} {o1 : cf_O} {r : (cf_O)} (h : fRe_findApart o0 o1 = some r) : Fr (fr_M [] [3] []) o0 r := by
  unfold fRe_findApart at h
  exact wB_Re_findApart_0_o0 (rc := gRe_findApart cfFU) (fun k u2i o0 o1 r F h => wG_Re_findApart_o0 cfFU k u2i o0 o1 r F h) fr_rfl h
theorem wB_Re_makeBalanced_61_o0 {O : cf_O} {rc : Nat → Int32 → cf_O → cf_O → cf_O → Option ((cf_O × cf_O))} {v3 : Int32} {o0 : cf_O} {o1 : cf_O} {o2 : cf_O} {r : (cf_O × cf_O)} (H : ∀ (k : Nat) (u3i : Int32) (o0 : cf_O) (o1 : cf_O) (o2 : cf_O) (r : (cf_O × cf_O)), Fr (fr_M [7] [0, 1, 3, 4, 5, 6] []) O o0 → rc k u3i o0 o1 o2 = some r → Fr (fr_M [7] [0, 1, 3, 4, 5, 6] []) O r.1) (F : Fr (fr_M [7] [0, 1, 3, 4, 5, 6] []) O o0) (h : fRe_makeBalanced_61 rc v3 o0 o1 o2 = some r) : Fr (fr_M [7] [0, 1, 3, 4, 5, 6] []) O r.1 := by
  unfold fRe_makeBalanced_61 at h
  obtain ⟨x_1, _, h⟩ := opq h
  exact H _ _ _ _ _ _ F h
theorem wB_Re_makeBalanced_18_o0 {O : cf_O} {rc : Nat → Int32 → cf_O → cf_O → cf_O → Option ((cf_O × cf_O))} {v3 : Int32} {o0 : cf_O} {o1 : cf_O} {o2 : cf_O} {r : (cf_O × cf_O)} (H : ∀ (k : Nat) (u3i : Int32) (o0 : cf_O) (o1 : cf_O) (o2 : cf_O) (r : (cf_O × cf_O)), Fr (fr_M [7] [0, 1, 3, 4, 5, 6] []) O o0 → rc k u3i o0 o1 o2 = some r → Fr (fr_M [7] [0, 1, 3, 4, 5, 6] []) O r.1) (F : Fr (fr_M [7] [0, 1, 3, 4, 5, 6] []) O o0) (h : fRe_makeBalanced_18 rc v3 o0 o1 o2 = some r) : Fr (fr_M [7] [0, 1, 3, 4, 5, 6] []) O r.1 := by
  unfold fRe_makeBalanced_18 at h
  obtain ⟨q_1, _, h⟩ := bd h
  rcases ifc h with ⟨_, h⟩ | ⟨_, h⟩
  · obtain ⟨q_5, _, h⟩ := bd h
    rw [← Option.some.inj h]
    exact F
  · have h := (ifn h).2
    obtain ⟨x_8, _, h⟩ := opq h
    rcases ifc h with ⟨_, h⟩ | ⟨_, h⟩
    · exact wB_Re_makeBalanced_61_o0 H F h
    · have h := (ifn h).2
      obtain ⟨x_11, _, h⟩ := opq h
      rcases ifc h with ⟨_, h⟩ | ⟨_, h⟩
      · obtain ⟨q_13, hq_13, h⟩ := bd h
        have Fq_13 : Fr (fr_M [7] [0, 1, 3, 4, 5, 6] []) O q_13 := fr_tr F (wF_Re_findLeaves_o0 hq_13) rfl rfl rfl
        obtain ⟨q_15, hq_15, h⟩ := bd h
        have Fq_15 : Fr (fr_M [7] [0, 1, 3, 4, 5, 6] []) O q_15.2.1 := fr_tr Fq_13 (wF_Re_joinRow_o0 hq_15) rfl rfl rfl
        have h := (ifn h).2
        obtain ⟨o_19, eo_19, h⟩ := opq h
        have Fo_19 : Fr (fr_M [7] [0, 1, 3, 4, 5, 6] []) O o_19 := by rw [eo_19]; exact fr_xp Fq_15 rfl
        exact wB_Re_makeBalanced_61_o0 H Fo_19 h
      · exact wB_Re_makeBalanced_61_o0 H F h
theorem wB_Re_makeBalanced_0_o0 {O : cf_O} {rc : Nat → Int32 → cf_O → cf_O → cf_O → Option ((cf_O × cf_O))} {o0 : cf_O} {o1 : cf_O} {o2 : cf_O} {r : (cf_O × cf_O)} (H : ∀ (k : Nat) (u3i : Int32) (o0 : cf_O) (o1 : cf_O) (o2 : cf_O) (r : (cf_O × cf_O)), Fr (fr_M [7] [0, 1, 3, 4, 5, 6] []) O o0 → rc k u3i o0 o1 o2 = some r → Fr (fr_M [7] [0, 1, 3, 4, 5, 6] []) O r.1) (F : Fr (fr_M [7] [0, 1, 3, 4, 5, 6] []) O o0) (h : fRe_makeBalanced_0 rc o0 o1 o2 = some r) : Fr (fr_M [7] [0, 1, 3, 4, 5, 6] []) O r.1 := by
  unfold fRe_makeBalanced_0 at h
  obtain ⟨q_1, hq_1, h⟩ := bd h
  have Fq_1 : Fr (fr_M [7] [0, 1, 3, 4, 5, 6] []) O q_1.1 := fr_tr F (wF_Re_begin_o0 hq_1) rfl rfl rfl
  obtain ⟨q_3, hq_3, h⟩ := bd h
  have Fq_3 : Fr (fr_M [7] [0, 1, 3, 4, 5, 6] []) O q_3 := fr_tr Fq_1 (wF_Re_findApart_o0 hq_3) rfl rfl rfl
  obtain ⟨x_5, _, h⟩ := opq h
  exact H _ _ _ _ _ _ Fq_3 h
theorem wG_Re_makeBalanced_o0 {O : cf_O} : ∀ (n k : Nat) (u3i : Int32) (o0 : cf_O) (o1 : cf_O) (o2 : cf_O) (r : (cf_O × cf_O)), Fr (fr_M [7] [0, 1, 3, 4, 5, 6] []) O o0 → gRe_makeBalanced n k u3i o0 o1 o2 = some r → Fr (fr_M [7] [0, 1, 3, 4, 5, 6] []) O r.1 := by
  intro n
  induction n with
  | zero => intro k u3i o0 o1 o2 r F h; cases h
  | succ n ih =>
    intro k u3i o0 o1 o2 r F h
    cases k with
    | zero => exact wB_Re_makeBalanced_18_o0 (rc := gRe_makeBalanced n) ih F h
    | succ k =>
      cases h
theorem wF_Re_makeBalanced_o0 {o0 : cf_O} {o1 : cf_O} {o2 : cf_O} {r : (cf_O × cf_O)} (h : fRe_makeBalanced o0 o1 o2 = some r) : Fr (fr_M [7] [0, 1, 3, 4, 5, 6] []) o0 r.1 := by
  unfold fRe_makeBalanced at h
  exact wB_Re_makeBalanced_0_o0 (rc := gRe_makeBalanced cfFU) (fun k u3i o0 o1 o2 r F h => wG_Re_makeBalanced_o0 cfFU k u3i o0 o1 o2 r F h) fr_rfl h
theorem wB_Re_makeReduced_73_o0 {O : cf_O} {rc : Nat → Int32 → cf_O → cf_O → cf_O → cf_O → Option ((cf_O × cf_O))} {v4 : Int32} {o0 : cf_O} {o1 : cf_O} {o2 : cf_O} {o3 : cf_O} {r : (cf_O × cf_O)} (H : ∀ (k : Nat) (u4i : Int32) (o0 : cf_O) (o1 : cf_O) (o2 : cf_O) (o3 : cf_O) (r : (cf_O × cf_O)), Fr (fr_M [] [0, 1, 4] []) O o0 → rc k u4i o0 o1 o2 o3 = some r → Fr (fr_M [] [0, 1, 4] []) O r.1) (F : Fr (fr_M [] [0, 1, 4] []) O o0) (h : fRe_makeReduced_73 rc v4 o0 o1 o2 o3 = some r) : Fr (fr_M [] [0, 1, 4] []) O r.1 := by
  unfold fRe_makeReduced_73 at h
  obtain ⟨x_1, _, h⟩ := opq h
  exact H _ _ _ _ _ _ _ F h
theorem wB_Re_makeReduced_72_o0 {O : cf_O} {rc : Nat → Int32 → cf_O → cf_O → cf_O → cf_O → Option ((cf_O × cf_O))} {v4 : Int32} {s1 : Int32} {s2 : Int32} {o0 : cf_O} {o1 : cf_O} {o2 : cf_O} {o3 : cf_O} {r : (cf_O × cf_O)} (H : ∀ (k : Nat) (u4i : Int32) (o0 : cf_O) (o1 : cf_O) (o2 : cf_O) (o3 : cf_O) (r : (cf_O × cf_O)), Fr (fr_M [] [0, 1, 4] []) O o0 → rc k u4i o0 o1 o2 o3 = some r → Fr (fr_M [] [0, 1, 4] []) O r.1) (F : Fr (fr_M [] [0, 1, 4] []) O o0) (h : fRe_makeReduced_72 rc v4 s1 s2 o0 o1 o2 o3 = some r) : Fr (fr_M [] [0, 1, 4] []) O r.1 := by
  unfold fRe_makeReduced_72 at h
  have h := (ifn h).2
  obtain ⟨o_2, eo_2, h⟩ := opq h
  have Fo_2 : Fr (fr_M [] [0, 1, 4] []) O o_2 := by rw [eo_2]; exact fr_xp F rfl
  exact wB_Re_makeReduced_73_o0 H Fo_2 h
theorem wB_Re_makeReduced_14_o0 {O : cf_O} {rc : Nat → Int32 → cf_O → cf_O → cf_O → cf_O → Option ((cf_O × cf_O))} {v4 : Int32} {o0 : cf_O} {o1 : cf_O} {o2 : cf_O} {o3 : cf_O} {r : (cf_O × cf_O)} (H : ∀ (k : Nat) (u4i : Int32) (o0 : cf_O) (o1 : cf_O) (o2 : cf_O) (o3 : cf_O) (r : (cf_O × cf_O)), Fr (fr_M [] [0, 1, 4] []) O o0 → rc k u4i o0 o1 o2 o3 = some r → Fr (fr_M [] [0, 1, 4] []) O r.1) (F : Fr (fr_M [] [0, 1, 4] []) O o0) (h : fRe_makeReduced_14 rc v4 o0 o1 o2 o3 = some r) : Fr (fr_M [] [0, 1, 4] []) O r.1 := by
  unfold fRe_makeReduced_14 at h
  obtain ⟨q_1, _, h⟩ := bd h
  rcases ifc h with ⟨_, h⟩ | ⟨_, h⟩
  · obtain ⟨q_5, _, h⟩ := bd h
    rw [← Option.some.inj h]
    exact F
  · have h := (ifn h).2
    obtain ⟨x_8, _, h⟩ := opq h
    rcases ifc h with ⟨_, h⟩ | ⟨_, h⟩
    · exact wB_Re_makeReduced_73_o0 H F h
    · obtain ⟨q_10, _, h⟩ := bd h
      rcases ifc h with ⟨_, h⟩ | ⟨_, h⟩
      · obtain ⟨q_17, _, h⟩ := bd h
        exact wB_Re_makeReduced_72_o0 H F h
      · obtain ⟨q_14, _, h⟩ := bd h
        exact wB_Re_makeReduced_72_o0 H F h
theorem wB_Re_makeReduced_0_o0 {O : cf_O} {rc : Nat → Int32 → cf_O → cf_O → cf_O → cf_O → Option ((cf_O × cf_O))} {o0 : cf_O} {o1 : cf_O} {o2 : cf_O} {o3 : cf_O} {r : (cf_O × cf_O)} (H : ∀ (k : Nat) (u4i : Int32) (o0 : cf_O) (o1 : cf_O) (o2 : cf_O) (o3 : cf_O) (r : (cf_O × cf_O)), Fr (fr_M [] [0, 1, 4] []) O o0 → rc k u4i o0 o1 o2 o3 = some r → Fr (fr_M [] [0, 1, 4] []) O r.1) (F : Fr (fr_M [] [0, 1, 4] []) O o0) (h : fRe_makeReduced_0 rc o0 o1 o2 o3 = some r) : Fr (fr_M [] [0, 1, 4] []) O r.1 := by
  unfold fRe_makeReduced_0 at h
  obtain ⟨q_1, hq_1, h⟩ := bd h
  have Fq_1 : Fr (fr_M [] [0, 1, 4] []) O q_1.1 := fr_tr F (wF_Re_begin_o0 hq_1) rfl rfl rfl
  obtain ⟨x_3, _, h⟩ := opq h
  exact H _ _ _ _ _ _ _ Fq_1 h
theorem wG_Re_makeReduced_o0 {O : cf_O} : ∀ (n k : Nat) (u4i : Int32) (o0 : cf_O) (o1 : cf_O) (o2 : cf_O) (o3 : cf_O) (r : (cf_O × cf_O)), Fr (fr_M [] [0, 1, 4] []) O o0 → gRe_makeReduced n k u4i o0 o1 o2 o3 = some r → Fr (fr_M [] [0, 1, 4] []) O r.1 := by
  intro n
  induction n with
  | zero => intro k u4i o0 o1 o2 o3 r F h; cases h
  | succ n ih =>
    intro k u4i o0 o1 o2 o3 r F h
    cases k with
    | zero => exact wB_Re_makeReduced_14_o0 (rc := gRe_makeReduced n) ih F h
    | succ k =>
      cases h
theorem wF_Re_makeReduced_o0 {o0 : cf_O} {o1 : cf_O} {o2 : cf_O} {o3 : cf_O} {r : (cf_O × cf_O)} (h : fRe_makeReduced o0 o1 o2 o3 = some r) : Fr (fr_M [] [0, 1, 4] []) o0 r.1 := by
  unfold fRe_makeReduced at h
  exact wB_Re_makeReduced_0_o0 (rc := gRe_makeReduced cfFU) (fun k u4i o0 o1 o2 o3 r F h => wG_Re_makeReduced_o0 cfFU k u4i o0 o1 o2 o3 r F h) fr_rfl h
theorem wB_Fu_askInput_92_o0 {O : cf_O} {rc : Nat → Int32 → Int32 → Int32 → Int32 → cf_O → Option ((Int32 × cf_O))} {v1 : Int32} {v2 : Int32} {v3 : Int32} {v4 : Int32} {o0 : cf_O} {r : (Int32 × cf_O)} (H : ∀ (k : Nat) (u1i : Int32) (u2i : Int32) (u3i : Int32) (u4i : Int32) (o0 : cf_O) (r : (Int32 × cf_O)), Fr (fr_M [] [2, 3, 4] []) O o0 → rc k u1i u2i u3i u4i o0 = some r → Fr (fr_M [] [2, 3, 4] []) O r.2) (F : Fr (fr_M [] [2, 3, 4] []) O o0) (h : fFu_askInput_92 rc v1 v2 v3 v4 o0 = some r) : Fr (fr_M [] [2, 3, 4] []) O r.2 := by
  unfold fFu_askInput_92 at h
  obtain ⟨x_1, _, h⟩ := opq h
  exact H _ _ _ _ _ _ _ F h
theorem wB_Fu_askInput_81_o0 {O : cf_O} {rc : Nat → Int32 → Int32 → Int32 → Int32 → cf_O → Option ((Int32 × cf_O))} {v1 : Int32} {v2 : Int32} {v3 : Int32} {v4 : Int32} {v7 : Int32} {o0 : cf_O} {r : (Int32 × cf_O)} (H : ∀ (k : Nat) (u1i : Int32) (u2i : Int32) (u3i : Int32) (u4i : Int32) (o0 : cf_O) (r : (Int32 × cf_O)), Fr (fr_M [] [2, 3, 4] []) O o0 → rc k u1i u2i u3i u4i o0 = some r → Fr (fr_M [] [2, 3, 4] []) O r.2) (F : Fr (fr_M [] [2, 3, 4] []) O o0) (h : fFu_askInput_81 rc v1 v2 v3 v4 v7 o0 = some r) : Fr (fr_M [] [2, 3, 4] []) O r.2 := by
  unfold fFu_askInput_81 at h
  obtain ⟨x_1, _, h⟩ := opq h
  have h := (ifn h).2
  obtain ⟨o_3, eo_3, h⟩ := opq h
  have Fo_3 : Fr (fr_M [] [2, 3, 4] []) O o_3 := by rw [eo_3]; exact fr_xp F rfl
  exact wB_Fu_askInput_92_o0 H Fo_3 h
theorem wB_Fu_askInput_5_o0 {O : cf_O} {rc : Nat → Int32 → Int32 → Int32 → Int32 → cf_O → Option ((Int32 × cf_O))} {v1 : Int32} {v2 : Int32} {v3 : Int32} {v4 : Int32} {o0 : cf_O} {r : (Int32 × cf_O)} (H : ∀ (k : Nat) (u1i : Int32) (u2i : Int32) (u3i : Int32) (u4i : Int32) (o0 : cf_O) (r : (Int32 × cf_O)), Fr (fr_M [] [2, 3, 4] []) O o0 → rc k u1i u2i u3i u4i o0 = some r → Fr (fr_M [] [2, 3, 4] []) O r.2) (F : Fr (fr_M [] [2, 3, 4] []) O o0) (h : fFu_askInput_5 rc v1 v2 v3 v4 o0 = some r) : Fr (fr_M [] [2, 3, 4] []) O r.2 := by
  unfold fFu_askInput_5 at h
  obtain ⟨x_1, _, h⟩ := opq h
  rcases ifc h with ⟨_, h⟩ | ⟨_, h⟩
  · rw [← Option.some.inj h]
    exact F
  · have h := (ifn h).2
    obtain ⟨x_4, _, h⟩ := opq h
    obtain ⟨x_5, _, h⟩ := opq h
    obtain ⟨x_6, _, h⟩ := opq h
    have h := (ifn h).2
    obtain ⟨x_8, _, h⟩ := opq h
    rcases ifc h with ⟨_, h⟩ | ⟨_, h⟩
    · exact wB_Fu_askInput_92_o0 H F h
    · obtain ⟨q_10, _, h⟩ := bd h
      rcases ifc h with ⟨_, h⟩ | ⟨_, h⟩
      · have h := (ifn h).2
        obtain ⟨o_15, eo_15, h⟩ := opq h
        have Fo_15 : Fr (fr_M [] [2, 3, 4] []) O o_15 := by rw [eo_15]; exact fr_xp F rfl
        have h := (ifn h).2
        obtain ⟨o_17, eo_17, h⟩ := opq h
        have Fo_17 : Fr (fr_M [] [2, 3, 4] []) O o_17 := by rw [eo_17]; exact fr_xp Fo_15 rfl
        obtain ⟨x_18, _, h⟩ := opq h
        exact wB_Fu_askInput_81_o0 H Fo_17 h
      · exact wB_Fu_askInput_81_o0 H F h
theorem wB_Fu_askInput_0_o0 {O : cf_O} {rc : Nat → Int32 → Int32 → Int32 → Int32 → cf_O → Option ((Int32 × cf_O))} {v1 : Int32} {v2 : Int32} {o0 : cf_O} {r : (Int32 × cf_O)} (H : ∀ (k : Nat) (u1i : Int32) (u2i : Int32) (u3i : Int32) (u4i : Int32) (o0 : cf_O) (r : (Int32 × cf_O)), Fr (fr_M [] [2, 3, 4] []) O o0 → rc k u1i u2i u3i u4i o0 = some r → Fr (fr_M [] [2, 3, 4] []) O r.2) (F : Fr (fr_M [] [2, 3, 4] []) O o0) (h : fFu_askInput_0 rc v1 v2 o0 = some r) : Fr (fr_M [] [2, 3, 4] []) O r.2 := by
  unfold fFu_askInput_0 at h
  exact H _ _ _ _ _ _ _ F h
theorem wG_Fu_askInput_o0 {O : cf_O} : ∀ (n k : Nat) (u1i : Int32) (u2i : Int32) (u3i : Int32) (u4i : Int32) (o0 : cf_O) (r : (Int32 × cf_O)), Fr (fr_M [] [2, 3, 4] []) O o0 → gFu_askInput n k u1i u2i u3i u4i o0 = some r → Fr (fr_M [] [2, 3, 4] []) O r.2 := by
  intro n
  induction n with
  | zero => intro k u1i u2i u3i u4i o0 r F h; cases h
  | succ n ih =>
    intro k u1i u2i u3i u4i o0 r F h
    cases k with
    | zero => exact wB_Fu_askInput_5_o0 (rc := gFu_askInput n) ih F h
    | succ k =>
      cases h
theorem wF_Fu_askInput_o0 {v1 : Int32} {v2 : Int32} {o0 : cf_O} {r : (Int32 × cf_O)} (h : fFu_askInput v1 v2 o0 = some r) : Fr (fr_M [] [2, 3, 4] []) o0 r.2 := by
  unfold fFu_askInput at h
  exact wB_Fu_askInput_0_o0 (rc := gFu_askInput cfFU) (fun k u1i u2i u3i u4i o0 r F h => wG_Fu_askInput_o0 cfFU k u1i u2i u3i u4i o0 r F h) fr_rfl h
theorem wB_Fu_questions_34_o0 {O : cf_O} {rc : Nat → Int32 → Int32 → Int32 → Int32 → cf_O → Option ((Int32 × cf_O))} {v3 : Int32} {v4 : Int32} {o0 : cf_O} {r : (Int32 × cf_O)} (H : ∀ (k : Nat) (u1i : Int32) (u2i : Int32) (u3i : Int32) (u4i : Int32) (o0 : cf_O) (r : (Int32 × cf_O)), Fr (fr_M [] [2, 3, 4] []) O o0 → rc k u1i u2i u3i u4i o0 = some r → Fr (fr_M [] [2, 3, 4] []) O r.2) (F : Fr (fr_M [] [2, 3, 4] []) O o0) (h : fFu_questions_34 rc v3 v4 o0 = some r) : Fr (fr_M [] [2, 3, 4] []) O r.2 := by
  unfold fFu_questions_34 at h
  rcases ifc h with ⟨_, h⟩ | ⟨_, h⟩
  · rw [← Option.some.inj h]
    exact F
  · obtain ⟨x_2, _, h⟩ := opq h
    obtain ⟨q_3, hq_3, h⟩ := bd h
    have Fq_3 : Fr (fr_M [] [2, 3, 4] []) O q_3.2 := fr_tr F (wF_Fu_askInput_o0 hq_3) rfl rfl rfl
    obtain ⟨x_6, _, h⟩ := opq h
    obtain ⟨x_7, _, h⟩ := opq h
    exact H _ _ _ _ _ _ _ Fq_3 h
theorem wB_Fu_questions_2_o0 {O : cf_O} {rc : Nat → Int32 → Int32 → Int32 → Int32 → cf_O → Option ((Int32 × cf_O))} {v1 : Int32} {v2 : Int32} {v3 : Int32} {o0 : cf_O} {r : (Int32 × cf_O)} (H : ∀ (k : Nat) (u1i : Int32) (u2i : Int32) (u3i : Int32) (u4i : Int32) (o0 : cf_O) (r : (Int32 × cf_O)), Fr (fr_M [] [2, 3, 4] []) O o0 → rc k u1i u2i u3i u4i o0 = some r → Fr (fr_M [] [2, 3, 4] []) O r.2) (F : Fr (fr_M [] [2, 3, 4] []) O o0) (h : fFu_questions_2 rc v1 v2 v3 o0 = some r) : Fr (fr_M [] [2, 3, 4] []) O r.2 := by
  unfold fFu_questions_2 at h
  obtain ⟨x_1, _, h⟩ := opq h
  rcases ifc h with ⟨_, h⟩ | ⟨_, h⟩
  · obtain ⟨x_3, _, h⟩ := opq h
    exact H _ _ _ _ _ _ _ F h
  · obtain ⟨q_4, _, h⟩ := bd h
    have h := (ifn h).2
    obtain ⟨o_8, eo_8, h⟩ := opq h
    have Fo_8 : Fr (fr_M [] [2, 3, 4] []) O o_8 := by rw [eo_8]; exact fr_xp F rfl
    obtain ⟨x_9, _, h⟩ := opq h
    exact H _ _ _ _ _ _ _ Fo_8 h
theorem wB_Fu_questions_0_o0 {O : cf_O} {rc : Nat → Int32 → Int32 → Int32 → Int32 → cf_O → Option ((Int32 × cf_O))} {v1 : Int32} {v2 : Int32} {o0 : cf_O} {r : (Int32 × cf_O)} (H : ∀ (k : Nat) (u1i : Int32) (u2i : Int32) (u3i : Int32) (u4i : Int32) (o0 : cf_O) (r : (Int32 × cf_O)), Fr (fr_M [] [2, 3, 4] []) O o0 → rc k u1i u2i u3i u4i o0 = some r → Fr (fr_M [] [2, 3, 4] []) O r.2) (F : Fr (fr_M [] [2, 3, 4] []) O o0) (h : fFu_questions_0 rc v1 v2 o0 = some r) : Fr (fr_M [] [2, 3, 4] []) O r.2 := by
  unfold fFu_questions_0 at h
  exact H _ _ _ _ _ _ _ F h
theorem wG_Fu_questions_o0 {O : cf_O} : ∀ (n k : Nat) (u1i : Int32) (u2i : Int32) (u3i : Int32) (u4i : Int32) (o0 : cf_O) (r : (Int32 × cf_O)), Fr (fr_M [] [2, 3, 4] []) O o0 → gFu_questions n k u1i u2i u3i u4i o0 = some r → Fr (fr_M [] [2, 3, 4] []) O r.2 := by
  intro n
  induction n with
  | zero => intro k u1i u2i u3i u4i o0 r F h; cases h
  | succ n ih =>
    intro k u1i u2i u3i u4i o0 r F h
    cases k with
    | zero => exact wB_Fu_questions_2_o0 (rc := gFu_questions n) ih F h
    | succ k =>
      cases k with
      | zero => exact wB_Fu_questions_34_o0 (rc := gFu_questions n) ih F h
      | succ k =>
        cases h
theorem wF_Fu_questions_o0 {v1 : Int32} {v2 : Int32} {o0 : cf_O} {r : (Int32 × cf_O)} (h : fFu_questions v1 v2 o0 = some r) : Fr (fr_M [] [2, 3, 4] []) o0 r.2 := by
  unfold fFu_questions at h
  exact wB_Fu_questions_0_o0 (rc := gFu_questions cfFU) (fun k u1i u2i u3i u4i o0 r F h => wG_Fu_questions_o0 cfFU k u1i u2i u3i u4i o0 r F h) fr_rfl h
