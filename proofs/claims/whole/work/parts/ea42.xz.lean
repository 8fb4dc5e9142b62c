theorem wB_Li_findInverter_60_o0 {O : cf_O} {rc : Nat → Int32 → cf_O → Option ((cf_O))} {v1 : Int32} {o0 : cf_O} {r : (cf_O)} (H : ∀ (k : Nat) (u1i : Int32) (o0 : cf_O) (r : (cf_O)), Fr (fr_M [1] [] []) O o0 → rc k u1i o0 = some r → Fr (fr_M [1] [] []) O r) (F : Fr (fr_M [1] [] []) O o0) (h : fLi_findInverter_60 rc v1 o0 = some r) : Fr (fr_M [1] [] []) O r := by
  unfold fLi_findInverter_60 at h
  obtain ⟨x_1, _, h⟩ := opq h
  exact H _ _ _ _ F h
theorem wB_Li_findInverter_55_o0 {O : cf_O} {rc : Nat → Int32 → cf_O → Option ((cf_O))} {v1 : Int32} {o0 : cf_O} {r : (cf_O)} (H : ∀ (k : Nat) (u1i : Int32) (o0 : cf_O) (r : (cf_O)), Fr (fr_M [1] [] []) O o0 → rc k u1i o0 = some r → Fr (fr_M [1] [] []) O r) (F : Fr (fr_M [1] [] []) O o0) (h : fLi_findInverter_55 rc v1 o0 = some r) : Fr (fr_M [1] [] []) O r := by
  unfold fLi_findInverter_55 at h
  obtain ⟨o_1, eo_1, h⟩ := opq h
  have Fo_1 : Fr (fr_M [1] [] []) O o_1 := by rw [eo_1]; exact fr_fp F rfl
  exact wB_Li_findInverter_60_o0 H Fo_1 h
theorem wB_Li_findInverter_7_o0 {O : cf_O} {rc : Nat → Int32 → cf_O → Option ((cf_O))} {v1 : Int32} {o0 : cf_O} {r : (cf_O)} (H : ∀ (k : Nat) (u1i : Int32) (o0 : cf_O) (r : (cf_O)), Fr (fr_M [1] [] []) O o0 → rc k u1i o0 = some r → Fr (fr_M [1] [] []) O r) (F : Fr (fr_M [1] [] []) O o0) (h : fLi_findInverter_7 rc v1 o0 = some r) : Fr (fr_M [1] [] []) O r := by
  unfold fLi_findInverter_7 at h
  rcases ifc h with ⟨_, h⟩ | ⟨_, h⟩
  · rw [← Option.some.inj h]
    exact F
  · have h := (ifn h).2
    obtain ⟨x_3, _, h⟩ := opq h
    rcases ifc h with ⟨_, h⟩ | ⟨_, h⟩
    · have h := (ifn h).2
      obtain ⟨x_6, _, h⟩ := opq h
      rcases ifc h with ⟨_, h⟩ | ⟨_, h⟩
      · rcases ifc h with ⟨_, h⟩ | ⟨_, h⟩
        · exact wB_Li_findInverter_55_o0 H F h
        · obtain ⟨q_9, _, h⟩ := bd h
          rcases ifc h with ⟨_, h⟩ | ⟨_, h⟩
          · exact wB_Li_findInverter_60_o0 H F h
          · exact wB_Li_findInverter_55_o0 H F h
      · exact wB_Li_findInverter_60_o0 H F h
    · exact wB_Li_findInverter_60_o0 H F h
theorem wB_Li_findInverter_0_o0 {O : cf_O} {rc : Nat → Int32 → cf_O → Option ((cf_O))} {o0 : cf_O} {r : (cf_O)} (H : ∀ (k : Nat) (u1i : Int32) (o0 : cf_O) (r : (cf_O)), Fr (fr_M [1] [] []) O o0 → rc k u1i o0 = some r → Fr (fr_M [1] [] []) O r) (F : Fr (fr_M [1] [] []) O o0) (h : fLi_findInverter_0 rc o0 = some r) : Fr (fr_M [1] [] []) O r := by
  unfold fLi_findInverter_0 at h
  obtain ⟨o_1, eo_1, h⟩ := opq h
  have Fo_1 : Fr (fr_M [1] [] []) O o_1 := by rw [eo_1]; exact fr_fp F rfl
  exact H _ _ _ _ Fo_1 h
theorem wG_Li_findInverter_o0 {O : cf_O} : ∀ (n k : Nat) (u1i : Int32) (o0 : cf_O) (r : (cf_O)), Fr (fr_M [1] [] []) O o0 → gLi_findInverter n k u1i o0 = some r → Fr (fr_M [1] [] []) O r := by
  intro n
  induction n with
  | zero => intro k u1i o0 r F h; cases h
  | succ n ih =>
    intro k u1i o0 r F h
    cases k with
    | zero => exact wB_Li_findInverter_7_o0 (rc := gLi_findInverter n) ih F h
    | succ k =>
      cases h
theorem wF_Li_findInverter_o0 {o0 : cf_O} {r : (cf_O)} (h : fLi_findInverter o0 = some r) : Fr (fr_M [1] [] []) o0 r := by
  unfold fLi_findInverter at h
  exact wB_Li_findInverter_0_o0 (rc := gLi_findInverter cfFU) (fun k u1i o0 r F h => wG_Li_findInverter_o0 cfFU k u1i o0 r F h) fr_rfl h
theorem wB_Li_addWay_24_o0 {O : cf_O} {rc : Nat → Int32 → Int32 → Int32 → Int32 → Int32 → Int32 → cf_O → Option ((cf_O))} {v1 : Int32} {v2 : Int32} {v3 : Int32} {v4 : Int32} {v5 : Int32} {v6 : Int32} {o0 : cf_O} {r : (cf_O)} (H : ∀ (k : Nat) (u1i : Int32) (u2i : Int32) (u3i : Int32) (u4i : Int32) (u5i : Int32) (u6i : Int32) (o0 : cf_O) (r : (cf_O)), Fr (fr_M [7] [8, 9, 10, 11] []) O o0 → rc k u1i u2i u3i u4i u5i u6i o0 = some r → Fr (fr_M [7] [8, 9, 10, 11] []) O r) (F : Fr (fr_M [7] [8, 9, 10, 11] []) O o0) (h : fLi_addWay_24 rc v1 v2 v3 v4 v5 v6 o0 = some r) : Fr (fr_M [7] [8, 9, 10, 11] []) O r := by
  unfold fLi_addWay_24 at h
  have h := (ifn h).2
  obtain ⟨x_2, _, h⟩ := opq h
  rcases ifc h with ⟨_, h⟩ | ⟨_, h⟩
  · have h := (ifn h).2
    obtain ⟨x_5, _, h⟩ := opq h
    obtain ⟨x_6, _, h⟩ := opq h
    obtain ⟨x_7, _, h⟩ := opq h
    obtain ⟨x_8, _, h⟩ := opq h
    obtain ⟨x_9, _, h⟩ := opq h
    obtain ⟨x_10, _, h⟩ := opq h
    exact H _ _ _ _ _ _ _ _ _ F h
  · obtain ⟨x_11, _, h⟩ := opq h
    obtain ⟨x_12, _, h⟩ := opq h
    obtain ⟨x_13, _, h⟩ := opq h
    obtain ⟨x_14, _, h⟩ := opq h
    obtain ⟨x_15, _, h⟩ := opq h
    obtain ⟨x_16, _, h⟩ := opq h
    obtain ⟨x_17, _, h⟩ := opq h
    obtain ⟨x_18, _, h⟩ := opq h
    obtain ⟨x_19, _, h⟩ := opq h
    obtain ⟨x_20, _, h⟩ := opq h
    obtain ⟨x_21, _, h⟩ := opq h
    exact H _ _ _ _ _ _ _ _ _ F h
theorem wB_Li_addWay_5_o0 {O : cf_O} {rc : Nat → Int32 → Int32 → Int32 → Int32 → Int32 → Int32 → cf_O → Option ((cf_O))} {v1 : Int32} {v2 : Int32} {v3 : Int32} {v4 : Int32} {o0 : cf_O} {r : (cf_O)} (H : ∀ (k : Nat) (u1i : Int32) (u2i : Int32) (u3i : Int32) (u4i : Int32) (u5i : Int32) (u6i : Int32) (o0 : cf_O) (r : (cf_O)), Fr (fr_M [7] [8, 9, 10, 11] []) O o0 → rc k u1i u2i u3i u4i u5i u6i o0 = some r → Fr (fr_M [7] [8, 9, 10, 11] []) O r) (F : Fr (fr_M [7] [8, 9, 10, 11] []) O o0) (h : fLi_addWay_5 rc v1 v2 v3 v4 o0 = some r) : Fr (fr_M [7] [8, 9, 10, 11] []) O r := by
  unfold fLi_addWay_5 at h
  have h := (ifn h).2
  obtain ⟨x_2, _, h⟩ := opq h
  obtain ⟨x_3, _, h⟩ := opq h
  rcases ifc h with ⟨_, h⟩ | ⟨_, h⟩
  · have h := (ifn h).2
    obtain ⟨x_6, _, h⟩ := opq h
    obtain ⟨q_7, _, h⟩ := bd h
    have h := (ifn h).2
    obtain ⟨o_11, eo_11, h⟩ := opq h
    have Fo_11 : Fr (fr_M [7] [8, 9, 10, 11] []) O o_11 := by rw [eo_11]; exact fr_xp F rfl
    have h := (ifn h).2
    obtain ⟨o_13, eo_13, h⟩ := opq h
    have Fo_13 : Fr (fr_M [7] [8, 9, 10, 11] []) O o_13 := by rw [eo_13]; exact fr_xp Fo_11 rfl
    have h := (ifn h).2
    obtain ⟨x_15, _, h⟩ := opq h
    have h := (ifn h).2
    obtain ⟨o_17, eo_17, h⟩ := opq h
    have Fo_17 : Fr (fr_M [7] [8, 9, 10, 11] []) O o_17 := by rw [eo_17]; exact fr_xp Fo_13 rfl
    have h := (ifn h).2
    obtain ⟨o_19, eo_19, h⟩ := opq h
    have Fo_19 : Fr (fr_M [7] [8, 9, 10, 11] []) O o_19 := by rw [eo_19]; exact fr_xp Fo_17 rfl
    obtain ⟨x_20, _, h⟩ := opq h
    obtain ⟨o_21, eo_21, h⟩ := opq h
    have Fo_21 : Fr (fr_M [7] [8, 9, 10, 11] []) O o_21 := by rw [eo_21]; exact fr_fp Fo_19 rfl
    rw [← Option.some.inj h]
    exact Fo_21
  · exact H _ _ _ _ _ _ _ _ _ F h
theorem wB_Li_addWay_0_o0 {O : cf_O} {rc : Nat → Int32 → Int32 → Int32 → Int32 → Int32 → Int32 → cf_O → Option ((cf_O))} {v1 : Int32} {v2 : Int32} {o0 : cf_O} {r : (cf_O)} (H : ∀ (k : Nat) (u1i : Int32) (u2i : Int32) (u3i : Int32) (u4i : Int32) (u5i : Int32) (u6i : Int32) (o0 : cf_O) (r : (cf_O)), Fr (fr_M [7] [8, 9, 10, 11] []) O o0 → rc k u1i u2i u3i u4i u5i u6i o0 = some r → Fr (fr_M [7] [8, 9, 10, 11] []) O r) (F : Fr (fr_M [7] [8, 9, 10, 11] []) O o0) (h : fLi_addWay_0 rc v1 v2 o0 = some r) : Fr (fr_M [7] [8, 9, 10, 11] []) O r := by
  unfold fLi_addWay_0 at h
  exact H _ _ _ _ _ _ _ _ _ F h
theorem wG_Li_addWay_o0 {O : cf_O} : ∀ (n k : Nat) (u1i : Int32) (u2i : Int32) (u3i : Int32) (u4i : Int32) (u5i : Int32) (u6i : Int32) (o0 : cf_O) (r : (cf_O)), Fr (fr_M [7] [8, 9, 10, 11] []) O o0 → gLi_addWay n k u1i u2i u3i u4i u5i u6i o0 = some r → Fr (fr_M [7] [8, 9, 10, 11] []) O r := by
  intro n
  induction n with
  | zero => intro k u1i u2i u3i u4i u5i u6i o0 r F h; cases h
  | succ n ih =>
    intro k u1i u2i u3i u4i u5i u6i o0 r F h
    cases k with
    | zero => exact wB_Li_addWay_5_o0 (rc := gLi_addWay n) ih F h
    | succ k =>
      cases k with
      | zero => exact wB_Li_addWay_24_o0 (rc := gLi_addWay n) ih F h
      | succ k =>
        cases h
theorem wF_Li_addWay_o0 {v1 : Int32} {v2 : Int32} {o0 : cf_O} {r : (cf_O)} (h : fLi_addWay v1 v2 o0 = some r) : Fr (fr_M [7] [8, 9, 10, 11] []) o0 r := by
  unfold fLi_addWay at h
  exact wB_Li_addWay_0_o0 (rc := gLi_addWay cfFU) (fun k u1i u2i u3i u4i u5i u6i o0 r F h => wG_Li_addWay_o0 cfFU k u1i u2i u3i u4i u5i u6i o0 r F h) fr_rfl h
theorem wB_JArrays_fill_AII_Li11_5_o0 {O : cf_O} {rc : Nat → Int32 → Int32 → Int32 → cf_O → Option ((cf_O))} {v1 : Int32} {v2 : Int32} {v3 : Int32} {o0 : cf_O} {r : (cf_O)} (H : ∀ (k : Nat) (u1i : Int32) (u2i : Int32) (u3i : Int32) (o0 : cf_O) (r : (cf_O)), Fr (fr_M [] [11] []) O o0 → rc k u1i u2i u3i o0 = some r → Fr (fr_M [] [11] []) O r) (F : Fr (fr_M [] [11] []) O o0) (h : fJArrays_fill_AII_Li11_5 rc v1 v2 v3 o0 = some r) : Fr (fr_M [] [11] []) O r := by
  unfold fJArrays_fill_AII_Li11_5 at h
  rcases ifc h with ⟨_, h⟩ | ⟨_, h⟩
  · rw [← Option.some.inj h]
    exact F
  · have h := (ifn h).2
    obtain ⟨o_3, eo_3, h⟩ := opq h
    have Fo_3 : Fr (fr_M [] [11] []) O o_3 := by rw [eo_3]; exact fr_xp F rfl
    obtain ⟨x_4, _, h⟩ := opq h
    exact H _ _ _ _ _ _ Fo_3 h
theorem wB_JArrays_fill_AII_Li11_0_o0 {O : cf_O} {rc : Nat → Int32 → Int32 → Int32 → cf_O → Option ((cf_O))} {v1 : Int32} {o0 : cf_O} {r : (cf_O)} (H : ∀ (k : Nat) (u1i : Int32) (u2i : Int32) (u3i : Int32) (o0 : cf_O) (r : (cf_O)), Fr (fr_M [] [11] []) O o0 → rc k u1i u2i u3i o0 = some r → Fr (fr_M [] [11] []) O r) (F : Fr (fr_M [] [11] []) O o0) (h : fJArrays_fill_AII_Li11_0 rc v1 o0 = some r) : Fr (fr_M [] [11] []) O r := by
  unfold fJArrays_fill_AII_Li11_0 at h
  exact H _ _ _ _ _ _ F h
theorem wG_JArrays_fill_AII_Li11_o0 {O : cf_O} : ∀ (n k : Nat) (u1i : Int32) (u2i : Int32) (u3i : Int32) (o0 : cf_O) (r : (cf_O)), Fr (fr_M [] [11] []) O o0 → gJArrays_fill_AII_Li11 n k u1i u2i u3i o0 = some r → Fr (fr_M [] [11] []) O r := by
  intro n
  induction n with
  | zero => intro k u1i u2i u3i o0 r F h; cases h
  | succ n ih =>
    intro k u1i u2i u3i o0 r F h
    cases k with
    | zero => exact wB_JArrays_fill_AII_Li11_5_o0 (rc := gJArrays_fill_AII_Li11 n) ih F h
    | succ k =>
      cases h
theorem wF_JArrays_fill_AII_Li11_o0 {v1 : Int32} {o0 : cf_O} {r : (cf_O)} (h : fJArrays_fill_AII_Li11 v1 o0 = some r) : Fr (fr_M [] [11] []) o0 r := by
  unfold fJArrays_fill_AII_Li11 at h
  exact wB_JArrays_fill_AII_Li11_0_o0 (rc := gJArrays_fill_AII_Li11 cfFU) (fun k u1i u2i u3i o0 r F h => wG_JArrays_fill_AII_Li11_o0 cfFU k u1i u2i u3i o0 r F h) fr_rfl h
theorem wB_Li_findWays_74_o0 {O : cf_O} {rc : Nat → Int32 → Int32 → cf_O → Option ((cf_O))} {v1 : Int32} {o0 : cf_O} {r : (cf_O)} (H : ∀ (k : Nat) (u1i : Int32) (u2i : Int32) (o0 : cf_O) (r : (cf_O)), Fr (fr_M [7] [8, 9, 10, 11] []) O o0 → rc k u1i u2i o0 = some r → Fr (fr_M [7] [8, 9, 10, 11] []) O r) (F : Fr (fr_M [7] [8, 9, 10, 11] []) O o0) (h : fLi_findWays_74 rc v1 o0 = some r) : Fr (fr_M [7] [8, 9, 10, 11] []) O r := by
  unfold fLi_findWays_74 at h
  obtain ⟨x_1, _, h⟩ := opq h
  exact H _ _ _ _ _ F h
theorem wB_Li_findWays_68_o0 {O : cf_O} {rc : Nat → Int32 → Int32 → cf_O → Option ((cf_O))} {v1 : Int32} {v2 : Int32} {o0 : cf_O} {r : (cf_O)} (H : ∀ (k : Nat) (u1i : Int32) (u2i : Int32) (o0 : cf_O) (r : (cf_O)), Fr (fr_M [7] [8, 9, 10, 11] []) O o0 → rc k u1i u2i o0 = some r → Fr (fr_M [7] [8, 9, 10, 11] []) O r) (F : Fr (fr_M [7] [8, 9, 10, 11] []) O o0) (h : fLi_findWays_68 rc v1 v2 o0 = some r) : Fr (fr_M [7] [8, 9, 10, 11] []) O r := by
  unfold fLi_findWays_68 at h
  obtain ⟨x_1, _, h⟩ := opq h
  exact H _ _ _ _ _ F h
theorem wB_Li_findWays_25_o0 {O : cf_O} {rc : Nat → Int32 → Int32 → cf_O → Option ((cf_O))} {v1 : Int32} {v2 : Int32} {o0 : cf_O} {r : (cf_O)} (H : ∀ (k : Nat) (u1i : Int32) (u2i : Int32) (o0 : cf_O) (r : (cf_O)), Fr (fr_M [7] [8, 9, 10, 11] []) O o0 → rc k u1i u2i o0 = some r → Fr (fr_M [7] [8, 9, 10, 11] []) O r) (F : Fr (fr_M [7] [8, 9, 10, 11] []) O o0) (h : fLi_findWays_25 rc v1 v2 o0 = some r) : Fr (fr_M [7] [8, 9, 10, 11] []) O r := by
  unfold fLi_findWays_25 at h
  have h := (ifn h).2
  obtain ⟨x_2, _, h⟩ := opq h
  rcases ifc h with ⟨_, h⟩ | ⟨_, h⟩
  · exact wB_Li_findWays_74_o0 H F h
  · have h := (ifn h).2
    obtain ⟨x_5, _, h⟩ := opq h
    obtain ⟨x_6, _, h⟩ := opq h
    obtain ⟨x_7, _, h⟩ := opq h
    rcases ifc h with ⟨_, h⟩ | ⟨_, h⟩
    · exact wB_Li_findWays_74_o0 H F h
    · have h := (ifn h).2
      obtain ⟨x_10, _, h⟩ := opq h
      obtain ⟨q_11, _, h⟩ := bd h
      rcases ifc h with ⟨_, h⟩ | ⟨_, h⟩
      · exact wB_Li_findWays_68_o0 H F h
      · obtain ⟨q_15, hq_15, h⟩ := bd h
        have Fq_15 : Fr (fr_M [7] [8, 9, 10, 11] []) O q_15 := fr_tr F (wF_Li_addWay_o0 hq_15) rfl rfl rfl
        exact wB_Li_findWays_68_o0 H Fq_15 h
theorem wB_Li_findWays_15_o0 {O : cf_O} {rc : Nat → Int32 → Int32 → cf_O → Option ((cf_O))} {v1 : Int32} {o0 : cf_O} {r : (cf_O)} (H : ∀ (k : Nat) (u1i : Int32) (u2i : Int32) (o0 : cf_O) (r : (cf_O)), Fr (fr_M [7] [8, 9, 10, 11] []) O o0 → rc k u1i u2i o0 = some r → Fr (fr_M [7] [8, 9, 10, 11] []) O r) (F : Fr (fr_M [7] [8, 9, 10, 11] []) O o0) (h : fLi_findWays_15 rc v1 o0 = some r) : Fr (fr_M [7] [8, 9, 10, 11] []) O r := by
  unfold fLi_findWays_15 at h
  rcases ifc h with ⟨_, h⟩ | ⟨_, h⟩
  · rw [← Option.some.inj h]
    exact F
  · exact H _ _ _ _ _ F h
theorem wB_Li_findWays_0_o0 {O : cf_O} {rc : Nat → Int32 → Int32 → cf_O → Option ((cf_O))} {o0 : cf_O} {r : (cf_O)} (H : ∀ (k : Nat) (u1i : Int32) (u2i : Int32) (o0 : cf_O) (r : (cf_O)), Fr (fr_M [7] [8, 9, 10, 11] []) O o0 → rc k u1i u2i o0 = some r → Fr (fr_M [7] [8, 9, 10, 11] []) O r) (F : Fr (fr_M [7] [8, 9, 10, 11] []) O o0) (h : fLi_findWays_0 rc o0 = some r) : Fr (fr_M [7] [8, 9, 10, 11] []) O r := by
  unfold fLi_findWays_0 at h
  obtain ⟨o_1, eo_1, h⟩ := opq h
  have Fo_1 : Fr (fr_M [7] [8, 9, 10, 11] []) O o_1 := by rw [eo_1]; exact fr_fp F rfl
  obtain ⟨q_2, hq_2, h⟩ := bd h
  have Fq_2 : Fr (fr_M [7] [8, 9, 10, 11] []) O q_2 := fr_tr Fo_1 (wF_JArrays_fill_AII_Li11_o0 hq_2) rfl rfl rfl
  exact H _ _ _ _ _ Fq_2 h
theorem wG_Li_findWays_o0 {O : cf_O} : ∀ (n k : Nat) (u1i : Int32) (u2i : Int32) (o0 : cf_O) (r : (cf_O)), Fr (fr_M [7] [8, 9, 10, 11] []) O o0 → gLi_findWays n k u1i u2i o0 = some r → Fr (fr_M [7] [8, 9, 10, 11] []) O r := by
  intro n
  induction n with
  | zero => intro k u1i u2i o0 r F h; cases h
  | succ n ih =>
    intro k u1i u2i o0 r F h
    cases k with
    | zero => exact wB_Li_findWays_15_o0 (rc := gLi_findWays n) ih F h
    | succ k =>
      cases k with
      | zero => exact wB_Li_findWays_25_o0 (rc := gLi_findWays n) ih F h
      | succ k =>
        cases h
theorem wF_Li_findWays_o0 {o0 : cf_O} {r : (cf_O)} (h : fLi_findWays o0 = some r) : Fr (fr_M [7] [8, 9, 10, 11] []) o0 r := by
  unfold fLi_findWays at h
  exact wB_Li_findWays_0_o0 (rc := gLi_findWays cfFU) (fun k u1i u2i o0 r F h => wG_Li_findWays_o0 cfFU k u1i u2i o0 r F h) fr_rfl h
