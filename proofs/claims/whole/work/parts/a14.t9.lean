def QM_name_M83 (v2 : Int32) (o0 : cf_O) (r : (cf_O)) : Prop := (okO I_M r) ∧ (Fr (fr_M [76, 96] [77, 97] []) o0 r) ∧ ((r.1 76).toInt ≤ (o0.1 76).toInt + 9) ∧ ((r.1 96).toInt ≤ (o0.1 96).toInt + 9) ∧ True
def HM_name_M83 (yv2 : Int32) (yo0 : cf_O) (n : Nat) : Prop := (∀ (v2 : Int32) (v3 : Int32) (o0 : cf_O), (okO I_M o0) → (Fr (fr_M [76, 96] [77, 97] []) yo0 o0) → ((0 : Int) ≤ v2.toInt ∧ v2.toInt ≤ 11) → ((0 : Int) ≤ v3.toInt ∧ v3.toInt ≤ 8) → ((0 : Int) ≤ (o0.1 0).toInt ∧ (o0.1 0).toInt ≤ 0) → ((1 : Int) ≤ (o0.1 38).toInt ∧ (o0.1 38).toInt ≤ 1) → ((1 : Int) ≤ (o0.1 78).toInt ∧ (o0.1 78).toInt ≤ 1) → ((1 : Int) ≤ (o0.1 85).toInt ∧ (o0.1 85).toInt ≤ 1) → ((1 : Int) ≤ (o0.1 93).toInt ∧ (o0.1 93).toInt ≤ 420) → ((1 : Int) ≤ (o0.1 95).toInt ∧ (o0.1 95).toInt ≤ 1) → ((o0.1 76).toInt ≤ (yo0.1 76).toInt + 1 + v3.toInt) → ((o0.1 96).toInt ≤ (yo0.1 96).toInt + 1 + v3.toInt) → ((o0.1 95).toInt = 1 ∨ (yo0.1 76).toInt ≤ 90000 - 9) → ((o0.1 95).toInt = 0 ∨ (yo0.1 96).toInt ≤ 24000 - 9) → 0 + (8 - v3.toInt) * 2 < (n : Int) → tt (gM_name_M83 n 0 v2 v3 o0) (QM_name_M83 yv2 yo0))
set_option maxHeartbeats 4000000 in
set_option maxRecDepth 100000 in
theorem tM_name_M83_9 {yv2 : Int32} {yo0 : cf_O} {n : Nat} (H : HM_name_M83 yv2 yo0 n) (v2 : Int32) (v3 : Int32) (o0 : cf_O) (k_o0 : okO I_M o0) (r_o0 : Fr (fr_M [76, 96] [77, 97] []) yo0 o0) (i_v2 : (0 : Int) ≤ v2.toInt ∧ v2.toInt ≤ 11) (i_v3 : (0 : Int) ≤ v3.toInt ∧ v3.toInt ≤ 8) (f_o0_0 : (0 : Int) ≤ (o0.1 0).toInt ∧ (o0.1 0).toInt ≤ 0) (f_o0_38 : (1 : Int) ≤ (o0.1 38).toInt ∧ (o0.1 38).toInt ≤ 1) (f_o0_78 : (1 : Int) ≤ (o0.1 78).toInt ∧ (o0.1 78).toInt ≤ 1) (f_o0_85 : (1 : Int) ≤ (o0.1 85).toInt ∧ (o0.1 85).toInt ≤ 1) (f_o0_93 : (1 : Int) ≤ (o0.1 93).toInt ∧ (o0.1 93).toInt ≤ 420) (f_o0_95 : (1 : Int) ≤ (o0.1 95).toInt ∧ (o0.1 95).toInt ≤ 1) (x_0 : (o0.1 76).toInt ≤ (yo0.1 76).toInt + 1 + v3.toInt) (x_1 : (o0.1 96).toInt ≤ (yo0.1 96).toInt + 1 + v3.toInt) (x_2 : (o0.1 95).toInt = 1 ∨ (yo0.1 76).toInt ≤ 90000 - 9) (x_3 : (o0.1 95).toInt = 0 ∨ (yo0.1 96).toInt ≤ 24000 - 9) (hm : 0 + (8 - v3.toInt) * 2 ≤ (n : Int)) : tt (fM_name_M83_9 (gM_name_M83 n) v2 v3 o0) (QM_name_M83 yv2 yo0) := by
  unfold fM_name_M83_9
  have g_o0_76 : (0 : Int) ≤ (o0.1 76).toInt ∧ (o0.1 76).toInt ≤ 90000 := k_o0.1 76
  have ey_o0_93 : (o0.1 93).toInt = (yo0.1 93).toInt := congrArg Int32.toInt (r_o0.1 93 rfl)
  have ey_o0_95 : (o0.1 95).toInt = (yo0.1 95).toInt := congrArg Int32.toInt (r_o0.1 95 rfl)
  have g_o0_96 : (0 : Int) ≤ (o0.1 96).toInt ∧ (o0.1 96).toInt ≤ 24000 := k_o0.1 96
  refine tt_if (fun c1 => ?_) (fun c1 => ?_)
  · have wc1 : (8 : Int) ≤ v3.toInt := c_le c1
    have i2 : (8 : Int) ≤ v3.toInt ∧ v3.toInt ≤ 8 := nr_ler c1 (show (8 : Int) ≤ (8 : Int32).toInt ∧ (8 : Int32).toInt ≤ 8 by decide) i_v3 (by decide) (by decide)
    exact tt_some ⟨k_o0, r_o0, (show (o0.1 76).toInt ≤ (yo0.1 76).toInt + 9 by omega), (show (o0.1 96).toInt ≤ (yo0.1 96).toInt + 9 by omega), trivial⟩
  · have wc1 : v3.toInt < (8 : Int) := c_nle c1
    have i3 : (0 : Int) ≤ v3.toInt ∧ v3.toInt ≤ 7 := nr_nlel c1 i_v3 (show (8 : Int) ≤ (8 : Int32).toInt ∧ (8 : Int32).toInt ≤ 8 by decide) (by decide) (by decide)
    refine tt_kv (P := fun z => ((0 : Int) ≤ z.toInt ∧ z.toInt ≤ 88) ∧ z.toInt = 8 * v2.toInt) ⟨iv_mul (show (8 : Int) ≤ (8 : Int32).toInt ∧ (8 : Int32).toInt ≤ 8 by decide) i_v2 (by decide) (by decide) (by decide) (by decide) (by decide), iq_mul (show (8 : Int) ≤ (8 : Int32).toInt ∧ (8 : Int32).toInt ≤ 8 by decide) i_v2 (by decide) (by decide) (by decide) (by decide)⟩ (fun x4 qi5 => ?_)
    obtain ⟨i5, ei5⟩ := qi5
    refine tt_kv (P := fun z => ((0 : Int) ≤ z.toInt ∧ z.toInt ≤ 95) ∧ z.toInt = x4.toInt + v3.toInt) ⟨iv_add i5 i3 (by decide) (by decide) (by decide) (by decide), iq_add i5 i3 (by decide) (by decide)⟩ (fun x6 qi7 => ?_)
    obtain ⟨i7, ei7⟩ := qi7
    refine tt_n (ix_ok i7 (by decide) (by decide)) ?_
    refine tt_kv (P := fun z => ((0 : Int) ≤ z.toInt ∧ z.toInt ≤ 255) ∧ z.toInt = (o0.2.1 83 x6.toNatClampNeg).toInt) ⟨(k_o0.2 83 _), rfl⟩ (fun x8 qi9 => ?_)
    obtain ⟨i9, ei9⟩ := qi9
    refine tt_if (fun c10 => ?_) (fun c10 => ?_)
    · have wc10 : x8.toInt ≤ (0 : Int) := c_le c10
      have i11 : (0 : Int) ≤ x8.toInt ∧ x8.toInt ≤ 0 := nr_lel c10 i9 (show (0 : Int) ≤ (0 : Int32).toInt ∧ (0 : Int32).toInt ≤ 0 by decide) (by decide) (by decide)
      try unfold fM_name_M83_39
      refine tt_kv (P := fun z => ((1 : Int) ≤ z.toInt ∧ z.toInt ≤ 8) ∧ z.toInt = v3.toInt + 1) ⟨iv_add i3 (show (1 : Int) ≤ (1 : Int32).toInt ∧ (1 : Int32).toInt ≤ 1 by decide) (by decide) (by decide) (by decide) (by decide), iq_add i3 (show (1 : Int) ≤ (1 : Int32).toInt ∧ (1 : Int32).toInt ≤ 1 by decide) (by decide) (by decide)⟩ (fun x12 qi13 => ?_)
      obtain ⟨i13, ei13⟩ := qi13
      exact H _ _ _ k_o0 r_o0 i_v2 (iv_w (a := 0) (b := 8) (by decide) (by decide) i13) f_o0_0 f_o0_38 f_o0_78 f_o0_85 f_o0_93 f_o0_95 (show (o0.1 76).toInt ≤ (yo0.1 76).toInt + 1 + x12.toInt by omega) (show (o0.1 96).toInt ≤ (yo0.1 96).toInt + 1 + x12.toInt by omega) (show (o0.1 95).toInt = 1 ∨ (yo0.1 76).toInt ≤ 90000 - 9 by omega) (show (o0.1 95).toInt = 0 ∨ (yo0.1 96).toInt ≤ 24000 - 9 by omega) (show 0 + (8 - x12.toInt) * 2 < (n : Int) by omega)
    · have wc10 : (0 : Int) < x8.toInt := c_nle c10
      have i14 : (1 : Int) ≤ x8.toInt ∧ x8.toInt ≤ 255 := nr_nler c10 (show (0 : Int) ≤ (0 : Int32).toInt ∧ (0 : Int32).toInt ≤ 0 by decide) i9 (by decide) (by decide)
      refine tt_kv (P := fun z => ((0 : Int) ≤ z.toInt ∧ z.toInt ≤ 88) ∧ z.toInt = 8 * v2.toInt) ⟨iv_mul (show (8 : Int) ≤ (8 : Int32).toInt ∧ (8 : Int32).toInt ≤ 8 by decide) i_v2 (by decide) (by decide) (by decide) (by decide) (by decide), iq_mul (show (8 : Int) ≤ (8 : Int32).toInt ∧ (8 : Int32).toInt ≤ 8 by decide) i_v2 (by decide) (by decide) (by decide) (by decide)⟩ (fun x15 qi16 => ?_)
      obtain ⟨i16, ei16⟩ := qi16
      refine tt_kv (P := fun z => ((0 : Int) ≤ z.toInt ∧ z.toInt ≤ 95) ∧ z.toInt = x15.toInt + v3.toInt) ⟨iv_add i16 i3 (by decide) (by decide) (by decide) (by decide), iq_add i16 i3 (by decide) (by decide)⟩ (fun x17 qi18 => ?_)
      obtain ⟨i18, ei18⟩ := qi18
      refine tt_n (ix_ok i18 (by decide) (by decide)) ?_
      refine tt_kv (P := fun z => ((0 : Int) ≤ z.toInt ∧ z.toInt ≤ 255) ∧ z.toInt = (o0.2.1 83 x17.toNatClampNeg).toInt) ⟨(k_o0.2 83 _), rfl⟩ (fun x19 qi20 => ?_)
      obtain ⟨i20, ei20⟩ := qi20
      refine tt_kl (fun x21 => ?_)
      refine tt_b (sM_emit _ _ k_o0 f_o0_0 f_o0_38 (show (o0.1 95).toInt = 1 ∨ (o0.1 76).toInt ≤ 90000 - 1 by omega) (show (o0.1 95).toInt = 0 ∨ (o0.1 96).toInt ≤ 24000 - 1 by omega)) (fun q22 hq22 => ?_)
      obtain ⟨k_q22, n_q22, zq22_0, zq22_1, -⟩ := hq22
      have r_q22 := fr_tr r_o0 n_q22 rfl rfl rfl
      have f_q22_0 : (0 : Int) ≤ (q22.1 0).toInt ∧ (q22.1 0).toInt ≤ 0 := by rw [n_q22.1 0 rfl]; exact f_o0_0
      have f_q22_85 : (1 : Int) ≤ (q22.1 85).toInt ∧ (q22.1 85).toInt ≤ 1 := by rw [n_q22.1 85 rfl]; exact f_o0_85
      have f_q22_38 : (1 : Int) ≤ (q22.1 38).toInt ∧ (q22.1 38).toInt ≤ 1 := by rw [n_q22.1 38 rfl]; exact f_o0_38
      have f_q22_93 : (1 : Int) ≤ (q22.1 93).toInt ∧ (q22.1 93).toInt ≤ 420 := by rw [n_q22.1 93 rfl]; exact f_o0_93
      have f_q22_78 : (1 : Int) ≤ (q22.1 78).toInt ∧ (q22.1 78).toInt ≤ 1 := by rw [n_q22.1 78 rfl]; exact f_o0_78
      have f_q22_95 : (1 : Int) ≤ (q22.1 95).toInt ∧ (q22.1 95).toInt ≤ 1 := by rw [n_q22.1 95 rfl]; exact f_o0_95
      have g_q22_76 : (0 : Int) ≤ (q22.1 76).toInt ∧ (q22.1 76).toInt ≤ 90000 := k_q22.1 76
      have e_q22_93 : (q22.1 93).toInt = (o0.1 93).toInt := congrArg Int32.toInt (n_q22.1 93 rfl)
      have e_q22_95 : (q22.1 95).toInt = (o0.1 95).toInt := congrArg Int32.toInt (n_q22.1 95 rfl)
      have g_q22_96 : (0 : Int) ≤ (q22.1 96).toInt ∧ (q22.1 96).toInt ≤ 24000 := k_q22.1 96
      have zq22_0 : (q22.1 76).toInt ≤ (o0.1 76).toInt + 1 := zq22_0
      have zq22_1 : (q22.1 96).toInt ≤ (o0.1 96).toInt + 1 := zq22_1
      try unfold fM_name_M83_39
      refine tt_kv (P := fun z => ((1 : Int) ≤ z.toInt ∧ z.toInt ≤ 8) ∧ z.toInt = v3.toInt + 1) ⟨iv_add i3 (show (1 : Int) ≤ (1 : Int32).toInt ∧ (1 : Int32).toInt ≤ 1 by decide) (by decide) (by decide) (by decide) (by decide), iq_add i3 (show (1 : Int) ≤ (1 : Int32).toInt ∧ (1 : Int32).toInt ≤ 1 by decide) (by decide) (by decide)⟩ (fun x23 qi24 => ?_)
      obtain ⟨i24, ei24⟩ := qi24
      exact H _ _ _ k_q22 r_q22 i_v2 (iv_w (a := 0) (b := 8) (by decide) (by decide) i24) f_q22_0 f_q22_38 f_q22_78 f_q22_85 f_q22_93 f_q22_95 (show (q22.1 76).toInt ≤ (yo0.1 76).toInt + 1 + x23.toInt by omega) (show (q22.1 96).toInt ≤ (yo0.1 96).toInt + 1 + x23.toInt by omega) (show (q22.1 95).toInt = 1 ∨ (yo0.1 76).toInt ≤ 90000 - 9 by omega) (show (q22.1 95).toInt = 0 ∨ (yo0.1 96).toInt ≤ 24000 - 9 by omega) (show 0 + (8 - x23.toInt) * 2 < (n : Int) by omega)
set_option maxHeartbeats 4000000 in
set_option maxRecDepth 100000 in
theorem hM_name_M83 (yv2 : Int32) (yo0 : cf_O) : ∀ n, HM_name_M83 yv2 yo0 n := by
  intro n
  induction n with
  | zero => exact (fun v2 v3 o0 k_o0 r_o0 i_v2 i_v3 f_o0_0 f_o0_38 f_o0_78 f_o0_85 f_o0_93 f_o0_95 x_0 x_1 x_2 x_3 hm => by exact absurd (show 0 + (8 - v3.toInt) * 2 < (0 : Int) from hm) (by omega))
  | succ n ih => exact (fun v2 v3 o0 k_o0 r_o0 i_v2 i_v3 f_o0_0 f_o0_38 f_o0_78 f_o0_85 f_o0_93 f_o0_95 x_0 x_1 x_2 x_3 hm => tM_name_M83_9 ih v2 v3 o0 k_o0 r_o0 i_v2 i_v3 f_o0_0 f_o0_38 f_o0_78 f_o0_85 f_o0_93 f_o0_95 x_0 x_1 x_2 x_3 (by omega))
set_option maxHeartbeats 4000000 in
set_option maxRecDepth 100000 in
theorem sM_name_M83 (v2 : Int32) (o0 : cf_O) (k_o0 : okO I_M o0) (i_v2 : (0 : Int) ≤ v2.toInt ∧ v2.toInt ≤ 11) (f_o0_0 : (0 : Int) ≤ (o0.1 0).toInt ∧ (o0.1 0).toInt ≤ 0) (f_o0_38 : (1 : Int) ≤ (o0.1 38).toInt ∧ (o0.1 38).toInt ≤ 1) (f_o0_78 : (1 : Int) ≤ (o0.1 78).toInt ∧ (o0.1 78).toInt ≤ 1) (f_o0_85 : (1 : Int) ≤ (o0.1 85).toInt ∧ (o0.1 85).toInt ≤ 1) (f_o0_93 : (1 : Int) ≤ (o0.1 93).toInt ∧ (o0.1 93).toInt ≤ 420) (f_o0_95 : (1 : Int) ≤ (o0.1 95).toInt ∧ (o0.1 95).toInt ≤ 1) (x_0 : (o0.1 95).toInt = 1 ∨ (o0.1 76).toInt ≤ 90000 - 9) (x_1 : (o0.1 95).toInt = 0 ∨ (o0.1 96).toInt ≤ 24000 - 9) : tt (fM_name_M83 v2 o0) (QM_name_M83 v2 o0) := by
  have H := hM_name_M83 v2 o0 cfFU
  have hm : (19 : Int) ≤ (cfFU : Nat) := by decide
  have r_o0 : Fr (fr_M [76, 96] [77, 97] []) o0 o0 := fr_rfl
  unfold fM_name_M83 fM_name_M83_0
  have g_o0_76 : (0 : Int) ≤ (o0.1 76).toInt ∧ (o0.1 76).toInt ≤ 90000 := k_o0.1 76
  have g_o0_96 : (0 : Int) ≤ (o0.1 96).toInt ∧ (o0.1 96).toInt ≤ 24000 := k_o0.1 96
  refine tt_b (sM_emit _ _ k_o0 f_o0_0 f_o0_38 (show (o0.1 95).toInt = 1 ∨ (o0.1 76).toInt ≤ 90000 - 1 by omega) (show (o0.1 95).toInt = 0 ∨ (o0.1 96).toInt ≤ 24000 - 1 by omega)) (fun q1 hq1 => ?_)
  obtain ⟨k_q1, n_q1, zq1_0, zq1_1, -⟩ := hq1
  have r_q1 := fr_tr r_o0 n_q1 rfl rfl rfl
  have f_q1_0 : (0 : Int) ≤ (q1.1 0).toInt ∧ (q1.1 0).toInt ≤ 0 := by rw [n_q1.1 0 rfl]; exact f_o0_0
  have f_q1_85 : (1 : Int) ≤ (q1.1 85).toInt ∧ (q1.1 85).toInt ≤ 1 := by rw [n_q1.1 85 rfl]; exact f_o0_85
  have f_q1_38 : (1 : Int) ≤ (q1.1 38).toInt ∧ (q1.1 38).toInt ≤ 1 := by rw [n_q1.1 38 rfl]; exact f_o0_38
  have f_q1_93 : (1 : Int) ≤ (q1.1 93).toInt ∧ (q1.1 93).toInt ≤ 420 := by rw [n_q1.1 93 rfl]; exact f_o0_93
  have f_q1_78 : (1 : Int) ≤ (q1.1 78).toInt ∧ (q1.1 78).toInt ≤ 1 := by rw [n_q1.1 78 rfl]; exact f_o0_78
  have f_q1_95 : (1 : Int) ≤ (q1.1 95).toInt ∧ (q1.1 95).toInt ≤ 1 := by rw [n_q1.1 95 rfl]; exact f_o0_95
  have g_q1_76 : (0 : Int) ≤ (q1.1 76).toInt ∧ (q1.1 76).toInt ≤ 90000 := k_q1.1 76
  have e_q1_93 : (q1.1 93).toInt = (o0.1 93).toInt := congrArg Int32.toInt (n_q1.1 93 rfl)
  have e_q1_95 : (q1.1 95).toInt = (o0.1 95).toInt := congrArg Int32.toInt (n_q1.1 95 rfl)
  have g_q1_96 : (0 : Int) ≤ (q1.1 96).toInt ∧ (q1.1 96).toInt ≤ 24000 := k_q1.1 96
  have zq1_0 : (q1.1 76).toInt ≤ (o0.1 76).toInt + 1 := zq1_0
  have zq1_1 : (q1.1 96).toInt ≤ (o0.1 96).toInt + 1 := zq1_1
  exact H _ _ _ k_q1 r_q1 i_v2 (iv_w (a := 0) (b := 8) (by decide) (by decide) (show (0 : Int) ≤ (0 : Int32).toInt ∧ (0 : Int32).toInt ≤ 0 by decide)) f_q1_0 f_q1_38 f_q1_78 f_q1_85 f_q1_93 f_q1_95 (show (q1.1 76).toInt ≤ (o0.1 76).toInt + 1 + 0 by omega) (show (q1.1 96).toInt ≤ (o0.1 96).toInt + 1 + 0 by omega) (show (q1.1 95).toInt = 1 ∨ (o0.1 76).toInt ≤ 90000 - 9 by omega) (show (q1.1 95).toInt = 0 ∨ (o0.1 96).toInt ≤ 24000 - 9 by omega) (show 0 + (8 - 0) * 2 < ((cfFU : Nat) : Int) by omega)
def QM_literalName (v1 : Int32) (o0 : cf_O) (r : (cf_O)) : Prop := (okO I_M r) ∧ (Fr (fr_M [76, 96] [77, 97] []) o0 r) ∧ ((r.1 76).toInt ≤ (o0.1 76).toInt + 9) ∧ ((r.1 96).toInt ≤ (o0.1 96).toInt + 9) ∧ True
def HM_literalName (yv1 : Int32) (yo0 : cf_O) (n : Nat) : Prop := (∀ (v1 : Int32) (v2 : Int32) (o0 : cf_O), (okO I_M o0) → (Fr (fr_M [76, 96] [77, 97] []) yo0 o0) → ((1 : Int) ≤ v1.toInt ∧ v1.toInt ≤ 417) → ((0 : Int) ≤ v2.toInt ∧ v2.toInt ≤ 100) → ((0 : Int) ≤ (o0.1 0).toInt ∧ (o0.1 0).toInt ≤ 0) → ((1 : Int) ≤ (o0.1 38).toInt ∧ (o0.1 38).toInt ≤ 1) → ((1 : Int) ≤ (o0.1 78).toInt ∧ (o0.1 78).toInt ≤ 1) → ((1 : Int) ≤ (o0.1 85).toInt ∧ (o0.1 85).toInt ≤ 1) → ((1 : Int) ≤ (o0.1 95).toInt ∧ (o0.1 95).toInt ≤ 1) → ((v2.toInt = 100 ∧ (o0.1 76).toInt ≤ (yo0.1 76).toInt + 3 ∧ (o0.1 96).toInt ≤ (yo0.1 96).toInt + 3) ∨ (v2.toInt = 10 ∧ (o0.1 76).toInt ≤ (yo0.1 76).toInt + 4 ∧ (o0.1 96).toInt ≤ (yo0.1 96).toInt + 4) ∨ (v2.toInt = 1 ∧ (o0.1 76).toInt ≤ (yo0.1 76).toInt + 5 ∧ (o0.1 96).toInt ≤ (yo0.1 96).toInt + 5) ∨ (v2.toInt = 0 ∧ (o0.1 76).toInt ≤ (yo0.1 76).toInt + 6 ∧ (o0.1 96).toInt ≤ (yo0.1 96).toInt + 6)) → ((o0.1 95).toInt = 1 ∨ (yo0.1 76).toInt ≤ 90000 - 9) → ((o0.1 95).toInt = 0 ∨ (yo0.1 96).toInt ≤ 24000 - 9) → v2.toInt < (n : Int) → tt (gM_literalName n 0 v1 v2 o0) (QM_literalName yv1 yo0))
set_option maxHeartbeats 4000000 in
set_option maxRecDepth 100000 in
theorem tM_literalName_38 {yv1 : Int32} {yo0 : cf_O} {n : Nat} (H : HM_literalName yv1 yo0 n) (v1 : Int32) (v2 : Int32) (o0 : cf_O) (k_o0 : okO I_M o0) (r_o0 : Fr (fr_M [76, 96] [77, 97] []) yo0 o0) (i_v1 : (1 : Int) ≤ v1.toInt ∧ v1.toInt ≤ 417) (i_v2 : (0 : Int) ≤ v2.toInt ∧ v2.toInt ≤ 100) (f_o0_0 : (0 : Int) ≤ (o0.1 0).toInt ∧ (o0.1 0).toInt ≤ 0) (f_o0_38 : (1 : Int) ≤ (o0.1 38).toInt ∧ (o0.1 38).toInt ≤ 1) (f_o0_78 : (1 : Int) ≤ (o0.1 78).toInt ∧ (o0.1 78).toInt ≤ 1) (f_o0_85 : (1 : Int) ≤ (o0.1 85).toInt ∧ (o0.1 85).toInt ≤ 1) (f_o0_95 : (1 : Int) ≤ (o0.1 95).toInt ∧ (o0.1 95).toInt ≤ 1) (x_0 : (v2.toInt = 100 ∧ (o0.1 76).toInt ≤ (yo0.1 76).toInt + 3 ∧ (o0.1 96).toInt ≤ (yo0.1 96).toInt + 3) ∨ (v2.toInt = 10 ∧ (o0.1 76).toInt ≤ (yo0.1 76).toInt + 4 ∧ (o0.1 96).toInt ≤ (yo0.1 96).toInt + 4) ∨ (v2.toInt = 1 ∧ (o0.1 76).toInt ≤ (yo0.1 76).toInt + 5 ∧ (o0.1 96).toInt ≤ (yo0.1 96).toInt + 5) ∨ (v2.toInt = 0 ∧ (o0.1 76).toInt ≤ (yo0.1 76).toInt + 6 ∧ (o0.1 96).toInt ≤ (yo0.1 96).toInt + 6)) (x_1 : (o0.1 95).toInt = 1 ∨ (yo0.1 76).toInt ≤ 90000 - 9) (x_2 : (o0.1 95).toInt = 0 ∨ (yo0.1 96).toInt ≤ 24000 - 9) (hm : v2.toInt ≤ (n : Int)) : tt (fM_literalName_38 (gM_literalName n) v1 v2 o0) (QM_literalName yv1 yo0) := by
  unfold fM_literalName_38
  have g_o0_39 : (0 : Int) ≤ (o0.1 39).toInt ∧ (o0.1 39).toInt ≤ 8 := k_o0.1 39
  have ey_o0_39 : (o0.1 39).toInt = (yo0.1 39).toInt := congrArg Int32.toInt (r_o0.1 39 rfl)
  have g_o0_76 : (0 : Int) ≤ (o0.1 76).toInt ∧ (o0.1 76).toInt ≤ 90000 := k_o0.1 76
  have ey_o0_95 : (o0.1 95).toInt = (yo0.1 95).toInt := congrArg Int32.toInt (r_o0.1 95 rfl)
  have g_o0_96 : (0 : Int) ≤ (o0.1 96).toInt ∧ (o0.1 96).toInt ≤ 24000 := k_o0.1 96
  refine tt_if (fun c1 => ?_) (fun c1 => ?_)
  · have wc1 : v2.toInt ≤ (0 : Int) := c_le c1
    have i2 : (0 : Int) ≤ v2.toInt ∧ v2.toInt ≤ 0 := nr_lel c1 i_v2 (show (0 : Int) ≤ (0 : Int32).toInt ∧ (0 : Int32).toInt ≤ 0 by decide) (by decide) (by decide)
    exact tt_some ⟨k_o0, r_o0, (show (o0.1 76).toInt ≤ (yo0.1 76).toInt + 9 by omega), (show (o0.1 96).toInt ≤ (yo0.1 96).toInt + 9 by omega), trivial⟩
  · have wc1 : (0 : Int) < v2.toInt := c_nle c1
    have i3 : (1 : Int) ≤ v2.toInt ∧ v2.toInt ≤ 100 := nr_nler c1 (show (0 : Int) ≤ (0 : Int32).toInt ∧ (0 : Int32).toInt ≤ 0 by decide) i_v2 (by decide) (by decide)
    refine tt_kv (P := fun z => ((0 : Int) ≤ z.toInt ∧ z.toInt ≤ 208) ∧ z.toInt = v1.toInt / 2) ⟨iv_div (k := 2) i_v1 (show (2 : Int) ≤ (2 : Int32).toInt ∧ (2 : Int32).toInt ≤ 2 by decide) (by decide) (by decide) (by decide) (by decide), i_dv (Int.le_trans (by decide) i_v1.1) (by decide)⟩ (fun x4 qi5 => ?_)
    obtain ⟨i5, ei5⟩ := qi5
    refine tt_if (fun c6 => ?_) (fun c6 => ?_)
    · have wc6 : x4.toInt < v2.toInt := c_lt c6
      have i7 : (0 : Int) ≤ x4.toInt ∧ x4.toInt ≤ 99 := nr_ltl c6 i5 i3 (by decide) (by decide)
      try unfold fM_literalName_65
      refine tt_kv (P := fun z => ((0 : Int) ≤ z.toInt ∧ z.toInt ≤ 10) ∧ z.toInt = v2.toInt / 10) ⟨iv_div (k := 10) i3 (show (10 : Int) ≤ (10 : Int32).toInt ∧ (10 : Int32).toInt ≤ 10 by decide) (by decide) (by decide) (by decide) (by decide), i_dv (Int.le_trans (by decide) i3.1) (by decide)⟩ (fun x8 qi9 => ?_)
      obtain ⟨i9, ei9⟩ := qi9
      exact H _ _ _ k_o0 r_o0 i_v1 (iv_w (a := 0) (b := 100) (by decide) (by decide) i9) f_o0_0 f_o0_38 f_o0_78 f_o0_85 f_o0_95 (show (x8.toInt = 100 ∧ (o0.1 76).toInt ≤ (yo0.1 76).toInt + 3 ∧ (o0.1 96).toInt ≤ (yo0.1 96).toInt + 3) ∨ (x8.toInt = 10 ∧ (o0.1 76).toInt ≤ (yo0.1 76).toInt + 4 ∧ (o0.1 96).toInt ≤ (yo0.1 96).toInt + 4) ∨ (x8.toInt = 1 ∧ (o0.1 76).toInt ≤ (yo0.1 76).toInt + 5 ∧ (o0.1 96).toInt ≤ (yo0.1 96).toInt + 5) ∨ (x8.toInt = 0 ∧ (o0.1 76).toInt ≤ (yo0.1 76).toInt + 6 ∧ (o0.1 96).toInt ≤ (yo0.1 96).toInt + 6) by omega) (show (o0.1 95).toInt = 1 ∨ (yo0.1 76).toInt ≤ 90000 - 9 by omega) (show (o0.1 95).toInt = 0 ∨ (yo0.1 96).toInt ≤ 24000 - 9 by omega) (show x8.toInt < (n : Int) by omega)
    · have wc6 : v2.toInt ≤ x4.toInt := c_nlt c6
      have i10 : (1 : Int) ≤ x4.toInt ∧ x4.toInt ≤ 208 := nr_nltr c6 i3 i5 (by decide) (by decide)
      refine tt_kv (P := fun z => ((0 : Int) ≤ z.toInt ∧ z.toInt ≤ 208) ∧ z.toInt = v1.toInt / 2) ⟨iv_div (k := 2) i_v1 (show (2 : Int) ≤ (2 : Int32).toInt ∧ (2 : Int32).toInt ≤ 2 by decide) (by decide) (by decide) (by decide) (by decide), i_dv (Int.le_trans (by decide) i_v1.1) (by decide)⟩ (fun x11 qi12 => ?_)
      obtain ⟨i12, ei12⟩ := qi12
      refine tt_n (iv_nz0 i3 (by decide)) ?_
      refine tt_kv (P := fun z => (0 : Int) ≤ z.toInt ∧ z.toInt ≤ 208) (iv_divv i12 i3 (by decide) (by decide) (by decide) (by decide)) (fun x13 i14 => ?_)
      refine tt_kv (P := fun z => ((0 : Int) ≤ z.toInt ∧ z.toInt ≤ 9) ∧ z.toInt = x13.toInt % 10) ⟨iv_rem (k := 10) i14 (show (10 : Int) ≤ (10 : Int32).toInt ∧ (10 : Int32).toInt ≤ 10 by decide) (by decide) (by decide) (by decide) (by decide), i_rem (x := x13) (y := 10) (Int.le_trans (by decide) i14.1) (by decide)⟩ (fun x15 qi16 => ?_)
      obtain ⟨i16, ei16⟩ := qi16
      refine tt_kv (P := fun z => ((48 : Int) ≤ z.toInt ∧ z.toInt ≤ 57) ∧ z.toInt = 48 + x15.toInt) ⟨iv_add (show (48 : Int) ≤ (48 : Int32).toInt ∧ (48 : Int32).toInt ≤ 48 by decide) i16 (by decide) (by decide) (by decide) (by decide), iq_add (show (48 : Int) ≤ (48 : Int32).toInt ∧ (48 : Int32).toInt ≤ 48 by decide) i16 (by decide) (by decide)⟩ (fun x17 qi18 => ?_)
      obtain ⟨i18, ei18⟩ := qi18
      refine tt_kl (fun x19 => ?_)
      refine tt_b (sM_emit _ _ k_o0 f_o0_0 f_o0_38 (show (o0.1 95).toInt = 1 ∨ (o0.1 76).toInt ≤ 90000 - 1 by omega) (show (o0.1 95).toInt = 0 ∨ (o0.1 96).toInt ≤ 24000 - 1 by omega)) (fun q20 hq20 => ?_)
      obtain ⟨k_q20, n_q20, zq20_0, zq20_1, -⟩ := hq20
      have r_q20 := fr_tr r_o0 n_q20 rfl rfl rfl
      have f_q20_0 : (0 : Int) ≤ (q20.1 0).toInt ∧ (q20.1 0).toInt ≤ 0 := by rw [n_q20.1 0 rfl]; exact f_o0_0
      have f_q20_85 : (1 : Int) ≤ (q20.1 85).toInt ∧ (q20.1 85).toInt ≤ 1 := by rw [n_q20.1 85 rfl]; exact f_o0_85
      have f_q20_38 : (1 : Int) ≤ (q20.1 38).toInt ∧ (q20.1 38).toInt ≤ 1 := by rw [n_q20.1 38 rfl]; exact f_o0_38
      have f_q20_78 : (1 : Int) ≤ (q20.1 78).toInt ∧ (q20.1 78).toInt ≤ 1 := by rw [n_q20.1 78 rfl]; exact f_o0_78
      have f_q20_95 : (1 : Int) ≤ (q20.1 95).toInt ∧ (q20.1 95).toInt ≤ 1 := by rw [n_q20.1 95 rfl]; exact f_o0_95
      have e_q20_39 : (q20.1 39).toInt = (o0.1 39).toInt := congrArg Int32.toInt (n_q20.1 39 rfl)
      have g_q20_39 : (0 : Int) ≤ (q20.1 39).toInt ∧ (q20.1 39).toInt ≤ 8 := k_q20.1 39
      have g_q20_76 : (0 : Int) ≤ (q20.1 76).toInt ∧ (q20.1 76).toInt ≤ 90000 := k_q20.1 76
      have e_q20_95 : (q20.1 95).toInt = (o0.1 95).toInt := congrArg Int32.toInt (n_q20.1 95 rfl)
      have g_q20_96 : (0 : Int) ≤ (q20.1 96).toInt ∧ (q20.1 96).toInt ≤ 24000 := k_q20.1 96
      have zq20_0 : (q20.1 76).toInt ≤ (o0.1 76).toInt + 1 := zq20_0
      have zq20_1 : (q20.1 96).toInt ≤ (o0.1 96).toInt + 1 := zq20_1
      try unfold fM_literalName_65
      refine tt_kv (P := fun z => ((0 : Int) ≤ z.toInt ∧ z.toInt ≤ 10) ∧ z.toInt = v2.toInt / 10) ⟨iv_div (k := 10) i3 (show (10 : Int) ≤ (10 : Int32).toInt ∧ (10 : Int32).toInt ≤ 10 by decide) (by decide) (by decide) (by decide) (by decide), i_dv (Int.le_trans (by decide) i3.1) (by decide)⟩ (fun x21 qi22 => ?_)
      obtain ⟨i22, ei22⟩ := qi22
      exact H _ _ _ k_q20 r_q20 i_v1 (iv_w (a := 0) (b := 100) (by decide) (by decide) i22) f_q20_0 f_q20_38 f_q20_78 f_q20_85 f_q20_95 (show (x21.toInt = 100 ∧ (q20.1 76).toInt ≤ (yo0.1 76).toInt + 3 ∧ (q20.1 96).toInt ≤ (yo0.1 96).toInt + 3) ∨ (x21.toInt = 10 ∧ (q20.1 76).toInt ≤ (yo0.1 76).toInt + 4 ∧ (q20.1 96).toInt ≤ (yo0.1 96).toInt + 4) ∨ (x21.toInt = 1 ∧ (q20.1 76).toInt ≤ (yo0.1 76).toInt + 5 ∧ (q20.1 96).toInt ≤ (yo0.1 96).toInt + 5) ∨ (x21.toInt = 0 ∧ (q20.1 76).toInt ≤ (yo0.1 76).toInt + 6 ∧ (q20.1 96).toInt ≤ (yo0.1 96).toInt + 6) by omega) (show (q20.1 95).toInt = 1 ∨ (yo0.1 76).toInt ≤ 90000 - 9 by omega) (show (q20.1 95).toInt = 0 ∨ (yo0.1 96).toInt ≤ 24000 - 9 by omega) (show x21.toInt < (n : Int) by omega)
set_option maxHeartbeats 4000000 in
set_option maxRecDepth 100000 in
theorem hM_literalName (yv1 : Int32) (yo0 : cf_O) : ∀ n, HM_literalName yv1 yo0 n := by
  intro n
  induction n with
  | zero => exact (fun v1 v2 o0 k_o0 r_o0 i_v1 i_v2 f_o0_0 f_o0_38 f_o0_78 f_o0_85 f_o0_95 x_0 x_1 x_2 hm => by exact absurd (show v2.toInt < (0 : Int) from hm) (by omega))
  | succ n ih => exact (fun v1 v2 o0 k_o0 r_o0 i_v1 i_v2 f_o0_0 f_o0_38 f_o0_78 f_o0_85 f_o0_95 x_0 x_1 x_2 hm => tM_literalName_38 ih v1 v2 o0 k_o0 r_o0 i_v1 i_v2 f_o0_0 f_o0_38 f_o0_78 f_o0_85 f_o0_95 x_0 x_1 x_2 (by omega))
set_option maxHeartbeats 4000000 in
set_option maxRecDepth 100000 in
theorem sM_literalName (v1 : Int32) (o0 : cf_O) (k_o0 : okO I_M o0) (i_v1 : (1 : Int) ≤ v1.toInt ∧ v1.toInt ≤ 417) (f_o0_0 : (0 : Int) ≤ (o0.1 0).toInt ∧ (o0.1 0).toInt ≤ 0) (f_o0_38 : (1 : Int) ≤ (o0.1 38).toInt ∧ (o0.1 38).toInt ≤ 1) (f_o0_78 : (1 : Int) ≤ (o0.1 78).toInt ∧ (o0.1 78).toInt ≤ 1) (f_o0_85 : (1 : Int) ≤ (o0.1 85).toInt ∧ (o0.1 85).toInt ≤ 1) (f_o0_95 : (1 : Int) ≤ (o0.1 95).toInt ∧ (o0.1 95).toInt ≤ 1) (x_0 : (o0.1 95).toInt = 1 ∨ (o0.1 76).toInt ≤ 90000 - 9) (x_1 : (o0.1 95).toInt = 0 ∨ (o0.1 96).toInt ≤ 24000 - 9) : tt (fM_literalName v1 o0) (QM_literalName v1 o0) := by
  have H := hM_literalName v1 o0 cfFU
  have hm : (101 : Int) ≤ (cfFU : Nat) := by decide
  have r_o0 : Fr (fr_M [76, 96] [77, 97] []) o0 o0 := fr_rfl
  unfold fM_literalName fM_literalName_0
  have g_o0_39 : (0 : Int) ≤ (o0.1 39).toInt ∧ (o0.1 39).toInt ≤ 8 := k_o0.1 39
  have g_o0_76 : (0 : Int) ≤ (o0.1 76).toInt ∧ (o0.1 76).toInt ≤ 90000 := k_o0.1 76
  have g_o0_96 : (0 : Int) ≤ (o0.1 96).toInt ∧ (o0.1 96).toInt ≤ 24000 := k_o0.1 96
  refine tt_kv (P := fun z => ((0 : Int) ≤ z.toInt ∧ z.toInt ≤ 1) ∧ z.toInt = v1.toInt % 2) ⟨iv_rem (k := 2) i_v1 (show (2 : Int) ≤ (2 : Int32).toInt ∧ (2 : Int32).toInt ≤ 2 by decide) (by decide) (by decide) (by decide) (by decide), i_rem (x := v1) (y := 2) (Int.le_trans (by decide) i_v1.1) (by decide)⟩ (fun x1 qi2 => ?_)
  obtain ⟨i2, ei2⟩ := qi2
  refine tt_if (fun c3 => ?_) (fun c3 => ?_)
  · have wc3 : x1.toInt = (0 : Int) := c_eq c3
    have i4 : (0 : Int) ≤ x1.toInt ∧ x1.toInt ≤ 0 := nr_eql c3 i2 (show (0 : Int) ≤ (0 : Int32).toInt ∧ (0 : Int32).toInt ≤ 0 by decide) (by decide) (by decide)
    refine tt_kv (P := fun z => ((0 : Int) ≤ z.toInt ∧ z.toInt ≤ 208) ∧ z.toInt = v1.toInt / 2) ⟨iv_div (k := 2) i_v1 (show (2 : Int) ≤ (2 : Int32).toInt ∧ (2 : Int32).toInt ≤ 2 by decide) (by decide) (by decide) (by decide) (by decide), i_dv (Int.le_trans (by decide) i_v1.1) (by decide)⟩ (fun x5 qi6 => ?_)
    obtain ⟨i6, ei6⟩ := qi6
    refine tt_b (sM_nodeName _ _ k_o0 (show (1 : Int) ≤ _ ∧ _ ≤ (208 : Int) by omega) f_o0_0 f_o0_38 (show (o0.1 95).toInt = 1 ∨ (o0.1 76).toInt ≤ 90000 - 9 by omega) (show (o0.1 95).toInt = 0 ∨ (o0.1 96).toInt ≤ 24000 - 9 by omega)) (fun q7 hq7 => ?_)
    obtain ⟨k_q7, n_q7, zq7_0, zq7_1, -⟩ := hq7
    have r_q7 := fr_tr r_o0 n_q7 rfl rfl rfl
    have f_q7_0 : (0 : Int) ≤ (q7.1 0).toInt ∧ (q7.1 0).toInt ≤ 0 := by rw [n_q7.1 0 rfl]; exact f_o0_0
    have f_q7_85 : (1 : Int) ≤ (q7.1 85).toInt ∧ (q7.1 85).toInt ≤ 1 := by rw [n_q7.1 85 rfl]; exact f_o0_85
    have f_q7_38 : (1 : Int) ≤ (q7.1 38).toInt ∧ (q7.1 38).toInt ≤ 1 := by rw [n_q7.1 38 rfl]; exact f_o0_38
    have f_q7_78 : (1 : Int) ≤ (q7.1 78).toInt ∧ (q7.1 78).toInt ≤ 1 := by rw [n_q7.1 78 rfl]; exact f_o0_78
    have f_q7_95 : (1 : Int) ≤ (q7.1 95).toInt ∧ (q7.1 95).toInt ≤ 1 := by rw [n_q7.1 95 rfl]; exact f_o0_95
    have e_q7_39 : (q7.1 39).toInt = (o0.1 39).toInt := congrArg Int32.toInt (n_q7.1 39 rfl)
    have g_q7_39 : (0 : Int) ≤ (q7.1 39).toInt ∧ (q7.1 39).toInt ≤ 8 := k_q7.1 39
    have g_q7_76 : (0 : Int) ≤ (q7.1 76).toInt ∧ (q7.1 76).toInt ≤ 90000 := k_q7.1 76
    have e_q7_95 : (q7.1 95).toInt = (o0.1 95).toInt := congrArg Int32.toInt (n_q7.1 95 rfl)
    have g_q7_96 : (0 : Int) ≤ (q7.1 96).toInt ∧ (q7.1 96).toInt ≤ 24000 := k_q7.1 96
    have zq7_0 : (q7.1 76).toInt ≤ (o0.1 76).toInt + 9 := zq7_0
    have zq7_1 : (q7.1 96).toInt ≤ (o0.1 96).toInt + 9 := zq7_1
    exact tt_some ⟨k_q7, r_q7, (show (q7.1 76).toInt ≤ (o0.1 76).toInt + 9 by omega), (show (q7.1 96).toInt ≤ (o0.1 96).toInt + 9 by omega), trivial⟩
  · have wc3 : ¬ x1.toInt = (0 : Int) := c_ne c3
    have i8 : (1 : Int) ≤ x1.toInt ∧ x1.toInt ≤ 1 := nr_nela c3 i2 (show (0 : Int) ≤ (0 : Int32).toInt ∧ (0 : Int32).toInt ≤ 0 by decide) (by decide) (by decide)
    refine tt_b (sM_emit _ _ k_o0 f_o0_0 f_o0_38 (show (o0.1 95).toInt = 1 ∨ (o0.1 76).toInt ≤ 90000 - 1 by omega) (show (o0.1 95).toInt = 0 ∨ (o0.1 96).toInt ≤ 24000 - 1 by omega)) (fun q9 hq9 => ?_)
    obtain ⟨k_q9, n_q9, zq9_0, zq9_1, -⟩ := hq9
    have r_q9 := fr_tr r_o0 n_q9 rfl rfl rfl
    have f_q9_0 : (0 : Int) ≤ (q9.1 0).toInt ∧ (q9.1 0).toInt ≤ 0 := by rw [n_q9.1 0 rfl]; exact f_o0_0
    have f_q9_85 : (1 : Int) ≤ (q9.1 85).toInt ∧ (q9.1 85).toInt ≤ 1 := by rw [n_q9.1 85 rfl]; exact f_o0_85
    have f_q9_38 : (1 : Int) ≤ (q9.1 38).toInt ∧ (q9.1 38).toInt ≤ 1 := by rw [n_q9.1 38 rfl]; exact f_o0_38
    have f_q9_78 : (1 : Int) ≤ (q9.1 78).toInt ∧ (q9.1 78).toInt ≤ 1 := by rw [n_q9.1 78 rfl]; exact f_o0_78
    have f_q9_95 : (1 : Int) ≤ (q9.1 95).toInt ∧ (q9.1 95).toInt ≤ 1 := by rw [n_q9.1 95 rfl]; exact f_o0_95
    have e_q9_39 : (q9.1 39).toInt = (o0.1 39).toInt := congrArg Int32.toInt (n_q9.1 39 rfl)
    have g_q9_39 : (0 : Int) ≤ (q9.1 39).toInt ∧ (q9.1 39).toInt ≤ 8 := k_q9.1 39
    have g_q9_76 : (0 : Int) ≤ (q9.1 76).toInt ∧ (q9.1 76).toInt ≤ 90000 := k_q9.1 76
    have e_q9_95 : (q9.1 95).toInt = (o0.1 95).toInt := congrArg Int32.toInt (n_q9.1 95 rfl)
    have g_q9_96 : (0 : Int) ≤ (q9.1 96).toInt ∧ (q9.1 96).toInt ≤ 24000 := k_q9.1 96
    have zq9_0 : (q9.1 76).toInt ≤ (o0.1 76).toInt + 1 := zq9_0
    have zq9_1 : (q9.1 96).toInt ≤ (o0.1 96).toInt + 1 := zq9_1
    refine tt_b (sM_emit _ _ k_q9 f_q9_0 f_q9_38 (show (q9.1 95).toInt = 1 ∨ (q9.1 76).toInt ≤ 90000 - 1 by omega) (show (q9.1 95).toInt = 0 ∨ (q9.1 96).toInt ≤ 24000 - 1 by omega)) (fun q10 hq10 => ?_)
    obtain ⟨k_q10, n_q10, zq10_0, zq10_1, -⟩ := hq10
    have r_q10 := fr_tr r_q9 n_q10 rfl rfl rfl
    have f_q10_0 : (0 : Int) ≤ (q10.1 0).toInt ∧ (q10.1 0).toInt ≤ 0 := by rw [n_q10.1 0 rfl]; exact f_q9_0
    have f_q10_85 : (1 : Int) ≤ (q10.1 85).toInt ∧ (q10.1 85).toInt ≤ 1 := by rw [n_q10.1 85 rfl]; exact f_q9_85
    have f_q10_38 : (1 : Int) ≤ (q10.1 38).toInt ∧ (q10.1 38).toInt ≤ 1 := by rw [n_q10.1 38 rfl]; exact f_q9_38
    have f_q10_78 : (1 : Int) ≤ (q10.1 78).toInt ∧ (q10.1 78).toInt ≤ 1 := by rw [n_q10.1 78 rfl]; exact f_q9_78
    have f_q10_95 : (1 : Int) ≤ (q10.1 95).toInt ∧ (q10.1 95).toInt ≤ 1 := by rw [n_q10.1 95 rfl]; exact f_q9_95
    have e_q10_39 : (q10.1 39).toInt = (q9.1 39).toInt := congrArg Int32.toInt (n_q10.1 39 rfl)
    have g_q10_39 : (0 : Int) ≤ (q10.1 39).toInt ∧ (q10.1 39).toInt ≤ 8 := k_q10.1 39
    have g_q10_76 : (0 : Int) ≤ (q10.1 76).toInt ∧ (q10.1 76).toInt ≤ 90000 := k_q10.1 76
    have e_q10_95 : (q10.1 95).toInt = (q9.1 95).toInt := congrArg Int32.toInt (n_q10.1 95 rfl)
    have g_q10_96 : (0 : Int) ≤ (q10.1 96).toInt ∧ (q10.1 96).toInt ≤ 24000 := k_q10.1 96
    have zq10_0 : (q10.1 76).toInt ≤ (q9.1 76).toInt + 1 := zq10_0
    have zq10_1 : (q10.1 96).toInt ≤ (q9.1 96).toInt + 1 := zq10_1
    refine tt_b (sM_emit _ _ k_q10 f_q10_0 f_q10_38 (show (q10.1 95).toInt = 1 ∨ (q10.1 76).toInt ≤ 90000 - 1 by omega) (show (q10.1 95).toInt = 0 ∨ (q10.1 96).toInt ≤ 24000 - 1 by omega)) (fun q11 hq11 => ?_)
    obtain ⟨k_q11, n_q11, zq11_0, zq11_1, -⟩ := hq11
    have r_q11 := fr_tr r_q10 n_q11 rfl rfl rfl
    have f_q11_0 : (0 : Int) ≤ (q11.1 0).toInt ∧ (q11.1 0).toInt ≤ 0 := by rw [n_q11.1 0 rfl]; exact f_q10_0
    have f_q11_85 : (1 : Int) ≤ (q11.1 85).toInt ∧ (q11.1 85).toInt ≤ 1 := by rw [n_q11.1 85 rfl]; exact f_q10_85
    have f_q11_38 : (1 : Int) ≤ (q11.1 38).toInt ∧ (q11.1 38).toInt ≤ 1 := by rw [n_q11.1 38 rfl]; exact f_q10_38
    have f_q11_78 : (1 : Int) ≤ (q11.1 78).toInt ∧ (q11.1 78).toInt ≤ 1 := by rw [n_q11.1 78 rfl]; exact f_q10_78
    have f_q11_95 : (1 : Int) ≤ (q11.1 95).toInt ∧ (q11.1 95).toInt ≤ 1 := by rw [n_q11.1 95 rfl]; exact f_q10_95
    have e_q11_39 : (q11.1 39).toInt = (q10.1 39).toInt := congrArg Int32.toInt (n_q11.1 39 rfl)
    have g_q11_39 : (0 : Int) ≤ (q11.1 39).toInt ∧ (q11.1 39).toInt ≤ 8 := k_q11.1 39
    have g_q11_76 : (0 : Int) ≤ (q11.1 76).toInt ∧ (q11.1 76).toInt ≤ 90000 := k_q11.1 76
    have e_q11_95 : (q11.1 95).toInt = (q10.1 95).toInt := congrArg Int32.toInt (n_q11.1 95 rfl)
    have g_q11_96 : (0 : Int) ≤ (q11.1 96).toInt ∧ (q11.1 96).toInt ≤ 24000 := k_q11.1 96
    have zq11_0 : (q11.1 76).toInt ≤ (q10.1 76).toInt + 1 := zq11_0
    have zq11_1 : (q11.1 96).toInt ≤ (q10.1 96).toInt + 1 := zq11_1
    exact H _ _ _ k_q11 r_q11 i_v1 (iv_w (a := 0) (b := 100) (by decide) (by decide) (show (100 : Int) ≤ (100 : Int32).toInt ∧ (100 : Int32).toInt ≤ 100 by decide)) f_q11_0 f_q11_38 f_q11_78 f_q11_85 f_q11_95 (show (100 = 100 ∧ (q11.1 76).toInt ≤ (o0.1 76).toInt + 3 ∧ (q11.1 96).toInt ≤ (o0.1 96).toInt + 3) ∨ (100 = 10 ∧ (q11.1 76).toInt ≤ (o0.1 76).toInt + 4 ∧ (q11.1 96).toInt ≤ (o0.1 96).toInt + 4) ∨ (100 = 1 ∧ (q11.1 76).toInt ≤ (o0.1 76).toInt + 5 ∧ (q11.1 96).toInt ≤ (o0.1 96).toInt + 5) ∨ (100 = 0 ∧ (q11.1 76).toInt ≤ (o0.1 76).toInt + 6 ∧ (q11.1 96).toInt ≤ (o0.1 96).toInt + 6) by omega) (show (q11.1 95).toInt = 1 ∨ (o0.1 76).toInt ≤ 90000 - 9 by omega) (show (q11.1 95).toInt = 0 ∨ (o0.1 96).toInt ≤ 24000 - 9 by omega) (show 100 < ((cfFU : Nat) : Int) by omega)
def QM_writeInstance (v1 : Int32) (o0 : cf_O) (r : (cf_O)) : Prop := (okO I_M r) ∧ (Fr (fr_M [76, 96] [77, 97] []) o0 r) ∧ ((r.1 76).toInt ≤ (o0.1 76).toInt + 55) ∧ ((r.1 96).toInt ≤ (o0.1 96).toInt + 55) ∧ True
def HM_writeInstance (yv1 : Int32) (yo0 : cf_O) (n : Nat) : Prop := (∀ (v1 : Int32) (v2 : Int32) (v3 : Int32) (o0 : cf_O), (okO I_M o0) → (Fr (fr_M [76, 96] [77, 97] []) yo0 o0) → ((0 : Int) ≤ v1.toInt ∧ v1.toInt ≤ 419) → ((0 : Int) ≤ v2.toInt ∧ v2.toInt ≤ 11) → ((0 : Int) ≤ v3.toInt ∧ v3.toInt ≤ 3) → ((0 : Int) ≤ (o0.1 0).toInt ∧ (o0.1 0).toInt ≤ 0) → ((1 : Int) ≤ (o0.1 38).toInt ∧ (o0.1 38).toInt ≤ 1) → ((1 : Int) ≤ (o0.1 78).toInt ∧ (o0.1 78).toInt ≤ 1) → ((1 : Int) ≤ (o0.1 85).toInt ∧ (o0.1 85).toInt ≤ 1) → ((1 : Int) ≤ (o0.1 93).toInt ∧ (o0.1 93).toInt ≤ 420) → ((1 : Int) ≤ (o0.1 95).toInt ∧ (o0.1 95).toInt ≤ 1) → ((o0.1 76).toInt ≤ (yo0.1 76).toInt + 14 + 9 * v3.toInt) → ((o0.1 96).toInt ≤ (yo0.1 96).toInt + 14 + 9 * v3.toInt) → ((o0.1 95).toInt = 1 ∨ (yo0.1 76).toInt ≤ 90000 - 55) → ((o0.1 95).toInt = 0 ∨ (yo0.1 96).toInt ≤ 24000 - 55) → (Mt (o0.2.1 87)) → (Fp (o0.2.1 84)) → (Iz v1.toInt v2.toInt (o0.2.1 87) (o0.2.1 84)) → (2 ≤ v1.toInt) → (v1.toInt ≤ 417) → 0 + (3 - v3.toInt) * 2 < (n : Int) → tt (gM_writeInstance n 0 v1 v2 v3 o0) (QM_writeInstance yv1 yo0))
set_option maxHeartbeats 4000000 in
set_option maxRecDepth 100000 in
theorem tM_writeInstance_57 {yv1 : Int32} {yo0 : cf_O} {n : Nat} (H : HM_writeInstance yv1 yo0 n) (v1 : Int32) (v2 : Int32) (v3 : Int32) (o0 : cf_O) (k_o0 : okO I_M o0) (r_o0 : Fr (fr_M [76, 96] [77, 97] []) yo0 o0) (i_v1 : (0 : Int) ≤ v1.toInt ∧ v1.toInt ≤ 419) (i_v2 : (0 : Int) ≤ v2.toInt ∧ v2.toInt ≤ 11) (i_v3 : (0 : Int) ≤ v3.toInt ∧ v3.toInt ≤ 3) (f_o0_0 : (0 : Int) ≤ (o0.1 0).toInt ∧ (o0.1 0).toInt ≤ 0) (f_o0_38 : (1 : Int) ≤ (o0.1 38).toInt ∧ (o0.1 38).toInt ≤ 1) (f_o0_78 : (1 : Int) ≤ (o0.1 78).toInt ∧ (o0.1 78).toInt ≤ 1) (f_o0_85 : (1 : Int) ≤ (o0.1 85).toInt ∧ (o0.1 85).toInt ≤ 1) (f_o0_93 : (1 : Int) ≤ (o0.1 93).toInt ∧ (o0.1 93).toInt ≤ 420) (f_o0_95 : (1 : Int) ≤ (o0.1 95).toInt ∧ (o0.1 95).toInt ≤ 1) (x_0 : (o0.1 76).toInt ≤ (yo0.1 76).toInt + 14 + 9 * v3.toInt) (x_1 : (o0.1 96).toInt ≤ (yo0.1 96).toInt + 14 + 9 * v3.toInt) (x_2 : (o0.1 95).toInt = 1 ∨ (yo0.1 76).toInt ≤ 90000 - 55) (x_3 : (o0.1 95).toInt = 0 ∨ (yo0.1 96).toInt ≤ 24000 - 55) (x_4 : Mt (o0.2.1 87)) (x_5 : Fp (o0.2.1 84)) (x_6 : Iz v1.toInt v2.toInt (o0.2.1 87) (o0.2.1 84)) (x_7 : 2 ≤ v1.toInt) (x_8 : v1.toInt ≤ 417) (hm : 0 + (3 - v3.toInt) * 2 ≤ (n : Int)) : tt (fM_writeInstance_57 (gM_writeInstance n) v1 v2 v3 o0) (QM_writeInstance yv1 yo0) := by
  unfold fM_writeInstance_57
  have g_o0_76 : (0 : Int) ≤ (o0.1 76).toInt ∧ (o0.1 76).toInt ≤ 90000 := k_o0.1 76
  have ey_o0_93 : (o0.1 93).toInt = (yo0.1 93).toInt := congrArg Int32.toInt (r_o0.1 93 rfl)
  have ey_o0_95 : (o0.1 95).toInt = (yo0.1 95).toInt := congrArg Int32.toInt (r_o0.1 95 rfl)
  have g_o0_96 : (0 : Int) ≤ (o0.1 96).toInt ∧ (o0.1 96).toInt ≤ 24000 := k_o0.1 96
  have t1 := tn_n v3
  refine tt_kv (P := fun z => ((0 : Int) ≤ z.toInt ∧ z.toInt ≤ 44) ∧ z = (4 * v2) ∧ z.toInt = 4 * v2.toInt) ⟨iv_mul (show (4 : Int) ≤ (4 : Int32).toInt ∧ (4 : Int32).toInt ≤ 4 by decide) i_v2 (by decide) (by decide) (by decide) (by decide) (by decide), rfl, iq_mul (show (4 : Int) ≤ (4 : Int32).toInt ∧ (4 : Int32).toInt ≤ 4 by decide) i_v2 (by decide) (by decide) (by decide) (by decide)⟩ (fun x2 qi3 => ?_)
  obtain ⟨i3, ax2, ei3⟩ := qi3
  refine tt_kv (P := fun z => ((2 : Int) ≤ z.toInt ∧ z.toInt ≤ 46) ∧ z = (x2 + 2) ∧ z.toInt = x2.toInt + 2) ⟨iv_add i3 (show (2 : Int) ≤ (2 : Int32).toInt ∧ (2 : Int32).toInt ≤ 2 by decide) (by decide) (by decide) (by decide) (by decide), rfl, iq_add i3 (show (2 : Int) ≤ (2 : Int32).toInt ∧ (2 : Int32).toInt ≤ 2 by decide) (by decide) (by decide)⟩ (fun x4 qi5 => ?_)
  obtain ⟨i5, ax4, ei5⟩ := qi5
  refine tt_n (ix_ok i5 (by decide) (by decide)) ?_
  refine tt_kv (P := fun z => (((-2147483648) : Int) ≤ z.toInt ∧ z.toInt ≤ 2147483647) ∧ z = (o0.2.1 84 x4.toNatClampNeg) ∧ z.toInt = (o0.2.1 84 x4.toNatClampNeg).toInt) ⟨(k_o0.2 84 _), rfl, rfl⟩ (fun x6 qi7 => ?_)
  obtain ⟨i7, ax6, ei7⟩ := qi7
  have t8 := tn_n x4
  have t9 := x_5 (x4.toNatClampNeg)
  have i10 : (0 : Int) ≤ x6.toInt ∧ x6.toInt ≤ 3 := by omega
  refine tt_if (fun c11 => ?_) (fun c11 => ?_)
  · have wc11 : x6.toInt ≤ v3.toInt := c_le c11
    refine tt_b (sM_literalName _ _ k_o0 (show (1 : Int) ≤ _ ∧ _ ≤ (417 : Int) by omega) f_o0_0 f_o0_38 f_o0_78 f_o0_85 f_o0_95 (show (o0.1 95).toInt = 1 ∨ (o0.1 76).toInt ≤ 90000 - 9 by omega) (show (o0.1 95).toInt = 0 ∨ (o0.1 96).toInt ≤ 24000 - 9 by omega)) (fun q12 hq12 => ?_)
    obtain ⟨k_q12, n_q12, zq12_0, zq12_1, -⟩ := hq12
    have r_q12 := fr_tr r_o0 n_q12 rfl rfl rfl
    have f_q12_0 : (0 : Int) ≤ (q12.1 0).toInt ∧ (q12.1 0).toInt ≤ 0 := by rw [n_q12.1 0 rfl]; exact f_o0_0
    have f_q12_85 : (1 : Int) ≤ (q12.1 85).toInt ∧ (q12.1 85).toInt ≤ 1 := by rw [n_q12.1 85 rfl]; exact f_o0_85
    have f_q12_38 : (1 : Int) ≤ (q12.1 38).toInt ∧ (q12.1 38).toInt ≤ 1 := by rw [n_q12.1 38 rfl]; exact f_o0_38
    have f_q12_93 : (1 : Int) ≤ (q12.1 93).toInt ∧ (q12.1 93).toInt ≤ 420 := by rw [n_q12.1 93 rfl]; exact f_o0_93
    have f_q12_78 : (1 : Int) ≤ (q12.1 78).toInt ∧ (q12.1 78).toInt ≤ 1 := by rw [n_q12.1 78 rfl]; exact f_o0_78
    have f_q12_95 : (1 : Int) ≤ (q12.1 95).toInt ∧ (q12.1 95).toInt ≤ 1 := by rw [n_q12.1 95 rfl]; exact f_o0_95
    have g_q12_76 : (0 : Int) ≤ (q12.1 76).toInt ∧ (q12.1 76).toInt ≤ 90000 := k_q12.1 76
    have e_q12_93 : (q12.1 93).toInt = (o0.1 93).toInt := congrArg Int32.toInt (n_q12.1 93 rfl)
    have e_q12_95 : (q12.1 95).toInt = (o0.1 95).toInt := congrArg Int32.toInt (n_q12.1 95 rfl)
    have g_q12_96 : (0 : Int) ≤ (q12.1 96).toInt ∧ (q12.1 96).toInt ≤ 24000 := k_q12.1 96
    have zq12_0 : (q12.1 76).toInt ≤ (o0.1 76).toInt + 9 := zq12_0
    have zq12_1 : (q12.1 96).toInt ≤ (o0.1 96).toInt + 9 := zq12_1
    have u13 : Mt (q12.2.1 87) := by rw [n_q12.2.1 87 rfl]; exact x_4
    have u14 : Fp (q12.2.1 84) := by rw [n_q12.2.1 84 rfl]; exact x_5
    have u15 : Iz v1.toInt v2.toInt (q12.2.1 87) (q12.2.1 84) := by rw [n_q12.2.1 84 rfl, n_q12.2.1 87 rfl]; exact x_6
    refine tt_b (sM_emit _ _ k_q12 f_q12_0 f_q12_38 (show (q12.1 95).toInt = 1 ∨ (q12.1 76).toInt ≤ 90000 - 1 by omega) (show (q12.1 95).toInt = 0 ∨ (q12.1 96).toInt ≤ 24000 - 1 by omega)) (fun q16 hq16 => ?_)
    obtain ⟨k_q16, n_q16, zq16_0, zq16_1, -⟩ := hq16
    have r_q16 := fr_tr r_q12 n_q16 rfl rfl rfl
    have f_q16_0 : (0 : Int) ≤ (q16.1 0).toInt ∧ (q16.1 0).toInt ≤ 0 := by rw [n_q16.1 0 rfl]; exact f_q12_0
    have f_q16_85 : (1 : Int) ≤ (q16.1 85).toInt ∧ (q16.1 85).toInt ≤ 1 := by rw [n_q16.1 85 rfl]; exact f_q12_85
    have f_q16_38 : (1 : Int) ≤ (q16.1 38).toInt ∧ (q16.1 38).toInt ≤ 1 := by rw [n_q16.1 38 rfl]; exact f_q12_38
    have f_q16_93 : (1 : Int) ≤ (q16.1 93).toInt ∧ (q16.1 93).toInt ≤ 420 := by rw [n_q16.1 93 rfl]; exact f_q12_93
    have f_q16_78 : (1 : Int) ≤ (q16.1 78).toInt ∧ (q16.1 78).toInt ≤ 1 := by rw [n_q16.1 78 rfl]; exact f_q12_78
    have f_q16_95 : (1 : Int) ≤ (q16.1 95).toInt ∧ (q16.1 95).toInt ≤ 1 := by rw [n_q16.1 95 rfl]; exact f_q12_95
    have g_q16_76 : (0 : Int) ≤ (q16.1 76).toInt ∧ (q16.1 76).toInt ≤ 90000 := k_q16.1 76
    have e_q16_93 : (q16.1 93).toInt = (q12.1 93).toInt := congrArg Int32.toInt (n_q16.1 93 rfl)
    have e_q16_95 : (q16.1 95).toInt = (q12.1 95).toInt := congrArg Int32.toInt (n_q16.1 95 rfl)
    have g_q16_96 : (0 : Int) ≤ (q16.1 96).toInt ∧ (q16.1 96).toInt ≤ 24000 := k_q16.1 96
    have zq16_0 : (q16.1 76).toInt ≤ (q12.1 76).toInt + 1 := zq16_0
    have zq16_1 : (q16.1 96).toInt ≤ (q12.1 96).toInt + 1 := zq16_1
    have u17 : Mt (q16.2.1 87) := by rw [n_q16.2.1 87 rfl]; exact u13
    have u18 : Fp (q16.2.1 84) := by rw [n_q16.2.1 84 rfl]; exact u14
    have u19 : Iz v1.toInt v2.toInt (q16.2.1 87) (q16.2.1 84) := by rw [n_q16.2.1 84 rfl, n_q16.2.1 87 rfl]; exact u15
    exact tt_some ⟨k_q16, r_q16, (show (q16.1 76).toInt ≤ (yo0.1 76).toInt + 55 by omega), (show (q16.1 96).toInt ≤ (yo0.1 96).toInt + 55 by omega), trivial⟩
  · have wc11 : v3.toInt < x6.toInt := c_nle c11
    have i20 : (0 : Int) ≤ v3.toInt ∧ v3.toInt ≤ 2 := nr_nlel c11 i_v3 i10 (by decide) (by decide)
    have i21 : (1 : Int) ≤ x6.toInt ∧ x6.toInt ≤ 3 := nr_nler c11 i_v3 i10 (by decide) (by decide)
    refine tt_kv (P := fun z => ((0 : Int) ≤ z.toInt ∧ z.toInt ≤ 2095) ∧ z = (5 * v1) ∧ z.toInt = 5 * v1.toInt) ⟨iv_mul (show (5 : Int) ≤ (5 : Int32).toInt ∧ (5 : Int32).toInt ≤ 5 by decide) i_v1 (by decide) (by decide) (by decide) (by decide) (by decide), rfl, iq_mul (show (5 : Int) ≤ (5 : Int32).toInt ∧ (5 : Int32).toInt ≤ 5 by decide) i_v1 (by decide) (by decide) (by decide) (by decide)⟩ (fun x22 qi23 => ?_)
    obtain ⟨i23, ax22, ei23⟩ := qi23
    refine tt_kv (P := fun z => ((2 : Int) ≤ z.toInt ∧ z.toInt ≤ 2097) ∧ z = (x22 + 2) ∧ z.toInt = x22.toInt + 2) ⟨iv_add i23 (show (2 : Int) ≤ (2 : Int32).toInt ∧ (2 : Int32).toInt ≤ 2 by decide) (by decide) (by decide) (by decide) (by decide), rfl, iq_add i23 (show (2 : Int) ≤ (2 : Int32).toInt ∧ (2 : Int32).toInt ≤ 2 by decide) (by decide) (by decide)⟩ (fun x24 qi25 => ?_)
    obtain ⟨i25, ax24, ei25⟩ := qi25
    refine tt_kv (P := fun z => ((2 : Int) ≤ z.toInt ∧ z.toInt ≤ 2099) ∧ z = (x24 + v3) ∧ z.toInt = x24.toInt + v3.toInt) ⟨iv_add i25 i20 (by decide) (by decide) (by decide) (by decide), rfl, iq_add i25 i20 (by decide) (by decide)⟩ (fun x26 qi27 => ?_)
    obtain ⟨i27, ax26, ei27⟩ := qi27
    refine tt_n (ix_ok i27 (by decide) (by decide)) ?_
    refine tt_kv (P := fun z => (((-2147483648) : Int) ≤ z.toInt ∧ z.toInt ≤ 2147483647) ∧ z = (o0.2.1 87 x26.toNatClampNeg) ∧ z.toInt = (o0.2.1 87 x26.toNatClampNeg).toInt) ⟨(k_o0.2 87 _), rfl, rfl⟩ (fun x28 qi29 => ?_)
    obtain ⟨i29, ax28, ei29⟩ := qi29
    have t30 := tn_n x26
    have t31 := x_4 (x26.toNatClampNeg)
    have t32 := Iz_at x_6 (x26.toNatClampNeg) (x4.toNatClampNeg) v3.toNatClampNeg
    have i33 : ((-1) : Int) ≤ x28.toInt ∧ x28.toInt ≤ 417 := by omega
    refine tt_b (sM_literalName _ _ k_o0 (show (1 : Int) ≤ _ ∧ _ ≤ (417 : Int) by omega) f_o0_0 f_o0_38 f_o0_78 f_o0_85 f_o0_95 (show (o0.1 95).toInt = 1 ∨ (o0.1 76).toInt ≤ 90000 - 9 by omega) (show (o0.1 95).toInt = 0 ∨ (o0.1 96).toInt ≤ 24000 - 9 by omega)) (fun q34 hq34 => ?_)
    obtain ⟨k_q34, n_q34, zq34_0, zq34_1, -⟩ := hq34
    have r_q34 := fr_tr r_o0 n_q34 rfl rfl rfl
    have f_q34_0 : (0 : Int) ≤ (q34.1 0).toInt ∧ (q34.1 0).toInt ≤ 0 := by rw [n_q34.1 0 rfl]; exact f_o0_0
    have f_q34_85 : (1 : Int) ≤ (q34.1 85).toInt ∧ (q34.1 85).toInt ≤ 1 := by rw [n_q34.1 85 rfl]; exact f_o0_85
    have f_q34_38 : (1 : Int) ≤ (q34.1 38).toInt ∧ (q34.1 38).toInt ≤ 1 := by rw [n_q34.1 38 rfl]; exact f_o0_38
    have f_q34_93 : (1 : Int) ≤ (q34.1 93).toInt ∧ (q34.1 93).toInt ≤ 420 := by rw [n_q34.1 93 rfl]; exact f_o0_93
    have f_q34_78 : (1 : Int) ≤ (q34.1 78).toInt ∧ (q34.1 78).toInt ≤ 1 := by rw [n_q34.1 78 rfl]; exact f_o0_78
    have f_q34_95 : (1 : Int) ≤ (q34.1 95).toInt ∧ (q34.1 95).toInt ≤ 1 := by rw [n_q34.1 95 rfl]; exact f_o0_95
    have g_q34_76 : (0 : Int) ≤ (q34.1 76).toInt ∧ (q34.1 76).toInt ≤ 90000 := k_q34.1 76
    have e_q34_93 : (q34.1 93).toInt = (o0.1 93).toInt := congrArg Int32.toInt (n_q34.1 93 rfl)
    have e_q34_95 : (q34.1 95).toInt = (o0.1 95).toInt := congrArg Int32.toInt (n_q34.1 95 rfl)
    have g_q34_96 : (0 : Int) ≤ (q34.1 96).toInt ∧ (q34.1 96).toInt ≤ 24000 := k_q34.1 96
    have zq34_0 : (q34.1 76).toInt ≤ (o0.1 76).toInt + 9 := zq34_0
    have zq34_1 : (q34.1 96).toInt ≤ (o0.1 96).toInt + 9 := zq34_1
    have u35 : Mt (q34.2.1 87) := by rw [n_q34.2.1 87 rfl]; exact x_4
    have u36 : Fp (q34.2.1 84) := by rw [n_q34.2.1 84 rfl]; exact x_5
    have u37 : Iz v1.toInt v2.toInt (q34.2.1 87) (q34.2.1 84) := by rw [n_q34.2.1 84 rfl, n_q34.2.1 87 rfl]; exact x_6
    refine tt_kv (P := fun z => ((1 : Int) ≤ z.toInt ∧ z.toInt ≤ 3) ∧ z = (v3 + 1) ∧ z.toInt = v3.toInt + 1) ⟨iv_add i20 (show (1 : Int) ≤ (1 : Int32).toInt ∧ (1 : Int32).toInt ≤ 1 by decide) (by decide) (by decide) (by decide) (by decide), rfl, iq_add i20 (show (1 : Int) ≤ (1 : Int32).toInt ∧ (1 : Int32).toInt ≤ 1 by decide) (by decide) (by decide)⟩ (fun x38 qi39 => ?_)
    obtain ⟨i39, ax38, ei39⟩ := qi39
    exact H _ _ _ _ k_q34 r_q34 i_v1 i_v2 (iv_w (a := 0) (b := 3) (by decide) (by decide) i39) f_q34_0 f_q34_38 f_q34_78 f_q34_85 f_q34_93 f_q34_95 (show (q34.1 76).toInt ≤ (yo0.1 76).toInt + 14 + 9 * x38.toInt by omega) (show (q34.1 96).toInt ≤ (yo0.1 96).toInt + 14 + 9 * x38.toInt by omega) (show (q34.1 95).toInt = 1 ∨ (yo0.1 76).toInt ≤ 90000 - 55 by omega) (show (q34.1 95).toInt = 0 ∨ (yo0.1 96).toInt ≤ 24000 - 55 by omega) u35 u36 u37 (show 2 ≤ v1.toInt by omega) (show v1.toInt ≤ 417 by omega) (show 0 + (3 - x38.toInt) * 2 < (n : Int) by omega)
set_option maxHeartbeats 4000000 in
set_option maxRecDepth 100000 in
theorem hM_writeInstance (yv1 : Int32) (yo0 : cf_O) : ∀ n, HM_writeInstance yv1 yo0 n := by
  intro n
  induction n with
  | zero => exact (fun v1 v2 v3 o0 k_o0 r_o0 i_v1 i_v2 i_v3 f_o0_0 f_o0_38 f_o0_78 f_o0_85 f_o0_93 f_o0_95 x_0 x_1 x_2 x_3 x_4 x_5 x_6 x_7 x_8 hm => by exact absurd (show 0 + (3 - v3.toInt) * 2 < (0 : Int) from hm) (by omega))
  | succ n ih => exact (fun v1 v2 v3 o0 k_o0 r_o0 i_v1 i_v2 i_v3 f_o0_0 f_o0_38 f_o0_78 f_o0_85 f_o0_93 f_o0_95 x_0 x_1 x_2 x_3 x_4 x_5 x_6 x_7 x_8 hm => tM_writeInstance_57 ih v1 v2 v3 o0 k_o0 r_o0 i_v1 i_v2 i_v3 f_o0_0 f_o0_38 f_o0_78 f_o0_85 f_o0_93 f_o0_95 x_0 x_1 x_2 x_3 x_4 x_5 x_6 x_7 x_8 (by omega))
set_option maxHeartbeats 4000000 in
set_option maxRecDepth 100000 in
theorem sM_writeInstance (v1 : Int32) (o0 : cf_O) (k_o0 : okO I_M o0) (i_v1 : (0 : Int) ≤ v1.toInt ∧ v1.toInt ≤ 419) (f_o0_0 : (0 : Int) ≤ (o0.1 0).toInt ∧ (o0.1 0).toInt ≤ 0) (f_o0_38 : (1 : Int) ≤ (o0.1 38).toInt ∧ (o0.1 38).toInt ≤ 1) (f_o0_78 : (1 : Int) ≤ (o0.1 78).toInt ∧ (o0.1 78).toInt ≤ 1) (f_o0_85 : (1 : Int) ≤ (o0.1 85).toInt ∧ (o0.1 85).toInt ≤ 1) (f_o0_93 : (1 : Int) ≤ (o0.1 93).toInt ∧ (o0.1 93).toInt ≤ 420) (f_o0_95 : (1 : Int) ≤ (o0.1 95).toInt ∧ (o0.1 95).toInt ≤ 1) (x_0 : (o0.1 95).toInt = 1 ∨ (o0.1 76).toInt ≤ 90000 - 55) (x_1 : (o0.1 95).toInt = 0 ∨ (o0.1 96).toInt ≤ 24000 - 55) (x_2 : Mt (o0.2.1 87)) (x_3 : Fp (o0.2.1 84)) (x_4 : Iq v1.toInt (o0.2.1 87) (o0.2.1 84)) (x_5 : 2 ≤ v1.toInt) (x_6 : v1.toInt ≤ 417) : tt (fM_writeInstance v1 o0) (QM_writeInstance v1 o0) := by
  have H := hM_writeInstance v1 o0 cfFU
  have hm : (9 : Int) ≤ (cfFU : Nat) := by decide
  have r_o0 : Fr (fr_M [76, 96] [77, 97] []) o0 o0 := fr_rfl
  unfold fM_writeInstance fM_writeInstance_0
  have g_o0_76 : (0 : Int) ≤ (o0.1 76).toInt ∧ (o0.1 76).toInt ≤ 90000 := k_o0.1 76
  have g_o0_96 : (0 : Int) ≤ (o0.1 96).toInt ∧ (o0.1 96).toInt ≤ 24000 := k_o0.1 96
  refine tt_kv (P := fun z => ((0 : Int) ≤ z.toInt ∧ z.toInt ≤ 2095) ∧ z = (5 * v1) ∧ z.toInt = 5 * v1.toInt) ⟨iv_mul (show (5 : Int) ≤ (5 : Int32).toInt ∧ (5 : Int32).toInt ≤ 5 by decide) i_v1 (by decide) (by decide) (by decide) (by decide) (by decide), rfl, iq_mul (show (5 : Int) ≤ (5 : Int32).toInt ∧ (5 : Int32).toInt ≤ 5 by decide) i_v1 (by decide) (by decide) (by decide) (by decide)⟩ (fun x1 qi2 => ?_)
  obtain ⟨i2, ax1, ei2⟩ := qi2
  refine tt_kv (P := fun z => ((1 : Int) ≤ z.toInt ∧ z.toInt ≤ 2096) ∧ z = (x1 + 1) ∧ z.toInt = x1.toInt + 1) ⟨iv_add i2 (show (1 : Int) ≤ (1 : Int32).toInt ∧ (1 : Int32).toInt ≤ 1 by decide) (by decide) (by decide) (by decide) (by decide), rfl, iq_add i2 (show (1 : Int) ≤ (1 : Int32).toInt ∧ (1 : Int32).toInt ≤ 1 by decide) (by decide) (by decide)⟩ (fun x3 qi4 => ?_)
  obtain ⟨i4, ax3, ei4⟩ := qi4
  refine tt_n (ix_ok i4 (by decide) (by decide)) ?_
  refine tt_kv (P := fun z => (((-2147483648) : Int) ≤ z.toInt ∧ z.toInt ≤ 2147483647) ∧ z = (o0.2.1 87 x3.toNatClampNeg) ∧ z.toInt = (o0.2.1 87 x3.toNatClampNeg).toInt) ⟨(k_o0.2 87 _), rfl, rfl⟩ (fun x5 qi6 => ?_)
  obtain ⟨i6, ax5, ei6⟩ := qi6
  have t7 := tn_n x3
  have t8 := x_2 (x3.toNatClampNeg)
  have t10 := tn_n x3
  have u9 : Iz v1.toInt x5.toInt (o0.2.1 87) (o0.2.1 84) := Iz_i x_4 (congrArg Int32.toInt ax5) (by rw [tn_n]; omega)
  have i11 : (0 : Int) ≤ x5.toInt ∧ x5.toInt ≤ 11 := by omega
  refine tt_b (sM_emit _ _ k_o0 f_o0_0 f_o0_38 (show (o0.1 95).toInt = 1 ∨ (o0.1 76).toInt ≤ 90000 - 1 by omega) (show (o0.1 95).toInt = 0 ∨ (o0.1 96).toInt ≤ 24000 - 1 by omega)) (fun q12 hq12 => ?_)
  obtain ⟨k_q12, n_q12, zq12_0, zq12_1, -⟩ := hq12
  have r_q12 := fr_tr r_o0 n_q12 rfl rfl rfl
  have f_q12_0 : (0 : Int) ≤ (q12.1 0).toInt ∧ (q12.1 0).toInt ≤ 0 := by rw [n_q12.1 0 rfl]; exact f_o0_0
  have f_q12_85 : (1 : Int) ≤ (q12.1 85).toInt ∧ (q12.1 85).toInt ≤ 1 := by rw [n_q12.1 85 rfl]; exact f_o0_85
  have f_q12_38 : (1 : Int) ≤ (q12.1 38).toInt ∧ (q12.1 38).toInt ≤ 1 := by rw [n_q12.1 38 rfl]; exact f_o0_38
  have f_q12_93 : (1 : Int) ≤ (q12.1 93).toInt ∧ (q12.1 93).toInt ≤ 420 := by rw [n_q12.1 93 rfl]; exact f_o0_93
  have f_q12_78 : (1 : Int) ≤ (q12.1 78).toInt ∧ (q12.1 78).toInt ≤ 1 := by rw [n_q12.1 78 rfl]; exact f_o0_78
  have f_q12_95 : (1 : Int) ≤ (q12.1 95).toInt ∧ (q12.1 95).toInt ≤ 1 := by rw [n_q12.1 95 rfl]; exact f_o0_95
  have g_q12_76 : (0 : Int) ≤ (q12.1 76).toInt ∧ (q12.1 76).toInt ≤ 90000 := k_q12.1 76
  have e_q12_93 : (q12.1 93).toInt = (o0.1 93).toInt := congrArg Int32.toInt (n_q12.1 93 rfl)
  have e_q12_95 : (q12.1 95).toInt = (o0.1 95).toInt := congrArg Int32.toInt (n_q12.1 95 rfl)
  have g_q12_96 : (0 : Int) ≤ (q12.1 96).toInt ∧ (q12.1 96).toInt ≤ 24000 := k_q12.1 96
  have zq12_0 : (q12.1 76).toInt ≤ (o0.1 76).toInt + 1 := zq12_0
  have zq12_1 : (q12.1 96).toInt ≤ (o0.1 96).toInt + 1 := zq12_1
  have u13 : Mt (q12.2.1 87) := by rw [n_q12.2.1 87 rfl]; exact x_2
  have u14 : Fp (q12.2.1 84) := by rw [n_q12.2.1 84 rfl]; exact x_3
  have u15 : Iq v1.toInt (q12.2.1 87) (q12.2.1 84) := by rw [n_q12.2.1 84 rfl, n_q12.2.1 87 rfl]; exact x_4
  have u16 : Iz v1.toInt x5.toInt (q12.2.1 87) (q12.2.1 84) := by rw [n_q12.2.1 84 rfl, n_q12.2.1 87 rfl]; exact u9
  refine tt_b (sM_emit _ _ k_q12 f_q12_0 f_q12_38 (show (q12.1 95).toInt = 1 ∨ (q12.1 76).toInt ≤ 90000 - 1 by omega) (show (q12.1 95).toInt = 0 ∨ (q12.1 96).toInt ≤ 24000 - 1 by omega)) (fun q17 hq17 => ?_)
  obtain ⟨k_q17, n_q17, zq17_0, zq17_1, -⟩ := hq17
  have r_q17 := fr_tr r_q12 n_q17 rfl rfl rfl
  have f_q17_0 : (0 : Int) ≤ (q17.1 0).toInt ∧ (q17.1 0).toInt ≤ 0 := by rw [n_q17.1 0 rfl]; exact f_q12_0
  have f_q17_85 : (1 : Int) ≤ (q17.1 85).toInt ∧ (q17.1 85).toInt ≤ 1 := by rw [n_q17.1 85 rfl]; exact f_q12_85
  have f_q17_38 : (1 : Int) ≤ (q17.1 38).toInt ∧ (q17.1 38).toInt ≤ 1 := by rw [n_q17.1 38 rfl]; exact f_q12_38
  have f_q17_93 : (1 : Int) ≤ (q17.1 93).toInt ∧ (q17.1 93).toInt ≤ 420 := by rw [n_q17.1 93 rfl]; exact f_q12_93
  have f_q17_78 : (1 : Int) ≤ (q17.1 78).toInt ∧ (q17.1 78).toInt ≤ 1 := by rw [n_q17.1 78 rfl]; exact f_q12_78
  have f_q17_95 : (1 : Int) ≤ (q17.1 95).toInt ∧ (q17.1 95).toInt ≤ 1 := by rw [n_q17.1 95 rfl]; exact f_q12_95
  have g_q17_76 : (0 : Int) ≤ (q17.1 76).toInt ∧ (q17.1 76).toInt ≤ 90000 := k_q17.1 76
  have e_q17_93 : (q17.1 93).toInt = (q12.1 93).toInt := congrArg Int32.toInt (n_q17.1 93 rfl)
  have e_q17_95 : (q17.1 95).toInt = (q12.1 95).toInt := congrArg Int32.toInt (n_q17.1 95 rfl)
  have g_q17_96 : (0 : Int) ≤ (q17.1 96).toInt ∧ (q17.1 96).toInt ≤ 24000 := k_q17.1 96
  have zq17_0 : (q17.1 76).toInt ≤ (q12.1 76).toInt + 1 := zq17_0
  have zq17_1 : (q17.1 96).toInt ≤ (q12.1 96).toInt + 1 := zq17_1
  have u18 : Mt (q17.2.1 87) := by rw [n_q17.2.1 87 rfl]; exact u13
  have u19 : Fp (q17.2.1 84) := by rw [n_q17.2.1 84 rfl]; exact u14
  have u20 : Iq v1.toInt (q17.2.1 87) (q17.2.1 84) := by rw [n_q17.2.1 84 rfl, n_q17.2.1 87 rfl]; exact u15
  have u21 : Iz v1.toInt x5.toInt (q17.2.1 87) (q17.2.1 84) := by rw [n_q17.2.1 84 rfl, n_q17.2.1 87 rfl]; exact u16
  refine tt_b (sM_emit _ _ k_q17 f_q17_0 f_q17_38 (show (q17.1 95).toInt = 1 ∨ (q17.1 76).toInt ≤ 90000 - 1 by omega) (show (q17.1 95).toInt = 0 ∨ (q17.1 96).toInt ≤ 24000 - 1 by omega)) (fun q22 hq22 => ?_)
  obtain ⟨k_q22, n_q22, zq22_0, zq22_1, -⟩ := hq22
  have r_q22 := fr_tr r_q17 n_q22 rfl rfl rfl
  have f_q22_0 : (0 : Int) ≤ (q22.1 0).toInt ∧ (q22.1 0).toInt ≤ 0 := by rw [n_q22.1 0 rfl]; exact f_q17_0
  have f_q22_85 : (1 : Int) ≤ (q22.1 85).toInt ∧ (q22.1 85).toInt ≤ 1 := by rw [n_q22.1 85 rfl]; exact f_q17_85
  have f_q22_38 : (1 : Int) ≤ (q22.1 38).toInt ∧ (q22.1 38).toInt ≤ 1 := by rw [n_q22.1 38 rfl]; exact f_q17_38
  have f_q22_93 : (1 : Int) ≤ (q22.1 93).toInt ∧ (q22.1 93).toInt ≤ 420 := by rw [n_q22.1 93 rfl]; exact f_q17_93
  have f_q22_78 : (1 : Int) ≤ (q22.1 78).toInt ∧ (q22.1 78).toInt ≤ 1 := by rw [n_q22.1 78 rfl]; exact f_q17_78
  have f_q22_95 : (1 : Int) ≤ (q22.1 95).toInt ∧ (q22.1 95).toInt ≤ 1 := by rw [n_q22.1 95 rfl]; exact f_q17_95
  have g_q22_76 : (0 : Int) ≤ (q22.1 76).toInt ∧ (q22.1 76).toInt ≤ 90000 := k_q22.1 76
  have e_q22_93 : (q22.1 93).toInt = (q17.1 93).toInt := congrArg Int32.toInt (n_q22.1 93 rfl)
  have e_q22_95 : (q22.1 95).toInt = (q17.1 95).toInt := congrArg Int32.toInt (n_q22.1 95 rfl)
  have g_q22_96 : (0 : Int) ≤ (q22.1 96).toInt ∧ (q22.1 96).toInt ≤ 24000 := k_q22.1 96
  have zq22_0 : (q22.1 76).toInt ≤ (q17.1 76).toInt + 1 := zq22_0
  have zq22_1 : (q22.1 96).toInt ≤ (q17.1 96).toInt + 1 := zq22_1
  have u23 : Mt (q22.2.1 87) := by rw [n_q22.2.1 87 rfl]; exact u18
  have u24 : Fp (q22.2.1 84) := by rw [n_q22.2.1 84 rfl]; exact u19
  have u25 : Iq v1.toInt (q22.2.1 87) (q22.2.1 84) := by rw [n_q22.2.1 84 rfl, n_q22.2.1 87 rfl]; exact u20
  have u26 : Iz v1.toInt x5.toInt (q22.2.1 87) (q22.2.1 84) := by rw [n_q22.2.1 84 rfl, n_q22.2.1 87 rfl]; exact u21
  refine tt_b (sM_emit _ _ k_q22 f_q22_0 f_q22_38 (show (q22.1 95).toInt = 1 ∨ (q22.1 76).toInt ≤ 90000 - 1 by omega) (show (q22.1 95).toInt = 0 ∨ (q22.1 96).toInt ≤ 24000 - 1 by omega)) (fun q27 hq27 => ?_)
  obtain ⟨k_q27, n_q27, zq27_0, zq27_1, -⟩ := hq27
  have r_q27 := fr_tr r_q22 n_q27 rfl rfl rfl
  have f_q27_0 : (0 : Int) ≤ (q27.1 0).toInt ∧ (q27.1 0).toInt ≤ 0 := by rw [n_q27.1 0 rfl]; exact f_q22_0
  have f_q27_85 : (1 : Int) ≤ (q27.1 85).toInt ∧ (q27.1 85).toInt ≤ 1 := by rw [n_q27.1 85 rfl]; exact f_q22_85
  have f_q27_38 : (1 : Int) ≤ (q27.1 38).toInt ∧ (q27.1 38).toInt ≤ 1 := by rw [n_q27.1 38 rfl]; exact f_q22_38
  have f_q27_93 : (1 : Int) ≤ (q27.1 93).toInt ∧ (q27.1 93).toInt ≤ 420 := by rw [n_q27.1 93 rfl]; exact f_q22_93
  have f_q27_78 : (1 : Int) ≤ (q27.1 78).toInt ∧ (q27.1 78).toInt ≤ 1 := by rw [n_q27.1 78 rfl]; exact f_q22_78
  have f_q27_95 : (1 : Int) ≤ (q27.1 95).toInt ∧ (q27.1 95).toInt ≤ 1 := by rw [n_q27.1 95 rfl]; exact f_q22_95
  have g_q27_76 : (0 : Int) ≤ (q27.1 76).toInt ∧ (q27.1 76).toInt ≤ 90000 := k_q27.1 76
  have e_q27_93 : (q27.1 93).toInt = (q22.1 93).toInt := congrArg Int32.toInt (n_q27.1 93 rfl)
  have e_q27_95 : (q27.1 95).toInt = (q22.1 95).toInt := congrArg Int32.toInt (n_q27.1 95 rfl)
  have g_q27_96 : (0 : Int) ≤ (q27.1 96).toInt ∧ (q27.1 96).toInt ≤ 24000 := k_q27.1 96
  have zq27_0 : (q27.1 76).toInt ≤ (q22.1 76).toInt + 1 := zq27_0
  have zq27_1 : (q27.1 96).toInt ≤ (q22.1 96).toInt + 1 := zq27_1
  have u28 : Mt (q27.2.1 87) := by rw [n_q27.2.1 87 rfl]; exact u23
  have u29 : Fp (q27.2.1 84) := by rw [n_q27.2.1 84 rfl]; exact u24
  have u30 : Iq v1.toInt (q27.2.1 87) (q27.2.1 84) := by rw [n_q27.2.1 84 rfl, n_q27.2.1 87 rfl]; exact u25
  have u31 : Iz v1.toInt x5.toInt (q27.2.1 87) (q27.2.1 84) := by rw [n_q27.2.1 84 rfl, n_q27.2.1 87 rfl]; exact u26
  refine tt_b (sM_emit _ _ k_q27 f_q27_0 f_q27_38 (show (q27.1 95).toInt = 1 ∨ (q27.1 76).toInt ≤ 90000 - 1 by omega) (show (q27.1 95).toInt = 0 ∨ (q27.1 96).toInt ≤ 24000 - 1 by omega)) (fun q32 hq32 => ?_)
  obtain ⟨k_q32, n_q32, zq32_0, zq32_1, -⟩ := hq32
  have r_q32 := fr_tr r_q27 n_q32 rfl rfl rfl
  have f_q32_0 : (0 : Int) ≤ (q32.1 0).toInt ∧ (q32.1 0).toInt ≤ 0 := by rw [n_q32.1 0 rfl]; exact f_q27_0
  have f_q32_85 : (1 : Int) ≤ (q32.1 85).toInt ∧ (q32.1 85).toInt ≤ 1 := by rw [n_q32.1 85 rfl]; exact f_q27_85
  have f_q32_38 : (1 : Int) ≤ (q32.1 38).toInt ∧ (q32.1 38).toInt ≤ 1 := by rw [n_q32.1 38 rfl]; exact f_q27_38
  have f_q32_93 : (1 : Int) ≤ (q32.1 93).toInt ∧ (q32.1 93).toInt ≤ 420 := by rw [n_q32.1 93 rfl]; exact f_q27_93
  have f_q32_78 : (1 : Int) ≤ (q32.1 78).toInt ∧ (q32.1 78).toInt ≤ 1 := by rw [n_q32.1 78 rfl]; exact f_q27_78
  have f_q32_95 : (1 : Int) ≤ (q32.1 95).toInt ∧ (q32.1 95).toInt ≤ 1 := by rw [n_q32.1 95 rfl]; exact f_q27_95
  have g_q32_76 : (0 : Int) ≤ (q32.1 76).toInt ∧ (q32.1 76).toInt ≤ 90000 := k_q32.1 76
  have e_q32_93 : (q32.1 93).toInt = (q27.1 93).toInt := congrArg Int32.toInt (n_q32.1 93 rfl)
  have e_q32_95 : (q32.1 95).toInt = (q27.1 95).toInt := congrArg Int32.toInt (n_q32.1 95 rfl)
  have g_q32_96 : (0 : Int) ≤ (q32.1 96).toInt ∧ (q32.1 96).toInt ≤ 24000 := k_q32.1 96
  have zq32_0 : (q32.1 76).toInt ≤ (q27.1 76).toInt + 1 := zq32_0
  have zq32_1 : (q32.1 96).toInt ≤ (q27.1 96).toInt + 1 := zq32_1
  have u33 : Mt (q32.2.1 87) := by rw [n_q32.2.1 87 rfl]; exact u28
  have u34 : Fp (q32.2.1 84) := by rw [n_q32.2.1 84 rfl]; exact u29
  have u35 : Iq v1.toInt (q32.2.1 87) (q32.2.1 84) := by rw [n_q32.2.1 84 rfl, n_q32.2.1 87 rfl]; exact u30
  have u36 : Iz v1.toInt x5.toInt (q32.2.1 87) (q32.2.1 84) := by rw [n_q32.2.1 84 rfl, n_q32.2.1 87 rfl]; exact u31
  refine tt_b (sM_name_M83 _ _ k_q32 i11 f_q32_0 f_q32_38 f_q32_78 f_q32_85 f_q32_93 f_q32_95 (show (q32.1 95).toInt = 1 ∨ (q32.1 76).toInt ≤ 90000 - 9 by omega) (show (q32.1 95).toInt = 0 ∨ (q32.1 96).toInt ≤ 24000 - 9 by omega)) (fun q37 hq37 => ?_)
  obtain ⟨k_q37, n_q37, zq37_0, zq37_1, -⟩ := hq37
  have r_q37 := fr_tr r_q32 n_q37 rfl rfl rfl
  have f_q37_0 : (0 : Int) ≤ (q37.1 0).toInt ∧ (q37.1 0).toInt ≤ 0 := by rw [n_q37.1 0 rfl]; exact f_q32_0
  have f_q37_85 : (1 : Int) ≤ (q37.1 85).toInt ∧ (q37.1 85).toInt ≤ 1 := by rw [n_q37.1 85 rfl]; exact f_q32_85
  have f_q37_38 : (1 : Int) ≤ (q37.1 38).toInt ∧ (q37.1 38).toInt ≤ 1 := by rw [n_q37.1 38 rfl]; exact f_q32_38
  have f_q37_93 : (1 : Int) ≤ (q37.1 93).toInt ∧ (q37.1 93).toInt ≤ 420 := by rw [n_q37.1 93 rfl]; exact f_q32_93
  have f_q37_78 : (1 : Int) ≤ (q37.1 78).toInt ∧ (q37.1 78).toInt ≤ 1 := by rw [n_q37.1 78 rfl]; exact f_q32_78
  have f_q37_95 : (1 : Int) ≤ (q37.1 95).toInt ∧ (q37.1 95).toInt ≤ 1 := by rw [n_q37.1 95 rfl]; exact f_q32_95
  have g_q37_76 : (0 : Int) ≤ (q37.1 76).toInt ∧ (q37.1 76).toInt ≤ 90000 := k_q37.1 76
  have e_q37_93 : (q37.1 93).toInt = (q32.1 93).toInt := congrArg Int32.toInt (n_q37.1 93 rfl)
  have e_q37_95 : (q37.1 95).toInt = (q32.1 95).toInt := congrArg Int32.toInt (n_q37.1 95 rfl)
  have g_q37_96 : (0 : Int) ≤ (q37.1 96).toInt ∧ (q37.1 96).toInt ≤ 24000 := k_q37.1 96
  have zq37_0 : (q37.1 76).toInt ≤ (q32.1 76).toInt + 9 := zq37_0
  have zq37_1 : (q37.1 96).toInt ≤ (q32.1 96).toInt + 9 := zq37_1
  have u38 : Mt (q37.2.1 87) := by rw [n_q37.2.1 87 rfl]; exact u33
  have u39 : Fp (q37.2.1 84) := by rw [n_q37.2.1 84 rfl]; exact u34
  have u40 : Iq v1.toInt (q37.2.1 87) (q37.2.1 84) := by rw [n_q37.2.1 84 rfl, n_q37.2.1 87 rfl]; exact u35
  have u41 : Iz v1.toInt x5.toInt (q37.2.1 87) (q37.2.1 84) := by rw [n_q37.2.1 84 rfl, n_q37.2.1 87 rfl]; exact u36
  exact H _ _ _ _ k_q37 r_q37 i_v1 i11 (iv_w (a := 0) (b := 3) (by decide) (by decide) (show (0 : Int) ≤ (0 : Int32).toInt ∧ (0 : Int32).toInt ≤ 0 by decide)) f_q37_0 f_q37_38 f_q37_78 f_q37_85 f_q37_93 f_q37_95 (show (q37.1 76).toInt ≤ (o0.1 76).toInt + 14 + 9 * 0 by omega) (show (q37.1 96).toInt ≤ (o0.1 96).toInt + 14 + 9 * 0 by omega) (show (q37.1 95).toInt = 1 ∨ (o0.1 76).toInt ≤ 90000 - 55 by omega) (show (q37.1 95).toInt = 0 ∨ (o0.1 96).toInt ≤ 24000 - 55 by omega) u38 u39 u41 (show 2 ≤ v1.toInt by omega) (show v1.toInt ≤ 417 by omega) (show 0 + (3 - 0) * 2 < ((cfFU : Nat) : Int) by omega)
def QM_writeMap (o0 : cf_O) (r : (cf_O)) : Prop := (okO I_M r) ∧ (Fr (fr_M [76, 96] [77, 97] []) o0 r) ∧ True
def HM_writeMap (yo0 : cf_O) (n : Nat) : Prop := (∀ (v1 : Int32) (o0 : cf_O), (okO I_M o0) → (Fr (fr_M [76, 96] [77, 97] []) yo0 o0) → ((0 : Int) ≤ v1.toInt ∧ v1.toInt ≤ 8) → ((0 : Int) ≤ (o0.1 0).toInt ∧ (o0.1 0).toInt ≤ 0) → ((1 : Int) ≤ (o0.1 38).toInt ∧ (o0.1 38).toInt ≤ 1) → ((1 : Int) ≤ (o0.1 78).toInt ∧ (o0.1 78).toInt ≤ 1) → ((1 : Int) ≤ (o0.1 85).toInt ∧ (o0.1 85).toInt ≤ 1) → ((1 : Int) ≤ (o0.1 95).toInt ∧ (o0.1 95).toInt ≤ 1) → ((o0.1 96).toInt ≤ 14 + 9 * v1.toInt) → (Mt (o0.2.1 87)) → (Fp (o0.2.1 84)) → (Io (o0.1 93).toInt (o0.2.1 94) (o0.2.1 87) (o0.2.1 84)) → 870 + (8 - v1.toInt) * 2 < (n : Int) → tt (gM_writeMap n 0 v1 o0) (QM_writeMap yo0)) ∧ (∀ (v1 : Int32) (o0 : cf_O), (okO I_M o0) → (Fr (fr_M [76, 96] [77, 97] []) yo0 o0) → ((0 : Int) ≤ v1.toInt ∧ v1.toInt ≤ 6) → ((0 : Int) ≤ (o0.1 0).toInt ∧ (o0.1 0).toInt ≤ 0) → ((1 : Int) ≤ (o0.1 38).toInt ∧ (o0.1 38).toInt ≤ 1) → ((1 : Int) ≤ (o0.1 78).toInt ∧ (o0.1 78).toInt ≤ 1) → ((1 : Int) ≤ (o0.1 85).toInt ∧ (o0.1 85).toInt ≤ 1) → ((1 : Int) ≤ (o0.1 95).toInt ∧ (o0.1 95).toInt ≤ 1) → ((o0.1 96).toInt ≤ 101 + 9 * v1.toInt) → (Mt (o0.2.1 87)) → (Fp (o0.2.1 84)) → (Io (o0.1 93).toInt (o0.2.1 94) (o0.2.1 87) (o0.2.1 84)) → 856 + (6 - v1.toInt) * 2 < (n : Int) → tt (gM_writeMap n 1 v1 o0) (QM_writeMap yo0)) ∧ (∀ (v1 : Int32) (o0 : cf_O), (okO I_M o0) → (Fr (fr_M [76, 96] [77, 97] []) yo0 o0) → ((0 : Int) ≤ v1.toInt ∧ v1.toInt ≤ 420) → ((0 : Int) ≤ (o0.1 0).toInt ∧ (o0.1 0).toInt ≤ 0) → ((1 : Int) ≤ (o0.1 38).toInt ∧ (o0.1 38).toInt ≤ 1) → ((1 : Int) ≤ (o0.1 78).toInt ∧ (o0.1 78).toInt ≤ 1) → ((1 : Int) ≤ (o0.1 85).toInt ∧ (o0.1 85).toInt ≤ 1) → ((1 : Int) ≤ (o0.1 95).toInt ∧ (o0.1 95).toInt ≤ 1) → ((o0.1 96).toInt ≤ 200 + 55 * v1.toInt) → (Mt (o0.2.1 87)) → (Fp (o0.2.1 84)) → (Io (o0.1 93).toInt (o0.2.1 94) (o0.2.1 87) (o0.2.1 84)) → 14 + (420 - v1.toInt) * 2 < (n : Int) → tt (gM_writeMap n 2 v1 o0) (QM_writeMap yo0)) ∧ (∀ (v1 : Int32) (o0 : cf_O), (okO I_M o0) → (Fr (fr_M [76, 96] [77, 97] []) yo0 o0) → ((0 : Int) ≤ v1.toInt ∧ v1.toInt ≤ 6) → ((0 : Int) ≤ (o0.1 0).toInt ∧ (o0.1 0).toInt ≤ 0) → ((1 : Int) ≤ (o0.1 38).toInt ∧ (o0.1 38).toInt ≤ 1) → ((1 : Int) ≤ (o0.1 78).toInt ∧ (o0.1 78).toInt ≤ 1) → ((1 : Int) ≤ (o0.1 85).toInt ∧ (o0.1 85).toInt ≤ 1) → ((1 : Int) ≤ (o0.1 95).toInt ∧ (o0.1 95).toInt ≤ 1) → ((o0.1 96).toInt ≤ 23300 + 40 * v1.toInt) → (Mt (o0.2.1 87)) → (Fp (o0.2.1 84)) → 0 + (6 - v1.toInt) * 2 < (n : Int) → tt (gM_writeMap n 3 v1 o0) (QM_writeMap yo0))
set_option maxHeartbeats 4000000 in
set_option maxRecDepth 100000 in
theorem tM_writeMap_107 {yo0 : cf_O} {n : Nat} (H : HM_writeMap yo0 n) (v1 : Int32) (o0 : cf_O) (k_o0 : okO I_M o0) (r_o0 : Fr (fr_M [76, 96] [77, 97] []) yo0 o0) (i_v1 : (0 : Int) ≤ v1.toInt ∧ v1.toInt ≤ 6) (f_o0_0 : (0 : Int) ≤ (o0.1 0).toInt ∧ (o0.1 0).toInt ≤ 0) (f_o0_38 : (1 : Int) ≤ (o0.1 38).toInt ∧ (o0.1 38).toInt ≤ 1) (f_o0_78 : (1 : Int) ≤ (o0.1 78).toInt ∧ (o0.1 78).toInt ≤ 1) (f_o0_85 : (1 : Int) ≤ (o0.1 85).toInt ∧ (o0.1 85).toInt ≤ 1) (f_o0_95 : (1 : Int) ≤ (o0.1 95).toInt ∧ (o0.1 95).toInt ≤ 1) (x_0 : (o0.1 96).toInt ≤ 23300 + 40 * v1.toInt) (x_1 : Mt (o0.2.1 87)) (x_2 : Fp (o0.2.1 84)) (hm : 0 + (6 - v1.toInt) * 2 ≤ (n : Int)) : tt (fM_writeMap_107 (gM_writeMap n) v1 o0) (QM_writeMap yo0) := by
  unfold fM_writeMap_107
  have g_o0_76 : (0 : Int) ≤ (o0.1 76).toInt ∧ (o0.1 76).toInt ≤ 90000 := k_o0.1 76
  have g_o0_93 : (0 : Int) ≤ (o0.1 93).toInt ∧ (o0.1 93).toInt ≤ 420 := k_o0.1 93
  have ey_o0_93 : (o0.1 93).toInt = (yo0.1 93).toInt := congrArg Int32.toInt (r_o0.1 93 rfl)
  have ey_o0_95 : (o0.1 95).toInt = (yo0.1 95).toInt := congrArg Int32.toInt (r_o0.1 95 rfl)
  have g_o0_96 : (0 : Int) ≤ (o0.1 96).toInt ∧ (o0.1 96).toInt ≤ 24000 := k_o0.1 96
  refine tt_if (fun c1 => ?_) (fun c1 => ?_)
  · have wc1 : (o0.1 40).toInt ≤ v1.toInt := c_le c1
    refine tt_b (sM_word _ _ k_o0 (iv_w (a := 0) (b := 3) (by decide) (by decide) (show (3 : Int) ≤ (3 : Int32).toInt ∧ (3 : Int32).toInt ≤ 3 by decide)) f_o0_0 f_o0_38 (show (o0.1 95).toInt = 1 ∨ (o0.1 76).toInt ≤ 90000 - 14 by omega) (show (o0.1 95).toInt = 0 ∨ (o0.1 96).toInt ≤ 24000 - 14 by omega)) (fun q2 hq2 => ?_)
    obtain ⟨k_q2, n_q2, zq2_0, zq2_1, -⟩ := hq2
    have r_q2 := fr_tr r_o0 n_q2 rfl rfl rfl
    have f_q2_0 : (0 : Int) ≤ (q2.1 0).toInt ∧ (q2.1 0).toInt ≤ 0 := by rw [n_q2.1 0 rfl]; exact f_o0_0
    have f_q2_85 : (1 : Int) ≤ (q2.1 85).toInt ∧ (q2.1 85).toInt ≤ 1 := by rw [n_q2.1 85 rfl]; exact f_o0_85
    have f_q2_38 : (1 : Int) ≤ (q2.1 38).toInt ∧ (q2.1 38).toInt ≤ 1 := by rw [n_q2.1 38 rfl]; exact f_o0_38
    have f_q2_78 : (1 : Int) ≤ (q2.1 78).toInt ∧ (q2.1 78).toInt ≤ 1 := by rw [n_q2.1 78 rfl]; exact f_o0_78
    have f_q2_95 : (1 : Int) ≤ (q2.1 95).toInt ∧ (q2.1 95).toInt ≤ 1 := by rw [n_q2.1 95 rfl]; exact f_o0_95
    have g_q2_76 : (0 : Int) ≤ (q2.1 76).toInt ∧ (q2.1 76).toInt ≤ 90000 := k_q2.1 76
    have e_q2_93 : (q2.1 93).toInt = (o0.1 93).toInt := congrArg Int32.toInt (n_q2.1 93 rfl)
    have g_q2_93 : (0 : Int) ≤ (q2.1 93).toInt ∧ (q2.1 93).toInt ≤ 420 := k_q2.1 93
    have e_q2_95 : (q2.1 95).toInt = (o0.1 95).toInt := congrArg Int32.toInt (n_q2.1 95 rfl)
    have g_q2_96 : (0 : Int) ≤ (q2.1 96).toInt ∧ (q2.1 96).toInt ≤ 24000 := k_q2.1 96
    have zq2_0 : (q2.1 76).toInt ≤ (o0.1 76).toInt + 14 := zq2_0
    have zq2_1 : (q2.1 96).toInt ≤ (o0.1 96).toInt + 14 := zq2_1
    have u3 : Mt (q2.2.1 87) := by rw [n_q2.2.1 87 rfl]; exact x_1
    have u4 : Fp (q2.2.1 84) := by rw [n_q2.2.1 84 rfl]; exact x_2
    refine tt_b (sM_emit _ _ k_q2 f_q2_0 f_q2_38 (show (q2.1 95).toInt = 1 ∨ (q2.1 76).toInt ≤ 90000 - 1 by omega) (show (q2.1 95).toInt = 0 ∨ (q2.1 96).toInt ≤ 24000 - 1 by omega)) (fun q5 hq5 => ?_)
    obtain ⟨k_q5, n_q5, zq5_0, zq5_1, -⟩ := hq5
    have r_q5 := fr_tr r_q2 n_q5 rfl rfl rfl
    have f_q5_0 : (0 : Int) ≤ (q5.1 0).toInt ∧ (q5.1 0).toInt ≤ 0 := by rw [n_q5.1 0 rfl]; exact f_q2_0
    have f_q5_85 : (1 : Int) ≤ (q5.1 85).toInt ∧ (q5.1 85).toInt ≤ 1 := by rw [n_q5.1 85 rfl]; exact f_q2_85
    have f_q5_38 : (1 : Int) ≤ (q5.1 38).toInt ∧ (q5.1 38).toInt ≤ 1 := by rw [n_q5.1 38 rfl]; exact f_q2_38
    have f_q5_78 : (1 : Int) ≤ (q5.1 78).toInt ∧ (q5.1 78).toInt ≤ 1 := by rw [n_q5.1 78 rfl]; exact f_q2_78
    have f_q5_95 : (1 : Int) ≤ (q5.1 95).toInt ∧ (q5.1 95).toInt ≤ 1 := by rw [n_q5.1 95 rfl]; exact f_q2_95
    have g_q5_76 : (0 : Int) ≤ (q5.1 76).toInt ∧ (q5.1 76).toInt ≤ 90000 := k_q5.1 76
    have e_q5_93 : (q5.1 93).toInt = (q2.1 93).toInt := congrArg Int32.toInt (n_q5.1 93 rfl)
    have g_q5_93 : (0 : Int) ≤ (q5.1 93).toInt ∧ (q5.1 93).toInt ≤ 420 := k_q5.1 93
    have e_q5_95 : (q5.1 95).toInt = (q2.1 95).toInt := congrArg Int32.toInt (n_q5.1 95 rfl)
    have g_q5_96 : (0 : Int) ≤ (q5.1 96).toInt ∧ (q5.1 96).toInt ≤ 24000 := k_q5.1 96
    have zq5_0 : (q5.1 76).toInt ≤ (q2.1 76).toInt + 1 := zq5_0
    have zq5_1 : (q5.1 96).toInt ≤ (q2.1 96).toInt + 1 := zq5_1
    have u6 : Mt (q5.2.1 87) := by rw [n_q5.2.1 87 rfl]; exact u3
    have u7 : Fp (q5.2.1 84) := by rw [n_q5.2.1 84 rfl]; exact u4
    exact tt_some ⟨k_q5, r_q5, trivial⟩
  · have wc1 : v1.toInt < (o0.1 40).toInt := c_nle c1
    have i8 : (0 : Int) ≤ v1.toInt ∧ v1.toInt ≤ 5 := nr_nlel c1 i_v1 (k_o0.1 40) (by decide) (by decide)
    have i9 : (1 : Int) ≤ (o0.1 40).toInt ∧ (o0.1 40).toInt ≤ 6 := nr_nler c1 i_v1 (k_o0.1 40) (by decide) (by decide)
    refine tt_b (sM_word _ _ k_o0 (iv_w (a := 0) (b := 3) (by decide) (by decide) (show (2 : Int) ≤ (2 : Int32).toInt ∧ (2 : Int32).toInt ≤ 2 by decide)) f_o0_0 f_o0_38 (show (o0.1 95).toInt = 1 ∨ (o0.1 76).toInt ≤ 90000 - 14 by omega) (show (o0.1 95).toInt = 0 ∨ (o0.1 96).toInt ≤ 24000 - 14 by omega)) (fun q10 hq10 => ?_)
    obtain ⟨k_q10, n_q10, zq10_0, zq10_1, -⟩ := hq10
    have r_q10 := fr_tr r_o0 n_q10 rfl rfl rfl
    have f_q10_0 : (0 : Int) ≤ (q10.1 0).toInt ∧ (q10.1 0).toInt ≤ 0 := by rw [n_q10.1 0 rfl]; exact f_o0_0
    have f_q10_85 : (1 : Int) ≤ (q10.1 85).toInt ∧ (q10.1 85).toInt ≤ 1 := by rw [n_q10.1 85 rfl]; exact f_o0_85
    have f_q10_38 : (1 : Int) ≤ (q10.1 38).toInt ∧ (q10.1 38).toInt ≤ 1 := by rw [n_q10.1 38 rfl]; exact f_o0_38
    have f_q10_40 : (1 : Int) ≤ (q10.1 40).toInt ∧ (q10.1 40).toInt ≤ 6 := by rw [n_q10.1 40 rfl]; exact i9
    have f_q10_78 : (1 : Int) ≤ (q10.1 78).toInt ∧ (q10.1 78).toInt ≤ 1 := by rw [n_q10.1 78 rfl]; exact f_o0_78
    have f_q10_95 : (1 : Int) ≤ (q10.1 95).toInt ∧ (q10.1 95).toInt ≤ 1 := by rw [n_q10.1 95 rfl]; exact f_o0_95
    have g_q10_76 : (0 : Int) ≤ (q10.1 76).toInt ∧ (q10.1 76).toInt ≤ 90000 := k_q10.1 76
    have e_q10_93 : (q10.1 93).toInt = (o0.1 93).toInt := congrArg Int32.toInt (n_q10.1 93 rfl)
    have g_q10_93 : (0 : Int) ≤ (q10.1 93).toInt ∧ (q10.1 93).toInt ≤ 420 := k_q10.1 93
    have e_q10_95 : (q10.1 95).toInt = (o0.1 95).toInt := congrArg Int32.toInt (n_q10.1 95 rfl)
    have g_q10_96 : (0 : Int) ≤ (q10.1 96).toInt ∧ (q10.1 96).toInt ≤ 24000 := k_q10.1 96
    have zq10_0 : (q10.1 76).toInt ≤ (o0.1 76).toInt + 14 := zq10_0
    have zq10_1 : (q10.1 96).toInt ≤ (o0.1 96).toInt + 14 := zq10_1
    have u11 : Mt (q10.2.1 87) := by rw [n_q10.2.1 87 rfl]; exact x_1
    have u12 : Fp (q10.2.1 84) := by rw [n_q10.2.1 84 rfl]; exact x_2
    refine tt_n (ix_ok i8 (by decide) (by decide)) ?_
    refine tt_kv (P := fun z => ((0 : Int) ≤ z.toInt ∧ z.toInt ≤ 417) ∧ z.toInt = (q10.2.1 47 v1.toNatClampNeg).toInt) ⟨(k_q10.2 47 _), rfl⟩ (fun x13 qi14 => ?_)
    obtain ⟨i14, ei14⟩ := qi14
    refine tt_if (fun c15 => ?_) (fun c15 => ?_)
    · have wc15 : x13.toInt ≤ (1 : Int) := c_le c15
      have i16 : (0 : Int) ≤ x13.toInt ∧ x13.toInt ≤ 1 := nr_lel c15 i14 (show (1 : Int) ≤ (1 : Int32).toInt ∧ (1 : Int32).toInt ≤ 1 by decide) (by decide) (by decide)
      try unfold fM_writeMap_140
      refine tt_b (sM_name_M42 _ _ k_q10 i8 f_q10_0 f_q10_38 f_q10_40 (show (q10.1 95).toInt = 1 ∨ (q10.1 76).toInt ≤ 90000 - 9 by omega) (show (q10.1 95).toInt = 0 ∨ (q10.1 96).toInt ≤ 24000 - 9 by omega)) (fun q17 hq17 => ?_)
      obtain ⟨k_q17, n_q17, zq17_0, zq17_1, -⟩ := hq17
      have r_q17 := fr_tr r_q10 n_q17 rfl rfl rfl
      have f_q17_0 : (0 : Int) ≤ (q17.1 0).toInt ∧ (q17.1 0).toInt ≤ 0 := by rw [n_q17.1 0 rfl]; exact f_q10_0
      have f_q17_85 : (1 : Int) ≤ (q17.1 85).toInt ∧ (q17.1 85).toInt ≤ 1 := by rw [n_q17.1 85 rfl]; exact f_q10_85
      have f_q17_38 : (1 : Int) ≤ (q17.1 38).toInt ∧ (q17.1 38).toInt ≤ 1 := by rw [n_q17.1 38 rfl]; exact f_q10_38
      have f_q17_40 : (1 : Int) ≤ (q17.1 40).toInt ∧ (q17.1 40).toInt ≤ 6 := by rw [n_q17.1 40 rfl]; exact f_q10_40
      have f_q17_78 : (1 : Int) ≤ (q17.1 78).toInt ∧ (q17.1 78).toInt ≤ 1 := by rw [n_q17.1 78 rfl]; exact f_q10_78
      have f_q17_95 : (1 : Int) ≤ (q17.1 95).toInt ∧ (q17.1 95).toInt ≤ 1 := by rw [n_q17.1 95 rfl]; exact f_q10_95
      have g_q17_76 : (0 : Int) ≤ (q17.1 76).toInt ∧ (q17.1 76).toInt ≤ 90000 := k_q17.1 76
      have e_q17_93 : (q17.1 93).toInt = (q10.1 93).toInt := congrArg Int32.toInt (n_q17.1 93 rfl)
      have g_q17_93 : (0 : Int) ≤ (q17.1 93).toInt ∧ (q17.1 93).toInt ≤ 420 := k_q17.1 93
      have e_q17_95 : (q17.1 95).toInt = (q10.1 95).toInt := congrArg Int32.toInt (n_q17.1 95 rfl)
      have g_q17_96 : (0 : Int) ≤ (q17.1 96).toInt ∧ (q17.1 96).toInt ≤ 24000 := k_q17.1 96
      have zq17_0 : (q17.1 76).toInt ≤ (q10.1 76).toInt + 9 := zq17_0
      have zq17_1 : (q17.1 96).toInt ≤ (q10.1 96).toInt + 9 := zq17_1
      have u18 : Mt (q17.2.1 87) := by rw [n_q17.2.1 87 rfl]; exact u11
      have u19 : Fp (q17.2.1 84) := by rw [n_q17.2.1 84 rfl]; exact u12
      refine tt_b (sM_emit _ _ k_q17 f_q17_0 f_q17_38 (show (q17.1 95).toInt = 1 ∨ (q17.1 76).toInt ≤ 90000 - 1 by omega) (show (q17.1 95).toInt = 0 ∨ (q17.1 96).toInt ≤ 24000 - 1 by omega)) (fun q20 hq20 => ?_)
      obtain ⟨k_q20, n_q20, zq20_0, zq20_1, -⟩ := hq20
      have r_q20 := fr_tr r_q17 n_q20 rfl rfl rfl
      have f_q20_0 : (0 : Int) ≤ (q20.1 0).toInt ∧ (q20.1 0).toInt ≤ 0 := by rw [n_q20.1 0 rfl]; exact f_q17_0
      have f_q20_85 : (1 : Int) ≤ (q20.1 85).toInt ∧ (q20.1 85).toInt ≤ 1 := by rw [n_q20.1 85 rfl]; exact f_q17_85
      have f_q20_38 : (1 : Int) ≤ (q20.1 38).toInt ∧ (q20.1 38).toInt ≤ 1 := by rw [n_q20.1 38 rfl]; exact f_q17_38
      have f_q20_40 : (1 : Int) ≤ (q20.1 40).toInt ∧ (q20.1 40).toInt ≤ 6 := by rw [n_q20.1 40 rfl]; exact f_q17_40
      have f_q20_78 : (1 : Int) ≤ (q20.1 78).toInt ∧ (q20.1 78).toInt ≤ 1 := by rw [n_q20.1 78 rfl]; exact f_q17_78
      have f_q20_95 : (1 : Int) ≤ (q20.1 95).toInt ∧ (q20.1 95).toInt ≤ 1 := by rw [n_q20.1 95 rfl]; exact f_q17_95
      have g_q20_76 : (0 : Int) ≤ (q20.1 76).toInt ∧ (q20.1 76).toInt ≤ 90000 := k_q20.1 76
      have e_q20_93 : (q20.1 93).toInt = (q17.1 93).toInt := congrArg Int32.toInt (n_q20.1 93 rfl)
      have g_q20_93 : (0 : Int) ≤ (q20.1 93).toInt ∧ (q20.1 93).toInt ≤ 420 := k_q20.1 93
      have e_q20_95 : (q20.1 95).toInt = (q17.1 95).toInt := congrArg Int32.toInt (n_q20.1 95 rfl)
      have g_q20_96 : (0 : Int) ≤ (q20.1 96).toInt ∧ (q20.1 96).toInt ≤ 24000 := k_q20.1 96
      have zq20_0 : (q20.1 76).toInt ≤ (q17.1 76).toInt + 1 := zq20_0
      have zq20_1 : (q20.1 96).toInt ≤ (q17.1 96).toInt + 1 := zq20_1
      have u21 : Mt (q20.2.1 87) := by rw [n_q20.2.1 87 rfl]; exact u18
      have u22 : Fp (q20.2.1 84) := by rw [n_q20.2.1 84 rfl]; exact u19
      refine tt_n (ix_ok i8 (by decide) (by decide)) ?_
      refine tt_kv (P := fun z => ((0 : Int) ≤ z.toInt ∧ z.toInt ≤ 417) ∧ z.toInt = (q20.2.1 47 v1.toNatClampNeg).toInt) ⟨(k_q20.2 47 _), rfl⟩ (fun x23 qi24 => ?_)
      obtain ⟨i24, ei24⟩ := qi24
      refine tt_if (fun c25 => ?_) (fun c25 => ?_)
      · have wc25 : x23.toInt ≤ (1 : Int) := c_le c25
        have i26 : (0 : Int) ≤ x23.toInt ∧ x23.toInt ≤ 1 := nr_lel c25 i24 (show (1 : Int) ≤ (1 : Int32).toInt ∧ (1 : Int32).toInt ≤ 1 by decide) (by decide) (by decide)
        try unfold fM_writeMap_180
        refine tt_n (ix_ok i8 (by decide) (by decide)) ?_
        refine tt_kv (P := fun z => ((0 : Int) ≤ z.toInt ∧ z.toInt ≤ 417) ∧ z.toInt = (q20.2.1 47 v1.toNatClampNeg).toInt) ⟨(k_q20.2 47 _), rfl⟩ (fun x27 qi28 => ?_)
        obtain ⟨i28, ei28⟩ := qi28
        refine tt_if (fun c29 => ?_) (fun c29 => ?_)
        · have wc29 : x27.toInt ≤ (0 : Int) := c_le c29
          have i30 : (0 : Int) ≤ x27.toInt ∧ x27.toInt ≤ 0 := nr_lel c29 i28 (show (0 : Int) ≤ (0 : Int32).toInt ∧ (0 : Int32).toInt ≤ 0 by decide) (by decide) (by decide)
          try unfold fM_writeMap_203
          refine tt_kv (P := fun z => ((1 : Int) ≤ z.toInt ∧ z.toInt ≤ 6) ∧ z.toInt = v1.toInt + 1) ⟨iv_add i8 (show (1 : Int) ≤ (1 : Int32).toInt ∧ (1 : Int32).toInt ≤ 1 by decide) (by decide) (by decide) (by decide) (by decide), iq_add i8 (show (1 : Int) ≤ (1 : Int32).toInt ∧ (1 : Int32).toInt ≤ 1 by decide) (by decide) (by decide)⟩ (fun x31 qi32 => ?_)
          obtain ⟨i32, ei32⟩ := qi32
          exact H.2.2.2 _ _ k_q20 r_q20 (iv_w (a := 0) (b := 6) (by decide) (by decide) i32) f_q20_0 f_q20_38 f_q20_78 f_q20_85 f_q20_95 (show (q20.1 96).toInt ≤ 23300 + 40 * x31.toInt by omega) u21 u22 (show 0 + (6 - x31.toInt) * 2 < (n : Int) by omega)
        · have wc29 : (0 : Int) < x27.toInt := c_nle c29
          have i33 : (1 : Int) ≤ x27.toInt ∧ x27.toInt ≤ 417 := nr_nler c29 (show (0 : Int) ≤ (0 : Int32).toInt ∧ (0 : Int32).toInt ≤ 0 by decide) i28 (by decide) (by decide)
          refine tt_b (sM_emit _ _ k_q20 f_q20_0 f_q20_38 (show (q20.1 95).toInt = 1 ∨ (q20.1 76).toInt ≤ 90000 - 1 by omega) (show (q20.1 95).toInt = 0 ∨ (q20.1 96).toInt ≤ 24000 - 1 by omega)) (fun q34 hq34 => ?_)
          obtain ⟨k_q34, n_q34, zq34_0, zq34_1, -⟩ := hq34
          have r_q34 := fr_tr r_q20 n_q34 rfl rfl rfl
          have f_q34_0 : (0 : Int) ≤ (q34.1 0).toInt ∧ (q34.1 0).toInt ≤ 0 := by rw [n_q34.1 0 rfl]; exact f_q20_0
          have f_q34_85 : (1 : Int) ≤ (q34.1 85).toInt ∧ (q34.1 85).toInt ≤ 1 := by rw [n_q34.1 85 rfl]; exact f_q20_85
          have f_q34_38 : (1 : Int) ≤ (q34.1 38).toInt ∧ (q34.1 38).toInt ≤ 1 := by rw [n_q34.1 38 rfl]; exact f_q20_38
          have f_q34_40 : (1 : Int) ≤ (q34.1 40).toInt ∧ (q34.1 40).toInt ≤ 6 := by rw [n_q34.1 40 rfl]; exact f_q20_40
          have f_q34_78 : (1 : Int) ≤ (q34.1 78).toInt ∧ (q34.1 78).toInt ≤ 1 := by rw [n_q34.1 78 rfl]; exact f_q20_78
          have f_q34_95 : (1 : Int) ≤ (q34.1 95).toInt ∧ (q34.1 95).toInt ≤ 1 := by rw [n_q34.1 95 rfl]; exact f_q20_95
          have g_q34_76 : (0 : Int) ≤ (q34.1 76).toInt ∧ (q34.1 76).toInt ≤ 90000 := k_q34.1 76
          have e_q34_93 : (q34.1 93).toInt = (q20.1 93).toInt := congrArg Int32.toInt (n_q34.1 93 rfl)
          have g_q34_93 : (0 : Int) ≤ (q34.1 93).toInt ∧ (q34.1 93).toInt ≤ 420 := k_q34.1 93
          have e_q34_95 : (q34.1 95).toInt = (q20.1 95).toInt := congrArg Int32.toInt (n_q34.1 95 rfl)
          have g_q34_96 : (0 : Int) ≤ (q34.1 96).toInt ∧ (q34.1 96).toInt ≤ 24000 := k_q34.1 96
          have zq34_0 : (q34.1 76).toInt ≤ (q20.1 76).toInt + 1 := zq34_0
          have zq34_1 : (q34.1 96).toInt ≤ (q20.1 96).toInt + 1 := zq34_1
          have u35 : Mt (q34.2.1 87) := by rw [n_q34.2.1 87 rfl]; exact u21
          have u36 : Fp (q34.2.1 84) := by rw [n_q34.2.1 84 rfl]; exact u22
          refine tt_b (sM_emit _ _ k_q34 f_q34_0 f_q34_38 (show (q34.1 95).toInt = 1 ∨ (q34.1 76).toInt ≤ 90000 - 1 by omega) (show (q34.1 95).toInt = 0 ∨ (q34.1 96).toInt ≤ 24000 - 1 by omega)) (fun q37 hq37 => ?_)
          obtain ⟨k_q37, n_q37, zq37_0, zq37_1, -⟩ := hq37
          have r_q37 := fr_tr r_q34 n_q37 rfl rfl rfl
          have f_q37_0 : (0 : Int) ≤ (q37.1 0).toInt ∧ (q37.1 0).toInt ≤ 0 := by rw [n_q37.1 0 rfl]; exact f_q34_0
          have f_q37_85 : (1 : Int) ≤ (q37.1 85).toInt ∧ (q37.1 85).toInt ≤ 1 := by rw [n_q37.1 85 rfl]; exact f_q34_85
          have f_q37_38 : (1 : Int) ≤ (q37.1 38).toInt ∧ (q37.1 38).toInt ≤ 1 := by rw [n_q37.1 38 rfl]; exact f_q34_38
          have f_q37_40 : (1 : Int) ≤ (q37.1 40).toInt ∧ (q37.1 40).toInt ≤ 6 := by rw [n_q37.1 40 rfl]; exact f_q34_40
          have f_q37_78 : (1 : Int) ≤ (q37.1 78).toInt ∧ (q37.1 78).toInt ≤ 1 := by rw [n_q37.1 78 rfl]; exact f_q34_78
          have f_q37_95 : (1 : Int) ≤ (q37.1 95).toInt ∧ (q37.1 95).toInt ≤ 1 := by rw [n_q37.1 95 rfl]; exact f_q34_95
          have g_q37_76 : (0 : Int) ≤ (q37.1 76).toInt ∧ (q37.1 76).toInt ≤ 90000 := k_q37.1 76
          have e_q37_93 : (q37.1 93).toInt = (q34.1 93).toInt := congrArg Int32.toInt (n_q37.1 93 rfl)
          have g_q37_93 : (0 : Int) ≤ (q37.1 93).toInt ∧ (q37.1 93).toInt ≤ 420 := k_q37.1 93
          have e_q37_95 : (q37.1 95).toInt = (q34.1 95).toInt := congrArg Int32.toInt (n_q37.1 95 rfl)
          have g_q37_96 : (0 : Int) ≤ (q37.1 96).toInt ∧ (q37.1 96).toInt ≤ 24000 := k_q37.1 96
          have zq37_0 : (q37.1 76).toInt ≤ (q34.1 76).toInt + 1 := zq37_0
          have zq37_1 : (q37.1 96).toInt ≤ (q34.1 96).toInt + 1 := zq37_1
          have u38 : Mt (q37.2.1 87) := by rw [n_q37.2.1 87 rfl]; exact u35
          have u39 : Fp (q37.2.1 84) := by rw [n_q37.2.1 84 rfl]; exact u36
          try unfold fM_writeMap_203
          refine tt_kv (P := fun z => ((1 : Int) ≤ z.toInt ∧ z.toInt ≤ 6) ∧ z.toInt = v1.toInt + 1) ⟨iv_add i8 (show (1 : Int) ≤ (1 : Int32).toInt ∧ (1 : Int32).toInt ≤ 1 by decide) (by decide) (by decide) (by decide) (by decide), iq_add i8 (show (1 : Int) ≤ (1 : Int32).toInt ∧ (1 : Int32).toInt ≤ 1 by decide) (by decide) (by decide)⟩ (fun x40 qi41 => ?_)
          obtain ⟨i41, ei41⟩ := qi41
          exact H.2.2.2 _ _ k_q37 r_q37 (iv_w (a := 0) (b := 6) (by decide) (by decide) i41) f_q37_0 f_q37_38 f_q37_78 f_q37_85 f_q37_95 (show (q37.1 96).toInt ≤ 23300 + 40 * x40.toInt by omega) u38 u39 (show 0 + (6 - x40.toInt) * 2 < (n : Int) by omega)
      · have wc25 : (1 : Int) < x23.toInt := c_nle c25
        have i42 : (2 : Int) ≤ x23.toInt ∧ x23.toInt ≤ 417 := nr_nler c25 (show (1 : Int) ≤ (1 : Int32).toInt ∧ (1 : Int32).toInt ≤ 1 by decide) i24 (by decide) (by decide)
        refine tt_b (sM_emit _ _ k_q20 f_q20_0 f_q20_38 (show (q20.1 95).toInt = 1 ∨ (q20.1 76).toInt ≤ 90000 - 1 by omega) (show (q20.1 95).toInt = 0 ∨ (q20.1 96).toInt ≤ 24000 - 1 by omega)) (fun q43 hq43 => ?_)
        obtain ⟨k_q43, n_q43, zq43_0, zq43_1, -⟩ := hq43
        have r_q43 := fr_tr r_q20 n_q43 rfl rfl rfl
        have f_q43_0 : (0 : Int) ≤ (q43.1 0).toInt ∧ (q43.1 0).toInt ≤ 0 := by rw [n_q43.1 0 rfl]; exact f_q20_0
        have f_q43_85 : (1 : Int) ≤ (q43.1 85).toInt ∧ (q43.1 85).toInt ≤ 1 := by rw [n_q43.1 85 rfl]; exact f_q20_85
        have f_q43_38 : (1 : Int) ≤ (q43.1 38).toInt ∧ (q43.1 38).toInt ≤ 1 := by rw [n_q43.1 38 rfl]; exact f_q20_38
        have f_q43_40 : (1 : Int) ≤ (q43.1 40).toInt ∧ (q43.1 40).toInt ≤ 6 := by rw [n_q43.1 40 rfl]; exact f_q20_40
        have f_q43_78 : (1 : Int) ≤ (q43.1 78).toInt ∧ (q43.1 78).toInt ≤ 1 := by rw [n_q43.1 78 rfl]; exact f_q20_78
        have f_q43_95 : (1 : Int) ≤ (q43.1 95).toInt ∧ (q43.1 95).toInt ≤ 1 := by rw [n_q43.1 95 rfl]; exact f_q20_95
        have g_q43_76 : (0 : Int) ≤ (q43.1 76).toInt ∧ (q43.1 76).toInt ≤ 90000 := k_q43.1 76
        have e_q43_93 : (q43.1 93).toInt = (q20.1 93).toInt := congrArg Int32.toInt (n_q43.1 93 rfl)
        have g_q43_93 : (0 : Int) ≤ (q43.1 93).toInt ∧ (q43.1 93).toInt ≤ 420 := k_q43.1 93
        have e_q43_95 : (q43.1 95).toInt = (q20.1 95).toInt := congrArg Int32.toInt (n_q43.1 95 rfl)
        have g_q43_96 : (0 : Int) ≤ (q43.1 96).toInt ∧ (q43.1 96).toInt ≤ 24000 := k_q43.1 96
        have zq43_0 : (q43.1 76).toInt ≤ (q20.1 76).toInt + 1 := zq43_0
        have zq43_1 : (q43.1 96).toInt ≤ (q20.1 96).toInt + 1 := zq43_1
        have u44 : Mt (q43.2.1 87) := by rw [n_q43.2.1 87 rfl]; exact u21
        have u45 : Fp (q43.2.1 84) := by rw [n_q43.2.1 84 rfl]; exact u22
        refine tt_b (sM_emit _ _ k_q43 f_q43_0 f_q43_38 (show (q43.1 95).toInt = 1 ∨ (q43.1 76).toInt ≤ 90000 - 1 by omega) (show (q43.1 95).toInt = 0 ∨ (q43.1 96).toInt ≤ 24000 - 1 by omega)) (fun q46 hq46 => ?_)
        obtain ⟨k_q46, n_q46, zq46_0, zq46_1, -⟩ := hq46
        have r_q46 := fr_tr r_q43 n_q46 rfl rfl rfl
        have f_q46_0 : (0 : Int) ≤ (q46.1 0).toInt ∧ (q46.1 0).toInt ≤ 0 := by rw [n_q46.1 0 rfl]; exact f_q43_0
        have f_q46_85 : (1 : Int) ≤ (q46.1 85).toInt ∧ (q46.1 85).toInt ≤ 1 := by rw [n_q46.1 85 rfl]; exact f_q43_85
        have f_q46_38 : (1 : Int) ≤ (q46.1 38).toInt ∧ (q46.1 38).toInt ≤ 1 := by rw [n_q46.1 38 rfl]; exact f_q43_38
        have f_q46_40 : (1 : Int) ≤ (q46.1 40).toInt ∧ (q46.1 40).toInt ≤ 6 := by rw [n_q46.1 40 rfl]; exact f_q43_40
        have f_q46_78 : (1 : Int) ≤ (q46.1 78).toInt ∧ (q46.1 78).toInt ≤ 1 := by rw [n_q46.1 78 rfl]; exact f_q43_78
        have f_q46_95 : (1 : Int) ≤ (q46.1 95).toInt ∧ (q46.1 95).toInt ≤ 1 := by rw [n_q46.1 95 rfl]; exact f_q43_95
        have g_q46_76 : (0 : Int) ≤ (q46.1 76).toInt ∧ (q46.1 76).toInt ≤ 90000 := k_q46.1 76
        have e_q46_93 : (q46.1 93).toInt = (q43.1 93).toInt := congrArg Int32.toInt (n_q46.1 93 rfl)
        have g_q46_93 : (0 : Int) ≤ (q46.1 93).toInt ∧ (q46.1 93).toInt ≤ 420 := k_q46.1 93
        have e_q46_95 : (q46.1 95).toInt = (q43.1 95).toInt := congrArg Int32.toInt (n_q46.1 95 rfl)
        have g_q46_96 : (0 : Int) ≤ (q46.1 96).toInt ∧ (q46.1 96).toInt ≤ 24000 := k_q46.1 96
        have zq46_0 : (q46.1 76).toInt ≤ (q43.1 76).toInt + 1 := zq46_0
        have zq46_1 : (q46.1 96).toInt ≤ (q43.1 96).toInt + 1 := zq46_1
        have u47 : Mt (q46.2.1 87) := by rw [n_q46.2.1 87 rfl]; exact u44
        have u48 : Fp (q46.2.1 84) := by rw [n_q46.2.1 84 rfl]; exact u45
        try unfold fM_writeMap_180
        refine tt_n (ix_ok i8 (by decide) (by decide)) ?_
        refine tt_kv (P := fun z => ((0 : Int) ≤ z.toInt ∧ z.toInt ≤ 417) ∧ z.toInt = (q46.2.1 47 v1.toNatClampNeg).toInt) ⟨(k_q46.2 47 _), rfl⟩ (fun x49 qi50 => ?_)
        obtain ⟨i50, ei50⟩ := qi50
        refine tt_if (fun c51 => ?_) (fun c51 => ?_)
        · have wc51 : x49.toInt ≤ (0 : Int) := c_le c51
          have i52 : (0 : Int) ≤ x49.toInt ∧ x49.toInt ≤ 0 := nr_lel c51 i50 (show (0 : Int) ≤ (0 : Int32).toInt ∧ (0 : Int32).toInt ≤ 0 by decide) (by decide) (by decide)
          try unfold fM_writeMap_203
          refine tt_kv (P := fun z => ((1 : Int) ≤ z.toInt ∧ z.toInt ≤ 6) ∧ z.toInt = v1.toInt + 1) ⟨iv_add i8 (show (1 : Int) ≤ (1 : Int32).toInt ∧ (1 : Int32).toInt ≤ 1 by decide) (by decide) (by decide) (by decide) (by decide), iq_add i8 (show (1 : Int) ≤ (1 : Int32).toInt ∧ (1 : Int32).toInt ≤ 1 by decide) (by decide) (by decide)⟩ (fun x53 qi54 => ?_)
          obtain ⟨i54, ei54⟩ := qi54
          exact H.2.2.2 _ _ k_q46 r_q46 (iv_w (a := 0) (b := 6) (by decide) (by decide) i54) f_q46_0 f_q46_38 f_q46_78 f_q46_85 f_q46_95 (show (q46.1 96).toInt ≤ 23300 + 40 * x53.toInt by omega) u47 u48 (show 0 + (6 - x53.toInt) * 2 < (n : Int) by omega)
        · have wc51 : (0 : Int) < x49.toInt := c_nle c51
          have i55 : (1 : Int) ≤ x49.toInt ∧ x49.toInt ≤ 417 := nr_nler c51 (show (0 : Int) ≤ (0 : Int32).toInt ∧ (0 : Int32).toInt ≤ 0 by decide) i50 (by decide) (by decide)
          refine tt_b (sM_emit _ _ k_q46 f_q46_0 f_q46_38 (show (q46.1 95).toInt = 1 ∨ (q46.1 76).toInt ≤ 90000 - 1 by omega) (show (q46.1 95).toInt = 0 ∨ (q46.1 96).toInt ≤ 24000 - 1 by omega)) (fun q56 hq56 => ?_)
          obtain ⟨k_q56, n_q56, zq56_0, zq56_1, -⟩ := hq56
          have r_q56 := fr_tr r_q46 n_q56 rfl rfl rfl
          have f_q56_0 : (0 : Int) ≤ (q56.1 0).toInt ∧ (q56.1 0).toInt ≤ 0 := by rw [n_q56.1 0 rfl]; exact f_q46_0
          have f_q56_85 : (1 : Int) ≤ (q56.1 85).toInt ∧ (q56.1 85).toInt ≤ 1 := by rw [n_q56.1 85 rfl]; exact f_q46_85
          have f_q56_38 : (1 : Int) ≤ (q56.1 38).toInt ∧ (q56.1 38).toInt ≤ 1 := by rw [n_q56.1 38 rfl]; exact f_q46_38
          have f_q56_40 : (1 : Int) ≤ (q56.1 40).toInt ∧ (q56.1 40).toInt ≤ 6 := by rw [n_q56.1 40 rfl]; exact f_q46_40
          have f_q56_78 : (1 : Int) ≤ (q56.1 78).toInt ∧ (q56.1 78).toInt ≤ 1 := by rw [n_q56.1 78 rfl]; exact f_q46_78
          have f_q56_95 : (1 : Int) ≤ (q56.1 95).toInt ∧ (q56.1 95).toInt ≤ 1 := by rw [n_q56.1 95 rfl]; exact f_q46_95
          have g_q56_76 : (0 : Int) ≤ (q56.1 76).toInt ∧ (q56.1 76).toInt ≤ 90000 := k_q56.1 76
          have e_q56_93 : (q56.1 93).toInt = (q46.1 93).toInt := congrArg Int32.toInt (n_q56.1 93 rfl)
          have g_q56_93 : (0 : Int) ≤ (q56.1 93).toInt ∧ (q56.1 93).toInt ≤ 420 := k_q56.1 93
          have e_q56_95 : (q56.1 95).toInt = (q46.1 95).toInt := congrArg Int32.toInt (n_q56.1 95 rfl)
          have g_q56_96 : (0 : Int) ≤ (q56.1 96).toInt ∧ (q56.1 96).toInt ≤ 24000 := k_q56.1 96
          have zq56_0 : (q56.1 76).toInt ≤ (q46.1 76).toInt + 1 := zq56_0
          have zq56_1 : (q56.1 96).toInt ≤ (q46.1 96).toInt + 1 := zq56_1
          have u57 : Mt (q56.2.1 87) := by rw [n_q56.2.1 87 rfl]; exact u47
          have u58 : Fp (q56.2.1 84) := by rw [n_q56.2.1 84 rfl]; exact u48
          refine tt_b (sM_emit _ _ k_q56 f_q56_0 f_q56_38 (show (q56.1 95).toInt = 1 ∨ (q56.1 76).toInt ≤ 90000 - 1 by omega) (show (q56.1 95).toInt = 0 ∨ (q56.1 96).toInt ≤ 24000 - 1 by omega)) (fun q59 hq59 => ?_)
          obtain ⟨k_q59, n_q59, zq59_0, zq59_1, -⟩ := hq59
          have r_q59 := fr_tr r_q56 n_q59 rfl rfl rfl
          have f_q59_0 : (0 : Int) ≤ (q59.1 0).toInt ∧ (q59.1 0).toInt ≤ 0 := by rw [n_q59.1 0 rfl]; exact f_q56_0
          have f_q59_85 : (1 : Int) ≤ (q59.1 85).toInt ∧ (q59.1 85).toInt ≤ 1 := by rw [n_q59.1 85 rfl]; exact f_q56_85
          have f_q59_38 : (1 : Int) ≤ (q59.1 38).toInt ∧ (q59.1 38).toInt ≤ 1 := by rw [n_q59.1 38 rfl]; exact f_q56_38
          have f_q59_40 : (1 : Int) ≤ (q59.1 40).toInt ∧ (q59.1 40).toInt ≤ 6 := by rw [n_q59.1 40 rfl]; exact f_q56_40
          have f_q59_78 : (1 : Int) ≤ (q59.1 78).toInt ∧ (q59.1 78).toInt ≤ 1 := by rw [n_q59.1 78 rfl]; exact f_q56_78
          have f_q59_95 : (1 : Int) ≤ (q59.1 95).toInt ∧ (q59.1 95).toInt ≤ 1 := by rw [n_q59.1 95 rfl]; exact f_q56_95
          have g_q59_76 : (0 : Int) ≤ (q59.1 76).toInt ∧ (q59.1 76).toInt ≤ 90000 := k_q59.1 76
          have e_q59_93 : (q59.1 93).toInt = (q56.1 93).toInt := congrArg Int32.toInt (n_q59.1 93 rfl)
          have g_q59_93 : (0 : Int) ≤ (q59.1 93).toInt ∧ (q59.1 93).toInt ≤ 420 := k_q59.1 93
          have e_q59_95 : (q59.1 95).toInt = (q56.1 95).toInt := congrArg Int32.toInt (n_q59.1 95 rfl)
          have g_q59_96 : (0 : Int) ≤ (q59.1 96).toInt ∧ (q59.1 96).toInt ≤ 24000 := k_q59.1 96
          have zq59_0 : (q59.1 76).toInt ≤ (q56.1 76).toInt + 1 := zq59_0
          have zq59_1 : (q59.1 96).toInt ≤ (q56.1 96).toInt + 1 := zq59_1
          have u60 : Mt (q59.2.1 87) := by rw [n_q59.2.1 87 rfl]; exact u57
          have u61 : Fp (q59.2.1 84) := by rw [n_q59.2.1 84 rfl]; exact u58
          try unfold fM_writeMap_203
          refine tt_kv (P := fun z => ((1 : Int) ≤ z.toInt ∧ z.toInt ≤ 6) ∧ z.toInt = v1.toInt + 1) ⟨iv_add i8 (show (1 : Int) ≤ (1 : Int32).toInt ∧ (1 : Int32).toInt ≤ 1 by decide) (by decide) (by decide) (by decide) (by decide), iq_add i8 (show (1 : Int) ≤ (1 : Int32).toInt ∧ (1 : Int32).toInt ≤ 1 by decide) (by decide) (by decide)⟩ (fun x62 qi63 => ?_)
          obtain ⟨i63, ei63⟩ := qi63
          exact H.2.2.2 _ _ k_q59 r_q59 (iv_w (a := 0) (b := 6) (by decide) (by decide) i63) f_q59_0 f_q59_38 f_q59_78 f_q59_85 f_q59_95 (show (q59.1 96).toInt ≤ 23300 + 40 * x62.toInt by omega) u60 u61 (show 0 + (6 - x62.toInt) * 2 < (n : Int) by omega)
    · have wc15 : (1 : Int) < x13.toInt := c_nle c15
      have i64 : (2 : Int) ≤ x13.toInt ∧ x13.toInt ≤ 417 := nr_nler c15 (show (1 : Int) ≤ (1 : Int32).toInt ∧ (1 : Int32).toInt ≤ 1 by decide) i14 (by decide) (by decide)
      refine tt_n (ix_ok i8 (by decide) (by decide)) ?_
      refine tt_kv (P := fun z => ((0 : Int) ≤ z.toInt ∧ z.toInt ≤ 417) ∧ z.toInt = (q10.2.1 47 v1.toNatClampNeg).toInt) ⟨(k_q10.2 47 _), rfl⟩ (fun x65 qi66 => ?_)
      obtain ⟨i66, ei66⟩ := qi66
      refine tt_b (sM_literalName _ _ k_q10 (show (1 : Int) ≤ _ ∧ _ ≤ (417 : Int) by omega) f_q10_0 f_q10_38 f_q10_78 f_q10_85 f_q10_95 (show (q10.1 95).toInt = 1 ∨ (q10.1 76).toInt ≤ 90000 - 9 by omega) (show (q10.1 95).toInt = 0 ∨ (q10.1 96).toInt ≤ 24000 - 9 by omega)) (fun q67 hq67 => ?_)
      obtain ⟨k_q67, n_q67, zq67_0, zq67_1, -⟩ := hq67
      have r_q67 := fr_tr r_q10 n_q67 rfl rfl rfl
      have f_q67_0 : (0 : Int) ≤ (q67.1 0).toInt ∧ (q67.1 0).toInt ≤ 0 := by rw [n_q67.1 0 rfl]; exact f_q10_0
      have f_q67_85 : (1 : Int) ≤ (q67.1 85).toInt ∧ (q67.1 85).toInt ≤ 1 := by rw [n_q67.1 85 rfl]; exact f_q10_85
      have f_q67_38 : (1 : Int) ≤ (q67.1 38).toInt ∧ (q67.1 38).toInt ≤ 1 := by rw [n_q67.1 38 rfl]; exact f_q10_38
      have f_q67_40 : (1 : Int) ≤ (q67.1 40).toInt ∧ (q67.1 40).toInt ≤ 6 := by rw [n_q67.1 40 rfl]; exact f_q10_40
      have f_q67_78 : (1 : Int) ≤ (q67.1 78).toInt ∧ (q67.1 78).toInt ≤ 1 := by rw [n_q67.1 78 rfl]; exact f_q10_78
      have f_q67_95 : (1 : Int) ≤ (q67.1 95).toInt ∧ (q67.1 95).toInt ≤ 1 := by rw [n_q67.1 95 rfl]; exact f_q10_95
      have g_q67_76 : (0 : Int) ≤ (q67.1 76).toInt ∧ (q67.1 76).toInt ≤ 90000 := k_q67.1 76
      have e_q67_93 : (q67.1 93).toInt = (q10.1 93).toInt := congrArg Int32.toInt (n_q67.1 93 rfl)
      have g_q67_93 : (0 : Int) ≤ (q67.1 93).toInt ∧ (q67.1 93).toInt ≤ 420 := k_q67.1 93
      have e_q67_95 : (q67.1 95).toInt = (q10.1 95).toInt := congrArg Int32.toInt (n_q67.1 95 rfl)
      have g_q67_96 : (0 : Int) ≤ (q67.1 96).toInt ∧ (q67.1 96).toInt ≤ 24000 := k_q67.1 96
      have zq67_0 : (q67.1 76).toInt ≤ (q10.1 76).toInt + 9 := zq67_0
      have zq67_1 : (q67.1 96).toInt ≤ (q10.1 96).toInt + 9 := zq67_1
      have u68 : Mt (q67.2.1 87) := by rw [n_q67.2.1 87 rfl]; exact u11
      have u69 : Fp (q67.2.1 84) := by rw [n_q67.2.1 84 rfl]; exact u12
      try unfold fM_writeMap_140
      refine tt_b (sM_name_M42 _ _ k_q67 i8 f_q67_0 f_q67_38 f_q67_40 (show (q67.1 95).toInt = 1 ∨ (q67.1 76).toInt ≤ 90000 - 9 by omega) (show (q67.1 95).toInt = 0 ∨ (q67.1 96).toInt ≤ 24000 - 9 by omega)) (fun q70 hq70 => ?_)
      obtain ⟨k_q70, n_q70, zq70_0, zq70_1, -⟩ := hq70
      have r_q70 := fr_tr r_q67 n_q70 rfl rfl rfl
      have f_q70_0 : (0 : Int) ≤ (q70.1 0).toInt ∧ (q70.1 0).toInt ≤ 0 := by rw [n_q70.1 0 rfl]; exact f_q67_0
      have f_q70_85 : (1 : Int) ≤ (q70.1 85).toInt ∧ (q70.1 85).toInt ≤ 1 := by rw [n_q70.1 85 rfl]; exact f_q67_85
      have f_q70_38 : (1 : Int) ≤ (q70.1 38).toInt ∧ (q70.1 38).toInt ≤ 1 := by rw [n_q70.1 38 rfl]; exact f_q67_38
      have f_q70_40 : (1 : Int) ≤ (q70.1 40).toInt ∧ (q70.1 40).toInt ≤ 6 := by rw [n_q70.1 40 rfl]; exact f_q67_40
      have f_q70_78 : (1 : Int) ≤ (q70.1 78).toInt ∧ (q70.1 78).toInt ≤ 1 := by rw [n_q70.1 78 rfl]; exact f_q67_78
      have f_q70_95 : (1 : Int) ≤ (q70.1 95).toInt ∧ (q70.1 95).toInt ≤ 1 := by rw [n_q70.1 95 rfl]; exact f_q67_95
      have g_q70_76 : (0 : Int) ≤ (q70.1 76).toInt ∧ (q70.1 76).toInt ≤ 90000 := k_q70.1 76
      have e_q70_93 : (q70.1 93).toInt = (q67.1 93).toInt := congrArg Int32.toInt (n_q70.1 93 rfl)
      have g_q70_93 : (0 : Int) ≤ (q70.1 93).toInt ∧ (q70.1 93).toInt ≤ 420 := k_q70.1 93
      have e_q70_95 : (q70.1 95).toInt = (q67.1 95).toInt := congrArg Int32.toInt (n_q70.1 95 rfl)
      have g_q70_96 : (0 : Int) ≤ (q70.1 96).toInt ∧ (q70.1 96).toInt ≤ 24000 := k_q70.1 96
      have zq70_0 : (q70.1 76).toInt ≤ (q67.1 76).toInt + 9 := zq70_0
      have zq70_1 : (q70.1 96).toInt ≤ (q67.1 96).toInt + 9 := zq70_1
      have u71 : Mt (q70.2.1 87) := by rw [n_q70.2.1 87 rfl]; exact u68
      have u72 : Fp (q70.2.1 84) := by rw [n_q70.2.1 84 rfl]; exact u69
      refine tt_b (sM_emit _ _ k_q70 f_q70_0 f_q70_38 (show (q70.1 95).toInt = 1 ∨ (q70.1 76).toInt ≤ 90000 - 1 by omega) (show (q70.1 95).toInt = 0 ∨ (q70.1 96).toInt ≤ 24000 - 1 by omega)) (fun q73 hq73 => ?_)
      obtain ⟨k_q73, n_q73, zq73_0, zq73_1, -⟩ := hq73
      have r_q73 := fr_tr r_q70 n_q73 rfl rfl rfl
      have f_q73_0 : (0 : Int) ≤ (q73.1 0).toInt ∧ (q73.1 0).toInt ≤ 0 := by rw [n_q73.1 0 rfl]; exact f_q70_0
      have f_q73_85 : (1 : Int) ≤ (q73.1 85).toInt ∧ (q73.1 85).toInt ≤ 1 := by rw [n_q73.1 85 rfl]; exact f_q70_85
      have f_q73_38 : (1 : Int) ≤ (q73.1 38).toInt ∧ (q73.1 38).toInt ≤ 1 := by rw [n_q73.1 38 rfl]; exact f_q70_38
      have f_q73_40 : (1 : Int) ≤ (q73.1 40).toInt ∧ (q73.1 40).toInt ≤ 6 := by rw [n_q73.1 40 rfl]; exact f_q70_40
      have f_q73_78 : (1 : Int) ≤ (q73.1 78).toInt ∧ (q73.1 78).toInt ≤ 1 := by rw [n_q73.1 78 rfl]; exact f_q70_78
      have f_q73_95 : (1 : Int) ≤ (q73.1 95).toInt ∧ (q73.1 95).toInt ≤ 1 := by rw [n_q73.1 95 rfl]; exact f_q70_95
      have g_q73_76 : (0 : Int) ≤ (q73.1 76).toInt ∧ (q73.1 76).toInt ≤ 90000 := k_q73.1 76
      have e_q73_93 : (q73.1 93).toInt = (q70.1 93).toInt := congrArg Int32.toInt (n_q73.1 93 rfl)
      have g_q73_93 : (0 : Int) ≤ (q73.1 93).toInt ∧ (q73.1 93).toInt ≤ 420 := k_q73.1 93
      have e_q73_95 : (q73.1 95).toInt = (q70.1 95).toInt := congrArg Int32.toInt (n_q73.1 95 rfl)
      have g_q73_96 : (0 : Int) ≤ (q73.1 96).toInt ∧ (q73.1 96).toInt ≤ 24000 := k_q73.1 96
      have zq73_0 : (q73.1 76).toInt ≤ (q70.1 76).toInt + 1 := zq73_0
      have zq73_1 : (q73.1 96).toInt ≤ (q70.1 96).toInt + 1 := zq73_1
      have u74 : Mt (q73.2.1 87) := by rw [n_q73.2.1 87 rfl]; exact u71
      have u75 : Fp (q73.2.1 84) := by rw [n_q73.2.1 84 rfl]; exact u72
      refine tt_n (ix_ok i8 (by decide) (by decide)) ?_
      refine tt_kv (P := fun z => ((0 : Int) ≤ z.toInt ∧ z.toInt ≤ 417) ∧ z.toInt = (q73.2.1 47 v1.toNatClampNeg).toInt) ⟨(k_q73.2 47 _), rfl⟩ (fun x76 qi77 => ?_)
      obtain ⟨i77, ei77⟩ := qi77
      refine tt_if (fun c78 => ?_) (fun c78 => ?_)
      · have wc78 : x76.toInt ≤ (1 : Int) := c_le c78
        have i79 : (0 : Int) ≤ x76.toInt ∧ x76.toInt ≤ 1 := nr_lel c78 i77 (show (1 : Int) ≤ (1 : Int32).toInt ∧ (1 : Int32).toInt ≤ 1 by decide) (by decide) (by decide)
        try unfold fM_writeMap_180
        refine tt_n (ix_ok i8 (by decide) (by decide)) ?_
        refine tt_kv (P := fun z => ((0 : Int) ≤ z.toInt ∧ z.toInt ≤ 417) ∧ z.toInt = (q73.2.1 47 v1.toNatClampNeg).toInt) ⟨(k_q73.2 47 _), rfl⟩ (fun x80 qi81 => ?_)
        obtain ⟨i81, ei81⟩ := qi81
        refine tt_if (fun c82 => ?_) (fun c82 => ?_)
        · have wc82 : x80.toInt ≤ (0 : Int) := c_le c82
          have i83 : (0 : Int) ≤ x80.toInt ∧ x80.toInt ≤ 0 := nr_lel c82 i81 (show (0 : Int) ≤ (0 : Int32).toInt ∧ (0 : Int32).toInt ≤ 0 by decide) (by decide) (by decide)
          try unfold fM_writeMap_203
          refine tt_kv (P := fun z => ((1 : Int) ≤ z.toInt ∧ z.toInt ≤ 6) ∧ z.toInt = v1.toInt + 1) ⟨iv_add i8 (show (1 : Int) ≤ (1 : Int32).toInt ∧ (1 : Int32).toInt ≤ 1 by decide) (by decide) (by decide) (by decide) (by decide), iq_add i8 (show (1 : Int) ≤ (1 : Int32).toInt ∧ (1 : Int32).toInt ≤ 1 by decide) (by decide) (by decide)⟩ (fun x84 qi85 => ?_)
          obtain ⟨i85, ei85⟩ := qi85
          exact H.2.2.2 _ _ k_q73 r_q73 (iv_w (a := 0) (b := 6) (by decide) (by decide) i85) f_q73_0 f_q73_38 f_q73_78 f_q73_85 f_q73_95 (show (q73.1 96).toInt ≤ 23300 + 40 * x84.toInt by omega) u74 u75 (show 0 + (6 - x84.toInt) * 2 < (n : Int) by omega)
        · have wc82 : (0 : Int) < x80.toInt := c_nle c82
          have i86 : (1 : Int) ≤ x80.toInt ∧ x80.toInt ≤ 417 := nr_nler c82 (show (0 : Int) ≤ (0 : Int32).toInt ∧ (0 : Int32).toInt ≤ 0 by decide) i81 (by decide) (by decide)
          refine tt_b (sM_emit _ _ k_q73 f_q73_0 f_q73_38 (show (q73.1 95).toInt = 1 ∨ (q73.1 76).toInt ≤ 90000 - 1 by omega) (show (q73.1 95).toInt = 0 ∨ (q73.1 96).toInt ≤ 24000 - 1 by omega)) (fun q87 hq87 => ?_)
          obtain ⟨k_q87, n_q87, zq87_0, zq87_1, -⟩ := hq87
          have r_q87 := fr_tr r_q73 n_q87 rfl rfl rfl
          have f_q87_0 : (0 : Int) ≤ (q87.1 0).toInt ∧ (q87.1 0).toInt ≤ 0 := by rw [n_q87.1 0 rfl]; exact f_q73_0
          have f_q87_85 : (1 : Int) ≤ (q87.1 85).toInt ∧ (q87.1 85).toInt ≤ 1 := by rw [n_q87.1 85 rfl]; exact f_q73_85
          have f_q87_38 : (1 : Int) ≤ (q87.1 38).toInt ∧ (q87.1 38).toInt ≤ 1 := by rw [n_q87.1 38 rfl]; exact f_q73_38
          have f_q87_40 : (1 : Int) ≤ (q87.1 40).toInt ∧ (q87.1 40).toInt ≤ 6 := by rw [n_q87.1 40 rfl]; exact f_q73_40
          have f_q87_78 : (1 : Int) ≤ (q87.1 78).toInt ∧ (q87.1 78).toInt ≤ 1 := by rw [n_q87.1 78 rfl]; exact f_q73_78
          have f_q87_95 : (1 : Int) ≤ (q87.1 95).toInt ∧ (q87.1 95).toInt ≤ 1 := by rw [n_q87.1 95 rfl]; exact f_q73_95
          have g_q87_76 : (0 : Int) ≤ (q87.1 76).toInt ∧ (q87.1 76).toInt ≤ 90000 := k_q87.1 76
          have e_q87_93 : (q87.1 93).toInt = (q73.1 93).toInt := congrArg Int32.toInt (n_q87.1 93 rfl)
          have g_q87_93 : (0 : Int) ≤ (q87.1 93).toInt ∧ (q87.1 93).toInt ≤ 420 := k_q87.1 93
          have e_q87_95 : (q87.1 95).toInt = (q73.1 95).toInt := congrArg Int32.toInt (n_q87.1 95 rfl)
          have g_q87_96 : (0 : Int) ≤ (q87.1 96).toInt ∧ (q87.1 96).toInt ≤ 24000 := k_q87.1 96
          have zq87_0 : (q87.1 76).toInt ≤ (q73.1 76).toInt + 1 := zq87_0
          have zq87_1 : (q87.1 96).toInt ≤ (q73.1 96).toInt + 1 := zq87_1
          have u88 : Mt (q87.2.1 87) := by rw [n_q87.2.1 87 rfl]; exact u74
          have u89 : Fp (q87.2.1 84) := by rw [n_q87.2.1 84 rfl]; exact u75
          refine tt_b (sM_emit _ _ k_q87 f_q87_0 f_q87_38 (show (q87.1 95).toInt = 1 ∨ (q87.1 76).toInt ≤ 90000 - 1 by omega) (show (q87.1 95).toInt = 0 ∨ (q87.1 96).toInt ≤ 24000 - 1 by omega)) (fun q90 hq90 => ?_)
          obtain ⟨k_q90, n_q90, zq90_0, zq90_1, -⟩ := hq90
          have r_q90 := fr_tr r_q87 n_q90 rfl rfl rfl
          have f_q90_0 : (0 : Int) ≤ (q90.1 0).toInt ∧ (q90.1 0).toInt ≤ 0 := by rw [n_q90.1 0 rfl]; exact f_q87_0
          have f_q90_85 : (1 : Int) ≤ (q90.1 85).toInt ∧ (q90.1 85).toInt ≤ 1 := by rw [n_q90.1 85 rfl]; exact f_q87_85
          have f_q90_38 : (1 : Int) ≤ (q90.1 38).toInt ∧ (q90.1 38).toInt ≤ 1 := by rw [n_q90.1 38 rfl]; exact f_q87_38
          have f_q90_40 : (1 : Int) ≤ (q90.1 40).toInt ∧ (q90.1 40).toInt ≤ 6 := by rw [n_q90.1 40 rfl]; exact f_q87_40
          have f_q90_78 : (1 : Int) ≤ (q90.1 78).toInt ∧ (q90.1 78).toInt ≤ 1 := by rw [n_q90.1 78 rfl]; exact f_q87_78
          have f_q90_95 : (1 : Int) ≤ (q90.1 95).toInt ∧ (q90.1 95).toInt ≤ 1 := by rw [n_q90.1 95 rfl]; exact f_q87_95
          have g_q90_76 : (0 : Int) ≤ (q90.1 76).toInt ∧ (q90.1 76).toInt ≤ 90000 := k_q90.1 76
          have e_q90_93 : (q90.1 93).toInt = (q87.1 93).toInt := congrArg Int32.toInt (n_q90.1 93 rfl)
          have g_q90_93 : (0 : Int) ≤ (q90.1 93).toInt ∧ (q90.1 93).toInt ≤ 420 := k_q90.1 93
          have e_q90_95 : (q90.1 95).toInt = (q87.1 95).toInt := congrArg Int32.toInt (n_q90.1 95 rfl)
          have g_q90_96 : (0 : Int) ≤ (q90.1 96).toInt ∧ (q90.1 96).toInt ≤ 24000 := k_q90.1 96
          have zq90_0 : (q90.1 76).toInt ≤ (q87.1 76).toInt + 1 := zq90_0
          have zq90_1 : (q90.1 96).toInt ≤ (q87.1 96).toInt + 1 := zq90_1
          have u91 : Mt (q90.2.1 87) := by rw [n_q90.2.1 87 rfl]; exact u88
          have u92 : Fp (q90.2.1 84) := by rw [n_q90.2.1 84 rfl]; exact u89
          try unfold fM_writeMap_203
          refine tt_kv (P := fun z => ((1 : Int) ≤ z.toInt ∧ z.toInt ≤ 6) ∧ z.toInt = v1.toInt + 1) ⟨iv_add i8 (show (1 : Int) ≤ (1 : Int32).toInt ∧ (1 : Int32).toInt ≤ 1 by decide) (by decide) (by decide) (by decide) (by decide), iq_add i8 (show (1 : Int) ≤ (1 : Int32).toInt ∧ (1 : Int32).toInt ≤ 1 by decide) (by decide) (by decide)⟩ (fun x93 qi94 => ?_)
          obtain ⟨i94, ei94⟩ := qi94
          exact H.2.2.2 _ _ k_q90 r_q90 (iv_w (a := 0) (b := 6) (by decide) (by decide) i94) f_q90_0 f_q90_38 f_q90_78 f_q90_85 f_q90_95 (show (q90.1 96).toInt ≤ 23300 + 40 * x93.toInt by omega) u91 u92 (show 0 + (6 - x93.toInt) * 2 < (n : Int) by omega)
      · have wc78 : (1 : Int) < x76.toInt := c_nle c78
        have i95 : (2 : Int) ≤ x76.toInt ∧ x76.toInt ≤ 417 := nr_nler c78 (show (1 : Int) ≤ (1 : Int32).toInt ∧ (1 : Int32).toInt ≤ 1 by decide) i77 (by decide) (by decide)
        refine tt_b (sM_emit _ _ k_q73 f_q73_0 f_q73_38 (show (q73.1 95).toInt = 1 ∨ (q73.1 76).toInt ≤ 90000 - 1 by omega) (show (q73.1 95).toInt = 0 ∨ (q73.1 96).toInt ≤ 24000 - 1 by omega)) (fun q96 hq96 => ?_)
        obtain ⟨k_q96, n_q96, zq96_0, zq96_1, -⟩ := hq96
        have r_q96 := fr_tr r_q73 n_q96 rfl rfl rfl
        have f_q96_0 : (0 : Int) ≤ (q96.1 0).toInt ∧ (q96.1 0).toInt ≤ 0 := by rw [n_q96.1 0 rfl]; exact f_q73_0
        have f_q96_85 : (1 : Int) ≤ (q96.1 85).toInt ∧ (q96.1 85).toInt ≤ 1 := by rw [n_q96.1 85 rfl]; exact f_q73_85
        have f_q96_38 : (1 : Int) ≤ (q96.1 38).toInt ∧ (q96.1 38).toInt ≤ 1 := by rw [n_q96.1 38 rfl]; exact f_q73_38
        have f_q96_40 : (1 : Int) ≤ (q96.1 40).toInt ∧ (q96.1 40).toInt ≤ 6 := by rw [n_q96.1 40 rfl]; exact f_q73_40
        have f_q96_78 : (1 : Int) ≤ (q96.1 78).toInt ∧ (q96.1 78).toInt ≤ 1 := by rw [n_q96.1 78 rfl]; exact f_q73_78
        have f_q96_95 : (1 : Int) ≤ (q96.1 95).toInt ∧ (q96.1 95).toInt ≤ 1 := by rw [n_q96.1 95 rfl]; exact f_q73_95
        have g_q96_76 : (0 : Int) ≤ (q96.1 76).toInt ∧ (q96.1 76).toInt ≤ 90000 := k_q96.1 76
        have e_q96_93 : (q96.1 93).toInt = (q73.1 93).toInt := congrArg Int32.toInt (n_q96.1 93 rfl)
        have g_q96_93 : (0 : Int) ≤ (q96.1 93).toInt ∧ (q96.1 93).toInt ≤ 420 := k_q96.1 93
        have e_q96_95 : (q96.1 95).toInt = (q73.1 95).toInt := congrArg Int32.toInt (n_q96.1 95 rfl)
        have g_q96_96 : (0 : Int) ≤ (q96.1 96).toInt ∧ (q96.1 96).toInt ≤ 24000 := k_q96.1 96
        have zq96_0 : (q96.1 76).toInt ≤ (q73.1 76).toInt + 1 := zq96_0
        have zq96_1 : (q96.1 96).toInt ≤ (q73.1 96).toInt + 1 := zq96_1
        have u97 : Mt (q96.2.1 87) := by rw [n_q96.2.1 87 rfl]; exact u74
        have u98 : Fp (q96.2.1 84) := by rw [n_q96.2.1 84 rfl]; exact u75
        refine tt_b (sM_emit _ _ k_q96 f_q96_0 f_q96_38 (show (q96.1 95).toInt = 1 ∨ (q96.1 76).toInt ≤ 90000 - 1 by omega) (show (q96.1 95).toInt = 0 ∨ (q96.1 96).toInt ≤ 24000 - 1 by omega)) (fun q99 hq99 => ?_)
        obtain ⟨k_q99, n_q99, zq99_0, zq99_1, -⟩ := hq99
        have r_q99 := fr_tr r_q96 n_q99 rfl rfl rfl
        have f_q99_0 : (0 : Int) ≤ (q99.1 0).toInt ∧ (q99.1 0).toInt ≤ 0 := by rw [n_q99.1 0 rfl]; exact f_q96_0
        have f_q99_85 : (1 : Int) ≤ (q99.1 85).toInt ∧ (q99.1 85).toInt ≤ 1 := by rw [n_q99.1 85 rfl]; exact f_q96_85
        have f_q99_38 : (1 : Int) ≤ (q99.1 38).toInt ∧ (q99.1 38).toInt ≤ 1 := by rw [n_q99.1 38 rfl]; exact f_q96_38
        have f_q99_40 : (1 : Int) ≤ (q99.1 40).toInt ∧ (q99.1 40).toInt ≤ 6 := by rw [n_q99.1 40 rfl]; exact f_q96_40
        have f_q99_78 : (1 : Int) ≤ (q99.1 78).toInt ∧ (q99.1 78).toInt ≤ 1 := by rw [n_q99.1 78 rfl]; exact f_q96_78
        have f_q99_95 : (1 : Int) ≤ (q99.1 95).toInt ∧ (q99.1 95).toInt ≤ 1 := by rw [n_q99.1 95 rfl]; exact f_q96_95
        have g_q99_76 : (0 : Int) ≤ (q99.1 76).toInt ∧ (q99.1 76).toInt ≤ 90000 := k_q99.1 76
        have e_q99_93 : (q99.1 93).toInt = (q96.1 93).toInt := congrArg Int32.toInt (n_q99.1 93 rfl)
        have g_q99_93 : (0 : Int) ≤ (q99.1 93).toInt ∧ (q99.1 93).toInt ≤ 420 := k_q99.1 93
        have e_q99_95 : (q99.1 95).toInt = (q96.1 95).toInt := congrArg Int32.toInt (n_q99.1 95 rfl)
        have g_q99_96 : (0 : Int) ≤ (q99.1 96).toInt ∧ (q99.1 96).toInt ≤ 24000 := k_q99.1 96
        have zq99_0 : (q99.1 76).toInt ≤ (q96.1 76).toInt + 1 := zq99_0
        have zq99_1 : (q99.1 96).toInt ≤ (q96.1 96).toInt + 1 := zq99_1
        have u100 : Mt (q99.2.1 87) := by rw [n_q99.2.1 87 rfl]; exact u97
        have u101 : Fp (q99.2.1 84) := by rw [n_q99.2.1 84 rfl]; exact u98
        try unfold fM_writeMap_180
        refine tt_n (ix_ok i8 (by decide) (by decide)) ?_
        refine tt_kv (P := fun z => ((0 : Int) ≤ z.toInt ∧ z.toInt ≤ 417) ∧ z.toInt = (q99.2.1 47 v1.toNatClampNeg).toInt) ⟨(k_q99.2 47 _), rfl⟩ (fun x102 qi103 => ?_)
        obtain ⟨i103, ei103⟩ := qi103
        refine tt_if (fun c104 => ?_) (fun c104 => ?_)
        · have wc104 : x102.toInt ≤ (0 : Int) := c_le c104
          have i105 : (0 : Int) ≤ x102.toInt ∧ x102.toInt ≤ 0 := nr_lel c104 i103 (show (0 : Int) ≤ (0 : Int32).toInt ∧ (0 : Int32).toInt ≤ 0 by decide) (by decide) (by decide)
          try unfold fM_writeMap_203
          refine tt_kv (P := fun z => ((1 : Int) ≤ z.toInt ∧ z.toInt ≤ 6) ∧ z.toInt = v1.toInt + 1) ⟨iv_add i8 (show (1 : Int) ≤ (1 : Int32).toInt ∧ (1 : Int32).toInt ≤ 1 by decide) (by decide) (by decide) (by decide) (by decide), iq_add i8 (show (1 : Int) ≤ (1 : Int32).toInt ∧ (1 : Int32).toInt ≤ 1 by decide) (by decide) (by decide)⟩ (fun x106 qi107 => ?_)
          obtain ⟨i107, ei107⟩ := qi107
          exact H.2.2.2 _ _ k_q99 r_q99 (iv_w (a := 0) (b := 6) (by decide) (by decide) i107) f_q99_0 f_q99_38 f_q99_78 f_q99_85 f_q99_95 (show (q99.1 96).toInt ≤ 23300 + 40 * x106.toInt by omega) u100 u101 (show 0 + (6 - x106.toInt) * 2 < (n : Int) by omega)
        · have wc104 : (0 : Int) < x102.toInt := c_nle c104
          have i108 : (1 : Int) ≤ x102.toInt ∧ x102.toInt ≤ 417 := nr_nler c104 (show (0 : Int) ≤ (0 : Int32).toInt ∧ (0 : Int32).toInt ≤ 0 by decide) i103 (by decide) (by decide)
          refine tt_b (sM_emit _ _ k_q99 f_q99_0 f_q99_38 (show (q99.1 95).toInt = 1 ∨ (q99.1 76).toInt ≤ 90000 - 1 by omega) (show (q99.1 95).toInt = 0 ∨ (q99.1 96).toInt ≤ 24000 - 1 by omega)) (fun q109 hq109 => ?_)
          obtain ⟨k_q109, n_q109, zq109_0, zq109_1, -⟩ := hq109
          have r_q109 := fr_tr r_q99 n_q109 rfl rfl rfl
          have f_q109_0 : (0 : Int) ≤ (q109.1 0).toInt ∧ (q109.1 0).toInt ≤ 0 := by rw [n_q109.1 0 rfl]; exact f_q99_0
          have f_q109_85 : (1 : Int) ≤ (q109.1 85).toInt ∧ (q109.1 85).toInt ≤ 1 := by rw [n_q109.1 85 rfl]; exact f_q99_85
          have f_q109_38 : (1 : Int) ≤ (q109.1 38).toInt ∧ (q109.1 38).toInt ≤ 1 := by rw [n_q109.1 38 rfl]; exact f_q99_38
          have f_q109_40 : (1 : Int) ≤ (q109.1 40).toInt ∧ (q109.1 40).toInt ≤ 6 := by rw [n_q109.1 40 rfl]; exact f_q99_40
          have f_q109_78 : (1 : Int) ≤ (q109.1 78).toInt ∧ (q109.1 78).toInt ≤ 1 := by rw [n_q109.1 78 rfl]; exact f_q99_78
          have f_q109_95 : (1 : Int) ≤ (q109.1 95).toInt ∧ (q109.1 95).toInt ≤ 1 := by rw [n_q109.1 95 rfl]; exact f_q99_95
          have g_q109_76 : (0 : Int) ≤ (q109.1 76).toInt ∧ (q109.1 76).toInt ≤ 90000 := k_q109.1 76
          have e_q109_93 : (q109.1 93).toInt = (q99.1 93).toInt := congrArg Int32.toInt (n_q109.1 93 rfl)
          have g_q109_93 : (0 : Int) ≤ (q109.1 93).toInt ∧ (q109.1 93).toInt ≤ 420 := k_q109.1 93
          have e_q109_95 : (q109.1 95).toInt = (q99.1 95).toInt := congrArg Int32.toInt (n_q109.1 95 rfl)
          have g_q109_96 : (0 : Int) ≤ (q109.1 96).toInt ∧ (q109.1 96).toInt ≤ 24000 := k_q109.1 96
          have zq109_0 : (q109.1 76).toInt ≤ (q99.1 76).toInt + 1 := zq109_0
          have zq109_1 : (q109.1 96).toInt ≤ (q99.1 96).toInt + 1 := zq109_1
          have u110 : Mt (q109.2.1 87) := by rw [n_q109.2.1 87 rfl]; exact u100
          have u111 : Fp (q109.2.1 84) := by rw [n_q109.2.1 84 rfl]; exact u101
          refine tt_b (sM_emit _ _ k_q109 f_q109_0 f_q109_38 (show (q109.1 95).toInt = 1 ∨ (q109.1 76).toInt ≤ 90000 - 1 by omega) (show (q109.1 95).toInt = 0 ∨ (q109.1 96).toInt ≤ 24000 - 1 by omega)) (fun q112 hq112 => ?_)
          obtain ⟨k_q112, n_q112, zq112_0, zq112_1, -⟩ := hq112
          have r_q112 := fr_tr r_q109 n_q112 rfl rfl rfl
          have f_q112_0 : (0 : Int) ≤ (q112.1 0).toInt ∧ (q112.1 0).toInt ≤ 0 := by rw [n_q112.1 0 rfl]; exact f_q109_0
          have f_q112_85 : (1 : Int) ≤ (q112.1 85).toInt ∧ (q112.1 85).toInt ≤ 1 := by rw [n_q112.1 85 rfl]; exact f_q109_85
          have f_q112_38 : (1 : Int) ≤ (q112.1 38).toInt ∧ (q112.1 38).toInt ≤ 1 := by rw [n_q112.1 38 rfl]; exact f_q109_38
          have f_q112_40 : (1 : Int) ≤ (q112.1 40).toInt ∧ (q112.1 40).toInt ≤ 6 := by rw [n_q112.1 40 rfl]; exact f_q109_40
          have f_q112_78 : (1 : Int) ≤ (q112.1 78).toInt ∧ (q112.1 78).toInt ≤ 1 := by rw [n_q112.1 78 rfl]; exact f_q109_78
          have f_q112_95 : (1 : Int) ≤ (q112.1 95).toInt ∧ (q112.1 95).toInt ≤ 1 := by rw [n_q112.1 95 rfl]; exact f_q109_95
          have g_q112_76 : (0 : Int) ≤ (q112.1 76).toInt ∧ (q112.1 76).toInt ≤ 90000 := k_q112.1 76
          have e_q112_93 : (q112.1 93).toInt = (q109.1 93).toInt := congrArg Int32.toInt (n_q112.1 93 rfl)
          have g_q112_93 : (0 : Int) ≤ (q112.1 93).toInt ∧ (q112.1 93).toInt ≤ 420 := k_q112.1 93
          have e_q112_95 : (q112.1 95).toInt = (q109.1 95).toInt := congrArg Int32.toInt (n_q112.1 95 rfl)
          have g_q112_96 : (0 : Int) ≤ (q112.1 96).toInt ∧ (q112.1 96).toInt ≤ 24000 := k_q112.1 96
          have zq112_0 : (q112.1 76).toInt ≤ (q109.1 76).toInt + 1 := zq112_0
          have zq112_1 : (q112.1 96).toInt ≤ (q109.1 96).toInt + 1 := zq112_1
          have u113 : Mt (q112.2.1 87) := by rw [n_q112.2.1 87 rfl]; exact u110
          have u114 : Fp (q112.2.1 84) := by rw [n_q112.2.1 84 rfl]; exact u111
          try unfold fM_writeMap_203
          refine tt_kv (P := fun z => ((1 : Int) ≤ z.toInt ∧ z.toInt ≤ 6) ∧ z.toInt = v1.toInt + 1) ⟨iv_add i8 (show (1 : Int) ≤ (1 : Int32).toInt ∧ (1 : Int32).toInt ≤ 1 by decide) (by decide) (by decide) (by decide) (by decide), iq_add i8 (show (1 : Int) ≤ (1 : Int32).toInt ∧ (1 : Int32).toInt ≤ 1 by decide) (by decide) (by decide)⟩ (fun x115 qi116 => ?_)
          obtain ⟨i116, ei116⟩ := qi116
          exact H.2.2.2 _ _ k_q112 r_q112 (iv_w (a := 0) (b := 6) (by decide) (by decide) i116) f_q112_0 f_q112_38 f_q112_78 f_q112_85 f_q112_95 (show (q112.1 96).toInt ≤ 23300 + 40 * x115.toInt by omega) u113 u114 (show 0 + (6 - x115.toInt) * 2 < (n : Int) by omega)
set_option maxHeartbeats 4000000 in
set_option maxRecDepth 100000 in
theorem tM_writeMap_81 {yo0 : cf_O} {n : Nat} (H : HM_writeMap yo0 n) (v1 : Int32) (o0 : cf_O) (k_o0 : okO I_M o0) (r_o0 : Fr (fr_M [76, 96] [77, 97] []) yo0 o0) (i_v1 : (0 : Int) ≤ v1.toInt ∧ v1.toInt ≤ 420) (f_o0_0 : (0 : Int) ≤ (o0.1 0).toInt ∧ (o0.1 0).toInt ≤ 0) (f_o0_38 : (1 : Int) ≤ (o0.1 38).toInt ∧ (o0.1 38).toInt ≤ 1) (f_o0_78 : (1 : Int) ≤ (o0.1 78).toInt ∧ (o0.1 78).toInt ≤ 1) (f_o0_85 : (1 : Int) ≤ (o0.1 85).toInt ∧ (o0.1 85).toInt ≤ 1) (f_o0_95 : (1 : Int) ≤ (o0.1 95).toInt ∧ (o0.1 95).toInt ≤ 1) (x_0 : (o0.1 96).toInt ≤ 200 + 55 * v1.toInt) (x_1 : Mt (o0.2.1 87)) (x_2 : Fp (o0.2.1 84)) (x_3 : Io (o0.1 93).toInt (o0.2.1 94) (o0.2.1 87) (o0.2.1 84)) (hm : 14 + (420 - v1.toInt) * 2 ≤ (n : Int)) : tt (fM_writeMap_81 (gM_writeMap n) v1 o0) (QM_writeMap yo0) := by
  unfold fM_writeMap_81
  have g_o0_76 : (0 : Int) ≤ (o0.1 76).toInt ∧ (o0.1 76).toInt ≤ 90000 := k_o0.1 76
  have g_o0_93 : (0 : Int) ≤ (o0.1 93).toInt ∧ (o0.1 93).toInt ≤ 420 := k_o0.1 93
  have ey_o0_93 : (o0.1 93).toInt = (yo0.1 93).toInt := congrArg Int32.toInt (r_o0.1 93 rfl)
  have ey_o0_95 : (o0.1 95).toInt = (yo0.1 95).toInt := congrArg Int32.toInt (r_o0.1 95 rfl)
  have g_o0_96 : (0 : Int) ≤ (o0.1 96).toInt ∧ (o0.1 96).toInt ≤ 24000 := k_o0.1 96
  refine tt_if (fun c1 => ?_) (fun c1 => ?_)
  · have wc1 : (o0.1 93).toInt ≤ v1.toInt := c_le c1
    exact H.2.2.2 _ _ k_o0 r_o0 (iv_w (a := 0) (b := 6) (by decide) (by decide) (show (0 : Int) ≤ (0 : Int32).toInt ∧ (0 : Int32).toInt ≤ 0 by decide)) f_o0_0 f_o0_38 f_o0_78 f_o0_85 f_o0_95 (show (o0.1 96).toInt ≤ 23300 + 40 * 0 by omega) x_1 x_2 (show 0 + (6 - 0) * 2 < (n : Int) by omega)
  · have wc1 : v1.toInt < (o0.1 93).toInt := c_nle c1
    have i2 : (0 : Int) ≤ v1.toInt ∧ v1.toInt ≤ 419 := nr_nlel c1 i_v1 (k_o0.1 93) (by decide) (by decide)
    have i3 : (1 : Int) ≤ (o0.1 93).toInt ∧ (o0.1 93).toInt ≤ 420 := nr_nler c1 i_v1 (k_o0.1 93) (by decide) (by decide)
    refine tt_n (ix_ok i2 (by decide) (by decide)) ?_
    refine tt_kv (P := fun z => ((0 : Int) ≤ z.toInt ∧ z.toInt ≤ 419) ∧ z.toInt = (o0.2.1 94 v1.toNatClampNeg).toInt) ⟨(k_o0.2 94 _), rfl⟩ (fun x4 qi5 => ?_)
    obtain ⟨i5, ei5⟩ := qi5
    have t6 := tn_n v1
    have t7 := Io_l x_3 (v1.toNatClampNeg)
    have p8 : Iq x4.toInt (o0.2.1 87) (o0.2.1 84) := by exact Io_at (i := v1.toNatClampNeg) (by assumption) (by rw [tn_n]; omega) (by assumption)
    refine tt_b (sM_writeInstance _ _ k_o0 i5 f_o0_0 f_o0_38 f_o0_78 f_o0_85 i3 f_o0_95 (show (o0.1 95).toInt = 1 ∨ (o0.1 76).toInt ≤ 90000 - 55 by omega) (show (o0.1 95).toInt = 0 ∨ (o0.1 96).toInt ≤ 24000 - 55 by omega) x_1 x_2 p8 (show 2 ≤ x4.toInt by omega) (show x4.toInt ≤ 417 by omega)) (fun q9 hq9 => ?_)
    obtain ⟨k_q9, n_q9, zq9_0, zq9_1, -⟩ := hq9
    have r_q9 := fr_tr r_o0 n_q9 rfl rfl rfl
    have f_q9_0 : (0 : Int) ≤ (q9.1 0).toInt ∧ (q9.1 0).toInt ≤ 0 := by rw [n_q9.1 0 rfl]; exact f_o0_0
    have f_q9_85 : (1 : Int) ≤ (q9.1 85).toInt ∧ (q9.1 85).toInt ≤ 1 := by rw [n_q9.1 85 rfl]; exact f_o0_85
    have f_q9_38 : (1 : Int) ≤ (q9.1 38).toInt ∧ (q9.1 38).toInt ≤ 1 := by rw [n_q9.1 38 rfl]; exact f_o0_38
    have f_q9_93 : (1 : Int) ≤ (q9.1 93).toInt ∧ (q9.1 93).toInt ≤ 420 := by rw [n_q9.1 93 rfl]; exact i3
    have f_q9_78 : (1 : Int) ≤ (q9.1 78).toInt ∧ (q9.1 78).toInt ≤ 1 := by rw [n_q9.1 78 rfl]; exact f_o0_78
    have f_q9_95 : (1 : Int) ≤ (q9.1 95).toInt ∧ (q9.1 95).toInt ≤ 1 := by rw [n_q9.1 95 rfl]; exact f_o0_95
    have g_q9_76 : (0 : Int) ≤ (q9.1 76).toInt ∧ (q9.1 76).toInt ≤ 90000 := k_q9.1 76
    have e_q9_93 : (q9.1 93).toInt = (o0.1 93).toInt := congrArg Int32.toInt (n_q9.1 93 rfl)
    have e_q9_95 : (q9.1 95).toInt = (o0.1 95).toInt := congrArg Int32.toInt (n_q9.1 95 rfl)
    have g_q9_96 : (0 : Int) ≤ (q9.1 96).toInt ∧ (q9.1 96).toInt ≤ 24000 := k_q9.1 96
    have zq9_0 : (q9.1 76).toInt ≤ (o0.1 76).toInt + 55 := zq9_0
    have zq9_1 : (q9.1 96).toInt ≤ (o0.1 96).toInt + 55 := zq9_1
    have u10 : Mt (q9.2.1 87) := by rw [n_q9.2.1 87 rfl]; exact x_1
    have u11 : Fp (q9.2.1 84) := by rw [n_q9.2.1 84 rfl]; exact x_2
    have u12 : Io (q9.1 93).toInt (q9.2.1 94) (q9.2.1 87) (q9.2.1 84) := by rw [n_q9.1 93 rfl, n_q9.2.1 84 rfl, n_q9.2.1 87 rfl, n_q9.2.1 94 rfl]; exact x_3
    refine tt_kv (P := fun z => ((1 : Int) ≤ z.toInt ∧ z.toInt ≤ 420) ∧ z.toInt = v1.toInt + 1) ⟨iv_add i2 (show (1 : Int) ≤ (1 : Int32).toInt ∧ (1 : Int32).toInt ≤ 1 by decide) (by decide) (by decide) (by decide) (by decide), iq_add i2 (show (1 : Int) ≤ (1 : Int32).toInt ∧ (1 : Int32).toInt ≤ 1 by decide) (by decide) (by decide)⟩ (fun x13 qi14 => ?_)
    obtain ⟨i14, ei14⟩ := qi14
    exact H.2.2.1 _ _ k_q9 r_q9 (iv_w (a := 0) (b := 420) (by decide) (by decide) i14) f_q9_0 f_q9_38 f_q9_78 f_q9_85 f_q9_95 (show (q9.1 96).toInt ≤ 200 + 55 * x13.toInt by omega) u10 u11 u12 (show 14 + (420 - x13.toInt) * 2 < (n : Int) by omega)
set_option maxHeartbeats 4000000 in
set_option maxRecDepth 100000 in
theorem tM_writeMap_49 {yo0 : cf_O} {n : Nat} (H : HM_writeMap yo0 n) (v1 : Int32) (o0 : cf_O) (k_o0 : okO I_M o0) (r_o0 : Fr (fr_M [76, 96] [77, 97] []) yo0 o0) (i_v1 : (0 : Int) ≤ v1.toInt ∧ v1.toInt ≤ 6) (f_o0_0 : (0 : Int) ≤ (o0.1 0).toInt ∧ (o0.1 0).toInt ≤ 0) (f_o0_38 : (1 : Int) ≤ (o0.1 38).toInt ∧ (o0.1 38).toInt ≤ 1) (f_o0_78 : (1 : Int) ≤ (o0.1 78).toInt ∧ (o0.1 78).toInt ≤ 1) (f_o0_85 : (1 : Int) ≤ (o0.1 85).toInt ∧ (o0.1 85).toInt ≤ 1) (f_o0_95 : (1 : Int) ≤ (o0.1 95).toInt ∧ (o0.1 95).toInt ≤ 1) (x_0 : (o0.1 96).toInt ≤ 101 + 9 * v1.toInt) (x_1 : Mt (o0.2.1 87)) (x_2 : Fp (o0.2.1 84)) (x_3 : Io (o0.1 93).toInt (o0.2.1 94) (o0.2.1 87) (o0.2.1 84)) (hm : 856 + (6 - v1.toInt) * 2 ≤ (n : Int)) : tt (fM_writeMap_49 (gM_writeMap n) v1 o0) (QM_writeMap yo0) := by
  unfold fM_writeMap_49
  have g_o0_76 : (0 : Int) ≤ (o0.1 76).toInt ∧ (o0.1 76).toInt ≤ 90000 := k_o0.1 76
  have g_o0_93 : (0 : Int) ≤ (o0.1 93).toInt ∧ (o0.1 93).toInt ≤ 420 := k_o0.1 93
  have ey_o0_93 : (o0.1 93).toInt = (yo0.1 93).toInt := congrArg Int32.toInt (r_o0.1 93 rfl)
  have ey_o0_95 : (o0.1 95).toInt = (yo0.1 95).toInt := congrArg Int32.toInt (r_o0.1 95 rfl)
  have g_o0_96 : (0 : Int) ≤ (o0.1 96).toInt ∧ (o0.1 96).toInt ≤ 24000 := k_o0.1 96
  refine tt_if (fun c1 => ?_) (fun c1 => ?_)
  · have wc1 : (o0.1 40).toInt ≤ v1.toInt := c_le c1
    refine tt_b (sM_emit _ _ k_o0 f_o0_0 f_o0_38 (show (o0.1 95).toInt = 1 ∨ (o0.1 76).toInt ≤ 90000 - 1 by omega) (show (o0.1 95).toInt = 0 ∨ (o0.1 96).toInt ≤ 24000 - 1 by omega)) (fun q2 hq2 => ?_)
    obtain ⟨k_q2, n_q2, zq2_0, zq2_1, -⟩ := hq2
    have r_q2 := fr_tr r_o0 n_q2 rfl rfl rfl
    have f_q2_0 : (0 : Int) ≤ (q2.1 0).toInt ∧ (q2.1 0).toInt ≤ 0 := by rw [n_q2.1 0 rfl]; exact f_o0_0
    have f_q2_85 : (1 : Int) ≤ (q2.1 85).toInt ∧ (q2.1 85).toInt ≤ 1 := by rw [n_q2.1 85 rfl]; exact f_o0_85
    have f_q2_38 : (1 : Int) ≤ (q2.1 38).toInt ∧ (q2.1 38).toInt ≤ 1 := by rw [n_q2.1 38 rfl]; exact f_o0_38
    have f_q2_78 : (1 : Int) ≤ (q2.1 78).toInt ∧ (q2.1 78).toInt ≤ 1 := by rw [n_q2.1 78 rfl]; exact f_o0_78
    have f_q2_95 : (1 : Int) ≤ (q2.1 95).toInt ∧ (q2.1 95).toInt ≤ 1 := by rw [n_q2.1 95 rfl]; exact f_o0_95
    have g_q2_76 : (0 : Int) ≤ (q2.1 76).toInt ∧ (q2.1 76).toInt ≤ 90000 := k_q2.1 76
    have e_q2_93 : (q2.1 93).toInt = (o0.1 93).toInt := congrArg Int32.toInt (n_q2.1 93 rfl)
    have g_q2_93 : (0 : Int) ≤ (q2.1 93).toInt ∧ (q2.1 93).toInt ≤ 420 := k_q2.1 93
    have e_q2_95 : (q2.1 95).toInt = (o0.1 95).toInt := congrArg Int32.toInt (n_q2.1 95 rfl)
    have g_q2_96 : (0 : Int) ≤ (q2.1 96).toInt ∧ (q2.1 96).toInt ≤ 24000 := k_q2.1 96
    have zq2_0 : (q2.1 76).toInt ≤ (o0.1 76).toInt + 1 := zq2_0
    have zq2_1 : (q2.1 96).toInt ≤ (o0.1 96).toInt + 1 := zq2_1
    have u3 : Mt (q2.2.1 87) := by rw [n_q2.2.1 87 rfl]; exact x_1
    have u4 : Fp (q2.2.1 84) := by rw [n_q2.2.1 84 rfl]; exact x_2
    have u5 : Io (q2.1 93).toInt (q2.2.1 94) (q2.2.1 87) (q2.2.1 84) := by rw [n_q2.1 93 rfl, n_q2.2.1 84 rfl, n_q2.2.1 87 rfl, n_q2.2.1 94 rfl]; exact x_3
    exact H.2.2.1 _ _ k_q2 r_q2 (iv_w (a := 0) (b := 420) (by decide) (by decide) (show (0 : Int) ≤ (0 : Int32).toInt ∧ (0 : Int32).toInt ≤ 0 by decide)) f_q2_0 f_q2_38 f_q2_78 f_q2_85 f_q2_95 (show (q2.1 96).toInt ≤ 200 + 55 * 0 by omega) u3 u4 u5 (show 14 + (420 - 0) * 2 < (n : Int) by omega)
  · have wc1 : v1.toInt < (o0.1 40).toInt := c_nle c1
    have i6 : (0 : Int) ≤ v1.toInt ∧ v1.toInt ≤ 5 := nr_nlel c1 i_v1 (k_o0.1 40) (by decide) (by decide)
    have i7 : (1 : Int) ≤ (o0.1 40).toInt ∧ (o0.1 40).toInt ≤ 6 := nr_nler c1 i_v1 (k_o0.1 40) (by decide) (by decide)
    refine tt_b (sM_name_M42 _ _ k_o0 i6 f_o0_0 f_o0_38 i7 (show (o0.1 95).toInt = 1 ∨ (o0.1 76).toInt ≤ 90000 - 9 by omega) (show (o0.1 95).toInt = 0 ∨ (o0.1 96).toInt ≤ 24000 - 9 by omega)) (fun q8 hq8 => ?_)
    obtain ⟨k_q8, n_q8, zq8_0, zq8_1, -⟩ := hq8
    have r_q8 := fr_tr r_o0 n_q8 rfl rfl rfl
    have f_q8_0 : (0 : Int) ≤ (q8.1 0).toInt ∧ (q8.1 0).toInt ≤ 0 := by rw [n_q8.1 0 rfl]; exact f_o0_0
    have f_q8_85 : (1 : Int) ≤ (q8.1 85).toInt ∧ (q8.1 85).toInt ≤ 1 := by rw [n_q8.1 85 rfl]; exact f_o0_85
    have f_q8_38 : (1 : Int) ≤ (q8.1 38).toInt ∧ (q8.1 38).toInt ≤ 1 := by rw [n_q8.1 38 rfl]; exact f_o0_38
    have f_q8_40 : (1 : Int) ≤ (q8.1 40).toInt ∧ (q8.1 40).toInt ≤ 6 := by rw [n_q8.1 40 rfl]; exact i7
    have f_q8_78 : (1 : Int) ≤ (q8.1 78).toInt ∧ (q8.1 78).toInt ≤ 1 := by rw [n_q8.1 78 rfl]; exact f_o0_78
    have f_q8_95 : (1 : Int) ≤ (q8.1 95).toInt ∧ (q8.1 95).toInt ≤ 1 := by rw [n_q8.1 95 rfl]; exact f_o0_95
    have g_q8_76 : (0 : Int) ≤ (q8.1 76).toInt ∧ (q8.1 76).toInt ≤ 90000 := k_q8.1 76
    have e_q8_93 : (q8.1 93).toInt = (o0.1 93).toInt := congrArg Int32.toInt (n_q8.1 93 rfl)
    have g_q8_93 : (0 : Int) ≤ (q8.1 93).toInt ∧ (q8.1 93).toInt ≤ 420 := k_q8.1 93
    have e_q8_95 : (q8.1 95).toInt = (o0.1 95).toInt := congrArg Int32.toInt (n_q8.1 95 rfl)
    have g_q8_96 : (0 : Int) ≤ (q8.1 96).toInt ∧ (q8.1 96).toInt ≤ 24000 := k_q8.1 96
    have zq8_0 : (q8.1 76).toInt ≤ (o0.1 76).toInt + 9 := zq8_0
    have zq8_1 : (q8.1 96).toInt ≤ (o0.1 96).toInt + 9 := zq8_1
    have u9 : Mt (q8.2.1 87) := by rw [n_q8.2.1 87 rfl]; exact x_1
    have u10 : Fp (q8.2.1 84) := by rw [n_q8.2.1 84 rfl]; exact x_2
    have u11 : Io (q8.1 93).toInt (q8.2.1 94) (q8.2.1 87) (q8.2.1 84) := by rw [n_q8.1 93 rfl, n_q8.2.1 84 rfl, n_q8.2.1 87 rfl, n_q8.2.1 94 rfl]; exact x_3
    refine tt_kv (P := fun z => ((1 : Int) ≤ z.toInt ∧ z.toInt ≤ 6) ∧ z.toInt = v1.toInt + 1) ⟨iv_add i6 (show (1 : Int) ≤ (1 : Int32).toInt ∧ (1 : Int32).toInt ≤ 1 by decide) (by decide) (by decide) (by decide) (by decide), iq_add i6 (show (1 : Int) ≤ (1 : Int32).toInt ∧ (1 : Int32).toInt ≤ 1 by decide) (by decide) (by decide)⟩ (fun x12 qi13 => ?_)
    obtain ⟨i13, ei13⟩ := qi13
    exact H.2.1 _ _ k_q8 r_q8 (iv_w (a := 0) (b := 6) (by decide) (by decide) i13) f_q8_0 f_q8_38 f_q8_78 f_q8_85 f_q8_95 (show (q8.1 96).toInt ≤ 101 + 9 * x12.toInt by omega) u9 u10 u11 (show 856 + (6 - x12.toInt) * 2 < (n : Int) by omega)
set_option maxHeartbeats 4000000 in
set_option maxRecDepth 100000 in
theorem tM_writeMap_12 {yo0 : cf_O} {n : Nat} (H : HM_writeMap yo0 n) (v1 : Int32) (o0 : cf_O) (k_o0 : okO I_M o0) (r_o0 : Fr (fr_M [76, 96] [77, 97] []) yo0 o0) (i_v1 : (0 : Int) ≤ v1.toInt ∧ v1.toInt ≤ 8) (f_o0_0 : (0 : Int) ≤ (o0.1 0).toInt ∧ (o0.1 0).toInt ≤ 0) (f_o0_38 : (1 : Int) ≤ (o0.1 38).toInt ∧ (o0.1 38).toInt ≤ 1) (f_o0_78 : (1 : Int) ≤ (o0.1 78).toInt ∧ (o0.1 78).toInt ≤ 1) (f_o0_85 : (1 : Int) ≤ (o0.1 85).toInt ∧ (o0.1 85).toInt ≤ 1) (f_o0_95 : (1 : Int) ≤ (o0.1 95).toInt ∧ (o0.1 95).toInt ≤ 1) (x_0 : (o0.1 96).toInt ≤ 14 + 9 * v1.toInt) (x_1 : Mt (o0.2.1 87)) (x_2 : Fp (o0.2.1 84)) (x_3 : Io (o0.1 93).toInt (o0.2.1 94) (o0.2.1 87) (o0.2.1 84)) (hm : 870 + (8 - v1.toInt) * 2 ≤ (n : Int)) : tt (fM_writeMap_12 (gM_writeMap n) v1 o0) (QM_writeMap yo0) := by
  unfold fM_writeMap_12
  have g_o0_76 : (0 : Int) ≤ (o0.1 76).toInt ∧ (o0.1 76).toInt ≤ 90000 := k_o0.1 76
  have g_o0_93 : (0 : Int) ≤ (o0.1 93).toInt ∧ (o0.1 93).toInt ≤ 420 := k_o0.1 93
  have ey_o0_93 : (o0.1 93).toInt = (yo0.1 93).toInt := congrArg Int32.toInt (r_o0.1 93 rfl)
  have ey_o0_95 : (o0.1 95).toInt = (yo0.1 95).toInt := congrArg Int32.toInt (r_o0.1 95 rfl)
  have g_o0_96 : (0 : Int) ≤ (o0.1 96).toInt ∧ (o0.1 96).toInt ≤ 24000 := k_o0.1 96
  refine tt_if (fun c1 => ?_) (fun c1 => ?_)
  · have wc1 : (o0.1 39).toInt ≤ v1.toInt := c_le c1
    refine tt_b (sM_emit _ _ k_o0 f_o0_0 f_o0_38 (show (o0.1 95).toInt = 1 ∨ (o0.1 76).toInt ≤ 90000 - 1 by omega) (show (o0.1 95).toInt = 0 ∨ (o0.1 96).toInt ≤ 24000 - 1 by omega)) (fun q2 hq2 => ?_)
    obtain ⟨k_q2, n_q2, zq2_0, zq2_1, -⟩ := hq2
    have r_q2 := fr_tr r_o0 n_q2 rfl rfl rfl
    have f_q2_0 : (0 : Int) ≤ (q2.1 0).toInt ∧ (q2.1 0).toInt ≤ 0 := by rw [n_q2.1 0 rfl]; exact f_o0_0
    have f_q2_85 : (1 : Int) ≤ (q2.1 85).toInt ∧ (q2.1 85).toInt ≤ 1 := by rw [n_q2.1 85 rfl]; exact f_o0_85
    have f_q2_38 : (1 : Int) ≤ (q2.1 38).toInt ∧ (q2.1 38).toInt ≤ 1 := by rw [n_q2.1 38 rfl]; exact f_o0_38
    have f_q2_78 : (1 : Int) ≤ (q2.1 78).toInt ∧ (q2.1 78).toInt ≤ 1 := by rw [n_q2.1 78 rfl]; exact f_o0_78
    have f_q2_95 : (1 : Int) ≤ (q2.1 95).toInt ∧ (q2.1 95).toInt ≤ 1 := by rw [n_q2.1 95 rfl]; exact f_o0_95
    have g_q2_76 : (0 : Int) ≤ (q2.1 76).toInt ∧ (q2.1 76).toInt ≤ 90000 := k_q2.1 76
    have e_q2_93 : (q2.1 93).toInt = (o0.1 93).toInt := congrArg Int32.toInt (n_q2.1 93 rfl)
    have g_q2_93 : (0 : Int) ≤ (q2.1 93).toInt ∧ (q2.1 93).toInt ≤ 420 := k_q2.1 93
    have e_q2_95 : (q2.1 95).toInt = (o0.1 95).toInt := congrArg Int32.toInt (n_q2.1 95 rfl)
    have g_q2_96 : (0 : Int) ≤ (q2.1 96).toInt ∧ (q2.1 96).toInt ≤ 24000 := k_q2.1 96
    have zq2_0 : (q2.1 76).toInt ≤ (o0.1 76).toInt + 1 := zq2_0
    have zq2_1 : (q2.1 96).toInt ≤ (o0.1 96).toInt + 1 := zq2_1
    have u3 : Mt (q2.2.1 87) := by rw [n_q2.2.1 87 rfl]; exact x_1
    have u4 : Fp (q2.2.1 84) := by rw [n_q2.2.1 84 rfl]; exact x_2
    have u5 : Io (q2.1 93).toInt (q2.2.1 94) (q2.2.1 87) (q2.2.1 84) := by rw [n_q2.1 93 rfl, n_q2.2.1 84 rfl, n_q2.2.1 87 rfl, n_q2.2.1 94 rfl]; exact x_3
    refine tt_b (sM_word _ _ k_q2 (iv_w (a := 0) (b := 3) (by decide) (by decide) (show (1 : Int) ≤ (1 : Int32).toInt ∧ (1 : Int32).toInt ≤ 1 by decide)) f_q2_0 f_q2_38 (show (q2.1 95).toInt = 1 ∨ (q2.1 76).toInt ≤ 90000 - 14 by omega) (show (q2.1 95).toInt = 0 ∨ (q2.1 96).toInt ≤ 24000 - 14 by omega)) (fun q6 hq6 => ?_)
    obtain ⟨k_q6, n_q6, zq6_0, zq6_1, -⟩ := hq6
    have r_q6 := fr_tr r_q2 n_q6 rfl rfl rfl
    have f_q6_0 : (0 : Int) ≤ (q6.1 0).toInt ∧ (q6.1 0).toInt ≤ 0 := by rw [n_q6.1 0 rfl]; exact f_q2_0
    have f_q6_85 : (1 : Int) ≤ (q6.1 85).toInt ∧ (q6.1 85).toInt ≤ 1 := by rw [n_q6.1 85 rfl]; exact f_q2_85
    have f_q6_38 : (1 : Int) ≤ (q6.1 38).toInt ∧ (q6.1 38).toInt ≤ 1 := by rw [n_q6.1 38 rfl]; exact f_q2_38
    have f_q6_78 : (1 : Int) ≤ (q6.1 78).toInt ∧ (q6.1 78).toInt ≤ 1 := by rw [n_q6.1 78 rfl]; exact f_q2_78
    have f_q6_95 : (1 : Int) ≤ (q6.1 95).toInt ∧ (q6.1 95).toInt ≤ 1 := by rw [n_q6.1 95 rfl]; exact f_q2_95
    have g_q6_76 : (0 : Int) ≤ (q6.1 76).toInt ∧ (q6.1 76).toInt ≤ 90000 := k_q6.1 76
    have e_q6_93 : (q6.1 93).toInt = (q2.1 93).toInt := congrArg Int32.toInt (n_q6.1 93 rfl)
    have g_q6_93 : (0 : Int) ≤ (q6.1 93).toInt ∧ (q6.1 93).toInt ≤ 420 := k_q6.1 93
    have e_q6_95 : (q6.1 95).toInt = (q2.1 95).toInt := congrArg Int32.toInt (n_q6.1 95 rfl)
    have g_q6_96 : (0 : Int) ≤ (q6.1 96).toInt ∧ (q6.1 96).toInt ≤ 24000 := k_q6.1 96
    have zq6_0 : (q6.1 76).toInt ≤ (q2.1 76).toInt + 14 := zq6_0
    have zq6_1 : (q6.1 96).toInt ≤ (q2.1 96).toInt + 14 := zq6_1
    have u7 : Mt (q6.2.1 87) := by rw [n_q6.2.1 87 rfl]; exact u3
    have u8 : Fp (q6.2.1 84) := by rw [n_q6.2.1 84 rfl]; exact u4
    have u9 : Io (q6.1 93).toInt (q6.2.1 94) (q6.2.1 87) (q6.2.1 84) := by rw [n_q6.1 93 rfl, n_q6.2.1 84 rfl, n_q6.2.1 87 rfl, n_q6.2.1 94 rfl]; exact u5
    exact H.2.1 _ _ k_q6 r_q6 (iv_w (a := 0) (b := 6) (by decide) (by decide) (show (0 : Int) ≤ (0 : Int32).toInt ∧ (0 : Int32).toInt ≤ 0 by decide)) f_q6_0 f_q6_38 f_q6_78 f_q6_85 f_q6_95 (show (q6.1 96).toInt ≤ 101 + 9 * 0 by omega) u7 u8 u9 (show 856 + (6 - 0) * 2 < (n : Int) by omega)
  · have wc1 : v1.toInt < (o0.1 39).toInt := c_nle c1
    have i10 : (0 : Int) ≤ v1.toInt ∧ v1.toInt ≤ 7 := nr_nlel c1 i_v1 (k_o0.1 39) (by decide) (by decide)
    have i11 : (1 : Int) ≤ (o0.1 39).toInt ∧ (o0.1 39).toInt ≤ 8 := nr_nler c1 i_v1 (k_o0.1 39) (by decide) (by decide)
    refine tt_b (sM_name_M41 _ _ k_o0 i10 f_o0_0 f_o0_38 i11 (show (o0.1 95).toInt = 1 ∨ (o0.1 76).toInt ≤ 90000 - 9 by omega) (show (o0.1 95).toInt = 0 ∨ (o0.1 96).toInt ≤ 24000 - 9 by omega)) (fun q12 hq12 => ?_)
    obtain ⟨k_q12, n_q12, zq12_0, zq12_1, -⟩ := hq12
    have r_q12 := fr_tr r_o0 n_q12 rfl rfl rfl
    have f_q12_0 : (0 : Int) ≤ (q12.1 0).toInt ∧ (q12.1 0).toInt ≤ 0 := by rw [n_q12.1 0 rfl]; exact f_o0_0
    have f_q12_85 : (1 : Int) ≤ (q12.1 85).toInt ∧ (q12.1 85).toInt ≤ 1 := by rw [n_q12.1 85 rfl]; exact f_o0_85
    have f_q12_38 : (1 : Int) ≤ (q12.1 38).toInt ∧ (q12.1 38).toInt ≤ 1 := by rw [n_q12.1 38 rfl]; exact f_o0_38
    have f_q12_39 : (1 : Int) ≤ (q12.1 39).toInt ∧ (q12.1 39).toInt ≤ 8 := by rw [n_q12.1 39 rfl]; exact i11
    have f_q12_78 : (1 : Int) ≤ (q12.1 78).toInt ∧ (q12.1 78).toInt ≤ 1 := by rw [n_q12.1 78 rfl]; exact f_o0_78
    have f_q12_95 : (1 : Int) ≤ (q12.1 95).toInt ∧ (q12.1 95).toInt ≤ 1 := by rw [n_q12.1 95 rfl]; exact f_o0_95
    have g_q12_76 : (0 : Int) ≤ (q12.1 76).toInt ∧ (q12.1 76).toInt ≤ 90000 := k_q12.1 76
    have e_q12_93 : (q12.1 93).toInt = (o0.1 93).toInt := congrArg Int32.toInt (n_q12.1 93 rfl)
    have g_q12_93 : (0 : Int) ≤ (q12.1 93).toInt ∧ (q12.1 93).toInt ≤ 420 := k_q12.1 93
    have e_q12_95 : (q12.1 95).toInt = (o0.1 95).toInt := congrArg Int32.toInt (n_q12.1 95 rfl)
    have g_q12_96 : (0 : Int) ≤ (q12.1 96).toInt ∧ (q12.1 96).toInt ≤ 24000 := k_q12.1 96
    have zq12_0 : (q12.1 76).toInt ≤ (o0.1 76).toInt + 9 := zq12_0
    have zq12_1 : (q12.1 96).toInt ≤ (o0.1 96).toInt + 9 := zq12_1
    have u13 : Mt (q12.2.1 87) := by rw [n_q12.2.1 87 rfl]; exact x_1
    have u14 : Fp (q12.2.1 84) := by rw [n_q12.2.1 84 rfl]; exact x_2
    have u15 : Io (q12.1 93).toInt (q12.2.1 94) (q12.2.1 87) (q12.2.1 84) := by rw [n_q12.1 93 rfl, n_q12.2.1 84 rfl, n_q12.2.1 87 rfl, n_q12.2.1 94 rfl]; exact x_3
    refine tt_kv (P := fun z => ((1 : Int) ≤ z.toInt ∧ z.toInt ≤ 8) ∧ z.toInt = v1.toInt + 1) ⟨iv_add i10 (show (1 : Int) ≤ (1 : Int32).toInt ∧ (1 : Int32).toInt ≤ 1 by decide) (by decide) (by decide) (by decide) (by decide), iq_add i10 (show (1 : Int) ≤ (1 : Int32).toInt ∧ (1 : Int32).toInt ≤ 1 by decide) (by decide) (by decide)⟩ (fun x16 qi17 => ?_)
    obtain ⟨i17, ei17⟩ := qi17
    exact H.1 _ _ k_q12 r_q12 (iv_w (a := 0) (b := 8) (by decide) (by decide) i17) f_q12_0 f_q12_38 f_q12_78 f_q12_85 f_q12_95 (show (q12.1 96).toInt ≤ 14 + 9 * x16.toInt by omega) u13 u14 u15 (show 870 + (8 - x16.toInt) * 2 < (n : Int) by omega)
set_option maxHeartbeats 4000000 in
set_option maxRecDepth 100000 in
theorem hM_writeMap (yo0 : cf_O) : ∀ n, HM_writeMap yo0 n := by
  intro n
  induction n with
  | zero => exact ⟨(fun v1 o0 k_o0 r_o0 i_v1 f_o0_0 f_o0_38 f_o0_78 f_o0_85 f_o0_95 x_0 x_1 x_2 x_3 hm => by exact absurd (show 870 + (8 - v1.toInt) * 2 < (0 : Int) from hm) (by omega)), (fun v1 o0 k_o0 r_o0 i_v1 f_o0_0 f_o0_38 f_o0_78 f_o0_85 f_o0_95 x_0 x_1 x_2 x_3 hm => by exact absurd (show 856 + (6 - v1.toInt) * 2 < (0 : Int) from hm) (by omega)), (fun v1 o0 k_o0 r_o0 i_v1 f_o0_0 f_o0_38 f_o0_78 f_o0_85 f_o0_95 x_0 x_1 x_2 x_3 hm => by exact absurd (show 14 + (420 - v1.toInt) * 2 < (0 : Int) from hm) (by omega)), (fun v1 o0 k_o0 r_o0 i_v1 f_o0_0 f_o0_38 f_o0_78 f_o0_85 f_o0_95 x_0 x_1 x_2 hm => by exact absurd (show 0 + (6 - v1.toInt) * 2 < (0 : Int) from hm) (by omega))⟩
  | succ n ih => exact ⟨(fun v1 o0 k_o0 r_o0 i_v1 f_o0_0 f_o0_38 f_o0_78 f_o0_85 f_o0_95 x_0 x_1 x_2 x_3 hm => tM_writeMap_12 ih v1 o0 k_o0 r_o0 i_v1 f_o0_0 f_o0_38 f_o0_78 f_o0_85 f_o0_95 x_0 x_1 x_2 x_3 (by omega)), (fun v1 o0 k_o0 r_o0 i_v1 f_o0_0 f_o0_38 f_o0_78 f_o0_85 f_o0_95 x_0 x_1 x_2 x_3 hm => tM_writeMap_49 ih v1 o0 k_o0 r_o0 i_v1 f_o0_0 f_o0_38 f_o0_78 f_o0_85 f_o0_95 x_0 x_1 x_2 x_3 (by omega)), (fun v1 o0 k_o0 r_o0 i_v1 f_o0_0 f_o0_38 f_o0_78 f_o0_85 f_o0_95 x_0 x_1 x_2 x_3 hm => tM_writeMap_81 ih v1 o0 k_o0 r_o0 i_v1 f_o0_0 f_o0_38 f_o0_78 f_o0_85 f_o0_95 x_0 x_1 x_2 x_3 (by omega)), (fun v1 o0 k_o0 r_o0 i_v1 f_o0_0 f_o0_38 f_o0_78 f_o0_85 f_o0_95 x_0 x_1 x_2 hm => tM_writeMap_107 ih v1 o0 k_o0 r_o0 i_v1 f_o0_0 f_o0_38 f_o0_78 f_o0_85 f_o0_95 x_0 x_1 x_2 (by omega))⟩
set_option maxHeartbeats 4000000 in
set_option maxRecDepth 100000 in
theorem sM_writeMap (o0 : cf_O) (k_o0 : okO I_M o0) (f_o0_0 : (0 : Int) ≤ (o0.1 0).toInt ∧ (o0.1 0).toInt ≤ 0) (f_o0_38 : (1 : Int) ≤ (o0.1 38).toInt ∧ (o0.1 38).toInt ≤ 1) (f_o0_78 : (1 : Int) ≤ (o0.1 78).toInt ∧ (o0.1 78).toInt ≤ 1) (f_o0_85 : (1 : Int) ≤ (o0.1 85).toInt ∧ (o0.1 85).toInt ≤ 1) (f_o0_95 : (1 : Int) ≤ (o0.1 95).toInt ∧ (o0.1 95).toInt ≤ 1) (x_0 : Mt (o0.2.1 87)) (x_1 : Fp (o0.2.1 84)) (x_2 : Io (o0.1 93).toInt (o0.2.1 94) (o0.2.1 87) (o0.2.1 84)) : tt (fM_writeMap o0) (QM_writeMap o0) := by
  have H := hM_writeMap o0 cfFU
  have hm : (889 : Int) ≤ (cfFU : Nat) := by decide
  have r_o0 : Fr (fr_M [76, 96] [77, 97] []) o0 o0 := fr_rfl
  unfold fM_writeMap fM_writeMap_0
  have g_o0_76 : (0 : Int) ≤ (o0.1 76).toInt ∧ (o0.1 76).toInt ≤ 90000 := k_o0.1 76
  have g_o0_93 : (0 : Int) ≤ (o0.1 93).toInt ∧ (o0.1 93).toInt ≤ 420 := k_o0.1 93
  have g_o0_96 : (0 : Int) ≤ (o0.1 96).toInt ∧ (o0.1 96).toInt ≤ 24000 := k_o0.1 96
  refine tt_ko ?_
  have k1 := ok_fp (k := 96) (v := 0) k_o0 (iv_w (a := 0) (b := 24000) (by decide) (by decide) (show (0 : Int) ≤ (0 : Int32).toInt ∧ (0 : Int32).toInt ≤ 0 by decide))
  have r2 := fr_fp (k := 96) (v := 0) r_o0 rfl
  refine tt_b (sM_word _ _ k1 (iv_w (a := 0) (b := 3) (by decide) (by decide) (show (0 : Int) ≤ (0 : Int32).toInt ∧ (0 : Int32).toInt ≤ 0 by decide)) f_o0_0 f_o0_38 (show (o0.1 95).toInt = 1 ∨ (o0.1 76).toInt ≤ 90000 - 14 by omega) (show (o0.1 95).toInt = 0 ∨ 0 ≤ 24000 - 14 by omega)) (fun q3 hq3 => ?_)
  obtain ⟨k_q3, n_q3, zq3_0, zq3_1, -⟩ := hq3
  have r_q3 := fr_tr r2 n_q3 rfl rfl rfl
  have f_q3_0 : (0 : Int) ≤ (q3.1 0).toInt ∧ (q3.1 0).toInt ≤ 0 := by rw [n_q3.1 0 rfl]; exact f_o0_0
  have f_q3_85 : (1 : Int) ≤ (q3.1 85).toInt ∧ (q3.1 85).toInt ≤ 1 := by rw [n_q3.1 85 rfl]; exact f_o0_85
  have f_q3_38 : (1 : Int) ≤ (q3.1 38).toInt ∧ (q3.1 38).toInt ≤ 1 := by rw [n_q3.1 38 rfl]; exact f_o0_38
  have f_q3_78 : (1 : Int) ≤ (q3.1 78).toInt ∧ (q3.1 78).toInt ≤ 1 := by rw [n_q3.1 78 rfl]; exact f_o0_78
  have f_q3_95 : (1 : Int) ≤ (q3.1 95).toInt ∧ (q3.1 95).toInt ≤ 1 := by rw [n_q3.1 95 rfl]; exact f_o0_95
  have g_q3_76 : (0 : Int) ≤ (q3.1 76).toInt ∧ (q3.1 76).toInt ≤ 90000 := k_q3.1 76
  have e_q3_93 : (q3.1 93).toInt = (o0.1 93).toInt := congrArg Int32.toInt (n_q3.1 93 rfl)
  have g_q3_93 : (0 : Int) ≤ (q3.1 93).toInt ∧ (q3.1 93).toInt ≤ 420 := k_q3.1 93
  have e_q3_95 : (q3.1 95).toInt = (o0.1 95).toInt := congrArg Int32.toInt (n_q3.1 95 rfl)
  have g_q3_96 : (0 : Int) ≤ (q3.1 96).toInt ∧ (q3.1 96).toInt ≤ 24000 := k_q3.1 96
  have zq3_0 : (q3.1 76).toInt ≤ (o0.1 76).toInt + 14 := zq3_0
  have zq3_1 : (q3.1 96).toInt ≤ 0 + 14 := zq3_1
  have u4 : Mt (q3.2.1 87) := by rw [n_q3.2.1 87 rfl]; exact x_0
  have u5 : Fp (q3.2.1 84) := by rw [n_q3.2.1 84 rfl]; exact x_1
  have u6 : Io (q3.1 93).toInt (q3.2.1 94) (q3.2.1 87) (q3.2.1 84) := by rw [n_q3.1 93 rfl, n_q3.2.1 84 rfl, n_q3.2.1 87 rfl, n_q3.2.1 94 rfl]; exact x_2
  exact H.1 _ _ k_q3 r_q3 (iv_w (a := 0) (b := 8) (by decide) (by decide) (show (0 : Int) ≤ (0 : Int32).toInt ∧ (0 : Int32).toInt ≤ 0 by decide)) f_q3_0 f_q3_38 f_q3_78 f_q3_85 f_q3_95 (show (q3.1 96).toInt ≤ 14 + 9 * 0 by omega) u4 u5 u6 (show 870 + (8 - 0) * 2 < ((cfFU : Nat) : Int) by omega)
def QM_map (o0 : cf_O) (r : (Int32 × cf_O)) : Prop := (((-1) : Int) ≤ r.1.toInt ∧ r.1.toInt ≤ 420) ∧ (okO I_M r.2) ∧ (Fr (fr_M [0, 36, 73, 76, 85, 93, 95, 96] [57, 58, 59, 60, 61, 62, 63, 67, 72, 74, 77, 86, 87, 88, 89, 90, 91, 92, 94, 97, 98] []) o0 r.2) ∧ ((0 : Int) ≤ (r.2.1 0).toInt ∧ (r.2.1 0).toInt ≤ 2) ∧ ((0 : Int) ≤ (r.2.1 95).toInt ∧ (r.2.1 95).toInt ≤ 0) ∧ (Mt (r.2.2.1 87)) ∧ (Mt (r.2.2.1 89)) ∧ (Mt (r.2.2.1 90)) ∧ (Ch (r.2.1 64) (r.2.1 73) (r.2.1 39) (r.2.1 43) (r.2.2.1 74)) ∧ (Lmd (r.2.1 64).toInt (r.2.1 65).toInt) ∧ (Cn (r.2.2.1 59) (r.2.2.1 58)) ∧ (Gx ((r.2.1 39).toInt + 1) (r.2.1 43).toInt (r.2.2.1 44) (r.2.2.1 45)) ∧ (No (r.2.1 40).toInt ((r.2.1 39).toInt + 1 + (r.2.1 43).toInt) (r.2.2.1 47)) ∧ (Hc (r.2.1 64).toInt ((r.2.1 39).toInt + 1) (r.2.1 43).toInt (r.2.1 65).toInt (r.2.2.1 44) (r.2.2.1 45)) ∧ True
def HM_map (yo0 : cf_O) (n : Nat) : Prop := (∀ (v2 : Int32) (o0 : cf_O), (okO I_M o0) → (Fr (fr_M [0, 36, 73, 76, 85, 93, 95, 96] [57, 58, 59, 60, 61, 62, 63, 67, 72, 74, 77, 86, 87, 88, 89, 90, 91, 92, 94, 97, 98] []) yo0 o0) → ((0 : Int) ≤ v2.toInt ∧ v2.toInt ≤ 420) → ((0 : Int) ≤ (o0.1 0).toInt ∧ (o0.1 0).toInt ≤ 0) → ((1 : Int) ≤ (o0.1 38).toInt ∧ (o0.1 38).toInt ≤ 1) → ((1 : Int) ≤ (o0.1 78).toInt ∧ (o0.1 78).toInt ≤ 1) → ((1 : Int) ≤ (o0.1 85).toInt ∧ (o0.1 85).toInt ≤ 1) → ((0 : Int) ≤ (o0.1 95).toInt ∧ (o0.1 95).toInt ≤ 0) → ((o0.1 93).toInt ≤ v2.toInt) → (Mt (o0.2.1 87)) → (Mt (o0.2.1 89)) → (Mt (o0.2.1 90)) → (Fp (o0.2.1 84)) → (Ch (o0.1 64) (o0.1 73) (o0.1 39) (o0.1 43) (o0.2.1 74)) → (Lmd (o0.1 64).toInt (o0.1 65).toInt) → (Cn (o0.2.1 59) (o0.2.1 58)) → (Iw (o0.2.1 92) (o0.2.1 87) (o0.2.1 84)) → (Io (o0.1 93).toInt (o0.2.1 94) (o0.2.1 87) (o0.2.1 84)) → (Gx ((o0.1 39).toInt + 1) (o0.1 43).toInt (o0.2.1 44) (o0.2.1 45)) → (No (o0.1 40).toInt ((o0.1 39).toInt + 1 + (o0.1 43).toInt) (o0.2.1 47)) → (Hc (o0.1 64).toInt ((o0.1 39).toInt + 1) (o0.1 43).toInt (o0.1 65).toInt (o0.2.1 44) (o0.2.1 45)) → 0 + (420 - v2.toInt) * 2 < (n : Int) → tt (gM_map n 0 v2 o0) (QM_map yo0))
set_option maxHeartbeats 4000000 in
set_option maxRecDepth 100000 in
theorem tM_map_86 {yo0 : cf_O} {n : Nat} (H : HM_map yo0 n) (v2 : Int32) (o0 : cf_O) (k_o0 : okO I_M o0) (r_o0 : Fr (fr_M [0, 36, 73, 76, 85, 93, 95, 96] [57, 58, 59, 60, 61, 62, 63, 67, 72, 74, 77, 86, 87, 88, 89, 90, 91, 92, 94, 97, 98] []) yo0 o0) (i_v2 : (0 : Int) ≤ v2.toInt ∧ v2.toInt ≤ 420) (f_o0_0 : (0 : Int) ≤ (o0.1 0).toInt ∧ (o0.1 0).toInt ≤ 0) (f_o0_38 : (1 : Int) ≤ (o0.1 38).toInt ∧ (o0.1 38).toInt ≤ 1) (f_o0_78 : (1 : Int) ≤ (o0.1 78).toInt ∧ (o0.1 78).toInt ≤ 1) (f_o0_85 : (1 : Int) ≤ (o0.1 85).toInt ∧ (o0.1 85).toInt ≤ 1) (f_o0_95 : (0 : Int) ≤ (o0.1 95).toInt ∧ (o0.1 95).toInt ≤ 0) (x_0 : (o0.1 93).toInt ≤ v2.toInt) (x_1 : Mt (o0.2.1 87)) (x_2 : Mt (o0.2.1 89)) (x_3 : Mt (o0.2.1 90)) (x_4 : Fp (o0.2.1 84)) (x_5 : Ch (o0.1 64) (o0.1 73) (o0.1 39) (o0.1 43) (o0.2.1 74)) (x_6 : Lmd (o0.1 64).toInt (o0.1 65).toInt) (x_7 : Cn (o0.2.1 59) (o0.2.1 58)) (x_8 : Iw (o0.2.1 92) (o0.2.1 87) (o0.2.1 84)) (x_9 : Io (o0.1 93).toInt (o0.2.1 94) (o0.2.1 87) (o0.2.1 84)) (x_10 : Gx ((o0.1 39).toInt + 1) (o0.1 43).toInt (o0.2.1 44) (o0.2.1 45)) (x_11 : No (o0.1 40).toInt ((o0.1 39).toInt + 1 + (o0.1 43).toInt) (o0.2.1 47)) (x_12 : Hc (o0.1 64).toInt ((o0.1 39).toInt + 1) (o0.1 43).toInt (o0.1 65).toInt (o0.2.1 44) (o0.2.1 45)) (hm : 0 + (420 - v2.toInt) * 2 ≤ (n : Int)) : tt (fM_map_86 (gM_map n) v2 o0) (QM_map yo0) := by
  unfold fM_map_86
  have g_o0_93 : (0 : Int) ≤ (o0.1 93).toInt ∧ (o0.1 93).toInt ≤ 420 := k_o0.1 93
  refine tt_if (fun c1 => ?_) (fun c1 => ?_)
  · have wc1 : (420 : Int) ≤ v2.toInt := c_le c1
    have i2 : (420 : Int) ≤ v2.toInt ∧ v2.toInt ≤ 420 := nr_ler c1 (show (420 : Int) ≤ (420 : Int32).toInt ∧ (420 : Int32).toInt ≤ 420 by decide) i_v2 (by decide) (by decide)
    refine tt_ko ?_
    have k3 := ok_fp (k := 95) (v := 1) k_o0 (iv_w (a := 0) (b := 1) (by decide) (by decide) (show (1 : Int) ≤ (1 : Int32).toInt ∧ (1 : Int32).toInt ≤ 1 by decide))
    have r4 := fr_fp (k := 95) (v := 1) r_o0 rfl
    refine tt_b (sM_writeMap _ k3 f_o0_0 f_o0_38 f_o0_78 f_o0_85 (show (1 : Int) ≤ (1 : Int32).toInt ∧ (1 : Int32).toInt ≤ 1 by decide) x_1 x_4 x_9) (fun q5 hq5 => ?_)
    obtain ⟨k_q5, n_q5, -⟩ := hq5
    have r_q5 := fr_tr r4 n_q5 rfl rfl rfl
    have f_q5_0 : (0 : Int) ≤ (q5.1 0).toInt ∧ (q5.1 0).toInt ≤ 0 := by rw [n_q5.1 0 rfl]; exact f_o0_0
    have f_q5_85 : (1 : Int) ≤ (q5.1 85).toInt ∧ (q5.1 85).toInt ≤ 1 := by rw [n_q5.1 85 rfl]; exact f_o0_85
    have f_q5_38 : (1 : Int) ≤ (q5.1 38).toInt ∧ (q5.1 38).toInt ≤ 1 := by rw [n_q5.1 38 rfl]; exact f_o0_38
    have f_q5_78 : (1 : Int) ≤ (q5.1 78).toInt ∧ (q5.1 78).toInt ≤ 1 := by rw [n_q5.1 78 rfl]; exact f_o0_78
    have f_q5_95 : (1 : Int) ≤ (q5.1 95).toInt ∧ (q5.1 95).toInt ≤ 1 := by rw [n_q5.1 95 rfl]; exact (show (1 : Int) ≤ (1 : Int32).toInt ∧ (1 : Int32).toInt ≤ 1 by decide)
    have e_q5_85 : (q5.1 85).toInt = (o0.1 85).toInt := congrArg Int32.toInt (n_q5.1 85 rfl)
    have e_q5_93 : (q5.1 93).toInt = (o0.1 93).toInt := congrArg Int32.toInt (n_q5.1 93 rfl)
    have g_q5_93 : (0 : Int) ≤ (q5.1 93).toInt ∧ (q5.1 93).toInt ≤ 420 := k_q5.1 93
    have u6 : Mt (q5.2.1 87) := by rw [n_q5.2.1 87 rfl]; exact x_1
    have u7 : Mt (q5.2.1 89) := by rw [n_q5.2.1 89 rfl]; exact x_2
    have u8 : Mt (q5.2.1 90) := by rw [n_q5.2.1 90 rfl]; exact x_3
    have u9 : Fp (q5.2.1 84) := by rw [n_q5.2.1 84 rfl]; exact x_4
    have u10 : Ch (q5.1 64) (q5.1 73) (q5.1 39) (q5.1 43) (q5.2.1 74) := by rw [n_q5.1 39 rfl, n_q5.1 43 rfl, n_q5.1 64 rfl, n_q5.1 73 rfl, n_q5.2.1 74 rfl]; exact x_5
    have u11 : Lmd (q5.1 64).toInt (q5.1 65).toInt := by rw [n_q5.1 64 rfl, n_q5.1 65 rfl]; exact x_6
    have u12 : Cn (q5.2.1 59) (q5.2.1 58) := by rw [n_q5.2.1 58 rfl, n_q5.2.1 59 rfl]; exact x_7
    have u13 : Iw (q5.2.1 92) (q5.2.1 87) (q5.2.1 84) := by rw [n_q5.2.1 84 rfl, n_q5.2.1 87 rfl, n_q5.2.1 92 rfl]; exact x_8
    have u14 : Io (q5.1 93).toInt (q5.2.1 94) (q5.2.1 87) (q5.2.1 84) := by rw [n_q5.1 93 rfl, n_q5.2.1 84 rfl, n_q5.2.1 87 rfl, n_q5.2.1 94 rfl]; exact x_9
    have u15 : Gx ((q5.1 39).toInt + 1) (q5.1 43).toInt (q5.2.1 44) (q5.2.1 45) := by rw [n_q5.1 39 rfl, n_q5.1 43 rfl, n_q5.2.1 44 rfl, n_q5.2.1 45 rfl]; exact x_10
    have u16 : No (q5.1 40).toInt ((q5.1 39).toInt + 1 + (q5.1 43).toInt) (q5.2.1 47) := by rw [n_q5.1 39 rfl, n_q5.1 40 rfl, n_q5.1 43 rfl, n_q5.2.1 47 rfl]; exact x_11
    have u17 : Hc (q5.1 64).toInt ((q5.1 39).toInt + 1) (q5.1 43).toInt (q5.1 65).toInt (q5.2.1 44) (q5.2.1 45) := by rw [n_q5.1 39 rfl, n_q5.1 43 rfl, n_q5.1 64 rfl, n_q5.1 65 rfl, n_q5.2.1 44 rfl, n_q5.2.1 45 rfl]; exact x_12
    refine tt_ko ?_
    have k18 := ok_fp (k := 95) (v := 0) k_q5 (iv_w (a := 0) (b := 1) (by decide) (by decide) (show (0 : Int) ≤ (0 : Int32).toInt ∧ (0 : Int32).toInt ≤ 0 by decide))
    have r19 := fr_fp (k := 95) (v := 0) r_q5 rfl
    exact tt_some ⟨(iv_w (a := (-1)) (b := 420) (by decide) (by decide) (k_q5.1 93)), k18, r19, (iv_w (a := 0) (b := 2) (by decide) (by decide) f_q5_0), (show (0 : Int) ≤ (0 : Int32).toInt ∧ (0 : Int32).toInt ≤ 0 by decide), u6, u7, u8, u10, u11, u12, u15, u16, u17, trivial⟩
  · have wc1 : v2.toInt < (420 : Int) := c_nle c1
    have i20 : (0 : Int) ≤ v2.toInt ∧ v2.toInt ≤ 419 := nr_nlel c1 i_v2 (show (420 : Int) ≤ (420 : Int32).toInt ∧ (420 : Int32).toInt ≤ 420 by decide) (by decide) (by decide)
    refine tt_n (ix_ok i20 (by decide) (by decide)) ?_
    refine tt_kv (P := fun z => ((0 : Int) ≤ z.toInt ∧ z.toInt ≤ 1) ∧ z.toInt = (o0.2.1 92 v2.toNatClampNeg).toInt) ⟨(k_o0.2 92 _), rfl⟩ (fun x21 qi22 => ?_)
    obtain ⟨i22, ei22⟩ := qi22
    refine tt_if (fun c23 => ?_) (fun c23 => ?_)
    · have wc23 : x21.toInt = (0 : Int) := c_eq c23
      have i24 : (0 : Int) ≤ x21.toInt ∧ x21.toInt ≤ 0 := nr_eql c23 i22 (show (0 : Int) ≤ (0 : Int32).toInt ∧ (0 : Int32).toInt ≤ 0 by decide) (by decide) (by decide)
      try unfold fM_map_122
      refine tt_kv (P := fun z => ((1 : Int) ≤ z.toInt ∧ z.toInt ≤ 420) ∧ z.toInt = v2.toInt + 1) ⟨iv_add i20 (show (1 : Int) ≤ (1 : Int32).toInt ∧ (1 : Int32).toInt ≤ 1 by decide) (by decide) (by decide) (by decide) (by decide), iq_add i20 (show (1 : Int) ≤ (1 : Int32).toInt ∧ (1 : Int32).toInt ≤ 1 by decide) (by decide) (by decide)⟩ (fun x25 qi26 => ?_)
      obtain ⟨i26, ei26⟩ := qi26
      exact H _ _ k_o0 r_o0 (iv_w (a := 0) (b := 420) (by decide) (by decide) i26) f_o0_0 f_o0_38 f_o0_78 f_o0_85 f_o0_95 (show (o0.1 93).toInt ≤ x25.toInt by omega) x_1 x_2 x_3 x_4 x_5 x_6 x_7 x_8 x_9 x_10 x_11 x_12 (show 0 + (420 - x25.toInt) * 2 < (n : Int) by omega)
    · have wc23 : ¬ x21.toInt = (0 : Int) := c_ne c23
      have i27 : (1 : Int) ≤ x21.toInt ∧ x21.toInt ≤ 1 := nr_nela c23 i22 (show (0 : Int) ≤ (0 : Int32).toInt ∧ (0 : Int32).toInt ≤ 0 by decide) (by decide) (by decide)
      refine tt_n (ix_rel (x := (o0.1 93)) (by omega) (by omega)) ?_
      have i28 : (0 : Int) ≤ (o0.1 93).toInt ∧ (o0.1 93).toInt ≤ 419 := (by omega)
      refine tt_ko ?_
      have k29 := ok_xp (k := 94) (i := (o0.1 93).toNatClampNeg) (v := v2) k_o0 i20
      have r30 := fr_xp (k := 94) (i := (o0.1 93).toNatClampNeg) (v := v2) r_o0 rfl
      refine tt_kv (P := fun z => ((1 : Int) ≤ z.toInt ∧ z.toInt ≤ 420) ∧ z.toInt = (o0.1 93).toInt + 1) ⟨iv_add i28 (show (1 : Int) ≤ (1 : Int32).toInt ∧ (1 : Int32).toInt ≤ 1 by decide) (by decide) (by decide) (by decide) (by decide), iq_add i28 (show (1 : Int) ≤ (1 : Int32).toInt ∧ (1 : Int32).toInt ≤ 1 by decide) (by decide) (by decide)⟩ (fun x31 qi32 => ?_)
      obtain ⟨i32, ei32⟩ := qi32
      refine tt_ko ?_
      have k33 := ok_fp (k := 93) (v := x31) k29 (iv_w (a := 0) (b := 420) (by decide) (by decide) i32)
      have r34 := fr_fp (k := 93) (v := x31) r30 rfl
      try unfold fM_map_122
      refine tt_kv (P := fun z => ((1 : Int) ≤ z.toInt ∧ z.toInt ≤ 420) ∧ z.toInt = v2.toInt + 1) ⟨iv_add i20 (show (1 : Int) ≤ (1 : Int32).toInt ∧ (1 : Int32).toInt ≤ 1 by decide) (by decide) (by decide) (by decide) (by decide), iq_add i20 (show (1 : Int) ≤ (1 : Int32).toInt ∧ (1 : Int32).toInt ≤ 1 by decide) (by decide) (by decide)⟩ (fun x35 qi36 => ?_)
      obtain ⟨i36, ei36⟩ := qi36
      have p37 : Io x31.toInt (upd (o0.2.1 94) ((o0.1 93).toNatClampNeg) v2) (o0.2.1 87) (o0.2.1 84) := by exact Io_s (by assumption) (by assumption) (by omega) (by rw [tn_n]; omega) (by assumption) (by omega) (by omega)
      exact H _ _ k33 r34 (iv_w (a := 0) (b := 420) (by decide) (by decide) i36) f_o0_0 f_o0_38 f_o0_78 f_o0_85 f_o0_95 (show x31.toInt ≤ x35.toInt by omega) x_1 x_2 x_3 x_4 x_5 x_6 x_7 x_8 p37 x_10 x_11 x_12 (show 0 + (420 - x35.toInt) * 2 < (n : Int) by omega)
set_option maxHeartbeats 4000000 in
set_option maxRecDepth 100000 in
theorem hM_map (yo0 : cf_O) : ∀ n, HM_map yo0 n := by
  intro n
  induction n with
  | zero => exact (fun v2 o0 k_o0 r_o0 i_v2 f_o0_0 f_o0_38 f_o0_78 f_o0_85 f_o0_95 x_0 x_1 x_2 x_3 x_4 x_5 x_6 x_7 x_8 x_9 x_10 x_11 x_12 hm => by exact absurd (show 0 + (420 - v2.toInt) * 2 < (0 : Int) from hm) (by omega))
  | succ n ih => exact (fun v2 o0 k_o0 r_o0 i_v2 f_o0_0 f_o0_38 f_o0_78 f_o0_85 f_o0_95 x_0 x_1 x_2 x_3 x_4 x_5 x_6 x_7 x_8 x_9 x_10 x_11 x_12 hm => tM_map_86 ih v2 o0 k_o0 r_o0 i_v2 f_o0_0 f_o0_38 f_o0_78 f_o0_85 f_o0_95 x_0 x_1 x_2 x_3 x_4 x_5 x_6 x_7 x_8 x_9 x_10 x_11 x_12 (by omega))
set_option maxHeartbeats 4000000 in
set_option maxRecDepth 100000 in
theorem sM_map (o0 : cf_O) (k_o0 : okO I_M o0) (f_o0_95 : (0 : Int) ≤ (o0.1 95).toInt ∧ (o0.1 95).toInt ≤ 0) (x_0 : Mt (o0.2.1 87)) (x_1 : Mt (o0.2.1 89)) (x_2 : Mt (o0.2.1 90)) (x_3 : Fp (o0.2.1 84)) (x_4 : Ch (o0.1 64) (o0.1 73) (o0.1 39) (o0.1 43) (o0.2.1 74)) (x_5 : Lmd (o0.1 64).toInt (o0.1 65).toInt) (x_6 : Cn (o0.2.1 59) (o0.2.1 58)) (x_7 : Gx ((o0.1 39).toInt + 1) (o0.1 43).toInt (o0.2.1 44) (o0.2.1 45)) (x_8 : No (o0.1 40).toInt ((o0.1 39).toInt + 1 + (o0.1 43).toInt) (o0.2.1 47)) (x_9 : Hc (o0.1 64).toInt ((o0.1 39).toInt + 1) (o0.1 43).toInt (o0.1 65).toInt (o0.2.1 44) (o0.2.1 45)) : tt (fM_map o0) (QM_map o0) := by
  have H := hM_map o0 cfFU
  have hm : (843 : Int) ≤ (cfFU : Nat) := by decide
  have r_o0 : Fr (fr_M [0, 36, 73, 76, 85, 93, 95, 96] [57, 58, 59, 60, 61, 62, 63, 67, 72, 74, 77, 86, 87, 88, 89, 90, 91, 92, 94, 97, 98] []) o0 o0 := fr_rfl
  unfold fM_map fM_map_0
  have g_o0_85 : (0 : Int) ≤ (o0.1 85).toInt ∧ (o0.1 85).toInt ≤ 1 := k_o0.1 85
  have g_o0_93 : (0 : Int) ≤ (o0.1 93).toInt ∧ (o0.1 93).toInt ≤ 420 := k_o0.1 93
  refine tt_if (fun c1 => ?_) (fun c1 => ?_)
  · have wc1 : (o0.1 38).toInt = (0 : Int) := c_eq c1
    have i2 : (0 : Int) ≤ (o0.1 38).toInt ∧ (o0.1 38).toInt ≤ 0 := nr_eql c1 (k_o0.1 38) (show (0 : Int) ≤ (0 : Int32).toInt ∧ (0 : Int32).toInt ≤ 0 by decide) (by decide) (by decide)
    try unfold fM_map_14
    try unfold fM_map_19
    try unfold fM_refuse
    try unfold fM_refuse_0
    refine tt_bif (fun c3 => ?_) (fun c3 => ?_)
    · have wc3 : (1 : Int) = (0 : Int) := c_eq c3
      exact (dd_eq c3 (show (1 : Int) ≤ (1 : Int32).toInt ∧ (1 : Int32).toInt ≤ 1 by decide) (show (0 : Int) ≤ (0 : Int32).toInt ∧ (0 : Int32).toInt ≤ 0 by decide) (by decide)).elim
    · have wc3 : ¬ (1 : Int) = (0 : Int) := c_ne c3
      try unfold fM_refuse_26
      refine tt_bko ?_
      have k4 := ok_fp (k := 0) (v := 1) k_o0 (iv_w (a := 0) (b := 3) (by decide) (by decide) (show (1 : Int) ≤ (1 : Int32).toInt ∧ (1 : Int32).toInt ≤ 1 by decide))
      have r5 := fr_fp (k := 0) (v := 1) r_o0 rfl
      refine tt_bif (fun c6 => ?_) (fun c6 => ?_)
      · have wc6 : (1 : Int) ≤ (0 : Int) := c_le c6
        exact (dd_le c6 (show (1 : Int) ≤ (1 : Int32).toInt ∧ (1 : Int32).toInt ≤ 1 by decide) (show (0 : Int) ≤ (0 : Int32).toInt ∧ (0 : Int32).toInt ≤ 0 by decide) (by decide)).elim
      · have wc6 : (0 : Int) < (1 : Int) := c_nle c6
        try unfold fM_refuse_41
        refine tt_bw (iv_b (show (1 : Int) ≤ (1 : Int32).toInt ∧ (1 : Int32).toInt ≤ 1 by decide) (by decide) (by decide)) ?_
        refine tt_bs ?_
        refine tt_if (fun c7 => ?_) (fun c7 => ?_)
        · have wc7 : (1 : Int) = (0 : Int) := c_eq c7
          exact (dd_eq c7 (show (1 : Int) ≤ (1 : Int32).toInt ∧ (1 : Int32).toInt ≤ 1 by decide) (show (0 : Int) ≤ (0 : Int32).toInt ∧ (0 : Int32).toInt ≤ 0 by decide) (by decide)).elim
        · have wc7 : ¬ (1 : Int) = (0 : Int) := c_ne c7
          exact tt_some ⟨(iv_w (a := (-1)) (b := 420) (by decide) (by decide) (show (0 : Int) ≤ (0 : Int32).toInt ∧ (0 : Int32).toInt ≤ 0 by decide)), k4, r5, (iv_w (a := 0) (b := 2) (by decide) (by decide) (show (1 : Int) ≤ (1 : Int32).toInt ∧ (1 : Int32).toInt ≤ 1 by decide)), f_o0_95, x_0, x_1, x_2, x_4, x_5, x_6, x_7, x_8, x_9, trivial⟩
  · have wc1 : ¬ (o0.1 38).toInt = (0 : Int) := c_ne c1
    have i8 : (1 : Int) ≤ (o0.1 38).toInt ∧ (o0.1 38).toInt ≤ 1 := nr_nela c1 (k_o0.1 38) (show (0 : Int) ≤ (0 : Int32).toInt ∧ (0 : Int32).toInt ≤ 0 by decide) (by decide) (by decide)
    refine tt_if (fun c9 => ?_) (fun c9 => ?_)
    · have wc9 : (o0.1 78).toInt = (0 : Int) := c_eq c9
      have i10 : (0 : Int) ≤ (o0.1 78).toInt ∧ (o0.1 78).toInt ≤ 0 := nr_eql c9 (k_o0.1 78) (show (0 : Int) ≤ (0 : Int32).toInt ∧ (0 : Int32).toInt ≤ 0 by decide) (by decide) (by decide)
      try unfold fM_map_14
      try unfold fM_map_19
      try unfold fM_refuse
      try unfold fM_refuse_0
      refine tt_bif (fun c11 => ?_) (fun c11 => ?_)
      · have wc11 : (1 : Int) = (0 : Int) := c_eq c11
        exact (dd_eq c11 (show (1 : Int) ≤ (1 : Int32).toInt ∧ (1 : Int32).toInt ≤ 1 by decide) (show (0 : Int) ≤ (0 : Int32).toInt ∧ (0 : Int32).toInt ≤ 0 by decide) (by decide)).elim
      · have wc11 : ¬ (1 : Int) = (0 : Int) := c_ne c11
        try unfold fM_refuse_26
        refine tt_bko ?_
        have k12 := ok_fp (k := 0) (v := 1) k_o0 (iv_w (a := 0) (b := 3) (by decide) (by decide) (show (1 : Int) ≤ (1 : Int32).toInt ∧ (1 : Int32).toInt ≤ 1 by decide))
        have r13 := fr_fp (k := 0) (v := 1) r_o0 rfl
        refine tt_bif (fun c14 => ?_) (fun c14 => ?_)
        · have wc14 : (1 : Int) ≤ (0 : Int) := c_le c14
          exact (dd_le c14 (show (1 : Int) ≤ (1 : Int32).toInt ∧ (1 : Int32).toInt ≤ 1 by decide) (show (0 : Int) ≤ (0 : Int32).toInt ∧ (0 : Int32).toInt ≤ 0 by decide) (by decide)).elim
        · have wc14 : (0 : Int) < (1 : Int) := c_nle c14
          try unfold fM_refuse_41
          refine tt_bw (iv_b (show (1 : Int) ≤ (1 : Int32).toInt ∧ (1 : Int32).toInt ≤ 1 by decide) (by decide) (by decide)) ?_
          refine tt_bs ?_
          refine tt_if (fun c15 => ?_) (fun c15 => ?_)
          · have wc15 : (1 : Int) = (0 : Int) := c_eq c15
            exact (dd_eq c15 (show (1 : Int) ≤ (1 : Int32).toInt ∧ (1 : Int32).toInt ≤ 1 by decide) (show (0 : Int) ≤ (0 : Int32).toInt ∧ (0 : Int32).toInt ≤ 0 by decide) (by decide)).elim
          · have wc15 : ¬ (1 : Int) = (0 : Int) := c_ne c15
            exact tt_some ⟨(iv_w (a := (-1)) (b := 420) (by decide) (by decide) (show (0 : Int) ≤ (0 : Int32).toInt ∧ (0 : Int32).toInt ≤ 0 by decide)), k12, r13, (iv_w (a := 0) (b := 2) (by decide) (by decide) (show (1 : Int) ≤ (1 : Int32).toInt ∧ (1 : Int32).toInt ≤ 1 by decide)), f_o0_95, x_0, x_1, x_2, x_4, x_5, x_6, x_7, x_8, x_9, trivial⟩
    · have wc9 : ¬ (o0.1 78).toInt = (0 : Int) := c_ne c9
      have i16 : (1 : Int) ≤ (o0.1 78).toInt ∧ (o0.1 78).toInt ≤ 1 := nr_nela c9 (k_o0.1 78) (show (0 : Int) ≤ (0 : Int32).toInt ∧ (0 : Int32).toInt ≤ 0 by decide) (by decide) (by decide)
      try unfold fM_map_19
      try unfold fM_refuse
      try unfold fM_refuse_0
      refine tt_bif (fun c17 => ?_) (fun c17 => ?_)
      · have wc17 : (0 : Int) = (0 : Int) := c_eq c17
        refine tt_bif (fun c18 => ?_) (fun c18 => ?_)
        · have wc18 : (0 : Int) = (0 : Int) := c_eq c18
          refine tt_bif (fun c19 => ?_) (fun c19 => ?_)
          · have wc19 : (0 : Int) = (0 : Int) := c_eq c19
            try unfold fM_refuse_26
            refine tt_bko ?_
            have k20 := ok_fp (k := 0) (v := 0) k_o0 (iv_w (a := 0) (b := 3) (by decide) (by decide) (show (0 : Int) ≤ (0 : Int32).toInt ∧ (0 : Int32).toInt ≤ 0 by decide))
            have r21 := fr_fp (k := 0) (v := 0) r_o0 rfl
            refine tt_bif (fun c22 => ?_) (fun c22 => ?_)
            · have wc22 : (0 : Int) ≤ (0 : Int) := c_le c22
              try unfold fM_refuse_41
              refine tt_bw (iv_b (show (0 : Int) ≤ (0 : Int32).toInt ∧ (0 : Int32).toInt ≤ 0 by decide) (by decide) (by decide)) ?_
              refine tt_bs ?_
              refine tt_if (fun c23 => ?_) (fun c23 => ?_)
              · have wc23 : (0 : Int) = (0 : Int) := c_eq c23
                refine tt_b (sM_cutAll _ _ k20 (iv_w (a := 0) (b := 5) (by decide) (by decide) (show (3 : Int) ≤ (3 : Int32).toInt ∧ (3 : Int32).toInt ≤ 3 by decide)) (iv_w (a := 0) (b := 2) (by decide) (by decide) (show (0 : Int) ≤ (0 : Int32).toInt ∧ (0 : Int32).toInt ≤ 0 by decide)) i8 f_o0_95 x_6 (show 1 ≤ 3 by omega) x_7 (show 2 ≤ 3 by omega)) (fun q24 hq24 => ?_)
                obtain ⟨i_q24, k_q24_2, n_q24_2, zq24_0, zq24_1, zq24_2, zq24_3, zq24_4, -⟩ := hq24
                have r_q24_2 := fr_tr r21 n_q24_2 rfl rfl rfl
                have f_q24_2_0 : (0 : Int) ≤ (q24.2.1 0).toInt ∧ (q24.2.1 0).toInt ≤ 0 := by rw [n_q24_2.1 0 rfl]; exact (show (0 : Int) ≤ (0 : Int32).toInt ∧ (0 : Int32).toInt ≤ 0 by decide)
                have f_q24_2_38 : (1 : Int) ≤ (q24.2.1 38).toInt ∧ (q24.2.1 38).toInt ≤ 1 := by rw [n_q24_2.1 38 rfl]; exact i8
                have f_q24_2_78 : (1 : Int) ≤ (q24.2.1 78).toInt ∧ (q24.2.1 78).toInt ≤ 1 := by rw [n_q24_2.1 78 rfl]; exact i16
                have f_q24_2_95 : (0 : Int) ≤ (q24.2.1 95).toInt ∧ (q24.2.1 95).toInt ≤ 0 := by rw [n_q24_2.1 95 rfl]; exact f_o0_95
                have e_q24_2_85 : (q24.2.1 85).toInt = (o0.1 85).toInt := congrArg Int32.toInt (n_q24_2.1 85 rfl)
                have g_q24_2_85 : (0 : Int) ≤ (q24.2.1 85).toInt ∧ (q24.2.1 85).toInt ≤ 1 := k_q24_2.1 85
                have e_q24_2_93 : (q24.2.1 93).toInt = (o0.1 93).toInt := congrArg Int32.toInt (n_q24_2.1 93 rfl)
                have g_q24_2_93 : (0 : Int) ≤ (q24.2.1 93).toInt ∧ (q24.2.1 93).toInt ≤ 420 := k_q24_2.1 93
                have zq24_0 : Cn (q24.2.2.1 59) (q24.2.2.1 58) := zq24_0
                have zq24_1 : Bc q24.1.toInt ((q24.2.1 39).toInt + 1) (q24.2.1 43).toInt 3 (q24.2.2.1 63) (q24.2.2.1 59) := zq24_1
                have zq24_2 : Hs q24.1.toInt ((q24.2.1 39).toInt + 1) (q24.2.1 43).toInt 3 (q24.2.2.1 44) (q24.2.2.1 45) := zq24_2
                have zq24_3 : Fz q24.1.toInt ((q24.2.1 39).toInt + 1) (q24.2.1 43).toInt (q24.2.2.1 44) (q24.2.2.1 45) (q24.2.2.1 57) (q24.2.2.1 59) (q24.2.2.1 58) (q24.2.2.1 62) := zq24_3
                have zq24_4 : Be q24.1.toInt ((q24.2.1 39).toInt + 1) (q24.2.1 43).toInt (q24.2.2.1 57) (q24.2.2.1 63) := zq24_4
                have u25 : Mt (q24.2.2.1 87) := by rw [n_q24_2.2.1 87 rfl]; exact x_0
                have u26 : Mt (q24.2.2.1 89) := by rw [n_q24_2.2.1 89 rfl]; exact x_1
                have u27 : Mt (q24.2.2.1 90) := by rw [n_q24_2.2.1 90 rfl]; exact x_2
                have u28 : Fp (q24.2.2.1 84) := by rw [n_q24_2.2.1 84 rfl]; exact x_3
                have u29 : Ch (q24.2.1 64) (q24.2.1 73) (q24.2.1 39) (q24.2.1 43) (q24.2.2.1 74) := by rw [n_q24_2.1 39 rfl, n_q24_2.1 43 rfl, n_q24_2.1 64 rfl, n_q24_2.1 73 rfl, n_q24_2.2.1 74 rfl]; exact x_4
                have u30 : Lmd (q24.2.1 64).toInt (q24.2.1 65).toInt := by rw [n_q24_2.1 64 rfl, n_q24_2.1 65 rfl]; exact x_5
                have u31 : Gx ((q24.2.1 39).toInt + 1) (q24.2.1 43).toInt (q24.2.2.1 44) (q24.2.2.1 45) := by rw [n_q24_2.1 39 rfl, n_q24_2.1 43 rfl, n_q24_2.2.1 44 rfl, n_q24_2.2.1 45 rfl]; exact x_7
                have u32 : No (q24.2.1 40).toInt ((q24.2.1 39).toInt + 1 + (q24.2.1 43).toInt) (q24.2.2.1 47) := by rw [n_q24_2.1 39 rfl, n_q24_2.1 40 rfl, n_q24_2.1 43 rfl, n_q24_2.2.1 47 rfl]; exact x_8
                have u33 : Hc (q24.2.1 64).toInt ((q24.2.1 39).toInt + 1) (q24.2.1 43).toInt (q24.2.1 65).toInt (q24.2.2.1 44) (q24.2.2.1 45) := by rw [n_q24_2.1 39 rfl, n_q24_2.1 43 rfl, n_q24_2.1 64 rfl, n_q24_2.1 65 rfl, n_q24_2.2.1 44 rfl, n_q24_2.2.1 45 rfl]; exact x_9
                refine tt_if (fun c34 => ?_) (fun c34 => ?_)
                · have wc34 : q24.1.toInt = (0 : Int) := c_eq c34
                  have i35 : (0 : Int) ≤ q24.1.toInt ∧ q24.1.toInt ≤ 0 := nr_eql c34 i_q24 (show (0 : Int) ≤ (0 : Int32).toInt ∧ (0 : Int32).toInt ≤ 0 by decide) (by decide) (by decide)
                  refine tt_b (sM_again _ k_q24_2 (iv_w (a := 0) (b := 2) (by decide) (by decide) f_q24_2_0) f_q24_2_38 f_q24_2_95 u29 u30 zq24_0 u31 u32 u33) (fun q36 hq36 => ?_)
                  obtain ⟨k_q36, n_q36, zq36_0, zq36_1, zq36_2, zq36_3, zq36_4, zq36_5, -⟩ := hq36
                  have r_q36 := fr_tr r_q24_2 n_q36 rfl rfl rfl
                  have f_q36_0 : (0 : Int) ≤ (q36.1 0).toInt ∧ (q36.1 0).toInt ≤ 0 := by rw [n_q36.1 0 rfl]; exact f_q24_2_0
                  have f_q36_78 : (1 : Int) ≤ (q36.1 78).toInt ∧ (q36.1 78).toInt ≤ 1 := by rw [n_q36.1 78 rfl]; exact f_q24_2_78
                  have f_q36_38 : (1 : Int) ≤ (q36.1 38).toInt ∧ (q36.1 38).toInt ≤ 1 := by rw [n_q36.1 38 rfl]; exact f_q24_2_38
                  have f_q36_95 : (0 : Int) ≤ (q36.1 95).toInt ∧ (q36.1 95).toInt ≤ 0 := by rw [n_q36.1 95 rfl]; exact f_q24_2_95
                  have e_q36_85 : (q36.1 85).toInt = (q24.2.1 85).toInt := congrArg Int32.toInt (n_q36.1 85 rfl)
                  have g_q36_85 : (0 : Int) ≤ (q36.1 85).toInt ∧ (q36.1 85).toInt ≤ 1 := k_q36.1 85
                  have e_q36_93 : (q36.1 93).toInt = (q24.2.1 93).toInt := congrArg Int32.toInt (n_q36.1 93 rfl)
                  have g_q36_93 : (0 : Int) ≤ (q36.1 93).toInt ∧ (q36.1 93).toInt ≤ 420 := k_q36.1 93
                  have u37 : Hs q24.1.toInt ((q36.1 39).toInt + 1) (q36.1 43).toInt 3 (q36.2.1 44) (q36.2.1 45) := by rw [n_q36.1 39 rfl, n_q36.1 43 rfl, n_q36.2.1 44 rfl, n_q36.2.1 45 rfl]; exact zq24_2
                  have u38 : Mt (q36.2.1 87) := by rw [n_q36.2.1 87 rfl]; exact u25
                  have u39 : Mt (q36.2.1 89) := by rw [n_q36.2.1 89 rfl]; exact u26
                  have u40 : Mt (q36.2.1 90) := by rw [n_q36.2.1 90 rfl]; exact u27
                  have u41 : Fp (q36.2.1 84) := by rw [n_q36.2.1 84 rfl]; exact u28
                  try unfold fM_refuse
                  try unfold fM_refuse_0
                  refine tt_bif (fun c46 => ?_) (fun c46 => ?_)
                  · have wc46 : (0 : Int) = (0 : Int) := c_eq c46
                    refine tt_bif (fun c47 => ?_) (fun c47 => ?_)
                    · have wc47 : (1 : Int) = (0 : Int) := c_eq c47
                      exact (dd_eq c47 (show (1 : Int) ≤ (1 : Int32).toInt ∧ (1 : Int32).toInt ≤ 1 by decide) (show (0 : Int) ≤ (0 : Int32).toInt ∧ (0 : Int32).toInt ≤ 0 by decide) (by decide)).elim
                    · have wc47 : ¬ (1 : Int) = (0 : Int) := c_ne c47
                      try unfold fM_refuse_26
                      refine tt_bko ?_
                      have k48 := ok_fp (k := 0) (v := 2) k_q36 (iv_w (a := 0) (b := 3) (by decide) (by decide) (show (2 : Int) ≤ (2 : Int32).toInt ∧ (2 : Int32).toInt ≤ 2 by decide))
                      have r49 := fr_fp (k := 0) (v := 2) r_q36 rfl
                      refine tt_bif (fun c50 => ?_) (fun c50 => ?_)
                      · have wc50 : (2 : Int) ≤ (0 : Int) := c_le c50
                        exact (dd_le c50 (show (2 : Int) ≤ (2 : Int32).toInt ∧ (2 : Int32).toInt ≤ 2 by decide) (show (0 : Int) ≤ (0 : Int32).toInt ∧ (0 : Int32).toInt ≤ 0 by decide) (by decide)).elim
                      · have wc50 : (0 : Int) < (2 : Int) := c_nle c50
                        try unfold fM_refuse_41
                        refine tt_bw (iv_b (show (1 : Int) ≤ (1 : Int32).toInt ∧ (1 : Int32).toInt ≤ 1 by decide) (by decide) (by decide)) ?_
                        refine tt_bs ?_
                        exact tt_some ⟨(iv_w (a := (-1)) (b := 420) (by decide) (by decide) (show (0 : Int) ≤ (0 : Int32).toInt ∧ (0 : Int32).toInt ≤ 0 by decide)), k48, r49, (iv_w (a := 0) (b := 2) (by decide) (by decide) (show (2 : Int) ≤ (2 : Int32).toInt ∧ (2 : Int32).toInt ≤ 2 by decide)), f_q36_95, u38, u39, u40, zq36_0, zq36_1, zq36_2, zq36_3, zq36_4, zq36_5, trivial⟩
                  · have wc46 : ¬ (0 : Int) = (0 : Int) := c_ne c46
                    exact (dd_ne c46 (show (0 : Int) ≤ (0 : Int32).toInt ∧ (0 : Int32).toInt ≤ 0 by decide) (show (0 : Int) ≤ (0 : Int32).toInt ∧ (0 : Int32).toInt ≤ 0 by decide)).elim
                · have wc34 : ¬ q24.1.toInt = (0 : Int) := c_ne c34
                  have i51 : (1 : Int) ≤ q24.1.toInt ∧ q24.1.toInt ≤ 1 := nr_nela c34 i_q24 (show (0 : Int) ≤ (0 : Int32).toInt ∧ (0 : Int32).toInt ≤ 0 by decide) (by decide) (by decide)
                  refine tt_b (sM_makeAll _ k_q24_2 f_q24_2_0 (k_q24_2.1 36) f_q24_2_38 f_q24_2_78 f_q24_2_95 u25 u26 u27 u28 zq24_0) (fun q52 hq52 => ?_)
                  obtain ⟨k_q52, n_q52, zq52_0, zq52_1, zq52_2, zq52_3, zq52_4, -⟩ := hq52
                  have r_q52 := fr_tr r_q24_2 n_q52 rfl rfl rfl
                  have f_q52_0 : (0 : Int) ≤ (q52.1 0).toInt ∧ (q52.1 0).toInt ≤ 0 := by rw [n_q52.1 0 rfl]; exact f_q24_2_0
                  have f_q52_78 : (1 : Int) ≤ (q52.1 78).toInt ∧ (q52.1 78).toInt ≤ 1 := by rw [n_q52.1 78 rfl]; exact f_q24_2_78
                  have f_q52_38 : (1 : Int) ≤ (q52.1 38).toInt ∧ (q52.1 38).toInt ≤ 1 := by rw [n_q52.1 38 rfl]; exact f_q24_2_38
                  have f_q52_95 : (0 : Int) ≤ (q52.1 95).toInt ∧ (q52.1 95).toInt ≤ 0 := by rw [n_q52.1 95 rfl]; exact f_q24_2_95
                  have e_q52_85 : (q52.1 85).toInt = (q24.2.1 85).toInt := congrArg Int32.toInt (n_q52.1 85 rfl)
                  have g_q52_85 : (0 : Int) ≤ (q52.1 85).toInt ∧ (q52.1 85).toInt ≤ 1 := k_q52.1 85
                  have e_q52_93 : (q52.1 93).toInt = (q24.2.1 93).toInt := congrArg Int32.toInt (n_q52.1 93 rfl)
                  have g_q52_93 : (0 : Int) ≤ (q52.1 93).toInt ∧ (q52.1 93).toInt ≤ 420 := k_q52.1 93
                  have u53 : Cn (q52.2.1 59) (q52.2.1 58) := by rw [n_q52.2.1 58 rfl, n_q52.2.1 59 rfl]; exact zq24_0
                  have u54 : Bc q24.1.toInt ((q52.1 39).toInt + 1) (q52.1 43).toInt 3 (q52.2.1 63) (q52.2.1 59) := by rw [n_q52.1 39 rfl, n_q52.1 43 rfl, n_q52.2.1 59 rfl, n_q52.2.1 63 rfl]; exact zq24_1
                  have u55 : Hs q24.1.toInt ((q52.1 39).toInt + 1) (q52.1 43).toInt 3 (q52.2.1 44) (q52.2.1 45) := by rw [n_q52.1 39 rfl, n_q52.1 43 rfl, n_q52.2.1 44 rfl, n_q52.2.1 45 rfl]; exact zq24_2
                  have u56 : Fz q24.1.toInt ((q52.1 39).toInt + 1) (q52.1 43).toInt (q52.2.1 44) (q52.2.1 45) (q52.2.1 57) (q52.2.1 59) (q52.2.1 58) (q52.2.1 62) := by rw [n_q52.1 39 rfl, n_q52.1 43 rfl, n_q52.2.1 44 rfl, n_q52.2.1 45 rfl, n_q52.2.1 57 rfl, n_q52.2.1 58 rfl, n_q52.2.1 59 rfl, n_q52.2.1 62 rfl]; exact zq24_3
                  have u57 : Be q24.1.toInt ((q52.1 39).toInt + 1) (q52.1 43).toInt (q52.2.1 57) (q52.2.1 63) := by rw [n_q52.1 39 rfl, n_q52.1 43 rfl, n_q52.2.1 57 rfl, n_q52.2.1 63 rfl]; exact zq24_4
                  have u58 : Fp (q52.2.1 84) := by rw [n_q52.2.1 84 rfl]; exact u28
                  have u59 : Ch (q52.1 64) (q52.1 73) (q52.1 39) (q52.1 43) (q52.2.1 74) := by rw [n_q52.1 39 rfl, n_q52.1 43 rfl, n_q52.1 64 rfl, n_q52.1 73 rfl, n_q52.2.1 74 rfl]; exact u29
                  have u60 : Lmd (q52.1 64).toInt (q52.1 65).toInt := by rw [n_q52.1 64 rfl, n_q52.1 65 rfl]; exact u30
                  have u61 : Gx ((q52.1 39).toInt + 1) (q52.1 43).toInt (q52.2.1 44) (q52.2.1 45) := by rw [n_q52.1 39 rfl, n_q52.1 43 rfl, n_q52.2.1 44 rfl, n_q52.2.1 45 rfl]; exact u31
                  have u62 : No (q52.1 40).toInt ((q52.1 39).toInt + 1 + (q52.1 43).toInt) (q52.2.1 47) := by rw [n_q52.1 39 rfl, n_q52.1 40 rfl, n_q52.1 43 rfl, n_q52.2.1 47 rfl]; exact u32
                  have u63 : Hc (q52.1 64).toInt ((q52.1 39).toInt + 1) (q52.1 43).toInt (q52.1 65).toInt (q52.2.1 44) (q52.2.1 45) := by rw [n_q52.1 39 rfl, n_q52.1 43 rfl, n_q52.1 64 rfl, n_q52.1 65 rfl, n_q52.2.1 44 rfl, n_q52.2.1 45 rfl]; exact u33
                  refine tt_b (sM_markAll _ k_q52 f_q52_0 (k_q52.1 36) f_q52_38 f_q52_78 f_q52_95 zq52_0 zq52_3 zq52_4) (fun q64 hq64 => ?_)
                  obtain ⟨i_q64, k_q64_2, n_q64_2, zq64_0, -⟩ := hq64
                  have r_q64_2 := fr_tr r_q52 n_q64_2 rfl rfl rfl
                  have f_q64_2_0 : (0 : Int) ≤ (q64.2.1 0).toInt ∧ (q64.2.1 0).toInt ≤ 0 := by rw [n_q64_2.1 0 rfl]; exact f_q52_0
                  have f_q64_2_38 : (1 : Int) ≤ (q64.2.1 38).toInt ∧ (q64.2.1 38).toInt ≤ 1 := by rw [n_q64_2.1 38 rfl]; exact f_q52_38
                  have f_q64_2_78 : (1 : Int) ≤ (q64.2.1 78).toInt ∧ (q64.2.1 78).toInt ≤ 1 := by rw [n_q64_2.1 78 rfl]; exact f_q52_78
                  have f_q64_2_95 : (0 : Int) ≤ (q64.2.1 95).toInt ∧ (q64.2.1 95).toInt ≤ 0 := by rw [n_q64_2.1 95 rfl]; exact f_q52_95
                  have e_q64_2_85 : (q64.2.1 85).toInt = (q52.1 85).toInt := congrArg Int32.toInt (n_q64_2.1 85 rfl)
                  have g_q64_2_85 : (0 : Int) ≤ (q64.2.1 85).toInt ∧ (q64.2.1 85).toInt ≤ 1 := k_q64_2.1 85
                  have e_q64_2_93 : (q64.2.1 93).toInt = (q52.1 93).toInt := congrArg Int32.toInt (n_q64_2.1 93 rfl)
                  have g_q64_2_93 : (0 : Int) ≤ (q64.2.1 93).toInt ∧ (q64.2.1 93).toInt ≤ 420 := k_q64_2.1 93
                  have u65 : Mt (q64.2.2.1 87) := by rw [n_q64_2.2.1 87 rfl]; exact zq52_0
                  have u66 : Mt (q64.2.2.1 89) := by rw [n_q64_2.2.1 89 rfl]; exact zq52_1
                  have u67 : Mt (q64.2.2.1 90) := by rw [n_q64_2.2.1 90 rfl]; exact zq52_2
                  have u68 : Md (q64.2.1 39).toInt (q64.2.2.1 84) (q64.2.2.1 86) (q64.2.2.1 87) (q64.2.2.1 88) := by rw [n_q64_2.1 39 rfl, n_q64_2.2.1 84 rfl, n_q64_2.2.1 86 rfl, n_q64_2.2.1 87 rfl, n_q64_2.2.1 88 rfl]; exact zq52_3
                  have u69 : Hl 0 0 (q64.2.2.1 88) (q64.2.2.1 86) := by rw [n_q64_2.2.1 86 rfl, n_q64_2.2.1 88 rfl]; exact zq52_4
                  have u70 : Cn (q64.2.2.1 59) (q64.2.2.1 58) := by rw [n_q64_2.2.1 58 rfl, n_q64_2.2.1 59 rfl]; exact u53
                  have u71 : Bc q24.1.toInt ((q64.2.1 39).toInt + 1) (q64.2.1 43).toInt 3 (q64.2.2.1 63) (q64.2.2.1 59) := by rw [n_q64_2.1 39 rfl, n_q64_2.1 43 rfl, n_q64_2.2.1 59 rfl, n_q64_2.2.1 63 rfl]; exact u54
                  have u72 : Hs q24.1.toInt ((q64.2.1 39).toInt + 1) (q64.2.1 43).toInt 3 (q64.2.2.1 44) (q64.2.2.1 45) := by rw [n_q64_2.1 39 rfl, n_q64_2.1 43 rfl, n_q64_2.2.1 44 rfl, n_q64_2.2.1 45 rfl]; exact u55
                  have u73 : Fz q24.1.toInt ((q64.2.1 39).toInt + 1) (q64.2.1 43).toInt (q64.2.2.1 44) (q64.2.2.1 45) (q64.2.2.1 57) (q64.2.2.1 59) (q64.2.2.1 58) (q64.2.2.1 62) := by rw [n_q64_2.1 39 rfl, n_q64_2.1 43 rfl, n_q64_2.2.1 44 rfl, n_q64_2.2.1 45 rfl, n_q64_2.2.1 57 rfl, n_q64_2.2.1 58 rfl, n_q64_2.2.1 59 rfl, n_q64_2.2.1 62 rfl]; exact u56
                  have u74 : Be q24.1.toInt ((q64.2.1 39).toInt + 1) (q64.2.1 43).toInt (q64.2.2.1 57) (q64.2.2.1 63) := by rw [n_q64_2.1 39 rfl, n_q64_2.1 43 rfl, n_q64_2.2.1 57 rfl, n_q64_2.2.1 63 rfl]; exact u57
                  have u75 : Fp (q64.2.2.1 84) := by rw [n_q64_2.2.1 84 rfl]; exact u58
                  have u76 : Ch (q64.2.1 64) (q64.2.1 73) (q64.2.1 39) (q64.2.1 43) (q64.2.2.1 74) := by rw [n_q64_2.1 39 rfl, n_q64_2.1 43 rfl, n_q64_2.1 64 rfl, n_q64_2.1 73 rfl, n_q64_2.2.1 74 rfl]; exact u59
                  have u77 : Lmd (q64.2.1 64).toInt (q64.2.1 65).toInt := by rw [n_q64_2.1 64 rfl, n_q64_2.1 65 rfl]; exact u60
                  have u78 : Gx ((q64.2.1 39).toInt + 1) (q64.2.1 43).toInt (q64.2.2.1 44) (q64.2.2.1 45) := by rw [n_q64_2.1 39 rfl, n_q64_2.1 43 rfl, n_q64_2.2.1 44 rfl, n_q64_2.2.1 45 rfl]; exact u61
                  have u79 : No (q64.2.1 40).toInt ((q64.2.1 39).toInt + 1 + (q64.2.1 43).toInt) (q64.2.2.1 47) := by rw [n_q64_2.1 39 rfl, n_q64_2.1 40 rfl, n_q64_2.1 43 rfl, n_q64_2.2.1 47 rfl]; exact u62
                  have u80 : Hc (q64.2.1 64).toInt ((q64.2.1 39).toInt + 1) (q64.2.1 43).toInt (q64.2.1 65).toInt (q64.2.2.1 44) (q64.2.2.1 45) := by rw [n_q64_2.1 39 rfl, n_q64_2.1 43 rfl, n_q64_2.1 64 rfl, n_q64_2.1 65 rfl, n_q64_2.2.1 44 rfl, n_q64_2.2.1 45 rfl]; exact u63
                  refine tt_w (iv_b i_q64 (by decide) (by decide)) ?_
                  refine tt_ko ?_
                  have k81 := ok_fp (k := 85) (v := q64.1) k_q64_2 i_q64
                  have r82 := fr_fp (k := 85) (v := q64.1) r_q64_2 rfl
                  refine tt_b (sM_again _ k81 (iv_w (a := 0) (b := 2) (by decide) (by decide) f_q64_2_0) f_q64_2_38 f_q64_2_95 u76 u77 u70 u78 u79 u80) (fun q83 hq83 => ?_)
                  obtain ⟨k_q83, n_q83, zq83_0, zq83_1, zq83_2, zq83_3, zq83_4, zq83_5, -⟩ := hq83
                  have r_q83 := fr_tr r82 n_q83 rfl rfl rfl
                  have f_q83_0 : (0 : Int) ≤ (q83.1 0).toInt ∧ (q83.1 0).toInt ≤ 0 := by rw [n_q83.1 0 rfl]; exact f_q64_2_0
                  have f_q83_85 : (0 : Int) ≤ (q83.1 85).toInt ∧ (q83.1 85).toInt ≤ 1 := by rw [n_q83.1 85 rfl]; exact i_q64
                  have f_q83_38 : (1 : Int) ≤ (q83.1 38).toInt ∧ (q83.1 38).toInt ≤ 1 := by rw [n_q83.1 38 rfl]; exact f_q64_2_38
                  have f_q83_78 : (1 : Int) ≤ (q83.1 78).toInt ∧ (q83.1 78).toInt ≤ 1 := by rw [n_q83.1 78 rfl]; exact f_q64_2_78
                  have f_q83_95 : (0 : Int) ≤ (q83.1 95).toInt ∧ (q83.1 95).toInt ≤ 0 := by rw [n_q83.1 95 rfl]; exact f_q64_2_95
                  have e_q83_85 : (q83.1 85).toInt = q64.1.toInt := congrArg Int32.toInt (n_q83.1 85 rfl)
                  have e_q83_93 : (q83.1 93).toInt = (q64.2.1 93).toInt := congrArg Int32.toInt (n_q83.1 93 rfl)
                  have g_q83_93 : (0 : Int) ≤ (q83.1 93).toInt ∧ (q83.1 93).toInt ≤ 420 := k_q83.1 93
                  have zq83_0 : Ch (q83.1 64) (q83.1 73) (q83.1 39) (q83.1 43) (q83.2.1 74) := zq83_0
                  have zq83_1 : Lmd (q83.1 64).toInt (q83.1 65).toInt := zq83_1
                  have zq83_2 : Cn (q83.2.1 59) (q83.2.1 58) := zq83_2
                  have zq83_3 : Gx ((q83.1 39).toInt + 1) (q83.1 43).toInt (q83.2.1 44) (q83.2.1 45) := zq83_3
                  have zq83_4 : No (q83.1 40).toInt ((q83.1 39).toInt + 1 + (q83.1 43).toInt) (q83.2.1 47) := zq83_4
                  have zq83_5 : Hc (q83.1 64).toInt ((q83.1 39).toInt + 1) (q83.1 43).toInt (q83.1 65).toInt (q83.2.1 44) (q83.2.1 45) := zq83_5
                  have u84 : Iv q64.1.toInt (q83.2.1 92) (q83.2.1 87) (q83.2.1 84) := by rw [n_q83.2.1 84 rfl, n_q83.2.1 87 rfl, n_q83.2.1 92 rfl]; exact zq64_0
                  have u85 : Mt (q83.2.1 87) := by rw [n_q83.2.1 87 rfl]; exact u65
                  have u86 : Mt (q83.2.1 89) := by rw [n_q83.2.1 89 rfl]; exact u66
                  have u87 : Mt (q83.2.1 90) := by rw [n_q83.2.1 90 rfl]; exact u67
                  have u88 : Md (q83.1 39).toInt (q83.2.1 84) (q83.2.1 86) (q83.2.1 87) (q83.2.1 88) := by rw [n_q83.1 39 rfl, n_q83.2.1 84 rfl, n_q83.2.1 86 rfl, n_q83.2.1 87 rfl, n_q83.2.1 88 rfl]; exact u68
                  have u89 : Hl 0 0 (q83.2.1 88) (q83.2.1 86) := by rw [n_q83.2.1 86 rfl, n_q83.2.1 88 rfl]; exact u69
                  have u90 : Hs q24.1.toInt ((q83.1 39).toInt + 1) (q83.1 43).toInt 3 (q83.2.1 44) (q83.2.1 45) := by rw [n_q83.1 39 rfl, n_q83.1 43 rfl, n_q83.2.1 44 rfl, n_q83.2.1 45 rfl]; exact u72
                  have u91 : Fp (q83.2.1 84) := by rw [n_q83.2.1 84 rfl]; exact u75
                  refine tt_if (fun c96 => ?_) (fun c96 => ?_)
                  · have wc96 : (q83.1 85).toInt = (0 : Int) := c_eq c96
                    have i97 : (0 : Int) ≤ (q83.1 85).toInt ∧ (q83.1 85).toInt ≤ 0 := nr_eql c96 f_q83_85 (show (0 : Int) ≤ (0 : Int32).toInt ∧ (0 : Int32).toInt ≤ 0 by decide) (by decide) (by decide)
                    exact tt_some ⟨(iv_w (a := (-1)) (b := 420) (by decide) (by decide) (show ((-1) : Int) ≤ ((-1) : Int32).toInt ∧ ((-1) : Int32).toInt ≤ (-1) by decide)), k_q83, r_q83, (iv_w (a := 0) (b := 2) (by decide) (by decide) f_q83_0), f_q83_95, u85, u86, u87, zq83_0, zq83_1, zq83_2, zq83_3, zq83_4, zq83_5, trivial⟩
                  · have wc96 : ¬ (q83.1 85).toInt = (0 : Int) := c_ne c96
                    have i98 : (1 : Int) ≤ (q83.1 85).toInt ∧ (q83.1 85).toInt ≤ 1 := nr_nela c96 f_q83_85 (show (0 : Int) ≤ (0 : Int32).toInt ∧ (0 : Int32).toInt ≤ 0 by decide) (by decide) (by decide)
                    refine tt_ko ?_
                    have k99 := ok_fp (k := 93) (v := 0) k_q83 (iv_w (a := 0) (b := 420) (by decide) (by decide) (show (0 : Int) ≤ (0 : Int32).toInt ∧ (0 : Int32).toInt ≤ 0 by decide))
                    have r100 := fr_fp (k := 93) (v := 0) r_q83 rfl
                    have p101 : Iw (q83.2.1 92) (q83.2.1 87) (q83.2.1 84) := by exact Iv_e (by assumption) (by omega)
                    have p102 : Io 0 (q83.2.1 94) (q83.2.1 87) (q83.2.1 84) := by exact Io_0 _ _ _
                    exact H _ _ k99 r100 (iv_w (a := 0) (b := 420) (by decide) (by decide) (show (0 : Int) ≤ (0 : Int32).toInt ∧ (0 : Int32).toInt ≤ 0 by decide)) f_q83_0 f_q83_38 f_q83_78 i98 f_q83_95 (show 0 ≤ 0 by omega) u85 u86 u87 u91 zq83_0 zq83_1 zq83_2 p101 p102 zq83_3 zq83_4 zq83_5 (show 0 + (420 - 0) * 2 < ((cfFU : Nat) : Int) by omega)
              · have wc23 : ¬ (0 : Int) = (0 : Int) := c_ne c23
                exact (dd_ne c23 (show (0 : Int) ≤ (0 : Int32).toInt ∧ (0 : Int32).toInt ≤ 0 by decide) (show (0 : Int) ≤ (0 : Int32).toInt ∧ (0 : Int32).toInt ≤ 0 by decide)).elim
            · have wc22 : (0 : Int) < (0 : Int) := c_nle c22
              exact (dd_nle c22 (show (0 : Int) ≤ (0 : Int32).toInt ∧ (0 : Int32).toInt ≤ 0 by decide) (show (0 : Int) ≤ (0 : Int32).toInt ∧ (0 : Int32).toInt ≤ 0 by decide) (by decide)).elim
          · have wc19 : ¬ (0 : Int) = (0 : Int) := c_ne c19
            exact (dd_ne c19 (show (0 : Int) ≤ (0 : Int32).toInt ∧ (0 : Int32).toInt ≤ 0 by decide) (show (0 : Int) ≤ (0 : Int32).toInt ∧ (0 : Int32).toInt ≤ 0 by decide)).elim
        · have wc18 : ¬ (0 : Int) = (0 : Int) := c_ne c18
          exact (dd_ne c18 (show (0 : Int) ≤ (0 : Int32).toInt ∧ (0 : Int32).toInt ≤ 0 by decide) (show (0 : Int) ≤ (0 : Int32).toInt ∧ (0 : Int32).toInt ≤ 0 by decide)).elim
      · have wc17 : ¬ (0 : Int) = (0 : Int) := c_ne c17
        exact (dd_ne c17 (show (0 : Int) ≤ (0 : Int32).toInt ∧ (0 : Int32).toInt ≤ 0 by decide) (show (0 : Int) ≤ (0 : Int32).toInt ∧ (0 : Int32).toInt ≤ 0 by decide)).elim
def QM_mapped (v1 : Int32) (o0 : cf_O) (r : (Int32 × cf_O)) : Prop := (okO I_M r.2) ∧ (Fr (fr_M [0] [] []) o0 r.2) ∧ ((0 : Int) ≤ (r.2.1 0).toInt ∧ (r.2.1 0).toInt ≤ 2) ∧ True
def HM_mapped (yv1 : Int32) (yo0 : cf_O) (n : Nat) : Prop := (∀ (v1 : Int32) (v2 : Int32) (v3 : Int32) (v4 : Int32) (o0 : cf_O), (okO I_M o0) → (Fr (fr_M [0] [] []) yo0 o0) → ((0 : Int) ≤ v1.toInt ∧ v1.toInt ≤ 2) → ((0 : Int) ≤ v3.toInt ∧ v3.toInt ≤ 0) → ((0 : Int) ≤ v4.toInt ∧ v4.toInt ≤ 420) → ((0 : Int) ≤ (o0.1 0).toInt ∧ (o0.1 0).toInt ≤ 0) → ((1 : Int) ≤ (o0.1 85).toInt ∧ (o0.1 85).toInt ≤ 1) → ((0 : Int) ≤ (o0.1 95).toInt ∧ (o0.1 95).toInt ≤ 0) → (Mt (o0.2.1 87)) → 14 + (420 - v4.toInt) * 2 < (n : Int) → tt (gM_mapped n 0 v1 v2 v3 v4 o0) (QM_mapped yv1 yo0)) ∧ (∀ (v1 : Int32) (v2 : Int32) (v3 : Int32) (v4 : Int32) (o0 : cf_O), (okO I_M o0) → (Fr (fr_M [0] [] []) yo0 o0) → ((0 : Int) ≤ v1.toInt ∧ v1.toInt ≤ 2) → ((0 : Int) ≤ v4.toInt ∧ v4.toInt ≤ 6) → ((0 : Int) ≤ (o0.1 0).toInt ∧ (o0.1 0).toInt ≤ 0) → ((1 : Int) ≤ (o0.1 85).toInt ∧ (o0.1 85).toInt ≤ 1) → ((0 : Int) ≤ (o0.1 95).toInt ∧ (o0.1 95).toInt ≤ 0) → (Mt (o0.2.1 87)) → 0 + (6 - v4.toInt) * 2 < (n : Int) → tt (gM_mapped n 1 v1 v2 v3 v4 o0) (QM_mapped yv1 yo0))
set_option maxHeartbeats 4000000 in
set_option maxRecDepth 100000 in
theorem tM_mapped_94 {yv1 : Int32} {yo0 : cf_O} {n : Nat} (H : HM_mapped yv1 yo0 n) (v1 : Int32) (v2 : Int32) (v3 : Int32) (v4 : Int32) (o0 : cf_O) (k_o0 : okO I_M o0) (r_o0 : Fr (fr_M [0] [] []) yo0 o0) (i_v1 : (0 : Int) ≤ v1.toInt ∧ v1.toInt ≤ 2) (i_v4 : (0 : Int) ≤ v4.toInt ∧ v4.toInt ≤ 6) (f_o0_0 : (0 : Int) ≤ (o0.1 0).toInt ∧ (o0.1 0).toInt ≤ 0) (f_o0_85 : (1 : Int) ≤ (o0.1 85).toInt ∧ (o0.1 85).toInt ≤ 1) (f_o0_95 : (0 : Int) ≤ (o0.1 95).toInt ∧ (o0.1 95).toInt ≤ 0) (x_0 : Mt (o0.2.1 87)) (hm : 0 + (6 - v4.toInt) * 2 ≤ (n : Int)) : tt (fM_mapped_94 (gM_mapped n) v1 v2 v3 v4 o0) (QM_mapped yv1 yo0) := by
  unfold fM_mapped_94
  have i_v2 := iv_top v2
  have i_v3 := iv_top v3
  refine tt_if (fun c1 => ?_) (fun c1 => ?_)
  · have wc1 : (o0.1 40).toInt ≤ v4.toInt := c_le c1
    refine tt_if (fun c2 => ?_) (fun c2 => ?_)
    · have wc2 : v1.toInt = (0 : Int) := c_eq c2
      have i3 : (0 : Int) ≤ v1.toInt ∧ v1.toInt ≤ 0 := nr_eql c2 i_v1 (show (0 : Int) ≤ (0 : Int32).toInt ∧ (0 : Int32).toInt ≤ 0 by decide) (by decide) (by decide)
      try unfold fM_mapped_161
      exact tt_some ⟨k_o0, r_o0, (iv_w (a := 0) (b := 2) (by decide) (by decide) f_o0_0), trivial⟩
    · have wc2 : ¬ v1.toInt = (0 : Int) := c_ne c2
      have i4 : (1 : Int) ≤ v1.toInt ∧ v1.toInt ≤ 2 := nr_nela c2 i_v1 (show (0 : Int) ≤ (0 : Int32).toInt ∧ (0 : Int32).toInt ≤ 0 by decide) (by decide) (by decide)
      refine tt_if (fun c5 => ?_) (fun c5 => ?_)
      · have wc5 : v1.toInt = (1 : Int) := c_eq c5
        have i6 : (1 : Int) ≤ v1.toInt ∧ v1.toInt ≤ 1 := nr_eql c5 i4 (show (1 : Int) ≤ (1 : Int32).toInt ∧ (1 : Int32).toInt ≤ 1 by decide) (by decide) (by decide)
        try unfold fM_mapped_161
        exact tt_some ⟨k_o0, r_o0, (iv_w (a := 0) (b := 2) (by decide) (by decide) f_o0_0), trivial⟩
      · have wc5 : ¬ v1.toInt = (1 : Int) := c_ne c5
        have i7 : (2 : Int) ≤ v1.toInt ∧ v1.toInt ≤ 2 := nr_nela c5 i4 (show (1 : Int) ≤ (1 : Int32).toInt ∧ (1 : Int32).toInt ≤ 1 by decide) (by decide) (by decide)
        try unfold fM_mapped_161
        exact tt_some ⟨k_o0, r_o0, (iv_w (a := 0) (b := 2) (by decide) (by decide) f_o0_0), trivial⟩
  · have wc1 : v4.toInt < (o0.1 40).toInt := c_nle c1
    have i8 : (0 : Int) ≤ v4.toInt ∧ v4.toInt ≤ 5 := nr_nlel c1 i_v4 (k_o0.1 40) (by decide) (by decide)
    have i9 : (1 : Int) ≤ (o0.1 40).toInt ∧ (o0.1 40).toInt ≤ 6 := nr_nler c1 i_v4 (k_o0.1 40) (by decide) (by decide)
    refine tt_n (ix_ok i8 (by decide) (by decide)) ?_
    refine tt_kv (P := fun z => ((0 : Int) ≤ z.toInt ∧ z.toInt ≤ 417) ∧ z.toInt = (o0.2.1 47 v4.toNatClampNeg).toInt) ⟨(k_o0.2 47 _), rfl⟩ (fun x10 qi11 => ?_)
    obtain ⟨i11, ei11⟩ := qi11
    refine tt_b (sM_timeOf _ _ k_o0 i11 f_o0_0 f_o0_95) (fun q12 hq12 => ?_)
    have i_q12 := iv_top q12
    refine tt_if (fun c13 => ?_) (fun c13 => ?_)
    · have wc13 : q12.toInt ≤ v3.toInt := c_le c13
      try unfold fM_mapped_133
      refine tt_kv (P := fun z => ((1 : Int) ≤ z.toInt ∧ z.toInt ≤ 6) ∧ z.toInt = v4.toInt + 1) ⟨iv_add i8 (show (1 : Int) ≤ (1 : Int32).toInt ∧ (1 : Int32).toInt ≤ 1 by decide) (by decide) (by decide) (by decide) (by decide), iq_add i8 (show (1 : Int) ≤ (1 : Int32).toInt ∧ (1 : Int32).toInt ≤ 1 by decide) (by decide) (by decide)⟩ (fun x14 qi15 => ?_)
      obtain ⟨i15, ei15⟩ := qi15
      exact H.2 _ _ _ _ _ k_o0 r_o0 i_v1 (iv_w (a := 0) (b := 6) (by decide) (by decide) i15) f_o0_0 f_o0_85 f_o0_95 x_0 (show 0 + (6 - x14.toInt) * 2 < (n : Int) by omega)
    · have wc13 : v3.toInt < q12.toInt := c_nle c13
      have i16 : ((-2147483648) : Int) ≤ v3.toInt ∧ v3.toInt ≤ 2147483646 := nr_nlel c13 (iv_top v3) (iv_top q12) (by decide) (by decide)
      have i17 : ((-2147483647) : Int) ≤ q12.toInt ∧ q12.toInt ≤ 2147483647 := nr_nler c13 (iv_top v3) (iv_top q12) (by decide) (by decide)
      refine tt_n (ix_ok i8 (by decide) (by decide)) ?_
      refine tt_kv (P := fun z => ((0 : Int) ≤ z.toInt ∧ z.toInt ≤ 417) ∧ z.toInt = (o0.2.1 47 v4.toNatClampNeg).toInt) ⟨(k_o0.2 47 _), rfl⟩ (fun x18 qi19 => ?_)
      obtain ⟨i19, ei19⟩ := qi19
      refine tt_b (sM_timeOf _ _ k_o0 i19 f_o0_0 f_o0_95) (fun q20 hq20 => ?_)
      have i_q20 := iv_top q20
      try unfold fM_mapped_133
      refine tt_kv (P := fun z => ((1 : Int) ≤ z.toInt ∧ z.toInt ≤ 6) ∧ z.toInt = v4.toInt + 1) ⟨iv_add i8 (show (1 : Int) ≤ (1 : Int32).toInt ∧ (1 : Int32).toInt ≤ 1 by decide) (by decide) (by decide) (by decide) (by decide), iq_add i8 (show (1 : Int) ≤ (1 : Int32).toInt ∧ (1 : Int32).toInt ≤ 1 by decide) (by decide) (by decide)⟩ (fun x21 qi22 => ?_)
      obtain ⟨i22, ei22⟩ := qi22
      exact H.2 _ _ _ _ _ k_o0 r_o0 i_v1 (iv_w (a := 0) (b := 6) (by decide) (by decide) i22) f_o0_0 f_o0_85 f_o0_95 x_0 (show 0 + (6 - x21.toInt) * 2 < (n : Int) by omega)
set_option maxHeartbeats 4000000 in
set_option maxRecDepth 100000 in
theorem tM_mapped_50 {yv1 : Int32} {yo0 : cf_O} {n : Nat} (H : HM_mapped yv1 yo0 n) (v1 : Int32) (v2 : Int32) (v3 : Int32) (v4 : Int32) (o0 : cf_O) (k_o0 : okO I_M o0) (r_o0 : Fr (fr_M [0] [] []) yo0 o0) (i_v1 : (0 : Int) ≤ v1.toInt ∧ v1.toInt ≤ 2) (i_v3 : (0 : Int) ≤ v3.toInt ∧ v3.toInt ≤ 0) (i_v4 : (0 : Int) ≤ v4.toInt ∧ v4.toInt ≤ 420) (f_o0_0 : (0 : Int) ≤ (o0.1 0).toInt ∧ (o0.1 0).toInt ≤ 0) (f_o0_85 : (1 : Int) ≤ (o0.1 85).toInt ∧ (o0.1 85).toInt ≤ 1) (f_o0_95 : (0 : Int) ≤ (o0.1 95).toInt ∧ (o0.1 95).toInt ≤ 0) (x_0 : Mt (o0.2.1 87)) (hm : 14 + (420 - v4.toInt) * 2 ≤ (n : Int)) : tt (fM_mapped_50 (gM_mapped n) v1 v2 v3 v4 o0) (QM_mapped yv1 yo0) := by
  unfold fM_mapped_50
  have i_v2 := iv_top v2
  refine tt_if (fun c1 => ?_) (fun c1 => ?_)
  · have wc1 : (o0.1 93).toInt ≤ v4.toInt := c_le c1
    exact H.2 _ _ _ _ _ k_o0 r_o0 i_v1 (iv_w (a := 0) (b := 6) (by decide) (by decide) (show (0 : Int) ≤ (0 : Int32).toInt ∧ (0 : Int32).toInt ≤ 0 by decide)) f_o0_0 f_o0_85 f_o0_95 x_0 (show 0 + (6 - 0) * 2 < (n : Int) by omega)
  · have wc1 : v4.toInt < (o0.1 93).toInt := c_nle c1
    have i2 : (0 : Int) ≤ v4.toInt ∧ v4.toInt ≤ 419 := nr_nlel c1 i_v4 (k_o0.1 93) (by decide) (by decide)
    have i3 : (1 : Int) ≤ (o0.1 93).toInt ∧ (o0.1 93).toInt ≤ 420 := nr_nler c1 i_v4 (k_o0.1 93) (by decide) (by decide)
    refine tt_n (ix_ok i2 (by decide) (by decide)) ?_
    refine tt_kv (P := fun z => ((0 : Int) ≤ z.toInt ∧ z.toInt ≤ 419) ∧ z.toInt = (o0.2.1 94 v4.toNatClampNeg).toInt) ⟨(k_o0.2 94 _), rfl⟩ (fun x4 qi5 => ?_)
    obtain ⟨i5, ei5⟩ := qi5
    refine tt_kv (P := fun z => ((0 : Int) ≤ z.toInt ∧ z.toInt ≤ 2095) ∧ z.toInt = 5 * x4.toInt) ⟨iv_mul (show (5 : Int) ≤ (5 : Int32).toInt ∧ (5 : Int32).toInt ≤ 5 by decide) i5 (by decide) (by decide) (by decide) (by decide) (by decide), iq_mul (show (5 : Int) ≤ (5 : Int32).toInt ∧ (5 : Int32).toInt ≤ 5 by decide) i5 (by decide) (by decide) (by decide) (by decide)⟩ (fun x6 qi7 => ?_)
    obtain ⟨i7, ei7⟩ := qi7
    refine tt_kv (P := fun z => ((1 : Int) ≤ z.toInt ∧ z.toInt ≤ 2096) ∧ z.toInt = x6.toInt + 1) ⟨iv_add i7 (show (1 : Int) ≤ (1 : Int32).toInt ∧ (1 : Int32).toInt ≤ 1 by decide) (by decide) (by decide) (by decide) (by decide), iq_add i7 (show (1 : Int) ≤ (1 : Int32).toInt ∧ (1 : Int32).toInt ≤ 1 by decide) (by decide) (by decide)⟩ (fun x8 qi9 => ?_)
    obtain ⟨i9, ei9⟩ := qi9
    refine tt_n (ix_ok i9 (by decide) (by decide)) ?_
    refine tt_kv (P := fun z => (((-2147483648) : Int) ≤ z.toInt ∧ z.toInt ≤ 2147483647) ∧ z.toInt = (o0.2.1 87 x8.toNatClampNeg).toInt) ⟨(k_o0.2 87 _), rfl⟩ (fun x10 qi11 => ?_)
    obtain ⟨i11, ei11⟩ := qi11
    have t12 := tn_n x8
    have t13 := x_0 (x8.toNatClampNeg)
    have i14 : (0 : Int) ≤ x10.toInt ∧ x10.toInt ≤ 11 := by omega
    refine tt_kv (P := fun z => ((0 : Int) ≤ z.toInt ∧ z.toInt ≤ 44) ∧ z.toInt = 4 * x10.toInt) ⟨iv_mul (show (4 : Int) ≤ (4 : Int32).toInt ∧ (4 : Int32).toInt ≤ 4 by decide) i14 (by decide) (by decide) (by decide) (by decide) (by decide), iq_mul (show (4 : Int) ≤ (4 : Int32).toInt ∧ (4 : Int32).toInt ≤ 4 by decide) i14 (by decide) (by decide) (by decide) (by decide)⟩ (fun x15 qi16 => ?_)
    obtain ⟨i16, ei16⟩ := qi16
    refine tt_n (ix_ok i16 (by decide) (by decide)) ?_
    refine tt_kv (P := fun z => (((-2147483648) : Int) ≤ z.toInt ∧ z.toInt ≤ 2147483647) ∧ z.toInt = (o0.2.1 84 x15.toNatClampNeg).toInt) ⟨(k_o0.2 84 _), rfl⟩ (fun x17 qi18 => ?_)
    obtain ⟨i18, ei18⟩ := qi18
    refine tt_kv (P := fun z => ((-2147483648) : Int) ≤ z.toInt ∧ z.toInt ≤ 2147483647) (iv_top _) (fun x19 i20 => ?_)
    refine tt_kv (P := fun z => ((1 : Int) ≤ z.toInt ∧ z.toInt ≤ 420) ∧ z.toInt = v4.toInt + 1) ⟨iv_add i2 (show (1 : Int) ≤ (1 : Int32).toInt ∧ (1 : Int32).toInt ≤ 1 by decide) (by decide) (by decide) (by decide) (by decide), iq_add i2 (show (1 : Int) ≤ (1 : Int32).toInt ∧ (1 : Int32).toInt ≤ 1 by decide) (by decide) (by decide)⟩ (fun x21 qi22 => ?_)
    obtain ⟨i22, ei22⟩ := qi22
    exact H.1 _ _ _ _ _ k_o0 r_o0 i_v1 i_v3 (iv_w (a := 0) (b := 420) (by decide) (by decide) i22) f_o0_0 f_o0_85 f_o0_95 x_0 (show 14 + (420 - x21.toInt) * 2 < (n : Int) by omega)
set_option maxHeartbeats 4000000 in
set_option maxRecDepth 100000 in
theorem hM_mapped (yv1 : Int32) (yo0 : cf_O) : ∀ n, HM_mapped yv1 yo0 n := by
  intro n
  induction n with
  | zero => exact ⟨(fun v1 v2 v3 v4 o0 k_o0 r_o0 i_v1 i_v3 i_v4 f_o0_0 f_o0_85 f_o0_95 x_0 hm => by exact absurd (show 14 + (420 - v4.toInt) * 2 < (0 : Int) from hm) (by omega)), (fun v1 v2 v3 v4 o0 k_o0 r_o0 i_v1 i_v4 f_o0_0 f_o0_85 f_o0_95 x_0 hm => by exact absurd (show 0 + (6 - v4.toInt) * 2 < (0 : Int) from hm) (by omega))⟩
  | succ n ih => exact ⟨(fun v1 v2 v3 v4 o0 k_o0 r_o0 i_v1 i_v3 i_v4 f_o0_0 f_o0_85 f_o0_95 x_0 hm => tM_mapped_50 ih v1 v2 v3 v4 o0 k_o0 r_o0 i_v1 i_v3 i_v4 f_o0_0 f_o0_85 f_o0_95 x_0 (by omega)), (fun v1 v2 v3 v4 o0 k_o0 r_o0 i_v1 i_v4 f_o0_0 f_o0_85 f_o0_95 x_0 hm => tM_mapped_94 ih v1 v2 v3 v4 o0 k_o0 r_o0 i_v1 i_v4 f_o0_0 f_o0_85 f_o0_95 x_0 (by omega))⟩
set_option maxHeartbeats 4000000 in
set_option maxRecDepth 100000 in
theorem sM_mapped (v1 : Int32) (o0 : cf_O) (k_o0 : okO I_M o0) (f_o0_95 : (0 : Int) ≤ (o0.1 95).toInt ∧ (o0.1 95).toInt ≤ 0) (x_0 : Mt (o0.2.1 87)) : tt (fM_mapped v1 o0) (QM_mapped v1 o0) := by
  have H := hM_mapped v1 o0 cfFU
  have hm : (857 : Int) ≤ (cfFU : Nat) := by decide
  have r_o0 : Fr (fr_M [0] [] []) o0 o0 := fr_rfl
  unfold fM_mapped fM_mapped_0
  have i_v1 := iv_top v1
  refine tt_if (fun c1 => ?_) (fun c1 => ?_)
  · have wc1 : (o0.1 85).toInt = (0 : Int) := c_eq c1
    have i2 : (0 : Int) ≤ (o0.1 85).toInt ∧ (o0.1 85).toInt ≤ 0 := nr_eql c1 (k_o0.1 85) (show (0 : Int) ≤ (0 : Int32).toInt ∧ (0 : Int32).toInt ≤ 0 by decide) (by decide) (by decide)
    try unfold fM_mapped_13
    refine tt_if (fun c3 => ?_) (fun c3 => ?_)
    · have wc3 : (o0.1 85).toInt = (0 : Int) := c_eq c3
      try unfold fM_mapped_33
      try unfold fM_mapped_34
      try unfold fM_refuse
      try unfold fM_refuse_0
      refine tt_bif (fun c4 => ?_) (fun c4 => ?_)
      · have wc4 : (1 : Int) = (0 : Int) := c_eq c4
        exact (dd_eq c4 (show (1 : Int) ≤ (1 : Int32).toInt ∧ (1 : Int32).toInt ≤ 1 by decide) (show (0 : Int) ≤ (0 : Int32).toInt ∧ (0 : Int32).toInt ≤ 0 by decide) (by decide)).elim
      · have wc4 : ¬ (1 : Int) = (0 : Int) := c_ne c4
        try unfold fM_refuse_26
        refine tt_bko ?_
        have k5 := ok_fp (k := 0) (v := 1) k_o0 (iv_w (a := 0) (b := 3) (by decide) (by decide) (show (1 : Int) ≤ (1 : Int32).toInt ∧ (1 : Int32).toInt ≤ 1 by decide))
        have r6 := fr_fp (k := 0) (v := 1) r_o0 rfl
        refine tt_bif (fun c7 => ?_) (fun c7 => ?_)
        · have wc7 : (1 : Int) ≤ (0 : Int) := c_le c7
          exact (dd_le c7 (show (1 : Int) ≤ (1 : Int32).toInt ∧ (1 : Int32).toInt ≤ 1 by decide) (show (0 : Int) ≤ (0 : Int32).toInt ∧ (0 : Int32).toInt ≤ 0 by decide) (by decide)).elim
        · have wc7 : (0 : Int) < (1 : Int) := c_nle c7
          try unfold fM_refuse_41
          refine tt_bw (iv_b (show (1 : Int) ≤ (1 : Int32).toInt ∧ (1 : Int32).toInt ≤ 1 by decide) (by decide) (by decide)) ?_
          refine tt_bs ?_
          refine tt_if (fun c8 => ?_) (fun c8 => ?_)
          · have wc8 : (1 : Int) = (0 : Int) := c_eq c8
            exact (dd_eq c8 (show (1 : Int) ≤ (1 : Int32).toInt ∧ (1 : Int32).toInt ≤ 1 by decide) (show (0 : Int) ≤ (0 : Int32).toInt ∧ (0 : Int32).toInt ≤ 0 by decide) (by decide)).elim
          · have wc8 : ¬ (1 : Int) = (0 : Int) := c_ne c8
            exact tt_some ⟨k5, r6, (iv_w (a := 0) (b := 2) (by decide) (by decide) (show (1 : Int) ≤ (1 : Int32).toInt ∧ (1 : Int32).toInt ≤ 1 by decide)), trivial⟩
    · have wc3 : ¬ (o0.1 85).toInt = (0 : Int) := c_ne c3
      exact (dd_ne c3 i2 (show (0 : Int) ≤ (0 : Int32).toInt ∧ (0 : Int32).toInt ≤ 0 by decide)).elim
  · have wc1 : ¬ (o0.1 85).toInt = (0 : Int) := c_ne c1
    have i9 : (1 : Int) ≤ (o0.1 85).toInt ∧ (o0.1 85).toInt ≤ 1 := nr_nela c1 (k_o0.1 85) (show (0 : Int) ≤ (0 : Int32).toInt ∧ (0 : Int32).toInt ≤ 0 by decide) (by decide) (by decide)
    try unfold fM_mapped_13
    refine tt_if (fun c10 => ?_) (fun c10 => ?_)
    · have wc10 : (o0.1 85).toInt = (0 : Int) := c_eq c10
      exact (dd_eq c10 i9 (show (0 : Int) ≤ (0 : Int32).toInt ∧ (0 : Int32).toInt ≤ 0 by decide) (by decide)).elim
    · have wc10 : ¬ (o0.1 85).toInt = (0 : Int) := c_ne c10
      try unfold fM_in
      try unfold fM_in_0
      refine tt_bif (fun c11 => ?_) (fun c11 => ?_)
      · have wc11 : v1.toInt < (0 : Int) := c_lt c11
        have i12 : ((-2147483648) : Int) ≤ v1.toInt ∧ v1.toInt ≤ (-1) := nr_ltl c11 (iv_top v1) (show (0 : Int) ≤ (0 : Int32).toInt ∧ (0 : Int32).toInt ≤ 0 by decide) (by decide) (by decide)
        try unfold fM_in_14
        try unfold fM_in_15
        refine tt_bw (iv_b (show (0 : Int) ≤ (0 : Int32).toInt ∧ (0 : Int32).toInt ≤ 0 by decide) (by decide) (by decide)) ?_
        refine tt_bs ?_
        refine tt_if (fun c13 => ?_) (fun c13 => ?_)
        · have wc13 : (0 : Int) = (0 : Int) := c_eq c13
          try unfold fM_mapped_34
          try unfold fM_refuse
          try unfold fM_refuse_0
          refine tt_bif (fun c14 => ?_) (fun c14 => ?_)
          · have wc14 : (0 : Int) = (0 : Int) := c_eq c14
            refine tt_bif (fun c15 => ?_) (fun c15 => ?_)
            · have wc15 : (1 : Int) = (0 : Int) := c_eq c15
              exact (dd_eq c15 (show (1 : Int) ≤ (1 : Int32).toInt ∧ (1 : Int32).toInt ≤ 1 by decide) (show (0 : Int) ≤ (0 : Int32).toInt ∧ (0 : Int32).toInt ≤ 0 by decide) (by decide)).elim
            · have wc15 : ¬ (1 : Int) = (0 : Int) := c_ne c15
              try unfold fM_refuse_26
              refine tt_bko ?_
              have k16 := ok_fp (k := 0) (v := 2) k_o0 (iv_w (a := 0) (b := 3) (by decide) (by decide) (show (2 : Int) ≤ (2 : Int32).toInt ∧ (2 : Int32).toInt ≤ 2 by decide))
              have r17 := fr_fp (k := 0) (v := 2) r_o0 rfl
              refine tt_bif (fun c18 => ?_) (fun c18 => ?_)
              · have wc18 : (2 : Int) ≤ (0 : Int) := c_le c18
                exact (dd_le c18 (show (2 : Int) ≤ (2 : Int32).toInt ∧ (2 : Int32).toInt ≤ 2 by decide) (show (0 : Int) ≤ (0 : Int32).toInt ∧ (0 : Int32).toInt ≤ 0 by decide) (by decide)).elim
              · have wc18 : (0 : Int) < (2 : Int) := c_nle c18
                try unfold fM_refuse_41
                refine tt_bw (iv_b (show (1 : Int) ≤ (1 : Int32).toInt ∧ (1 : Int32).toInt ≤ 1 by decide) (by decide) (by decide)) ?_
                refine tt_bs ?_
                refine tt_if (fun c19 => ?_) (fun c19 => ?_)
                · have wc19 : (1 : Int) = (0 : Int) := c_eq c19
                  exact (dd_eq c19 (show (1 : Int) ≤ (1 : Int32).toInt ∧ (1 : Int32).toInt ≤ 1 by decide) (show (0 : Int) ≤ (0 : Int32).toInt ∧ (0 : Int32).toInt ≤ 0 by decide) (by decide)).elim
                · have wc19 : ¬ (1 : Int) = (0 : Int) := c_ne c19
                  exact tt_some ⟨k16, r17, (iv_w (a := 0) (b := 2) (by decide) (by decide) (show (2 : Int) ≤ (2 : Int32).toInt ∧ (2 : Int32).toInt ≤ 2 by decide)), trivial⟩
          · have wc14 : ¬ (0 : Int) = (0 : Int) := c_ne c14
            exact (dd_ne c14 (show (0 : Int) ≤ (0 : Int32).toInt ∧ (0 : Int32).toInt ≤ 0 by decide) (show (0 : Int) ≤ (0 : Int32).toInt ∧ (0 : Int32).toInt ≤ 0 by decide)).elim
        · have wc13 : ¬ (0 : Int) = (0 : Int) := c_ne c13
          exact (dd_ne c13 (show (0 : Int) ≤ (0 : Int32).toInt ∧ (0 : Int32).toInt ≤ 0 by decide) (show (0 : Int) ≤ (0 : Int32).toInt ∧ (0 : Int32).toInt ≤ 0 by decide)).elim
      · have wc11 : (0 : Int) ≤ v1.toInt := c_nlt c11
        have i20 : (0 : Int) ≤ v1.toInt ∧ v1.toInt ≤ 2147483647 := nr_nltr c11 (show (0 : Int) ≤ (0 : Int32).toInt ∧ (0 : Int32).toInt ≤ 0 by decide) (iv_top v1) (by decide) (by decide)
        refine tt_bif (fun c21 => ?_) (fun c21 => ?_)
        · have wc21 : (2 : Int) < v1.toInt := c_lt c21
          have i22 : (3 : Int) ≤ v1.toInt ∧ v1.toInt ≤ 2147483647 := nr_ltr c21 (show (2 : Int) ≤ (2 : Int32).toInt ∧ (2 : Int32).toInt ≤ 2 by decide) i20 (by decide) (by decide)
          try unfold fM_in_14
          try unfold fM_in_15
          refine tt_bw (iv_b (show (0 : Int) ≤ (0 : Int32).toInt ∧ (0 : Int32).toInt ≤ 0 by decide) (by decide) (by decide)) ?_
          refine tt_bs ?_
          refine tt_if (fun c23 => ?_) (fun c23 => ?_)
          · have wc23 : (0 : Int) = (0 : Int) := c_eq c23
            try unfold fM_mapped_34
            try unfold fM_refuse
            try unfold fM_refuse_0
            refine tt_bif (fun c24 => ?_) (fun c24 => ?_)
            · have wc24 : (0 : Int) = (0 : Int) := c_eq c24
              refine tt_bif (fun c25 => ?_) (fun c25 => ?_)
              · have wc25 : (1 : Int) = (0 : Int) := c_eq c25
                exact (dd_eq c25 (show (1 : Int) ≤ (1 : Int32).toInt ∧ (1 : Int32).toInt ≤ 1 by decide) (show (0 : Int) ≤ (0 : Int32).toInt ∧ (0 : Int32).toInt ≤ 0 by decide) (by decide)).elim
              · have wc25 : ¬ (1 : Int) = (0 : Int) := c_ne c25
                try unfold fM_refuse_26
                refine tt_bko ?_
                have k26 := ok_fp (k := 0) (v := 2) k_o0 (iv_w (a := 0) (b := 3) (by decide) (by decide) (show (2 : Int) ≤ (2 : Int32).toInt ∧ (2 : Int32).toInt ≤ 2 by decide))
                have r27 := fr_fp (k := 0) (v := 2) r_o0 rfl
                refine tt_bif (fun c28 => ?_) (fun c28 => ?_)
                · have wc28 : (2 : Int) ≤ (0 : Int) := c_le c28
                  exact (dd_le c28 (show (2 : Int) ≤ (2 : Int32).toInt ∧ (2 : Int32).toInt ≤ 2 by decide) (show (0 : Int) ≤ (0 : Int32).toInt ∧ (0 : Int32).toInt ≤ 0 by decide) (by decide)).elim
                · have wc28 : (0 : Int) < (2 : Int) := c_nle c28
                  try unfold fM_refuse_41
                  refine tt_bw (iv_b (show (1 : Int) ≤ (1 : Int32).toInt ∧ (1 : Int32).toInt ≤ 1 by decide) (by decide) (by decide)) ?_
                  refine tt_bs ?_
                  refine tt_if (fun c29 => ?_) (fun c29 => ?_)
                  · have wc29 : (1 : Int) = (0 : Int) := c_eq c29
                    exact (dd_eq c29 (show (1 : Int) ≤ (1 : Int32).toInt ∧ (1 : Int32).toInt ≤ 1 by decide) (show (0 : Int) ≤ (0 : Int32).toInt ∧ (0 : Int32).toInt ≤ 0 by decide) (by decide)).elim
                  · have wc29 : ¬ (1 : Int) = (0 : Int) := c_ne c29
                    exact tt_some ⟨k26, r27, (iv_w (a := 0) (b := 2) (by decide) (by decide) (show (2 : Int) ≤ (2 : Int32).toInt ∧ (2 : Int32).toInt ≤ 2 by decide)), trivial⟩
            · have wc24 : ¬ (0 : Int) = (0 : Int) := c_ne c24
              exact (dd_ne c24 (show (0 : Int) ≤ (0 : Int32).toInt ∧ (0 : Int32).toInt ≤ 0 by decide) (show (0 : Int) ≤ (0 : Int32).toInt ∧ (0 : Int32).toInt ≤ 0 by decide)).elim
          · have wc23 : ¬ (0 : Int) = (0 : Int) := c_ne c23
            exact (dd_ne c23 (show (0 : Int) ≤ (0 : Int32).toInt ∧ (0 : Int32).toInt ≤ 0 by decide) (show (0 : Int) ≤ (0 : Int32).toInt ∧ (0 : Int32).toInt ≤ 0 by decide)).elim
        · have wc21 : v1.toInt ≤ (2 : Int) := c_nlt c21
          have i30 : (0 : Int) ≤ v1.toInt ∧ v1.toInt ≤ 2 := nr_nltl c21 i20 (show (2 : Int) ≤ (2 : Int32).toInt ∧ (2 : Int32).toInt ≤ 2 by decide) (by decide) (by decide)
          try unfold fM_in_15
          refine tt_bw (iv_b (show (1 : Int) ≤ (1 : Int32).toInt ∧ (1 : Int32).toInt ≤ 1 by decide) (by decide) (by decide)) ?_
          refine tt_bs ?_
          refine tt_if (fun c31 => ?_) (fun c31 => ?_)
          · have wc31 : (1 : Int) = (0 : Int) := c_eq c31
            exact (dd_eq c31 (show (1 : Int) ≤ (1 : Int32).toInt ∧ (1 : Int32).toInt ≤ 1 by decide) (show (0 : Int) ≤ (0 : Int32).toInt ∧ (0 : Int32).toInt ≤ 0 by decide) (by decide)).elim
          · have wc31 : ¬ (1 : Int) = (0 : Int) := c_ne c31
            try unfold fM_mapped_33
            try unfold fM_mapped_34
            try unfold fM_refuse
            try unfold fM_refuse_0
            refine tt_bif (fun c32 => ?_) (fun c32 => ?_)
            · have wc32 : (0 : Int) = (0 : Int) := c_eq c32
              refine tt_bif (fun c33 => ?_) (fun c33 => ?_)
              · have wc33 : (0 : Int) = (0 : Int) := c_eq c33
                refine tt_bif (fun c34 => ?_) (fun c34 => ?_)
                · have wc34 : (0 : Int) = (0 : Int) := c_eq c34
                  try unfold fM_refuse_26
                  refine tt_bko ?_
                  have k35 := ok_fp (k := 0) (v := 0) k_o0 (iv_w (a := 0) (b := 3) (by decide) (by decide) (show (0 : Int) ≤ (0 : Int32).toInt ∧ (0 : Int32).toInt ≤ 0 by decide))
                  have r36 := fr_fp (k := 0) (v := 0) r_o0 rfl
                  refine tt_bif (fun c37 => ?_) (fun c37 => ?_)
                  · have wc37 : (0 : Int) ≤ (0 : Int) := c_le c37
                    try unfold fM_refuse_41
                    refine tt_bw (iv_b (show (0 : Int) ≤ (0 : Int32).toInt ∧ (0 : Int32).toInt ≤ 0 by decide) (by decide) (by decide)) ?_
                    refine tt_bs ?_
                    refine tt_if (fun c38 => ?_) (fun c38 => ?_)
                    · have wc38 : (0 : Int) = (0 : Int) := c_eq c38
                      exact H.1 _ _ _ _ _ k35 r36 i30 (show (0 : Int) ≤ (0 : Int32).toInt ∧ (0 : Int32).toInt ≤ 0 by decide) (iv_w (a := 0) (b := 420) (by decide) (by decide) (show (0 : Int) ≤ (0 : Int32).toInt ∧ (0 : Int32).toInt ≤ 0 by decide)) (show (0 : Int) ≤ (0 : Int32).toInt ∧ (0 : Int32).toInt ≤ 0 by decide) i9 f_o0_95 x_0 (show 14 + (420 - 0) * 2 < ((cfFU : Nat) : Int) by omega)
                    · have wc38 : ¬ (0 : Int) = (0 : Int) := c_ne c38
                      exact (dd_ne c38 (show (0 : Int) ≤ (0 : Int32).toInt ∧ (0 : Int32).toInt ≤ 0 by decide) (show (0 : Int) ≤ (0 : Int32).toInt ∧ (0 : Int32).toInt ≤ 0 by decide)).elim
                  · have wc37 : (0 : Int) < (0 : Int) := c_nle c37
                    exact (dd_nle c37 (show (0 : Int) ≤ (0 : Int32).toInt ∧ (0 : Int32).toInt ≤ 0 by decide) (show (0 : Int) ≤ (0 : Int32).toInt ∧ (0 : Int32).toInt ≤ 0 by decide) (by decide)).elim
                · have wc34 : ¬ (0 : Int) = (0 : Int) := c_ne c34
                  exact (dd_ne c34 (show (0 : Int) ≤ (0 : Int32).toInt ∧ (0 : Int32).toInt ≤ 0 by decide) (show (0 : Int) ≤ (0 : Int32).toInt ∧ (0 : Int32).toInt ≤ 0 by decide)).elim
              · have wc33 : ¬ (0 : Int) = (0 : Int) := c_ne c33
                exact (dd_ne c33 (show (0 : Int) ≤ (0 : Int32).toInt ∧ (0 : Int32).toInt ≤ 0 by decide) (show (0 : Int) ≤ (0 : Int32).toInt ∧ (0 : Int32).toInt ≤ 0 by decide)).elim
            · have wc32 : ¬ (0 : Int) = (0 : Int) := c_ne c32
              exact (dd_ne c32 (show (0 : Int) ≤ (0 : Int32).toInt ∧ (0 : Int32).toInt ≤ 0 by decide) (show (0 : Int) ≤ (0 : Int32).toInt ∧ (0 : Int32).toInt ≤ 0 by decide)).elim
def QM_instance (v1 : Int32) (v2 : Int32) (o0 : cf_O) (r : (Int32 × cf_O)) : Prop := (okO I_M r.2) ∧ (Fr (fr_M [0] [] []) o0 r.2) ∧ True
set_option maxHeartbeats 4000000 in
set_option maxRecDepth 100000 in
theorem sM_instance (v1 : Int32) (v2 : Int32) (o0 : cf_O) (k_o0 : okO I_M o0) (f_o0_95 : (0 : Int) ≤ (o0.1 95).toInt ∧ (o0.1 95).toInt ≤ 0) (x_0 : Mt (o0.2.1 87)) (x_1 : Fp (o0.2.1 84)) : tt (fM_instance v1 v2 o0) (QM_instance v1 v2 o0) := by
  have r_o0 : Fr (fr_M [0] [] []) o0 o0 := fr_rfl
  unfold fM_instance fM_instance_0
  have i_v1 := iv_top v1
  have i_v2 := iv_top v2
  refine tt_if (fun c1 => ?_) (fun c1 => ?_)
  · have wc1 : (o0.1 85).toInt = (0 : Int) := c_eq c1
    have i2 : (0 : Int) ≤ (o0.1 85).toInt ∧ (o0.1 85).toInt ≤ 0 := nr_eql c1 (k_o0.1 85) (show (0 : Int) ≤ (0 : Int32).toInt ∧ (0 : Int32).toInt ≤ 0 by decide) (by decide) (by decide)
    try unfold fM_instance_25
    try unfold fM_instance_26
    refine tt_if (fun c3 => ?_) (fun c3 => ?_)
    · have wc3 : (0 : Int) = (0 : Int) := c_eq c3
      try unfold fM_instance_41
      refine tt_if (fun c4 => ?_) (fun c4 => ?_)
      · have wc4 : (0 : Int) = (0 : Int) := c_eq c4
        try unfold fM_instance_71
        refine tt_if (fun c5 => ?_) (fun c5 => ?_)
        · have wc5 : (0 : Int) = (0 : Int) := c_eq c5
          try unfold fM_instance_90
          try unfold fM_instance_95
          refine tt_if (fun c6 => ?_) (fun c6 => ?_)
          · have wc6 : (o0.1 85).toInt = (0 : Int) := c_eq c6
            try unfold fM_instance_110
            refine tt_if (fun c7 => ?_) (fun c7 => ?_)
            · have wc7 : (o0.1 85).toInt = (0 : Int) := c_eq c7
              try unfold fM_instance_126
              try unfold fM_instance_127
              refine tt_if (fun c8 => ?_) (fun c8 => ?_)
              · have wc8 : (0 : Int) = (0 : Int) := c_eq c8
                try unfold fM_instance_139
                try unfold fM_instance_140
                try unfold fM_refuse
                try unfold fM_refuse_0
                refine tt_bif (fun c9 => ?_) (fun c9 => ?_)
                · have wc9 : (1 : Int) = (0 : Int) := c_eq c9
                  exact (dd_eq c9 (show (1 : Int) ≤ (1 : Int32).toInt ∧ (1 : Int32).toInt ≤ 1 by decide) (show (0 : Int) ≤ (0 : Int32).toInt ∧ (0 : Int32).toInt ≤ 0 by decide) (by decide)).elim
                · have wc9 : ¬ (1 : Int) = (0 : Int) := c_ne c9
                  try unfold fM_refuse_26
                  refine tt_bko ?_
                  have k10 := ok_fp (k := 0) (v := 1) k_o0 (iv_w (a := 0) (b := 3) (by decide) (by decide) (show (1 : Int) ≤ (1 : Int32).toInt ∧ (1 : Int32).toInt ≤ 1 by decide))
                  have r11 := fr_fp (k := 0) (v := 1) r_o0 rfl
                  refine tt_bif (fun c12 => ?_) (fun c12 => ?_)
                  · have wc12 : (1 : Int) ≤ (0 : Int) := c_le c12
                    exact (dd_le c12 (show (1 : Int) ≤ (1 : Int32).toInt ∧ (1 : Int32).toInt ≤ 1 by decide) (show (0 : Int) ≤ (0 : Int32).toInt ∧ (0 : Int32).toInt ≤ 0 by decide) (by decide)).elim
                  · have wc12 : (0 : Int) < (1 : Int) := c_nle c12
                    try unfold fM_refuse_41
                    refine tt_bw (iv_b (show (1 : Int) ≤ (1 : Int32).toInt ∧ (1 : Int32).toInt ≤ 1 by decide) (by decide) (by decide)) ?_
                    refine tt_bs ?_
                    refine tt_if (fun c13 => ?_) (fun c13 => ?_)
                    · have wc13 : (1 : Int) = (0 : Int) := c_eq c13
                      exact (dd_eq c13 (show (1 : Int) ≤ (1 : Int32).toInt ∧ (1 : Int32).toInt ≤ 1 by decide) (show (0 : Int) ≤ (0 : Int32).toInt ∧ (0 : Int32).toInt ≤ 0 by decide) (by decide)).elim
                    · have wc13 : ¬ (1 : Int) = (0 : Int) := c_ne c13
                      exact tt_some ⟨k10, r11, trivial⟩
              · have wc8 : ¬ (0 : Int) = (0 : Int) := c_ne c8
                exact (dd_ne c8 (show (0 : Int) ≤ (0 : Int32).toInt ∧ (0 : Int32).toInt ≤ 0 by decide) (show (0 : Int) ≤ (0 : Int32).toInt ∧ (0 : Int32).toInt ≤ 0 by decide)).elim
            · have wc7 : ¬ (o0.1 85).toInt = (0 : Int) := c_ne c7
              exact (dd_ne c7 i2 (show (0 : Int) ≤ (0 : Int32).toInt ∧ (0 : Int32).toInt ≤ 0 by decide)).elim
          · have wc6 : ¬ (o0.1 85).toInt = (0 : Int) := c_ne c6
            exact (dd_ne c6 i2 (show (0 : Int) ≤ (0 : Int32).toInt ∧ (0 : Int32).toInt ≤ 0 by decide)).elim
        · have wc5 : ¬ (0 : Int) = (0 : Int) := c_ne c5
          exact (dd_ne c5 (show (0 : Int) ≤ (0 : Int32).toInt ∧ (0 : Int32).toInt ≤ 0 by decide) (show (0 : Int) ≤ (0 : Int32).toInt ∧ (0 : Int32).toInt ≤ 0 by decide)).elim
      · have wc4 : ¬ (0 : Int) = (0 : Int) := c_ne c4
        exact (dd_ne c4 (show (0 : Int) ≤ (0 : Int32).toInt ∧ (0 : Int32).toInt ≤ 0 by decide) (show (0 : Int) ≤ (0 : Int32).toInt ∧ (0 : Int32).toInt ≤ 0 by decide)).elim
    · have wc3 : ¬ (0 : Int) = (0 : Int) := c_ne c3
      exact (dd_ne c3 (show (0 : Int) ≤ (0 : Int32).toInt ∧ (0 : Int32).toInt ≤ 0 by decide) (show (0 : Int) ≤ (0 : Int32).toInt ∧ (0 : Int32).toInt ≤ 0 by decide)).elim
  · have wc1 : ¬ (o0.1 85).toInt = (0 : Int) := c_ne c1
    have i14 : (1 : Int) ≤ (o0.1 85).toInt ∧ (o0.1 85).toInt ≤ 1 := nr_nela c1 (k_o0.1 85) (show (0 : Int) ≤ (0 : Int32).toInt ∧ (0 : Int32).toInt ≤ 0 by decide) (by decide) (by decide)
    refine tt_kv (P := fun z => (((-1) : Int) ≤ z.toInt ∧ z.toInt ≤ 419) ∧ z.toInt = (o0.1 93).toInt - 1) ⟨iv_sub (k_o0.1 93) (show (1 : Int) ≤ (1 : Int32).toInt ∧ (1 : Int32).toInt ≤ 1 by decide) (by decide) (by decide) (by decide) (by decide), iq_sub (k_o0.1 93) (show (1 : Int) ≤ (1 : Int32).toInt ∧ (1 : Int32).toInt ≤ 1 by decide) (by decide) (by decide)⟩ (fun x15 qi16 => ?_)
    obtain ⟨i16, ei16⟩ := qi16
    try unfold fM_in
    try unfold fM_in_0
    refine tt_bif (fun c17 => ?_) (fun c17 => ?_)
    · have wc17 : v1.toInt < (0 : Int) := c_lt c17
      have i18 : ((-2147483648) : Int) ≤ v1.toInt ∧ v1.toInt ≤ (-1) := nr_ltl c17 (iv_top v1) (show (0 : Int) ≤ (0 : Int32).toInt ∧ (0 : Int32).toInt ≤ 0 by decide) (by decide) (by decide)
      try unfold fM_in_14
      try unfold fM_in_15
      refine tt_bw (iv_b (show (0 : Int) ≤ (0 : Int32).toInt ∧ (0 : Int32).toInt ≤ 0 by decide) (by decide) (by decide)) ?_
      refine tt_bs ?_
      refine tt_if (fun c19 => ?_) (fun c19 => ?_)
      · have wc19 : (0 : Int) = (0 : Int) := c_eq c19
        try unfold fM_instance_25
        try unfold fM_instance_26
        refine tt_if (fun c20 => ?_) (fun c20 => ?_)
        · have wc20 : (0 : Int) = (0 : Int) := c_eq c20
          try unfold fM_instance_41
          refine tt_if (fun c21 => ?_) (fun c21 => ?_)
          · have wc21 : (0 : Int) = (0 : Int) := c_eq c21
            try unfold fM_instance_71
            refine tt_if (fun c22 => ?_) (fun c22 => ?_)
            · have wc22 : (0 : Int) = (0 : Int) := c_eq c22
              try unfold fM_instance_90
              try unfold fM_instance_95
              refine tt_if (fun c23 => ?_) (fun c23 => ?_)
              · have wc23 : (o0.1 85).toInt = (0 : Int) := c_eq c23
                exact (dd_eq c23 i14 (show (0 : Int) ≤ (0 : Int32).toInt ∧ (0 : Int32).toInt ≤ 0 by decide) (by decide)).elim
              · have wc23 : ¬ (o0.1 85).toInt = (0 : Int) := c_ne c23
                try unfold fM_instance_110
                refine tt_if (fun c24 => ?_) (fun c24 => ?_)
                · have wc24 : (o0.1 85).toInt = (0 : Int) := c_eq c24
                  exact (dd_eq c24 i14 (show (0 : Int) ≤ (0 : Int32).toInt ∧ (0 : Int32).toInt ≤ 0 by decide) (by decide)).elim
                · have wc24 : ¬ (o0.1 85).toInt = (0 : Int) := c_ne c24
                  refine tt_if (fun c25 => ?_) (fun c25 => ?_)
                  · have wc25 : (1 : Int) = (0 : Int) := c_eq c25
                    exact (dd_eq c25 (show (1 : Int) ≤ (1 : Int32).toInt ∧ (1 : Int32).toInt ≤ 1 by decide) (show (0 : Int) ≤ (0 : Int32).toInt ∧ (0 : Int32).toInt ≤ 0 by decide) (by decide)).elim
                  · have wc25 : ¬ (1 : Int) = (0 : Int) := c_ne c25
                    try unfold fM_instance_127
                    refine tt_if (fun c26 => ?_) (fun c26 => ?_)
                    · have wc26 : (0 : Int) = (0 : Int) := c_eq c26
                      try unfold fM_instance_139
                      try unfold fM_instance_140
                      try unfold fM_refuse
                      try unfold fM_refuse_0
                      refine tt_bif (fun c27 => ?_) (fun c27 => ?_)
                      · have wc27 : (0 : Int) = (0 : Int) := c_eq c27
                        refine tt_bif (fun c28 => ?_) (fun c28 => ?_)
                        · have wc28 : (1 : Int) = (0 : Int) := c_eq c28
                          exact (dd_eq c28 (show (1 : Int) ≤ (1 : Int32).toInt ∧ (1 : Int32).toInt ≤ 1 by decide) (show (0 : Int) ≤ (0 : Int32).toInt ∧ (0 : Int32).toInt ≤ 0 by decide) (by decide)).elim
                        · have wc28 : ¬ (1 : Int) = (0 : Int) := c_ne c28
                          try unfold fM_refuse_26
                          refine tt_bko ?_
                          have k29 := ok_fp (k := 0) (v := 2) k_o0 (iv_w (a := 0) (b := 3) (by decide) (by decide) (show (2 : Int) ≤ (2 : Int32).toInt ∧ (2 : Int32).toInt ≤ 2 by decide))
                          have r30 := fr_fp (k := 0) (v := 2) r_o0 rfl
                          refine tt_bif (fun c31 => ?_) (fun c31 => ?_)
                          · have wc31 : (2 : Int) ≤ (0 : Int) := c_le c31
                            exact (dd_le c31 (show (2 : Int) ≤ (2 : Int32).toInt ∧ (2 : Int32).toInt ≤ 2 by decide) (show (0 : Int) ≤ (0 : Int32).toInt ∧ (0 : Int32).toInt ≤ 0 by decide) (by decide)).elim
                          · have wc31 : (0 : Int) < (2 : Int) := c_nle c31
                            try unfold fM_refuse_41
                            refine tt_bw (iv_b (show (1 : Int) ≤ (1 : Int32).toInt ∧ (1 : Int32).toInt ≤ 1 by decide) (by decide) (by decide)) ?_
                            refine tt_bs ?_
                            refine tt_if (fun c32 => ?_) (fun c32 => ?_)
                            · have wc32 : (1 : Int) = (0 : Int) := c_eq c32
                              exact (dd_eq c32 (show (1 : Int) ≤ (1 : Int32).toInt ∧ (1 : Int32).toInt ≤ 1 by decide) (show (0 : Int) ≤ (0 : Int32).toInt ∧ (0 : Int32).toInt ≤ 0 by decide) (by decide)).elim
                            · have wc32 : ¬ (1 : Int) = (0 : Int) := c_ne c32
                              exact tt_some ⟨k29, r30, trivial⟩
                      · have wc27 : ¬ (0 : Int) = (0 : Int) := c_ne c27
                        exact (dd_ne c27 (show (0 : Int) ≤ (0 : Int32).toInt ∧ (0 : Int32).toInt ≤ 0 by decide) (show (0 : Int) ≤ (0 : Int32).toInt ∧ (0 : Int32).toInt ≤ 0 by decide)).elim
                    · have wc26 : ¬ (0 : Int) = (0 : Int) := c_ne c26
                      exact (dd_ne c26 (show (0 : Int) ≤ (0 : Int32).toInt ∧ (0 : Int32).toInt ≤ 0 by decide) (show (0 : Int) ≤ (0 : Int32).toInt ∧ (0 : Int32).toInt ≤ 0 by decide)).elim
            · have wc22 : ¬ (0 : Int) = (0 : Int) := c_ne c22
              exact (dd_ne c22 (show (0 : Int) ≤ (0 : Int32).toInt ∧ (0 : Int32).toInt ≤ 0 by decide) (show (0 : Int) ≤ (0 : Int32).toInt ∧ (0 : Int32).toInt ≤ 0 by decide)).elim
          · have wc21 : ¬ (0 : Int) = (0 : Int) := c_ne c21
            exact (dd_ne c21 (show (0 : Int) ≤ (0 : Int32).toInt ∧ (0 : Int32).toInt ≤ 0 by decide) (show (0 : Int) ≤ (0 : Int32).toInt ∧ (0 : Int32).toInt ≤ 0 by decide)).elim
        · have wc20 : ¬ (0 : Int) = (0 : Int) := c_ne c20
          exact (dd_ne c20 (show (0 : Int) ≤ (0 : Int32).toInt ∧ (0 : Int32).toInt ≤ 0 by decide) (show (0 : Int) ≤ (0 : Int32).toInt ∧ (0 : Int32).toInt ≤ 0 by decide)).elim
      · have wc19 : ¬ (0 : Int) = (0 : Int) := c_ne c19
        exact (dd_ne c19 (show (0 : Int) ≤ (0 : Int32).toInt ∧ (0 : Int32).toInt ≤ 0 by decide) (show (0 : Int) ≤ (0 : Int32).toInt ∧ (0 : Int32).toInt ≤ 0 by decide)).elim
    · have wc17 : (0 : Int) ≤ v1.toInt := c_nlt c17
      have i33 : (0 : Int) ≤ v1.toInt ∧ v1.toInt ≤ 2147483647 := nr_nltr c17 (show (0 : Int) ≤ (0 : Int32).toInt ∧ (0 : Int32).toInt ≤ 0 by decide) (iv_top v1) (by decide) (by decide)
      refine tt_bif (fun c34 => ?_) (fun c34 => ?_)
      · have wc34 : x15.toInt < v1.toInt := c_lt c34
        try unfold fM_in_14
        try unfold fM_in_15
        refine tt_bw (iv_b (show (0 : Int) ≤ (0 : Int32).toInt ∧ (0 : Int32).toInt ≤ 0 by decide) (by decide) (by decide)) ?_
        refine tt_bs ?_
        refine tt_if (fun c35 => ?_) (fun c35 => ?_)
        · have wc35 : (0 : Int) = (0 : Int) := c_eq c35
          try unfold fM_instance_25
          try unfold fM_instance_26
          refine tt_if (fun c36 => ?_) (fun c36 => ?_)
          · have wc36 : (0 : Int) = (0 : Int) := c_eq c36
            try unfold fM_instance_41
            refine tt_if (fun c37 => ?_) (fun c37 => ?_)
            · have wc37 : (0 : Int) = (0 : Int) := c_eq c37
              try unfold fM_instance_71
              refine tt_if (fun c38 => ?_) (fun c38 => ?_)
              · have wc38 : (0 : Int) = (0 : Int) := c_eq c38
                try unfold fM_instance_90
                try unfold fM_instance_95
                refine tt_if (fun c39 => ?_) (fun c39 => ?_)
                · have wc39 : (o0.1 85).toInt = (0 : Int) := c_eq c39
                  exact (dd_eq c39 i14 (show (0 : Int) ≤ (0 : Int32).toInt ∧ (0 : Int32).toInt ≤ 0 by decide) (by decide)).elim
                · have wc39 : ¬ (o0.1 85).toInt = (0 : Int) := c_ne c39
                  try unfold fM_instance_110
                  refine tt_if (fun c40 => ?_) (fun c40 => ?_)
                  · have wc40 : (o0.1 85).toInt = (0 : Int) := c_eq c40
                    exact (dd_eq c40 i14 (show (0 : Int) ≤ (0 : Int32).toInt ∧ (0 : Int32).toInt ≤ 0 by decide) (by decide)).elim
                  · have wc40 : ¬ (o0.1 85).toInt = (0 : Int) := c_ne c40
                    refine tt_if (fun c41 => ?_) (fun c41 => ?_)
                    · have wc41 : (1 : Int) = (0 : Int) := c_eq c41
                      exact (dd_eq c41 (show (1 : Int) ≤ (1 : Int32).toInt ∧ (1 : Int32).toInt ≤ 1 by decide) (show (0 : Int) ≤ (0 : Int32).toInt ∧ (0 : Int32).toInt ≤ 0 by decide) (by decide)).elim
                    · have wc41 : ¬ (1 : Int) = (0 : Int) := c_ne c41
                      try unfold fM_instance_127
                      refine tt_if (fun c42 => ?_) (fun c42 => ?_)
                      · have wc42 : (0 : Int) = (0 : Int) := c_eq c42
                        try unfold fM_instance_139
                        try unfold fM_instance_140
                        try unfold fM_refuse
                        try unfold fM_refuse_0
                        refine tt_bif (fun c43 => ?_) (fun c43 => ?_)
                        · have wc43 : (0 : Int) = (0 : Int) := c_eq c43
                          refine tt_bif (fun c44 => ?_) (fun c44 => ?_)
                          · have wc44 : (1 : Int) = (0 : Int) := c_eq c44
                            exact (dd_eq c44 (show (1 : Int) ≤ (1 : Int32).toInt ∧ (1 : Int32).toInt ≤ 1 by decide) (show (0 : Int) ≤ (0 : Int32).toInt ∧ (0 : Int32).toInt ≤ 0 by decide) (by decide)).elim
                          · have wc44 : ¬ (1 : Int) = (0 : Int) := c_ne c44
                            try unfold fM_refuse_26
                            refine tt_bko ?_
                            have k45 := ok_fp (k := 0) (v := 2) k_o0 (iv_w (a := 0) (b := 3) (by decide) (by decide) (show (2 : Int) ≤ (2 : Int32).toInt ∧ (2 : Int32).toInt ≤ 2 by decide))
                            have r46 := fr_fp (k := 0) (v := 2) r_o0 rfl
                            refine tt_bif (fun c47 => ?_) (fun c47 => ?_)
                            · have wc47 : (2 : Int) ≤ (0 : Int) := c_le c47
                              exact (dd_le c47 (show (2 : Int) ≤ (2 : Int32).toInt ∧ (2 : Int32).toInt ≤ 2 by decide) (show (0 : Int) ≤ (0 : Int32).toInt ∧ (0 : Int32).toInt ≤ 0 by decide) (by decide)).elim
                            · have wc47 : (0 : Int) < (2 : Int) := c_nle c47
                              try unfold fM_refuse_41
                              refine tt_bw (iv_b (show (1 : Int) ≤ (1 : Int32).toInt ∧ (1 : Int32).toInt ≤ 1 by decide) (by decide) (by decide)) ?_
                              refine tt_bs ?_
                              refine tt_if (fun c48 => ?_) (fun c48 => ?_)
                              · have wc48 : (1 : Int) = (0 : Int) := c_eq c48
                                exact (dd_eq c48 (show (1 : Int) ≤ (1 : Int32).toInt ∧ (1 : Int32).toInt ≤ 1 by decide) (show (0 : Int) ≤ (0 : Int32).toInt ∧ (0 : Int32).toInt ≤ 0 by decide) (by decide)).elim
                              · have wc48 : ¬ (1 : Int) = (0 : Int) := c_ne c48
                                exact tt_some ⟨k45, r46, trivial⟩
                        · have wc43 : ¬ (0 : Int) = (0 : Int) := c_ne c43
                          exact (dd_ne c43 (show (0 : Int) ≤ (0 : Int32).toInt ∧ (0 : Int32).toInt ≤ 0 by decide) (show (0 : Int) ≤ (0 : Int32).toInt ∧ (0 : Int32).toInt ≤ 0 by decide)).elim
                      · have wc42 : ¬ (0 : Int) = (0 : Int) := c_ne c42
                        exact (dd_ne c42 (show (0 : Int) ≤ (0 : Int32).toInt ∧ (0 : Int32).toInt ≤ 0 by decide) (show (0 : Int) ≤ (0 : Int32).toInt ∧ (0 : Int32).toInt ≤ 0 by decide)).elim
              · have wc38 : ¬ (0 : Int) = (0 : Int) := c_ne c38
                exact (dd_ne c38 (show (0 : Int) ≤ (0 : Int32).toInt ∧ (0 : Int32).toInt ≤ 0 by decide) (show (0 : Int) ≤ (0 : Int32).toInt ∧ (0 : Int32).toInt ≤ 0 by decide)).elim
            · have wc37 : ¬ (0 : Int) = (0 : Int) := c_ne c37
              exact (dd_ne c37 (show (0 : Int) ≤ (0 : Int32).toInt ∧ (0 : Int32).toInt ≤ 0 by decide) (show (0 : Int) ≤ (0 : Int32).toInt ∧ (0 : Int32).toInt ≤ 0 by decide)).elim
          · have wc36 : ¬ (0 : Int) = (0 : Int) := c_ne c36
            exact (dd_ne c36 (show (0 : Int) ≤ (0 : Int32).toInt ∧ (0 : Int32).toInt ≤ 0 by decide) (show (0 : Int) ≤ (0 : Int32).toInt ∧ (0 : Int32).toInt ≤ 0 by decide)).elim
        · have wc35 : ¬ (0 : Int) = (0 : Int) := c_ne c35
          exact (dd_ne c35 (show (0 : Int) ≤ (0 : Int32).toInt ∧ (0 : Int32).toInt ≤ 0 by decide) (show (0 : Int) ≤ (0 : Int32).toInt ∧ (0 : Int32).toInt ≤ 0 by decide)).elim
      · have wc34 : v1.toInt ≤ x15.toInt := c_nlt c34
        have i49 : (0 : Int) ≤ v1.toInt ∧ v1.toInt ≤ 419 := nr_nltl c34 i33 i16 (by decide) (by decide)
        have i50 : (0 : Int) ≤ x15.toInt ∧ x15.toInt ≤ 419 := nr_nltr c34 i33 i16 (by decide) (by decide)
        have i51 : (1 : Int) ≤ (o0.1 93).toInt ∧ (o0.1 93).toInt ≤ 420 := by omega
        try unfold fM_in_15
        refine tt_bw (iv_b (show (1 : Int) ≤ (1 : Int32).toInt ∧ (1 : Int32).toInt ≤ 1 by decide) (by decide) (by decide)) ?_
        refine tt_bs ?_
        refine tt_if (fun c52 => ?_) (fun c52 => ?_)
        · have wc52 : (1 : Int) = (0 : Int) := c_eq c52
          exact (dd_eq c52 (show (1 : Int) ≤ (1 : Int32).toInt ∧ (1 : Int32).toInt ≤ 1 by decide) (show (0 : Int) ≤ (0 : Int32).toInt ∧ (0 : Int32).toInt ≤ 0 by decide) (by decide)).elim
        · have wc52 : ¬ (1 : Int) = (0 : Int) := c_ne c52
          try unfold fM_instance_26
          refine tt_if (fun c53 => ?_) (fun c53 => ?_)
          · have wc53 : (1 : Int) = (0 : Int) := c_eq c53
            exact (dd_eq c53 (show (1 : Int) ≤ (1 : Int32).toInt ∧ (1 : Int32).toInt ≤ 1 by decide) (show (0 : Int) ≤ (0 : Int32).toInt ∧ (0 : Int32).toInt ≤ 0 by decide) (by decide)).elim
          · have wc53 : ¬ (1 : Int) = (0 : Int) := c_ne c53
            refine tt_n (ix_ok i49 (by decide) (by decide)) ?_
            refine tt_kv (P := fun z => ((0 : Int) ≤ z.toInt ∧ z.toInt ≤ 419) ∧ z.toInt = (o0.2.1 94 v1.toNatClampNeg).toInt) ⟨(k_o0.2 94 _), rfl⟩ (fun x54 qi55 => ?_)
            obtain ⟨i55, ei55⟩ := qi55
            try unfold fM_instance_41
            refine tt_if (fun c56 => ?_) (fun c56 => ?_)
            · have wc56 : (1 : Int) = (0 : Int) := c_eq c56
              exact (dd_eq c56 (show (1 : Int) ≤ (1 : Int32).toInt ∧ (1 : Int32).toInt ≤ 1 by decide) (show (0 : Int) ≤ (0 : Int32).toInt ∧ (0 : Int32).toInt ≤ 0 by decide) (by decide)).elim
            · have wc56 : ¬ (1 : Int) = (0 : Int) := c_ne c56
              refine tt_kv (P := fun z => ((0 : Int) ≤ z.toInt ∧ z.toInt ≤ 2095) ∧ z.toInt = 5 * x54.toInt) ⟨iv_mul (show (5 : Int) ≤ (5 : Int32).toInt ∧ (5 : Int32).toInt ≤ 5 by decide) i55 (by decide) (by decide) (by decide) (by decide) (by decide), iq_mul (show (5 : Int) ≤ (5 : Int32).toInt ∧ (5 : Int32).toInt ≤ 5 by decide) i55 (by decide) (by decide) (by decide) (by decide)⟩ (fun x57 qi58 => ?_)
              obtain ⟨i58, ei58⟩ := qi58
              refine tt_kv (P := fun z => ((1 : Int) ≤ z.toInt ∧ z.toInt ≤ 2096) ∧ z.toInt = x57.toInt + 1) ⟨iv_add i58 (show (1 : Int) ≤ (1 : Int32).toInt ∧ (1 : Int32).toInt ≤ 1 by decide) (by decide) (by decide) (by decide) (by decide), iq_add i58 (show (1 : Int) ≤ (1 : Int32).toInt ∧ (1 : Int32).toInt ≤ 1 by decide) (by decide) (by decide)⟩ (fun x59 qi60 => ?_)
              obtain ⟨i60, ei60⟩ := qi60
              refine tt_n (ix_ok i60 (by decide) (by decide)) ?_
              refine tt_kv (P := fun z => (((-2147483648) : Int) ≤ z.toInt ∧ z.toInt ≤ 2147483647) ∧ z.toInt = (o0.2.1 87 x59.toNatClampNeg).toInt) ⟨(k_o0.2 87 _), rfl⟩ (fun x61 qi62 => ?_)
              obtain ⟨i62, ei62⟩ := qi62
              have t63 := tn_n x59
              have t64 := x_0 (x59.toNatClampNeg)
              have i65 : (0 : Int) ≤ x61.toInt ∧ x61.toInt ≤ 11 := by omega
              refine tt_kv (P := fun z => ((0 : Int) ≤ z.toInt ∧ z.toInt ≤ 44) ∧ z.toInt = 4 * x61.toInt) ⟨iv_mul (show (4 : Int) ≤ (4 : Int32).toInt ∧ (4 : Int32).toInt ≤ 4 by decide) i65 (by decide) (by decide) (by decide) (by decide) (by decide), iq_mul (show (4 : Int) ≤ (4 : Int32).toInt ∧ (4 : Int32).toInt ≤ 4 by decide) i65 (by decide) (by decide) (by decide) (by decide)⟩ (fun x66 qi67 => ?_)
              obtain ⟨i67, ei67⟩ := qi67
              refine tt_kv (P := fun z => ((2 : Int) ≤ z.toInt ∧ z.toInt ≤ 46) ∧ z.toInt = x66.toInt + 2) ⟨iv_add i67 (show (2 : Int) ≤ (2 : Int32).toInt ∧ (2 : Int32).toInt ≤ 2 by decide) (by decide) (by decide) (by decide) (by decide), iq_add i67 (show (2 : Int) ≤ (2 : Int32).toInt ∧ (2 : Int32).toInt ≤ 2 by decide) (by decide) (by decide)⟩ (fun x68 qi69 => ?_)
              obtain ⟨i69, ei69⟩ := qi69
              refine tt_n (ix_ok i69 (by decide) (by decide)) ?_
              refine tt_kv (P := fun z => (((-2147483648) : Int) ≤ z.toInt ∧ z.toInt ≤ 2147483647) ∧ z.toInt = (o0.2.1 84 x68.toNatClampNeg).toInt) ⟨(k_o0.2 84 _), rfl⟩ (fun x70 qi71 => ?_)
              obtain ⟨i71, ei71⟩ := qi71
              have t72 := tn_n x68
              have t73 := x_1 (x68.toNatClampNeg)
              have i74 : (0 : Int) ≤ x70.toInt ∧ x70.toInt ≤ 3 := by omega
              try unfold fM_instance_71
              refine tt_if (fun c75 => ?_) (fun c75 => ?_)
              · have wc75 : (1 : Int) = (0 : Int) := c_eq c75
                exact (dd_eq c75 (show (1 : Int) ≤ (1 : Int32).toInt ∧ (1 : Int32).toInt ≤ 1 by decide) (show (0 : Int) ≤ (0 : Int32).toInt ∧ (0 : Int32).toInt ≤ 0 by decide) (by decide)).elim
              · have wc75 : ¬ (1 : Int) = (0 : Int) := c_ne c75
                refine tt_if (fun c76 => ?_) (fun c76 => ?_)
                · have wc76 : v2.toInt ≤ (2 : Int) := c_le c76
                  have i77 : ((-2147483648) : Int) ≤ v2.toInt ∧ v2.toInt ≤ 2 := nr_lel c76 (iv_top v2) (show (2 : Int) ≤ (2 : Int32).toInt ∧ (2 : Int32).toInt ≤ 2 by decide) (by decide) (by decide)
                  try unfold fM_instance_94
                  try unfold fM_instance_95
                  refine tt_if (fun c78 => ?_) (fun c78 => ?_)
                  · have wc78 : (o0.1 85).toInt = (0 : Int) := c_eq c78
                    exact (dd_eq c78 i14 (show (0 : Int) ≤ (0 : Int32).toInt ∧ (0 : Int32).toInt ≤ 0 by decide) (by decide)).elim
                  · have wc78 : ¬ (o0.1 85).toInt = (0 : Int) := c_ne c78
                    try unfold fM_instance_110
                    refine tt_if (fun c79 => ?_) (fun c79 => ?_)
                    · have wc79 : (o0.1 85).toInt = (0 : Int) := c_eq c79
                      exact (dd_eq c79 i14 (show (0 : Int) ≤ (0 : Int32).toInt ∧ (0 : Int32).toInt ≤ 0 by decide) (by decide)).elim
                    · have wc79 : ¬ (o0.1 85).toInt = (0 : Int) := c_ne c79
                      refine tt_if (fun c80 => ?_) (fun c80 => ?_)
                      · have wc80 : (0 : Int) = (0 : Int) := c_eq c80
                        try unfold fM_instance_126
                        try unfold fM_instance_127
                        refine tt_if (fun c81 => ?_) (fun c81 => ?_)
                        · have wc81 : (1 : Int) = (0 : Int) := c_eq c81
                          exact (dd_eq c81 (show (1 : Int) ≤ (1 : Int32).toInt ∧ (1 : Int32).toInt ≤ 1 by decide) (show (0 : Int) ≤ (0 : Int32).toInt ∧ (0 : Int32).toInt ≤ 0 by decide) (by decide)).elim
                        · have wc81 : ¬ (1 : Int) = (0 : Int) := c_ne c81
                          refine tt_if (fun c82 => ?_) (fun c82 => ?_)
                          · have wc82 : (0 : Int) ≤ v2.toInt := c_le c82
                            have i83 : (0 : Int) ≤ v2.toInt ∧ v2.toInt ≤ 2 := nr_ler c82 (show (0 : Int) ≤ (0 : Int32).toInt ∧ (0 : Int32).toInt ≤ 0 by decide) i77 (by decide) (by decide)
                            try unfold fM_instance_139
                            try unfold fM_instance_140
                            try unfold fM_refuse
                            try unfold fM_refuse_0
                            refine tt_bif (fun c84 => ?_) (fun c84 => ?_)
                            · have wc84 : (0 : Int) = (0 : Int) := c_eq c84
                              refine tt_bif (fun c85 => ?_) (fun c85 => ?_)
                              · have wc85 : (0 : Int) = (0 : Int) := c_eq c85
                                refine tt_bif (fun c86 => ?_) (fun c86 => ?_)
                                · have wc86 : (0 : Int) = (0 : Int) := c_eq c86
                                  try unfold fM_refuse_26
                                  refine tt_bko ?_
                                  have k87 := ok_fp (k := 0) (v := 0) k_o0 (iv_w (a := 0) (b := 3) (by decide) (by decide) (show (0 : Int) ≤ (0 : Int32).toInt ∧ (0 : Int32).toInt ≤ 0 by decide))
                                  have r88 := fr_fp (k := 0) (v := 0) r_o0 rfl
                                  refine tt_bif (fun c89 => ?_) (fun c89 => ?_)
                                  · have wc89 : (0 : Int) ≤ (0 : Int) := c_le c89
                                    try unfold fM_refuse_41
                                    refine tt_bw (iv_b (show (0 : Int) ≤ (0 : Int32).toInt ∧ (0 : Int32).toInt ≤ 0 by decide) (by decide) (by decide)) ?_
                                    refine tt_bs ?_
                                    refine tt_if (fun c90 => ?_) (fun c90 => ?_)
                                    · have wc90 : (0 : Int) = (0 : Int) := c_eq c90
                                      refine tt_if (fun c91 => ?_) (fun c91 => ?_)
                                      · have wc91 : v2.toInt = (0 : Int) := c_eq c91
                                        have i92 : (0 : Int) ≤ v2.toInt ∧ v2.toInt ≤ 0 := nr_eql c91 i83 (show (0 : Int) ≤ (0 : Int32).toInt ∧ (0 : Int32).toInt ≤ 0 by decide) (by decide) (by decide)
                                        try unfold fM_instance_208
                                        exact tt_some ⟨k87, r88, trivial⟩
                                      · have wc91 : ¬ v2.toInt = (0 : Int) := c_ne c91
                                        have i93 : (1 : Int) ≤ v2.toInt ∧ v2.toInt ≤ 2 := nr_nela c91 i83 (show (0 : Int) ≤ (0 : Int32).toInt ∧ (0 : Int32).toInt ≤ 0 by decide) (by decide) (by decide)
                                        refine tt_if (fun c94 => ?_) (fun c94 => ?_)
                                        · have wc94 : v2.toInt = (1 : Int) := c_eq c94
                                          have i95 : (1 : Int) ≤ v2.toInt ∧ v2.toInt ≤ 1 := nr_eql c94 i93 (show (1 : Int) ≤ (1 : Int32).toInt ∧ (1 : Int32).toInt ≤ 1 by decide) (by decide) (by decide)
                                          refine tt_kv (P := fun z => ((0 : Int) ≤ z.toInt ∧ z.toInt ≤ 2095) ∧ z.toInt = 5 * x54.toInt) ⟨iv_mul (show (5 : Int) ≤ (5 : Int32).toInt ∧ (5 : Int32).toInt ≤ 5 by decide) i55 (by decide) (by decide) (by decide) (by decide) (by decide), iq_mul (show (5 : Int) ≤ (5 : Int32).toInt ∧ (5 : Int32).toInt ≤ 5 by decide) i55 (by decide) (by decide) (by decide) (by decide)⟩ (fun x96 qi97 => ?_)
                                          obtain ⟨i97, ei97⟩ := qi97
                                          refine tt_kv (P := fun z => ((1 : Int) ≤ z.toInt ∧ z.toInt ≤ 2096) ∧ z.toInt = x96.toInt + 1) ⟨iv_add i97 (show (1 : Int) ≤ (1 : Int32).toInt ∧ (1 : Int32).toInt ≤ 1 by decide) (by decide) (by decide) (by decide) (by decide), iq_add i97 (show (1 : Int) ≤ (1 : Int32).toInt ∧ (1 : Int32).toInt ≤ 1 by decide) (by decide) (by decide)⟩ (fun x98 qi99 => ?_)
                                          obtain ⟨i99, ei99⟩ := qi99
                                          refine tt_n (ix_ok i99 (by decide) (by decide)) ?_
                                          refine tt_kv (P := fun z => (((-2147483648) : Int) ≤ z.toInt ∧ z.toInt ≤ 2147483647) ∧ z.toInt = (o0.2.1 87 x98.toNatClampNeg).toInt) ⟨(k87.2 87 _), rfl⟩ (fun x100 qi101 => ?_)
                                          obtain ⟨i101, ei101⟩ := qi101
                                          have t102 := tn_n x98
                                          have t103 := x_0 (x98.toNatClampNeg)
                                          have i104 : (0 : Int) ≤ x100.toInt ∧ x100.toInt ≤ 11 := by omega
                                          try unfold fM_instance_208
                                          exact tt_some ⟨k87, r88, trivial⟩
                                        · have wc94 : ¬ v2.toInt = (1 : Int) := c_ne c94
                                          have i105 : (2 : Int) ≤ v2.toInt ∧ v2.toInt ≤ 2 := nr_nela c94 i93 (show (1 : Int) ≤ (1 : Int32).toInt ∧ (1 : Int32).toInt ≤ 1 by decide) (by decide) (by decide)
                                          refine tt_if (fun c106 => ?_) (fun c106 => ?_)
                                          · have wc106 : v2.toInt = (2 : Int) := c_eq c106
                                            refine tt_kv (P := fun z => ((0 : Int) ≤ z.toInt ∧ z.toInt ≤ 2095) ∧ z.toInt = 5 * x54.toInt) ⟨iv_mul (show (5 : Int) ≤ (5 : Int32).toInt ∧ (5 : Int32).toInt ≤ 5 by decide) i55 (by decide) (by decide) (by decide) (by decide) (by decide), iq_mul (show (5 : Int) ≤ (5 : Int32).toInt ∧ (5 : Int32).toInt ≤ 5 by decide) i55 (by decide) (by decide) (by decide) (by decide)⟩ (fun x107 qi108 => ?_)
                                            obtain ⟨i108, ei108⟩ := qi108
                                            refine tt_n (ix_ok i108 (by decide) (by decide)) ?_
                                            refine tt_kv (P := fun z => (((-2147483648) : Int) ≤ z.toInt ∧ z.toInt ≤ 2147483647) ∧ z.toInt = (o0.2.1 87 x107.toNatClampNeg).toInt) ⟨(k87.2 87 _), rfl⟩ (fun x109 qi110 => ?_)
                                            obtain ⟨i110, ei110⟩ := qi110
                                            have t111 := tn_n x107
                                            have t112 := x_0 (x107.toNatClampNeg)
                                            try unfold fM_instance_208
                                            exact tt_some ⟨k87, r88, trivial⟩
                                          · have wc106 : ¬ v2.toInt = (2 : Int) := c_ne c106
                                            exact (dd_ne c106 i105 (show (2 : Int) ≤ (2 : Int32).toInt ∧ (2 : Int32).toInt ≤ 2 by decide)).elim
                                    · have wc90 : ¬ (0 : Int) = (0 : Int) := c_ne c90
                                      exact (dd_ne c90 (show (0 : Int) ≤ (0 : Int32).toInt ∧ (0 : Int32).toInt ≤ 0 by decide) (show (0 : Int) ≤ (0 : Int32).toInt ∧ (0 : Int32).toInt ≤ 0 by decide)).elim
                                  · have wc89 : (0 : Int) < (0 : Int) := c_nle c89
                                    exact (dd_nle c89 (show (0 : Int) ≤ (0 : Int32).toInt ∧ (0 : Int32).toInt ≤ 0 by decide) (show (0 : Int) ≤ (0 : Int32).toInt ∧ (0 : Int32).toInt ≤ 0 by decide) (by decide)).elim
                                · have wc86 : ¬ (0 : Int) = (0 : Int) := c_ne c86
                                  exact (dd_ne c86 (show (0 : Int) ≤ (0 : Int32).toInt ∧ (0 : Int32).toInt ≤ 0 by decide) (show (0 : Int) ≤ (0 : Int32).toInt ∧ (0 : Int32).toInt ≤ 0 by decide)).elim
                              · have wc85 : ¬ (0 : Int) = (0 : Int) := c_ne c85
                                exact (dd_ne c85 (show (0 : Int) ≤ (0 : Int32).toInt ∧ (0 : Int32).toInt ≤ 0 by decide) (show (0 : Int) ≤ (0 : Int32).toInt ∧ (0 : Int32).toInt ≤ 0 by decide)).elim
                            · have wc84 : ¬ (0 : Int) = (0 : Int) := c_ne c84
                              exact (dd_ne c84 (show (0 : Int) ≤ (0 : Int32).toInt ∧ (0 : Int32).toInt ≤ 0 by decide) (show (0 : Int) ≤ (0 : Int32).toInt ∧ (0 : Int32).toInt ≤ 0 by decide)).elim
                          · have wc82 : v2.toInt < (0 : Int) := c_nle c82
                            have i113 : ((-2147483648) : Int) ≤ v2.toInt ∧ v2.toInt ≤ (-1) := nr_nlel c82 i77 (show (0 : Int) ≤ (0 : Int32).toInt ∧ (0 : Int32).toInt ≤ 0 by decide) (by decide) (by decide)
                            try unfold fM_instance_140
                            try unfold fM_refuse
                            try unfold fM_refuse_0
                            refine tt_bif (fun c114 => ?_) (fun c114 => ?_)
                            · have wc114 : (0 : Int) = (0 : Int) := c_eq c114
                              refine tt_bif (fun c115 => ?_) (fun c115 => ?_)
                              · have wc115 : (0 : Int) = (0 : Int) := c_eq c115
                                refine tt_bif (fun c116 => ?_) (fun c116 => ?_)
                                · have wc116 : (1 : Int) = (0 : Int) := c_eq c116
                                  exact (dd_eq c116 (show (1 : Int) ≤ (1 : Int32).toInt ∧ (1 : Int32).toInt ≤ 1 by decide) (show (0 : Int) ≤ (0 : Int32).toInt ∧ (0 : Int32).toInt ≤ 0 by decide) (by decide)).elim
                                · have wc116 : ¬ (1 : Int) = (0 : Int) := c_ne c116
                                  try unfold fM_refuse_26
                                  refine tt_bko ?_
                                  have k117 := ok_fp (k := 0) (v := 3) k_o0 (iv_w (a := 0) (b := 3) (by decide) (by decide) (show (3 : Int) ≤ (3 : Int32).toInt ∧ (3 : Int32).toInt ≤ 3 by decide))
                                  have r118 := fr_fp (k := 0) (v := 3) r_o0 rfl
                                  refine tt_bif (fun c119 => ?_) (fun c119 => ?_)
                                  · have wc119 : (3 : Int) ≤ (0 : Int) := c_le c119
                                    exact (dd_le c119 (show (3 : Int) ≤ (3 : Int32).toInt ∧ (3 : Int32).toInt ≤ 3 by decide) (show (0 : Int) ≤ (0 : Int32).toInt ∧ (0 : Int32).toInt ≤ 0 by decide) (by decide)).elim
                                  · have wc119 : (0 : Int) < (3 : Int) := c_nle c119
                                    try unfold fM_refuse_41
                                    refine tt_bw (iv_b (show (1 : Int) ≤ (1 : Int32).toInt ∧ (1 : Int32).toInt ≤ 1 by decide) (by decide) (by decide)) ?_
                                    refine tt_bs ?_
                                    refine tt_if (fun c120 => ?_) (fun c120 => ?_)
                                    · have wc120 : (1 : Int) = (0 : Int) := c_eq c120
                                      exact (dd_eq c120 (show (1 : Int) ≤ (1 : Int32).toInt ∧ (1 : Int32).toInt ≤ 1 by decide) (show (0 : Int) ≤ (0 : Int32).toInt ∧ (0 : Int32).toInt ≤ 0 by decide) (by decide)).elim
                                    · have wc120 : ¬ (1 : Int) = (0 : Int) := c_ne c120
                                      exact tt_some ⟨k117, r118, trivial⟩
                              · have wc115 : ¬ (0 : Int) = (0 : Int) := c_ne c115
                                exact (dd_ne c115 (show (0 : Int) ≤ (0 : Int32).toInt ∧ (0 : Int32).toInt ≤ 0 by decide) (show (0 : Int) ≤ (0 : Int32).toInt ∧ (0 : Int32).toInt ≤ 0 by decide)).elim
                            · have wc114 : ¬ (0 : Int) = (0 : Int) := c_ne c114
                              exact (dd_ne c114 (show (0 : Int) ≤ (0 : Int32).toInt ∧ (0 : Int32).toInt ≤ 0 by decide) (show (0 : Int) ≤ (0 : Int32).toInt ∧ (0 : Int32).toInt ≤ 0 by decide)).elim
                      · have wc80 : ¬ (0 : Int) = (0 : Int) := c_ne c80
                        exact (dd_ne c80 (show (0 : Int) ≤ (0 : Int32).toInt ∧ (0 : Int32).toInt ≤ 0 by decide) (show (0 : Int) ≤ (0 : Int32).toInt ∧ (0 : Int32).toInt ≤ 0 by decide)).elim
                · have wc76 : (2 : Int) < v2.toInt := c_nle c76
                  have i121 : (3 : Int) ≤ v2.toInt ∧ v2.toInt ≤ 2147483647 := nr_nler c76 (show (2 : Int) ≤ (2 : Int32).toInt ∧ (2 : Int32).toInt ≤ 2 by decide) (iv_top v2) (by decide) (by decide)
                  refine tt_kv (P := fun z => ((0 : Int) ≤ z.toInt ∧ z.toInt ≤ 2147483644) ∧ z.toInt = v2.toInt - 3) ⟨iv_sub i121 (show (3 : Int) ≤ (3 : Int32).toInt ∧ (3 : Int32).toInt ≤ 3 by decide) (by decide) (by decide) (by decide) (by decide), iq_sub i121 (show (3 : Int) ≤ (3 : Int32).toInt ∧ (3 : Int32).toInt ≤ 3 by decide) (by decide) (by decide)⟩ (fun x122 qi123 => ?_)
                  obtain ⟨i123, ei123⟩ := qi123
                  refine tt_if (fun c124 => ?_) (fun c124 => ?_)
                  · have wc124 : x122.toInt < x70.toInt := c_lt c124
                    have i125 : (0 : Int) ≤ x122.toInt ∧ x122.toInt ≤ 2 := nr_ltl c124 i123 i74 (by decide) (by decide)
                    have i126 : (3 : Int) ≤ v2.toInt ∧ v2.toInt ≤ 5 := by omega
                    have i127 : (1 : Int) ≤ x70.toInt ∧ x70.toInt ≤ 3 := nr_ltr c124 i123 i74 (by decide) (by decide)
                    try unfold fM_instance_94
                    try unfold fM_instance_95
                    refine tt_if (fun c128 => ?_) (fun c128 => ?_)
                    · have wc128 : (o0.1 85).toInt = (0 : Int) := c_eq c128
                      exact (dd_eq c128 i14 (show (0 : Int) ≤ (0 : Int32).toInt ∧ (0 : Int32).toInt ≤ 0 by decide) (by decide)).elim
                    · have wc128 : ¬ (o0.1 85).toInt = (0 : Int) := c_ne c128
                      try unfold fM_instance_110
                      refine tt_if (fun c129 => ?_) (fun c129 => ?_)
                      · have wc129 : (o0.1 85).toInt = (0 : Int) := c_eq c129
                        exact (dd_eq c129 i14 (show (0 : Int) ≤ (0 : Int32).toInt ∧ (0 : Int32).toInt ≤ 0 by decide) (by decide)).elim
                      · have wc129 : ¬ (o0.1 85).toInt = (0 : Int) := c_ne c129
                        refine tt_if (fun c130 => ?_) (fun c130 => ?_)
                        · have wc130 : (0 : Int) = (0 : Int) := c_eq c130
                          try unfold fM_instance_126
                          try unfold fM_instance_127
                          refine tt_if (fun c131 => ?_) (fun c131 => ?_)
                          · have wc131 : (1 : Int) = (0 : Int) := c_eq c131
                            exact (dd_eq c131 (show (1 : Int) ≤ (1 : Int32).toInt ∧ (1 : Int32).toInt ≤ 1 by decide) (show (0 : Int) ≤ (0 : Int32).toInt ∧ (0 : Int32).toInt ≤ 0 by decide) (by decide)).elim
                          · have wc131 : ¬ (1 : Int) = (0 : Int) := c_ne c131
                            refine tt_if (fun c132 => ?_) (fun c132 => ?_)
                            · have wc132 : (0 : Int) ≤ v2.toInt := c_le c132
                              try unfold fM_instance_139
                              try unfold fM_instance_140
                              try unfold fM_refuse
                              try unfold fM_refuse_0
                              refine tt_bif (fun c133 => ?_) (fun c133 => ?_)
                              · have wc133 : (0 : Int) = (0 : Int) := c_eq c133
                                refine tt_bif (fun c134 => ?_) (fun c134 => ?_)
                                · have wc134 : (0 : Int) = (0 : Int) := c_eq c134
                                  refine tt_bif (fun c135 => ?_) (fun c135 => ?_)
                                  · have wc135 : (0 : Int) = (0 : Int) := c_eq c135
                                    try unfold fM_refuse_26
                                    refine tt_bko ?_
                                    have k136 := ok_fp (k := 0) (v := 0) k_o0 (iv_w (a := 0) (b := 3) (by decide) (by decide) (show (0 : Int) ≤ (0 : Int32).toInt ∧ (0 : Int32).toInt ≤ 0 by decide))
                                    have r137 := fr_fp (k := 0) (v := 0) r_o0 rfl
                                    refine tt_bif (fun c138 => ?_) (fun c138 => ?_)
                                    · have wc138 : (0 : Int) ≤ (0 : Int) := c_le c138
                                      try unfold fM_refuse_41
                                      refine tt_bw (iv_b (show (0 : Int) ≤ (0 : Int32).toInt ∧ (0 : Int32).toInt ≤ 0 by decide) (by decide) (by decide)) ?_
                                      refine tt_bs ?_
                                      refine tt_if (fun c139 => ?_) (fun c139 => ?_)
                                      · have wc139 : (0 : Int) = (0 : Int) := c_eq c139
                                        refine tt_if (fun c140 => ?_) (fun c140 => ?_)
                                        · have wc140 : v2.toInt = (0 : Int) := c_eq c140
                                          exact (dd_eq c140 i126 (show (0 : Int) ≤ (0 : Int32).toInt ∧ (0 : Int32).toInt ≤ 0 by decide) (by decide)).elim
                                        · have wc140 : ¬ v2.toInt = (0 : Int) := c_ne c140
                                          refine tt_if (fun c141 => ?_) (fun c141 => ?_)
                                          · have wc141 : v2.toInt = (1 : Int) := c_eq c141
                                            exact (dd_eq c141 i126 (show (1 : Int) ≤ (1 : Int32).toInt ∧ (1 : Int32).toInt ≤ 1 by decide) (by decide)).elim
                                          · have wc141 : ¬ v2.toInt = (1 : Int) := c_ne c141
                                            refine tt_if (fun c142 => ?_) (fun c142 => ?_)
                                            · have wc142 : v2.toInt = (2 : Int) := c_eq c142
                                              exact (dd_eq c142 i126 (show (2 : Int) ≤ (2 : Int32).toInt ∧ (2 : Int32).toInt ≤ 2 by decide) (by decide)).elim
                                            · have wc142 : ¬ v2.toInt = (2 : Int) := c_ne c142
                                              refine tt_kv (P := fun z => ((0 : Int) ≤ z.toInt ∧ z.toInt ≤ 2095) ∧ z.toInt = 5 * x54.toInt) ⟨iv_mul (show (5 : Int) ≤ (5 : Int32).toInt ∧ (5 : Int32).toInt ≤ 5 by decide) i55 (by decide) (by decide) (by decide) (by decide) (by decide), iq_mul (show (5 : Int) ≤ (5 : Int32).toInt ∧ (5 : Int32).toInt ≤ 5 by decide) i55 (by decide) (by decide) (by decide) (by decide)⟩ (fun x143 qi144 => ?_)
                                              obtain ⟨i144, ei144⟩ := qi144
                                              refine tt_kv (P := fun z => ((2 : Int) ≤ z.toInt ∧ z.toInt ≤ 2097) ∧ z.toInt = x143.toInt + 2) ⟨iv_add i144 (show (2 : Int) ≤ (2 : Int32).toInt ∧ (2 : Int32).toInt ≤ 2 by decide) (by decide) (by decide) (by decide) (by decide), iq_add i144 (show (2 : Int) ≤ (2 : Int32).toInt ∧ (2 : Int32).toInt ≤ 2 by decide) (by decide) (by decide)⟩ (fun x145 qi146 => ?_)
                                              obtain ⟨i146, ei146⟩ := qi146
                                              refine tt_kv (P := fun z => ((5 : Int) ≤ z.toInt ∧ z.toInt ≤ 2102) ∧ z.toInt = x145.toInt + v2.toInt) ⟨iv_add i146 i126 (by decide) (by decide) (by decide) (by decide), iq_add i146 i126 (by decide) (by decide)⟩ (fun x147 qi148 => ?_)
                                              obtain ⟨i148, ei148⟩ := qi148
                                              refine tt_kv (P := fun z => ((2 : Int) ≤ z.toInt ∧ z.toInt ≤ 2099) ∧ z.toInt = x147.toInt - 3) ⟨iv_sub i148 (show (3 : Int) ≤ (3 : Int32).toInt ∧ (3 : Int32).toInt ≤ 3 by decide) (by decide) (by decide) (by decide) (by decide), iq_sub i148 (show (3 : Int) ≤ (3 : Int32).toInt ∧ (3 : Int32).toInt ≤ 3 by decide) (by decide) (by decide)⟩ (fun x149 qi150 => ?_)
                                              obtain ⟨i150, ei150⟩ := qi150
                                              refine tt_n (ix_ok i150 (by decide) (by decide)) ?_
                                              refine tt_kv (P := fun z => (((-2147483648) : Int) ≤ z.toInt ∧ z.toInt ≤ 2147483647) ∧ z.toInt = (o0.2.1 87 x149.toNatClampNeg).toInt) ⟨(k136.2 87 _), rfl⟩ (fun x151 qi152 => ?_)
                                              obtain ⟨i152, ei152⟩ := qi152
                                              have t153 := tn_n x149
                                              have t154 := x_0 (x149.toNatClampNeg)
                                              have i155 : ((-1) : Int) ≤ x151.toInt ∧ x151.toInt ≤ 417 := by omega
                                              try unfold fM_instance_208
                                              exact tt_some ⟨k136, r137, trivial⟩
                                      · have wc139 : ¬ (0 : Int) = (0 : Int) := c_ne c139
                                        exact (dd_ne c139 (show (0 : Int) ≤ (0 : Int32).toInt ∧ (0 : Int32).toInt ≤ 0 by decide) (show (0 : Int) ≤ (0 : Int32).toInt ∧ (0 : Int32).toInt ≤ 0 by decide)).elim
                                    · have wc138 : (0 : Int) < (0 : Int) := c_nle c138
                                      exact (dd_nle c138 (show (0 : Int) ≤ (0 : Int32).toInt ∧ (0 : Int32).toInt ≤ 0 by decide) (show (0 : Int) ≤ (0 : Int32).toInt ∧ (0 : Int32).toInt ≤ 0 by decide) (by decide)).elim
                                  · have wc135 : ¬ (0 : Int) = (0 : Int) := c_ne c135
                                    exact (dd_ne c135 (show (0 : Int) ≤ (0 : Int32).toInt ∧ (0 : Int32).toInt ≤ 0 by decide) (show (0 : Int) ≤ (0 : Int32).toInt ∧ (0 : Int32).toInt ≤ 0 by decide)).elim
                                · have wc134 : ¬ (0 : Int) = (0 : Int) := c_ne c134
                                  exact (dd_ne c134 (show (0 : Int) ≤ (0 : Int32).toInt ∧ (0 : Int32).toInt ≤ 0 by decide) (show (0 : Int) ≤ (0 : Int32).toInt ∧ (0 : Int32).toInt ≤ 0 by decide)).elim
                              · have wc133 : ¬ (0 : Int) = (0 : Int) := c_ne c133
                                exact (dd_ne c133 (show (0 : Int) ≤ (0 : Int32).toInt ∧ (0 : Int32).toInt ≤ 0 by decide) (show (0 : Int) ≤ (0 : Int32).toInt ∧ (0 : Int32).toInt ≤ 0 by decide)).elim
                            · have wc132 : v2.toInt < (0 : Int) := c_nle c132
                              exact (dd_nle c132 i126 (show (0 : Int) ≤ (0 : Int32).toInt ∧ (0 : Int32).toInt ≤ 0 by decide) (by decide)).elim
                        · have wc130 : ¬ (0 : Int) = (0 : Int) := c_ne c130
                          exact (dd_ne c130 (show (0 : Int) ≤ (0 : Int32).toInt ∧ (0 : Int32).toInt ≤ 0 by decide) (show (0 : Int) ≤ (0 : Int32).toInt ∧ (0 : Int32).toInt ≤ 0 by decide)).elim
                  · have wc124 : x70.toInt ≤ x122.toInt := c_nlt c124
                    try unfold fM_instance_90
                    try unfold fM_instance_95
                    refine tt_if (fun c156 => ?_) (fun c156 => ?_)
                    · have wc156 : (o0.1 85).toInt = (0 : Int) := c_eq c156
                      exact (dd_eq c156 i14 (show (0 : Int) ≤ (0 : Int32).toInt ∧ (0 : Int32).toInt ≤ 0 by decide) (by decide)).elim
                    · have wc156 : ¬ (o0.1 85).toInt = (0 : Int) := c_ne c156
                      try unfold fM_instance_110
                      refine tt_if (fun c157 => ?_) (fun c157 => ?_)
                      · have wc157 : (o0.1 85).toInt = (0 : Int) := c_eq c157
                        exact (dd_eq c157 i14 (show (0 : Int) ≤ (0 : Int32).toInt ∧ (0 : Int32).toInt ≤ 0 by decide) (by decide)).elim
                      · have wc157 : ¬ (o0.1 85).toInt = (0 : Int) := c_ne c157
                        refine tt_if (fun c158 => ?_) (fun c158 => ?_)
                        · have wc158 : (1 : Int) = (0 : Int) := c_eq c158
                          exact (dd_eq c158 (show (1 : Int) ≤ (1 : Int32).toInt ∧ (1 : Int32).toInt ≤ 1 by decide) (show (0 : Int) ≤ (0 : Int32).toInt ∧ (0 : Int32).toInt ≤ 0 by decide) (by decide)).elim
                        · have wc158 : ¬ (1 : Int) = (0 : Int) := c_ne c158
                          try unfold fM_instance_127
                          refine tt_if (fun c159 => ?_) (fun c159 => ?_)
                          · have wc159 : (1 : Int) = (0 : Int) := c_eq c159
                            exact (dd_eq c159 (show (1 : Int) ≤ (1 : Int32).toInt ∧ (1 : Int32).toInt ≤ 1 by decide) (show (0 : Int) ≤ (0 : Int32).toInt ∧ (0 : Int32).toInt ≤ 0 by decide) (by decide)).elim
                          · have wc159 : ¬ (1 : Int) = (0 : Int) := c_ne c159
                            refine tt_if (fun c160 => ?_) (fun c160 => ?_)
                            · have wc160 : (0 : Int) ≤ v2.toInt := c_le c160
                              try unfold fM_instance_139
                              try unfold fM_instance_140
                              try unfold fM_refuse
                              try unfold fM_refuse_0
                              refine tt_bif (fun c161 => ?_) (fun c161 => ?_)
                              · have wc161 : (0 : Int) = (0 : Int) := c_eq c161
                                refine tt_bif (fun c162 => ?_) (fun c162 => ?_)
                                · have wc162 : (1 : Int) = (0 : Int) := c_eq c162
                                  exact (dd_eq c162 (show (1 : Int) ≤ (1 : Int32).toInt ∧ (1 : Int32).toInt ≤ 1 by decide) (show (0 : Int) ≤ (0 : Int32).toInt ∧ (0 : Int32).toInt ≤ 0 by decide) (by decide)).elim
                                · have wc162 : ¬ (1 : Int) = (0 : Int) := c_ne c162
                                  try unfold fM_refuse_26
                                  refine tt_bko ?_
                                  have k163 := ok_fp (k := 0) (v := 2) k_o0 (iv_w (a := 0) (b := 3) (by decide) (by decide) (show (2 : Int) ≤ (2 : Int32).toInt ∧ (2 : Int32).toInt ≤ 2 by decide))
                                  have r164 := fr_fp (k := 0) (v := 2) r_o0 rfl
                                  refine tt_bif (fun c165 => ?_) (fun c165 => ?_)
                                  · have wc165 : (2 : Int) ≤ (0 : Int) := c_le c165
                                    exact (dd_le c165 (show (2 : Int) ≤ (2 : Int32).toInt ∧ (2 : Int32).toInt ≤ 2 by decide) (show (0 : Int) ≤ (0 : Int32).toInt ∧ (0 : Int32).toInt ≤ 0 by decide) (by decide)).elim
                                  · have wc165 : (0 : Int) < (2 : Int) := c_nle c165
                                    try unfold fM_refuse_41
                                    refine tt_bw (iv_b (show (1 : Int) ≤ (1 : Int32).toInt ∧ (1 : Int32).toInt ≤ 1 by decide) (by decide) (by decide)) ?_
                                    refine tt_bs ?_
                                    refine tt_if (fun c166 => ?_) (fun c166 => ?_)
                                    · have wc166 : (1 : Int) = (0 : Int) := c_eq c166
                                      exact (dd_eq c166 (show (1 : Int) ≤ (1 : Int32).toInt ∧ (1 : Int32).toInt ≤ 1 by decide) (show (0 : Int) ≤ (0 : Int32).toInt ∧ (0 : Int32).toInt ≤ 0 by decide) (by decide)).elim
                                    · have wc166 : ¬ (1 : Int) = (0 : Int) := c_ne c166
                                      exact tt_some ⟨k163, r164, trivial⟩
                              · have wc161 : ¬ (0 : Int) = (0 : Int) := c_ne c161
                                exact (dd_ne c161 (show (0 : Int) ≤ (0 : Int32).toInt ∧ (0 : Int32).toInt ≤ 0 by decide) (show (0 : Int) ≤ (0 : Int32).toInt ∧ (0 : Int32).toInt ≤ 0 by decide)).elim
                            · have wc160 : v2.toInt < (0 : Int) := c_nle c160
                              exact (dd_nle c160 i121 (show (0 : Int) ≤ (0 : Int32).toInt ∧ (0 : Int32).toInt ≤ 0 by decide) (by decide)).elim
def QM_mappedSign (v1 : Int32) (o0 : cf_O) (r : (Int32 × cf_O)) : Prop := (okO I_M r.2) ∧ (Fr (fr_M [0] [] []) o0 r.2) ∧ ((0 : Int) ≤ (r.2.1 0).toInt ∧ (r.2.1 0).toInt ≤ 2) ∧ True
set_option maxHeartbeats 4000000 in
set_option maxRecDepth 100000 in
theorem sM_mappedSign (v1 : Int32) (o0 : cf_O) (k_o0 : okO I_M o0) (f_o0_95 : (0 : Int) ≤ (o0.1 95).toInt ∧ (o0.1 95).toInt ≤ 0) : tt (fM_mappedSign v1 o0) (QM_mappedSign v1 o0) := by
  have r_o0 : Fr (fr_M [0] [] []) o0 o0 := fr_rfl
  unfold fM_mappedSign fM_mappedSign_0
  refine tt_if (fun c1 => ?_) (fun c1 => ?_)
  · have i2 : (0 : Int) ≤ (o0.1 85).toInt ∧ (o0.1 85).toInt ≤ 0 := nr_eql c1 (k_o0.1 85) (show (0 : Int) ≤ (0 : Int32).toInt ∧ (0 : Int32).toInt ≤ 0 by decide) (by decide) (by decide)
    try unfold fM_mappedSign_13
    refine tt_if (fun c3 => ?_) (fun c3 => ?_)
    · try unfold fM_mappedSign_28
      try unfold fM_mappedSign_29
      try unfold fM_refuse
      try unfold fM_refuse_0
      refine tt_bif (fun c4 => ?_) (fun c4 => ?_)
      · exact (dd_eq c4 (show (1 : Int) ≤ (1 : Int32).toInt ∧ (1 : Int32).toInt ≤ 1 by decide) (show (0 : Int) ≤ (0 : Int32).toInt ∧ (0 : Int32).toInt ≤ 0 by decide) (by decide)).elim
      · try unfold fM_refuse_26
        refine tt_bko ?_
        have k5 := ok_fp (k := 0) (v := 1) k_o0 (iv_w (a := 0) (b := 3) (by decide) (by decide) (show (1 : Int) ≤ (1 : Int32).toInt ∧ (1 : Int32).toInt ≤ 1 by decide))
        have r6 := fr_fp (k := 0) (v := 1) r_o0 rfl
        refine tt_bif (fun c7 => ?_) (fun c7 => ?_)
        · exact (dd_le c7 (show (1 : Int) ≤ (1 : Int32).toInt ∧ (1 : Int32).toInt ≤ 1 by decide) (show (0 : Int) ≤ (0 : Int32).toInt ∧ (0 : Int32).toInt ≤ 0 by decide) (by decide)).elim
        · try unfold fM_refuse_41
          refine tt_bw (iv_b (show (1 : Int) ≤ (1 : Int32).toInt ∧ (1 : Int32).toInt ≤ 1 by decide) (by decide) (by decide)) ?_
          refine tt_bs ?_
          refine tt_if (fun c8 => ?_) (fun c8 => ?_)
          · exact (dd_eq c8 (show (1 : Int) ≤ (1 : Int32).toInt ∧ (1 : Int32).toInt ≤ 1 by decide) (show (0 : Int) ≤ (0 : Int32).toInt ∧ (0 : Int32).toInt ≤ 0 by decide) (by decide)).elim
          · exact tt_some ⟨k5, r6, (iv_w (a := 0) (b := 2) (by decide) (by decide) (show (1 : Int) ≤ (1 : Int32).toInt ∧ (1 : Int32).toInt ≤ 1 by decide)), trivial⟩
    · exact (dd_ne c3 i2 (show (0 : Int) ≤ (0 : Int32).toInt ∧ (0 : Int32).toInt ≤ 0 by decide)).elim
  · have i9 : (1 : Int) ≤ (o0.1 85).toInt ∧ (o0.1 85).toInt ≤ 1 := nr_nela c1 (k_o0.1 85) (show (0 : Int) ≤ (0 : Int32).toInt ∧ (0 : Int32).toInt ≤ 0 by decide) (by decide) (by decide)
    try unfold fM_mappedSign_13
    refine tt_if (fun c10 => ?_) (fun c10 => ?_)
    · exact (dd_eq c10 i9 (show (0 : Int) ≤ (0 : Int32).toInt ∧ (0 : Int32).toInt ≤ 0 by decide) (by decide)).elim
    · refine tt_if (fun c11 => ?_) (fun c11 => ?_)
      · have i12 : (0 : Int) ≤ v1.toInt ∧ v1.toInt ≤ 2147483647 := nr_ler c11 (show (0 : Int) ≤ (0 : Int32).toInt ∧ (0 : Int32).toInt ≤ 0 by decide) (iv_top v1) (by decide) (by decide)
        try unfold fM_mappedSign_28
        try unfold fM_mappedSign_29
        try unfold fM_refuse
        try unfold fM_refuse_0
        refine tt_bif (fun c13 => ?_) (fun c13 => ?_)
        · refine tt_bif (fun c14 => ?_) (fun c14 => ?_)
          · refine tt_bif (fun c15 => ?_) (fun c15 => ?_)
            · try unfold fM_refuse_26
              refine tt_bko ?_
              have k16 := ok_fp (k := 0) (v := 0) k_o0 (iv_w (a := 0) (b := 3) (by decide) (by decide) (show (0 : Int) ≤ (0 : Int32).toInt ∧ (0 : Int32).toInt ≤ 0 by decide))
              have r17 := fr_fp (k := 0) (v := 0) r_o0 rfl
              refine tt_bif (fun c18 => ?_) (fun c18 => ?_)
              · try unfold fM_refuse_41
                refine tt_bw (iv_b (show (0 : Int) ≤ (0 : Int32).toInt ∧ (0 : Int32).toInt ≤ 0 by decide) (by decide) (by decide)) ?_
                refine tt_bs ?_
                refine tt_if (fun c19 => ?_) (fun c19 => ?_)
                · refine tt_if (fun c20 => ?_) (fun c20 => ?_)
                  · try unfold fM_mappedSign_56
                    exact tt_some ⟨k16, r17, (iv_w (a := 0) (b := 2) (by decide) (by decide) (show (0 : Int) ≤ (0 : Int32).toInt ∧ (0 : Int32).toInt ≤ 0 by decide)), trivial⟩
                  · have i21 : (0 : Int) ≤ v1.toInt ∧ v1.toInt ≤ 23999 := nr_nlel c20 i12 (k_o0.1 96) (by decide) (by decide)
                    have i22 : (1 : Int) ≤ (o0.1 96).toInt ∧ (o0.1 96).toInt ≤ 24000 := nr_nler c20 i12 (k_o0.1 96) (by decide) (by decide)
                    refine tt_n (ix_ok i21 (by decide) (by decide)) ?_
                    refine tt_kv (P := fun z => ((-2147483648) : Int) ≤ z.toInt ∧ z.toInt ≤ 2147483647) (k16.2 97 _) (fun x23 i24 => ?_)
                    try unfold fM_mappedSign_56
                    exact tt_some ⟨k16, r17, (iv_w (a := 0) (b := 2) (by decide) (by decide) (show (0 : Int) ≤ (0 : Int32).toInt ∧ (0 : Int32).toInt ≤ 0 by decide)), trivial⟩
                · exact (dd_ne c19 (show (0 : Int) ≤ (0 : Int32).toInt ∧ (0 : Int32).toInt ≤ 0 by decide) (show (0 : Int) ≤ (0 : Int32).toInt ∧ (0 : Int32).toInt ≤ 0 by decide)).elim
              · exact (dd_nle c18 (show (0 : Int) ≤ (0 : Int32).toInt ∧ (0 : Int32).toInt ≤ 0 by decide) (show (0 : Int) ≤ (0 : Int32).toInt ∧ (0 : Int32).toInt ≤ 0 by decide) (by decide)).elim
            · exact (dd_ne c15 (show (0 : Int) ≤ (0 : Int32).toInt ∧ (0 : Int32).toInt ≤ 0 by decide) (show (0 : Int) ≤ (0 : Int32).toInt ∧ (0 : Int32).toInt ≤ 0 by decide)).elim
          · exact (dd_ne c14 (show (0 : Int) ≤ (0 : Int32).toInt ∧ (0 : Int32).toInt ≤ 0 by decide) (show (0 : Int) ≤ (0 : Int32).toInt ∧ (0 : Int32).toInt ≤ 0 by decide)).elim
        · exact (dd_ne c13 (show (0 : Int) ≤ (0 : Int32).toInt ∧ (0 : Int32).toInt ≤ 0 by decide) (show (0 : Int) ≤ (0 : Int32).toInt ∧ (0 : Int32).toInt ≤ 0 by decide)).elim
      · have i25 : ((-2147483648) : Int) ≤ v1.toInt ∧ v1.toInt ≤ (-1) := nr_nlel c11 (iv_top v1) (show (0 : Int) ≤ (0 : Int32).toInt ∧ (0 : Int32).toInt ≤ 0 by decide) (by decide) (by decide)
        try unfold fM_mappedSign_29
        try unfold fM_refuse
        try unfold fM_refuse_0
        refine tt_bif (fun c26 => ?_) (fun c26 => ?_)
        · refine tt_bif (fun c27 => ?_) (fun c27 => ?_)
          · exact (dd_eq c27 (show (1 : Int) ≤ (1 : Int32).toInt ∧ (1 : Int32).toInt ≤ 1 by decide) (show (0 : Int) ≤ (0 : Int32).toInt ∧ (0 : Int32).toInt ≤ 0 by decide) (by decide)).elim
          · try unfold fM_refuse_26
            refine tt_bko ?_
            have k28 := ok_fp (k := 0) (v := 2) k_o0 (iv_w (a := 0) (b := 3) (by decide) (by decide) (show (2 : Int) ≤ (2 : Int32).toInt ∧ (2 : Int32).toInt ≤ 2 by decide))
            have r29 := fr_fp (k := 0) (v := 2) r_o0 rfl
            refine tt_bif (fun c30 => ?_) (fun c30 => ?_)
            · exact (dd_le c30 (show (2 : Int) ≤ (2 : Int32).toInt ∧ (2 : Int32).toInt ≤ 2 by decide) (show (0 : Int) ≤ (0 : Int32).toInt ∧ (0 : Int32).toInt ≤ 0 by decide) (by decide)).elim
            · try unfold fM_refuse_41
              refine tt_bw (iv_b (show (1 : Int) ≤ (1 : Int32).toInt ∧ (1 : Int32).toInt ≤ 1 by decide) (by decide) (by decide)) ?_
              refine tt_bs ?_
              refine tt_if (fun c31 => ?_) (fun c31 => ?_)
              · exact (dd_eq c31 (show (1 : Int) ≤ (1 : Int32).toInt ∧ (1 : Int32).toInt ≤ 1 by decide) (show (0 : Int) ≤ (0 : Int32).toInt ∧ (0 : Int32).toInt ≤ 0 by decide) (by decide)).elim
              · exact tt_some ⟨k28, r29, (iv_w (a := 0) (b := 2) (by decide) (by decide) (show (2 : Int) ≤ (2 : Int32).toInt ∧ (2 : Int32).toInt ≤ 2 by decide)), trivial⟩
        · exact (dd_ne c26 (show (0 : Int) ≤ (0 : Int32).toInt ∧ (0 : Int32).toInt ≤ 0 by decide) (show (0 : Int) ≤ (0 : Int32).toInt ∧ (0 : Int32).toInt ≤ 0 by decide)).elim
