def QM_cutAll (v1 : Int32) (o0 : cf_O) (r : (Int32 × cf_O)) : Prop := ((0 : Int) ≤ r.1.toInt ∧ r.1.toInt ≤ 1) ∧ (okO I_M r.2) ∧ (Fr (fr_M [36] [57, 58, 59, 60, 61, 62, 63] []) o0 r.2) ∧ (Cn (r.2.2.1 59) (r.2.2.1 58)) ∧ (Bc r.1.toInt ((r.2.1 39).toInt + 1) (r.2.1 43).toInt v1.toInt (r.2.2.1 63) (r.2.2.1 59)) ∧ (Hs r.1.toInt ((r.2.1 39).toInt + 1) (r.2.1 43).toInt v1.toInt (r.2.2.1 44) (r.2.2.1 45)) ∧ (Fz r.1.toInt ((r.2.1 39).toInt + 1) (r.2.1 43).toInt (r.2.2.1 44) (r.2.2.1 45) (r.2.2.1 57) (r.2.2.1 59) (r.2.2.1 58) (r.2.2.1 62)) ∧ (Be r.1.toInt ((r.2.1 39).toInt + 1) (r.2.1 43).toInt (r.2.2.1 57) (r.2.2.1 63)) ∧ True
def HM_cutAll (yv1 : Int32) (yo0 : cf_O) (n : Nat) : Prop := (∀ (v1 : Int32) (v2 : Int32) (o0 : cf_O), (okO I_M o0) → (Fr (fr_M [36] [57, 58, 59, 60, 61, 62, 63] []) yo0 o0) → ((0 : Int) ≤ v1.toInt ∧ v1.toInt ≤ 5) → ((0 : Int) ≤ v2.toInt ∧ v2.toInt ≤ 9) → ((0 : Int) ≤ (o0.1 0).toInt ∧ (o0.1 0).toInt ≤ 2) → ((0 : Int) ≤ (o0.1 36).toInt ∧ (o0.1 36).toInt ≤ 0) → ((1 : Int) ≤ (o0.1 38).toInt ∧ (o0.1 38).toInt ≤ 1) → ((0 : Int) ≤ (o0.1 95).toInt ∧ (o0.1 95).toInt ≤ 0) → (Cn (o0.2.1 59) (o0.2.1 58)) → (1 ≤ v1.toInt) → (v1.toInt = yv1.toInt) → (Gx ((yo0.1 39).toInt + 1) (yo0.1 43).toInt (yo0.2.1 44) (yo0.2.1 45)) → (Cz v2.toInt ((yo0.1 39).toInt + 1) (yo0.1 43).toInt (yo0.2.1 44) (yo0.2.1 45) (o0.2.1 57) (o0.2.1 59) (o0.2.1 58)) → (Ca v2.toInt (o0.2.1 57) (o0.2.1 59) (o0.2.1 58)) → (Dn v2.toInt (o0.2.1 62)) → (Fc v2.toInt (o0.2.1 57)) → (Zz v2.toInt (o0.2.1 57) (o0.2.1 59)) → (0 ≤ v2.toInt) → (v2.toInt ≤ (yo0.1 39).toInt + 1) → ((o0.1 36).toInt = 0) → ((o0.1 39).toInt = (yo0.1 39).toInt) → ((o0.1 43).toInt = (yo0.1 43).toInt) → (2 ≤ v1.toInt) → 402 + (9 - v2.toInt) * 2 < (n : Int) → tt (gM_cutAll n 0 v1 v2 o0) (QM_cutAll yv1 yo0)) ∧ (∀ (v1 : Int32) (v2 : Int32) (o0 : cf_O), (okO I_M o0) → (Fr (fr_M [36] [57, 58, 59, 60, 61, 62, 63] []) yo0 o0) → ((0 : Int) ≤ v1.toInt ∧ v1.toInt ≤ 5) → ((0 : Int) ≤ v2.toInt ∧ v2.toInt ≤ 200) → ((0 : Int) ≤ (o0.1 0).toInt ∧ (o0.1 0).toInt ≤ 2) → ((1 : Int) ≤ (o0.1 38).toInt ∧ (o0.1 38).toInt ≤ 1) → ((0 : Int) ≤ (o0.1 95).toInt ∧ (o0.1 95).toInt ≤ 0) → (Cn (o0.2.1 59) (o0.2.1 58)) → (1 ≤ v1.toInt) → (v1.toInt = yv1.toInt) → (Bt (o0.1 36).toInt ((yo0.1 39).toInt + 1) v2.toInt v1.toInt (o0.2.1 63) (o0.2.1 59)) → (Gx ((yo0.1 39).toInt + 1) (yo0.1 43).toInt (yo0.2.1 44) (yo0.2.1 45)) → (Cz (((yo0.1 39).toInt + 1) + v2.toInt) ((yo0.1 39).toInt + 1) (yo0.1 43).toInt (yo0.2.1 44) (yo0.2.1 45) (o0.2.1 57) (o0.2.1 59) (o0.2.1 58)) → (Cy v2.toInt ((yo0.1 39).toInt + 1) (yo0.1 43).toInt (yo0.2.1 44) (yo0.2.1 45) (o0.2.1 57) (o0.2.1 59) (o0.2.1 58)) → (Ca (((yo0.1 39).toInt + 1) + v2.toInt) (o0.2.1 57) (o0.2.1 59) (o0.2.1 58)) → (Zz 1 (o0.2.1 57) (o0.2.1 59)) → (Dz (o0.1 36).toInt ((yo0.1 39).toInt + 1) v2.toInt (o0.2.1 57) (o0.2.1 59) (o0.2.1 58) (o0.2.1 62)) → (Cu (o0.1 36).toInt ((yo0.1 39).toInt + 1) v2.toInt v1.toInt (yo0.2.1 44) (yo0.2.1 45) (o0.2.1 57) (o0.2.1 59) (o0.2.1 58)) → (0 ≤ v2.toInt) → (v2.toInt ≤ (yo0.1 43).toInt) → (Bd (o0.1 36).toInt ((yo0.1 39).toInt + 1) v2.toInt (o0.2.1 57) (o0.2.1 63)) → ((o0.1 39).toInt = (yo0.1 39).toInt) → ((o0.1 43).toInt = (yo0.1 43).toInt) → (2 ≤ v1.toInt) → 0 + (200 - v2.toInt) * 2 < (n : Int) → tt (gM_cutAll n 1 v1 v2 o0) (QM_cutAll yv1 yo0))
set_option maxHeartbeats 4000000 in
set_option maxRecDepth 100000 in
theorem tM_cutAll_42 {yv1 : Int32} {yo0 : cf_O} {n : Nat} (H : HM_cutAll yv1 yo0 n) (v1 : Int32) (v2 : Int32) (o0 : cf_O) (k_o0 : okO I_M o0) (r_o0 : Fr (fr_M [36] [57, 58, 59, 60, 61, 62, 63] []) yo0 o0) (i_v1 : (0 : Int) ≤ v1.toInt ∧ v1.toInt ≤ 5) (i_v2 : (0 : Int) ≤ v2.toInt ∧ v2.toInt ≤ 200) (f_o0_0 : (0 : Int) ≤ (o0.1 0).toInt ∧ (o0.1 0).toInt ≤ 2) (f_o0_38 : (1 : Int) ≤ (o0.1 38).toInt ∧ (o0.1 38).toInt ≤ 1) (f_o0_95 : (0 : Int) ≤ (o0.1 95).toInt ∧ (o0.1 95).toInt ≤ 0) (x_0 : Cn (o0.2.1 59) (o0.2.1 58)) (x_1 : 1 ≤ v1.toInt) (x_2 : v1.toInt = yv1.toInt) (x_3 : Bt (o0.1 36).toInt ((yo0.1 39).toInt + 1) v2.toInt v1.toInt (o0.2.1 63) (o0.2.1 59)) (x_4 : Gx ((yo0.1 39).toInt + 1) (yo0.1 43).toInt (yo0.2.1 44) (yo0.2.1 45)) (x_5 : Cz (((yo0.1 39).toInt + 1) + v2.toInt) ((yo0.1 39).toInt + 1) (yo0.1 43).toInt (yo0.2.1 44) (yo0.2.1 45) (o0.2.1 57) (o0.2.1 59) (o0.2.1 58)) (x_6 : Cy v2.toInt ((yo0.1 39).toInt + 1) (yo0.1 43).toInt (yo0.2.1 44) (yo0.2.1 45) (o0.2.1 57) (o0.2.1 59) (o0.2.1 58)) (x_7 : Ca (((yo0.1 39).toInt + 1) + v2.toInt) (o0.2.1 57) (o0.2.1 59) (o0.2.1 58)) (x_8 : Zz 1 (o0.2.1 57) (o0.2.1 59)) (x_9 : Dz (o0.1 36).toInt ((yo0.1 39).toInt + 1) v2.toInt (o0.2.1 57) (o0.2.1 59) (o0.2.1 58) (o0.2.1 62)) (x_10 : Cu (o0.1 36).toInt ((yo0.1 39).toInt + 1) v2.toInt v1.toInt (yo0.2.1 44) (yo0.2.1 45) (o0.2.1 57) (o0.2.1 59) (o0.2.1 58)) (x_11 : 0 ≤ v2.toInt) (x_12 : v2.toInt ≤ (yo0.1 43).toInt) (x_13 : Bd (o0.1 36).toInt ((yo0.1 39).toInt + 1) v2.toInt (o0.2.1 57) (o0.2.1 63)) (x_14 : (o0.1 39).toInt = (yo0.1 39).toInt) (x_15 : (o0.1 43).toInt = (yo0.1 43).toInt) (x_16 : 2 ≤ v1.toInt) (hm : 0 + (200 - v2.toInt) * 2 ≤ (n : Int)) : tt (fM_cutAll_42 (gM_cutAll n) v1 v2 o0) (QM_cutAll yv1 yo0) := by
  unfold fM_cutAll_42
  have g_o0_36 : (0 : Int) ≤ (o0.1 36).toInt ∧ (o0.1 36).toInt ≤ 1 := k_o0.1 36
  have g_o0_39 : (0 : Int) ≤ (o0.1 39).toInt ∧ (o0.1 39).toInt ≤ 8 := k_o0.1 39
  have ey_o0_39 : (o0.1 39).toInt = (yo0.1 39).toInt := congrArg Int32.toInt (r_o0.1 39 rfl)
  have g_o0_43 : (0 : Int) ≤ (o0.1 43).toInt ∧ (o0.1 43).toInt ≤ 200 := k_o0.1 43
  have ey_o0_43 : (o0.1 43).toInt = (yo0.1 43).toInt := congrArg Int32.toInt (r_o0.1 43 rfl)
  refine tt_if (fun c1 => ?_) (fun c1 => ?_)
  · have wc1 : (o0.1 43).toInt ≤ v2.toInt := c_le c1
    try unfold fM_cutAll_86
    refine tt_if (fun c2 => ?_) (fun c2 => ?_)
    · have wc2 : (o0.1 36).toInt = (0 : Int) := c_eq c2
      have i3 : (0 : Int) ≤ (o0.1 36).toInt ∧ (o0.1 36).toInt ≤ 0 := nr_eql c2 (k_o0.1 36) (show (0 : Int) ≤ (0 : Int32).toInt ∧ (0 : Int32).toInt ≤ 0 by decide) (by decide) (by decide)
      try unfold fM_cutAll_98
      refine tt_w (iv_b (show (1 : Int) ≤ (1 : Int32).toInt ∧ (1 : Int32).toInt ≤ 1 by decide) (by decide) (by decide)) ?_
      have p4 : Bc 1 ((o0.1 39).toInt + 1) (o0.1 43).toInt yv1.toInt (o0.2.1 63) (o0.2.1 59) := by first | exact fun hz => absurd hz (by decide) | exact fun _ => Bs_w (Bt_e (by assumption) (by omega)) (by omega) (by omega) (by omega)
      have p5 : Hs 1 ((o0.1 39).toInt + 1) (o0.1 43).toInt yv1.toInt (o0.2.1 44) (o0.2.1 45) := by rw [r_o0.1 39 rfl, r_o0.1 43 rfl, r_o0.2.1 44 rfl, r_o0.2.1 45 rfl]; rw [← x_2]; exact Hs_i x_10 (by omega) (by omega) (by omega)
      have p6 : Fz 1 ((o0.1 39).toInt + 1) (o0.1 43).toInt (o0.2.1 44) (o0.2.1 45) (o0.2.1 57) (o0.2.1 59) (o0.2.1 58) (o0.2.1 62) := by rw [r_o0.1 39 rfl, r_o0.1 43 rfl, r_o0.2.1 44 rfl, r_o0.2.1 45 rfl]; exact Fz_i x_5 x_6 x_4 x_9 rfl (by omega)
      have p7 : Be 1 ((o0.1 39).toInt + 1) (o0.1 43).toInt (o0.2.1 57) (o0.2.1 63) := by rw [r_o0.1 39 rfl, r_o0.1 43 rfl]; exact Be_i x_13 (by omega)
      exact tt_some ⟨(iv_w (a := 0) (b := 1) (by decide) (by decide) (show (1 : Int) ≤ (1 : Int32).toInt ∧ (1 : Int32).toInt ≤ 1 by decide)), k_o0, r_o0, x_0, p4, p5, p6, p7, trivial⟩
    · have wc2 : ¬ (o0.1 36).toInt = (0 : Int) := c_ne c2
      have i8 : (1 : Int) ≤ (o0.1 36).toInt ∧ (o0.1 36).toInt ≤ 1 := nr_nela c2 (k_o0.1 36) (show (0 : Int) ≤ (0 : Int32).toInt ∧ (0 : Int32).toInt ≤ 0 by decide) (by decide) (by decide)
      try unfold fM_cutAll_98
      refine tt_w (iv_b (show (0 : Int) ≤ (0 : Int32).toInt ∧ (0 : Int32).toInt ≤ 0 by decide) (by decide) (by decide)) ?_
      have p9 : Bc 0 ((o0.1 39).toInt + 1) (o0.1 43).toInt yv1.toInt (o0.2.1 63) (o0.2.1 59) := by first | exact fun hz => absurd hz (by decide) | exact fun _ => Bs_w (Bt_e (by assumption) (by omega)) (by omega) (by omega) (by omega)
      have p10 : Hs 0 ((o0.1 39).toInt + 1) (o0.1 43).toInt yv1.toInt (o0.2.1 44) (o0.2.1 45) := by rw [r_o0.1 39 rfl, r_o0.1 43 rfl, r_o0.2.1 44 rfl, r_o0.2.1 45 rfl]; rw [← x_2]; exact Hs_i x_10 (by omega) (by omega) (by omega)
      have p11 : Fz 0 ((o0.1 39).toInt + 1) (o0.1 43).toInt (o0.2.1 44) (o0.2.1 45) (o0.2.1 57) (o0.2.1 59) (o0.2.1 58) (o0.2.1 62) := by rw [r_o0.1 39 rfl, r_o0.1 43 rfl, r_o0.2.1 44 rfl, r_o0.2.1 45 rfl]; exact Fz_i x_5 x_6 x_4 x_9 rfl (by omega)
      have p12 : Be 0 ((o0.1 39).toInt + 1) (o0.1 43).toInt (o0.2.1 57) (o0.2.1 63) := by rw [r_o0.1 39 rfl, r_o0.1 43 rfl]; exact Be_i x_13 (by omega)
      exact tt_some ⟨(iv_w (a := 0) (b := 1) (by decide) (by decide) (show (0 : Int) ≤ (0 : Int32).toInt ∧ (0 : Int32).toInt ≤ 0 by decide)), k_o0, r_o0, x_0, p9, p10, p11, p12, trivial⟩
  · have wc1 : v2.toInt < (o0.1 43).toInt := c_nle c1
    have i13 : (0 : Int) ≤ v2.toInt ∧ v2.toInt ≤ 199 := nr_nlel c1 i_v2 (k_o0.1 43) (by decide) (by decide)
    have i14 : (1 : Int) ≤ (o0.1 43).toInt ∧ (o0.1 43).toInt ≤ 200 := nr_nler c1 i_v2 (k_o0.1 43) (by decide) (by decide)
    refine tt_if (fun c15 => ?_) (fun c15 => ?_)
    · have wc15 : (o0.1 36).toInt = (0 : Int) := c_eq c15
      have i16 : (0 : Int) ≤ (o0.1 36).toInt ∧ (o0.1 36).toInt ≤ 0 := nr_eql c15 (k_o0.1 36) (show (0 : Int) ≤ (0 : Int32).toInt ∧ (0 : Int32).toInt ≤ 0 by decide) (by decide) (by decide)
      have p17 : Gx ((o0.1 39).toInt + 1) (o0.1 43).toInt (o0.2.1 44) (o0.2.1 45) := by rw [r_o0.1 39 rfl, r_o0.1 43 rfl, r_o0.2.1 44 rfl, r_o0.2.1 45 rfl]; assumption
      have p18 : Cz ((o0.1 39).toInt + 1 + v2.toInt) ((o0.1 39).toInt + 1) (o0.1 43).toInt (o0.2.1 44) (o0.2.1 45) (o0.2.1 57) (o0.2.1 59) (o0.2.1 58) := by rw [r_o0.1 39 rfl, r_o0.1 43 rfl, r_o0.2.1 44 rfl, r_o0.2.1 45 rfl]; assumption
      have p19 : Ca ((o0.1 39).toInt + 1 + v2.toInt) (o0.2.1 57) (o0.2.1 59) (o0.2.1 58) := by rw [r_o0.1 39 rfl]; assumption
      refine tt_b (sM_cut _ _ _ k_o0 i13 i_v1 f_o0_0 i16 f_o0_38 i14 f_o0_95 x_0 (show 1 ≤ v1.toInt by omega) p17 p18 (show v2.toInt < (o0.1 43).toInt by omega) p19 (show (o0.1 36).toInt = 0 by omega)) (fun q20 hq20 => ?_)
      obtain ⟨k_q20, n_q20, zq20_0, zq20_1, zq20_2, zq20_3, zq20_4, zq20_5, zq20_6, zq20_7, zq20_8, zq20_9, -⟩ := hq20
      have r_q20 := fr_tr r_o0 n_q20 rfl rfl rfl
      have f_q20_0 : (0 : Int) ≤ (q20.1 0).toInt ∧ (q20.1 0).toInt ≤ 2 := by rw [n_q20.1 0 rfl]; exact f_o0_0
      have f_q20_38 : (1 : Int) ≤ (q20.1 38).toInt ∧ (q20.1 38).toInt ≤ 1 := by rw [n_q20.1 38 rfl]; exact f_o0_38
      have f_q20_43 : (1 : Int) ≤ (q20.1 43).toInt ∧ (q20.1 43).toInt ≤ 200 := by rw [n_q20.1 43 rfl]; exact i14
      have f_q20_95 : (0 : Int) ≤ (q20.1 95).toInt ∧ (q20.1 95).toInt ≤ 0 := by rw [n_q20.1 95 rfl]; exact f_o0_95
      have g_q20_36 : (0 : Int) ≤ (q20.1 36).toInt ∧ (q20.1 36).toInt ≤ 1 := k_q20.1 36
      have e_q20_39 : (q20.1 39).toInt = (o0.1 39).toInt := congrArg Int32.toInt (n_q20.1 39 rfl)
      have g_q20_39 : (0 : Int) ≤ (q20.1 39).toInt ∧ (q20.1 39).toInt ≤ 8 := k_q20.1 39
      have e_q20_43 : (q20.1 43).toInt = (o0.1 43).toInt := congrArg Int32.toInt (n_q20.1 43 rfl)
      refine tt_if (fun c21 => ?_) (fun c21 => ?_)
      · have wc21 : (q20.1 36).toInt = (0 : Int) := c_eq c21
        have i22 : (0 : Int) ≤ (q20.1 36).toInt ∧ (q20.1 36).toInt ≤ 0 := nr_eql c21 (k_q20.1 36) (show (0 : Int) ≤ (0 : Int32).toInt ∧ (0 : Int32).toInt ≤ 0 by decide) (by decide) (by decide)
        try unfold fM_base
        try unfold fM_base_0
        refine tt_bkv (P := fun z => ((1 : Int) ≤ z.toInt ∧ z.toInt ≤ 9) ∧ z.toInt = (q20.1 39).toInt + 1) ⟨iv_add (k_q20.1 39) (show (1 : Int) ≤ (1 : Int32).toInt ∧ (1 : Int32).toInt ≤ 1 by decide) (by decide) (by decide) (by decide) (by decide), iq_add (k_q20.1 39) (show (1 : Int) ≤ (1 : Int32).toInt ∧ (1 : Int32).toInt ≤ 1 by decide) (by decide) (by decide)⟩ (fun x23 qi24 => ?_)
        obtain ⟨i24, ei24⟩ := qi24
        refine tt_bs ?_
        refine tt_kv (P := fun z => ((1 : Int) ≤ z.toInt ∧ z.toInt ≤ 208) ∧ z.toInt = x23.toInt + v2.toInt) ⟨iv_add i24 i13 (by decide) (by decide) (by decide) (by decide), iq_add i24 i13 (by decide) (by decide)⟩ (fun x25 qi26 => ?_)
        obtain ⟨i26, ei26⟩ := qi26
        have p27 : Sn x25.toInt (q20.2.1 57) (q20.2.1 59) (q20.2.1 58) := by exact Sn_c (g := v2.toNatClampNeg) (show Cx _ _ _ _ _ _ _ _ _ _ by assumption) (by rw [r_o0.1 39 rfl, r_o0.1 43 rfl, r_o0.2.1 44 rfl, r_o0.2.1 45 rfl]; exact x_4) (by rw [tn_n]; omega) (by rw [tn_n]; omega) (by omega)
        have p28 : Dn x25.toInt (q20.2.1 62) := by rw [(show Fr (fr_M [36] [57, 58, 59, 60, 61] []) _ _ by assumption).2.1 62 rfl]; exact Dn_n (x_9 (by omega)).1 (by omega)
        have t29 : (0 : Int) ≤ (q20.2.1 57 x25.toNatClampNeg).toInt ∧ (q20.2.1 57 x25.toNatClampNeg).toInt ≤ 300 := k_q20.2 57 _
        refine tt_b (sM_findBest _ _ k_q20 i26 f_q20_0 i22 f_q20_38 f_q20_43 f_q20_95 p27 p28 (show 1 ≤ (q20.2.1 57 x25.toNatClampNeg).toInt by exact lp_e (show Lp _ _ _ by assumption) (by omega) (by omega) (by rw [← Int.ofNat_inj, tn_n]; omega))) (fun q30 hq30 => ?_)
        obtain ⟨k_q30, n_q30, zq30_0, zq30_1, zq30_2, zq30_3, -⟩ := hq30
        have r_q30 := fr_tr r_q20 n_q30 rfl rfl rfl
        have f_q30_0 : (0 : Int) ≤ (q30.1 0).toInt ∧ (q30.1 0).toInt ≤ 2 := by rw [n_q30.1 0 rfl]; exact f_q20_0
        have f_q30_36 : (0 : Int) ≤ (q30.1 36).toInt ∧ (q30.1 36).toInt ≤ 0 := by rw [n_q30.1 36 rfl]; exact i22
        have f_q30_38 : (1 : Int) ≤ (q30.1 38).toInt ∧ (q30.1 38).toInt ≤ 1 := by rw [n_q30.1 38 rfl]; exact f_q20_38
        have f_q30_43 : (1 : Int) ≤ (q30.1 43).toInt ∧ (q30.1 43).toInt ≤ 200 := by rw [n_q30.1 43 rfl]; exact f_q20_43
        have f_q30_95 : (0 : Int) ≤ (q30.1 95).toInt ∧ (q30.1 95).toInt ≤ 0 := by rw [n_q30.1 95 rfl]; exact f_q20_95
        have e_q30_36 : (q30.1 36).toInt = (q20.1 36).toInt := congrArg Int32.toInt (n_q30.1 36 rfl)
        have e_q30_39 : (q30.1 39).toInt = (q20.1 39).toInt := congrArg Int32.toInt (n_q30.1 39 rfl)
        have g_q30_39 : (0 : Int) ≤ (q30.1 39).toInt ∧ (q30.1 39).toInt ≤ 8 := k_q30.1 39
        have e_q30_43 : (q30.1 43).toInt = (q20.1 43).toInt := congrArg Int32.toInt (n_q30.1 43 rfl)
        have u31 : Cn (q30.2.1 59) (q30.2.1 58) := by rw [n_q30.2.1 58 rfl, n_q30.2.1 59 rfl]; exact zq20_0
        have u32 : Sz ((q30.1 39).toInt + 1 + v2.toInt) v1.toInt (q30.2.1 57) (q30.2.1 59) := by rw [n_q30.1 39 rfl, n_q30.2.1 57 rfl, n_q30.2.1 59 rfl]; exact zq20_1
        have u33 : Lc ((q30.1 39).toInt + 1 + v2.toInt) (o0.2.1 59) (q30.2.1 59) := by rw [n_q30.1 39 rfl, n_q30.2.1 59 rfl]; exact zq20_2
        have u34 : Cz ((o0.1 39).toInt + 1 + v2.toInt + 1) ((o0.1 39).toInt + 1) (o0.1 43).toInt (o0.2.1 44) (o0.2.1 45) (q30.2.1 57) (q30.2.1 59) (q30.2.1 58) := by rw [n_q30.2.1 57 rfl, n_q30.2.1 58 rfl, n_q30.2.1 59 rfl]; exact zq20_3
        have u35 : Cx ((o0.1 39).toInt + 1 + v2.toInt) ((o0.2.1 44 v2.toNatClampNeg).toInt / 2) ((o0.2.1 45 v2.toNatClampNeg).toInt / 2) ((o0.1 39).toInt + 1) (o0.1 43).toInt (o0.2.1 44) (o0.2.1 45) (q30.2.1 57) (q30.2.1 59) (q30.2.1 58) := by rw [n_q30.2.1 57 rfl, n_q30.2.1 58 rfl, n_q30.2.1 59 rfl]; exact zq20_4
        have u36 : Ce ((o0.1 39).toInt + 1 + v2.toInt) (o0.2.1 57) (q30.2.1 57) := by rw [n_q30.2.1 57 rfl]; exact zq20_5
        have u37 : Ce (1505 * ((o0.1 39).toInt + 1 + v2.toInt)) (o0.2.1 58) (q30.2.1 58) := by rw [n_q30.2.1 58 rfl]; exact zq20_6
        have u38 : Ca ((o0.1 39).toInt + 1 + v2.toInt + 1) (q30.2.1 57) (q30.2.1 59) (q30.2.1 58) := by rw [n_q30.2.1 57 rfl, n_q30.2.1 58 rfl, n_q30.2.1 59 rfl]; exact zq20_7
        have u39 : Lp v1.toInt (((q30.2.1 57) ((o0.1 39).toInt + 1 + v2.toInt).toNat).toInt) (q30.1 36).toInt := by rw [n_q30.1 36 rfl, n_q30.2.1 57 rfl]; exact zq20_8
        have u40 : Gp2 (q30.1 36).toInt (rowL (q30.2.1 57) (q30.2.1 59) (q30.2.1 58) ((o0.1 39).toInt + 1 + v2.toInt).toNat) (allL (o0.2.1 57) (o0.2.1 59) (o0.2.1 58) ((o0.2.1 44 v2.toNatClampNeg).toInt / 2).toNat) (allL (o0.2.1 57) (o0.2.1 59) (o0.2.1 58) ((o0.2.1 45 v2.toNatClampNeg).toInt / 2).toNat) v1.toInt.toNat := by rw [n_q30.1 36 rfl, n_q30.2.1 57 rfl, n_q30.2.1 58 rfl, n_q30.2.1 59 rfl]; exact zq20_9
        try unfold fM_cutAll_80
        refine tt_kv (P := fun z => ((1 : Int) ≤ z.toInt ∧ z.toInt ≤ 200) ∧ z.toInt = v2.toInt + 1) ⟨iv_add i13 (show (1 : Int) ≤ (1 : Int32).toInt ∧ (1 : Int32).toInt ≤ 1 by decide) (by decide) (by decide) (by decide) (by decide), iq_add i13 (show (1 : Int) ≤ (1 : Int32).toInt ∧ (1 : Int32).toInt ≤ 1 by decide) (by decide) (by decide)⟩ (fun x41 qi42 => ?_)
        obtain ⟨i42, ei42⟩ := qi42
        have p43 : Bt (q30.1 36).toInt ((yo0.1 39).toInt + 1) x41.toInt v1.toInt (q30.2.1 63) (q30.2.1 59) := by first | assumption | exact fun hz => absurd hz (by omega) | exact fun _ => Bs_s (Bt_e (by assumption) (by omega)) (by assumption) (by assumption) (by assumption) ((show Fr (fr_M [36] [57, 58, 59, 60, 61] []) _ _ by assumption).2.1 63 rfl) (by omega) (by omega) (by omega) (by omega) (by omega) (by assumption)
        have p44 : Cz (((yo0.1 39).toInt + 1) + x41.toInt) ((yo0.1 39).toInt + 1) (yo0.1 43).toInt (yo0.2.1 44) (yo0.2.1 45) (q30.2.1 57) (q30.2.1 59) (q30.2.1 58) := by first | (rw [← r_o0.1 39 rfl, ← r_o0.1 43 rfl, ← r_o0.2.1 44 rfl, ← r_o0.2.1 45 rfl]; exact Cz_n (by assumption) (by omega)) | (rw [← r_o0.1 39 rfl, ← r_o0.1 43 rfl, ← r_o0.2.1 44 rfl, ← r_o0.2.1 45 rfl]; rw [(show Fr (fr_M [] [62, 63] []) _ _ by assumption).2.1 57 rfl, (show Fr (fr_M [] [62, 63] []) _ _ by assumption).2.1 59 rfl, (show Fr (fr_M [] [62, 63] []) _ _ by assumption).2.1 58 rfl]; exact Cz_n (by assumption) (by omega))
        have p45 : Cy x41.toInt ((yo0.1 39).toInt + 1) (yo0.1 43).toInt (yo0.2.1 44) (yo0.2.1 45) (q30.2.1 57) (q30.2.1 59) (q30.2.1 58) := by first | (rw [← r_o0.1 39 rfl, ← r_o0.1 43 rfl, ← r_o0.2.1 44 rfl, ← r_o0.2.1 45 rfl]; exact Cy_s (g := v2.toNatClampNeg) (by rw [r_o0.1 39 rfl, r_o0.1 43 rfl, r_o0.2.1 44 rfl, r_o0.2.1 45 rfl]; assumption) (show Cx _ _ _ _ _ _ _ _ _ _ by assumption) (by omega) (by rw [tn_n]; omega) (by omega) rfl rfl (show Ce ((o0.1 39).toInt + 1 + v2.toInt) _ _ by assumption) (lc_o (show Lc _ (o0.2.1 59) _ by assumption) (by omega)) (show Ce (1505 * ((o0.1 39).toInt + 1 + v2.toInt)) _ _ by assumption) (fun c => (k_o0.2 59 c).2) (fun c => (k_o0.2 57 c).2) (by omega)) | (rw [← r_o0.1 39 rfl, ← r_o0.1 43 rfl, ← r_o0.2.1 44 rfl, ← r_o0.2.1 45 rfl]; rw [(show Fr (fr_M [] [62, 63] []) _ _ by assumption).2.1 57 rfl, (show Fr (fr_M [] [62, 63] []) _ _ by assumption).2.1 59 rfl, (show Fr (fr_M [] [62, 63] []) _ _ by assumption).2.1 58 rfl]; exact Cy_s (g := v2.toNatClampNeg) (by rw [r_o0.1 39 rfl, r_o0.1 43 rfl, r_o0.2.1 44 rfl, r_o0.2.1 45 rfl]; assumption) (show Cx _ _ _ _ _ _ _ _ _ _ by assumption) (by omega) (by rw [tn_n]; omega) (by omega) rfl rfl (show Ce ((o0.1 39).toInt + 1 + v2.toInt) _ _ by assumption) (lc_o (show Lc _ (o0.2.1 59) _ by assumption) (by omega)) (show Ce (1505 * ((o0.1 39).toInt + 1 + v2.toInt)) _ _ by assumption) (fun c => (k_o0.2 59 c).2) (fun c => (k_o0.2 57 c).2) (by omega))
        have p46 : Ca (((yo0.1 39).toInt + 1) + x41.toInt) (q30.2.1 57) (q30.2.1 59) (q30.2.1 58) := by first | (rw [← r_o0.1 39 rfl]; exact Ca_n (by assumption) (by omega)) | (rw [← r_o0.1 39 rfl]; rw [(show Fr (fr_M [] [62, 63] []) _ _ by assumption).2.1 57 rfl, (show Fr (fr_M [] [62, 63] []) _ _ by assumption).2.1 59 rfl, (show Fr (fr_M [] [62, 63] []) _ _ by assumption).2.1 58 rfl]; exact Ca_n (by assumption) (by omega))
        have p47 : Zz 1 (q30.2.1 57) (q30.2.1 59) := by first | exact Zz_e x_8 (show Ce ((o0.1 39).toInt + 1 + v2.toInt) _ _ by assumption) (lc_o (show Lc _ (o0.2.1 59) _ by assumption) (by omega)) (by omega) | (rw [(show Fr (fr_M [] [62, 63] []) _ _ by assumption).2.1 57 rfl, (show Fr (fr_M [] [62, 63] []) _ _ by assumption).2.1 59 rfl]; exact Zz_e x_8 (show Ce ((o0.1 39).toInt + 1 + v2.toInt) _ _ by assumption) (lc_o (show Lc _ (o0.2.1 59) _ by assumption) (by omega)) (by omega))
        have p48 : Dz (q30.1 36).toInt ((yo0.1 39).toInt + 1) x41.toInt (q30.2.1 57) (q30.2.1 59) (q30.2.1 58) (q30.2.1 62) := by first | exact Dz_n (by omega) | (rw [← r_o0.1 39 rfl]; rw [(show Fr (fr_M [] [62, 63] []) _ _ by assumption).2.1 57 rfl, (show Fr (fr_M [] [62, 63] []) _ _ by assumption).2.1 59 rfl, (show Fr (fr_M [] [62, 63] []) _ _ by assumption).2.1 58 rfl]; exact Dz_s (z0 := (o0.1 36).toInt) (by rw [r_o0.1 39 rfl]; exact x_9) (by omega) (show Ce ((o0.1 39).toInt + 1 + v2.toInt) _ _ by assumption) (lc_o (show Lc _ (o0.2.1 59) _ by assumption) (by omega)) (show Ce (1505 * ((o0.1 39).toInt + 1 + v2.toInt)) _ _ by assumption) (fdd_o (show Fdd _ _ _ _ _ _ by assumption) (by omega) ((show Fr (fr_M [36] [57, 58, 59, 60, 61] []) _ _ by assumption).2.1 62 rfl).symm) (by omega) (by omega) (fun c => (k_o0.2 59 c).2) (fun c => (k_o0.2 57 c).2) (by omega) (by omega))
        have p49 : Cu (q30.1 36).toInt ((yo0.1 39).toInt + 1) x41.toInt v1.toInt (yo0.2.1 44) (yo0.2.1 45) (q30.2.1 57) (q30.2.1 59) (q30.2.1 58) := by first | (rw [← r_o0.1 39 rfl, ← r_o0.2.1 44 rfl, ← r_o0.2.1 45 rfl]; exact Cu_s (gg := v2.toNatClampNeg) (z := (o0.1 36).toInt) (by rw [r_o0.1 39 rfl, r_o0.2.1 44 rfl, r_o0.2.1 45 rfl]; exact x_10) (by omega) (by rw [r_o0.1 39 rfl]; exact x_7) (Zz_1 x_8 (by decide)) (fun c => (k_o0.2 57 c).1) (show Ce ((o0.1 39).toInt + 1 + v2.toInt) _ _ by assumption) (lc_o (show Lc _ (o0.2.1 59) _ by assumption) (by omega)) (show Ce (1505 * ((o0.1 39).toInt + 1 + v2.toInt)) _ _ by assumption) (fun c => (k_o0.2 59 c).2) (fun c => (k_o0.2 57 c).2) (by rw [tn_n]; omega) (by omega) (by omega) (Gx_le (n := (yo0.1 43).toInt) (by rw [r_o0.1 39 rfl, r_o0.2.1 44 rfl, r_o0.2.1 45 rfl]; exact x_4) (by omega)) (by omega) (show Gp2 _ _ _ _ _ by assumption)) | (rw [← r_o0.1 39 rfl, ← r_o0.2.1 44 rfl, ← r_o0.2.1 45 rfl]; rw [(show Fr (fr_M [] [62, 63] []) _ _ by assumption).2.1 57 rfl, (show Fr (fr_M [] [62, 63] []) _ _ by assumption).2.1 59 rfl, (show Fr (fr_M [] [62, 63] []) _ _ by assumption).2.1 58 rfl]; rw [(show Fr (fr_M [] [62, 63] []) _ _ by assumption).1 36 rfl]; exact Cu_s (gg := v2.toNatClampNeg) (z := (o0.1 36).toInt) (by rw [r_o0.1 39 rfl, r_o0.2.1 44 rfl, r_o0.2.1 45 rfl]; exact x_10) (by omega) (by rw [r_o0.1 39 rfl]; exact x_7) (Zz_1 x_8 (by decide)) (fun c => (k_o0.2 57 c).1) (show Ce ((o0.1 39).toInt + 1 + v2.toInt) _ _ by assumption) (lc_o (show Lc _ (o0.2.1 59) _ by assumption) (by omega)) (show Ce (1505 * ((o0.1 39).toInt + 1 + v2.toInt)) _ _ by assumption) (fun c => (k_o0.2 59 c).2) (fun c => (k_o0.2 57 c).2) (by rw [tn_n]; omega) (by omega) (by omega) (Gx_le (n := (yo0.1 43).toInt) (by rw [r_o0.1 39 rfl, r_o0.2.1 44 rfl, r_o0.2.1 45 rfl]; exact x_4) (by omega)) (by omega) (show Gp2 _ _ _ _ _ by assumption))
        have p50 : Bd (q30.1 36).toInt ((yo0.1 39).toInt + 1) x41.toInt (q30.2.1 57) (q30.2.1 63) := by first | exact Bd_n (by omega) | (rw [← r_o0.1 39 rfl]; rw [(show Fr (fr_M [] [62, 63] []) _ _ by assumption).2.1 57 rfl]; exact Bd_s (z0 := (o0.1 36).toInt) (by rw [r_o0.1 39 rfl]; exact x_13) (by omega) (show Ce ((o0.1 39).toInt + 1 + v2.toInt) _ _ by assumption) (show Ub _ _ _ by assumption) ((show Fr (fr_M [36] [57, 58, 59, 60, 61] []) _ _ by assumption).2.1 63 rfl) (show Fs _ _ _ by assumption) (by omega) (by omega) (by omega) (by omega) (by omega))
        exact H.2 _ _ _ k_q30 r_q30 i_v1 (iv_w (a := 0) (b := 200) (by decide) (by decide) i42) f_q30_0 f_q30_38 f_q30_95 u31 (show 1 ≤ v1.toInt by omega) (show v1.toInt = yv1.toInt by omega) p43 x_4 p44 p45 p46 p47 p48 p49 (show 0 ≤ x41.toInt by omega) (show x41.toInt ≤ (yo0.1 43).toInt by omega) p50 (show (q30.1 39).toInt = (yo0.1 39).toInt by omega) (show (q30.1 43).toInt = (yo0.1 43).toInt by omega) (show 2 ≤ v1.toInt by omega) (show 0 + (200 - x41.toInt) * 2 < (n : Int) by omega)
      · have wc21 : ¬ (q20.1 36).toInt = (0 : Int) := c_ne c21
        have i51 : (1 : Int) ≤ (q20.1 36).toInt ∧ (q20.1 36).toInt ≤ 1 := nr_nela c21 (k_q20.1 36) (show (0 : Int) ≤ (0 : Int32).toInt ∧ (0 : Int32).toInt ≤ 0 by decide) (by decide) (by decide)
        try unfold fM_cutAll_80
        refine tt_kv (P := fun z => ((1 : Int) ≤ z.toInt ∧ z.toInt ≤ 200) ∧ z.toInt = v2.toInt + 1) ⟨iv_add i13 (show (1 : Int) ≤ (1 : Int32).toInt ∧ (1 : Int32).toInt ≤ 1 by decide) (by decide) (by decide) (by decide) (by decide), iq_add i13 (show (1 : Int) ≤ (1 : Int32).toInt ∧ (1 : Int32).toInt ≤ 1 by decide) (by decide) (by decide)⟩ (fun x52 qi53 => ?_)
        obtain ⟨i53, ei53⟩ := qi53
        have p54 : Bt (q20.1 36).toInt ((yo0.1 39).toInt + 1) x52.toInt v1.toInt (q20.2.1 63) (q20.2.1 59) := by first | assumption | exact fun hz => absurd hz (by omega) | exact fun _ => Bs_s (Bt_e (by assumption) (by omega)) (by assumption) (by assumption) (by assumption) ((show Fr (fr_M [36] [57, 58, 59, 60, 61] []) _ _ by assumption).2.1 63 rfl) (by omega) (by omega) (by omega) (by omega) (by omega) (by assumption)
        have p55 : Cz (((yo0.1 39).toInt + 1) + x52.toInt) ((yo0.1 39).toInt + 1) (yo0.1 43).toInt (yo0.2.1 44) (yo0.2.1 45) (q20.2.1 57) (q20.2.1 59) (q20.2.1 58) := by first | (rw [← r_o0.1 39 rfl, ← r_o0.1 43 rfl, ← r_o0.2.1 44 rfl, ← r_o0.2.1 45 rfl]; exact Cz_n (by assumption) (by omega)) | (rw [← r_o0.1 39 rfl, ← r_o0.1 43 rfl, ← r_o0.2.1 44 rfl, ← r_o0.2.1 45 rfl]; rw [(show Fr (fr_M [] [62, 63] []) _ _ by assumption).2.1 57 rfl, (show Fr (fr_M [] [62, 63] []) _ _ by assumption).2.1 59 rfl, (show Fr (fr_M [] [62, 63] []) _ _ by assumption).2.1 58 rfl]; exact Cz_n (by assumption) (by omega))
        have p56 : Cy x52.toInt ((yo0.1 39).toInt + 1) (yo0.1 43).toInt (yo0.2.1 44) (yo0.2.1 45) (q20.2.1 57) (q20.2.1 59) (q20.2.1 58) := by first | (rw [← r_o0.1 39 rfl, ← r_o0.1 43 rfl, ← r_o0.2.1 44 rfl, ← r_o0.2.1 45 rfl]; exact Cy_s (g := v2.toNatClampNeg) (by rw [r_o0.1 39 rfl, r_o0.1 43 rfl, r_o0.2.1 44 rfl, r_o0.2.1 45 rfl]; assumption) (show Cx _ _ _ _ _ _ _ _ _ _ by assumption) (by omega) (by rw [tn_n]; omega) (by omega) rfl rfl (show Ce ((o0.1 39).toInt + 1 + v2.toInt) _ _ by assumption) (lc_o (show Lc _ (o0.2.1 59) _ by assumption) (by omega)) (show Ce (1505 * ((o0.1 39).toInt + 1 + v2.toInt)) _ _ by assumption) (fun c => (k_o0.2 59 c).2) (fun c => (k_o0.2 57 c).2) (by omega)) | (rw [← r_o0.1 39 rfl, ← r_o0.1 43 rfl, ← r_o0.2.1 44 rfl, ← r_o0.2.1 45 rfl]; rw [(show Fr (fr_M [] [62, 63] []) _ _ by assumption).2.1 57 rfl, (show Fr (fr_M [] [62, 63] []) _ _ by assumption).2.1 59 rfl, (show Fr (fr_M [] [62, 63] []) _ _ by assumption).2.1 58 rfl]; exact Cy_s (g := v2.toNatClampNeg) (by rw [r_o0.1 39 rfl, r_o0.1 43 rfl, r_o0.2.1 44 rfl, r_o0.2.1 45 rfl]; assumption) (show Cx _ _ _ _ _ _ _ _ _ _ by assumption) (by omega) (by rw [tn_n]; omega) (by omega) rfl rfl (show Ce ((o0.1 39).toInt + 1 + v2.toInt) _ _ by assumption) (lc_o (show Lc _ (o0.2.1 59) _ by assumption) (by omega)) (show Ce (1505 * ((o0.1 39).toInt + 1 + v2.toInt)) _ _ by assumption) (fun c => (k_o0.2 59 c).2) (fun c => (k_o0.2 57 c).2) (by omega))
        have p57 : Ca (((yo0.1 39).toInt + 1) + x52.toInt) (q20.2.1 57) (q20.2.1 59) (q20.2.1 58) := by first | (rw [← r_o0.1 39 rfl]; exact Ca_n (by assumption) (by omega)) | (rw [← r_o0.1 39 rfl]; rw [(show Fr (fr_M [] [62, 63] []) _ _ by assumption).2.1 57 rfl, (show Fr (fr_M [] [62, 63] []) _ _ by assumption).2.1 59 rfl, (show Fr (fr_M [] [62, 63] []) _ _ by assumption).2.1 58 rfl]; exact Ca_n (by assumption) (by omega))
        have p58 : Zz 1 (q20.2.1 57) (q20.2.1 59) := by first | exact Zz_e x_8 (show Ce ((o0.1 39).toInt + 1 + v2.toInt) _ _ by assumption) (lc_o (show Lc _ (o0.2.1 59) _ by assumption) (by omega)) (by omega) | (rw [(show Fr (fr_M [] [62, 63] []) _ _ by assumption).2.1 57 rfl, (show Fr (fr_M [] [62, 63] []) _ _ by assumption).2.1 59 rfl]; exact Zz_e x_8 (show Ce ((o0.1 39).toInt + 1 + v2.toInt) _ _ by assumption) (lc_o (show Lc _ (o0.2.1 59) _ by assumption) (by omega)) (by omega))
        have p59 : Dz (q20.1 36).toInt ((yo0.1 39).toInt + 1) x52.toInt (q20.2.1 57) (q20.2.1 59) (q20.2.1 58) (q20.2.1 62) := by first | exact Dz_n (by omega) | (rw [← r_o0.1 39 rfl]; rw [(show Fr (fr_M [] [62, 63] []) _ _ by assumption).2.1 57 rfl, (show Fr (fr_M [] [62, 63] []) _ _ by assumption).2.1 59 rfl, (show Fr (fr_M [] [62, 63] []) _ _ by assumption).2.1 58 rfl]; exact Dz_s (z0 := (o0.1 36).toInt) (by rw [r_o0.1 39 rfl]; exact x_9) (by omega) (show Ce ((o0.1 39).toInt + 1 + v2.toInt) _ _ by assumption) (lc_o (show Lc _ (o0.2.1 59) _ by assumption) (by omega)) (show Ce (1505 * ((o0.1 39).toInt + 1 + v2.toInt)) _ _ by assumption) (fdd_o (show Fdd _ _ _ _ _ _ by assumption) (by omega) ((show Fr (fr_M [36] [57, 58, 59, 60, 61] []) _ _ by assumption).2.1 62 rfl).symm) (by omega) (by omega) (fun c => (k_o0.2 59 c).2) (fun c => (k_o0.2 57 c).2) (by omega) (by omega))
        have p60 : Cu (q20.1 36).toInt ((yo0.1 39).toInt + 1) x52.toInt v1.toInt (yo0.2.1 44) (yo0.2.1 45) (q20.2.1 57) (q20.2.1 59) (q20.2.1 58) := by first | (rw [← r_o0.1 39 rfl, ← r_o0.2.1 44 rfl, ← r_o0.2.1 45 rfl]; exact Cu_s (gg := v2.toNatClampNeg) (z := (o0.1 36).toInt) (by rw [r_o0.1 39 rfl, r_o0.2.1 44 rfl, r_o0.2.1 45 rfl]; exact x_10) (by omega) (by rw [r_o0.1 39 rfl]; exact x_7) (Zz_1 x_8 (by decide)) (fun c => (k_o0.2 57 c).1) (show Ce ((o0.1 39).toInt + 1 + v2.toInt) _ _ by assumption) (lc_o (show Lc _ (o0.2.1 59) _ by assumption) (by omega)) (show Ce (1505 * ((o0.1 39).toInt + 1 + v2.toInt)) _ _ by assumption) (fun c => (k_o0.2 59 c).2) (fun c => (k_o0.2 57 c).2) (by rw [tn_n]; omega) (by omega) (by omega) (Gx_le (n := (yo0.1 43).toInt) (by rw [r_o0.1 39 rfl, r_o0.2.1 44 rfl, r_o0.2.1 45 rfl]; exact x_4) (by omega)) (by omega) (show Gp2 _ _ _ _ _ by assumption)) | (rw [← r_o0.1 39 rfl, ← r_o0.2.1 44 rfl, ← r_o0.2.1 45 rfl]; rw [(show Fr (fr_M [] [62, 63] []) _ _ by assumption).2.1 57 rfl, (show Fr (fr_M [] [62, 63] []) _ _ by assumption).2.1 59 rfl, (show Fr (fr_M [] [62, 63] []) _ _ by assumption).2.1 58 rfl]; rw [(show Fr (fr_M [] [62, 63] []) _ _ by assumption).1 36 rfl]; exact Cu_s (gg := v2.toNatClampNeg) (z := (o0.1 36).toInt) (by rw [r_o0.1 39 rfl, r_o0.2.1 44 rfl, r_o0.2.1 45 rfl]; exact x_10) (by omega) (by rw [r_o0.1 39 rfl]; exact x_7) (Zz_1 x_8 (by decide)) (fun c => (k_o0.2 57 c).1) (show Ce ((o0.1 39).toInt + 1 + v2.toInt) _ _ by assumption) (lc_o (show Lc _ (o0.2.1 59) _ by assumption) (by omega)) (show Ce (1505 * ((o0.1 39).toInt + 1 + v2.toInt)) _ _ by assumption) (fun c => (k_o0.2 59 c).2) (fun c => (k_o0.2 57 c).2) (by rw [tn_n]; omega) (by omega) (by omega) (Gx_le (n := (yo0.1 43).toInt) (by rw [r_o0.1 39 rfl, r_o0.2.1 44 rfl, r_o0.2.1 45 rfl]; exact x_4) (by omega)) (by omega) (show Gp2 _ _ _ _ _ by assumption))
        have p61 : Bd (q20.1 36).toInt ((yo0.1 39).toInt + 1) x52.toInt (q20.2.1 57) (q20.2.1 63) := by first | exact Bd_n (by omega) | (rw [← r_o0.1 39 rfl]; rw [(show Fr (fr_M [] [62, 63] []) _ _ by assumption).2.1 57 rfl]; exact Bd_s (z0 := (o0.1 36).toInt) (by rw [r_o0.1 39 rfl]; exact x_13) (by omega) (show Ce ((o0.1 39).toInt + 1 + v2.toInt) _ _ by assumption) (show Ub _ _ _ by assumption) ((show Fr (fr_M [36] [57, 58, 59, 60, 61] []) _ _ by assumption).2.1 63 rfl) (show Fs _ _ _ by assumption) (by omega) (by omega) (by omega) (by omega) (by omega))
        exact H.2 _ _ _ k_q20 r_q20 i_v1 (iv_w (a := 0) (b := 200) (by decide) (by decide) i53) f_q20_0 f_q20_38 f_q20_95 zq20_0 (show 1 ≤ v1.toInt by omega) (show v1.toInt = yv1.toInt by omega) p54 x_4 p55 p56 p57 p58 p59 p60 (show 0 ≤ x52.toInt by omega) (show x52.toInt ≤ (yo0.1 43).toInt by omega) p61 (show (q20.1 39).toInt = (yo0.1 39).toInt by omega) (show (q20.1 43).toInt = (yo0.1 43).toInt by omega) (show 2 ≤ v1.toInt by omega) (show 0 + (200 - x52.toInt) * 2 < (n : Int) by omega)
    · have wc15 : ¬ (o0.1 36).toInt = (0 : Int) := c_ne c15
      have i62 : (1 : Int) ≤ (o0.1 36).toInt ∧ (o0.1 36).toInt ≤ 1 := nr_nela c15 (k_o0.1 36) (show (0 : Int) ≤ (0 : Int32).toInt ∧ (0 : Int32).toInt ≤ 0 by decide) (by decide) (by decide)
      try unfold fM_cutAll_86
      refine tt_if (fun c63 => ?_) (fun c63 => ?_)
      · have wc63 : (o0.1 36).toInt = (0 : Int) := c_eq c63
        exact (dd_eq c63 i62 (show (0 : Int) ≤ (0 : Int32).toInt ∧ (0 : Int32).toInt ≤ 0 by decide) (by decide)).elim
      · have wc63 : ¬ (o0.1 36).toInt = (0 : Int) := c_ne c63
        try unfold fM_cutAll_98
        refine tt_w (iv_b (show (0 : Int) ≤ (0 : Int32).toInt ∧ (0 : Int32).toInt ≤ 0 by decide) (by decide) (by decide)) ?_
        have p64 : Bc 0 ((o0.1 39).toInt + 1) (o0.1 43).toInt yv1.toInt (o0.2.1 63) (o0.2.1 59) := by first | exact fun hz => absurd hz (by decide) | exact fun _ => Bs_w (Bt_e (by assumption) (by omega)) (by omega) (by omega) (by omega)
        have p65 : Hs 0 ((o0.1 39).toInt + 1) (o0.1 43).toInt yv1.toInt (o0.2.1 44) (o0.2.1 45) := by rw [r_o0.1 39 rfl, r_o0.1 43 rfl, r_o0.2.1 44 rfl, r_o0.2.1 45 rfl]; rw [← x_2]; exact Hs_i x_10 (by omega) (by omega) (by omega)
        have p66 : Fz 0 ((o0.1 39).toInt + 1) (o0.1 43).toInt (o0.2.1 44) (o0.2.1 45) (o0.2.1 57) (o0.2.1 59) (o0.2.1 58) (o0.2.1 62) := by rw [r_o0.1 39 rfl, r_o0.1 43 rfl, r_o0.2.1 44 rfl, r_o0.2.1 45 rfl]; exact Fz_i x_5 x_6 x_4 x_9 rfl (by omega)
        have p67 : Be 0 ((o0.1 39).toInt + 1) (o0.1 43).toInt (o0.2.1 57) (o0.2.1 63) := by rw [r_o0.1 39 rfl, r_o0.1 43 rfl]; exact Be_i x_13 (by omega)
        exact tt_some ⟨(iv_w (a := 0) (b := 1) (by decide) (by decide) (show (0 : Int) ≤ (0 : Int32).toInt ∧ (0 : Int32).toInt ≤ 0 by decide)), k_o0, r_o0, x_0, p64, p65, p66, p67, trivial⟩
set_option maxHeartbeats 4000000 in
set_option maxRecDepth 100000 in
theorem tM_cutAll_7 {yv1 : Int32} {yo0 : cf_O} {n : Nat} (H : HM_cutAll yv1 yo0 n) (v1 : Int32) (v2 : Int32) (o0 : cf_O) (k_o0 : okO I_M o0) (r_o0 : Fr (fr_M [36] [57, 58, 59, 60, 61, 62, 63] []) yo0 o0) (i_v1 : (0 : Int) ≤ v1.toInt ∧ v1.toInt ≤ 5) (i_v2 : (0 : Int) ≤ v2.toInt ∧ v2.toInt ≤ 9) (f_o0_0 : (0 : Int) ≤ (o0.1 0).toInt ∧ (o0.1 0).toInt ≤ 2) (f_o0_36 : (0 : Int) ≤ (o0.1 36).toInt ∧ (o0.1 36).toInt ≤ 0) (f_o0_38 : (1 : Int) ≤ (o0.1 38).toInt ∧ (o0.1 38).toInt ≤ 1) (f_o0_95 : (0 : Int) ≤ (o0.1 95).toInt ∧ (o0.1 95).toInt ≤ 0) (x_0 : Cn (o0.2.1 59) (o0.2.1 58)) (x_1 : 1 ≤ v1.toInt) (x_2 : v1.toInt = yv1.toInt) (x_3 : Gx ((yo0.1 39).toInt + 1) (yo0.1 43).toInt (yo0.2.1 44) (yo0.2.1 45)) (x_4 : Cz v2.toInt ((yo0.1 39).toInt + 1) (yo0.1 43).toInt (yo0.2.1 44) (yo0.2.1 45) (o0.2.1 57) (o0.2.1 59) (o0.2.1 58)) (x_5 : Ca v2.toInt (o0.2.1 57) (o0.2.1 59) (o0.2.1 58)) (x_6 : Dn v2.toInt (o0.2.1 62)) (x_7 : Fc v2.toInt (o0.2.1 57)) (x_8 : Zz v2.toInt (o0.2.1 57) (o0.2.1 59)) (x_9 : 0 ≤ v2.toInt) (x_10 : v2.toInt ≤ (yo0.1 39).toInt + 1) (x_11 : (o0.1 36).toInt = 0) (x_12 : (o0.1 39).toInt = (yo0.1 39).toInt) (x_13 : (o0.1 43).toInt = (yo0.1 43).toInt) (x_14 : 2 ≤ v1.toInt) (hm : 402 + (9 - v2.toInt) * 2 ≤ (n : Int)) : tt (fM_cutAll_7 (gM_cutAll n) v1 v2 o0) (QM_cutAll yv1 yo0) := by
  unfold fM_cutAll_7
  have g_o0_39 : (0 : Int) ≤ (o0.1 39).toInt ∧ (o0.1 39).toInt ≤ 8 := k_o0.1 39
  have ey_o0_39 : (o0.1 39).toInt = (yo0.1 39).toInt := congrArg Int32.toInt (r_o0.1 39 rfl)
  have g_o0_43 : (0 : Int) ≤ (o0.1 43).toInt ∧ (o0.1 43).toInt ≤ 200 := k_o0.1 43
  have ey_o0_43 : (o0.1 43).toInt = (yo0.1 43).toInt := congrArg Int32.toInt (r_o0.1 43 rfl)
  try unfold fM_base
  try unfold fM_base_0
  refine tt_bkv (P := fun z => ((1 : Int) ≤ z.toInt ∧ z.toInt ≤ 9) ∧ z.toInt = (o0.1 39).toInt + 1) ⟨iv_add (k_o0.1 39) (show (1 : Int) ≤ (1 : Int32).toInt ∧ (1 : Int32).toInt ≤ 1 by decide) (by decide) (by decide) (by decide) (by decide), iq_add (k_o0.1 39) (show (1 : Int) ≤ (1 : Int32).toInt ∧ (1 : Int32).toInt ≤ 1 by decide) (by decide) (by decide)⟩ (fun x1 qi2 => ?_)
  obtain ⟨i2, ei2⟩ := qi2
  refine tt_bs ?_
  refine tt_if (fun c3 => ?_) (fun c3 => ?_)
  · have wc3 : x1.toInt ≤ v2.toInt := c_le c3
    have i4 : (1 : Int) ≤ v2.toInt ∧ v2.toInt ≤ 9 := nr_ler c3 i2 i_v2 (by decide) (by decide)
    have p5 : Bt (o0.1 36).toInt ((yo0.1 39).toInt + 1) 0 v1.toInt (o0.2.1 63) (o0.2.1 59) := by exact fun _ => Bs_0 _ _ _ _
    have p6 : Cz (((yo0.1 39).toInt + 1) + 0) ((yo0.1 39).toInt + 1) (yo0.1 43).toInt (yo0.2.1 44) (yo0.2.1 45) (o0.2.1 57) (o0.2.1 59) (o0.2.1 58) := by exact Cz_n x_4 (by omega)
    have p7 : Cy 0 ((yo0.1 39).toInt + 1) (yo0.1 43).toInt (yo0.2.1 44) (yo0.2.1 45) (o0.2.1 57) (o0.2.1 59) (o0.2.1 58) := by exact Cy_0 (by decide)
    have p8 : Ca (((yo0.1 39).toInt + 1) + 0) (o0.2.1 57) (o0.2.1 59) (o0.2.1 58) := by exact Ca_n x_5 (by omega)
    have p9 : Zz 1 (o0.2.1 57) (o0.2.1 59) := by exact Zz_w x_8 (by omega)
    have p10 : Dz (o0.1 36).toInt ((yo0.1 39).toInt + 1) 0 (o0.2.1 57) (o0.2.1 59) (o0.2.1 58) (o0.2.1 62) := by exact Dz_0 (Dn_n x_6 (by omega)) (by decide)
    have p11 : Cu (o0.1 36).toInt ((yo0.1 39).toInt + 1) 0 v1.toInt (yo0.2.1 44) (yo0.2.1 45) (o0.2.1 57) (o0.2.1 59) (o0.2.1 58) := by exact Cu_0 (by decide) (by omega) (fun q hq => x_7 q (by omega))
    have p12 : Bd (o0.1 36).toInt ((yo0.1 39).toInt + 1) 0 (o0.2.1 57) (o0.2.1 63) := by exact Bd_0 (by decide)
    exact H.2 _ _ _ k_o0 r_o0 i_v1 (iv_w (a := 0) (b := 200) (by decide) (by decide) (show (0 : Int) ≤ (0 : Int32).toInt ∧ (0 : Int32).toInt ≤ 0 by decide)) f_o0_0 f_o0_38 f_o0_95 x_0 (show 1 ≤ v1.toInt by omega) (show v1.toInt = yv1.toInt by omega) p5 x_3 p6 p7 p8 p9 p10 p11 (show 0 ≤ 0 by omega) (show 0 ≤ (yo0.1 43).toInt by omega) p12 (show (o0.1 39).toInt = (yo0.1 39).toInt by omega) (show (o0.1 43).toInt = (yo0.1 43).toInt by omega) (show 2 ≤ v1.toInt by omega) (show 0 + (200 - 0) * 2 < (n : Int) by omega)
  · have wc3 : v2.toInt < x1.toInt := c_nle c3
    have i13 : (0 : Int) ≤ v2.toInt ∧ v2.toInt ≤ 8 := nr_nlel c3 i_v2 i2 (by decide) (by decide)
    refine tt_n (ix_ok i13 (by decide) (by decide)) ?_
    refine tt_ko ?_
    have k14 := ok_xp (k := 57) (i := v2.toNatClampNeg) (v := 0) k_o0 (iv_w (a := 0) (b := 300) (by decide) (by decide) (show (0 : Int) ≤ (0 : Int32).toInt ∧ (0 : Int32).toInt ≤ 0 by decide))
    have r15 := fr_xp (k := 57) (i := v2.toNatClampNeg) (v := 0) r_o0 rfl
    refine tt_n (ix_ok i13 (by decide) (by decide)) ?_
    refine tt_ko ?_
    have k16 := ok_xp (k := 62) (i := v2.toNatClampNeg) (v := 0) k14 (iv_w (a := 0) (b := 208) (by decide) (by decide) (show (0 : Int) ≤ (0 : Int32).toInt ∧ (0 : Int32).toInt ≤ 0 by decide))
    have r17 := fr_xp (k := 62) (i := v2.toNatClampNeg) (v := 0) r15 rfl
    refine tt_b (sM_alone _ _ k16 (iv_w (a := 0) (b := 208) (by decide) (by decide) i13) f_o0_0 f_o0_38 f_o0_95 x_0) (fun q18 hq18 => ?_)
    obtain ⟨k_q18, n_q18, zq18_0, zq18_1, zq18_2, zq18_3, zq18_4, -⟩ := hq18
    have r_q18 := fr_tr r17 n_q18 rfl rfl rfl
    have f_q18_0 : (0 : Int) ≤ (q18.1 0).toInt ∧ (q18.1 0).toInt ≤ 2 := by rw [n_q18.1 0 rfl]; exact f_o0_0
    have f_q18_36 : (0 : Int) ≤ (q18.1 36).toInt ∧ (q18.1 36).toInt ≤ 0 := by rw [n_q18.1 36 rfl]; exact f_o0_36
    have f_q18_38 : (1 : Int) ≤ (q18.1 38).toInt ∧ (q18.1 38).toInt ≤ 1 := by rw [n_q18.1 38 rfl]; exact f_o0_38
    have f_q18_95 : (0 : Int) ≤ (q18.1 95).toInt ∧ (q18.1 95).toInt ≤ 0 := by rw [n_q18.1 95 rfl]; exact f_o0_95
    have e_q18_36 : (q18.1 36).toInt = (o0.1 36).toInt := congrArg Int32.toInt (n_q18.1 36 rfl)
    have e_q18_39 : (q18.1 39).toInt = (o0.1 39).toInt := congrArg Int32.toInt (n_q18.1 39 rfl)
    have g_q18_39 : (0 : Int) ≤ (q18.1 39).toInt ∧ (q18.1 39).toInt ≤ 8 := k_q18.1 39
    have e_q18_43 : (q18.1 43).toInt = (o0.1 43).toInt := congrArg Int32.toInt (n_q18.1 43 rfl)
    have g_q18_43 : (0 : Int) ≤ (q18.1 43).toInt ∧ (q18.1 43).toInt ≤ 200 := k_q18.1 43
    have zq18_0 : Cn (q18.2.1 59) (q18.2.1 58) := zq18_0
    have zq18_1 : Al v2.toInt (upd (o0.2.1 57) (v2.toNatClampNeg) 0) (o0.2.1 59) (q18.2.1 59) := zq18_1
    have zq18_2 : An v2.toInt v2 (upd (o0.2.1 57) (v2.toNatClampNeg) 0) (o0.2.1 58) (q18.2.1 58) := zq18_2
    have zq18_3 : (v2.toInt = 0 → ((q18.2.1 59) (upd (o0.2.1 57) (v2.toNatClampNeg) 0 v2.toNatClampNeg).toInt.toNat).toInt = 0) := zq18_3
    have zq18_4 : (1 ≤ v2.toInt → ((q18.2.1 59) (301 * v2.toInt + (upd (o0.2.1 57) (v2.toNatClampNeg) 0 v2.toNatClampNeg).toInt).toNat).toInt = 1) := zq18_4
    refine tt_kv (P := fun z => ((1 : Int) ≤ z.toInt ∧ z.toInt ≤ 9) ∧ z.toInt = v2.toInt + 1) ⟨iv_add i13 (show (1 : Int) ≤ (1 : Int32).toInt ∧ (1 : Int32).toInt ≤ 1 by decide) (by decide) (by decide) (by decide) (by decide), iq_add i13 (show (1 : Int) ≤ (1 : Int32).toInt ∧ (1 : Int32).toInt ≤ 1 by decide) (by decide) (by decide)⟩ (fun x19 qi20 => ?_)
    obtain ⟨i20, ei20⟩ := qi20
    have p21 : Cz x19.toInt ((yo0.1 39).toInt + 1) (yo0.1 43).toInt (yo0.2.1 44) (yo0.2.1 45) (q18.2.1 57) (q18.2.1 59) (q18.2.1 58) := by rw [(show Fr (fr_M [] [58, 59, 60, 61] []) _ _ by assumption).2.1 57 rfl]; exact Cz_i (Cz_u x_4 (by rw [tn_n]; omega)) (show Al v2.toInt _ _ _ by assumption) (show An v2.toInt _ _ _ _ by assumption) rfl (by omega) (by omega) (fun c => (k_o0.2 59 c).2) (fun q => (show okO I_M (xp _ _ _ _) by assumption).2 57 q) (congrArg Int32.toInt (up_s _ _ _))
    have p22 : Ca x19.toInt (q18.2.1 57) (q18.2.1 59) (q18.2.1 58) := by rw [(show Fr (fr_M [] [58, 59, 60, 61] []) _ _ by assumption).2.1 57 rfl]; exact Ca_i (Ca_u x_5 (by rw [tn_n]; omega)) (fun q => (show okO I_M (xp _ _ _ _) by assumption).2 57 q) (show Al v2.toInt _ _ _ by assumption) (show An v2.toInt _ _ _ _ by assumption) rfl (by assumption) (by omega) (by omega)
    have p23 : Dn x19.toInt (q18.2.1 62) := by rw [(show Fr (fr_M [] [58, 59, 60, 61] []) _ _ by assumption).2.1 62 rfl]; exact Dn_s x_6 (by omega) (by rw [tn_n]; omega) (by have z0 : (0 : Int32).toInt = 0 := (by decide); omega)
    have p24 : Fc x19.toInt (q18.2.1 57) := by rw [(show Fr (fr_M [] [58, 59, 60, 61] []) _ _ by assumption).2.1 57 rfl]; exact Fc_s x_7 (by omega) (by rw [tn_n]; omega) (by decide)
    have p25 : Zz x19.toInt (q18.2.1 57) (q18.2.1 59) := by rw [(show Fr (fr_M [] [58, 59, 60, 61] []) _ _ by assumption).2.1 57 rfl]; exact Zz_s x_8 (by rw [tn_n]; omega) (by decide) (show Al v2.toInt _ _ _ by assumption) (by assumption)
    exact H.1 _ _ _ k_q18 r_q18 i_v1 (iv_w (a := 0) (b := 9) (by decide) (by decide) i20) f_q18_0 f_q18_36 f_q18_38 f_q18_95 zq18_0 (show 1 ≤ v1.toInt by omega) (show v1.toInt = yv1.toInt by omega) x_3 p21 p22 p23 p24 p25 (show 0 ≤ x19.toInt by omega) (show x19.toInt ≤ (yo0.1 39).toInt + 1 by omega) (show (q18.1 36).toInt = 0 by omega) (show (q18.1 39).toInt = (yo0.1 39).toInt by omega) (show (q18.1 43).toInt = (yo0.1 43).toInt by omega) (show 2 ≤ v1.toInt by omega) (show 402 + (9 - x19.toInt) * 2 < (n : Int) by omega)
set_option maxHeartbeats 4000000 in
set_option maxRecDepth 100000 in
theorem hM_cutAll (yv1 : Int32) (yo0 : cf_O) : ∀ n, HM_cutAll yv1 yo0 n := by
  intro n
  induction n with
  | zero => exact ⟨(fun v1 v2 o0 k_o0 r_o0 i_v1 i_v2 f_o0_0 f_o0_36 f_o0_38 f_o0_95 x_0 x_1 x_2 x_3 x_4 x_5 x_6 x_7 x_8 x_9 x_10 x_11 x_12 x_13 x_14 hm => by exact absurd (show 402 + (9 - v2.toInt) * 2 < (0 : Int) from hm) (by omega)), (fun v1 v2 o0 k_o0 r_o0 i_v1 i_v2 f_o0_0 f_o0_38 f_o0_95 x_0 x_1 x_2 x_3 x_4 x_5 x_6 x_7 x_8 x_9 x_10 x_11 x_12 x_13 x_14 x_15 x_16 hm => by exact absurd (show 0 + (200 - v2.toInt) * 2 < (0 : Int) from hm) (by omega))⟩
  | succ n ih => exact ⟨(fun v1 v2 o0 k_o0 r_o0 i_v1 i_v2 f_o0_0 f_o0_36 f_o0_38 f_o0_95 x_0 x_1 x_2 x_3 x_4 x_5 x_6 x_7 x_8 x_9 x_10 x_11 x_12 x_13 x_14 hm => tM_cutAll_7 ih v1 v2 o0 k_o0 r_o0 i_v1 i_v2 f_o0_0 f_o0_36 f_o0_38 f_o0_95 x_0 x_1 x_2 x_3 x_4 x_5 x_6 x_7 x_8 x_9 x_10 x_11 x_12 x_13 x_14 (by omega)), (fun v1 v2 o0 k_o0 r_o0 i_v1 i_v2 f_o0_0 f_o0_38 f_o0_95 x_0 x_1 x_2 x_3 x_4 x_5 x_6 x_7 x_8 x_9 x_10 x_11 x_12 x_13 x_14 x_15 x_16 hm => tM_cutAll_42 ih v1 v2 o0 k_o0 r_o0 i_v1 i_v2 f_o0_0 f_o0_38 f_o0_95 x_0 x_1 x_2 x_3 x_4 x_5 x_6 x_7 x_8 x_9 x_10 x_11 x_12 x_13 x_14 x_15 x_16 (by omega))⟩
set_option maxHeartbeats 4000000 in
set_option maxRecDepth 100000 in
theorem sM_cutAll (v1 : Int32) (o0 : cf_O) (k_o0 : okO I_M o0) (i_v1 : (0 : Int) ≤ v1.toInt ∧ v1.toInt ≤ 5) (f_o0_0 : (0 : Int) ≤ (o0.1 0).toInt ∧ (o0.1 0).toInt ≤ 2) (f_o0_38 : (1 : Int) ≤ (o0.1 38).toInt ∧ (o0.1 38).toInt ≤ 1) (f_o0_95 : (0 : Int) ≤ (o0.1 95).toInt ∧ (o0.1 95).toInt ≤ 0) (x_0 : Cn (o0.2.1 59) (o0.2.1 58)) (x_1 : 1 ≤ v1.toInt) (x_2 : Gx ((o0.1 39).toInt + 1) (o0.1 43).toInt (o0.2.1 44) (o0.2.1 45)) (x_3 : 2 ≤ v1.toInt) : tt (fM_cutAll v1 o0) (QM_cutAll v1 o0) := by
  have H := hM_cutAll v1 o0 cfFU
  have hm : (423 : Int) ≤ (cfFU : Nat) := by decide
  have r_o0 : Fr (fr_M [36] [57, 58, 59, 60, 61, 62, 63] []) o0 o0 := fr_rfl
  unfold fM_cutAll fM_cutAll_0
  have g_o0_36 : (0 : Int) ≤ (o0.1 36).toInt ∧ (o0.1 36).toInt ≤ 1 := k_o0.1 36
  have g_o0_39 : (0 : Int) ≤ (o0.1 39).toInt ∧ (o0.1 39).toInt ≤ 8 := k_o0.1 39
  have g_o0_43 : (0 : Int) ≤ (o0.1 43).toInt ∧ (o0.1 43).toInt ≤ 200 := k_o0.1 43
  refine tt_ko ?_
  have k1 := ok_fp (k := 36) (v := 0) k_o0 (iv_w (a := 0) (b := 1) (by decide) (by decide) (show (0 : Int) ≤ (0 : Int32).toInt ∧ (0 : Int32).toInt ≤ 0 by decide))
  have r2 := fr_fp (k := 36) (v := 0) r_o0 rfl
  have p3 : Cz 0 ((o0.1 39).toInt + 1) (o0.1 43).toInt (o0.2.1 44) (o0.2.1 45) (o0.2.1 57) (o0.2.1 59) (o0.2.1 58) := by exact Cz_0 (by decide)
  have p4 : Ca 0 (o0.2.1 57) (o0.2.1 59) (o0.2.1 58) := by exact Ca_0 (by decide)
  have p5 : Dn 0 (o0.2.1 62) := by exact Dn_0 (by decide)
  have p6 : Fc 0 (o0.2.1 57) := by exact Fc_0 _
  have p7 : Zz 0 (o0.2.1 57) (o0.2.1 59) := by exact Zz_0 (by decide)
  exact H.1 _ _ _ k1 r2 i_v1 (iv_w (a := 0) (b := 9) (by decide) (by decide) (show (0 : Int) ≤ (0 : Int32).toInt ∧ (0 : Int32).toInt ≤ 0 by decide)) f_o0_0 (show (0 : Int) ≤ (0 : Int32).toInt ∧ (0 : Int32).toInt ≤ 0 by decide) f_o0_38 f_o0_95 x_0 (show 1 ≤ v1.toInt by omega) (show v1.toInt = v1.toInt by omega) x_2 p3 p4 p5 p6 p7 (show 0 ≤ 0 by omega) (show 0 ≤ (o0.1 39).toInt + 1 by omega) (show 0 = 0 by omega) (show (o0.1 39).toInt = (o0.1 39).toInt by omega) (show (o0.1 43).toInt = (o0.1 43).toInt by omega) (show 2 ≤ v1.toInt by omega) (show 402 + (9 - 0) * 2 < ((cfFU : Nat) : Int) by omega)
def QM_newGates (v1 : Int32) (o0 : cf_O) (r : (Int32)) : Prop := True
def HM_newGates (yv1 : Int32) (yo0 : cf_O) (n : Nat) : Prop := (∀ (v1 : Int32) (v2 : Int32) (v3 : Int32) (o0 : cf_O), (okO I_M o0) → (Fr (fr_M [] [] []) yo0 o0) → ((0 : Int) ≤ v1.toInt ∧ v1.toInt ≤ 63209) → ((0 : Int) ≤ v3.toInt ∧ v3.toInt ≤ 5) → ((0 : Int) ≤ (o0.1 0).toInt ∧ (o0.1 0).toInt ≤ 2) → ((1 : Int) ≤ (o0.1 38).toInt ∧ (o0.1 38).toInt ≤ 1) → ((1 : Int) ≤ (o0.1 66).toInt ∧ (o0.1 66).toInt ≤ 1) → ((0 : Int) ≤ (o0.1 95).toInt ∧ (o0.1 95).toInt ≤ 0) → 0 + (5 - v3.toInt) * 2 < (n : Int) → tt (gM_newGates n 0 v1 v2 v3 o0) (QM_newGates yv1 yo0))
set_option maxHeartbeats 4000000 in
set_option maxRecDepth 100000 in
theorem tM_newGates_4 {yv1 : Int32} {yo0 : cf_O} {n : Nat} (H : HM_newGates yv1 yo0 n) (v1 : Int32) (v2 : Int32) (v3 : Int32) (o0 : cf_O) (k_o0 : okO I_M o0) (r_o0 : Fr (fr_M [] [] []) yo0 o0) (i_v1 : (0 : Int) ≤ v1.toInt ∧ v1.toInt ≤ 63209) (i_v3 : (0 : Int) ≤ v3.toInt ∧ v3.toInt ≤ 5) (f_o0_0 : (0 : Int) ≤ (o0.1 0).toInt ∧ (o0.1 0).toInt ≤ 2) (f_o0_38 : (1 : Int) ≤ (o0.1 38).toInt ∧ (o0.1 38).toInt ≤ 1) (f_o0_66 : (1 : Int) ≤ (o0.1 66).toInt ∧ (o0.1 66).toInt ≤ 1) (f_o0_95 : (0 : Int) ≤ (o0.1 95).toInt ∧ (o0.1 95).toInt ≤ 0) (hm : 0 + (5 - v3.toInt) * 2 ≤ (n : Int)) : tt (fM_newGates_4 (gM_newGates n) v1 v2 v3 o0) (QM_newGates yv1 yo0) := by
  unfold fM_newGates_4
  refine tt_n (ix_ok i_v1 (by decide) (by decide)) ?_
  refine tt_kv (P := fun z => (0 : Int) ≤ z.toInt ∧ z.toInt ≤ 5) (k_o0.2 59 _) (fun x1 i2 => ?_)
  refine tt_if (fun c3 => ?_) (fun c3 => ?_)
  · exact tt_some trivial
  · have i4 : (0 : Int) ≤ v3.toInt ∧ v3.toInt ≤ 4 := nr_nlel c3 i_v3 i2 (by decide) (by decide)
    have i5 : (1 : Int) ≤ x1.toInt ∧ x1.toInt ≤ 5 := nr_nler c3 i_v3 i2 (by decide) (by decide)
    refine tt_kv (P := fun z => (0 : Int) ≤ z.toInt ∧ z.toInt ≤ 316045) (iv_mul (show (5 : Int) ≤ (5 : Int32).toInt ∧ (5 : Int32).toInt ≤ 5 by decide) i_v1 (by decide) (by decide) (by decide) (by decide) (by decide)) (fun x6 i7 => ?_)
    refine tt_kv (P := fun z => (0 : Int) ≤ z.toInt ∧ z.toInt ≤ 316049) (iv_add i7 i4 (by decide) (by decide) (by decide) (by decide)) (fun x8 i9 => ?_)
    refine tt_n (ix_ok i9 (by decide) (by decide)) ?_
    refine tt_kv (P := fun z => (0 : Int) ≤ z.toInt ∧ z.toInt ≤ 208) (k_o0.2 58 _) (fun x10 i11 => ?_)
    try unfold fM_base
    try unfold fM_base_0
    refine tt_bkv (P := fun z => ((1 : Int) ≤ z.toInt ∧ z.toInt ≤ 9) ∧ z.toInt = (o0.1 39).toInt + 1) ⟨iv_add (k_o0.1 39) (show (1 : Int) ≤ (1 : Int32).toInt ∧ (1 : Int32).toInt ≤ 1 by decide) (by decide) (by decide) (by decide) (by decide), iq_add (k_o0.1 39) (show (1 : Int) ≤ (1 : Int32).toInt ∧ (1 : Int32).toInt ≤ 1 by decide) (by decide) (by decide)⟩ (fun x12 qi13 => ?_)
    obtain ⟨i13, ei13⟩ := qi13
    refine tt_bs ?_
    refine tt_if (fun c14 => ?_) (fun c14 => ?_)
    · have i15 : (0 : Int) ≤ x10.toInt ∧ x10.toInt ≤ 8 := nr_ltl c14 i11 i13 (by decide) (by decide)
      try unfold fM_newGates_51
      try unfold fM_newGates_52
      refine tt_kv (P := fun z => ((1 : Int) ≤ z.toInt ∧ z.toInt ≤ 5) ∧ z.toInt = v3.toInt + 1) ⟨iv_add i4 (show (1 : Int) ≤ (1 : Int32).toInt ∧ (1 : Int32).toInt ≤ 1 by decide) (by decide) (by decide) (by decide) (by decide), iq_add i4 (show (1 : Int) ≤ (1 : Int32).toInt ∧ (1 : Int32).toInt ≤ 1 by decide) (by decide) (by decide)⟩ (fun x16 qi17 => ?_)
      obtain ⟨i17, ei17⟩ := qi17
      exact H _ _ _ _ k_o0 r_o0 i_v1 (iv_w (a := 0) (b := 5) (by decide) (by decide) i17) f_o0_0 f_o0_38 f_o0_66 f_o0_95 (show 0 + (5 - x16.toInt) * 2 < (n : Int) by omega)
    · have i18 : (1 : Int) ≤ x10.toInt ∧ x10.toInt ≤ 208 := nr_nltr c14 i13 i11 (by decide) (by decide)
      refine tt_n (ix_ok i18 (by decide) (by decide)) ?_
      refine tt_kv (P := fun z => (0 : Int) ≤ z.toInt ∧ z.toInt ≤ 1) (k_o0.2 72 _) (fun x19 i20 => ?_)
      refine tt_if (fun c21 => ?_) (fun c21 => ?_)
      · have i22 : (0 : Int) ≤ x19.toInt ∧ x19.toInt ≤ 0 := nr_eql c21 i20 (show (0 : Int) ≤ (0 : Int32).toInt ∧ (0 : Int32).toInt ≤ 0 by decide) (by decide) (by decide)
        refine tt_kv (P := fun z => ((-2147483648) : Int) ≤ z.toInt ∧ z.toInt ≤ 2147483647) (iv_top _) (fun x23 i24 => ?_)
        try unfold fM_newGates_52
        refine tt_kv (P := fun z => ((1 : Int) ≤ z.toInt ∧ z.toInt ≤ 5) ∧ z.toInt = v3.toInt + 1) ⟨iv_add i4 (show (1 : Int) ≤ (1 : Int32).toInt ∧ (1 : Int32).toInt ≤ 1 by decide) (by decide) (by decide) (by decide) (by decide), iq_add i4 (show (1 : Int) ≤ (1 : Int32).toInt ∧ (1 : Int32).toInt ≤ 1 by decide) (by decide) (by decide)⟩ (fun x25 qi26 => ?_)
        obtain ⟨i26, ei26⟩ := qi26
        exact H _ _ _ _ k_o0 r_o0 i_v1 (iv_w (a := 0) (b := 5) (by decide) (by decide) i26) f_o0_0 f_o0_38 f_o0_66 f_o0_95 (show 0 + (5 - x25.toInt) * 2 < (n : Int) by omega)
      · have i27 : (1 : Int) ≤ x19.toInt ∧ x19.toInt ≤ 1 := nr_nela c21 i20 (show (0 : Int) ≤ (0 : Int32).toInt ∧ (0 : Int32).toInt ≤ 0 by decide) (by decide) (by decide)
        try unfold fM_newGates_51
        try unfold fM_newGates_52
        refine tt_kv (P := fun z => ((1 : Int) ≤ z.toInt ∧ z.toInt ≤ 5) ∧ z.toInt = v3.toInt + 1) ⟨iv_add i4 (show (1 : Int) ≤ (1 : Int32).toInt ∧ (1 : Int32).toInt ≤ 1 by decide) (by decide) (by decide) (by decide) (by decide), iq_add i4 (show (1 : Int) ≤ (1 : Int32).toInt ∧ (1 : Int32).toInt ≤ 1 by decide) (by decide) (by decide)⟩ (fun x28 qi29 => ?_)
        obtain ⟨i29, ei29⟩ := qi29
        exact H _ _ _ _ k_o0 r_o0 i_v1 (iv_w (a := 0) (b := 5) (by decide) (by decide) i29) f_o0_0 f_o0_38 f_o0_66 f_o0_95 (show 0 + (5 - x28.toInt) * 2 < (n : Int) by omega)
set_option maxHeartbeats 4000000 in
set_option maxRecDepth 100000 in
theorem hM_newGates (yv1 : Int32) (yo0 : cf_O) : ∀ n, HM_newGates yv1 yo0 n := by
  intro n
  induction n with
  | zero => exact (fun v1 v2 v3 o0 k_o0 r_o0 i_v1 i_v3 f_o0_0 f_o0_38 f_o0_66 f_o0_95 hm => by exact absurd (show 0 + (5 - v3.toInt) * 2 < (0 : Int) from hm) (by omega))
  | succ n ih => exact (fun v1 v2 v3 o0 k_o0 r_o0 i_v1 i_v3 f_o0_0 f_o0_38 f_o0_66 f_o0_95 hm => tM_newGates_4 ih v1 v2 v3 o0 k_o0 r_o0 i_v1 i_v3 f_o0_0 f_o0_38 f_o0_66 f_o0_95 (by omega))
set_option maxHeartbeats 4000000 in
set_option maxRecDepth 100000 in
theorem sM_newGates (v1 : Int32) (o0 : cf_O) (k_o0 : okO I_M o0) (i_v1 : (0 : Int) ≤ v1.toInt ∧ v1.toInt ≤ 63209) (f_o0_0 : (0 : Int) ≤ (o0.1 0).toInt ∧ (o0.1 0).toInt ≤ 2) (f_o0_38 : (1 : Int) ≤ (o0.1 38).toInt ∧ (o0.1 38).toInt ≤ 1) (f_o0_66 : (1 : Int) ≤ (o0.1 66).toInt ∧ (o0.1 66).toInt ≤ 1) (f_o0_95 : (0 : Int) ≤ (o0.1 95).toInt ∧ (o0.1 95).toInt ≤ 0) : tt (fM_newGates v1 o0) (QM_newGates v1 o0) := by
  have H := hM_newGates v1 o0 cfFU
  have hm : (13 : Int) ≤ (cfFU : Nat) := by decide
  have r_o0 : Fr (fr_M [] [] []) o0 o0 := fr_rfl
  unfold fM_newGates fM_newGates_0
  exact H _ _ _ _ k_o0 r_o0 i_v1 (iv_w (a := 0) (b := 5) (by decide) (by decide) (show (0 : Int) ≤ (0 : Int32).toInt ∧ (0 : Int32).toInt ≤ 0 by decide)) f_o0_0 f_o0_38 f_o0_66 f_o0_95 (show 0 + (5 - 0) * 2 < ((cfFU : Nat) : Int) by omega)
def QM_isFewer (v1 : Int32) (v2 : Int32) (o0 : cf_O) (r : (Int32)) : Prop := ((0 : Int) ≤ r.toInt ∧ r.toInt ≤ 1) ∧ True
def HM_isFewer (yv1 : Int32) (yv2 : Int32) (yo0 : cf_O) (n : Nat) : Prop := (∀ (v1 : Int32) (v2 : Int32) (v3 : Int32) (v4 : Int32) (o0 : cf_O), (okO I_M o0) → (Fr (fr_M [] [] []) yo0 o0) → ((301 : Int) ≤ v1.toInt ∧ v1.toInt ≤ 62907) → ((0 : Int) ≤ v2.toInt ∧ v2.toInt ≤ 63209) → ((0 : Int) ≤ v4.toInt ∧ v4.toInt ≤ 5) → ((0 : Int) ≤ (o0.1 0).toInt ∧ (o0.1 0).toInt ≤ 2) → ((1 : Int) ≤ (o0.1 38).toInt ∧ (o0.1 38).toInt ≤ 1) → ((1 : Int) ≤ (o0.1 66).toInt ∧ (o0.1 66).toInt ≤ 1) → ((0 : Int) ≤ (o0.1 95).toInt ∧ (o0.1 95).toInt ≤ 0) → 0 + (5 - v4.toInt) * 2 < (n : Int) → tt (gM_isFewer n 0 v1 v2 v3 v4 o0) (QM_isFewer yv1 yv2 yo0))
set_option maxHeartbeats 4000000 in
set_option maxRecDepth 100000 in
theorem tM_isFewer_37 {yv1 : Int32} {yv2 : Int32} {yo0 : cf_O} {n : Nat} (H : HM_isFewer yv1 yv2 yo0 n) (v1 : Int32) (v2 : Int32) (v3 : Int32) (v4 : Int32) (o0 : cf_O) (k_o0 : okO I_M o0) (r_o0 : Fr (fr_M [] [] []) yo0 o0) (i_v1 : (301 : Int) ≤ v1.toInt ∧ v1.toInt ≤ 62907) (i_v2 : (0 : Int) ≤ v2.toInt ∧ v2.toInt ≤ 63209) (i_v4 : (0 : Int) ≤ v4.toInt ∧ v4.toInt ≤ 5) (f_o0_0 : (0 : Int) ≤ (o0.1 0).toInt ∧ (o0.1 0).toInt ≤ 2) (f_o0_38 : (1 : Int) ≤ (o0.1 38).toInt ∧ (o0.1 38).toInt ≤ 1) (f_o0_66 : (1 : Int) ≤ (o0.1 66).toInt ∧ (o0.1 66).toInt ≤ 1) (f_o0_95 : (0 : Int) ≤ (o0.1 95).toInt ∧ (o0.1 95).toInt ≤ 0) (hm : 0 + (5 - v4.toInt) * 2 ≤ (n : Int)) : tt (fM_isFewer_37 (gM_isFewer n) v1 v2 v3 v4 o0) (QM_isFewer yv1 yv2 yo0) := by
  unfold fM_isFewer_37
  refine tt_n (ix_ok i_v1 (by decide) (by decide)) ?_
  refine tt_kv (P := fun z => (0 : Int) ≤ z.toInt ∧ z.toInt ≤ 5) (k_o0.2 59 _) (fun x1 i2 => ?_)
  refine tt_if (fun c3 => ?_) (fun c3 => ?_)
  · try unfold fM_isFewer_82
    refine tt_if (fun c4 => ?_) (fun c4 => ?_)
    · have i5 : (0 : Int) ≤ v3.toInt ∧ v3.toInt ≤ 2147483647 := nr_ler c4 (show (0 : Int) ≤ (0 : Int32).toInt ∧ (0 : Int32).toInt ≤ 0 by decide) (iv_top v3) (by decide) (by decide)
      try unfold fM_isFewer_91
      refine tt_w (iv_b (show (0 : Int) ≤ (0 : Int32).toInt ∧ (0 : Int32).toInt ≤ 0 by decide) (by decide) (by decide)) ?_
      exact tt_some ⟨(iv_w (a := 0) (b := 1) (by decide) (by decide) (show (0 : Int) ≤ (0 : Int32).toInt ∧ (0 : Int32).toInt ≤ 0 by decide)), trivial⟩
    · have i6 : ((-2147483648) : Int) ≤ v3.toInt ∧ v3.toInt ≤ (-1) := nr_nlel c4 (iv_top v3) (show (0 : Int) ≤ (0 : Int32).toInt ∧ (0 : Int32).toInt ≤ 0 by decide) (by decide) (by decide)
      try unfold fM_isFewer_91
      refine tt_w (iv_b (show (1 : Int) ≤ (1 : Int32).toInt ∧ (1 : Int32).toInt ≤ 1 by decide) (by decide) (by decide)) ?_
      exact tt_some ⟨(iv_w (a := 0) (b := 1) (by decide) (by decide) (show (1 : Int) ≤ (1 : Int32).toInt ∧ (1 : Int32).toInt ≤ 1 by decide)), trivial⟩
  · have i7 : (0 : Int) ≤ v4.toInt ∧ v4.toInt ≤ 4 := nr_nlel c3 i_v4 i2 (by decide) (by decide)
    have i8 : (1 : Int) ≤ x1.toInt ∧ x1.toInt ≤ 5 := nr_nler c3 i_v4 i2 (by decide) (by decide)
    refine tt_if (fun c9 => ?_) (fun c9 => ?_)
    · have i10 : (0 : Int) ≤ v3.toInt ∧ v3.toInt ≤ 0 := nr_eql c9 (iv_top v3) (show (0 : Int) ≤ (0 : Int32).toInt ∧ (0 : Int32).toInt ≤ 0 by decide) (by decide) (by decide)
      refine tt_kv (P := fun z => (1505 : Int) ≤ z.toInt ∧ z.toInt ≤ 314535) (iv_mul (show (5 : Int) ≤ (5 : Int32).toInt ∧ (5 : Int32).toInt ≤ 5 by decide) i_v1 (by decide) (by decide) (by decide) (by decide) (by decide)) (fun x11 i12 => ?_)
      refine tt_kv (P := fun z => (1505 : Int) ≤ z.toInt ∧ z.toInt ≤ 314539) (iv_add i12 i7 (by decide) (by decide) (by decide) (by decide)) (fun x13 i14 => ?_)
      refine tt_n (ix_ok i14 (by decide) (by decide)) ?_
      refine tt_kv (P := fun z => (0 : Int) ≤ z.toInt ∧ z.toInt ≤ 208) (k_o0.2 58 _) (fun x15 i16 => ?_)
      refine tt_kv (P := fun z => (0 : Int) ≤ z.toInt ∧ z.toInt ≤ 316045) (iv_mul (show (5 : Int) ≤ (5 : Int32).toInt ∧ (5 : Int32).toInt ≤ 5 by decide) i_v2 (by decide) (by decide) (by decide) (by decide) (by decide)) (fun x17 i18 => ?_)
      refine tt_kv (P := fun z => (0 : Int) ≤ z.toInt ∧ z.toInt ≤ 316049) (iv_add i18 i7 (by decide) (by decide) (by decide) (by decide)) (fun x19 i20 => ?_)
      refine tt_n (ix_ok i20 (by decide) (by decide)) ?_
      refine tt_kv (P := fun z => (0 : Int) ≤ z.toInt ∧ z.toInt ≤ 208) (k_o0.2 58 _) (fun x21 i22 => ?_)
      refine tt_kv (P := fun z => ((-208) : Int) ≤ z.toInt ∧ z.toInt ≤ 208) (iv_sub i16 i22 (by decide) (by decide) (by decide) (by decide)) (fun x23 i24 => ?_)
      refine tt_kv (P := fun z => ((1 : Int) ≤ z.toInt ∧ z.toInt ≤ 5) ∧ z.toInt = v4.toInt + 1) ⟨iv_add i7 (show (1 : Int) ≤ (1 : Int32).toInt ∧ (1 : Int32).toInt ≤ 1 by decide) (by decide) (by decide) (by decide) (by decide), iq_add i7 (show (1 : Int) ≤ (1 : Int32).toInt ∧ (1 : Int32).toInt ≤ 1 by decide) (by decide) (by decide)⟩ (fun x25 qi26 => ?_)
      obtain ⟨i26, ei26⟩ := qi26
      exact H _ _ _ _ _ k_o0 r_o0 i_v1 i_v2 (iv_w (a := 0) (b := 5) (by decide) (by decide) i26) f_o0_0 f_o0_38 f_o0_66 f_o0_95 (show 0 + (5 - x25.toInt) * 2 < (n : Int) by omega)
    · try unfold fM_isFewer_82
      refine tt_if (fun c27 => ?_) (fun c27 => ?_)
      · have i28 : (0 : Int) ≤ v3.toInt ∧ v3.toInt ≤ 2147483647 := nr_ler c27 (show (0 : Int) ≤ (0 : Int32).toInt ∧ (0 : Int32).toInt ≤ 0 by decide) (iv_top v3) (by decide) (by decide)
        try unfold fM_isFewer_91
        refine tt_w (iv_b (show (0 : Int) ≤ (0 : Int32).toInt ∧ (0 : Int32).toInt ≤ 0 by decide) (by decide) (by decide)) ?_
        exact tt_some ⟨(iv_w (a := 0) (b := 1) (by decide) (by decide) (show (0 : Int) ≤ (0 : Int32).toInt ∧ (0 : Int32).toInt ≤ 0 by decide)), trivial⟩
      · have i29 : ((-2147483648) : Int) ≤ v3.toInt ∧ v3.toInt ≤ (-1) := nr_nlel c27 (iv_top v3) (show (0 : Int) ≤ (0 : Int32).toInt ∧ (0 : Int32).toInt ≤ 0 by decide) (by decide) (by decide)
        try unfold fM_isFewer_91
        refine tt_w (iv_b (show (1 : Int) ≤ (1 : Int32).toInt ∧ (1 : Int32).toInt ≤ 1 by decide) (by decide) (by decide)) ?_
        exact tt_some ⟨(iv_w (a := 0) (b := 1) (by decide) (by decide) (show (1 : Int) ≤ (1 : Int32).toInt ∧ (1 : Int32).toInt ≤ 1 by decide)), trivial⟩
set_option maxHeartbeats 4000000 in
set_option maxRecDepth 100000 in
theorem hM_isFewer (yv1 : Int32) (yv2 : Int32) (yo0 : cf_O) : ∀ n, HM_isFewer yv1 yv2 yo0 n := by
  intro n
  induction n with
  | zero => exact (fun v1 v2 v3 v4 o0 k_o0 r_o0 i_v1 i_v2 i_v4 f_o0_0 f_o0_38 f_o0_66 f_o0_95 hm => by exact absurd (show 0 + (5 - v4.toInt) * 2 < (0 : Int) from hm) (by omega))
  | succ n ih => exact (fun v1 v2 v3 v4 o0 k_o0 r_o0 i_v1 i_v2 i_v4 f_o0_0 f_o0_38 f_o0_66 f_o0_95 hm => tM_isFewer_37 ih v1 v2 v3 v4 o0 k_o0 r_o0 i_v1 i_v2 i_v4 f_o0_0 f_o0_38 f_o0_66 f_o0_95 (by omega))
set_option maxHeartbeats 4000000 in
set_option maxRecDepth 100000 in
theorem sM_isFewer (v1 : Int32) (v2 : Int32) (o0 : cf_O) (k_o0 : okO I_M o0) (i_v1 : (301 : Int) ≤ v1.toInt ∧ v1.toInt ≤ 62907) (i_v2 : (0 : Int) ≤ v2.toInt ∧ v2.toInt ≤ 63209) (f_o0_0 : (0 : Int) ≤ (o0.1 0).toInt ∧ (o0.1 0).toInt ≤ 2) (f_o0_38 : (1 : Int) ≤ (o0.1 38).toInt ∧ (o0.1 38).toInt ≤ 1) (f_o0_66 : (1 : Int) ≤ (o0.1 66).toInt ∧ (o0.1 66).toInt ≤ 1) (f_o0_95 : (0 : Int) ≤ (o0.1 95).toInt ∧ (o0.1 95).toInt ≤ 0) : tt (fM_isFewer v1 v2 o0) (QM_isFewer v1 v2 o0) := by
  have H := hM_isFewer v1 v2 o0 cfFU
  have hm : (13 : Int) ≤ (cfFU : Nat) := by decide
  have r_o0 : Fr (fr_M [] [] []) o0 o0 := fr_rfl
  unfold fM_isFewer fM_isFewer_0
  refine tt_b (sM_newGates _ _ k_o0 (iv_w (a := 0) (b := 63209) (by decide) (by decide) i_v1) f_o0_0 f_o0_38 f_o0_66 f_o0_95) (fun q1 hq1 => ?_)
  refine tt_b (sM_newGates _ _ k_o0 i_v2 f_o0_0 f_o0_38 f_o0_66 f_o0_95) (fun q2 hq2 => ?_)
  refine tt_kv (P := fun z => ((-2147483648) : Int) ≤ z.toInt ∧ z.toInt ≤ 2147483647) (iv_top _) (fun x3 i4 => ?_)
  refine tt_if (fun c5 => ?_) (fun c5 => ?_)
  · have i6 : (0 : Int) ≤ x3.toInt ∧ x3.toInt ≤ 0 := nr_eql c5 i4 (show (0 : Int) ≤ (0 : Int32).toInt ∧ (0 : Int32).toInt ≤ 0 by decide) (by decide) (by decide)
    refine tt_n (ix_ok i_v1 (by decide) (by decide)) ?_
    refine tt_kv (P := fun z => (0 : Int) ≤ z.toInt ∧ z.toInt ≤ 5) (k_o0.2 59 _) (fun x7 i8 => ?_)
    refine tt_n (ix_ok i_v2 (by decide) (by decide)) ?_
    refine tt_kv (P := fun z => (0 : Int) ≤ z.toInt ∧ z.toInt ≤ 5) (k_o0.2 59 _) (fun x9 i10 => ?_)
    refine tt_kv (P := fun z => ((-5) : Int) ≤ z.toInt ∧ z.toInt ≤ 5) (iv_sub i8 i10 (by decide) (by decide) (by decide) (by decide)) (fun x11 i12 => ?_)
    try unfold fM_isFewer_33
    exact H _ _ _ _ _ k_o0 r_o0 i_v1 i_v2 (iv_w (a := 0) (b := 5) (by decide) (by decide) (show (0 : Int) ≤ (0 : Int32).toInt ∧ (0 : Int32).toInt ≤ 0 by decide)) f_o0_0 f_o0_38 f_o0_66 f_o0_95 (show 0 + (5 - 0) * 2 < ((cfFU : Nat) : Int) by omega)
  · try unfold fM_isFewer_33
    exact H _ _ _ _ _ k_o0 r_o0 i_v1 i_v2 (iv_w (a := 0) (b := 5) (by decide) (by decide) (show (0 : Int) ≤ (0 : Int32).toInt ∧ (0 : Int32).toInt ≤ 0 by decide)) f_o0_0 f_o0_38 f_o0_66 f_o0_95 (show 0 + (5 - 0) * 2 < ((cfFU : Nat) : Int) by omega)
def QM_chooseFew (o0 : cf_O) (r : (cf_O)) : Prop := (okO I_M r) ∧ (Fr (fr_M [73] [63, 67, 72, 74] []) o0 r) ∧ (Cv (r.1 73) (r.1 39) (r.1 43) (r.2.1 74)) ∧ True
def HM_chooseFew (yo0 : cf_O) (n : Nat) : Prop := (∀ (v1 : Int32) (v2 : Int32) (o0 : cf_O), (okO I_M o0) → (Fr (fr_M [73] [63, 67, 72, 74] []) yo0 o0) → ((0 : Int) ≤ v1.toInt ∧ v1.toInt ≤ 0) → ((0 : Int) ≤ v2.toInt ∧ v2.toInt ≤ 210) → ((0 : Int) ≤ (o0.1 0).toInt ∧ (o0.1 0).toInt ≤ 2) → ((1 : Int) ≤ (o0.1 38).toInt ∧ (o0.1 38).toInt ≤ 1) → ((1 : Int) ≤ (o0.1 66).toInt ∧ (o0.1 66).toInt ≤ 1) → ((0 : Int) ≤ (o0.1 95).toInt ∧ (o0.1 95).toInt ≤ 0) → (Sa (o0.1 43).toInt ((o0.1 39).toInt + 1) (o0.2.1 57) (o0.2.1 59) (o0.2.1 58)) → (Dp (o0.1 43).toInt ((o0.1 39).toInt + 1) (o0.2.1 57) (o0.2.1 59) (o0.2.1 58) (o0.2.1 62)) → (No (o0.1 40).toInt ((o0.1 39).toInt + 1 + (o0.1 43).toInt) (o0.2.1 47)) → (Fc v2.toInt (o0.2.1 72)) → 26047870 + (210 - v2.toInt) * 2 < (n : Int) → tt (gM_chooseFew n 0 v1 v2 0 0 o0) (QM_chooseFew yo0)) ∧ (∀ (v1 : Int32) (v2 : Int32) (o0 : cf_O), (okO I_M o0) → (Fr (fr_M [73] [63, 67, 72, 74] []) yo0 o0) → ((0 : Int) ≤ v1.toInt ∧ v1.toInt ≤ 208) → ((0 : Int) ≤ v2.toInt ∧ v2.toInt ≤ 6) → ((0 : Int) ≤ (o0.1 0).toInt ∧ (o0.1 0).toInt ≤ 2) → ((1 : Int) ≤ (o0.1 38).toInt ∧ (o0.1 38).toInt ≤ 1) → ((1 : Int) ≤ (o0.1 66).toInt ∧ (o0.1 66).toInt ≤ 1) → ((0 : Int) ≤ (o0.1 95).toInt ∧ (o0.1 95).toInt ≤ 0) → (Sa (o0.1 43).toInt ((o0.1 39).toInt + 1) (o0.2.1 57) (o0.2.1 59) (o0.2.1 58)) → (Dp (o0.1 43).toInt ((o0.1 39).toInt + 1) (o0.2.1 57) (o0.2.1 59) (o0.2.1 58) (o0.2.1 62)) → (No (o0.1 40).toInt ((o0.1 39).toInt + 1 + (o0.1 43).toInt) (o0.2.1 47)) → (Fc 210 (o0.2.1 72)) → (Mo v1.toInt v2.toInt (o0.2.1 47) (o0.2.1 62)) → (v2.toInt ≤ (o0.1 40).toInt) → 26047856 + (6 - v2.toInt) * 2 < (n : Int) → tt (gM_chooseFew n 1 v1 v2 0 0 o0) (QM_chooseFew yo0)) ∧ (∀ (v1 : Int32) (v2 : Int32) (o0 : cf_O), (okO I_M o0) → (Fr (fr_M [73] [63, 67, 72, 74] []) yo0 o0) → ((0 : Int) ≤ v1.toInt ∧ v1.toInt ≤ 208) → ((0 : Int) ≤ v2.toInt ∧ v2.toInt ≤ 6) → ((0 : Int) ≤ (o0.1 0).toInt ∧ (o0.1 0).toInt ≤ 2) → ((1 : Int) ≤ (o0.1 38).toInt ∧ (o0.1 38).toInt ≤ 1) → ((1 : Int) ≤ (o0.1 66).toInt ∧ (o0.1 66).toInt ≤ 1) → ((0 : Int) ≤ (o0.1 95).toInt ∧ (o0.1 95).toInt ≤ 0) → (Sa (o0.1 43).toInt ((o0.1 39).toInt + 1) (o0.2.1 57) (o0.2.1 59) (o0.2.1 58)) → (Dp (o0.1 43).toInt ((o0.1 39).toInt + 1) (o0.2.1 57) (o0.2.1 59) (o0.2.1 58) (o0.2.1 62)) → (No (o0.1 40).toInt ((o0.1 39).toInt + 1 + (o0.1 43).toInt) (o0.2.1 47)) → (Mo v1.toInt (o0.1 40).toInt (o0.2.1 47) (o0.2.1 62)) → (Tm ((o0.1 39).toInt + 1) (o0.2.1 72) (o0.2.1 62) (o0.2.1 67)) → 26047842 + (6 - v2.toInt) * 2 < (n : Int) → tt (gM_chooseFew n 2 v1 v2 0 0 o0) (QM_chooseFew yo0)) ∧ (∀ (v2 : Int32) (o0 : cf_O), (okO I_M o0) → (Fr (fr_M [73] [63, 67, 72, 74] []) yo0 o0) → ((0 : Int) ≤ v2.toInt ∧ v2.toInt ≤ 208) → ((0 : Int) ≤ (o0.1 0).toInt ∧ (o0.1 0).toInt ≤ 2) → ((1 : Int) ≤ (o0.1 38).toInt ∧ (o0.1 38).toInt ≤ 1) → ((1 : Int) ≤ (o0.1 66).toInt ∧ (o0.1 66).toInt ≤ 1) → ((0 : Int) ≤ (o0.1 95).toInt ∧ (o0.1 95).toInt ≤ 0) → (Sa (o0.1 43).toInt ((o0.1 39).toInt + 1) (o0.2.1 57) (o0.2.1 59) (o0.2.1 58)) → (Dp (o0.1 43).toInt ((o0.1 39).toInt + 1) (o0.2.1 57) (o0.2.1 59) (o0.2.1 58) (o0.2.1 62)) → (No (o0.1 40).toInt ((o0.1 39).toInt + 1 + (o0.1 43).toInt) (o0.2.1 47)) → (Tm ((o0.1 39).toInt + 1) (o0.2.1 72) (o0.2.1 62) (o0.2.1 67)) → (v2.toInt < (o0.1 39).toInt + 1 + (o0.1 43).toInt) → 0 + (v2.toInt - 0) * 125230 < (n : Int) → tt (gM_chooseFew n 3 0 v2 0 0 o0) (QM_chooseFew yo0)) ∧ (∀ (v2 : Int32) (v3 : Int32) (v4 : Int32) (o0 : cf_O), (okO I_M o0) → (Fr (fr_M [73] [63, 67, 72, 74] []) yo0 o0) → ((1 : Int) ≤ v2.toInt ∧ v2.toInt ≤ 208) → (((-1) : Int) ≤ v3.toInt ∧ v3.toInt ≤ 63209) → ((301 : Int) ≤ v4.toInt ∧ v4.toInt ≤ 62908) → ((0 : Int) ≤ (o0.1 0).toInt ∧ (o0.1 0).toInt ≤ 2) → ((1 : Int) ≤ (o0.1 38).toInt ∧ (o0.1 38).toInt ≤ 1) → ((1 : Int) ≤ (o0.1 66).toInt ∧ (o0.1 66).toInt ≤ 1) → ((0 : Int) ≤ (o0.1 95).toInt ∧ (o0.1 95).toInt ≤ 0) → (Sa (o0.1 43).toInt ((o0.1 39).toInt + 1) (o0.2.1 57) (o0.2.1 59) (o0.2.1 58)) → (Dp (o0.1 43).toInt ((o0.1 39).toInt + 1) (o0.2.1 57) (o0.2.1 59) (o0.2.1 58) (o0.2.1 62)) → (No (o0.1 40).toInt ((o0.1 39).toInt + 1 + (o0.1 43).toInt) (o0.2.1 47)) → (Tm ((o0.1 39).toInt + 1) (o0.2.1 72) (o0.2.1 62) (o0.2.1 67)) → (Atk v3.toInt v4.toInt v2.toInt (o0.2.1 67 v2.toNatClampNeg).toInt (o0.2.1 57) (o0.2.1 59) (o0.2.1 58) (o0.2.1 62)) → ((o0.2.1 62 v2.toNatClampNeg).toInt ≤ (o0.2.1 67 v2.toNatClampNeg).toInt) → (1 ≤ (o0.2.1 67 v2.toNatClampNeg).toInt) → (301 * v2.toInt ≤ v4.toInt) → (v2.toInt < (o0.1 39).toInt + 1 + (o0.1 43).toInt) → ((o0.1 39).toInt + 1 ≤ v2.toInt) → 0 + (v2.toInt - 0 - 1) * 125230 + 13 + (62908 - v4.toInt) * 2 < (n : Int) → tt (gM_chooseFew n 4 0 v2 v3 v4 o0) (QM_chooseFew yo0)) ∧ (∀ (v2 : Int32) (v3 : Int32) (v4 : Int32) (o0 : cf_O), (okO I_M o0) → (Fr (fr_M [73] [63, 67, 72, 74] []) yo0 o0) → ((1 : Int) ≤ v2.toInt ∧ v2.toInt ≤ 208) → (((-1) : Int) ≤ v3.toInt ∧ v3.toInt ≤ 63209) → ((0 : Int) ≤ v4.toInt ∧ v4.toInt ≤ 5) → ((0 : Int) ≤ (o0.1 0).toInt ∧ (o0.1 0).toInt ≤ 2) → ((1 : Int) ≤ (o0.1 38).toInt ∧ (o0.1 38).toInt ≤ 1) → ((1 : Int) ≤ (o0.1 66).toInt ∧ (o0.1 66).toInt ≤ 1) → ((0 : Int) ≤ (o0.1 95).toInt ∧ (o0.1 95).toInt ≤ 0) → (Sa (o0.1 43).toInt ((o0.1 39).toInt + 1) (o0.2.1 57) (o0.2.1 59) (o0.2.1 58)) → (Dp (o0.1 43).toInt ((o0.1 39).toInt + 1) (o0.2.1 57) (o0.2.1 59) (o0.2.1 58) (o0.2.1 62)) → (No (o0.1 40).toInt ((o0.1 39).toInt + 1 + (o0.1 43).toInt) (o0.2.1 47)) → (Tm ((o0.1 39).toInt + 1) (o0.2.1 72) (o0.2.1 62) (o0.2.1 67)) → (Nd v3.toNatClampNeg v2.toInt (o0.2.1 67 v2.toNatClampNeg).toInt (o0.2.1 59) (o0.2.1 58) (o0.2.1 62)) → (1 ≤ (o0.2.1 67 v2.toNatClampNeg).toInt) → (0 ≤ v3.toInt) → (0 ≤ v4.toInt) → (v2.toInt < (o0.1 39).toInt + 1 + (o0.1 43).toInt) → ((o0.1 39).toInt + 1 ≤ v2.toInt) → 0 + (v2.toInt - 0 - 1) * 125230 + 1 + (5 - v4.toInt) * 2 < (n : Int) → tt (gM_chooseFew n 5 0 v2 v3 v4 o0) (QM_chooseFew yo0))
set_option maxHeartbeats 4000000 in
set_option maxRecDepth 100000 in
theorem tM_chooseFew_260 {yo0 : cf_O} {n : Nat} (H : HM_chooseFew yo0 n) (v2 : Int32) (v3 : Int32) (v4 : Int32) (o0 : cf_O) (k_o0 : okO I_M o0) (r_o0 : Fr (fr_M [73] [63, 67, 72, 74] []) yo0 o0) (i_v2 : (1 : Int) ≤ v2.toInt ∧ v2.toInt ≤ 208) (i_v3 : ((-1) : Int) ≤ v3.toInt ∧ v3.toInt ≤ 63209) (i_v4 : (0 : Int) ≤ v4.toInt ∧ v4.toInt ≤ 5) (f_o0_0 : (0 : Int) ≤ (o0.1 0).toInt ∧ (o0.1 0).toInt ≤ 2) (f_o0_38 : (1 : Int) ≤ (o0.1 38).toInt ∧ (o0.1 38).toInt ≤ 1) (f_o0_66 : (1 : Int) ≤ (o0.1 66).toInt ∧ (o0.1 66).toInt ≤ 1) (f_o0_95 : (0 : Int) ≤ (o0.1 95).toInt ∧ (o0.1 95).toInt ≤ 0) (x_0 : Sa (o0.1 43).toInt ((o0.1 39).toInt + 1) (o0.2.1 57) (o0.2.1 59) (o0.2.1 58)) (x_1 : Dp (o0.1 43).toInt ((o0.1 39).toInt + 1) (o0.2.1 57) (o0.2.1 59) (o0.2.1 58) (o0.2.1 62)) (x_2 : No (o0.1 40).toInt ((o0.1 39).toInt + 1 + (o0.1 43).toInt) (o0.2.1 47)) (x_3 : Tm ((o0.1 39).toInt + 1) (o0.2.1 72) (o0.2.1 62) (o0.2.1 67)) (x_4 : Nd v3.toNatClampNeg v2.toInt (o0.2.1 67 v2.toNatClampNeg).toInt (o0.2.1 59) (o0.2.1 58) (o0.2.1 62)) (x_5 : 1 ≤ (o0.2.1 67 v2.toNatClampNeg).toInt) (x_6 : 0 ≤ v3.toInt) (x_7 : 0 ≤ v4.toInt) (x_8 : v2.toInt < (o0.1 39).toInt + 1 + (o0.1 43).toInt) (x_9 : (o0.1 39).toInt + 1 ≤ v2.toInt) (hm : 0 + (v2.toInt - 0 - 1) * 125230 + 1 + (5 - v4.toInt) * 2 ≤ (n : Int)) : tt (fM_chooseFew_260 (gM_chooseFew n) v2 v3 v4 o0) (QM_chooseFew yo0) := by
  unfold fM_chooseFew_260
  have g_o0_39 : (0 : Int) ≤ (o0.1 39).toInt ∧ (o0.1 39).toInt ≤ 8 := k_o0.1 39
  have ey_o0_39 : (o0.1 39).toInt = (yo0.1 39).toInt := congrArg Int32.toInt (r_o0.1 39 rfl)
  have g_o0_40 : (0 : Int) ≤ (o0.1 40).toInt ∧ (o0.1 40).toInt ≤ 6 := k_o0.1 40
  have ey_o0_40 : (o0.1 40).toInt = (yo0.1 40).toInt := congrArg Int32.toInt (r_o0.1 40 rfl)
  have g_o0_43 : (0 : Int) ≤ (o0.1 43).toInt ∧ (o0.1 43).toInt ≤ 200 := k_o0.1 43
  have ey_o0_43 : (o0.1 43).toInt = (yo0.1 43).toInt := congrArg Int32.toInt (r_o0.1 43 rfl)
  refine tt_n (ix_rel (by omega) (by omega)) ?_
  have i1 : (0 : Int) ≤ v3.toInt ∧ v3.toInt ≤ 63209 := (by omega)
  refine tt_kv (P := fun z => ((0 : Int) ≤ z.toInt ∧ z.toInt ≤ 5) ∧ z = (o0.2.1 59 v3.toNatClampNeg) ∧ z.toInt = (o0.2.1 59 v3.toNatClampNeg).toInt) ⟨(k_o0.2 59 _), rfl, rfl⟩ (fun x2 qi3 => ?_)
  obtain ⟨i3, ax2, ei3⟩ := qi3
  refine tt_if (fun c4 => ?_) (fun c4 => ?_)
  · have wc4 : x2.toInt ≤ v4.toInt := c_le c4
    try unfold fM_chooseFew_374
    refine tt_kv (P := fun z => ((0 : Int) ≤ z.toInt ∧ z.toInt ≤ 207) ∧ z = (v2 + (-1)) ∧ z.toInt = v2.toInt + (-1)) ⟨iv_add i_v2 (show ((-1) : Int) ≤ ((-1) : Int32).toInt ∧ ((-1) : Int32).toInt ≤ (-1) by decide) (by decide) (by decide) (by decide) (by decide), rfl, iq_add i_v2 (show ((-1) : Int) ≤ ((-1) : Int32).toInt ∧ ((-1) : Int32).toInt ≤ (-1) by decide) (by decide) (by decide)⟩ (fun x5 qi6 => ?_)
    obtain ⟨i6, ax5, ei6⟩ := qi6
    exact H.2.2.2.1 _ _ k_o0 r_o0 (iv_w (a := 0) (b := 208) (by decide) (by decide) i6) f_o0_0 f_o0_38 f_o0_66 f_o0_95 x_0 x_1 x_2 x_3 (show x5.toInt < (o0.1 39).toInt + 1 + (o0.1 43).toInt by omega) (show 0 + (x5.toInt - 0) * 125230 < (n : Int) by omega)
  · have wc4 : v4.toInt < x2.toInt := c_nle c4
    have i7 : (0 : Int) ≤ v4.toInt ∧ v4.toInt ≤ 4 := nr_nlel c4 i_v4 i3 (by decide) (by decide)
    have i8 : (1 : Int) ≤ x2.toInt ∧ x2.toInt ≤ 5 := nr_nler c4 i_v4 i3 (by decide) (by decide)
    refine tt_kv (P := fun z => ((0 : Int) ≤ z.toInt ∧ z.toInt ≤ 316045) ∧ z = (5 * v3) ∧ z.toInt = 5 * v3.toInt) ⟨iv_mul (show (5 : Int) ≤ (5 : Int32).toInt ∧ (5 : Int32).toInt ≤ 5 by decide) i1 (by decide) (by decide) (by decide) (by decide) (by decide), rfl, iq_mul (show (5 : Int) ≤ (5 : Int32).toInt ∧ (5 : Int32).toInt ≤ 5 by decide) i1 (by decide) (by decide) (by decide) (by decide)⟩ (fun x9 qi10 => ?_)
    obtain ⟨i10, ax9, ei10⟩ := qi10
    refine tt_kv (P := fun z => ((0 : Int) ≤ z.toInt ∧ z.toInt ≤ 316049) ∧ z = (x9 + v4) ∧ z.toInt = x9.toInt + v4.toInt) ⟨iv_add i10 i7 (by decide) (by decide) (by decide) (by decide), rfl, iq_add i10 i7 (by decide) (by decide)⟩ (fun x11 qi12 => ?_)
    obtain ⟨i12, ax11, ei12⟩ := qi12
    refine tt_n (ix_ok i12 (by decide) (by decide)) ?_
    refine tt_kv (P := fun z => ((0 : Int) ≤ z.toInt ∧ z.toInt ≤ 208) ∧ z = (o0.2.1 58 x11.toNatClampNeg) ∧ z.toInt = (o0.2.1 58 x11.toNatClampNeg).toInt) ⟨(k_o0.2 58 _), rfl, rfl⟩ (fun x13 qi14 => ?_)
    obtain ⟨i14, ax13, ei14⟩ := qi14
    have nd := Nd_at (k := v4.toInt) x_4 ei14 (by rw [tn_n, tn_n]; omega) (by omega) (by omega) (by omega)
    refine tt_n (ix_ok i14 (by decide) (by decide)) ?_
    refine tt_kv (P := fun z => ((0 : Int) ≤ z.toInt ∧ z.toInt ≤ 1) ∧ z = (o0.2.1 72 x13.toNatClampNeg) ∧ z.toInt = (o0.2.1 72 x13.toNatClampNeg).toInt) ⟨(k_o0.2 72 _), rfl, rfl⟩ (fun x15 qi16 => ?_)
    obtain ⟨i16, ax15, ei16⟩ := qi16
    refine tt_if (fun c17 => ?_) (fun c17 => ?_)
    · have wc17 : x15.toInt = (0 : Int) := c_eq c17
      have i18 : (0 : Int) ≤ x15.toInt ∧ x15.toInt ≤ 0 := nr_eql c17 i16 (show (0 : Int) ≤ (0 : Int32).toInt ∧ (0 : Int32).toInt ≤ 0 by decide) (by decide) (by decide)
      try unfold fM_chooseFew_318
      refine tt_n (ix_ok i_v2 (by decide) (by decide)) ?_
      refine tt_kv (P := fun z => ((0 : Int) ≤ z.toInt ∧ z.toInt ≤ 208) ∧ z = (o0.2.1 67 v2.toNatClampNeg) ∧ z.toInt = (o0.2.1 67 v2.toNatClampNeg).toInt) ⟨(k_o0.2 67 _), rfl, rfl⟩ (fun x19 qi20 => ?_)
      obtain ⟨i20, ax19, ei20⟩ := qi20
      refine tt_kv (P := fun z => (((-1) : Int) ≤ z.toInt ∧ z.toInt ≤ 207) ∧ z = (x19 - 1) ∧ z.toInt = x19.toInt - 1) ⟨iv_sub i20 (show (1 : Int) ≤ (1 : Int32).toInt ∧ (1 : Int32).toInt ≤ 1 by decide) (by decide) (by decide) (by decide) (by decide), rfl, iq_sub i20 (show (1 : Int) ≤ (1 : Int32).toInt ∧ (1 : Int32).toInt ≤ 1 by decide) (by decide) (by decide)⟩ (fun x21 qi22 => ?_)
      obtain ⟨i22, ax21, ei22⟩ := qi22
      try unfold fM_chooseFew_336
      refine tt_n (ix_ok i14 (by decide) (by decide)) ?_
      refine tt_ko ?_
      have k23 := ok_xp (k := 67) (i := x13.toNatClampNeg) (v := x21) k_o0 (show (0 : Int) ≤ _ ∧ _ ≤ (208 : Int) by omega)
      have r24 := fr_xp (k := 67) (i := x13.toNatClampNeg) (v := x21) r_o0 rfl
      refine tt_n (ix_ok i14 (by decide) (by decide)) ?_
      refine tt_kv (P := fun z => x15 = z ∧ True) ⟨ax15, trivial⟩ (fun x25 hx25 => ?_)
      obtain ⟨rfl, -⟩ := hx25
      refine tt_if (fun c26 => ?_) (fun c26 => ?_)
      · have wc26 : x15.toInt = (0 : Int) := c_eq c26
        try unfold fM_base
        try unfold fM_base_0
        refine tt_bkv (P := fun z => ((1 : Int) ≤ z.toInt ∧ z.toInt ≤ 9) ∧ z = ((o0.1 39) + 1) ∧ z.toInt = (o0.1 39).toInt + 1) ⟨iv_add (k_o0.1 39) (show (1 : Int) ≤ (1 : Int32).toInt ∧ (1 : Int32).toInt ≤ 1 by decide) (by decide) (by decide) (by decide) (by decide), rfl, iq_add (k_o0.1 39) (show (1 : Int) ≤ (1 : Int32).toInt ∧ (1 : Int32).toInt ≤ 1 by decide) (by decide) (by decide)⟩ (fun x27 qi28 => ?_)
        obtain ⟨i28, ax27, ei28⟩ := qi28
        refine tt_bs ?_
        refine tt_if (fun c29 => ?_) (fun c29 => ?_)
        · have wc29 : x13.toInt < x27.toInt := c_lt c29
          have i30 : (0 : Int) ≤ x13.toInt ∧ x13.toInt ≤ 8 := nr_ltl c29 i14 i28 (by decide) (by decide)
          try unfold fM_chooseFew_367
          refine tt_n (ix_ok i30 (by decide) (by decide)) ?_
          refine tt_ko ?_
          have k31 := ok_xp (k := 72) (i := x13.toNatClampNeg) (v := (vp_nar .boolean 0)) k23 (iv_nz _)
          have r32 := fr_xp (k := 72) (i := x13.toNatClampNeg) (v := (vp_nar .boolean 0)) r24 rfl
          refine tt_kv (P := fun z => ((1 : Int) ≤ z.toInt ∧ z.toInt ≤ 5) ∧ z = (v4 + 1) ∧ z.toInt = v4.toInt + 1) ⟨iv_add i7 (show (1 : Int) ≤ (1 : Int32).toInt ∧ (1 : Int32).toInt ≤ 1 by decide) (by decide) (by decide) (by decide) (by decide), rfl, iq_add i7 (show (1 : Int) ≤ (1 : Int32).toInt ∧ (1 : Int32).toInt ≤ 1 by decide) (by decide) (by decide)⟩ (fun x33 qi34 => ?_)
          obtain ⟨i34, ax33, ei34⟩ := qi34
          have p35 : Tm ((o0.1 39).toInt + 1) (upd (o0.2.1 72) (x13.toNatClampNeg) (vp_nar .boolean 0)) (o0.2.1 62) (upd (o0.2.1 67) (x13.toNatClampNeg) x21) := by exact Tm_u x_3 (by first | exact Or.inl (by omega) | exact Or.inr ⟨by omega, by omega⟩)
          have p36 : Nd v3.toNatClampNeg v2.toInt (upd (o0.2.1 67) (x13.toNatClampNeg) x21 v2.toNatClampNeg).toInt (o0.2.1 59) (o0.2.1 58) (o0.2.1 62) := by rw [up_o (show ¬ v2.toNatClampNeg = _ by rw [← Int.ofNat_inj, tn_n, tn_n]; omega)]; exact x_4
          have t37 : (0 : Int) ≤ (upd (o0.2.1 67) (x13.toNatClampNeg) x21 v2.toNatClampNeg).toInt ∧ (upd (o0.2.1 67) (x13.toNatClampNeg) x21 v2.toNatClampNeg).toInt ≤ 208 := k31.2 67 _
          exact H.2.2.2.2.2 _ _ _ _ k31 r32 i_v2 (iv_w (a := (-1)) (b := 63209) (by decide) (by decide) i1) (iv_w (a := 0) (b := 5) (by decide) (by decide) i34) f_o0_0 f_o0_38 f_o0_66 f_o0_95 x_0 x_1 x_2 p35 p36 (show 1 ≤ (upd (o0.2.1 67) (x13.toNatClampNeg) x21 v2.toNatClampNeg).toInt by first | omega | (rw [up_o (show ¬ v2.toNatClampNeg = _ by rw [← Int.ofNat_inj, tn_n, tn_n]; omega)]; omega)) (show 0 ≤ v3.toInt by first | omega | exact (At_e (g := (v2.toInt - ((o0.1 39).toInt + 1)).toNat) (nN := v2.toNatClampNeg) x_4 x_1 (by omega) (by rw [tn_n]; omega) (by rw [tn_n]; omega) (show 301 * v2.toInt + (o0.2.1 57 v2.toNatClampNeg).toInt ≤ v4.toInt by omega) (by omega))) (show 0 ≤ x33.toInt by omega) (show v2.toInt < (o0.1 39).toInt + 1 + (o0.1 43).toInt by omega) (show (o0.1 39).toInt + 1 ≤ v2.toInt by omega) (show 0 + (v2.toInt - 0 - 1) * 125230 + 1 + (5 - x33.toInt) * 2 < (n : Int) by omega)
        · have wc29 : x27.toInt ≤ x13.toInt := c_nlt c29
          have i38 : (1 : Int) ≤ x13.toInt ∧ x13.toInt ≤ 208 := nr_nltr c29 i28 i14 (by decide) (by decide)
          try unfold fM_chooseFew_362
          try unfold fM_chooseFew_367
          refine tt_n (ix_ok i38 (by decide) (by decide)) ?_
          refine tt_ko ?_
          have k39 := ok_xp (k := 72) (i := x13.toNatClampNeg) (v := (vp_nar .boolean 1)) k23 (iv_nz _)
          have r40 := fr_xp (k := 72) (i := x13.toNatClampNeg) (v := (vp_nar .boolean 1)) r24 rfl
          refine tt_kv (P := fun z => ((1 : Int) ≤ z.toInt ∧ z.toInt ≤ 5) ∧ z = (v4 + 1) ∧ z.toInt = v4.toInt + 1) ⟨iv_add i7 (show (1 : Int) ≤ (1 : Int32).toInt ∧ (1 : Int32).toInt ≤ 1 by decide) (by decide) (by decide) (by decide) (by decide), rfl, iq_add i7 (show (1 : Int) ≤ (1 : Int32).toInt ∧ (1 : Int32).toInt ≤ 1 by decide) (by decide) (by decide)⟩ (fun x41 qi42 => ?_)
          obtain ⟨i42, ax41, ei42⟩ := qi42
          have p43 : Tm ((o0.1 39).toInt + 1) (upd (o0.2.1 72) (x13.toNatClampNeg) (vp_nar .boolean 1)) (o0.2.1 62) (upd (o0.2.1 67) (x13.toNatClampNeg) x21) := by exact Tm_u x_3 (by first | exact Or.inl (by omega) | exact Or.inr ⟨by omega, by omega⟩)
          have p44 : Nd v3.toNatClampNeg v2.toInt (upd (o0.2.1 67) (x13.toNatClampNeg) x21 v2.toNatClampNeg).toInt (o0.2.1 59) (o0.2.1 58) (o0.2.1 62) := by rw [up_o (show ¬ v2.toNatClampNeg = _ by rw [← Int.ofNat_inj, tn_n, tn_n]; omega)]; exact x_4
          have t45 : (0 : Int) ≤ (upd (o0.2.1 67) (x13.toNatClampNeg) x21 v2.toNatClampNeg).toInt ∧ (upd (o0.2.1 67) (x13.toNatClampNeg) x21 v2.toNatClampNeg).toInt ≤ 208 := k39.2 67 _
          exact H.2.2.2.2.2 _ _ _ _ k39 r40 i_v2 (iv_w (a := (-1)) (b := 63209) (by decide) (by decide) i1) (iv_w (a := 0) (b := 5) (by decide) (by decide) i42) f_o0_0 f_o0_38 f_o0_66 f_o0_95 x_0 x_1 x_2 p43 p44 (show 1 ≤ (upd (o0.2.1 67) (x13.toNatClampNeg) x21 v2.toNatClampNeg).toInt by first | omega | (rw [up_o (show ¬ v2.toNatClampNeg = _ by rw [← Int.ofNat_inj, tn_n, tn_n]; omega)]; omega)) (show 0 ≤ v3.toInt by first | omega | exact (At_e (g := (v2.toInt - ((o0.1 39).toInt + 1)).toNat) (nN := v2.toNatClampNeg) x_4 x_1 (by omega) (by rw [tn_n]; omega) (by rw [tn_n]; omega) (show 301 * v2.toInt + (o0.2.1 57 v2.toNatClampNeg).toInt ≤ v4.toInt by omega) (by omega))) (show 0 ≤ x41.toInt by omega) (show v2.toInt < (o0.1 39).toInt + 1 + (o0.1 43).toInt by omega) (show (o0.1 39).toInt + 1 ≤ v2.toInt by omega) (show 0 + (v2.toInt - 0 - 1) * 125230 + 1 + (5 - x41.toInt) * 2 < (n : Int) by omega)
      · have wc26 : ¬ x15.toInt = (0 : Int) := c_ne c26
        exact (dd_ne c26 i18 (show (0 : Int) ≤ (0 : Int32).toInt ∧ (0 : Int32).toInt ≤ 0 by decide)).elim
    · have wc17 : ¬ x15.toInt = (0 : Int) := c_ne c17
      have i46 : (1 : Int) ≤ x15.toInt ∧ x15.toInt ≤ 1 := nr_nela c17 i16 (show (0 : Int) ≤ (0 : Int32).toInt ∧ (0 : Int32).toInt ≤ 0 by decide) (by decide) (by decide)
      refine tt_n (ix_ok i_v2 (by decide) (by decide)) ?_
      refine tt_kv (P := fun z => ((0 : Int) ≤ z.toInt ∧ z.toInt ≤ 208) ∧ z = (o0.2.1 67 v2.toNatClampNeg) ∧ z.toInt = (o0.2.1 67 v2.toNatClampNeg).toInt) ⟨(k_o0.2 67 _), rfl, rfl⟩ (fun x47 qi48 => ?_)
      obtain ⟨i48, ax47, ei48⟩ := qi48
      refine tt_kv (P := fun z => (((-1) : Int) ≤ z.toInt ∧ z.toInt ≤ 207) ∧ z = (x47 - 1) ∧ z.toInt = x47.toInt - 1) ⟨iv_sub i48 (show (1 : Int) ≤ (1 : Int32).toInt ∧ (1 : Int32).toInt ≤ 1 by decide) (by decide) (by decide) (by decide) (by decide), rfl, iq_sub i48 (show (1 : Int) ≤ (1 : Int32).toInt ∧ (1 : Int32).toInt ≤ 1 by decide) (by decide) (by decide)⟩ (fun x49 qi50 => ?_)
      obtain ⟨i50, ax49, ei50⟩ := qi50
      refine tt_n (ix_ok i14 (by decide) (by decide)) ?_
      refine tt_kv (P := fun z => ((0 : Int) ≤ z.toInt ∧ z.toInt ≤ 208) ∧ z = (o0.2.1 67 x13.toNatClampNeg) ∧ z.toInt = (o0.2.1 67 x13.toNatClampNeg).toInt) ⟨(k_o0.2 67 _), rfl, rfl⟩ (fun x51 qi52 => ?_)
      obtain ⟨i52, ax51, ei52⟩ := qi52
      refine tt_if (fun c53 => ?_) (fun c53 => ?_)
      · have wc53 : x51.toInt ≤ x49.toInt := c_le c53
        have i54 : (0 : Int) ≤ x51.toInt ∧ x51.toInt ≤ 207 := nr_lel c53 i52 i50 (by decide) (by decide)
        have i55 : (0 : Int) ≤ x49.toInt ∧ x49.toInt ≤ 207 := nr_ler c53 i52 i50 (by decide) (by decide)
        have i56 : (1 : Int) ≤ x47.toInt ∧ x47.toInt ≤ 208 := by omega
        refine tt_n (ix_ok i14 (by decide) (by decide)) ?_
        refine tt_kv (P := fun z => x51 = z ∧ True) ⟨ax51, trivial⟩ (fun x57 hx57 => ?_)
        obtain ⟨rfl, -⟩ := hx57
        try unfold fM_chooseFew_336
        refine tt_n (ix_ok i14 (by decide) (by decide)) ?_
        refine tt_ko ?_
        have k58 := ok_xp (k := 67) (i := x13.toNatClampNeg) (v := x51) k_o0 (iv_w (a := 0) (b := 208) (by decide) (by decide) i54)
        have r59 := fr_xp (k := 67) (i := x13.toNatClampNeg) (v := x51) r_o0 rfl
        refine tt_n (ix_ok i14 (by decide) (by decide)) ?_
        refine tt_kv (P := fun z => x15 = z ∧ True) ⟨ax15, trivial⟩ (fun x60 hx60 => ?_)
        obtain ⟨rfl, -⟩ := hx60
        refine tt_if (fun c61 => ?_) (fun c61 => ?_)
        · have wc61 : x15.toInt = (0 : Int) := c_eq c61
          exact (dd_eq c61 i46 (show (0 : Int) ≤ (0 : Int32).toInt ∧ (0 : Int32).toInt ≤ 0 by decide) (by decide)).elim
        · have wc61 : ¬ x15.toInt = (0 : Int) := c_ne c61
          try unfold fM_chooseFew_362
          try unfold fM_chooseFew_367
          refine tt_n (ix_ok i14 (by decide) (by decide)) ?_
          refine tt_ko ?_
          have k62 := ok_xp (k := 72) (i := x13.toNatClampNeg) (v := (vp_nar .boolean 1)) k58 (iv_nz _)
          have r63 := fr_xp (k := 72) (i := x13.toNatClampNeg) (v := (vp_nar .boolean 1)) r59 rfl
          refine tt_kv (P := fun z => ((1 : Int) ≤ z.toInt ∧ z.toInt ≤ 5) ∧ z = (v4 + 1) ∧ z.toInt = v4.toInt + 1) ⟨iv_add i7 (show (1 : Int) ≤ (1 : Int32).toInt ∧ (1 : Int32).toInt ≤ 1 by decide) (by decide) (by decide) (by decide) (by decide), rfl, iq_add i7 (show (1 : Int) ≤ (1 : Int32).toInt ∧ (1 : Int32).toInt ≤ 1 by decide) (by decide) (by decide)⟩ (fun x64 qi65 => ?_)
          obtain ⟨i65, ax64, ei65⟩ := qi65
          have p66 : Tm ((o0.1 39).toInt + 1) (upd (o0.2.1 72) (x13.toNatClampNeg) (vp_nar .boolean 1)) (o0.2.1 62) (upd (o0.2.1 67) (x13.toNatClampNeg) x51) := by exact Tm_u x_3 (by first | exact Or.inl (by omega) | exact Or.inr ⟨by omega, by omega⟩)
          have p67 : Nd v3.toNatClampNeg v2.toInt (upd (o0.2.1 67) (x13.toNatClampNeg) x51 v2.toNatClampNeg).toInt (o0.2.1 59) (o0.2.1 58) (o0.2.1 62) := by rw [up_o (show ¬ v2.toNatClampNeg = _ by rw [← Int.ofNat_inj, tn_n, tn_n]; omega)]; exact x_4
          have t68 : (0 : Int) ≤ (upd (o0.2.1 67) (x13.toNatClampNeg) x51 v2.toNatClampNeg).toInt ∧ (upd (o0.2.1 67) (x13.toNatClampNeg) x51 v2.toNatClampNeg).toInt ≤ 208 := k62.2 67 _
          exact H.2.2.2.2.2 _ _ _ _ k62 r63 i_v2 (iv_w (a := (-1)) (b := 63209) (by decide) (by decide) i1) (iv_w (a := 0) (b := 5) (by decide) (by decide) i65) f_o0_0 f_o0_38 f_o0_66 f_o0_95 x_0 x_1 x_2 p66 p67 (show 1 ≤ (upd (o0.2.1 67) (x13.toNatClampNeg) x51 v2.toNatClampNeg).toInt by first | omega | (rw [up_o (show ¬ v2.toNatClampNeg = _ by rw [← Int.ofNat_inj, tn_n, tn_n]; omega)]; omega)) (show 0 ≤ v3.toInt by first | omega | exact (At_e (g := (v2.toInt - ((o0.1 39).toInt + 1)).toNat) (nN := v2.toNatClampNeg) x_4 x_1 (by omega) (by rw [tn_n]; omega) (by rw [tn_n]; omega) (show 301 * v2.toInt + (o0.2.1 57 v2.toNatClampNeg).toInt ≤ v4.toInt by omega) (by omega))) (show 0 ≤ x64.toInt by omega) (show v2.toInt < (o0.1 39).toInt + 1 + (o0.1 43).toInt by omega) (show (o0.1 39).toInt + 1 ≤ v2.toInt by omega) (show 0 + (v2.toInt - 0 - 1) * 125230 + 1 + (5 - x64.toInt) * 2 < (n : Int) by omega)
      · have wc53 : x49.toInt < x51.toInt := c_nle c53
        try unfold fM_chooseFew_318
        refine tt_n (ix_ok i_v2 (by decide) (by decide)) ?_
        refine tt_kv (P := fun z => x47 = z ∧ True) ⟨ax47, trivial⟩ (fun x69 hx69 => ?_)
        obtain ⟨rfl, -⟩ := hx69
        refine tt_kv (P := fun z => x49 = z ∧ True) ⟨ax49, trivial⟩ (fun x70 hx70 => ?_)
        obtain ⟨rfl, -⟩ := hx70
        try unfold fM_chooseFew_336
        refine tt_n (ix_ok i14 (by decide) (by decide)) ?_
        refine tt_ko ?_
        have k71 := ok_xp (k := 67) (i := x13.toNatClampNeg) (v := x49) k_o0 (show (0 : Int) ≤ _ ∧ _ ≤ (208 : Int) by omega)
        have r72 := fr_xp (k := 67) (i := x13.toNatClampNeg) (v := x49) r_o0 rfl
        refine tt_n (ix_ok i14 (by decide) (by decide)) ?_
        refine tt_kv (P := fun z => x15 = z ∧ True) ⟨ax15, trivial⟩ (fun x73 hx73 => ?_)
        obtain ⟨rfl, -⟩ := hx73
        refine tt_if (fun c74 => ?_) (fun c74 => ?_)
        · have wc74 : x15.toInt = (0 : Int) := c_eq c74
          exact (dd_eq c74 i46 (show (0 : Int) ≤ (0 : Int32).toInt ∧ (0 : Int32).toInt ≤ 0 by decide) (by decide)).elim
        · have wc74 : ¬ x15.toInt = (0 : Int) := c_ne c74
          try unfold fM_chooseFew_362
          try unfold fM_chooseFew_367
          refine tt_n (ix_ok i14 (by decide) (by decide)) ?_
          refine tt_ko ?_
          have k75 := ok_xp (k := 72) (i := x13.toNatClampNeg) (v := (vp_nar .boolean 1)) k71 (iv_nz _)
          have r76 := fr_xp (k := 72) (i := x13.toNatClampNeg) (v := (vp_nar .boolean 1)) r72 rfl
          refine tt_kv (P := fun z => ((1 : Int) ≤ z.toInt ∧ z.toInt ≤ 5) ∧ z = (v4 + 1) ∧ z.toInt = v4.toInt + 1) ⟨iv_add i7 (show (1 : Int) ≤ (1 : Int32).toInt ∧ (1 : Int32).toInt ≤ 1 by decide) (by decide) (by decide) (by decide) (by decide), rfl, iq_add i7 (show (1 : Int) ≤ (1 : Int32).toInt ∧ (1 : Int32).toInt ≤ 1 by decide) (by decide) (by decide)⟩ (fun x77 qi78 => ?_)
          obtain ⟨i78, ax77, ei78⟩ := qi78
          have p79 : Tm ((o0.1 39).toInt + 1) (upd (o0.2.1 72) (x13.toNatClampNeg) (vp_nar .boolean 1)) (o0.2.1 62) (upd (o0.2.1 67) (x13.toNatClampNeg) x49) := by exact Tm_u x_3 (by first | exact Or.inl (by omega) | exact Or.inr ⟨by omega, by omega⟩)
          have p80 : Nd v3.toNatClampNeg v2.toInt (upd (o0.2.1 67) (x13.toNatClampNeg) x49 v2.toNatClampNeg).toInt (o0.2.1 59) (o0.2.1 58) (o0.2.1 62) := by rw [up_o (show ¬ v2.toNatClampNeg = _ by rw [← Int.ofNat_inj, tn_n, tn_n]; omega)]; exact x_4
          have t81 : (0 : Int) ≤ (upd (o0.2.1 67) (x13.toNatClampNeg) x49 v2.toNatClampNeg).toInt ∧ (upd (o0.2.1 67) (x13.toNatClampNeg) x49 v2.toNatClampNeg).toInt ≤ 208 := k75.2 67 _
          exact H.2.2.2.2.2 _ _ _ _ k75 r76 i_v2 (iv_w (a := (-1)) (b := 63209) (by decide) (by decide) i1) (iv_w (a := 0) (b := 5) (by decide) (by decide) i78) f_o0_0 f_o0_38 f_o0_66 f_o0_95 x_0 x_1 x_2 p79 p80 (show 1 ≤ (upd (o0.2.1 67) (x13.toNatClampNeg) x49 v2.toNatClampNeg).toInt by first | omega | (rw [up_o (show ¬ v2.toNatClampNeg = _ by rw [← Int.ofNat_inj, tn_n, tn_n]; omega)]; omega)) (show 0 ≤ v3.toInt by first | omega | exact (At_e (g := (v2.toInt - ((o0.1 39).toInt + 1)).toNat) (nN := v2.toNatClampNeg) x_4 x_1 (by omega) (by rw [tn_n]; omega) (by rw [tn_n]; omega) (show 301 * v2.toInt + (o0.2.1 57 v2.toNatClampNeg).toInt ≤ v4.toInt by omega) (by omega))) (show 0 ≤ x77.toInt by omega) (show v2.toInt < (o0.1 39).toInt + 1 + (o0.1 43).toInt by omega) (show (o0.1 39).toInt + 1 ≤ v2.toInt by omega) (show 0 + (v2.toInt - 0 - 1) * 125230 + 1 + (5 - x77.toInt) * 2 < (n : Int) by omega)
set_option maxHeartbeats 4000000 in
set_option maxRecDepth 100000 in
theorem tM_chooseFew_179 {yo0 : cf_O} {n : Nat} (H : HM_chooseFew yo0 n) (v2 : Int32) (v3 : Int32) (v4 : Int32) (o0 : cf_O) (k_o0 : okO I_M o0) (r_o0 : Fr (fr_M [73] [63, 67, 72, 74] []) yo0 o0) (i_v2 : (1 : Int) ≤ v2.toInt ∧ v2.toInt ≤ 208) (i_v3 : ((-1) : Int) ≤ v3.toInt ∧ v3.toInt ≤ 63209) (i_v4 : (301 : Int) ≤ v4.toInt ∧ v4.toInt ≤ 62908) (f_o0_0 : (0 : Int) ≤ (o0.1 0).toInt ∧ (o0.1 0).toInt ≤ 2) (f_o0_38 : (1 : Int) ≤ (o0.1 38).toInt ∧ (o0.1 38).toInt ≤ 1) (f_o0_66 : (1 : Int) ≤ (o0.1 66).toInt ∧ (o0.1 66).toInt ≤ 1) (f_o0_95 : (0 : Int) ≤ (o0.1 95).toInt ∧ (o0.1 95).toInt ≤ 0) (x_0 : Sa (o0.1 43).toInt ((o0.1 39).toInt + 1) (o0.2.1 57) (o0.2.1 59) (o0.2.1 58)) (x_1 : Dp (o0.1 43).toInt ((o0.1 39).toInt + 1) (o0.2.1 57) (o0.2.1 59) (o0.2.1 58) (o0.2.1 62)) (x_2 : No (o0.1 40).toInt ((o0.1 39).toInt + 1 + (o0.1 43).toInt) (o0.2.1 47)) (x_3 : Tm ((o0.1 39).toInt + 1) (o0.2.1 72) (o0.2.1 62) (o0.2.1 67)) (x_4 : Atk v3.toInt v4.toInt v2.toInt (o0.2.1 67 v2.toNatClampNeg).toInt (o0.2.1 57) (o0.2.1 59) (o0.2.1 58) (o0.2.1 62)) (x_5 : (o0.2.1 62 v2.toNatClampNeg).toInt ≤ (o0.2.1 67 v2.toNatClampNeg).toInt) (x_6 : 1 ≤ (o0.2.1 67 v2.toNatClampNeg).toInt) (x_7 : 301 * v2.toInt ≤ v4.toInt) (x_8 : v2.toInt < (o0.1 39).toInt + 1 + (o0.1 43).toInt) (x_9 : (o0.1 39).toInt + 1 ≤ v2.toInt) (hm : 0 + (v2.toInt - 0 - 1) * 125230 + 13 + (62908 - v4.toInt) * 2 ≤ (n : Int)) : tt (fM_chooseFew_179 (gM_chooseFew n) v2 v3 v4 o0) (QM_chooseFew yo0) := by
  unfold fM_chooseFew_179
  have g_o0_39 : (0 : Int) ≤ (o0.1 39).toInt ∧ (o0.1 39).toInt ≤ 8 := k_o0.1 39
  have ey_o0_39 : (o0.1 39).toInt = (yo0.1 39).toInt := congrArg Int32.toInt (r_o0.1 39 rfl)
  have g_o0_40 : (0 : Int) ≤ (o0.1 40).toInt ∧ (o0.1 40).toInt ≤ 6 := k_o0.1 40
  have ey_o0_40 : (o0.1 40).toInt = (yo0.1 40).toInt := congrArg Int32.toInt (r_o0.1 40 rfl)
  have g_o0_43 : (0 : Int) ≤ (o0.1 43).toInt ∧ (o0.1 43).toInt ≤ 200 := k_o0.1 43
  have ey_o0_43 : (o0.1 43).toInt = (yo0.1 43).toInt := congrArg Int32.toInt (r_o0.1 43 rfl)
  refine tt_kv (P := fun z => ((301 : Int) ≤ z.toInt ∧ z.toInt ≤ 62608) ∧ z = (301 * v2) ∧ z.toInt = 301 * v2.toInt) ⟨iv_mul (show (301 : Int) ≤ (301 : Int32).toInt ∧ (301 : Int32).toInt ≤ 301 by decide) i_v2 (by decide) (by decide) (by decide) (by decide) (by decide), rfl, iq_mul (show (301 : Int) ≤ (301 : Int32).toInt ∧ (301 : Int32).toInt ≤ 301 by decide) i_v2 (by decide) (by decide) (by decide) (by decide)⟩ (fun x1 qi2 => ?_)
  obtain ⟨i2, ax1, ei2⟩ := qi2
  refine tt_n (ix_ok i_v2 (by decide) (by decide)) ?_
  refine tt_kv (P := fun z => ((0 : Int) ≤ z.toInt ∧ z.toInt ≤ 300) ∧ z = (o0.2.1 57 v2.toNatClampNeg) ∧ z.toInt = (o0.2.1 57 v2.toNatClampNeg).toInt) ⟨(k_o0.2 57 _), rfl, rfl⟩ (fun x3 qi4 => ?_)
  obtain ⟨i4, ax3, ei4⟩ := qi4
  refine tt_kv (P := fun z => ((301 : Int) ≤ z.toInt ∧ z.toInt ≤ 62908) ∧ z = (x1 + x3) ∧ z.toInt = x1.toInt + x3.toInt) ⟨iv_add i2 i4 (by decide) (by decide) (by decide) (by decide), rfl, iq_add i2 i4 (by decide) (by decide)⟩ (fun x5 qi6 => ?_)
  obtain ⟨i6, ax5, ei6⟩ := qi6
  refine tt_if (fun c7 => ?_) (fun c7 => ?_)
  · have wc7 : x5.toInt ≤ v4.toInt := c_le c7
    have ge : 0 ≤ v3.toInt := (At_e (g := (v2.toInt - ((o0.1 39).toInt + 1)).toNat) (nN := v2.toNatClampNeg) x_4 x_1 (by omega) (by rw [tn_n]; omega) (by rw [tn_n]; omega) (show 301 * v2.toInt + (o0.2.1 57 v2.toNatClampNeg).toInt ≤ v4.toInt by omega) (by omega))
    refine tt_n (ix_ok i_v2 (by decide) (by decide)) ?_
    refine tt_ko ?_
    have k8 := ok_xp (k := 63) (i := v2.toNatClampNeg) (v := v3) k_o0 (show (0 : Int) ≤ _ ∧ _ ≤ (63209 : Int) by omega)
    have r9 := fr_xp (k := 63) (i := v2.toNatClampNeg) (v := v3) r_o0 rfl
    have p10 : Nd v3.toNatClampNeg v2.toInt (o0.2.1 67 v2.toNatClampNeg).toInt (o0.2.1 59) (o0.2.1 58) (o0.2.1 62) := by exact Nd_i (g := (v2.toInt - ((o0.1 39).toInt + 1)).toNat) x_4 x_0 (At_e (g := (v2.toInt - ((o0.1 39).toInt + 1)).toNat) (nN := v2.toNatClampNeg) x_4 x_1 (by omega) (by rw [tn_n]; omega) (by rw [tn_n]; omega) (show 301 * v2.toInt + (o0.2.1 57 v2.toNatClampNeg).toInt ≤ v4.toInt by omega) (by omega)) (by rw [tn_n]; have ge := (At_e (g := (v2.toInt - ((o0.1 39).toInt + 1)).toNat) (nN := v2.toNatClampNeg) x_4 x_1 (by omega) (by rw [tn_n]; omega) (by rw [tn_n]; omega) (show 301 * v2.toInt + (o0.2.1 57 v2.toNatClampNeg).toInt ≤ v4.toInt by omega) (by omega)); omega) (by omega) (by omega)
    have t11 : (0 : Int) ≤ (o0.2.1 67 v2.toNatClampNeg).toInt ∧ (o0.2.1 67 v2.toNatClampNeg).toInt ≤ 208 := k8.2 67 _
    exact H.2.2.2.2.2 _ _ _ _ k8 r9 i_v2 i_v3 (iv_w (a := 0) (b := 5) (by decide) (by decide) (show (0 : Int) ≤ (0 : Int32).toInt ∧ (0 : Int32).toInt ≤ 0 by decide)) f_o0_0 f_o0_38 f_o0_66 f_o0_95 x_0 x_1 x_2 x_3 p10 (show 1 ≤ (o0.2.1 67 v2.toNatClampNeg).toInt by first | omega | (rw [up_o (show ¬ v2.toNatClampNeg = _ by rw [← Int.ofNat_inj, tn_n, tn_n]; omega)]; omega)) (show 0 ≤ v3.toInt by first | omega | exact (At_e (g := (v2.toInt - ((o0.1 39).toInt + 1)).toNat) (nN := v2.toNatClampNeg) x_4 x_1 (by omega) (by rw [tn_n]; omega) (by rw [tn_n]; omega) (show 301 * v2.toInt + (o0.2.1 57 v2.toNatClampNeg).toInt ≤ v4.toInt by omega) (by omega))) (show 0 ≤ 0 by omega) (show v2.toInt < (o0.1 39).toInt + 1 + (o0.1 43).toInt by omega) (show (o0.1 39).toInt + 1 ≤ v2.toInt by omega) (show 0 + (v2.toInt - 0 - 1) * 125230 + 1 + (5 - 0) * 2 < (n : Int) by omega)
  · have wc7 : v4.toInt < x5.toInt := c_nle c7
    have i12 : (301 : Int) ≤ v4.toInt ∧ v4.toInt ≤ 62907 := nr_nlel c7 i_v4 i6 (by decide) (by decide)
    have i13 : (302 : Int) ≤ x5.toInt ∧ x5.toInt ≤ 62908 := nr_nler c7 i_v4 i6 (by decide) (by decide)
    refine tt_b (sM_depthOf _ _ k_o0 (iv_w (a := 301) (b := 63209) (by decide) (by decide) i12) f_o0_0 f_o0_38 f_o0_95) (fun q14 hq14 => ?_)
    obtain ⟨i_q14, zq14_0, -⟩ := hq14
    refine tt_n (ix_ok i_v2 (by decide) (by decide)) ?_
    refine tt_kv (P := fun z => ((0 : Int) ≤ z.toInt ∧ z.toInt ≤ 208) ∧ z = (o0.2.1 67 v2.toNatClampNeg) ∧ z.toInt = (o0.2.1 67 v2.toNatClampNeg).toInt) ⟨(k_o0.2 67 _), rfl, rfl⟩ (fun x15 qi16 => ?_)
    obtain ⟨i16, ax15, ei16⟩ := qi16
    refine tt_if (fun c17 => ?_) (fun c17 => ?_)
    · have wc17 : x15.toInt < q14.toInt := c_lt c17
      try unfold fM_chooseFew_216
      refine tt_if (fun c18 => ?_) (fun c18 => ?_)
      · have wc18 : (0 : Int) = (0 : Int) := c_eq c18
        try unfold fM_chooseFew_242
        try unfold fM_chooseFew_243
        refine tt_kv (P := fun z => ((302 : Int) ≤ z.toInt ∧ z.toInt ≤ 62908) ∧ z = (v4 + 1) ∧ z.toInt = v4.toInt + 1) ⟨iv_add i12 (show (1 : Int) ≤ (1 : Int32).toInt ∧ (1 : Int32).toInt ≤ 1 by decide) (by decide) (by decide) (by decide) (by decide), rfl, iq_add i12 (show (1 : Int) ≤ (1 : Int32).toInt ∧ (1 : Int32).toInt ≤ 1 by decide) (by decide) (by decide)⟩ (fun x19 qi20 => ?_)
        obtain ⟨i20, ax19, ei20⟩ := qi20
        have p21 : Atk v3.toInt x19.toInt v2.toInt (o0.2.1 67 v2.toNatClampNeg).toInt (o0.2.1 57) (o0.2.1 59) (o0.2.1 58) (o0.2.1 62) := by first | exact At_n x_4 (show Do _ v4.toNatClampNeg _ _ _ by assumption) (by rw [tn_n]; omega) (by omega) (by omega) (by omega) rfl | exact At_y (show Do _ v4.toNatClampNeg _ _ _ by assumption) (by rw [tn_n]; omega) (by omega) (by omega) (show v4.toInt < 301 * v2.toInt + (o0.2.1 57 v2.toNatClampNeg).toInt by omega) | exact At_k x_4 (by omega) rfl
        have t22 : (0 : Int) ≤ (o0.2.1 62 v2.toNatClampNeg).toInt ∧ (o0.2.1 62 v2.toNatClampNeg).toInt ≤ 208 := k_o0.2 62 _
        have t23 : (0 : Int) ≤ (o0.2.1 67 v2.toNatClampNeg).toInt ∧ (o0.2.1 67 v2.toNatClampNeg).toInt ≤ 208 := k_o0.2 67 _
        have t24 : (0 : Int) ≤ (o0.2.1 67 v2.toNatClampNeg).toInt ∧ (o0.2.1 67 v2.toNatClampNeg).toInt ≤ 208 := k_o0.2 67 _
        exact H.2.2.2.2.1 _ _ _ _ k_o0 r_o0 i_v2 i_v3 (iv_w (a := 301) (b := 62908) (by decide) (by decide) i20) f_o0_0 f_o0_38 f_o0_66 f_o0_95 x_0 x_1 x_2 x_3 p21 (show (o0.2.1 62 v2.toNatClampNeg).toInt ≤ (o0.2.1 67 v2.toNatClampNeg).toInt by omega) (show 1 ≤ (o0.2.1 67 v2.toNatClampNeg).toInt by first | omega | (rw [up_o (show ¬ v2.toNatClampNeg = _ by rw [← Int.ofNat_inj, tn_n, tn_n]; omega)]; omega)) (show 301 * v2.toInt ≤ x19.toInt by omega) (show v2.toInt < (o0.1 39).toInt + 1 + (o0.1 43).toInt by omega) (show (o0.1 39).toInt + 1 ≤ v2.toInt by omega) (show 0 + (v2.toInt - 0 - 1) * 125230 + 13 + (62908 - x19.toInt) * 2 < (n : Int) by omega)
      · have wc18 : ¬ (0 : Int) = (0 : Int) := c_ne c18
        exact (dd_ne c18 (show (0 : Int) ≤ (0 : Int32).toInt ∧ (0 : Int32).toInt ≤ 0 by decide) (show (0 : Int) ≤ (0 : Int32).toInt ∧ (0 : Int32).toInt ≤ 0 by decide)).elim
    · have wc17 : q14.toInt ≤ x15.toInt := c_nlt c17
      have i25 : (1 : Int) ≤ q14.toInt ∧ q14.toInt ≤ 208 := nr_nltl c17 i_q14 i16 (by decide) (by decide)
      have i26 : (1 : Int) ≤ x15.toInt ∧ x15.toInt ≤ 208 := nr_nltr c17 i_q14 i16 (by decide) (by decide)
      try unfold fM_chooseFew_216
      refine tt_if (fun c27 => ?_) (fun c27 => ?_)
      · have wc27 : (1 : Int) = (0 : Int) := c_eq c27
        exact (dd_eq c27 (show (1 : Int) ≤ (1 : Int32).toInt ∧ (1 : Int32).toInt ≤ 1 by decide) (show (0 : Int) ≤ (0 : Int32).toInt ∧ (0 : Int32).toInt ≤ 0 by decide) (by decide)).elim
      · have wc27 : ¬ (1 : Int) = (0 : Int) := c_ne c27
        refine tt_if (fun c28 => ?_) (fun c28 => ?_)
        · have wc28 : v3.toInt < (0 : Int) := c_lt c28
          have i29 : ((-1) : Int) ≤ v3.toInt ∧ v3.toInt ≤ (-1) := nr_ltl c28 i_v3 (show (0 : Int) ≤ (0 : Int32).toInt ∧ (0 : Int32).toInt ≤ 0 by decide) (by decide) (by decide)
          try unfold fM_chooseFew_237
          try unfold fM_chooseFew_243
          refine tt_kv (P := fun z => ((302 : Int) ≤ z.toInt ∧ z.toInt ≤ 62908) ∧ z = (v4 + 1) ∧ z.toInt = v4.toInt + 1) ⟨iv_add i12 (show (1 : Int) ≤ (1 : Int32).toInt ∧ (1 : Int32).toInt ≤ 1 by decide) (by decide) (by decide) (by decide) (by decide), rfl, iq_add i12 (show (1 : Int) ≤ (1 : Int32).toInt ∧ (1 : Int32).toInt ≤ 1 by decide) (by decide) (by decide)⟩ (fun x30 qi31 => ?_)
          obtain ⟨i31, ax30, ei31⟩ := qi31
          have p32 : Atk v4.toInt x30.toInt v2.toInt (o0.2.1 67 v2.toNatClampNeg).toInt (o0.2.1 57) (o0.2.1 59) (o0.2.1 58) (o0.2.1 62) := by first | exact At_n x_4 (show Do _ v4.toNatClampNeg _ _ _ by assumption) (by rw [tn_n]; omega) (by omega) (by omega) (by omega) rfl | exact At_y (show Do _ v4.toNatClampNeg _ _ _ by assumption) (by rw [tn_n]; omega) (by omega) (by omega) (show v4.toInt < 301 * v2.toInt + (o0.2.1 57 v2.toNatClampNeg).toInt by omega) | exact At_k x_4 (by omega) rfl
          have t33 : (0 : Int) ≤ (o0.2.1 62 v2.toNatClampNeg).toInt ∧ (o0.2.1 62 v2.toNatClampNeg).toInt ≤ 208 := k_o0.2 62 _
          have t34 : (0 : Int) ≤ (o0.2.1 67 v2.toNatClampNeg).toInt ∧ (o0.2.1 67 v2.toNatClampNeg).toInt ≤ 208 := k_o0.2 67 _
          have t35 : (0 : Int) ≤ (o0.2.1 67 v2.toNatClampNeg).toInt ∧ (o0.2.1 67 v2.toNatClampNeg).toInt ≤ 208 := k_o0.2 67 _
          exact H.2.2.2.2.1 _ _ _ _ k_o0 r_o0 i_v2 (iv_w (a := (-1)) (b := 63209) (by decide) (by decide) i12) (iv_w (a := 301) (b := 62908) (by decide) (by decide) i31) f_o0_0 f_o0_38 f_o0_66 f_o0_95 x_0 x_1 x_2 x_3 p32 (show (o0.2.1 62 v2.toNatClampNeg).toInt ≤ (o0.2.1 67 v2.toNatClampNeg).toInt by omega) (show 1 ≤ (o0.2.1 67 v2.toNatClampNeg).toInt by first | omega | (rw [up_o (show ¬ v2.toNatClampNeg = _ by rw [← Int.ofNat_inj, tn_n, tn_n]; omega)]; omega)) (show 301 * v2.toInt ≤ x30.toInt by omega) (show v2.toInt < (o0.1 39).toInt + 1 + (o0.1 43).toInt by omega) (show (o0.1 39).toInt + 1 ≤ v2.toInt by omega) (show 0 + (v2.toInt - 0 - 1) * 125230 + 13 + (62908 - x30.toInt) * 2 < (n : Int) by omega)
        · have wc28 : (0 : Int) ≤ v3.toInt := c_nlt c28
          have i36 : (0 : Int) ≤ v3.toInt ∧ v3.toInt ≤ 63209 := nr_nltr c28 (show (0 : Int) ≤ (0 : Int32).toInt ∧ (0 : Int32).toInt ≤ 0 by decide) i_v3 (by decide) (by decide)
          refine tt_b (sM_isFewer _ _ _ k_o0 i12 i36 f_o0_0 f_o0_38 f_o0_66 f_o0_95) (fun q37 hq37 => ?_)
          obtain ⟨i_q37, -⟩ := hq37
          refine tt_if (fun c38 => ?_) (fun c38 => ?_)
          · have wc38 : q37.toInt = (0 : Int) := c_eq c38
            have i39 : (0 : Int) ≤ q37.toInt ∧ q37.toInt ≤ 0 := nr_eql c38 i_q37 (show (0 : Int) ≤ (0 : Int32).toInt ∧ (0 : Int32).toInt ≤ 0 by decide) (by decide) (by decide)
            try unfold fM_chooseFew_242
            try unfold fM_chooseFew_243
            refine tt_kv (P := fun z => ((302 : Int) ≤ z.toInt ∧ z.toInt ≤ 62908) ∧ z = (v4 + 1) ∧ z.toInt = v4.toInt + 1) ⟨iv_add i12 (show (1 : Int) ≤ (1 : Int32).toInt ∧ (1 : Int32).toInt ≤ 1 by decide) (by decide) (by decide) (by decide) (by decide), rfl, iq_add i12 (show (1 : Int) ≤ (1 : Int32).toInt ∧ (1 : Int32).toInt ≤ 1 by decide) (by decide) (by decide)⟩ (fun x40 qi41 => ?_)
            obtain ⟨i41, ax40, ei41⟩ := qi41
            have p42 : Atk v3.toInt x40.toInt v2.toInt (o0.2.1 67 v2.toNatClampNeg).toInt (o0.2.1 57) (o0.2.1 59) (o0.2.1 58) (o0.2.1 62) := by first | exact At_n x_4 (show Do _ v4.toNatClampNeg _ _ _ by assumption) (by rw [tn_n]; omega) (by omega) (by omega) (by omega) rfl | exact At_y (show Do _ v4.toNatClampNeg _ _ _ by assumption) (by rw [tn_n]; omega) (by omega) (by omega) (show v4.toInt < 301 * v2.toInt + (o0.2.1 57 v2.toNatClampNeg).toInt by omega) | exact At_k x_4 (by omega) rfl
            have t43 : (0 : Int) ≤ (o0.2.1 62 v2.toNatClampNeg).toInt ∧ (o0.2.1 62 v2.toNatClampNeg).toInt ≤ 208 := k_o0.2 62 _
            have t44 : (0 : Int) ≤ (o0.2.1 67 v2.toNatClampNeg).toInt ∧ (o0.2.1 67 v2.toNatClampNeg).toInt ≤ 208 := k_o0.2 67 _
            have t45 : (0 : Int) ≤ (o0.2.1 67 v2.toNatClampNeg).toInt ∧ (o0.2.1 67 v2.toNatClampNeg).toInt ≤ 208 := k_o0.2 67 _
            exact H.2.2.2.2.1 _ _ _ _ k_o0 r_o0 i_v2 (iv_w (a := (-1)) (b := 63209) (by decide) (by decide) i36) (iv_w (a := 301) (b := 62908) (by decide) (by decide) i41) f_o0_0 f_o0_38 f_o0_66 f_o0_95 x_0 x_1 x_2 x_3 p42 (show (o0.2.1 62 v2.toNatClampNeg).toInt ≤ (o0.2.1 67 v2.toNatClampNeg).toInt by omega) (show 1 ≤ (o0.2.1 67 v2.toNatClampNeg).toInt by first | omega | (rw [up_o (show ¬ v2.toNatClampNeg = _ by rw [← Int.ofNat_inj, tn_n, tn_n]; omega)]; omega)) (show 301 * v2.toInt ≤ x40.toInt by omega) (show v2.toInt < (o0.1 39).toInt + 1 + (o0.1 43).toInt by omega) (show (o0.1 39).toInt + 1 ≤ v2.toInt by omega) (show 0 + (v2.toInt - 0 - 1) * 125230 + 13 + (62908 - x40.toInt) * 2 < (n : Int) by omega)
          · have wc38 : ¬ q37.toInt = (0 : Int) := c_ne c38
            have i46 : (1 : Int) ≤ q37.toInt ∧ q37.toInt ≤ 1 := nr_nela c38 i_q37 (show (0 : Int) ≤ (0 : Int32).toInt ∧ (0 : Int32).toInt ≤ 0 by decide) (by decide) (by decide)
            try unfold fM_chooseFew_237
            try unfold fM_chooseFew_243
            refine tt_kv (P := fun z => ((302 : Int) ≤ z.toInt ∧ z.toInt ≤ 62908) ∧ z = (v4 + 1) ∧ z.toInt = v4.toInt + 1) ⟨iv_add i12 (show (1 : Int) ≤ (1 : Int32).toInt ∧ (1 : Int32).toInt ≤ 1 by decide) (by decide) (by decide) (by decide) (by decide), rfl, iq_add i12 (show (1 : Int) ≤ (1 : Int32).toInt ∧ (1 : Int32).toInt ≤ 1 by decide) (by decide) (by decide)⟩ (fun x47 qi48 => ?_)
            obtain ⟨i48, ax47, ei48⟩ := qi48
            have p49 : Atk v4.toInt x47.toInt v2.toInt (o0.2.1 67 v2.toNatClampNeg).toInt (o0.2.1 57) (o0.2.1 59) (o0.2.1 58) (o0.2.1 62) := by first | exact At_n x_4 (show Do _ v4.toNatClampNeg _ _ _ by assumption) (by rw [tn_n]; omega) (by omega) (by omega) (by omega) rfl | exact At_y (show Do _ v4.toNatClampNeg _ _ _ by assumption) (by rw [tn_n]; omega) (by omega) (by omega) (show v4.toInt < 301 * v2.toInt + (o0.2.1 57 v2.toNatClampNeg).toInt by omega) | exact At_k x_4 (by omega) rfl
            have t50 : (0 : Int) ≤ (o0.2.1 62 v2.toNatClampNeg).toInt ∧ (o0.2.1 62 v2.toNatClampNeg).toInt ≤ 208 := k_o0.2 62 _
            have t51 : (0 : Int) ≤ (o0.2.1 67 v2.toNatClampNeg).toInt ∧ (o0.2.1 67 v2.toNatClampNeg).toInt ≤ 208 := k_o0.2 67 _
            have t52 : (0 : Int) ≤ (o0.2.1 67 v2.toNatClampNeg).toInt ∧ (o0.2.1 67 v2.toNatClampNeg).toInt ≤ 208 := k_o0.2 67 _
            exact H.2.2.2.2.1 _ _ _ _ k_o0 r_o0 i_v2 (iv_w (a := (-1)) (b := 63209) (by decide) (by decide) i12) (iv_w (a := 301) (b := 62908) (by decide) (by decide) i48) f_o0_0 f_o0_38 f_o0_66 f_o0_95 x_0 x_1 x_2 x_3 p49 (show (o0.2.1 62 v2.toNatClampNeg).toInt ≤ (o0.2.1 67 v2.toNatClampNeg).toInt by omega) (show 1 ≤ (o0.2.1 67 v2.toNatClampNeg).toInt by first | omega | (rw [up_o (show ¬ v2.toNatClampNeg = _ by rw [← Int.ofNat_inj, tn_n, tn_n]; omega)]; omega)) (show 301 * v2.toInt ≤ x47.toInt by omega) (show v2.toInt < (o0.1 39).toInt + 1 + (o0.1 43).toInt by omega) (show (o0.1 39).toInt + 1 ≤ v2.toInt by omega) (show 0 + (v2.toInt - 0 - 1) * 125230 + 13 + (62908 - x47.toInt) * 2 < (n : Int) by omega)
set_option maxHeartbeats 4000000 in
set_option maxRecDepth 100000 in
theorem tM_chooseFew_150 {yo0 : cf_O} {n : Nat} (H : HM_chooseFew yo0 n) (v2 : Int32) (o0 : cf_O) (k_o0 : okO I_M o0) (r_o0 : Fr (fr_M [73] [63, 67, 72, 74] []) yo0 o0) (i_v2 : (0 : Int) ≤ v2.toInt ∧ v2.toInt ≤ 208) (f_o0_0 : (0 : Int) ≤ (o0.1 0).toInt ∧ (o0.1 0).toInt ≤ 2) (f_o0_38 : (1 : Int) ≤ (o0.1 38).toInt ∧ (o0.1 38).toInt ≤ 1) (f_o0_66 : (1 : Int) ≤ (o0.1 66).toInt ∧ (o0.1 66).toInt ≤ 1) (f_o0_95 : (0 : Int) ≤ (o0.1 95).toInt ∧ (o0.1 95).toInt ≤ 0) (x_0 : Sa (o0.1 43).toInt ((o0.1 39).toInt + 1) (o0.2.1 57) (o0.2.1 59) (o0.2.1 58)) (x_1 : Dp (o0.1 43).toInt ((o0.1 39).toInt + 1) (o0.2.1 57) (o0.2.1 59) (o0.2.1 58) (o0.2.1 62)) (x_2 : No (o0.1 40).toInt ((o0.1 39).toInt + 1 + (o0.1 43).toInt) (o0.2.1 47)) (x_3 : Tm ((o0.1 39).toInt + 1) (o0.2.1 72) (o0.2.1 62) (o0.2.1 67)) (x_4 : v2.toInt < (o0.1 39).toInt + 1 + (o0.1 43).toInt) (hm : 0 + (v2.toInt - 0) * 125230 ≤ (n : Int)) : tt (fM_chooseFew_150 (gM_chooseFew n) v2 o0) (QM_chooseFew yo0) := by
  unfold fM_chooseFew_150
  have g_o0_39 : (0 : Int) ≤ (o0.1 39).toInt ∧ (o0.1 39).toInt ≤ 8 := k_o0.1 39
  have ey_o0_39 : (o0.1 39).toInt = (yo0.1 39).toInt := congrArg Int32.toInt (r_o0.1 39 rfl)
  have g_o0_40 : (0 : Int) ≤ (o0.1 40).toInt ∧ (o0.1 40).toInt ≤ 6 := k_o0.1 40
  have ey_o0_40 : (o0.1 40).toInt = (yo0.1 40).toInt := congrArg Int32.toInt (r_o0.1 40 rfl)
  have g_o0_43 : (0 : Int) ≤ (o0.1 43).toInt ∧ (o0.1 43).toInt ≤ 200 := k_o0.1 43
  have ey_o0_43 : (o0.1 43).toInt = (yo0.1 43).toInt := congrArg Int32.toInt (r_o0.1 43 rfl)
  try unfold fM_base
  try unfold fM_base_0
  refine tt_bkv (P := fun z => ((1 : Int) ≤ z.toInt ∧ z.toInt ≤ 9) ∧ z = ((o0.1 39) + 1) ∧ z.toInt = (o0.1 39).toInt + 1) ⟨iv_add (k_o0.1 39) (show (1 : Int) ≤ (1 : Int32).toInt ∧ (1 : Int32).toInt ≤ 1 by decide) (by decide) (by decide) (by decide) (by decide), rfl, iq_add (k_o0.1 39) (show (1 : Int) ≤ (1 : Int32).toInt ∧ (1 : Int32).toInt ≤ 1 by decide) (by decide) (by decide)⟩ (fun x1 qi2 => ?_)
  obtain ⟨i2, ax1, ei2⟩ := qi2
  refine tt_bs ?_
  refine tt_if (fun c3 => ?_) (fun c3 => ?_)
  · have wc3 : v2.toInt < x1.toInt := c_lt c3
    have i4 : (0 : Int) ≤ v2.toInt ∧ v2.toInt ≤ 8 := nr_ltl c3 i_v2 i2 (by decide) (by decide)
    refine tt_b (sM_listCells _ k_o0 f_o0_0 f_o0_38 f_o0_95) (fun q5 hq5 => ?_)
    obtain ⟨k_q5, n_q5, zq5_0, -⟩ := hq5
    have r_q5 := fr_tr r_o0 n_q5 rfl rfl rfl
    have f_q5_0 : (0 : Int) ≤ (q5.1 0).toInt ∧ (q5.1 0).toInt ≤ 2 := by rw [n_q5.1 0 rfl]; exact f_o0_0
    have f_q5_66 : (1 : Int) ≤ (q5.1 66).toInt ∧ (q5.1 66).toInt ≤ 1 := by rw [n_q5.1 66 rfl]; exact f_o0_66
    have f_q5_38 : (1 : Int) ≤ (q5.1 38).toInt ∧ (q5.1 38).toInt ≤ 1 := by rw [n_q5.1 38 rfl]; exact f_o0_38
    have f_q5_95 : (0 : Int) ≤ (q5.1 95).toInt ∧ (q5.1 95).toInt ≤ 0 := by rw [n_q5.1 95 rfl]; exact f_o0_95
    have e_q5_39 : (q5.1 39).toInt = (o0.1 39).toInt := congrArg Int32.toInt (n_q5.1 39 rfl)
    have g_q5_39 : (0 : Int) ≤ (q5.1 39).toInt ∧ (q5.1 39).toInt ≤ 8 := k_q5.1 39
    have e_q5_40 : (q5.1 40).toInt = (o0.1 40).toInt := congrArg Int32.toInt (n_q5.1 40 rfl)
    have g_q5_40 : (0 : Int) ≤ (q5.1 40).toInt ∧ (q5.1 40).toInt ≤ 6 := k_q5.1 40
    have e_q5_43 : (q5.1 43).toInt = (o0.1 43).toInt := congrArg Int32.toInt (n_q5.1 43 rfl)
    have g_q5_43 : (0 : Int) ≤ (q5.1 43).toInt ∧ (q5.1 43).toInt ≤ 200 := k_q5.1 43
    have u6 : Sa (q5.1 43).toInt ((q5.1 39).toInt + 1) (q5.2.1 57) (q5.2.1 59) (q5.2.1 58) := by rw [n_q5.1 39 rfl, n_q5.1 43 rfl, n_q5.2.1 57 rfl, n_q5.2.1 58 rfl, n_q5.2.1 59 rfl]; exact x_0
    have u7 : Dp (q5.1 43).toInt ((q5.1 39).toInt + 1) (q5.2.1 57) (q5.2.1 59) (q5.2.1 58) (q5.2.1 62) := by rw [n_q5.1 39 rfl, n_q5.1 43 rfl, n_q5.2.1 57 rfl, n_q5.2.1 58 rfl, n_q5.2.1 59 rfl, n_q5.2.1 62 rfl]; exact x_1
    have u8 : No (q5.1 40).toInt ((q5.1 39).toInt + 1 + (q5.1 43).toInt) (q5.2.1 47) := by rw [n_q5.1 39 rfl, n_q5.1 40 rfl, n_q5.1 43 rfl, n_q5.2.1 47 rfl]; exact x_2
    have u9 : Tm ((q5.1 39).toInt + 1) (q5.2.1 72) (q5.2.1 62) (q5.2.1 67) := by rw [n_q5.1 39 rfl, n_q5.2.1 62 rfl, n_q5.2.1 67 rfl, n_q5.2.1 72 rfl]; exact x_3
    exact tt_some ⟨k_q5, r_q5, zq5_0, trivial⟩
  · have wc3 : x1.toInt ≤ v2.toInt := c_nlt c3
    have i10 : (1 : Int) ≤ v2.toInt ∧ v2.toInt ≤ 208 := nr_nltr c3 i2 i_v2 (by decide) (by decide)
    refine tt_n (ix_ok i10 (by decide) (by decide)) ?_
    refine tt_kv (P := fun z => ((0 : Int) ≤ z.toInt ∧ z.toInt ≤ 1) ∧ z = (o0.2.1 72 v2.toNatClampNeg) ∧ z.toInt = (o0.2.1 72 v2.toNatClampNeg).toInt) ⟨(k_o0.2 72 _), rfl, rfl⟩ (fun x11 qi12 => ?_)
    obtain ⟨i12, ax11, ei12⟩ := qi12
    have tm : ¬ (o0.2.1 72 v2.toNatClampNeg).toInt = 0 → (o0.2.1 62 v2.toNatClampNeg).toInt ≤ (o0.2.1 67 v2.toNatClampNeg).toInt := fun q => Tm_at x_3 v2 (by omega) (by omega) (by omega) q
    have dpn := (x_1 (v2.toInt - ((o0.1 39).toInt + 1)).toNat v2.toNatClampNeg (by omega) (by rw [tn_n]; omega)).1
    refine tt_if (fun c13 => ?_) (fun c13 => ?_)
    · have wc13 : x11.toInt = (0 : Int) := c_eq c13
      have i14 : (0 : Int) ≤ x11.toInt ∧ x11.toInt ≤ 0 := nr_eql c13 i12 (show (0 : Int) ≤ (0 : Int32).toInt ∧ (0 : Int32).toInt ≤ 0 by decide) (by decide) (by decide)
      try unfold fM_chooseFew_374
      refine tt_kv (P := fun z => ((0 : Int) ≤ z.toInt ∧ z.toInt ≤ 207) ∧ z = (v2 + (-1)) ∧ z.toInt = v2.toInt + (-1)) ⟨iv_add i10 (show ((-1) : Int) ≤ ((-1) : Int32).toInt ∧ ((-1) : Int32).toInt ≤ (-1) by decide) (by decide) (by decide) (by decide) (by decide), rfl, iq_add i10 (show ((-1) : Int) ≤ ((-1) : Int32).toInt ∧ ((-1) : Int32).toInt ≤ (-1) by decide) (by decide) (by decide)⟩ (fun x15 qi16 => ?_)
      obtain ⟨i16, ax15, ei16⟩ := qi16
      exact H.2.2.2.1 _ _ k_o0 r_o0 (iv_w (a := 0) (b := 208) (by decide) (by decide) i16) f_o0_0 f_o0_38 f_o0_66 f_o0_95 x_0 x_1 x_2 x_3 (show x15.toInt < (o0.1 39).toInt + 1 + (o0.1 43).toInt by omega) (show 0 + (x15.toInt - 0) * 125230 < (n : Int) by omega)
    · have wc13 : ¬ x11.toInt = (0 : Int) := c_ne c13
      have i17 : (1 : Int) ≤ x11.toInt ∧ x11.toInt ≤ 1 := nr_nela c13 i12 (show (0 : Int) ≤ (0 : Int32).toInt ∧ (0 : Int32).toInt ≤ 0 by decide) (by decide) (by decide)
      refine tt_kv (P := fun z => ((301 : Int) ≤ z.toInt ∧ z.toInt ≤ 62608) ∧ z = (301 * v2) ∧ z.toInt = 301 * v2.toInt) ⟨iv_mul (show (301 : Int) ≤ (301 : Int32).toInt ∧ (301 : Int32).toInt ≤ 301 by decide) i10 (by decide) (by decide) (by decide) (by decide) (by decide), rfl, iq_mul (show (301 : Int) ≤ (301 : Int32).toInt ∧ (301 : Int32).toInt ≤ 301 by decide) i10 (by decide) (by decide) (by decide) (by decide)⟩ (fun x18 qi19 => ?_)
      obtain ⟨i19, ax18, ei19⟩ := qi19
      have p20 : Atk (-1) x18.toInt v2.toInt (o0.2.1 67 v2.toNatClampNeg).toInt (o0.2.1 57) (o0.2.1 59) (o0.2.1 58) (o0.2.1 62) := by exact At_0 (by decide) (by omega)
      have t21 : (0 : Int) ≤ (o0.2.1 62 v2.toNatClampNeg).toInt ∧ (o0.2.1 62 v2.toNatClampNeg).toInt ≤ 208 := k_o0.2 62 _
      have t22 : (0 : Int) ≤ (o0.2.1 67 v2.toNatClampNeg).toInt ∧ (o0.2.1 67 v2.toNatClampNeg).toInt ≤ 208 := k_o0.2 67 _
      have t23 : (0 : Int) ≤ (o0.2.1 67 v2.toNatClampNeg).toInt ∧ (o0.2.1 67 v2.toNatClampNeg).toInt ≤ 208 := k_o0.2 67 _
      exact H.2.2.2.2.1 _ _ _ _ k_o0 r_o0 i10 (iv_w (a := (-1)) (b := 63209) (by decide) (by decide) (show ((-1) : Int) ≤ ((-1) : Int32).toInt ∧ ((-1) : Int32).toInt ≤ (-1) by decide)) (iv_w (a := 301) (b := 62908) (by decide) (by decide) i19) f_o0_0 f_o0_38 f_o0_66 f_o0_95 x_0 x_1 x_2 x_3 p20 (show (o0.2.1 62 v2.toNatClampNeg).toInt ≤ (o0.2.1 67 v2.toNatClampNeg).toInt by omega) (show 1 ≤ (o0.2.1 67 v2.toNatClampNeg).toInt by first | omega | (rw [up_o (show ¬ v2.toNatClampNeg = _ by rw [← Int.ofNat_inj, tn_n, tn_n]; omega)]; omega)) (show 301 * v2.toInt ≤ x18.toInt by omega) (show v2.toInt < (o0.1 39).toInt + 1 + (o0.1 43).toInt by omega) (show (o0.1 39).toInt + 1 ≤ v2.toInt by omega) (show 0 + (v2.toInt - 0 - 1) * 125230 + 13 + (62908 - x18.toInt) * 2 < (n : Int) by omega)
set_option maxHeartbeats 4000000 in
set_option maxRecDepth 100000 in
theorem tM_chooseFew_77 {yo0 : cf_O} {n : Nat} (H : HM_chooseFew yo0 n) (v1 : Int32) (v2 : Int32) (o0 : cf_O) (k_o0 : okO I_M o0) (r_o0 : Fr (fr_M [73] [63, 67, 72, 74] []) yo0 o0) (i_v1 : (0 : Int) ≤ v1.toInt ∧ v1.toInt ≤ 208) (i_v2 : (0 : Int) ≤ v2.toInt ∧ v2.toInt ≤ 6) (f_o0_0 : (0 : Int) ≤ (o0.1 0).toInt ∧ (o0.1 0).toInt ≤ 2) (f_o0_38 : (1 : Int) ≤ (o0.1 38).toInt ∧ (o0.1 38).toInt ≤ 1) (f_o0_66 : (1 : Int) ≤ (o0.1 66).toInt ∧ (o0.1 66).toInt ≤ 1) (f_o0_95 : (0 : Int) ≤ (o0.1 95).toInt ∧ (o0.1 95).toInt ≤ 0) (x_0 : Sa (o0.1 43).toInt ((o0.1 39).toInt + 1) (o0.2.1 57) (o0.2.1 59) (o0.2.1 58)) (x_1 : Dp (o0.1 43).toInt ((o0.1 39).toInt + 1) (o0.2.1 57) (o0.2.1 59) (o0.2.1 58) (o0.2.1 62)) (x_2 : No (o0.1 40).toInt ((o0.1 39).toInt + 1 + (o0.1 43).toInt) (o0.2.1 47)) (x_3 : Mo v1.toInt (o0.1 40).toInt (o0.2.1 47) (o0.2.1 62)) (x_4 : Tm ((o0.1 39).toInt + 1) (o0.2.1 72) (o0.2.1 62) (o0.2.1 67)) (hm : 26047842 + (6 - v2.toInt) * 2 ≤ (n : Int)) : tt (fM_chooseFew_77 (gM_chooseFew n) v1 v2 o0) (QM_chooseFew yo0) := by
  unfold fM_chooseFew_77
  have g_o0_39 : (0 : Int) ≤ (o0.1 39).toInt ∧ (o0.1 39).toInt ≤ 8 := k_o0.1 39
  have ey_o0_39 : (o0.1 39).toInt = (yo0.1 39).toInt := congrArg Int32.toInt (r_o0.1 39 rfl)
  have g_o0_40 : (0 : Int) ≤ (o0.1 40).toInt ∧ (o0.1 40).toInt ≤ 6 := k_o0.1 40
  have ey_o0_40 : (o0.1 40).toInt = (yo0.1 40).toInt := congrArg Int32.toInt (r_o0.1 40 rfl)
  have g_o0_43 : (0 : Int) ≤ (o0.1 43).toInt ∧ (o0.1 43).toInt ≤ 200 := k_o0.1 43
  have ey_o0_43 : (o0.1 43).toInt = (yo0.1 43).toInt := congrArg Int32.toInt (r_o0.1 43 rfl)
  refine tt_if (fun c1 => ?_) (fun c1 => ?_)
  · have wc1 : (o0.1 40).toInt ≤ v2.toInt := c_le c1
    try unfold fM_base
    try unfold fM_base_0
    refine tt_bkv (P := fun z => ((1 : Int) ≤ z.toInt ∧ z.toInt ≤ 9) ∧ z = ((o0.1 39) + 1) ∧ z.toInt = (o0.1 39).toInt + 1) ⟨iv_add (k_o0.1 39) (show (1 : Int) ≤ (1 : Int32).toInt ∧ (1 : Int32).toInt ≤ 1 by decide) (by decide) (by decide) (by decide) (by decide), rfl, iq_add (k_o0.1 39) (show (1 : Int) ≤ (1 : Int32).toInt ∧ (1 : Int32).toInt ≤ 1 by decide) (by decide) (by decide)⟩ (fun x2 qi3 => ?_)
    obtain ⟨i3, ax2, ei3⟩ := qi3
    refine tt_bs ?_
    refine tt_kv (P := fun z => ((1 : Int) ≤ z.toInt ∧ z.toInt ≤ 209) ∧ z = (x2 + (o0.1 43)) ∧ z.toInt = x2.toInt + (o0.1 43).toInt) ⟨iv_add i3 (k_o0.1 43) (by decide) (by decide) (by decide) (by decide), rfl, iq_add i3 (k_o0.1 43) (by decide) (by decide)⟩ (fun x4 qi5 => ?_)
    obtain ⟨i5, ax4, ei5⟩ := qi5
    refine tt_kv (P := fun z => ((0 : Int) ≤ z.toInt ∧ z.toInt ≤ 208) ∧ z = (x4 - 1) ∧ z.toInt = x4.toInt - 1) ⟨iv_sub i5 (show (1 : Int) ≤ (1 : Int32).toInt ∧ (1 : Int32).toInt ≤ 1 by decide) (by decide) (by decide) (by decide) (by decide), rfl, iq_sub i5 (show (1 : Int) ≤ (1 : Int32).toInt ∧ (1 : Int32).toInt ≤ 1 by decide) (by decide) (by decide)⟩ (fun x6 qi7 => ?_)
    obtain ⟨i7, ax6, ei7⟩ := qi7
    exact H.2.2.2.1 _ _ k_o0 r_o0 i7 f_o0_0 f_o0_38 f_o0_66 f_o0_95 x_0 x_1 x_2 x_4 (show x6.toInt < (o0.1 39).toInt + 1 + (o0.1 43).toInt by omega) (show 0 + (x6.toInt - 0) * 125230 < (n : Int) by omega)
  · have wc1 : v2.toInt < (o0.1 40).toInt := c_nle c1
    have i8 : (0 : Int) ≤ v2.toInt ∧ v2.toInt ≤ 5 := nr_nlel c1 i_v2 (k_o0.1 40) (by decide) (by decide)
    have i9 : (1 : Int) ≤ (o0.1 40).toInt ∧ (o0.1 40).toInt ≤ 6 := nr_nler c1 i_v2 (k_o0.1 40) (by decide) (by decide)
    refine tt_n (ix_ok i8 (by decide) (by decide)) ?_
    refine tt_kv (P := fun z => ((0 : Int) ≤ z.toInt ∧ z.toInt ≤ 417) ∧ z = (o0.2.1 47 v2.toNatClampNeg) ∧ z.toInt = (o0.2.1 47 v2.toNatClampNeg).toInt) ⟨(k_o0.2 47 _), rfl, rfl⟩ (fun x10 qi11 => ?_)
    obtain ⟨i11, ax10, ei11⟩ := qi11
    have t12 := tn_n v2
    have t13 := x_3 v2.toNatClampNeg
    refine tt_kv (P := fun z => ((0 : Int) ≤ z.toInt ∧ z.toInt ≤ 208) ∧ z = (x10 / 2) ∧ z.toInt = x10.toInt / 2) ⟨iv_div (k := 2) i11 (show (2 : Int) ≤ (2 : Int32).toInt ∧ (2 : Int32).toInt ≤ 2 by decide) (by decide) (by decide) (by decide) (by decide), rfl, i_dv (Int.le_trans (by decide) i11.1) (by decide)⟩ (fun x14 qi15 => ?_)
    obtain ⟨i15, ax14, ei15⟩ := qi15
    refine tt_n (ix_ok i8 (by decide) (by decide)) ?_
    refine tt_kv (P := fun z => x10 = z ∧ True) ⟨ax10, trivial⟩ (fun x16 hx16 => ?_)
    obtain ⟨rfl, -⟩ := hx16
    refine tt_kv (P := fun z => x14 = z ∧ True) ⟨ax14, trivial⟩ (fun x17 hx17 => ?_)
    obtain ⟨rfl, -⟩ := hx17
    try unfold fM_base
    try unfold fM_base_0
    refine tt_bkv (P := fun z => ((1 : Int) ≤ z.toInt ∧ z.toInt ≤ 9) ∧ z = ((o0.1 39) + 1) ∧ z.toInt = (o0.1 39).toInt + 1) ⟨iv_add (k_o0.1 39) (show (1 : Int) ≤ (1 : Int32).toInt ∧ (1 : Int32).toInt ≤ 1 by decide) (by decide) (by decide) (by decide) (by decide), rfl, iq_add (k_o0.1 39) (show (1 : Int) ≤ (1 : Int32).toInt ∧ (1 : Int32).toInt ≤ 1 by decide) (by decide) (by decide)⟩ (fun x18 qi19 => ?_)
    obtain ⟨i19, ax18, ei19⟩ := qi19
    refine tt_bs ?_
    refine tt_if (fun c20 => ?_) (fun c20 => ?_)
    · have wc20 : x14.toInt < x18.toInt := c_lt c20
      have i21 : (0 : Int) ≤ x14.toInt ∧ x14.toInt ≤ 8 := nr_ltl c20 i15 i19 (by decide) (by decide)
      try unfold fM_chooseFew_117
      refine tt_n (ix_ok i21 (by decide) (by decide)) ?_
      refine tt_ko ?_
      have k22 := ok_xp (k := 72) (i := x14.toNatClampNeg) (v := (vp_nar .boolean 0)) k_o0 (iv_nz _)
      have r23 := fr_xp (k := 72) (i := x14.toNatClampNeg) (v := (vp_nar .boolean 0)) r_o0 rfl
      refine tt_n (ix_ok i8 (by decide) (by decide)) ?_
      refine tt_kv (P := fun z => x10 = z ∧ True) ⟨ax10, trivial⟩ (fun x24 hx24 => ?_)
      obtain ⟨rfl, -⟩ := hx24
      refine tt_kv (P := fun z => x14 = z ∧ True) ⟨ax14, trivial⟩ (fun x25 hx25 => ?_)
      obtain ⟨rfl, -⟩ := hx25
      refine tt_n (ix_ok i21 (by decide) (by decide)) ?_
      refine tt_ko ?_
      have k26 := ok_xp (k := 67) (i := x14.toNatClampNeg) (v := v1) k22 i_v1
      have r27 := fr_xp (k := 67) (i := x14.toNatClampNeg) (v := v1) r23 rfl
      refine tt_kv (P := fun z => ((1 : Int) ≤ z.toInt ∧ z.toInt ≤ 6) ∧ z = (v2 + 1) ∧ z.toInt = v2.toInt + 1) ⟨iv_add i8 (show (1 : Int) ≤ (1 : Int32).toInt ∧ (1 : Int32).toInt ≤ 1 by decide) (by decide) (by decide) (by decide) (by decide), rfl, iq_add i8 (show (1 : Int) ≤ (1 : Int32).toInt ∧ (1 : Int32).toInt ≤ 1 by decide) (by decide) (by decide)⟩ (fun x28 qi29 => ?_)
      obtain ⟨i29, ax28, ei29⟩ := qi29
      have p30 : Tm ((o0.1 39).toInt + 1) (upd (o0.2.1 72) (x14.toNatClampNeg) (vp_nar .boolean 0)) (o0.2.1 62) (upd (o0.2.1 67) (x14.toNatClampNeg) v1) := by exact Tm_u2 x_4 rfl (x_3 v2.toNatClampNeg _ (by rw [tn_n]; omega) (by rw [tn_n]; omega))
      exact H.2.2.1 _ _ _ k26 r27 i_v1 (iv_w (a := 0) (b := 6) (by decide) (by decide) i29) f_o0_0 f_o0_38 f_o0_66 f_o0_95 x_0 x_1 x_2 x_3 p30 (show 26047842 + (6 - x28.toInt) * 2 < (n : Int) by omega)
    · have wc20 : x18.toInt ≤ x14.toInt := c_nlt c20
      have i31 : (1 : Int) ≤ x14.toInt ∧ x14.toInt ≤ 208 := nr_nltr c20 i19 i15 (by decide) (by decide)
      try unfold fM_chooseFew_117
      refine tt_n (ix_ok i31 (by decide) (by decide)) ?_
      refine tt_ko ?_
      have k32 := ok_xp (k := 72) (i := x14.toNatClampNeg) (v := (vp_nar .boolean 1)) k_o0 (iv_nz _)
      have r33 := fr_xp (k := 72) (i := x14.toNatClampNeg) (v := (vp_nar .boolean 1)) r_o0 rfl
      refine tt_n (ix_ok i8 (by decide) (by decide)) ?_
      refine tt_kv (P := fun z => x10 = z ∧ True) ⟨ax10, trivial⟩ (fun x34 hx34 => ?_)
      obtain ⟨rfl, -⟩ := hx34
      refine tt_kv (P := fun z => x14 = z ∧ True) ⟨ax14, trivial⟩ (fun x35 hx35 => ?_)
      obtain ⟨rfl, -⟩ := hx35
      refine tt_n (ix_ok i31 (by decide) (by decide)) ?_
      refine tt_ko ?_
      have k36 := ok_xp (k := 67) (i := x14.toNatClampNeg) (v := v1) k32 i_v1
      have r37 := fr_xp (k := 67) (i := x14.toNatClampNeg) (v := v1) r33 rfl
      refine tt_kv (P := fun z => ((1 : Int) ≤ z.toInt ∧ z.toInt ≤ 6) ∧ z = (v2 + 1) ∧ z.toInt = v2.toInt + 1) ⟨iv_add i8 (show (1 : Int) ≤ (1 : Int32).toInt ∧ (1 : Int32).toInt ≤ 1 by decide) (by decide) (by decide) (by decide) (by decide), rfl, iq_add i8 (show (1 : Int) ≤ (1 : Int32).toInt ∧ (1 : Int32).toInt ≤ 1 by decide) (by decide) (by decide)⟩ (fun x38 qi39 => ?_)
      obtain ⟨i39, ax38, ei39⟩ := qi39
      have p40 : Tm ((o0.1 39).toInt + 1) (upd (o0.2.1 72) (x14.toNatClampNeg) (vp_nar .boolean 1)) (o0.2.1 62) (upd (o0.2.1 67) (x14.toNatClampNeg) v1) := by exact Tm_u2 x_4 rfl (x_3 v2.toNatClampNeg _ (by rw [tn_n]; omega) (by rw [tn_n]; omega))
      exact H.2.2.1 _ _ _ k36 r37 i_v1 (iv_w (a := 0) (b := 6) (by decide) (by decide) i39) f_o0_0 f_o0_38 f_o0_66 f_o0_95 x_0 x_1 x_2 x_3 p40 (show 26047842 + (6 - x38.toInt) * 2 < (n : Int) by omega)
set_option maxHeartbeats 4000000 in
set_option maxRecDepth 100000 in
theorem tM_chooseFew_26 {yo0 : cf_O} {n : Nat} (H : HM_chooseFew yo0 n) (v1 : Int32) (v2 : Int32) (o0 : cf_O) (k_o0 : okO I_M o0) (r_o0 : Fr (fr_M [73] [63, 67, 72, 74] []) yo0 o0) (i_v1 : (0 : Int) ≤ v1.toInt ∧ v1.toInt ≤ 208) (i_v2 : (0 : Int) ≤ v2.toInt ∧ v2.toInt ≤ 6) (f_o0_0 : (0 : Int) ≤ (o0.1 0).toInt ∧ (o0.1 0).toInt ≤ 2) (f_o0_38 : (1 : Int) ≤ (o0.1 38).toInt ∧ (o0.1 38).toInt ≤ 1) (f_o0_66 : (1 : Int) ≤ (o0.1 66).toInt ∧ (o0.1 66).toInt ≤ 1) (f_o0_95 : (0 : Int) ≤ (o0.1 95).toInt ∧ (o0.1 95).toInt ≤ 0) (x_0 : Sa (o0.1 43).toInt ((o0.1 39).toInt + 1) (o0.2.1 57) (o0.2.1 59) (o0.2.1 58)) (x_1 : Dp (o0.1 43).toInt ((o0.1 39).toInt + 1) (o0.2.1 57) (o0.2.1 59) (o0.2.1 58) (o0.2.1 62)) (x_2 : No (o0.1 40).toInt ((o0.1 39).toInt + 1 + (o0.1 43).toInt) (o0.2.1 47)) (x_3 : Fc 210 (o0.2.1 72)) (x_4 : Mo v1.toInt v2.toInt (o0.2.1 47) (o0.2.1 62)) (x_5 : v2.toInt ≤ (o0.1 40).toInt) (hm : 26047856 + (6 - v2.toInt) * 2 ≤ (n : Int)) : tt (fM_chooseFew_26 (gM_chooseFew n) v1 v2 o0) (QM_chooseFew yo0) := by
  unfold fM_chooseFew_26
  have g_o0_39 : (0 : Int) ≤ (o0.1 39).toInt ∧ (o0.1 39).toInt ≤ 8 := k_o0.1 39
  have ey_o0_39 : (o0.1 39).toInt = (yo0.1 39).toInt := congrArg Int32.toInt (r_o0.1 39 rfl)
  have g_o0_40 : (0 : Int) ≤ (o0.1 40).toInt ∧ (o0.1 40).toInt ≤ 6 := k_o0.1 40
  have ey_o0_40 : (o0.1 40).toInt = (yo0.1 40).toInt := congrArg Int32.toInt (r_o0.1 40 rfl)
  have g_o0_43 : (0 : Int) ≤ (o0.1 43).toInt ∧ (o0.1 43).toInt ≤ 200 := k_o0.1 43
  have ey_o0_43 : (o0.1 43).toInt = (yo0.1 43).toInt := congrArg Int32.toInt (r_o0.1 43 rfl)
  refine tt_if (fun c1 => ?_) (fun c1 => ?_)
  · have wc1 : (o0.1 40).toInt ≤ v2.toInt := c_le c1
    have p2 : Mo v1.toInt (o0.1 40).toInt (o0.2.1 47) (o0.2.1 62) := by exact Mo_w x_4 (by omega)
    have p3 : Tm ((o0.1 39).toInt + 1) (o0.2.1 72) (o0.2.1 62) (o0.2.1 67) := by exact Tm_0 x_3
    exact H.2.2.1 _ _ _ k_o0 r_o0 i_v1 (iv_w (a := 0) (b := 6) (by decide) (by decide) (show (0 : Int) ≤ (0 : Int32).toInt ∧ (0 : Int32).toInt ≤ 0 by decide)) f_o0_0 f_o0_38 f_o0_66 f_o0_95 x_0 x_1 x_2 p2 p3 (show 26047842 + (6 - 0) * 2 < (n : Int) by omega)
  · have wc1 : v2.toInt < (o0.1 40).toInt := c_nle c1
    have i4 : (0 : Int) ≤ v2.toInt ∧ v2.toInt ≤ 5 := nr_nlel c1 i_v2 (k_o0.1 40) (by decide) (by decide)
    have i5 : (1 : Int) ≤ (o0.1 40).toInt ∧ (o0.1 40).toInt ≤ 6 := nr_nler c1 i_v2 (k_o0.1 40) (by decide) (by decide)
    refine tt_n (ix_ok i4 (by decide) (by decide)) ?_
    refine tt_kv (P := fun z => ((0 : Int) ≤ z.toInt ∧ z.toInt ≤ 417) ∧ z = (o0.2.1 47 v2.toNatClampNeg) ∧ z.toInt = (o0.2.1 47 v2.toNatClampNeg).toInt) ⟨(k_o0.2 47 _), rfl, rfl⟩ (fun x6 qi7 => ?_)
    obtain ⟨i7, ax6, ei7⟩ := qi7
    have t8 := tn_n v2
    have t9 := x_4 v2.toNatClampNeg
    refine tt_kv (P := fun z => ((0 : Int) ≤ z.toInt ∧ z.toInt ≤ 208) ∧ z = (x6 / 2) ∧ z.toInt = x6.toInt / 2) ⟨iv_div (k := 2) i7 (show (2 : Int) ≤ (2 : Int32).toInt ∧ (2 : Int32).toInt ≤ 2 by decide) (by decide) (by decide) (by decide) (by decide), rfl, i_dv (Int.le_trans (by decide) i7.1) (by decide)⟩ (fun x10 qi11 => ?_)
    obtain ⟨i11, ax10, ei11⟩ := qi11
    refine tt_n (ix_ok i11 (by decide) (by decide)) ?_
    refine tt_kv (P := fun z => ((0 : Int) ≤ z.toInt ∧ z.toInt ≤ 208) ∧ z = (o0.2.1 62 x10.toNatClampNeg) ∧ z.toInt = (o0.2.1 62 x10.toNatClampNeg).toInt) ⟨(k_o0.2 62 _), rfl, rfl⟩ (fun x12 qi13 => ?_)
    obtain ⟨i13, ax12, ei13⟩ := qi13
    refine tt_if (fun c14 => ?_) (fun c14 => ?_)
    · have wc14 : x12.toInt ≤ v1.toInt := c_le c14
      try unfold fM_chooseFew_68
      refine tt_kv (P := fun z => ((1 : Int) ≤ z.toInt ∧ z.toInt ≤ 6) ∧ z = (v2 + 1) ∧ z.toInt = v2.toInt + 1) ⟨iv_add i4 (show (1 : Int) ≤ (1 : Int32).toInt ∧ (1 : Int32).toInt ≤ 1 by decide) (by decide) (by decide) (by decide) (by decide), rfl, iq_add i4 (show (1 : Int) ≤ (1 : Int32).toInt ∧ (1 : Int32).toInt ≤ 1 by decide) (by decide) (by decide)⟩ (fun x15 qi16 => ?_)
      obtain ⟨i16, ax15, ei16⟩ := qi16
      have p17 : Mo v1.toInt x15.toInt (o0.2.1 47) (o0.2.1 62) := by exact Mo_s x_4 (by omega) (by omega) (show _ = (o0.2.1 62 _).toInt by assumption) (fun j hj => by have ej : j = v2.toNatClampNeg := (by rw [← Int.ofNat_inj, tn_n]; omega); subst ej; rw [tn_n]; omega) (by omega)
      exact H.2.1 _ _ _ k_o0 r_o0 i_v1 (iv_w (a := 0) (b := 6) (by decide) (by decide) i16) f_o0_0 f_o0_38 f_o0_66 f_o0_95 x_0 x_1 x_2 x_3 p17 (show x15.toInt ≤ (o0.1 40).toInt by omega) (show 26047856 + (6 - x15.toInt) * 2 < (n : Int) by omega)
    · have wc14 : v1.toInt < x12.toInt := c_nle c14
      have i18 : (0 : Int) ≤ v1.toInt ∧ v1.toInt ≤ 207 := nr_nlel c14 i_v1 i13 (by decide) (by decide)
      have i19 : (1 : Int) ≤ x12.toInt ∧ x12.toInt ≤ 208 := nr_nler c14 i_v1 i13 (by decide) (by decide)
      refine tt_n (ix_ok i4 (by decide) (by decide)) ?_
      refine tt_kv (P := fun z => x6 = z ∧ True) ⟨ax6, trivial⟩ (fun x20 hx20 => ?_)
      obtain ⟨rfl, -⟩ := hx20
      refine tt_kv (P := fun z => x10 = z ∧ True) ⟨ax10, trivial⟩ (fun x21 hx21 => ?_)
      obtain ⟨rfl, -⟩ := hx21
      refine tt_n (ix_ok i11 (by decide) (by decide)) ?_
      refine tt_kv (P := fun z => x12 = z ∧ True) ⟨ax12, trivial⟩ (fun x22 hx22 => ?_)
      obtain ⟨rfl, -⟩ := hx22
      try unfold fM_chooseFew_68
      refine tt_kv (P := fun z => ((1 : Int) ≤ z.toInt ∧ z.toInt ≤ 6) ∧ z = (v2 + 1) ∧ z.toInt = v2.toInt + 1) ⟨iv_add i4 (show (1 : Int) ≤ (1 : Int32).toInt ∧ (1 : Int32).toInt ≤ 1 by decide) (by decide) (by decide) (by decide) (by decide), rfl, iq_add i4 (show (1 : Int) ≤ (1 : Int32).toInt ∧ (1 : Int32).toInt ≤ 1 by decide) (by decide) (by decide)⟩ (fun x23 qi24 => ?_)
      obtain ⟨i24, ax23, ei24⟩ := qi24
      have p25 : Mo x12.toInt x23.toInt (o0.2.1 47) (o0.2.1 62) := by exact Mo_s x_4 (by omega) (by omega) (show _ = (o0.2.1 62 _).toInt by assumption) (fun j hj => by have ej : j = v2.toNatClampNeg := (by rw [← Int.ofNat_inj, tn_n]; omega); subst ej; rw [tn_n]; omega) (by omega)
      exact H.2.1 _ _ _ k_o0 r_o0 (iv_w (a := 0) (b := 208) (by decide) (by decide) i19) (iv_w (a := 0) (b := 6) (by decide) (by decide) i24) f_o0_0 f_o0_38 f_o0_66 f_o0_95 x_0 x_1 x_2 x_3 p25 (show x23.toInt ≤ (o0.1 40).toInt by omega) (show 26047856 + (6 - x23.toInt) * 2 < (n : Int) by omega)
set_option maxHeartbeats 4000000 in
set_option maxRecDepth 100000 in
theorem tM_chooseFew_4 {yo0 : cf_O} {n : Nat} (H : HM_chooseFew yo0 n) (v1 : Int32) (v2 : Int32) (o0 : cf_O) (k_o0 : okO I_M o0) (r_o0 : Fr (fr_M [73] [63, 67, 72, 74] []) yo0 o0) (i_v1 : (0 : Int) ≤ v1.toInt ∧ v1.toInt ≤ 0) (i_v2 : (0 : Int) ≤ v2.toInt ∧ v2.toInt ≤ 210) (f_o0_0 : (0 : Int) ≤ (o0.1 0).toInt ∧ (o0.1 0).toInt ≤ 2) (f_o0_38 : (1 : Int) ≤ (o0.1 38).toInt ∧ (o0.1 38).toInt ≤ 1) (f_o0_66 : (1 : Int) ≤ (o0.1 66).toInt ∧ (o0.1 66).toInt ≤ 1) (f_o0_95 : (0 : Int) ≤ (o0.1 95).toInt ∧ (o0.1 95).toInt ≤ 0) (x_0 : Sa (o0.1 43).toInt ((o0.1 39).toInt + 1) (o0.2.1 57) (o0.2.1 59) (o0.2.1 58)) (x_1 : Dp (o0.1 43).toInt ((o0.1 39).toInt + 1) (o0.2.1 57) (o0.2.1 59) (o0.2.1 58) (o0.2.1 62)) (x_2 : No (o0.1 40).toInt ((o0.1 39).toInt + 1 + (o0.1 43).toInt) (o0.2.1 47)) (x_3 : Fc v2.toInt (o0.2.1 72)) (hm : 26047870 + (210 - v2.toInt) * 2 ≤ (n : Int)) : tt (fM_chooseFew_4 (gM_chooseFew n) v1 v2 o0) (QM_chooseFew yo0) := by
  unfold fM_chooseFew_4
  have g_o0_39 : (0 : Int) ≤ (o0.1 39).toInt ∧ (o0.1 39).toInt ≤ 8 := k_o0.1 39
  have ey_o0_39 : (o0.1 39).toInt = (yo0.1 39).toInt := congrArg Int32.toInt (r_o0.1 39 rfl)
  have g_o0_40 : (0 : Int) ≤ (o0.1 40).toInt ∧ (o0.1 40).toInt ≤ 6 := k_o0.1 40
  have ey_o0_40 : (o0.1 40).toInt = (yo0.1 40).toInt := congrArg Int32.toInt (r_o0.1 40 rfl)
  have g_o0_43 : (0 : Int) ≤ (o0.1 43).toInt ∧ (o0.1 43).toInt ≤ 200 := k_o0.1 43
  have ey_o0_43 : (o0.1 43).toInt = (yo0.1 43).toInt := congrArg Int32.toInt (r_o0.1 43 rfl)
  refine tt_if (fun c1 => ?_) (fun c1 => ?_)
  · have wc1 : (210 : Int) ≤ v2.toInt := c_le c1
    have i2 : (210 : Int) ≤ v2.toInt ∧ v2.toInt ≤ 210 := nr_ler c1 (show (210 : Int) ≤ (210 : Int32).toInt ∧ (210 : Int32).toInt ≤ 210 by decide) i_v2 (by decide) (by decide)
    have p3 : Fc 210 (o0.2.1 72) := by rw [show (210 : Int) = v2.toInt by omega]; assumption
    have p4 : Mo v1.toInt 0 (o0.2.1 47) (o0.2.1 62) := by exact Mo_0
    exact H.2.1 _ _ _ k_o0 r_o0 (iv_w (a := 0) (b := 208) (by decide) (by decide) i_v1) (iv_w (a := 0) (b := 6) (by decide) (by decide) (show (0 : Int) ≤ (0 : Int32).toInt ∧ (0 : Int32).toInt ≤ 0 by decide)) f_o0_0 f_o0_38 f_o0_66 f_o0_95 x_0 x_1 x_2 p3 p4 (show 0 ≤ (o0.1 40).toInt by omega) (show 26047856 + (6 - 0) * 2 < (n : Int) by omega)
  · have wc1 : v2.toInt < (210 : Int) := c_nle c1
    have i5 : (0 : Int) ≤ v2.toInt ∧ v2.toInt ≤ 209 := nr_nlel c1 i_v2 (show (210 : Int) ≤ (210 : Int32).toInt ∧ (210 : Int32).toInt ≤ 210 by decide) (by decide) (by decide)
    refine tt_n (ix_ok i5 (by decide) (by decide)) ?_
    refine tt_ko ?_
    have k6 := ok_xp (k := 72) (i := v2.toNatClampNeg) (v := (vp_nar .boolean 0)) k_o0 (iv_nz _)
    have r7 := fr_xp (k := 72) (i := v2.toNatClampNeg) (v := (vp_nar .boolean 0)) r_o0 rfl
    refine tt_kv (P := fun z => ((1 : Int) ≤ z.toInt ∧ z.toInt ≤ 210) ∧ z = (v2 + 1) ∧ z.toInt = v2.toInt + 1) ⟨iv_add i5 (show (1 : Int) ≤ (1 : Int32).toInt ∧ (1 : Int32).toInt ≤ 1 by decide) (by decide) (by decide) (by decide) (by decide), rfl, iq_add i5 (show (1 : Int) ≤ (1 : Int32).toInt ∧ (1 : Int32).toInt ≤ 1 by decide) (by decide) (by decide)⟩ (fun x8 qi9 => ?_)
    obtain ⟨i9, ax8, ei9⟩ := qi9
    have p10 : Fc x8.toInt (upd (o0.2.1 72) (v2.toNatClampNeg) (vp_nar .boolean 0)) := by exact Fc_s (by assumption) (by omega) (by rw [tn_n]; omega) (by decide)
    exact H.1 _ _ _ k6 r7 i_v1 (iv_w (a := 0) (b := 210) (by decide) (by decide) i9) f_o0_0 f_o0_38 f_o0_66 f_o0_95 x_0 x_1 x_2 p10 (show 26047870 + (210 - x8.toInt) * 2 < (n : Int) by omega)
set_option maxHeartbeats 4000000 in
set_option maxRecDepth 100000 in
theorem hM_chooseFew (yo0 : cf_O) : ∀ n, HM_chooseFew yo0 n := by
  intro n
  induction n with
  | zero => exact ⟨(fun v1 v2 o0 k_o0 r_o0 i_v1 i_v2 f_o0_0 f_o0_38 f_o0_66 f_o0_95 x_0 x_1 x_2 x_3 hm => by exact absurd (show 26047870 + (210 - v2.toInt) * 2 < (0 : Int) from hm) (by omega)), (fun v1 v2 o0 k_o0 r_o0 i_v1 i_v2 f_o0_0 f_o0_38 f_o0_66 f_o0_95 x_0 x_1 x_2 x_3 x_4 x_5 hm => by exact absurd (show 26047856 + (6 - v2.toInt) * 2 < (0 : Int) from hm) (by omega)), (fun v1 v2 o0 k_o0 r_o0 i_v1 i_v2 f_o0_0 f_o0_38 f_o0_66 f_o0_95 x_0 x_1 x_2 x_3 x_4 hm => by exact absurd (show 26047842 + (6 - v2.toInt) * 2 < (0 : Int) from hm) (by omega)), (fun v2 o0 k_o0 r_o0 i_v2 f_o0_0 f_o0_38 f_o0_66 f_o0_95 x_0 x_1 x_2 x_3 x_4 hm => by exact absurd (show 0 + (v2.toInt - 0) * 125230 < (0 : Int) from hm) (by omega)), (fun v2 v3 v4 o0 k_o0 r_o0 i_v2 i_v3 i_v4 f_o0_0 f_o0_38 f_o0_66 f_o0_95 x_0 x_1 x_2 x_3 x_4 x_5 x_6 x_7 x_8 x_9 hm => by exact absurd (show 0 + (v2.toInt - 0 - 1) * 125230 + 13 + (62908 - v4.toInt) * 2 < (0 : Int) from hm) (by omega)), (fun v2 v3 v4 o0 k_o0 r_o0 i_v2 i_v3 i_v4 f_o0_0 f_o0_38 f_o0_66 f_o0_95 x_0 x_1 x_2 x_3 x_4 x_5 x_6 x_7 x_8 x_9 hm => by exact absurd (show 0 + (v2.toInt - 0 - 1) * 125230 + 1 + (5 - v4.toInt) * 2 < (0 : Int) from hm) (by omega))⟩
  | succ n ih => exact ⟨(fun v1 v2 o0 k_o0 r_o0 i_v1 i_v2 f_o0_0 f_o0_38 f_o0_66 f_o0_95 x_0 x_1 x_2 x_3 hm => tM_chooseFew_4 ih v1 v2 o0 k_o0 r_o0 i_v1 i_v2 f_o0_0 f_o0_38 f_o0_66 f_o0_95 x_0 x_1 x_2 x_3 (by omega)), (fun v1 v2 o0 k_o0 r_o0 i_v1 i_v2 f_o0_0 f_o0_38 f_o0_66 f_o0_95 x_0 x_1 x_2 x_3 x_4 x_5 hm => tM_chooseFew_26 ih v1 v2 o0 k_o0 r_o0 i_v1 i_v2 f_o0_0 f_o0_38 f_o0_66 f_o0_95 x_0 x_1 x_2 x_3 x_4 x_5 (by omega)), (fun v1 v2 o0 k_o0 r_o0 i_v1 i_v2 f_o0_0 f_o0_38 f_o0_66 f_o0_95 x_0 x_1 x_2 x_3 x_4 hm => tM_chooseFew_77 ih v1 v2 o0 k_o0 r_o0 i_v1 i_v2 f_o0_0 f_o0_38 f_o0_66 f_o0_95 x_0 x_1 x_2 x_3 x_4 (by omega)), (fun v2 o0 k_o0 r_o0 i_v2 f_o0_0 f_o0_38 f_o0_66 f_o0_95 x_0 x_1 x_2 x_3 x_4 hm => tM_chooseFew_150 ih v2 o0 k_o0 r_o0 i_v2 f_o0_0 f_o0_38 f_o0_66 f_o0_95 x_0 x_1 x_2 x_3 x_4 (by omega)), (fun v2 v3 v4 o0 k_o0 r_o0 i_v2 i_v3 i_v4 f_o0_0 f_o0_38 f_o0_66 f_o0_95 x_0 x_1 x_2 x_3 x_4 x_5 x_6 x_7 x_8 x_9 hm => tM_chooseFew_179 ih v2 v3 v4 o0 k_o0 r_o0 i_v2 i_v3 i_v4 f_o0_0 f_o0_38 f_o0_66 f_o0_95 x_0 x_1 x_2 x_3 x_4 x_5 x_6 x_7 x_8 x_9 (by omega)), (fun v2 v3 v4 o0 k_o0 r_o0 i_v2 i_v3 i_v4 f_o0_0 f_o0_38 f_o0_66 f_o0_95 x_0 x_1 x_2 x_3 x_4 x_5 x_6 x_7 x_8 x_9 hm => tM_chooseFew_260 ih v2 v3 v4 o0 k_o0 r_o0 i_v2 i_v3 i_v4 f_o0_0 f_o0_38 f_o0_66 f_o0_95 x_0 x_1 x_2 x_3 x_4 x_5 x_6 x_7 x_8 x_9 (by omega))⟩
set_option maxHeartbeats 4000000 in
set_option maxRecDepth 100000 in
theorem sM_chooseFew (o0 : cf_O) (k_o0 : okO I_M o0) (f_o0_0 : (0 : Int) ≤ (o0.1 0).toInt ∧ (o0.1 0).toInt ≤ 2) (f_o0_38 : (1 : Int) ≤ (o0.1 38).toInt ∧ (o0.1 38).toInt ≤ 1) (f_o0_66 : (1 : Int) ≤ (o0.1 66).toInt ∧ (o0.1 66).toInt ≤ 1) (f_o0_95 : (0 : Int) ≤ (o0.1 95).toInt ∧ (o0.1 95).toInt ≤ 0) (x_0 : Sa (o0.1 43).toInt ((o0.1 39).toInt + 1) (o0.2.1 57) (o0.2.1 59) (o0.2.1 58)) (x_1 : Dp (o0.1 43).toInt ((o0.1 39).toInt + 1) (o0.2.1 57) (o0.2.1 59) (o0.2.1 58) (o0.2.1 62)) (x_2 : No (o0.1 40).toInt ((o0.1 39).toInt + 1 + (o0.1 43).toInt) (o0.2.1 47)) : tt (fM_chooseFew o0) (QM_chooseFew o0) := by
  have H := hM_chooseFew o0 cfFU
  have hm : (26048293 : Int) ≤ (cfFU : Nat) := by decide
  have r_o0 : Fr (fr_M [73] [63, 67, 72, 74] []) o0 o0 := fr_rfl
  unfold fM_chooseFew fM_chooseFew_0
  have g_o0_39 : (0 : Int) ≤ (o0.1 39).toInt ∧ (o0.1 39).toInt ≤ 8 := k_o0.1 39
  have g_o0_40 : (0 : Int) ≤ (o0.1 40).toInt ∧ (o0.1 40).toInt ≤ 6 := k_o0.1 40
  have g_o0_43 : (0 : Int) ≤ (o0.1 43).toInt ∧ (o0.1 43).toInt ≤ 200 := k_o0.1 43
  have p1 : Fc 0 (o0.2.1 72) := by exact Fc_0 _
  exact H.1 _ _ _ k_o0 r_o0 (show (0 : Int) ≤ (0 : Int32).toInt ∧ (0 : Int32).toInt ≤ 0 by decide) (iv_w (a := 0) (b := 210) (by decide) (by decide) (show (0 : Int) ≤ (0 : Int32).toInt ∧ (0 : Int32).toInt ≤ 0 by decide)) f_o0_0 f_o0_38 f_o0_66 f_o0_95 x_0 x_1 x_2 p1 (show 26047870 + (210 - 0) * 2 < ((cfFU : Nat) : Int) by omega)
def QM_again (o0 : cf_O) (r : (cf_O)) : Prop := (okO I_M r) ∧ (Fr (fr_M [36, 73] [57, 58, 59, 60, 61, 62, 63, 67, 72, 74] []) o0 r) ∧ (Ch (r.1 64) (r.1 73) (r.1 39) (r.1 43) (r.2.1 74)) ∧ (Lmd (r.1 64).toInt (r.1 65).toInt) ∧ (Cn (r.2.1 59) (r.2.1 58)) ∧ (Gx ((r.1 39).toInt + 1) (r.1 43).toInt (r.2.1 44) (r.2.1 45)) ∧ (No (r.1 40).toInt ((r.1 39).toInt + 1 + (r.1 43).toInt) (r.2.1 47)) ∧ (Hc (r.1 64).toInt ((r.1 39).toInt + 1) (r.1 43).toInt (r.1 65).toInt (r.2.1 44) (r.2.1 45)) ∧ True
set_option maxHeartbeats 4000000 in
set_option maxRecDepth 100000 in
theorem sM_again (o0 : cf_O) (k_o0 : okO I_M o0) (f_o0_0 : (0 : Int) ≤ (o0.1 0).toInt ∧ (o0.1 0).toInt ≤ 2) (f_o0_38 : (1 : Int) ≤ (o0.1 38).toInt ∧ (o0.1 38).toInt ≤ 1) (f_o0_95 : (0 : Int) ≤ (o0.1 95).toInt ∧ (o0.1 95).toInt ≤ 0) (x_0 : Ch (o0.1 64) (o0.1 73) (o0.1 39) (o0.1 43) (o0.2.1 74)) (x_1 : Lmd (o0.1 64).toInt (o0.1 65).toInt) (x_2 : Cn (o0.2.1 59) (o0.2.1 58)) (x_3 : Gx ((o0.1 39).toInt + 1) (o0.1 43).toInt (o0.2.1 44) (o0.2.1 45)) (x_4 : No (o0.1 40).toInt ((o0.1 39).toInt + 1 + (o0.1 43).toInt) (o0.2.1 47)) (x_5 : Hc (o0.1 64).toInt ((o0.1 39).toInt + 1) (o0.1 43).toInt (o0.1 65).toInt (o0.2.1 44) (o0.2.1 45)) : tt (fM_again o0) (QM_again o0) := by
  have r_o0 : Fr (fr_M [36, 73] [57, 58, 59, 60, 61, 62, 63, 67, 72, 74] []) o0 o0 := fr_rfl
  unfold fM_again fM_again_0
  have g_o0_39 : (0 : Int) ≤ (o0.1 39).toInt ∧ (o0.1 39).toInt ≤ 8 := k_o0.1 39
  have g_o0_43 : (0 : Int) ≤ (o0.1 43).toInt ∧ (o0.1 43).toInt ≤ 200 := k_o0.1 43
  have g_o0_64 : (0 : Int) ≤ (o0.1 64).toInt ∧ (o0.1 64).toInt ≤ 1 := k_o0.1 64
  have g_o0_65 : (0 : Int) ≤ (o0.1 65).toInt ∧ (o0.1 65).toInt ≤ 5 := k_o0.1 65
  have t1 := lmd_e x_1
  refine tt_if (fun c2 => ?_) (fun c2 => ?_)
  · have wc2 : (o0.1 64).toInt = (0 : Int) := c_eq c2
    have i3 : (0 : Int) ≤ (o0.1 64).toInt ∧ (o0.1 64).toInt ≤ 0 := nr_eql c2 (k_o0.1 64) (show (0 : Int) ≤ (0 : Int32).toInt ∧ (0 : Int32).toInt ≤ 0 by decide) (by decide) (by decide)
    try unfold fM_again_27
    exact tt_some ⟨k_o0, r_o0, x_0, x_1, x_2, x_3, x_4, x_5, trivial⟩
  · have wc2 : ¬ (o0.1 64).toInt = (0 : Int) := c_ne c2
    have i4 : (1 : Int) ≤ (o0.1 64).toInt ∧ (o0.1 64).toInt ≤ 1 := nr_nela c2 (k_o0.1 64) (show (0 : Int) ≤ (0 : Int32).toInt ∧ (0 : Int32).toInt ≤ 0 by decide) (by decide) (by decide)
    refine tt_b (sM_cutAll _ _ k_o0 (k_o0.1 65) f_o0_0 f_o0_38 f_o0_95 x_2 (show 1 ≤ (o0.1 65).toInt by omega) x_3 (show 2 ≤ (o0.1 65).toInt by omega)) (fun q5 hq5 => ?_)
    obtain ⟨i_q5, k_q5_2, n_q5_2, zq5_0, zq5_1, zq5_2, zq5_3, zq5_4, -⟩ := hq5
    have r_q5_2 := fr_tr r_o0 n_q5_2 rfl rfl rfl
    have f_q5_2_0 : (0 : Int) ≤ (q5.2.1 0).toInt ∧ (q5.2.1 0).toInt ≤ 2 := by rw [n_q5_2.1 0 rfl]; exact f_o0_0
    have f_q5_2_64 : (1 : Int) ≤ (q5.2.1 64).toInt ∧ (q5.2.1 64).toInt ≤ 1 := by rw [n_q5_2.1 64 rfl]; exact i4
    have f_q5_2_38 : (1 : Int) ≤ (q5.2.1 38).toInt ∧ (q5.2.1 38).toInt ≤ 1 := by rw [n_q5_2.1 38 rfl]; exact f_o0_38
    have f_q5_2_95 : (0 : Int) ≤ (q5.2.1 95).toInt ∧ (q5.2.1 95).toInt ≤ 0 := by rw [n_q5_2.1 95 rfl]; exact f_o0_95
    have e_q5_2_39 : (q5.2.1 39).toInt = (o0.1 39).toInt := congrArg Int32.toInt (n_q5_2.1 39 rfl)
    have g_q5_2_39 : (0 : Int) ≤ (q5.2.1 39).toInt ∧ (q5.2.1 39).toInt ≤ 8 := k_q5_2.1 39
    have e_q5_2_43 : (q5.2.1 43).toInt = (o0.1 43).toInt := congrArg Int32.toInt (n_q5_2.1 43 rfl)
    have g_q5_2_43 : (0 : Int) ≤ (q5.2.1 43).toInt ∧ (q5.2.1 43).toInt ≤ 200 := k_q5_2.1 43
    have e_q5_2_64 : (q5.2.1 64).toInt = (o0.1 64).toInt := congrArg Int32.toInt (n_q5_2.1 64 rfl)
    have e_q5_2_65 : (q5.2.1 65).toInt = (o0.1 65).toInt := congrArg Int32.toInt (n_q5_2.1 65 rfl)
    have g_q5_2_65 : (0 : Int) ≤ (q5.2.1 65).toInt ∧ (q5.2.1 65).toInt ≤ 5 := k_q5_2.1 65
    have u6 : Ch (q5.2.1 64) (q5.2.1 73) (q5.2.1 39) (q5.2.1 43) (q5.2.2.1 74) := by rw [n_q5_2.1 39 rfl, n_q5_2.1 43 rfl, n_q5_2.1 64 rfl, n_q5_2.1 73 rfl, n_q5_2.2.1 74 rfl]; exact x_0
    have u7 : Lmd (q5.2.1 64).toInt (q5.2.1 65).toInt := by rw [n_q5_2.1 64 rfl, n_q5_2.1 65 rfl]; exact x_1
    have u8 : Gx ((q5.2.1 39).toInt + 1) (q5.2.1 43).toInt (q5.2.2.1 44) (q5.2.2.1 45) := by rw [n_q5_2.1 39 rfl, n_q5_2.1 43 rfl, n_q5_2.2.1 44 rfl, n_q5_2.2.1 45 rfl]; exact x_3
    have u9 : No (q5.2.1 40).toInt ((q5.2.1 39).toInt + 1 + (q5.2.1 43).toInt) (q5.2.2.1 47) := by rw [n_q5_2.1 39 rfl, n_q5_2.1 40 rfl, n_q5_2.1 43 rfl, n_q5_2.2.1 47 rfl]; exact x_4
    have u10 : Hc (q5.2.1 64).toInt ((q5.2.1 39).toInt + 1) (q5.2.1 43).toInt (q5.2.1 65).toInt (q5.2.2.1 44) (q5.2.2.1 45) := by rw [n_q5_2.1 39 rfl, n_q5_2.1 43 rfl, n_q5_2.1 64 rfl, n_q5_2.1 65 rfl, n_q5_2.2.1 44 rfl, n_q5_2.2.1 45 rfl]; exact x_5
    have t11 := hs_ne (show Hs q5.1.toInt _ _ _ _ _ by assumption) (show Hc (q5.2.1 64).toInt _ _ _ _ _ by assumption) (by omega) (by omega)
    refine tt_if (fun c12 => ?_) (fun c12 => ?_)
    · have wc12 : (q5.2.1 66).toInt = (0 : Int) := c_eq c12
      have i13 : (0 : Int) ≤ (q5.2.1 66).toInt ∧ (q5.2.1 66).toInt ≤ 0 := nr_eql c12 (k_q5_2.1 66) (show (0 : Int) ≤ (0 : Int32).toInt ∧ (0 : Int32).toInt ≤ 0 by decide) (by decide) (by decide)
      try unfold fM_again_27
      exact tt_some ⟨k_q5_2, r_q5_2, u6, u7, zq5_0, u8, u9, u10, trivial⟩
    · have wc12 : ¬ (q5.2.1 66).toInt = (0 : Int) := c_ne c12
      have i14 : (1 : Int) ≤ (q5.2.1 66).toInt ∧ (q5.2.1 66).toInt ≤ 1 := nr_nela c12 (k_q5_2.1 66) (show (0 : Int) ≤ (0 : Int32).toInt ∧ (0 : Int32).toInt ≤ 0 by decide) (by decide) (by decide)
      have p15 : Sa (q5.2.1 43).toInt ((q5.2.1 39).toInt + 1) (q5.2.2.1 57) (q5.2.2.1 59) (q5.2.2.1 58) := by exact ((show Fz _ _ _ _ _ _ _ _ _ by assumption) (by omega)).2.1
      have p16 : Dp (q5.2.1 43).toInt ((q5.2.1 39).toInt + 1) (q5.2.2.1 57) (q5.2.2.1 59) (q5.2.2.1 58) (q5.2.2.1 62) := by exact ((show Fz _ _ _ _ _ _ _ _ _ by assumption) (by omega)).2.2.2
      refine tt_b (sM_chooseFew _ k_q5_2 f_q5_2_0 f_q5_2_38 i14 f_q5_2_95 p15 p16 u9) (fun q17 hq17 => ?_)
      obtain ⟨k_q17, n_q17, zq17_0, -⟩ := hq17
      have r_q17 := fr_tr r_q5_2 n_q17 rfl rfl rfl
      have f_q17_0 : (0 : Int) ≤ (q17.1 0).toInt ∧ (q17.1 0).toInt ≤ 2 := by rw [n_q17.1 0 rfl]; exact f_q5_2_0
      have f_q17_64 : (1 : Int) ≤ (q17.1 64).toInt ∧ (q17.1 64).toInt ≤ 1 := by rw [n_q17.1 64 rfl]; exact f_q5_2_64
      have f_q17_66 : (1 : Int) ≤ (q17.1 66).toInt ∧ (q17.1 66).toInt ≤ 1 := by rw [n_q17.1 66 rfl]; exact i14
      have f_q17_38 : (1 : Int) ≤ (q17.1 38).toInt ∧ (q17.1 38).toInt ≤ 1 := by rw [n_q17.1 38 rfl]; exact f_q5_2_38
      have f_q17_95 : (0 : Int) ≤ (q17.1 95).toInt ∧ (q17.1 95).toInt ≤ 0 := by rw [n_q17.1 95 rfl]; exact f_q5_2_95
      have e_q17_39 : (q17.1 39).toInt = (q5.2.1 39).toInt := congrArg Int32.toInt (n_q17.1 39 rfl)
      have g_q17_39 : (0 : Int) ≤ (q17.1 39).toInt ∧ (q17.1 39).toInt ≤ 8 := k_q17.1 39
      have e_q17_43 : (q17.1 43).toInt = (q5.2.1 43).toInt := congrArg Int32.toInt (n_q17.1 43 rfl)
      have g_q17_43 : (0 : Int) ≤ (q17.1 43).toInt ∧ (q17.1 43).toInt ≤ 200 := k_q17.1 43
      have e_q17_64 : (q17.1 64).toInt = (q5.2.1 64).toInt := congrArg Int32.toInt (n_q17.1 64 rfl)
      have e_q17_65 : (q17.1 65).toInt = (q5.2.1 65).toInt := congrArg Int32.toInt (n_q17.1 65 rfl)
      have g_q17_65 : (0 : Int) ≤ (q17.1 65).toInt ∧ (q17.1 65).toInt ≤ 5 := k_q17.1 65
      have u18 : Cn (q17.2.1 59) (q17.2.1 58) := by rw [n_q17.2.1 58 rfl, n_q17.2.1 59 rfl]; exact zq5_0
      have u19 : Hs q5.1.toInt ((q17.1 39).toInt + 1) (q17.1 43).toInt (o0.1 65).toInt (q17.2.1 44) (q17.2.1 45) := by rw [n_q17.1 39 rfl, n_q17.1 43 rfl, n_q17.2.1 44 rfl, n_q17.2.1 45 rfl]; exact zq5_2
      have u20 : Fz q5.1.toInt ((q17.1 39).toInt + 1) (q17.1 43).toInt (q17.2.1 44) (q17.2.1 45) (q17.2.1 57) (q17.2.1 59) (q17.2.1 58) (q17.2.1 62) := by rw [n_q17.1 39 rfl, n_q17.1 43 rfl, n_q17.2.1 44 rfl, n_q17.2.1 45 rfl, n_q17.2.1 57 rfl, n_q17.2.1 58 rfl, n_q17.2.1 59 rfl, n_q17.2.1 62 rfl]; exact zq5_3
      have u21 : Lmd (q17.1 64).toInt (q17.1 65).toInt := by rw [n_q17.1 64 rfl, n_q17.1 65 rfl]; exact u7
      have u22 : Gx ((q17.1 39).toInt + 1) (q17.1 43).toInt (q17.2.1 44) (q17.2.1 45) := by rw [n_q17.1 39 rfl, n_q17.1 43 rfl, n_q17.2.1 44 rfl, n_q17.2.1 45 rfl]; exact u8
      have u23 : No (q17.1 40).toInt ((q17.1 39).toInt + 1 + (q17.1 43).toInt) (q17.2.1 47) := by rw [n_q17.1 39 rfl, n_q17.1 40 rfl, n_q17.1 43 rfl, n_q17.2.1 47 rfl]; exact u9
      have u24 : Hc (q17.1 64).toInt ((q17.1 39).toInt + 1) (q17.1 43).toInt (q17.1 65).toInt (q17.2.1 44) (q17.2.1 45) := by rw [n_q17.1 39 rfl, n_q17.1 43 rfl, n_q17.1 64 rfl, n_q17.1 65 rfl, n_q17.2.1 44 rfl, n_q17.2.1 45 rfl]; exact u10
      try unfold fM_again_27
      have p25 : Ch (q17.1 64) (q17.1 73) (q17.1 39) (q17.1 43) (q17.2.1 74) := by exact fun _ => (by assumption)
      exact tt_some ⟨k_q17, r_q17, p25, u21, u18, u22, u23, u24, trivial⟩
def QM_emit (v1 : Int64) (o0 : cf_O) (r : (cf_O)) : Prop := (okO I_M r) ∧ (Fr (fr_M [76, 96] [77, 97] []) o0 r) ∧ ((r.1 76).toInt ≤ (o0.1 76).toInt + 1) ∧ ((r.1 96).toInt ≤ (o0.1 96).toInt + 1) ∧ True
set_option maxHeartbeats 4000000 in
set_option maxRecDepth 100000 in
theorem sM_emit (v1 : Int64) (o0 : cf_O) (k_o0 : okO I_M o0) (f_o0_0 : (0 : Int) ≤ (o0.1 0).toInt ∧ (o0.1 0).toInt ≤ 0) (f_o0_38 : (1 : Int) ≤ (o0.1 38).toInt ∧ (o0.1 38).toInt ≤ 1) (x_0 : (o0.1 95).toInt = 1 ∨ (o0.1 76).toInt ≤ 90000 - 1) (x_1 : (o0.1 95).toInt = 0 ∨ (o0.1 96).toInt ≤ 24000 - 1) : tt (fM_emit v1 o0) (QM_emit v1 o0) := by
  have r_o0 : Fr (fr_M [76, 96] [77, 97] []) o0 o0 := fr_rfl
  unfold fM_emit fM_emit_0
  have g_o0_76 : (0 : Int) ≤ (o0.1 76).toInt ∧ (o0.1 76).toInt ≤ 90000 := k_o0.1 76
  have g_o0_93 : (0 : Int) ≤ (o0.1 93).toInt ∧ (o0.1 93).toInt ≤ 420 := k_o0.1 93
  have g_o0_95 : (0 : Int) ≤ (o0.1 95).toInt ∧ (o0.1 95).toInt ≤ 1 := k_o0.1 95
  have g_o0_96 : (0 : Int) ≤ (o0.1 96).toInt ∧ (o0.1 96).toInt ≤ 24000 := k_o0.1 96
  refine tt_if (fun c1 => ?_) (fun c1 => ?_)
  · have wc1 : (o0.1 95).toInt = (0 : Int) := c_eq c1
    have i2 : (0 : Int) ≤ (o0.1 95).toInt ∧ (o0.1 95).toInt ≤ 0 := nr_eql c1 (k_o0.1 95) (show (0 : Int) ≤ (0 : Int32).toInt ∧ (0 : Int32).toInt ≤ 0 by decide) (by decide) (by decide)
    refine tt_kv (P := fun z => ((-2147483648) : Int) ≤ z.toInt ∧ z.toInt ≤ 2147483647) (iv_top _) (fun x3 i4 => ?_)
    refine tt_n (ix_rel (x := (o0.1 76)) (by omega) (by omega)) ?_
    have i5 : (0 : Int) ≤ (o0.1 76).toInt ∧ (o0.1 76).toInt ≤ 89999 := (by omega)
    refine tt_ko ?_
    have k6 := ok_xp (k := 77) (i := (o0.1 76).toNatClampNeg) (v := x3) k_o0 i4
    have r7 := fr_xp (k := 77) (i := (o0.1 76).toNatClampNeg) (v := x3) r_o0 rfl
    refine tt_kv (P := fun z => ((1 : Int) ≤ z.toInt ∧ z.toInt ≤ 90000) ∧ z.toInt = (o0.1 76).toInt + 1) ⟨iv_add i5 (show (1 : Int) ≤ (1 : Int32).toInt ∧ (1 : Int32).toInt ≤ 1 by decide) (by decide) (by decide) (by decide) (by decide), iq_add i5 (show (1 : Int) ≤ (1 : Int32).toInt ∧ (1 : Int32).toInt ≤ 1 by decide) (by decide) (by decide)⟩ (fun x8 qi9 => ?_)
    obtain ⟨i9, ei9⟩ := qi9
    refine tt_ko ?_
    have k10 := ok_fp (k := 76) (v := x8) k6 (iv_w (a := 0) (b := 90000) (by decide) (by decide) i9)
    have r11 := fr_fp (k := 76) (v := x8) r7 rfl
    exact tt_some ⟨k10, r11, (show x8.toInt ≤ (o0.1 76).toInt + 1 by omega), (show (o0.1 96).toInt ≤ (o0.1 96).toInt + 1 by omega), trivial⟩
  · have wc1 : ¬ (o0.1 95).toInt = (0 : Int) := c_ne c1
    have i12 : (1 : Int) ≤ (o0.1 95).toInt ∧ (o0.1 95).toInt ≤ 1 := nr_nela c1 (k_o0.1 95) (show (0 : Int) ≤ (0 : Int32).toInt ∧ (0 : Int32).toInt ≤ 0 by decide) (by decide) (by decide)
    refine tt_kv (P := fun z => ((-2147483648) : Int) ≤ z.toInt ∧ z.toInt ≤ 2147483647) (iv_top _) (fun x13 i14 => ?_)
    refine tt_n (ix_rel (x := (o0.1 96)) (by omega) (by omega)) ?_
    have i15 : (0 : Int) ≤ (o0.1 96).toInt ∧ (o0.1 96).toInt ≤ 23999 := (by omega)
    refine tt_ko ?_
    have k16 := ok_xp (k := 97) (i := (o0.1 96).toNatClampNeg) (v := x13) k_o0 i14
    have r17 := fr_xp (k := 97) (i := (o0.1 96).toNatClampNeg) (v := x13) r_o0 rfl
    refine tt_kv (P := fun z => ((1 : Int) ≤ z.toInt ∧ z.toInt ≤ 24000) ∧ z.toInt = (o0.1 96).toInt + 1) ⟨iv_add i15 (show (1 : Int) ≤ (1 : Int32).toInt ∧ (1 : Int32).toInt ≤ 1 by decide) (by decide) (by decide) (by decide) (by decide), iq_add i15 (show (1 : Int) ≤ (1 : Int32).toInt ∧ (1 : Int32).toInt ≤ 1 by decide) (by decide) (by decide)⟩ (fun x18 qi19 => ?_)
    obtain ⟨i19, ei19⟩ := qi19
    refine tt_ko ?_
    have k20 := ok_fp (k := 96) (v := x18) k16 (iv_w (a := 0) (b := 24000) (by decide) (by decide) i19)
    have r21 := fr_fp (k := 96) (v := x18) r17 rfl
    exact tt_some ⟨k20, r21, (show (o0.1 76).toInt ≤ (o0.1 76).toInt + 1 by omega), (show x18.toInt ≤ (o0.1 96).toInt + 1 by omega), trivial⟩
def QM_word (v1 : Int32) (o0 : cf_O) (r : (cf_O)) : Prop := (okO I_M r) ∧ (Fr (fr_M [76, 96] [77, 97] []) o0 r) ∧ ((r.1 76).toInt ≤ (o0.1 76).toInt + 14) ∧ ((r.1 96).toInt ≤ (o0.1 96).toInt + 14) ∧ True
def HM_word (yv1 : Int32) (yo0 : cf_O) (n : Nat) : Prop := (∀ (v2 : Int64) (o0 : cf_O), (okO I_M o0) → (Fr (fr_M [76, 96] [77, 97] []) yo0 o0) → ((0 : Int) ≤ (o0.1 0).toInt ∧ (o0.1 0).toInt ≤ 0) → ((1 : Int) ≤ (o0.1 38).toInt ∧ (o0.1 38).toInt ≤ 1) → ((o0.1 76).toInt + lg5 v2 ≤ (yo0.1 76).toInt + 14) → ((o0.1 96).toInt + lg5 v2 ≤ (yo0.1 96).toInt + 14) → ((o0.1 95).toInt = 1 ∨ (yo0.1 76).toInt ≤ 90000 - 14) → ((o0.1 95).toInt = 0 ∨ (yo0.1 96).toInt ≤ 24000 - 14) → lg5 v2 < (n : Int) → tt (gM_word n 0 v2 o0) (QM_word yv1 yo0))
set_option maxHeartbeats 4000000 in
set_option maxRecDepth 100000 in
theorem tM_word_14 {yv1 : Int32} {yo0 : cf_O} {n : Nat} (H : HM_word yv1 yo0 n) (v2 : Int64) (o0 : cf_O) (k_o0 : okO I_M o0) (r_o0 : Fr (fr_M [76, 96] [77, 97] []) yo0 o0) (f_o0_0 : (0 : Int) ≤ (o0.1 0).toInt ∧ (o0.1 0).toInt ≤ 0) (f_o0_38 : (1 : Int) ≤ (o0.1 38).toInt ∧ (o0.1 38).toInt ≤ 1) (x_0 : (o0.1 76).toInt + lg5 v2 ≤ (yo0.1 76).toInt + 14) (x_1 : (o0.1 96).toInt + lg5 v2 ≤ (yo0.1 96).toInt + 14) (x_2 : (o0.1 95).toInt = 1 ∨ (yo0.1 76).toInt ≤ 90000 - 14) (x_3 : (o0.1 95).toInt = 0 ∨ (yo0.1 96).toInt ≤ 24000 - 14) (hm : lg5 v2 ≤ (n : Int)) : tt (fM_word_14 (gM_word n) v2 o0) (QM_word yv1 yo0) := by
  unfold fM_word_14
  have g_o0_76 : (0 : Int) ≤ (o0.1 76).toInt ∧ (o0.1 76).toInt ≤ 90000 := k_o0.1 76
  have g_o0_93 : (0 : Int) ≤ (o0.1 93).toInt ∧ (o0.1 93).toInt ≤ 420 := k_o0.1 93
  have ey_o0_93 : (o0.1 93).toInt = (yo0.1 93).toInt := congrArg Int32.toInt (r_o0.1 93 rfl)
  have g_o0_95 : (0 : Int) ≤ (o0.1 95).toInt ∧ (o0.1 95).toInt ≤ 1 := k_o0.1 95
  have ey_o0_95 : (o0.1 95).toInt = (yo0.1 95).toInt := congrArg Int32.toInt (r_o0.1 95 rfl)
  have g_o0_96 : (0 : Int) ≤ (o0.1 96).toInt ∧ (o0.1 96).toInt ≤ 24000 := k_o0.1 96
  have t1 := lg5_0 v2
  have t2 := lg5_13 v2
  refine tt_kv (P := fun z => (((-2147483648) : Int) ≤ z.toInt ∧ z.toInt ≤ 2147483647) ∧ z = (lg_cmp v2 (0 : Int64))) ⟨iv_top _, rfl⟩ (fun x3 qi4 => ?_)
  obtain ⟨i4, ax3⟩ := qi4
  have t5 := lg5_p ax3
  refine tt_if (fun c6 => ?_) (fun c6 => ?_)
  · have wc6 : x3.toInt ≤ (0 : Int) := c_le c6
    have i7 : ((-2147483648) : Int) ≤ x3.toInt ∧ x3.toInt ≤ 0 := nr_lel c6 i4 (show (0 : Int) ≤ (0 : Int32).toInt ∧ (0 : Int32).toInt ≤ 0 by decide) (by decide) (by decide)
    exact tt_some ⟨k_o0, r_o0, (show (o0.1 76).toInt ≤ (yo0.1 76).toInt + 14 by omega), (show (o0.1 96).toInt ≤ (yo0.1 96).toInt + 14 by omega), trivial⟩
  · have wc6 : (0 : Int) < x3.toInt := c_nle c6
    have i8 : (1 : Int) ≤ x3.toInt ∧ x3.toInt ≤ 2147483647 := nr_nler c6 (show (0 : Int) ≤ (0 : Int32).toInt ∧ (0 : Int32).toInt ≤ 0 by decide) i4 (by decide) (by decide)
    refine tt_klr (fun x9 ax9 => ?_)
    refine tt_klr (fun x10 ax10 => ?_)
    refine tt_b (sM_emit _ _ k_o0 f_o0_0 f_o0_38 (show (o0.1 95).toInt = 1 ∨ (o0.1 76).toInt ≤ 90000 - 1 by omega) (show (o0.1 95).toInt = 0 ∨ (o0.1 96).toInt ≤ 24000 - 1 by omega)) (fun q11 hq11 => ?_)
    obtain ⟨k_q11, n_q11, zq11_0, zq11_1, -⟩ := hq11
    have r_q11 := fr_tr r_o0 n_q11 rfl rfl rfl
    have f_q11_0 : (0 : Int) ≤ (q11.1 0).toInt ∧ (q11.1 0).toInt ≤ 0 := by rw [n_q11.1 0 rfl]; exact f_o0_0
    have f_q11_38 : (1 : Int) ≤ (q11.1 38).toInt ∧ (q11.1 38).toInt ≤ 1 := by rw [n_q11.1 38 rfl]; exact f_o0_38
    have g_q11_76 : (0 : Int) ≤ (q11.1 76).toInt ∧ (q11.1 76).toInt ≤ 90000 := k_q11.1 76
    have e_q11_93 : (q11.1 93).toInt = (o0.1 93).toInt := congrArg Int32.toInt (n_q11.1 93 rfl)
    have g_q11_93 : (0 : Int) ≤ (q11.1 93).toInt ∧ (q11.1 93).toInt ≤ 420 := k_q11.1 93
    have e_q11_95 : (q11.1 95).toInt = (o0.1 95).toInt := congrArg Int32.toInt (n_q11.1 95 rfl)
    have g_q11_95 : (0 : Int) ≤ (q11.1 95).toInt ∧ (q11.1 95).toInt ≤ 1 := k_q11.1 95
    have g_q11_96 : (0 : Int) ≤ (q11.1 96).toInt ∧ (q11.1 96).toInt ≤ 24000 := k_q11.1 96
    have zq11_0 : (q11.1 76).toInt ≤ (o0.1 76).toInt + 1 := zq11_0
    have zq11_1 : (q11.1 96).toInt ≤ (o0.1 96).toInt + 1 := zq11_1
    refine tt_klr (fun x12 ax12 => ?_)
    have t13 := lg5_w ax3 ax12
    have t14 := lg5_0 x12
    exact H _ _ k_q11 r_q11 f_q11_0 f_q11_38 (show (q11.1 76).toInt + lg5 x12 ≤ (yo0.1 76).toInt + 14 by omega) (show (q11.1 96).toInt + lg5 x12 ≤ (yo0.1 96).toInt + 14 by omega) (show (q11.1 95).toInt = 1 ∨ (yo0.1 76).toInt ≤ 90000 - 14 by omega) (show (q11.1 95).toInt = 0 ∨ (yo0.1 96).toInt ≤ 24000 - 14 by omega) (show lg5 x12 < (n : Int) by omega)
set_option maxHeartbeats 4000000 in
set_option maxRecDepth 100000 in
theorem hM_word (yv1 : Int32) (yo0 : cf_O) : ∀ n, HM_word yv1 yo0 n := by
  intro n
  induction n with
  | zero => exact (fun v2 o0 k_o0 r_o0 f_o0_0 f_o0_38 x_0 x_1 x_2 x_3 hm => by exact absurd (show lg5 v2 < (0 : Int) from hm) (by have zz := lg5_0 v2; omega))
  | succ n ih => exact (fun v2 o0 k_o0 r_o0 f_o0_0 f_o0_38 x_0 x_1 x_2 x_3 hm => tM_word_14 ih v2 o0 k_o0 r_o0 f_o0_0 f_o0_38 x_0 x_1 x_2 x_3 (by omega))
set_option maxHeartbeats 4000000 in
set_option maxRecDepth 100000 in
theorem sM_word (v1 : Int32) (o0 : cf_O) (k_o0 : okO I_M o0) (i_v1 : (0 : Int) ≤ v1.toInt ∧ v1.toInt ≤ 3) (f_o0_0 : (0 : Int) ≤ (o0.1 0).toInt ∧ (o0.1 0).toInt ≤ 0) (f_o0_38 : (1 : Int) ≤ (o0.1 38).toInt ∧ (o0.1 38).toInt ≤ 1) (x_0 : (o0.1 95).toInt = 1 ∨ (o0.1 76).toInt ≤ 90000 - 14) (x_1 : (o0.1 95).toInt = 0 ∨ (o0.1 96).toInt ≤ 24000 - 14) : tt (fM_word v1 o0) (QM_word v1 o0) := by
  have H := hM_word v1 o0 cfFU
  have hm : (20 : Int) ≤ (cfFU : Nat) := by decide
  have r_o0 : Fr (fr_M [76, 96] [77, 97] []) o0 o0 := fr_rfl
  unfold fM_word fM_word_0
  have g_o0_76 : (0 : Int) ≤ (o0.1 76).toInt ∧ (o0.1 76).toInt ≤ 90000 := k_o0.1 76
  have g_o0_93 : (0 : Int) ≤ (o0.1 93).toInt ∧ (o0.1 93).toInt ≤ 420 := k_o0.1 93
  have g_o0_95 : (0 : Int) ≤ (o0.1 95).toInt ∧ (o0.1 95).toInt ≤ 1 := k_o0.1 95
  have g_o0_96 : (0 : Int) ≤ (o0.1 96).toInt ∧ (o0.1 96).toInt ≤ 24000 := k_o0.1 96
  refine tt_b (sM_emit _ _ k_o0 f_o0_0 f_o0_38 (show (o0.1 95).toInt = 1 ∨ (o0.1 76).toInt ≤ 90000 - 1 by omega) (show (o0.1 95).toInt = 0 ∨ (o0.1 96).toInt ≤ 24000 - 1 by omega)) (fun q1 hq1 => ?_)
  obtain ⟨k_q1, n_q1, zq1_0, zq1_1, -⟩ := hq1
  have r_q1 := fr_tr r_o0 n_q1 rfl rfl rfl
  have f_q1_0 : (0 : Int) ≤ (q1.1 0).toInt ∧ (q1.1 0).toInt ≤ 0 := by rw [n_q1.1 0 rfl]; exact f_o0_0
  have f_q1_38 : (1 : Int) ≤ (q1.1 38).toInt ∧ (q1.1 38).toInt ≤ 1 := by rw [n_q1.1 38 rfl]; exact f_o0_38
  have g_q1_76 : (0 : Int) ≤ (q1.1 76).toInt ∧ (q1.1 76).toInt ≤ 90000 := k_q1.1 76
  have e_q1_93 : (q1.1 93).toInt = (o0.1 93).toInt := congrArg Int32.toInt (n_q1.1 93 rfl)
  have g_q1_93 : (0 : Int) ≤ (q1.1 93).toInt ∧ (q1.1 93).toInt ≤ 420 := k_q1.1 93
  have e_q1_95 : (q1.1 95).toInt = (o0.1 95).toInt := congrArg Int32.toInt (n_q1.1 95 rfl)
  have g_q1_95 : (0 : Int) ≤ (q1.1 95).toInt ∧ (q1.1 95).toInt ≤ 1 := k_q1.1 95
  have g_q1_96 : (0 : Int) ≤ (q1.1 96).toInt ∧ (q1.1 96).toInt ≤ 24000 := k_q1.1 96
  have zq1_0 : (q1.1 76).toInt ≤ (o0.1 76).toInt + 1 := zq1_0
  have zq1_1 : (q1.1 96).toInt ≤ (o0.1 96).toInt + 1 := zq1_1
  refine tt_n (ix_ok i_v1 (by decide) (by decide)) ?_
  refine tt_klr (fun x2 ax2 => ?_)
  have t3 := lg5_0 x2
  have t4 := lg5_13 x2
  exact H _ _ k_q1 r_q1 f_q1_0 f_q1_38 (show (q1.1 76).toInt + lg5 x2 ≤ (o0.1 76).toInt + 14 by omega) (show (q1.1 96).toInt + lg5 x2 ≤ (o0.1 96).toInt + 14 by omega) (show (q1.1 95).toInt = 1 ∨ (o0.1 76).toInt ≤ 90000 - 14 by omega) (show (q1.1 95).toInt = 0 ∨ (o0.1 96).toInt ≤ 24000 - 14 by omega) (show lg5 x2 < ((cfFU : Nat) : Int) by omega)
def QM_name_M41 (v2 : Int32) (o0 : cf_O) (r : (cf_O)) : Prop := (okO I_M r) ∧ (Fr (fr_M [76, 96] [77, 97] []) o0 r) ∧ ((r.1 76).toInt ≤ (o0.1 76).toInt + 9) ∧ ((r.1 96).toInt ≤ (o0.1 96).toInt + 9) ∧ True
def HM_name_M41 (yv2 : Int32) (yo0 : cf_O) (n : Nat) : Prop := (∀ (v2 : Int32) (v3 : Int32) (o0 : cf_O), (okO I_M o0) → (Fr (fr_M [76, 96] [77, 97] []) yo0 o0) → ((0 : Int) ≤ v2.toInt ∧ v2.toInt ≤ 7) → ((0 : Int) ≤ v3.toInt ∧ v3.toInt ≤ 8) → ((0 : Int) ≤ (o0.1 0).toInt ∧ (o0.1 0).toInt ≤ 0) → ((1 : Int) ≤ (o0.1 38).toInt ∧ (o0.1 38).toInt ≤ 1) → ((1 : Int) ≤ (o0.1 39).toInt ∧ (o0.1 39).toInt ≤ 8) → ((o0.1 76).toInt ≤ (yo0.1 76).toInt + 1 + v3.toInt) → ((o0.1 96).toInt ≤ (yo0.1 96).toInt + 1 + v3.toInt) → ((o0.1 95).toInt = 1 ∨ (yo0.1 76).toInt ≤ 90000 - 9) → ((o0.1 95).toInt = 0 ∨ (yo0.1 96).toInt ≤ 24000 - 9) → 0 + (8 - v3.toInt) * 2 < (n : Int) → tt (gM_name_M41 n 0 v2 v3 o0) (QM_name_M41 yv2 yo0))
set_option maxHeartbeats 4000000 in
set_option maxRecDepth 100000 in
theorem tM_name_M41_9 {yv2 : Int32} {yo0 : cf_O} {n : Nat} (H : HM_name_M41 yv2 yo0 n) (v2 : Int32) (v3 : Int32) (o0 : cf_O) (k_o0 : okO I_M o0) (r_o0 : Fr (fr_M [76, 96] [77, 97] []) yo0 o0) (i_v2 : (0 : Int) ≤ v2.toInt ∧ v2.toInt ≤ 7) (i_v3 : (0 : Int) ≤ v3.toInt ∧ v3.toInt ≤ 8) (f_o0_0 : (0 : Int) ≤ (o0.1 0).toInt ∧ (o0.1 0).toInt ≤ 0) (f_o0_38 : (1 : Int) ≤ (o0.1 38).toInt ∧ (o0.1 38).toInt ≤ 1) (f_o0_39 : (1 : Int) ≤ (o0.1 39).toInt ∧ (o0.1 39).toInt ≤ 8) (x_0 : (o0.1 76).toInt ≤ (yo0.1 76).toInt + 1 + v3.toInt) (x_1 : (o0.1 96).toInt ≤ (yo0.1 96).toInt + 1 + v3.toInt) (x_2 : (o0.1 95).toInt = 1 ∨ (yo0.1 76).toInt ≤ 90000 - 9) (x_3 : (o0.1 95).toInt = 0 ∨ (yo0.1 96).toInt ≤ 24000 - 9) (hm : 0 + (8 - v3.toInt) * 2 ≤ (n : Int)) : tt (fM_name_M41_9 (gM_name_M41 n) v2 v3 o0) (QM_name_M41 yv2 yo0) := by
  unfold fM_name_M41_9
  have g_o0_76 : (0 : Int) ≤ (o0.1 76).toInt ∧ (o0.1 76).toInt ≤ 90000 := k_o0.1 76
  have g_o0_93 : (0 : Int) ≤ (o0.1 93).toInt ∧ (o0.1 93).toInt ≤ 420 := k_o0.1 93
  have ey_o0_93 : (o0.1 93).toInt = (yo0.1 93).toInt := congrArg Int32.toInt (r_o0.1 93 rfl)
  have g_o0_95 : (0 : Int) ≤ (o0.1 95).toInt ∧ (o0.1 95).toInt ≤ 1 := k_o0.1 95
  have ey_o0_95 : (o0.1 95).toInt = (yo0.1 95).toInt := congrArg Int32.toInt (r_o0.1 95 rfl)
  have g_o0_96 : (0 : Int) ≤ (o0.1 96).toInt ∧ (o0.1 96).toInt ≤ 24000 := k_o0.1 96
  refine tt_if (fun c1 => ?_) (fun c1 => ?_)
  · have wc1 : (8 : Int) ≤ v3.toInt := c_le c1
    have i2 : (8 : Int) ≤ v3.toInt ∧ v3.toInt ≤ 8 := nr_ler c1 (show (8 : Int) ≤ (8 : Int32).toInt ∧ (8 : Int32).toInt ≤ 8 by decide) i_v3 (by decide) (by decide)
    exact tt_some ⟨k_o0, r_o0, (show (o0.1 76).toInt ≤ (yo0.1 76).toInt + 9 by omega), (show (o0.1 96).toInt ≤ (yo0.1 96).toInt + 9 by omega), trivial⟩
  · have wc1 : v3.toInt < (8 : Int) := c_nle c1
    have i3 : (0 : Int) ≤ v3.toInt ∧ v3.toInt ≤ 7 := nr_nlel c1 i_v3 (show (8 : Int) ≤ (8 : Int32).toInt ∧ (8 : Int32).toInt ≤ 8 by decide) (by decide) (by decide)
    refine tt_kv (P := fun z => ((0 : Int) ≤ z.toInt ∧ z.toInt ≤ 56) ∧ z.toInt = 8 * v2.toInt) ⟨iv_mul (show (8 : Int) ≤ (8 : Int32).toInt ∧ (8 : Int32).toInt ≤ 8 by decide) i_v2 (by decide) (by decide) (by decide) (by decide) (by decide), iq_mul (show (8 : Int) ≤ (8 : Int32).toInt ∧ (8 : Int32).toInt ≤ 8 by decide) i_v2 (by decide) (by decide) (by decide) (by decide)⟩ (fun x4 qi5 => ?_)
    obtain ⟨i5, ei5⟩ := qi5
    refine tt_kv (P := fun z => ((0 : Int) ≤ z.toInt ∧ z.toInt ≤ 63) ∧ z.toInt = x4.toInt + v3.toInt) ⟨iv_add i5 i3 (by decide) (by decide) (by decide) (by decide), iq_add i5 i3 (by decide) (by decide)⟩ (fun x6 qi7 => ?_)
    obtain ⟨i7, ei7⟩ := qi7
    refine tt_n (ix_ok i7 (by decide) (by decide)) ?_
    refine tt_kv (P := fun z => ((0 : Int) ≤ z.toInt ∧ z.toInt ≤ 255) ∧ z.toInt = (o0.2.1 41 x6.toNatClampNeg).toInt) ⟨(k_o0.2 41 _), rfl⟩ (fun x8 qi9 => ?_)
    obtain ⟨i9, ei9⟩ := qi9
    refine tt_if (fun c10 => ?_) (fun c10 => ?_)
    · have wc10 : x8.toInt ≤ (0 : Int) := c_le c10
      have i11 : (0 : Int) ≤ x8.toInt ∧ x8.toInt ≤ 0 := nr_lel c10 i9 (show (0 : Int) ≤ (0 : Int32).toInt ∧ (0 : Int32).toInt ≤ 0 by decide) (by decide) (by decide)
      try unfold fM_name_M41_39
      refine tt_kv (P := fun z => ((1 : Int) ≤ z.toInt ∧ z.toInt ≤ 8) ∧ z.toInt = v3.toInt + 1) ⟨iv_add i3 (show (1 : Int) ≤ (1 : Int32).toInt ∧ (1 : Int32).toInt ≤ 1 by decide) (by decide) (by decide) (by decide) (by decide), iq_add i3 (show (1 : Int) ≤ (1 : Int32).toInt ∧ (1 : Int32).toInt ≤ 1 by decide) (by decide) (by decide)⟩ (fun x12 qi13 => ?_)
      obtain ⟨i13, ei13⟩ := qi13
      exact H _ _ _ k_o0 r_o0 i_v2 (iv_w (a := 0) (b := 8) (by decide) (by decide) i13) f_o0_0 f_o0_38 f_o0_39 (show (o0.1 76).toInt ≤ (yo0.1 76).toInt + 1 + x12.toInt by omega) (show (o0.1 96).toInt ≤ (yo0.1 96).toInt + 1 + x12.toInt by omega) (show (o0.1 95).toInt = 1 ∨ (yo0.1 76).toInt ≤ 90000 - 9 by omega) (show (o0.1 95).toInt = 0 ∨ (yo0.1 96).toInt ≤ 24000 - 9 by omega) (show 0 + (8 - x12.toInt) * 2 < (n : Int) by omega)
    · have wc10 : (0 : Int) < x8.toInt := c_nle c10
      have i14 : (1 : Int) ≤ x8.toInt ∧ x8.toInt ≤ 255 := nr_nler c10 (show (0 : Int) ≤ (0 : Int32).toInt ∧ (0 : Int32).toInt ≤ 0 by decide) i9 (by decide) (by decide)
      refine tt_kv (P := fun z => ((0 : Int) ≤ z.toInt ∧ z.toInt ≤ 56) ∧ z.toInt = 8 * v2.toInt) ⟨iv_mul (show (8 : Int) ≤ (8 : Int32).toInt ∧ (8 : Int32).toInt ≤ 8 by decide) i_v2 (by decide) (by decide) (by decide) (by decide) (by decide), iq_mul (show (8 : Int) ≤ (8 : Int32).toInt ∧ (8 : Int32).toInt ≤ 8 by decide) i_v2 (by decide) (by decide) (by decide) (by decide)⟩ (fun x15 qi16 => ?_)
      obtain ⟨i16, ei16⟩ := qi16
      refine tt_kv (P := fun z => ((0 : Int) ≤ z.toInt ∧ z.toInt ≤ 63) ∧ z.toInt = x15.toInt + v3.toInt) ⟨iv_add i16 i3 (by decide) (by decide) (by decide) (by decide), iq_add i16 i3 (by decide) (by decide)⟩ (fun x17 qi18 => ?_)
      obtain ⟨i18, ei18⟩ := qi18
      refine tt_n (ix_ok i18 (by decide) (by decide)) ?_
      refine tt_kv (P := fun z => ((0 : Int) ≤ z.toInt ∧ z.toInt ≤ 255) ∧ z.toInt = (o0.2.1 41 x17.toNatClampNeg).toInt) ⟨(k_o0.2 41 _), rfl⟩ (fun x19 qi20 => ?_)
      obtain ⟨i20, ei20⟩ := qi20
      refine tt_kl (fun x21 => ?_)
      refine tt_b (sM_emit _ _ k_o0 f_o0_0 f_o0_38 (show (o0.1 95).toInt = 1 ∨ (o0.1 76).toInt ≤ 90000 - 1 by omega) (show (o0.1 95).toInt = 0 ∨ (o0.1 96).toInt ≤ 24000 - 1 by omega)) (fun q22 hq22 => ?_)
      obtain ⟨k_q22, n_q22, zq22_0, zq22_1, -⟩ := hq22
      have r_q22 := fr_tr r_o0 n_q22 rfl rfl rfl
      have f_q22_0 : (0 : Int) ≤ (q22.1 0).toInt ∧ (q22.1 0).toInt ≤ 0 := by rw [n_q22.1 0 rfl]; exact f_o0_0
      have f_q22_38 : (1 : Int) ≤ (q22.1 38).toInt ∧ (q22.1 38).toInt ≤ 1 := by rw [n_q22.1 38 rfl]; exact f_o0_38
      have f_q22_39 : (1 : Int) ≤ (q22.1 39).toInt ∧ (q22.1 39).toInt ≤ 8 := by rw [n_q22.1 39 rfl]; exact f_o0_39
      have g_q22_76 : (0 : Int) ≤ (q22.1 76).toInt ∧ (q22.1 76).toInt ≤ 90000 := k_q22.1 76
      have e_q22_93 : (q22.1 93).toInt = (o0.1 93).toInt := congrArg Int32.toInt (n_q22.1 93 rfl)
      have g_q22_93 : (0 : Int) ≤ (q22.1 93).toInt ∧ (q22.1 93).toInt ≤ 420 := k_q22.1 93
      have e_q22_95 : (q22.1 95).toInt = (o0.1 95).toInt := congrArg Int32.toInt (n_q22.1 95 rfl)
      have g_q22_95 : (0 : Int) ≤ (q22.1 95).toInt ∧ (q22.1 95).toInt ≤ 1 := k_q22.1 95
      have g_q22_96 : (0 : Int) ≤ (q22.1 96).toInt ∧ (q22.1 96).toInt ≤ 24000 := k_q22.1 96
      have zq22_0 : (q22.1 76).toInt ≤ (o0.1 76).toInt + 1 := zq22_0
      have zq22_1 : (q22.1 96).toInt ≤ (o0.1 96).toInt + 1 := zq22_1
      try unfold fM_name_M41_39
      refine tt_kv (P := fun z => ((1 : Int) ≤ z.toInt ∧ z.toInt ≤ 8) ∧ z.toInt = v3.toInt + 1) ⟨iv_add i3 (show (1 : Int) ≤ (1 : Int32).toInt ∧ (1 : Int32).toInt ≤ 1 by decide) (by decide) (by decide) (by decide) (by decide), iq_add i3 (show (1 : Int) ≤ (1 : Int32).toInt ∧ (1 : Int32).toInt ≤ 1 by decide) (by decide) (by decide)⟩ (fun x23 qi24 => ?_)
      obtain ⟨i24, ei24⟩ := qi24
      exact H _ _ _ k_q22 r_q22 i_v2 (iv_w (a := 0) (b := 8) (by decide) (by decide) i24) f_q22_0 f_q22_38 f_q22_39 (show (q22.1 76).toInt ≤ (yo0.1 76).toInt + 1 + x23.toInt by omega) (show (q22.1 96).toInt ≤ (yo0.1 96).toInt + 1 + x23.toInt by omega) (show (q22.1 95).toInt = 1 ∨ (yo0.1 76).toInt ≤ 90000 - 9 by omega) (show (q22.1 95).toInt = 0 ∨ (yo0.1 96).toInt ≤ 24000 - 9 by omega) (show 0 + (8 - x23.toInt) * 2 < (n : Int) by omega)
set_option maxHeartbeats 4000000 in
set_option maxRecDepth 100000 in
theorem hM_name_M41 (yv2 : Int32) (yo0 : cf_O) : ∀ n, HM_name_M41 yv2 yo0 n := by
  intro n
  induction n with
  | zero => exact (fun v2 v3 o0 k_o0 r_o0 i_v2 i_v3 f_o0_0 f_o0_38 f_o0_39 x_0 x_1 x_2 x_3 hm => by exact absurd (show 0 + (8 - v3.toInt) * 2 < (0 : Int) from hm) (by omega))
  | succ n ih => exact (fun v2 v3 o0 k_o0 r_o0 i_v2 i_v3 f_o0_0 f_o0_38 f_o0_39 x_0 x_1 x_2 x_3 hm => tM_name_M41_9 ih v2 v3 o0 k_o0 r_o0 i_v2 i_v3 f_o0_0 f_o0_38 f_o0_39 x_0 x_1 x_2 x_3 (by omega))
set_option maxHeartbeats 4000000 in
set_option maxRecDepth 100000 in
theorem sM_name_M41 (v2 : Int32) (o0 : cf_O) (k_o0 : okO I_M o0) (i_v2 : (0 : Int) ≤ v2.toInt ∧ v2.toInt ≤ 7) (f_o0_0 : (0 : Int) ≤ (o0.1 0).toInt ∧ (o0.1 0).toInt ≤ 0) (f_o0_38 : (1 : Int) ≤ (o0.1 38).toInt ∧ (o0.1 38).toInt ≤ 1) (f_o0_39 : (1 : Int) ≤ (o0.1 39).toInt ∧ (o0.1 39).toInt ≤ 8) (x_0 : (o0.1 95).toInt = 1 ∨ (o0.1 76).toInt ≤ 90000 - 9) (x_1 : (o0.1 95).toInt = 0 ∨ (o0.1 96).toInt ≤ 24000 - 9) : tt (fM_name_M41 v2 o0) (QM_name_M41 v2 o0) := by
  have H := hM_name_M41 v2 o0 cfFU
  have hm : (19 : Int) ≤ (cfFU : Nat) := by decide
  have r_o0 : Fr (fr_M [76, 96] [77, 97] []) o0 o0 := fr_rfl
  unfold fM_name_M41 fM_name_M41_0
  have g_o0_76 : (0 : Int) ≤ (o0.1 76).toInt ∧ (o0.1 76).toInt ≤ 90000 := k_o0.1 76
  have g_o0_93 : (0 : Int) ≤ (o0.1 93).toInt ∧ (o0.1 93).toInt ≤ 420 := k_o0.1 93
  have g_o0_95 : (0 : Int) ≤ (o0.1 95).toInt ∧ (o0.1 95).toInt ≤ 1 := k_o0.1 95
  have g_o0_96 : (0 : Int) ≤ (o0.1 96).toInt ∧ (o0.1 96).toInt ≤ 24000 := k_o0.1 96
  refine tt_b (sM_emit _ _ k_o0 f_o0_0 f_o0_38 (show (o0.1 95).toInt = 1 ∨ (o0.1 76).toInt ≤ 90000 - 1 by omega) (show (o0.1 95).toInt = 0 ∨ (o0.1 96).toInt ≤ 24000 - 1 by omega)) (fun q1 hq1 => ?_)
  obtain ⟨k_q1, n_q1, zq1_0, zq1_1, -⟩ := hq1
  have r_q1 := fr_tr r_o0 n_q1 rfl rfl rfl
  have f_q1_0 : (0 : Int) ≤ (q1.1 0).toInt ∧ (q1.1 0).toInt ≤ 0 := by rw [n_q1.1 0 rfl]; exact f_o0_0
  have f_q1_38 : (1 : Int) ≤ (q1.1 38).toInt ∧ (q1.1 38).toInt ≤ 1 := by rw [n_q1.1 38 rfl]; exact f_o0_38
  have f_q1_39 : (1 : Int) ≤ (q1.1 39).toInt ∧ (q1.1 39).toInt ≤ 8 := by rw [n_q1.1 39 rfl]; exact f_o0_39
  have g_q1_76 : (0 : Int) ≤ (q1.1 76).toInt ∧ (q1.1 76).toInt ≤ 90000 := k_q1.1 76
  have e_q1_93 : (q1.1 93).toInt = (o0.1 93).toInt := congrArg Int32.toInt (n_q1.1 93 rfl)
  have g_q1_93 : (0 : Int) ≤ (q1.1 93).toInt ∧ (q1.1 93).toInt ≤ 420 := k_q1.1 93
  have e_q1_95 : (q1.1 95).toInt = (o0.1 95).toInt := congrArg Int32.toInt (n_q1.1 95 rfl)
  have g_q1_95 : (0 : Int) ≤ (q1.1 95).toInt ∧ (q1.1 95).toInt ≤ 1 := k_q1.1 95
  have g_q1_96 : (0 : Int) ≤ (q1.1 96).toInt ∧ (q1.1 96).toInt ≤ 24000 := k_q1.1 96
  have zq1_0 : (q1.1 76).toInt ≤ (o0.1 76).toInt + 1 := zq1_0
  have zq1_1 : (q1.1 96).toInt ≤ (o0.1 96).toInt + 1 := zq1_1
  exact H _ _ _ k_q1 r_q1 i_v2 (iv_w (a := 0) (b := 8) (by decide) (by decide) (show (0 : Int) ≤ (0 : Int32).toInt ∧ (0 : Int32).toInt ≤ 0 by decide)) f_q1_0 f_q1_38 f_q1_39 (show (q1.1 76).toInt ≤ (o0.1 76).toInt + 1 + 0 by omega) (show (q1.1 96).toInt ≤ (o0.1 96).toInt + 1 + 0 by omega) (show (q1.1 95).toInt = 1 ∨ (o0.1 76).toInt ≤ 90000 - 9 by omega) (show (q1.1 95).toInt = 0 ∨ (o0.1 96).toInt ≤ 24000 - 9 by omega) (show 0 + (8 - 0) * 2 < ((cfFU : Nat) : Int) by omega)
def QM_name_M42 (v2 : Int32) (o0 : cf_O) (r : (cf_O)) : Prop := (okO I_M r) ∧ (Fr (fr_M [76, 96] [77, 97] []) o0 r) ∧ ((r.1 76).toInt ≤ (o0.1 76).toInt + 9) ∧ ((r.1 96).toInt ≤ (o0.1 96).toInt + 9) ∧ True
def HM_name_M42 (yv2 : Int32) (yo0 : cf_O) (n : Nat) : Prop := (∀ (v2 : Int32) (v3 : Int32) (o0 : cf_O), (okO I_M o0) → (Fr (fr_M [76, 96] [77, 97] []) yo0 o0) → ((0 : Int) ≤ v2.toInt ∧ v2.toInt ≤ 5) → ((0 : Int) ≤ v3.toInt ∧ v3.toInt ≤ 8) → ((0 : Int) ≤ (o0.1 0).toInt ∧ (o0.1 0).toInt ≤ 0) → ((1 : Int) ≤ (o0.1 38).toInt ∧ (o0.1 38).toInt ≤ 1) → ((1 : Int) ≤ (o0.1 40).toInt ∧ (o0.1 40).toInt ≤ 6) → ((o0.1 76).toInt ≤ (yo0.1 76).toInt + 1 + v3.toInt) → ((o0.1 96).toInt ≤ (yo0.1 96).toInt + 1 + v3.toInt) → ((o0.1 95).toInt = 1 ∨ (yo0.1 76).toInt ≤ 90000 - 9) → ((o0.1 95).toInt = 0 ∨ (yo0.1 96).toInt ≤ 24000 - 9) → 0 + (8 - v3.toInt) * 2 < (n : Int) → tt (gM_name_M42 n 0 v2 v3 o0) (QM_name_M42 yv2 yo0))
set_option maxHeartbeats 4000000 in
set_option maxRecDepth 100000 in
theorem tM_name_M42_9 {yv2 : Int32} {yo0 : cf_O} {n : Nat} (H : HM_name_M42 yv2 yo0 n) (v2 : Int32) (v3 : Int32) (o0 : cf_O) (k_o0 : okO I_M o0) (r_o0 : Fr (fr_M [76, 96] [77, 97] []) yo0 o0) (i_v2 : (0 : Int) ≤ v2.toInt ∧ v2.toInt ≤ 5) (i_v3 : (0 : Int) ≤ v3.toInt ∧ v3.toInt ≤ 8) (f_o0_0 : (0 : Int) ≤ (o0.1 0).toInt ∧ (o0.1 0).toInt ≤ 0) (f_o0_38 : (1 : Int) ≤ (o0.1 38).toInt ∧ (o0.1 38).toInt ≤ 1) (f_o0_40 : (1 : Int) ≤ (o0.1 40).toInt ∧ (o0.1 40).toInt ≤ 6) (x_0 : (o0.1 76).toInt ≤ (yo0.1 76).toInt + 1 + v3.toInt) (x_1 : (o0.1 96).toInt ≤ (yo0.1 96).toInt + 1 + v3.toInt) (x_2 : (o0.1 95).toInt = 1 ∨ (yo0.1 76).toInt ≤ 90000 - 9) (x_3 : (o0.1 95).toInt = 0 ∨ (yo0.1 96).toInt ≤ 24000 - 9) (hm : 0 + (8 - v3.toInt) * 2 ≤ (n : Int)) : tt (fM_name_M42_9 (gM_name_M42 n) v2 v3 o0) (QM_name_M42 yv2 yo0) := by
  unfold fM_name_M42_9
  have g_o0_76 : (0 : Int) ≤ (o0.1 76).toInt ∧ (o0.1 76).toInt ≤ 90000 := k_o0.1 76
  have g_o0_93 : (0 : Int) ≤ (o0.1 93).toInt ∧ (o0.1 93).toInt ≤ 420 := k_o0.1 93
  have ey_o0_93 : (o0.1 93).toInt = (yo0.1 93).toInt := congrArg Int32.toInt (r_o0.1 93 rfl)
  have g_o0_95 : (0 : Int) ≤ (o0.1 95).toInt ∧ (o0.1 95).toInt ≤ 1 := k_o0.1 95
  have ey_o0_95 : (o0.1 95).toInt = (yo0.1 95).toInt := congrArg Int32.toInt (r_o0.1 95 rfl)
  have g_o0_96 : (0 : Int) ≤ (o0.1 96).toInt ∧ (o0.1 96).toInt ≤ 24000 := k_o0.1 96
  refine tt_if (fun c1 => ?_) (fun c1 => ?_)
  · have wc1 : (8 : Int) ≤ v3.toInt := c_le c1
    have i2 : (8 : Int) ≤ v3.toInt ∧ v3.toInt ≤ 8 := nr_ler c1 (show (8 : Int) ≤ (8 : Int32).toInt ∧ (8 : Int32).toInt ≤ 8 by decide) i_v3 (by decide) (by decide)
    exact tt_some ⟨k_o0, r_o0, (show (o0.1 76).toInt ≤ (yo0.1 76).toInt + 9 by omega), (show (o0.1 96).toInt ≤ (yo0.1 96).toInt + 9 by omega), trivial⟩
  · have wc1 : v3.toInt < (8 : Int) := c_nle c1
    have i3 : (0 : Int) ≤ v3.toInt ∧ v3.toInt ≤ 7 := nr_nlel c1 i_v3 (show (8 : Int) ≤ (8 : Int32).toInt ∧ (8 : Int32).toInt ≤ 8 by decide) (by decide) (by decide)
    refine tt_kv (P := fun z => ((0 : Int) ≤ z.toInt ∧ z.toInt ≤ 40) ∧ z.toInt = 8 * v2.toInt) ⟨iv_mul (show (8 : Int) ≤ (8 : Int32).toInt ∧ (8 : Int32).toInt ≤ 8 by decide) i_v2 (by decide) (by decide) (by decide) (by decide) (by decide), iq_mul (show (8 : Int) ≤ (8 : Int32).toInt ∧ (8 : Int32).toInt ≤ 8 by decide) i_v2 (by decide) (by decide) (by decide) (by decide)⟩ (fun x4 qi5 => ?_)
    obtain ⟨i5, ei5⟩ := qi5
    refine tt_kv (P := fun z => ((0 : Int) ≤ z.toInt ∧ z.toInt ≤ 47) ∧ z.toInt = x4.toInt + v3.toInt) ⟨iv_add i5 i3 (by decide) (by decide) (by decide) (by decide), iq_add i5 i3 (by decide) (by decide)⟩ (fun x6 qi7 => ?_)
    obtain ⟨i7, ei7⟩ := qi7
    refine tt_n (ix_ok i7 (by decide) (by decide)) ?_
    refine tt_kv (P := fun z => ((0 : Int) ≤ z.toInt ∧ z.toInt ≤ 255) ∧ z.toInt = (o0.2.1 42 x6.toNatClampNeg).toInt) ⟨(k_o0.2 42 _), rfl⟩ (fun x8 qi9 => ?_)
    obtain ⟨i9, ei9⟩ := qi9
    refine tt_if (fun c10 => ?_) (fun c10 => ?_)
    · have wc10 : x8.toInt ≤ (0 : Int) := c_le c10
      have i11 : (0 : Int) ≤ x8.toInt ∧ x8.toInt ≤ 0 := nr_lel c10 i9 (show (0 : Int) ≤ (0 : Int32).toInt ∧ (0 : Int32).toInt ≤ 0 by decide) (by decide) (by decide)
      try unfold fM_name_M42_39
      refine tt_kv (P := fun z => ((1 : Int) ≤ z.toInt ∧ z.toInt ≤ 8) ∧ z.toInt = v3.toInt + 1) ⟨iv_add i3 (show (1 : Int) ≤ (1 : Int32).toInt ∧ (1 : Int32).toInt ≤ 1 by decide) (by decide) (by decide) (by decide) (by decide), iq_add i3 (show (1 : Int) ≤ (1 : Int32).toInt ∧ (1 : Int32).toInt ≤ 1 by decide) (by decide) (by decide)⟩ (fun x12 qi13 => ?_)
      obtain ⟨i13, ei13⟩ := qi13
      exact H _ _ _ k_o0 r_o0 i_v2 (iv_w (a := 0) (b := 8) (by decide) (by decide) i13) f_o0_0 f_o0_38 f_o0_40 (show (o0.1 76).toInt ≤ (yo0.1 76).toInt + 1 + x12.toInt by omega) (show (o0.1 96).toInt ≤ (yo0.1 96).toInt + 1 + x12.toInt by omega) (show (o0.1 95).toInt = 1 ∨ (yo0.1 76).toInt ≤ 90000 - 9 by omega) (show (o0.1 95).toInt = 0 ∨ (yo0.1 96).toInt ≤ 24000 - 9 by omega) (show 0 + (8 - x12.toInt) * 2 < (n : Int) by omega)
    · have wc10 : (0 : Int) < x8.toInt := c_nle c10
      have i14 : (1 : Int) ≤ x8.toInt ∧ x8.toInt ≤ 255 := nr_nler c10 (show (0 : Int) ≤ (0 : Int32).toInt ∧ (0 : Int32).toInt ≤ 0 by decide) i9 (by decide) (by decide)
      refine tt_kv (P := fun z => ((0 : Int) ≤ z.toInt ∧ z.toInt ≤ 40) ∧ z.toInt = 8 * v2.toInt) ⟨iv_mul (show (8 : Int) ≤ (8 : Int32).toInt ∧ (8 : Int32).toInt ≤ 8 by decide) i_v2 (by decide) (by decide) (by decide) (by decide) (by decide), iq_mul (show (8 : Int) ≤ (8 : Int32).toInt ∧ (8 : Int32).toInt ≤ 8 by decide) i_v2 (by decide) (by decide) (by decide) (by decide)⟩ (fun x15 qi16 => ?_)
      obtain ⟨i16, ei16⟩ := qi16
      refine tt_kv (P := fun z => ((0 : Int) ≤ z.toInt ∧ z.toInt ≤ 47) ∧ z.toInt = x15.toInt + v3.toInt) ⟨iv_add i16 i3 (by decide) (by decide) (by decide) (by decide), iq_add i16 i3 (by decide) (by decide)⟩ (fun x17 qi18 => ?_)
      obtain ⟨i18, ei18⟩ := qi18
      refine tt_n (ix_ok i18 (by decide) (by decide)) ?_
      refine tt_kv (P := fun z => ((0 : Int) ≤ z.toInt ∧ z.toInt ≤ 255) ∧ z.toInt = (o0.2.1 42 x17.toNatClampNeg).toInt) ⟨(k_o0.2 42 _), rfl⟩ (fun x19 qi20 => ?_)
      obtain ⟨i20, ei20⟩ := qi20
      refine tt_kl (fun x21 => ?_)
      refine tt_b (sM_emit _ _ k_o0 f_o0_0 f_o0_38 (show (o0.1 95).toInt = 1 ∨ (o0.1 76).toInt ≤ 90000 - 1 by omega) (show (o0.1 95).toInt = 0 ∨ (o0.1 96).toInt ≤ 24000 - 1 by omega)) (fun q22 hq22 => ?_)
      obtain ⟨k_q22, n_q22, zq22_0, zq22_1, -⟩ := hq22
      have r_q22 := fr_tr r_o0 n_q22 rfl rfl rfl
      have f_q22_0 : (0 : Int) ≤ (q22.1 0).toInt ∧ (q22.1 0).toInt ≤ 0 := by rw [n_q22.1 0 rfl]; exact f_o0_0
      have f_q22_40 : (1 : Int) ≤ (q22.1 40).toInt ∧ (q22.1 40).toInt ≤ 6 := by rw [n_q22.1 40 rfl]; exact f_o0_40
      have f_q22_38 : (1 : Int) ≤ (q22.1 38).toInt ∧ (q22.1 38).toInt ≤ 1 := by rw [n_q22.1 38 rfl]; exact f_o0_38
      have g_q22_76 : (0 : Int) ≤ (q22.1 76).toInt ∧ (q22.1 76).toInt ≤ 90000 := k_q22.1 76
      have e_q22_93 : (q22.1 93).toInt = (o0.1 93).toInt := congrArg Int32.toInt (n_q22.1 93 rfl)
      have g_q22_93 : (0 : Int) ≤ (q22.1 93).toInt ∧ (q22.1 93).toInt ≤ 420 := k_q22.1 93
      have e_q22_95 : (q22.1 95).toInt = (o0.1 95).toInt := congrArg Int32.toInt (n_q22.1 95 rfl)
      have g_q22_95 : (0 : Int) ≤ (q22.1 95).toInt ∧ (q22.1 95).toInt ≤ 1 := k_q22.1 95
      have g_q22_96 : (0 : Int) ≤ (q22.1 96).toInt ∧ (q22.1 96).toInt ≤ 24000 := k_q22.1 96
      have zq22_0 : (q22.1 76).toInt ≤ (o0.1 76).toInt + 1 := zq22_0
      have zq22_1 : (q22.1 96).toInt ≤ (o0.1 96).toInt + 1 := zq22_1
      try unfold fM_name_M42_39
      refine tt_kv (P := fun z => ((1 : Int) ≤ z.toInt ∧ z.toInt ≤ 8) ∧ z.toInt = v3.toInt + 1) ⟨iv_add i3 (show (1 : Int) ≤ (1 : Int32).toInt ∧ (1 : Int32).toInt ≤ 1 by decide) (by decide) (by decide) (by decide) (by decide), iq_add i3 (show (1 : Int) ≤ (1 : Int32).toInt ∧ (1 : Int32).toInt ≤ 1 by decide) (by decide) (by decide)⟩ (fun x23 qi24 => ?_)
      obtain ⟨i24, ei24⟩ := qi24
      exact H _ _ _ k_q22 r_q22 i_v2 (iv_w (a := 0) (b := 8) (by decide) (by decide) i24) f_q22_0 f_q22_38 f_q22_40 (show (q22.1 76).toInt ≤ (yo0.1 76).toInt + 1 + x23.toInt by omega) (show (q22.1 96).toInt ≤ (yo0.1 96).toInt + 1 + x23.toInt by omega) (show (q22.1 95).toInt = 1 ∨ (yo0.1 76).toInt ≤ 90000 - 9 by omega) (show (q22.1 95).toInt = 0 ∨ (yo0.1 96).toInt ≤ 24000 - 9 by omega) (show 0 + (8 - x23.toInt) * 2 < (n : Int) by omega)
set_option maxHeartbeats 4000000 in
set_option maxRecDepth 100000 in
theorem hM_name_M42 (yv2 : Int32) (yo0 : cf_O) : ∀ n, HM_name_M42 yv2 yo0 n := by
  intro n
  induction n with
  | zero => exact (fun v2 v3 o0 k_o0 r_o0 i_v2 i_v3 f_o0_0 f_o0_38 f_o0_40 x_0 x_1 x_2 x_3 hm => by exact absurd (show 0 + (8 - v3.toInt) * 2 < (0 : Int) from hm) (by omega))
  | succ n ih => exact (fun v2 v3 o0 k_o0 r_o0 i_v2 i_v3 f_o0_0 f_o0_38 f_o0_40 x_0 x_1 x_2 x_3 hm => tM_name_M42_9 ih v2 v3 o0 k_o0 r_o0 i_v2 i_v3 f_o0_0 f_o0_38 f_o0_40 x_0 x_1 x_2 x_3 (by omega))
set_option maxHeartbeats 4000000 in
set_option maxRecDepth 100000 in
theorem sM_name_M42 (v2 : Int32) (o0 : cf_O) (k_o0 : okO I_M o0) (i_v2 : (0 : Int) ≤ v2.toInt ∧ v2.toInt ≤ 5) (f_o0_0 : (0 : Int) ≤ (o0.1 0).toInt ∧ (o0.1 0).toInt ≤ 0) (f_o0_38 : (1 : Int) ≤ (o0.1 38).toInt ∧ (o0.1 38).toInt ≤ 1) (f_o0_40 : (1 : Int) ≤ (o0.1 40).toInt ∧ (o0.1 40).toInt ≤ 6) (x_0 : (o0.1 95).toInt = 1 ∨ (o0.1 76).toInt ≤ 90000 - 9) (x_1 : (o0.1 95).toInt = 0 ∨ (o0.1 96).toInt ≤ 24000 - 9) : tt (fM_name_M42 v2 o0) (QM_name_M42 v2 o0) := by
  have H := hM_name_M42 v2 o0 cfFU
  have hm : (19 : Int) ≤ (cfFU : Nat) := by decide
  have r_o0 : Fr (fr_M [76, 96] [77, 97] []) o0 o0 := fr_rfl
  unfold fM_name_M42 fM_name_M42_0
  have g_o0_76 : (0 : Int) ≤ (o0.1 76).toInt ∧ (o0.1 76).toInt ≤ 90000 := k_o0.1 76
  have g_o0_93 : (0 : Int) ≤ (o0.1 93).toInt ∧ (o0.1 93).toInt ≤ 420 := k_o0.1 93
  have g_o0_95 : (0 : Int) ≤ (o0.1 95).toInt ∧ (o0.1 95).toInt ≤ 1 := k_o0.1 95
  have g_o0_96 : (0 : Int) ≤ (o0.1 96).toInt ∧ (o0.1 96).toInt ≤ 24000 := k_o0.1 96
  refine tt_b (sM_emit _ _ k_o0 f_o0_0 f_o0_38 (show (o0.1 95).toInt = 1 ∨ (o0.1 76).toInt ≤ 90000 - 1 by omega) (show (o0.1 95).toInt = 0 ∨ (o0.1 96).toInt ≤ 24000 - 1 by omega)) (fun q1 hq1 => ?_)
  obtain ⟨k_q1, n_q1, zq1_0, zq1_1, -⟩ := hq1
  have r_q1 := fr_tr r_o0 n_q1 rfl rfl rfl
  have f_q1_0 : (0 : Int) ≤ (q1.1 0).toInt ∧ (q1.1 0).toInt ≤ 0 := by rw [n_q1.1 0 rfl]; exact f_o0_0
  have f_q1_40 : (1 : Int) ≤ (q1.1 40).toInt ∧ (q1.1 40).toInt ≤ 6 := by rw [n_q1.1 40 rfl]; exact f_o0_40
  have f_q1_38 : (1 : Int) ≤ (q1.1 38).toInt ∧ (q1.1 38).toInt ≤ 1 := by rw [n_q1.1 38 rfl]; exact f_o0_38
  have g_q1_76 : (0 : Int) ≤ (q1.1 76).toInt ∧ (q1.1 76).toInt ≤ 90000 := k_q1.1 76
  have e_q1_93 : (q1.1 93).toInt = (o0.1 93).toInt := congrArg Int32.toInt (n_q1.1 93 rfl)
  have g_q1_93 : (0 : Int) ≤ (q1.1 93).toInt ∧ (q1.1 93).toInt ≤ 420 := k_q1.1 93
  have e_q1_95 : (q1.1 95).toInt = (o0.1 95).toInt := congrArg Int32.toInt (n_q1.1 95 rfl)
  have g_q1_95 : (0 : Int) ≤ (q1.1 95).toInt ∧ (q1.1 95).toInt ≤ 1 := k_q1.1 95
  have g_q1_96 : (0 : Int) ≤ (q1.1 96).toInt ∧ (q1.1 96).toInt ≤ 24000 := k_q1.1 96
  have zq1_0 : (q1.1 76).toInt ≤ (o0.1 76).toInt + 1 := zq1_0
  have zq1_1 : (q1.1 96).toInt ≤ (o0.1 96).toInt + 1 := zq1_1
  exact H _ _ _ k_q1 r_q1 i_v2 (iv_w (a := 0) (b := 8) (by decide) (by decide) (show (0 : Int) ≤ (0 : Int32).toInt ∧ (0 : Int32).toInt ≤ 0 by decide)) f_q1_0 f_q1_38 f_q1_40 (show (q1.1 76).toInt ≤ (o0.1 76).toInt + 1 + 0 by omega) (show (q1.1 96).toInt ≤ (o0.1 96).toInt + 1 + 0 by omega) (show (q1.1 95).toInt = 1 ∨ (o0.1 76).toInt ≤ 90000 - 9 by omega) (show (q1.1 95).toInt = 0 ∨ (o0.1 96).toInt ≤ 24000 - 9 by omega) (show 0 + (8 - 0) * 2 < ((cfFU : Nat) : Int) by omega)
def QM_nodeName (v1 : Int32) (o0 : cf_O) (r : (cf_O)) : Prop := (okO I_M r) ∧ (Fr (fr_M [76, 96] [77, 97] []) o0 r) ∧ ((r.1 76).toInt ≤ (o0.1 76).toInt + 9) ∧ ((r.1 96).toInt ≤ (o0.1 96).toInt + 9) ∧ True
def HM_nodeName (yv1 : Int32) (yo0 : cf_O) (n : Nat) : Prop := (∀ (v1 : Int32) (v2 : Int32) (o0 : cf_O), (okO I_M o0) → (Fr (fr_M [76, 96] [77, 97] []) yo0 o0) → ((1 : Int) ≤ v1.toInt ∧ v1.toInt ≤ 208) → ((0 : Int) ≤ v2.toInt ∧ v2.toInt ≤ 100) → ((0 : Int) ≤ (o0.1 0).toInt ∧ (o0.1 0).toInt ≤ 0) → ((1 : Int) ≤ (o0.1 38).toInt ∧ (o0.1 38).toInt ≤ 1) → ((v2.toInt = 100 ∧ (o0.1 76).toInt ≤ (yo0.1 76).toInt + 3 ∧ (o0.1 96).toInt ≤ (yo0.1 96).toInt + 3) ∨ (v2.toInt = 10 ∧ (o0.1 76).toInt ≤ (yo0.1 76).toInt + 4 ∧ (o0.1 96).toInt ≤ (yo0.1 96).toInt + 4) ∨ (v2.toInt = 1 ∧ (o0.1 76).toInt ≤ (yo0.1 76).toInt + 5 ∧ (o0.1 96).toInt ≤ (yo0.1 96).toInt + 5) ∨ (v2.toInt = 0 ∧ (o0.1 76).toInt ≤ (yo0.1 76).toInt + 6 ∧ (o0.1 96).toInt ≤ (yo0.1 96).toInt + 6)) → ((o0.1 95).toInt = 1 ∨ (yo0.1 76).toInt ≤ 90000 - 9) → ((o0.1 95).toInt = 0 ∨ (yo0.1 96).toInt ≤ 24000 - 9) → v2.toInt < (n : Int) → tt (gM_nodeName n 0 v1 v2 o0) (QM_nodeName yv1 yo0))
set_option maxHeartbeats 4000000 in
set_option maxRecDepth 100000 in
theorem tM_nodeName_44 {yv1 : Int32} {yo0 : cf_O} {n : Nat} (H : HM_nodeName yv1 yo0 n) (v1 : Int32) (v2 : Int32) (o0 : cf_O) (k_o0 : okO I_M o0) (r_o0 : Fr (fr_M [76, 96] [77, 97] []) yo0 o0) (i_v1 : (1 : Int) ≤ v1.toInt ∧ v1.toInt ≤ 208) (i_v2 : (0 : Int) ≤ v2.toInt ∧ v2.toInt ≤ 100) (f_o0_0 : (0 : Int) ≤ (o0.1 0).toInt ∧ (o0.1 0).toInt ≤ 0) (f_o0_38 : (1 : Int) ≤ (o0.1 38).toInt ∧ (o0.1 38).toInt ≤ 1) (x_0 : (v2.toInt = 100 ∧ (o0.1 76).toInt ≤ (yo0.1 76).toInt + 3 ∧ (o0.1 96).toInt ≤ (yo0.1 96).toInt + 3) ∨ (v2.toInt = 10 ∧ (o0.1 76).toInt ≤ (yo0.1 76).toInt + 4 ∧ (o0.1 96).toInt ≤ (yo0.1 96).toInt + 4) ∨ (v2.toInt = 1 ∧ (o0.1 76).toInt ≤ (yo0.1 76).toInt + 5 ∧ (o0.1 96).toInt ≤ (yo0.1 96).toInt + 5) ∨ (v2.toInt = 0 ∧ (o0.1 76).toInt ≤ (yo0.1 76).toInt + 6 ∧ (o0.1 96).toInt ≤ (yo0.1 96).toInt + 6)) (x_1 : (o0.1 95).toInt = 1 ∨ (yo0.1 76).toInt ≤ 90000 - 9) (x_2 : (o0.1 95).toInt = 0 ∨ (yo0.1 96).toInt ≤ 24000 - 9) (hm : v2.toInt ≤ (n : Int)) : tt (fM_nodeName_44 (gM_nodeName n) v1 v2 o0) (QM_nodeName yv1 yo0) := by
  unfold fM_nodeName_44
  have g_o0_39 : (0 : Int) ≤ (o0.1 39).toInt ∧ (o0.1 39).toInt ≤ 8 := k_o0.1 39
  have ey_o0_39 : (o0.1 39).toInt = (yo0.1 39).toInt := congrArg Int32.toInt (r_o0.1 39 rfl)
  have g_o0_76 : (0 : Int) ≤ (o0.1 76).toInt ∧ (o0.1 76).toInt ≤ 90000 := k_o0.1 76
  have g_o0_95 : (0 : Int) ≤ (o0.1 95).toInt ∧ (o0.1 95).toInt ≤ 1 := k_o0.1 95
  have ey_o0_95 : (o0.1 95).toInt = (yo0.1 95).toInt := congrArg Int32.toInt (r_o0.1 95 rfl)
  have g_o0_96 : (0 : Int) ≤ (o0.1 96).toInt ∧ (o0.1 96).toInt ≤ 24000 := k_o0.1 96
  refine tt_if (fun c1 => ?_) (fun c1 => ?_)
  · have wc1 : v2.toInt ≤ (0 : Int) := c_le c1
    have i2 : (0 : Int) ≤ v2.toInt ∧ v2.toInt ≤ 0 := nr_lel c1 i_v2 (show (0 : Int) ≤ (0 : Int32).toInt ∧ (0 : Int32).toInt ≤ 0 by decide) (by decide) (by decide)
    exact tt_some ⟨k_o0, r_o0, (show (o0.1 76).toInt ≤ (yo0.1 76).toInt + 9 by omega), (show (o0.1 96).toInt ≤ (yo0.1 96).toInt + 9 by omega), trivial⟩
  · have wc1 : (0 : Int) < v2.toInt := c_nle c1
    have i3 : (1 : Int) ≤ v2.toInt ∧ v2.toInt ≤ 100 := nr_nler c1 (show (0 : Int) ≤ (0 : Int32).toInt ∧ (0 : Int32).toInt ≤ 0 by decide) i_v2 (by decide) (by decide)
    refine tt_if (fun c4 => ?_) (fun c4 => ?_)
    · have wc4 : v1.toInt < v2.toInt := c_lt c4
      have i5 : (1 : Int) ≤ v1.toInt ∧ v1.toInt ≤ 99 := nr_ltl c4 i_v1 i3 (by decide) (by decide)
      have i6 : (2 : Int) ≤ v2.toInt ∧ v2.toInt ≤ 100 := nr_ltr c4 i_v1 i3 (by decide) (by decide)
      try unfold fM_nodeName_67
      refine tt_kv (P := fun z => ((0 : Int) ≤ z.toInt ∧ z.toInt ≤ 10) ∧ z.toInt = v2.toInt / 10) ⟨iv_div (k := 10) i6 (show (10 : Int) ≤ (10 : Int32).toInt ∧ (10 : Int32).toInt ≤ 10 by decide) (by decide) (by decide) (by decide) (by decide), i_dv (Int.le_trans (by decide) i6.1) (by decide)⟩ (fun x7 qi8 => ?_)
      obtain ⟨i8, ei8⟩ := qi8
      exact H _ _ _ k_o0 r_o0 (iv_w (a := 1) (b := 208) (by decide) (by decide) i5) (iv_w (a := 0) (b := 100) (by decide) (by decide) i8) f_o0_0 f_o0_38 (show (x7.toInt = 100 ∧ (o0.1 76).toInt ≤ (yo0.1 76).toInt + 3 ∧ (o0.1 96).toInt ≤ (yo0.1 96).toInt + 3) ∨ (x7.toInt = 10 ∧ (o0.1 76).toInt ≤ (yo0.1 76).toInt + 4 ∧ (o0.1 96).toInt ≤ (yo0.1 96).toInt + 4) ∨ (x7.toInt = 1 ∧ (o0.1 76).toInt ≤ (yo0.1 76).toInt + 5 ∧ (o0.1 96).toInt ≤ (yo0.1 96).toInt + 5) ∨ (x7.toInt = 0 ∧ (o0.1 76).toInt ≤ (yo0.1 76).toInt + 6 ∧ (o0.1 96).toInt ≤ (yo0.1 96).toInt + 6) by omega) (show (o0.1 95).toInt = 1 ∨ (yo0.1 76).toInt ≤ 90000 - 9 by omega) (show (o0.1 95).toInt = 0 ∨ (yo0.1 96).toInt ≤ 24000 - 9 by omega) (show x7.toInt < (n : Int) by omega)
    · have wc4 : v2.toInt ≤ v1.toInt := c_nlt c4
      refine tt_n (iv_nz0 i3 (by decide)) ?_
      refine tt_kv (P := fun z => (0 : Int) ≤ z.toInt ∧ z.toInt ≤ 208) (iv_divv i_v1 i3 (by decide) (by decide) (by decide) (by decide)) (fun x9 i10 => ?_)
      refine tt_kv (P := fun z => ((0 : Int) ≤ z.toInt ∧ z.toInt ≤ 9) ∧ z.toInt = x9.toInt % 10) ⟨iv_rem (k := 10) i10 (show (10 : Int) ≤ (10 : Int32).toInt ∧ (10 : Int32).toInt ≤ 10 by decide) (by decide) (by decide) (by decide) (by decide), i_rem (x := x9) (y := 10) (Int.le_trans (by decide) i10.1) (by decide)⟩ (fun x11 qi12 => ?_)
      obtain ⟨i12, ei12⟩ := qi12
      refine tt_kv (P := fun z => ((48 : Int) ≤ z.toInt ∧ z.toInt ≤ 57) ∧ z.toInt = 48 + x11.toInt) ⟨iv_add (show (48 : Int) ≤ (48 : Int32).toInt ∧ (48 : Int32).toInt ≤ 48 by decide) i12 (by decide) (by decide) (by decide) (by decide), iq_add (show (48 : Int) ≤ (48 : Int32).toInt ∧ (48 : Int32).toInt ≤ 48 by decide) i12 (by decide) (by decide)⟩ (fun x13 qi14 => ?_)
      obtain ⟨i14, ei14⟩ := qi14
      refine tt_kl (fun x15 => ?_)
      refine tt_b (sM_emit _ _ k_o0 f_o0_0 f_o0_38 (show (o0.1 95).toInt = 1 ∨ (o0.1 76).toInt ≤ 90000 - 1 by omega) (show (o0.1 95).toInt = 0 ∨ (o0.1 96).toInt ≤ 24000 - 1 by omega)) (fun q16 hq16 => ?_)
      obtain ⟨k_q16, n_q16, zq16_0, zq16_1, -⟩ := hq16
      have r_q16 := fr_tr r_o0 n_q16 rfl rfl rfl
      have f_q16_0 : (0 : Int) ≤ (q16.1 0).toInt ∧ (q16.1 0).toInt ≤ 0 := by rw [n_q16.1 0 rfl]; exact f_o0_0
      have f_q16_38 : (1 : Int) ≤ (q16.1 38).toInt ∧ (q16.1 38).toInt ≤ 1 := by rw [n_q16.1 38 rfl]; exact f_o0_38
      have e_q16_39 : (q16.1 39).toInt = (o0.1 39).toInt := congrArg Int32.toInt (n_q16.1 39 rfl)
      have g_q16_39 : (0 : Int) ≤ (q16.1 39).toInt ∧ (q16.1 39).toInt ≤ 8 := k_q16.1 39
      have g_q16_76 : (0 : Int) ≤ (q16.1 76).toInt ∧ (q16.1 76).toInt ≤ 90000 := k_q16.1 76
      have e_q16_95 : (q16.1 95).toInt = (o0.1 95).toInt := congrArg Int32.toInt (n_q16.1 95 rfl)
      have g_q16_95 : (0 : Int) ≤ (q16.1 95).toInt ∧ (q16.1 95).toInt ≤ 1 := k_q16.1 95
      have g_q16_96 : (0 : Int) ≤ (q16.1 96).toInt ∧ (q16.1 96).toInt ≤ 24000 := k_q16.1 96
      have zq16_0 : (q16.1 76).toInt ≤ (o0.1 76).toInt + 1 := zq16_0
      have zq16_1 : (q16.1 96).toInt ≤ (o0.1 96).toInt + 1 := zq16_1
      try unfold fM_nodeName_67
      refine tt_kv (P := fun z => ((0 : Int) ≤ z.toInt ∧ z.toInt ≤ 10) ∧ z.toInt = v2.toInt / 10) ⟨iv_div (k := 10) i3 (show (10 : Int) ≤ (10 : Int32).toInt ∧ (10 : Int32).toInt ≤ 10 by decide) (by decide) (by decide) (by decide) (by decide), i_dv (Int.le_trans (by decide) i3.1) (by decide)⟩ (fun x17 qi18 => ?_)
      obtain ⟨i18, ei18⟩ := qi18
      exact H _ _ _ k_q16 r_q16 i_v1 (iv_w (a := 0) (b := 100) (by decide) (by decide) i18) f_q16_0 f_q16_38 (show (x17.toInt = 100 ∧ (q16.1 76).toInt ≤ (yo0.1 76).toInt + 3 ∧ (q16.1 96).toInt ≤ (yo0.1 96).toInt + 3) ∨ (x17.toInt = 10 ∧ (q16.1 76).toInt ≤ (yo0.1 76).toInt + 4 ∧ (q16.1 96).toInt ≤ (yo0.1 96).toInt + 4) ∨ (x17.toInt = 1 ∧ (q16.1 76).toInt ≤ (yo0.1 76).toInt + 5 ∧ (q16.1 96).toInt ≤ (yo0.1 96).toInt + 5) ∨ (x17.toInt = 0 ∧ (q16.1 76).toInt ≤ (yo0.1 76).toInt + 6 ∧ (q16.1 96).toInt ≤ (yo0.1 96).toInt + 6) by omega) (show (q16.1 95).toInt = 1 ∨ (yo0.1 76).toInt ≤ 90000 - 9 by omega) (show (q16.1 95).toInt = 0 ∨ (yo0.1 96).toInt ≤ 24000 - 9 by omega) (show x17.toInt < (n : Int) by omega)
set_option maxHeartbeats 4000000 in
set_option maxRecDepth 100000 in
theorem hM_nodeName (yv1 : Int32) (yo0 : cf_O) : ∀ n, HM_nodeName yv1 yo0 n := by
  intro n
  induction n with
  | zero => exact (fun v1 v2 o0 k_o0 r_o0 i_v1 i_v2 f_o0_0 f_o0_38 x_0 x_1 x_2 hm => by exact absurd (show v2.toInt < (0 : Int) from hm) (by omega))
  | succ n ih => exact (fun v1 v2 o0 k_o0 r_o0 i_v1 i_v2 f_o0_0 f_o0_38 x_0 x_1 x_2 hm => tM_nodeName_44 ih v1 v2 o0 k_o0 r_o0 i_v1 i_v2 f_o0_0 f_o0_38 x_0 x_1 x_2 (by omega))
set_option maxHeartbeats 4000000 in
set_option maxRecDepth 100000 in
theorem sM_nodeName (v1 : Int32) (o0 : cf_O) (k_o0 : okO I_M o0) (i_v1 : (1 : Int) ≤ v1.toInt ∧ v1.toInt ≤ 208) (f_o0_0 : (0 : Int) ≤ (o0.1 0).toInt ∧ (o0.1 0).toInt ≤ 0) (f_o0_38 : (1 : Int) ≤ (o0.1 38).toInt ∧ (o0.1 38).toInt ≤ 1) (x_0 : (o0.1 95).toInt = 1 ∨ (o0.1 76).toInt ≤ 90000 - 9) (x_1 : (o0.1 95).toInt = 0 ∨ (o0.1 96).toInt ≤ 24000 - 9) : tt (fM_nodeName v1 o0) (QM_nodeName v1 o0) := by
  have H := hM_nodeName v1 o0 cfFU
  have hm : (101 : Int) ≤ (cfFU : Nat) := by decide
  have r_o0 : Fr (fr_M [76, 96] [77, 97] []) o0 o0 := fr_rfl
  unfold fM_nodeName fM_nodeName_0
  have g_o0_39 : (0 : Int) ≤ (o0.1 39).toInt ∧ (o0.1 39).toInt ≤ 8 := k_o0.1 39
  have g_o0_76 : (0 : Int) ≤ (o0.1 76).toInt ∧ (o0.1 76).toInt ≤ 90000 := k_o0.1 76
  have g_o0_95 : (0 : Int) ≤ (o0.1 95).toInt ∧ (o0.1 95).toInt ≤ 1 := k_o0.1 95
  have g_o0_96 : (0 : Int) ≤ (o0.1 96).toInt ∧ (o0.1 96).toInt ≤ 24000 := k_o0.1 96
  try unfold fM_base
  try unfold fM_base_0
  refine tt_bkv (P := fun z => ((1 : Int) ≤ z.toInt ∧ z.toInt ≤ 9) ∧ z.toInt = (o0.1 39).toInt + 1) ⟨iv_add (k_o0.1 39) (show (1 : Int) ≤ (1 : Int32).toInt ∧ (1 : Int32).toInt ≤ 1 by decide) (by decide) (by decide) (by decide) (by decide), iq_add (k_o0.1 39) (show (1 : Int) ≤ (1 : Int32).toInt ∧ (1 : Int32).toInt ≤ 1 by decide) (by decide) (by decide)⟩ (fun x1 qi2 => ?_)
  obtain ⟨i2, ei2⟩ := qi2
  refine tt_bs ?_
  refine tt_if (fun c3 => ?_) (fun c3 => ?_)
  · have wc3 : x1.toInt ≤ v1.toInt := c_le c3
    refine tt_b (sM_emit _ _ k_o0 f_o0_0 f_o0_38 (show (o0.1 95).toInt = 1 ∨ (o0.1 76).toInt ≤ 90000 - 1 by omega) (show (o0.1 95).toInt = 0 ∨ (o0.1 96).toInt ≤ 24000 - 1 by omega)) (fun q4 hq4 => ?_)
    obtain ⟨k_q4, n_q4, zq4_0, zq4_1, -⟩ := hq4
    have r_q4 := fr_tr r_o0 n_q4 rfl rfl rfl
    have f_q4_0 : (0 : Int) ≤ (q4.1 0).toInt ∧ (q4.1 0).toInt ≤ 0 := by rw [n_q4.1 0 rfl]; exact f_o0_0
    have f_q4_38 : (1 : Int) ≤ (q4.1 38).toInt ∧ (q4.1 38).toInt ≤ 1 := by rw [n_q4.1 38 rfl]; exact f_o0_38
    have e_q4_39 : (q4.1 39).toInt = (o0.1 39).toInt := congrArg Int32.toInt (n_q4.1 39 rfl)
    have g_q4_39 : (0 : Int) ≤ (q4.1 39).toInt ∧ (q4.1 39).toInt ≤ 8 := k_q4.1 39
    have g_q4_76 : (0 : Int) ≤ (q4.1 76).toInt ∧ (q4.1 76).toInt ≤ 90000 := k_q4.1 76
    have e_q4_95 : (q4.1 95).toInt = (o0.1 95).toInt := congrArg Int32.toInt (n_q4.1 95 rfl)
    have g_q4_95 : (0 : Int) ≤ (q4.1 95).toInt ∧ (q4.1 95).toInt ≤ 1 := k_q4.1 95
    have g_q4_96 : (0 : Int) ≤ (q4.1 96).toInt ∧ (q4.1 96).toInt ≤ 24000 := k_q4.1 96
    have zq4_0 : (q4.1 76).toInt ≤ (o0.1 76).toInt + 1 := zq4_0
    have zq4_1 : (q4.1 96).toInt ≤ (o0.1 96).toInt + 1 := zq4_1
    refine tt_b (sM_emit _ _ k_q4 f_q4_0 f_q4_38 (show (q4.1 95).toInt = 1 ∨ (q4.1 76).toInt ≤ 90000 - 1 by omega) (show (q4.1 95).toInt = 0 ∨ (q4.1 96).toInt ≤ 24000 - 1 by omega)) (fun q5 hq5 => ?_)
    obtain ⟨k_q5, n_q5, zq5_0, zq5_1, -⟩ := hq5
    have r_q5 := fr_tr r_q4 n_q5 rfl rfl rfl
    have f_q5_0 : (0 : Int) ≤ (q5.1 0).toInt ∧ (q5.1 0).toInt ≤ 0 := by rw [n_q5.1 0 rfl]; exact f_q4_0
    have f_q5_38 : (1 : Int) ≤ (q5.1 38).toInt ∧ (q5.1 38).toInt ≤ 1 := by rw [n_q5.1 38 rfl]; exact f_q4_38
    have e_q5_39 : (q5.1 39).toInt = (q4.1 39).toInt := congrArg Int32.toInt (n_q5.1 39 rfl)
    have g_q5_39 : (0 : Int) ≤ (q5.1 39).toInt ∧ (q5.1 39).toInt ≤ 8 := k_q5.1 39
    have g_q5_76 : (0 : Int) ≤ (q5.1 76).toInt ∧ (q5.1 76).toInt ≤ 90000 := k_q5.1 76
    have e_q5_95 : (q5.1 95).toInt = (q4.1 95).toInt := congrArg Int32.toInt (n_q5.1 95 rfl)
    have g_q5_95 : (0 : Int) ≤ (q5.1 95).toInt ∧ (q5.1 95).toInt ≤ 1 := k_q5.1 95
    have g_q5_96 : (0 : Int) ≤ (q5.1 96).toInt ∧ (q5.1 96).toInt ≤ 24000 := k_q5.1 96
    have zq5_0 : (q5.1 76).toInt ≤ (q4.1 76).toInt + 1 := zq5_0
    have zq5_1 : (q5.1 96).toInt ≤ (q4.1 96).toInt + 1 := zq5_1
    refine tt_b (sM_emit _ _ k_q5 f_q5_0 f_q5_38 (show (q5.1 95).toInt = 1 ∨ (q5.1 76).toInt ≤ 90000 - 1 by omega) (show (q5.1 95).toInt = 0 ∨ (q5.1 96).toInt ≤ 24000 - 1 by omega)) (fun q6 hq6 => ?_)
    obtain ⟨k_q6, n_q6, zq6_0, zq6_1, -⟩ := hq6
    have r_q6 := fr_tr r_q5 n_q6 rfl rfl rfl
    have f_q6_0 : (0 : Int) ≤ (q6.1 0).toInt ∧ (q6.1 0).toInt ≤ 0 := by rw [n_q6.1 0 rfl]; exact f_q5_0
    have f_q6_38 : (1 : Int) ≤ (q6.1 38).toInt ∧ (q6.1 38).toInt ≤ 1 := by rw [n_q6.1 38 rfl]; exact f_q5_38
    have e_q6_39 : (q6.1 39).toInt = (q5.1 39).toInt := congrArg Int32.toInt (n_q6.1 39 rfl)
    have g_q6_39 : (0 : Int) ≤ (q6.1 39).toInt ∧ (q6.1 39).toInt ≤ 8 := k_q6.1 39
    have g_q6_76 : (0 : Int) ≤ (q6.1 76).toInt ∧ (q6.1 76).toInt ≤ 90000 := k_q6.1 76
    have e_q6_95 : (q6.1 95).toInt = (q5.1 95).toInt := congrArg Int32.toInt (n_q6.1 95 rfl)
    have g_q6_95 : (0 : Int) ≤ (q6.1 95).toInt ∧ (q6.1 95).toInt ≤ 1 := k_q6.1 95
    have g_q6_96 : (0 : Int) ≤ (q6.1 96).toInt ∧ (q6.1 96).toInt ≤ 24000 := k_q6.1 96
    have zq6_0 : (q6.1 76).toInt ≤ (q5.1 76).toInt + 1 := zq6_0
    have zq6_1 : (q6.1 96).toInt ≤ (q5.1 96).toInt + 1 := zq6_1
    exact H _ _ _ k_q6 r_q6 i_v1 (iv_w (a := 0) (b := 100) (by decide) (by decide) (show (100 : Int) ≤ (100 : Int32).toInt ∧ (100 : Int32).toInt ≤ 100 by decide)) f_q6_0 f_q6_38 (show (100 = 100 ∧ (q6.1 76).toInt ≤ (o0.1 76).toInt + 3 ∧ (q6.1 96).toInt ≤ (o0.1 96).toInt + 3) ∨ (100 = 10 ∧ (q6.1 76).toInt ≤ (o0.1 76).toInt + 4 ∧ (q6.1 96).toInt ≤ (o0.1 96).toInt + 4) ∨ (100 = 1 ∧ (q6.1 76).toInt ≤ (o0.1 76).toInt + 5 ∧ (q6.1 96).toInt ≤ (o0.1 96).toInt + 5) ∨ (100 = 0 ∧ (q6.1 76).toInt ≤ (o0.1 76).toInt + 6 ∧ (q6.1 96).toInt ≤ (o0.1 96).toInt + 6) by omega) (show (q6.1 95).toInt = 1 ∨ (o0.1 76).toInt ≤ 90000 - 9 by omega) (show (q6.1 95).toInt = 0 ∨ (o0.1 96).toInt ≤ 24000 - 9 by omega) (show 100 < ((cfFU : Nat) : Int) by omega)
  · have wc3 : v1.toInt < x1.toInt := c_nle c3
    have i7 : (1 : Int) ≤ v1.toInt ∧ v1.toInt ≤ 8 := nr_nlel c3 i_v1 i2 (by decide) (by decide)
    have i8 : (2 : Int) ≤ x1.toInt ∧ x1.toInt ≤ 9 := nr_nler c3 i_v1 i2 (by decide) (by decide)
    have i9 : (1 : Int) ≤ (o0.1 39).toInt ∧ (o0.1 39).toInt ≤ 8 := by omega
    refine tt_kv (P := fun z => ((0 : Int) ≤ z.toInt ∧ z.toInt ≤ 7) ∧ z.toInt = v1.toInt - 1) ⟨iv_sub i7 (show (1 : Int) ≤ (1 : Int32).toInt ∧ (1 : Int32).toInt ≤ 1 by decide) (by decide) (by decide) (by decide) (by decide), iq_sub i7 (show (1 : Int) ≤ (1 : Int32).toInt ∧ (1 : Int32).toInt ≤ 1 by decide) (by decide) (by decide)⟩ (fun x10 qi11 => ?_)
    obtain ⟨i11, ei11⟩ := qi11
    refine tt_b (sM_name_M41 _ _ k_o0 i11 f_o0_0 f_o0_38 i9 (show (o0.1 95).toInt = 1 ∨ (o0.1 76).toInt ≤ 90000 - 9 by omega) (show (o0.1 95).toInt = 0 ∨ (o0.1 96).toInt ≤ 24000 - 9 by omega)) (fun q12 hq12 => ?_)
    obtain ⟨k_q12, n_q12, zq12_0, zq12_1, -⟩ := hq12
    have r_q12 := fr_tr r_o0 n_q12 rfl rfl rfl
    have f_q12_0 : (0 : Int) ≤ (q12.1 0).toInt ∧ (q12.1 0).toInt ≤ 0 := by rw [n_q12.1 0 rfl]; exact f_o0_0
    have f_q12_38 : (1 : Int) ≤ (q12.1 38).toInt ∧ (q12.1 38).toInt ≤ 1 := by rw [n_q12.1 38 rfl]; exact f_o0_38
    have f_q12_39 : (1 : Int) ≤ (q12.1 39).toInt ∧ (q12.1 39).toInt ≤ 8 := by rw [n_q12.1 39 rfl]; exact i9
    have e_q12_39 : (q12.1 39).toInt = (o0.1 39).toInt := congrArg Int32.toInt (n_q12.1 39 rfl)
    have g_q12_76 : (0 : Int) ≤ (q12.1 76).toInt ∧ (q12.1 76).toInt ≤ 90000 := k_q12.1 76
    have e_q12_95 : (q12.1 95).toInt = (o0.1 95).toInt := congrArg Int32.toInt (n_q12.1 95 rfl)
    have g_q12_95 : (0 : Int) ≤ (q12.1 95).toInt ∧ (q12.1 95).toInt ≤ 1 := k_q12.1 95
    have g_q12_96 : (0 : Int) ≤ (q12.1 96).toInt ∧ (q12.1 96).toInt ≤ 24000 := k_q12.1 96
    have zq12_0 : (q12.1 76).toInt ≤ (o0.1 76).toInt + 9 := zq12_0
    have zq12_1 : (q12.1 96).toInt ≤ (o0.1 96).toInt + 9 := zq12_1
    exact tt_some ⟨k_q12, r_q12, (show (q12.1 76).toInt ≤ (o0.1 76).toInt + 9 by omega), (show (q12.1 96).toInt ≤ (o0.1 96).toInt + 9 by omega), trivial⟩
def QM_cellValue (v1 : Int32) (v2 : Int32) (o0 : cf_O) (r : (Int32 × cf_O)) : Prop := ((0 : Int) ≤ r.1.toInt ∧ r.1.toInt ≤ 1) ∧ (okO I_M r.2) ∧ (Fr (fr_M [] [75] []) o0 r.2) ∧ True
def HM_cellValue (yv1 : Int32) (yv2 : Int32) (yo0 : cf_O) (n : Nat) : Prop := (∀ (v1 : Int32) (v2 : Int32) (v3 : Int32) (v4 : Int32) (o0 : cf_O), (okO I_M o0) → (Fr (fr_M [] [75] []) yo0 o0) → ((0 : Int) ≤ v1.toInt ∧ v1.toInt ≤ 208) → ((0 : Int) ≤ v2.toInt ∧ v2.toInt ≤ 31) → ((0 : Int) ≤ v3.toInt ∧ v3.toInt ≤ 63209) → ((0 : Int) ≤ v4.toInt ∧ v4.toInt ≤ 209) → ((0 : Int) ≤ (o0.1 0).toInt ∧ (o0.1 0).toInt ≤ 0) → ((0 : Int) ≤ (o0.1 95).toInt ∧ (o0.1 95).toInt ≤ 0) → (v1.toInt ≤ (o0.1 39).toInt + (o0.1 43).toInt) → 0 + (209 - v4.toInt) * 14 < (n : Int) → tt (gM_cellValue n 0 v1 v2 v3 v4 0 o0) (QM_cellValue yv1 yv2 yo0)) ∧ (∀ (v1 : Int32) (v2 : Int32) (v3 : Int32) (v4 : Int32) (v5 : Int32) (o0 : cf_O), (okO I_M o0) → (Fr (fr_M [] [75] []) yo0 o0) → ((0 : Int) ≤ v1.toInt ∧ v1.toInt ≤ 208) → ((0 : Int) ≤ v2.toInt ∧ v2.toInt ≤ 31) → ((0 : Int) ≤ v3.toInt ∧ v3.toInt ≤ 63209) → ((0 : Int) ≤ v4.toInt ∧ v4.toInt ≤ 208) → ((0 : Int) ≤ v5.toInt ∧ v5.toInt ≤ 5) → ((0 : Int) ≤ (o0.1 0).toInt ∧ (o0.1 0).toInt ≤ 0) → ((0 : Int) ≤ (o0.1 95).toInt ∧ (o0.1 95).toInt ≤ 0) → (v1.toInt ≤ (o0.1 39).toInt + (o0.1 43).toInt) → 0 + (209 - v4.toInt - 1) * 14 + 1 + (5 - v5.toInt) * 2 < (n : Int) → tt (gM_cellValue n 1 v1 v2 v3 v4 v5 o0) (QM_cellValue yv1 yv2 yo0))
set_option maxHeartbeats 4000000 in
set_option maxRecDepth 100000 in
theorem tM_cellValue_86 {yv1 : Int32} {yv2 : Int32} {yo0 : cf_O} {n : Nat} (H : HM_cellValue yv1 yv2 yo0 n) (v1 : Int32) (v2 : Int32) (v3 : Int32) (v4 : Int32) (v5 : Int32) (o0 : cf_O) (k_o0 : okO I_M o0) (r_o0 : Fr (fr_M [] [75] []) yo0 o0) (i_v1 : (0 : Int) ≤ v1.toInt ∧ v1.toInt ≤ 208) (i_v2 : (0 : Int) ≤ v2.toInt ∧ v2.toInt ≤ 31) (i_v3 : (0 : Int) ≤ v3.toInt ∧ v3.toInt ≤ 63209) (i_v4 : (0 : Int) ≤ v4.toInt ∧ v4.toInt ≤ 208) (i_v5 : (0 : Int) ≤ v5.toInt ∧ v5.toInt ≤ 5) (f_o0_0 : (0 : Int) ≤ (o0.1 0).toInt ∧ (o0.1 0).toInt ≤ 0) (f_o0_95 : (0 : Int) ≤ (o0.1 95).toInt ∧ (o0.1 95).toInt ≤ 0) (x_0 : v1.toInt ≤ (o0.1 39).toInt + (o0.1 43).toInt) (hm : 0 + (209 - v4.toInt - 1) * 14 + 1 + (5 - v5.toInt) * 2 ≤ (n : Int)) : tt (fM_cellValue_86 (gM_cellValue n) v1 v2 v3 v4 v5 o0) (QM_cellValue yv1 yv2 yo0) := by
  unfold fM_cellValue_86
  have g_o0_39 : (0 : Int) ≤ (o0.1 39).toInt ∧ (o0.1 39).toInt ≤ 8 := k_o0.1 39
  have ey_o0_39 : (o0.1 39).toInt = (yo0.1 39).toInt := congrArg Int32.toInt (r_o0.1 39 rfl)
  have g_o0_43 : (0 : Int) ≤ (o0.1 43).toInt ∧ (o0.1 43).toInt ≤ 200 := k_o0.1 43
  have ey_o0_43 : (o0.1 43).toInt = (yo0.1 43).toInt := congrArg Int32.toInt (r_o0.1 43 rfl)
  refine tt_n (ix_ok i_v3 (by decide) (by decide)) ?_
  refine tt_kv (P := fun z => ((0 : Int) ≤ z.toInt ∧ z.toInt ≤ 5) ∧ z.toInt = (o0.2.1 59 v3.toNatClampNeg).toInt) ⟨(k_o0.2 59 _), rfl⟩ (fun x1 qi2 => ?_)
  obtain ⟨i2, ei2⟩ := qi2
  refine tt_if (fun c3 => ?_) (fun c3 => ?_)
  · have wc3 : x1.toInt ≤ v5.toInt := c_le c3
    refine tt_kv (P := fun z => ((1 : Int) ≤ z.toInt ∧ z.toInt ≤ 209) ∧ z.toInt = v4.toInt + 1) ⟨iv_add i_v4 (show (1 : Int) ≤ (1 : Int32).toInt ∧ (1 : Int32).toInt ≤ 1 by decide) (by decide) (by decide) (by decide) (by decide), iq_add i_v4 (show (1 : Int) ≤ (1 : Int32).toInt ∧ (1 : Int32).toInt ≤ 1 by decide) (by decide) (by decide)⟩ (fun x4 qi5 => ?_)
    obtain ⟨i5, ei5⟩ := qi5
    exact H.1 _ _ _ _ _ k_o0 r_o0 i_v1 i_v2 i_v3 (iv_w (a := 0) (b := 209) (by decide) (by decide) i5) f_o0_0 f_o0_95 (show v1.toInt ≤ (o0.1 39).toInt + (o0.1 43).toInt by omega) (show 0 + (209 - x4.toInt) * 14 < (n : Int) by omega)
  · have wc3 : v5.toInt < x1.toInt := c_nle c3
    have i6 : (0 : Int) ≤ v5.toInt ∧ v5.toInt ≤ 4 := nr_nlel c3 i_v5 i2 (by decide) (by decide)
    have i7 : (1 : Int) ≤ x1.toInt ∧ x1.toInt ≤ 5 := nr_nler c3 i_v5 i2 (by decide) (by decide)
    refine tt_kv (P := fun z => ((0 : Int) ≤ z.toInt ∧ z.toInt ≤ 316045) ∧ z.toInt = 5 * v3.toInt) ⟨iv_mul (show (5 : Int) ≤ (5 : Int32).toInt ∧ (5 : Int32).toInt ≤ 5 by decide) i_v3 (by decide) (by decide) (by decide) (by decide) (by decide), iq_mul (show (5 : Int) ≤ (5 : Int32).toInt ∧ (5 : Int32).toInt ≤ 5 by decide) i_v3 (by decide) (by decide) (by decide) (by decide)⟩ (fun x8 qi9 => ?_)
    obtain ⟨i9, ei9⟩ := qi9
    refine tt_kv (P := fun z => ((0 : Int) ≤ z.toInt ∧ z.toInt ≤ 316049) ∧ z.toInt = x8.toInt + v5.toInt) ⟨iv_add i9 i6 (by decide) (by decide) (by decide) (by decide), iq_add i9 i6 (by decide) (by decide)⟩ (fun x10 qi11 => ?_)
    obtain ⟨i11, ei11⟩ := qi11
    refine tt_n (ix_ok i11 (by decide) (by decide)) ?_
    refine tt_kv (P := fun z => ((0 : Int) ≤ z.toInt ∧ z.toInt ≤ 208) ∧ z.toInt = (o0.2.1 58 x10.toNatClampNeg).toInt) ⟨(k_o0.2 58 _), rfl⟩ (fun x12 qi13 => ?_)
    obtain ⟨i13, ei13⟩ := qi13
    refine tt_if (fun c14 => ?_) (fun c14 => ?_)
    · have wc14 : x12.toInt = v4.toInt := c_eq c14
      refine tt_kv (P := fun z => (0 : Int) ≤ z.toInt ∧ z.toInt ≤ 31) (iv_shr (p := 0) (q := 4) i_v2 i6 (by decide) (by decide) (by decide) (by decide)) (fun x15 i16 => ?_)
      refine tt_kv (P := fun z => (0 : Int) ≤ z.toInt ∧ z.toInt ≤ 1) (iv_and (show (1 : Int) ≤ (1 : Int32).toInt ∧ (1 : Int32).toInt ≤ 1 by decide) (by decide) (by decide) (by decide)) (fun x17 i18 => ?_)
      refine tt_if (fun c19 => ?_) (fun c19 => ?_)
      · have wc19 : x17.toInt = (1 : Int) := c_eq c19
        have i20 : (1 : Int) ≤ x17.toInt ∧ x17.toInt ≤ 1 := nr_eql c19 i18 (show (1 : Int) ≤ (1 : Int32).toInt ∧ (1 : Int32).toInt ≤ 1 by decide) (by decide) (by decide)
        try unfold fM_cellValue_144
        refine tt_n (ix_ok i_v4 (by decide) (by decide)) ?_
        refine tt_ko ?_
        have k21 := ok_xp (k := 75) (i := v4.toNatClampNeg) (v := (vp_nar .boolean 1)) k_o0 (iv_nz _)
        have r22 := fr_xp (k := 75) (i := v4.toNatClampNeg) (v := (vp_nar .boolean 1)) r_o0 rfl
        refine tt_kv (P := fun z => ((1 : Int) ≤ z.toInt ∧ z.toInt ≤ 5) ∧ z.toInt = v5.toInt + 1) ⟨iv_add i6 (show (1 : Int) ≤ (1 : Int32).toInt ∧ (1 : Int32).toInt ≤ 1 by decide) (by decide) (by decide) (by decide) (by decide), iq_add i6 (show (1 : Int) ≤ (1 : Int32).toInt ∧ (1 : Int32).toInt ≤ 1 by decide) (by decide) (by decide)⟩ (fun x23 qi24 => ?_)
        obtain ⟨i24, ei24⟩ := qi24
        exact H.2 _ _ _ _ _ _ k21 r22 i_v1 i_v2 i_v3 i_v4 (iv_w (a := 0) (b := 5) (by decide) (by decide) i24) f_o0_0 f_o0_95 (show v1.toInt ≤ (o0.1 39).toInt + (o0.1 43).toInt by omega) (show 0 + (209 - v4.toInt - 1) * 14 + 1 + (5 - x23.toInt) * 2 < (n : Int) by omega)
      · have wc19 : ¬ x17.toInt = (1 : Int) := c_ne c19
        have i25 : (0 : Int) ≤ x17.toInt ∧ x17.toInt ≤ 0 := nr_nelb c19 i18 (show (1 : Int) ≤ (1 : Int32).toInt ∧ (1 : Int32).toInt ≤ 1 by decide) (by decide) (by decide)
        try unfold fM_cellValue_144
        refine tt_n (ix_ok i_v4 (by decide) (by decide)) ?_
        refine tt_ko ?_
        have k26 := ok_xp (k := 75) (i := v4.toNatClampNeg) (v := (vp_nar .boolean 0)) k_o0 (iv_nz _)
        have r27 := fr_xp (k := 75) (i := v4.toNatClampNeg) (v := (vp_nar .boolean 0)) r_o0 rfl
        refine tt_kv (P := fun z => ((1 : Int) ≤ z.toInt ∧ z.toInt ≤ 5) ∧ z.toInt = v5.toInt + 1) ⟨iv_add i6 (show (1 : Int) ≤ (1 : Int32).toInt ∧ (1 : Int32).toInt ≤ 1 by decide) (by decide) (by decide) (by decide) (by decide), iq_add i6 (show (1 : Int) ≤ (1 : Int32).toInt ∧ (1 : Int32).toInt ≤ 1 by decide) (by decide) (by decide)⟩ (fun x28 qi29 => ?_)
        obtain ⟨i29, ei29⟩ := qi29
        exact H.2 _ _ _ _ _ _ k26 r27 i_v1 i_v2 i_v3 i_v4 (iv_w (a := 0) (b := 5) (by decide) (by decide) i29) f_o0_0 f_o0_95 (show v1.toInt ≤ (o0.1 39).toInt + (o0.1 43).toInt by omega) (show 0 + (209 - v4.toInt - 1) * 14 + 1 + (5 - x28.toInt) * 2 < (n : Int) by omega)
    · have wc14 : ¬ x12.toInt = v4.toInt := c_ne c14
      refine tt_n (ix_ok i_v4 (by decide) (by decide)) ?_
      refine tt_kv (P := fun z => ((0 : Int) ≤ z.toInt ∧ z.toInt ≤ 1) ∧ z.toInt = (o0.2.1 75 v4.toNatClampNeg).toInt) ⟨(k_o0.2 75 _), rfl⟩ (fun x30 qi31 => ?_)
      obtain ⟨i31, ei31⟩ := qi31
      try unfold fM_cellValue_144
      refine tt_n (ix_ok i_v4 (by decide) (by decide)) ?_
      refine tt_ko ?_
      have k32 := ok_xp (k := 75) (i := v4.toNatClampNeg) (v := (vp_nar .boolean x30)) k_o0 (iv_nz _)
      have r33 := fr_xp (k := 75) (i := v4.toNatClampNeg) (v := (vp_nar .boolean x30)) r_o0 rfl
      refine tt_kv (P := fun z => ((1 : Int) ≤ z.toInt ∧ z.toInt ≤ 5) ∧ z.toInt = v5.toInt + 1) ⟨iv_add i6 (show (1 : Int) ≤ (1 : Int32).toInt ∧ (1 : Int32).toInt ≤ 1 by decide) (by decide) (by decide) (by decide) (by decide), iq_add i6 (show (1 : Int) ≤ (1 : Int32).toInt ∧ (1 : Int32).toInt ≤ 1 by decide) (by decide) (by decide)⟩ (fun x34 qi35 => ?_)
      obtain ⟨i35, ei35⟩ := qi35
      exact H.2 _ _ _ _ _ _ k32 r33 i_v1 i_v2 i_v3 i_v4 (iv_w (a := 0) (b := 5) (by decide) (by decide) i35) f_o0_0 f_o0_95 (show v1.toInt ≤ (o0.1 39).toInt + (o0.1 43).toInt by omega) (show 0 + (209 - v4.toInt - 1) * 14 + 1 + (5 - x34.toInt) * 2 < (n : Int) by omega)
set_option maxHeartbeats 4000000 in
set_option maxRecDepth 100000 in
theorem tM_cellValue_10 {yv1 : Int32} {yv2 : Int32} {yo0 : cf_O} {n : Nat} (H : HM_cellValue yv1 yv2 yo0 n) (v1 : Int32) (v2 : Int32) (v3 : Int32) (v4 : Int32) (o0 : cf_O) (k_o0 : okO I_M o0) (r_o0 : Fr (fr_M [] [75] []) yo0 o0) (i_v1 : (0 : Int) ≤ v1.toInt ∧ v1.toInt ≤ 208) (i_v2 : (0 : Int) ≤ v2.toInt ∧ v2.toInt ≤ 31) (i_v3 : (0 : Int) ≤ v3.toInt ∧ v3.toInt ≤ 63209) (i_v4 : (0 : Int) ≤ v4.toInt ∧ v4.toInt ≤ 209) (f_o0_0 : (0 : Int) ≤ (o0.1 0).toInt ∧ (o0.1 0).toInt ≤ 0) (f_o0_95 : (0 : Int) ≤ (o0.1 95).toInt ∧ (o0.1 95).toInt ≤ 0) (x_0 : v1.toInt ≤ (o0.1 39).toInt + (o0.1 43).toInt) (hm : 0 + (209 - v4.toInt) * 14 ≤ (n : Int)) : tt (fM_cellValue_10 (gM_cellValue n) v1 v2 v3 v4 o0) (QM_cellValue yv1 yv2 yo0) := by
  unfold fM_cellValue_10
  have g_o0_39 : (0 : Int) ≤ (o0.1 39).toInt ∧ (o0.1 39).toInt ≤ 8 := k_o0.1 39
  have ey_o0_39 : (o0.1 39).toInt = (yo0.1 39).toInt := congrArg Int32.toInt (r_o0.1 39 rfl)
  have g_o0_43 : (0 : Int) ≤ (o0.1 43).toInt ∧ (o0.1 43).toInt ≤ 200 := k_o0.1 43
  have ey_o0_43 : (o0.1 43).toInt = (yo0.1 43).toInt := congrArg Int32.toInt (r_o0.1 43 rfl)
  refine tt_if (fun c1 => ?_) (fun c1 => ?_)
  · have wc1 : v1.toInt < v4.toInt := c_lt c1
    have i2 : (1 : Int) ≤ v4.toInt ∧ v4.toInt ≤ 209 := nr_ltr c1 i_v1 i_v4 (by decide) (by decide)
    refine tt_n (ix_ok i_v1 (by decide) (by decide)) ?_
    refine tt_kv (P := fun z => ((0 : Int) ≤ z.toInt ∧ z.toInt ≤ 1) ∧ z.toInt = (o0.2.1 75 v1.toNatClampNeg).toInt) ⟨(k_o0.2 75 _), rfl⟩ (fun x3 qi4 => ?_)
    obtain ⟨i4, ei4⟩ := qi4
    refine tt_w (iv_b i4 (by decide) (by decide)) ?_
    exact tt_some ⟨i4, k_o0, r_o0, trivial⟩
  · have wc1 : v4.toInt ≤ v1.toInt := c_nlt c1
    have i5 : (0 : Int) ≤ v4.toInt ∧ v4.toInt ≤ 208 := nr_nltl c1 i_v4 i_v1 (by decide) (by decide)
    refine tt_n (ix_ok i5 (by decide) (by decide)) ?_
    refine tt_ko ?_
    have k6 := ok_xp (k := 75) (i := v4.toNatClampNeg) (v := (vp_nar .boolean 0)) k_o0 (iv_nz _)
    have r7 := fr_xp (k := 75) (i := v4.toNatClampNeg) (v := (vp_nar .boolean 0)) r_o0 rfl
    try unfold fM_base
    try unfold fM_base_0
    refine tt_bkv (P := fun z => ((1 : Int) ≤ z.toInt ∧ z.toInt ≤ 9) ∧ z.toInt = (o0.1 39).toInt + 1) ⟨iv_add (k_o0.1 39) (show (1 : Int) ≤ (1 : Int32).toInt ∧ (1 : Int32).toInt ≤ 1 by decide) (by decide) (by decide) (by decide) (by decide), iq_add (k_o0.1 39) (show (1 : Int) ≤ (1 : Int32).toInt ∧ (1 : Int32).toInt ≤ 1 by decide) (by decide) (by decide)⟩ (fun x8 qi9 => ?_)
    obtain ⟨i9, ei9⟩ := qi9
    refine tt_bs ?_
    refine tt_if (fun c10 => ?_) (fun c10 => ?_)
    · have wc10 : v4.toInt < x8.toInt := c_lt c10
      have i11 : (0 : Int) ≤ v4.toInt ∧ v4.toInt ≤ 8 := nr_ltl c10 i5 i9 (by decide) (by decide)
      try unfold fM_cellValue_83
      exact H.2 _ _ _ _ _ _ k6 r7 i_v1 i_v2 i_v3 (iv_w (a := 0) (b := 208) (by decide) (by decide) i11) (iv_w (a := 0) (b := 5) (by decide) (by decide) (show (0 : Int) ≤ (0 : Int32).toInt ∧ (0 : Int32).toInt ≤ 0 by decide)) f_o0_0 f_o0_95 (show v1.toInt ≤ (o0.1 39).toInt + (o0.1 43).toInt by omega) (show 0 + (209 - v4.toInt - 1) * 14 + 1 + (5 - 0) * 2 < (n : Int) by omega)
    · have wc10 : x8.toInt ≤ v4.toInt := c_nlt c10
      have i12 : (1 : Int) ≤ v4.toInt ∧ v4.toInt ≤ 208 := nr_nltr c10 i9 i5 (by decide) (by decide)
      try unfold fM_base
      try unfold fM_base_0
      refine tt_bkv (P := fun z => ((1 : Int) ≤ z.toInt ∧ z.toInt ≤ 9) ∧ z.toInt = (o0.1 39).toInt + 1) ⟨iv_add (k_o0.1 39) (show (1 : Int) ≤ (1 : Int32).toInt ∧ (1 : Int32).toInt ≤ 1 by decide) (by decide) (by decide) (by decide) (by decide), iq_add (k_o0.1 39) (show (1 : Int) ≤ (1 : Int32).toInt ∧ (1 : Int32).toInt ≤ 1 by decide) (by decide) (by decide)⟩ (fun x13 qi14 => ?_)
      obtain ⟨i14, ei14⟩ := qi14
      refine tt_bs ?_
      refine tt_kv (P := fun z => (((-8) : Int) ≤ z.toInt ∧ z.toInt ≤ 207) ∧ z.toInt = v4.toInt - x13.toInt) ⟨iv_sub i12 i14 (by decide) (by decide) (by decide) (by decide), iq_sub i12 i14 (by decide) (by decide)⟩ (fun x15 qi16 => ?_)
      obtain ⟨i16, ei16⟩ := qi16
      refine tt_n (ix_rel (by omega) (by omega)) ?_
      have i17 : (0 : Int) ≤ x15.toInt ∧ x15.toInt ≤ 200 := (by omega)
      refine tt_kv (P := fun z => ((0 : Int) ≤ z.toInt ∧ z.toInt ≤ 417) ∧ z.toInt = (o0.2.1 44 x15.toNatClampNeg).toInt) ⟨(k6.2 44 _), rfl⟩ (fun x18 qi19 => ?_)
      obtain ⟨i19, ei19⟩ := qi19
      refine tt_b (sM_is _ _ k6 i19 f_o0_0 f_o0_95) (fun q20 hq20 => ?_)
      obtain ⟨i_q20, -⟩ := hq20
      refine tt_if (fun c21 => ?_) (fun c21 => ?_)
      · have wc21 : q20.toInt = (0 : Int) := c_eq c21
        have i22 : (0 : Int) ≤ q20.toInt ∧ q20.toInt ≤ 0 := nr_eql c21 i_q20 (show (0 : Int) ≤ (0 : Int32).toInt ∧ (0 : Int32).toInt ≤ 0 by decide) (by decide) (by decide)
        try unfold fM_cellValue_81
        try unfold fM_cellValue_82
        refine tt_n (ix_ok i12 (by decide) (by decide)) ?_
        refine tt_ko ?_
        have k23 := ok_xp (k := 75) (i := v4.toNatClampNeg) (v := (vp_nar .boolean 0)) k6 (iv_nz _)
        have r24 := fr_xp (k := 75) (i := v4.toNatClampNeg) (v := (vp_nar .boolean 0)) r7 rfl
        try unfold fM_cellValue_83
        exact H.2 _ _ _ _ _ _ k23 r24 i_v1 i_v2 i_v3 (iv_w (a := 0) (b := 208) (by decide) (by decide) i12) (iv_w (a := 0) (b := 5) (by decide) (by decide) (show (0 : Int) ≤ (0 : Int32).toInt ∧ (0 : Int32).toInt ≤ 0 by decide)) f_o0_0 f_o0_95 (show v1.toInt ≤ (o0.1 39).toInt + (o0.1 43).toInt by omega) (show 0 + (209 - v4.toInt - 1) * 14 + 1 + (5 - 0) * 2 < (n : Int) by omega)
      · have wc21 : ¬ q20.toInt = (0 : Int) := c_ne c21
        have i25 : (1 : Int) ≤ q20.toInt ∧ q20.toInt ≤ 1 := nr_nela c21 i_q20 (show (0 : Int) ≤ (0 : Int32).toInt ∧ (0 : Int32).toInt ≤ 0 by decide) (by decide) (by decide)
        try unfold fM_base
        try unfold fM_base_0
        refine tt_bkv (P := fun z => ((1 : Int) ≤ z.toInt ∧ z.toInt ≤ 9) ∧ z.toInt = (o0.1 39).toInt + 1) ⟨iv_add (k_o0.1 39) (show (1 : Int) ≤ (1 : Int32).toInt ∧ (1 : Int32).toInt ≤ 1 by decide) (by decide) (by decide) (by decide) (by decide), iq_add (k_o0.1 39) (show (1 : Int) ≤ (1 : Int32).toInt ∧ (1 : Int32).toInt ≤ 1 by decide) (by decide) (by decide)⟩ (fun x26 qi27 => ?_)
        obtain ⟨i27, ei27⟩ := qi27
        refine tt_bs ?_
        refine tt_kv (P := fun z => (((-8) : Int) ≤ z.toInt ∧ z.toInt ≤ 207) ∧ z.toInt = v4.toInt - x26.toInt) ⟨iv_sub i12 i27 (by decide) (by decide) (by decide) (by decide), iq_sub i12 i27 (by decide) (by decide)⟩ (fun x28 qi29 => ?_)
        obtain ⟨i29, ei29⟩ := qi29
        refine tt_n (ix_rel (by omega) (by omega)) ?_
        have i30 : (0 : Int) ≤ x28.toInt ∧ x28.toInt ≤ 200 := (by omega)
        refine tt_kv (P := fun z => ((0 : Int) ≤ z.toInt ∧ z.toInt ≤ 417) ∧ z.toInt = (o0.2.1 45 x28.toNatClampNeg).toInt) ⟨(k6.2 45 _), rfl⟩ (fun x31 qi32 => ?_)
        obtain ⟨i32, ei32⟩ := qi32
        refine tt_b (sM_is _ _ k6 i32 f_o0_0 f_o0_95) (fun q33 hq33 => ?_)
        obtain ⟨i_q33, -⟩ := hq33
        refine tt_if (fun c34 => ?_) (fun c34 => ?_)
        · have wc34 : q33.toInt = (0 : Int) := c_eq c34
          have i35 : (0 : Int) ≤ q33.toInt ∧ q33.toInt ≤ 0 := nr_eql c34 i_q33 (show (0 : Int) ≤ (0 : Int32).toInt ∧ (0 : Int32).toInt ≤ 0 by decide) (by decide) (by decide)
          try unfold fM_cellValue_81
          try unfold fM_cellValue_82
          refine tt_n (ix_ok i12 (by decide) (by decide)) ?_
          refine tt_ko ?_
          have k36 := ok_xp (k := 75) (i := v4.toNatClampNeg) (v := (vp_nar .boolean 0)) k6 (iv_nz _)
          have r37 := fr_xp (k := 75) (i := v4.toNatClampNeg) (v := (vp_nar .boolean 0)) r7 rfl
          try unfold fM_cellValue_83
          exact H.2 _ _ _ _ _ _ k36 r37 i_v1 i_v2 i_v3 (iv_w (a := 0) (b := 208) (by decide) (by decide) i12) (iv_w (a := 0) (b := 5) (by decide) (by decide) (show (0 : Int) ≤ (0 : Int32).toInt ∧ (0 : Int32).toInt ≤ 0 by decide)) f_o0_0 f_o0_95 (show v1.toInt ≤ (o0.1 39).toInt + (o0.1 43).toInt by omega) (show 0 + (209 - v4.toInt - 1) * 14 + 1 + (5 - 0) * 2 < (n : Int) by omega)
        · have wc34 : ¬ q33.toInt = (0 : Int) := c_ne c34
          have i38 : (1 : Int) ≤ q33.toInt ∧ q33.toInt ≤ 1 := nr_nela c34 i_q33 (show (0 : Int) ≤ (0 : Int32).toInt ∧ (0 : Int32).toInt ≤ 0 by decide) (by decide) (by decide)
          try unfold fM_cellValue_82
          refine tt_n (ix_ok i12 (by decide) (by decide)) ?_
          refine tt_ko ?_
          have k39 := ok_xp (k := 75) (i := v4.toNatClampNeg) (v := (vp_nar .boolean 1)) k6 (iv_nz _)
          have r40 := fr_xp (k := 75) (i := v4.toNatClampNeg) (v := (vp_nar .boolean 1)) r7 rfl
          try unfold fM_cellValue_83
          exact H.2 _ _ _ _ _ _ k39 r40 i_v1 i_v2 i_v3 (iv_w (a := 0) (b := 208) (by decide) (by decide) i12) (iv_w (a := 0) (b := 5) (by decide) (by decide) (show (0 : Int) ≤ (0 : Int32).toInt ∧ (0 : Int32).toInt ≤ 0 by decide)) f_o0_0 f_o0_95 (show v1.toInt ≤ (o0.1 39).toInt + (o0.1 43).toInt by omega) (show 0 + (209 - v4.toInt - 1) * 14 + 1 + (5 - 0) * 2 < (n : Int) by omega)
set_option maxHeartbeats 4000000 in
set_option maxRecDepth 100000 in
theorem hM_cellValue (yv1 : Int32) (yv2 : Int32) (yo0 : cf_O) : ∀ n, HM_cellValue yv1 yv2 yo0 n := by
  intro n
  induction n with
  | zero => exact ⟨(fun v1 v2 v3 v4 o0 k_o0 r_o0 i_v1 i_v2 i_v3 i_v4 f_o0_0 f_o0_95 x_0 hm => by exact absurd (show 0 + (209 - v4.toInt) * 14 < (0 : Int) from hm) (by omega)), (fun v1 v2 v3 v4 v5 o0 k_o0 r_o0 i_v1 i_v2 i_v3 i_v4 i_v5 f_o0_0 f_o0_95 x_0 hm => by exact absurd (show 0 + (209 - v4.toInt - 1) * 14 + 1 + (5 - v5.toInt) * 2 < (0 : Int) from hm) (by omega))⟩
  | succ n ih => exact ⟨(fun v1 v2 v3 v4 o0 k_o0 r_o0 i_v1 i_v2 i_v3 i_v4 f_o0_0 f_o0_95 x_0 hm => tM_cellValue_10 ih v1 v2 v3 v4 o0 k_o0 r_o0 i_v1 i_v2 i_v3 i_v4 f_o0_0 f_o0_95 x_0 (by omega)), (fun v1 v2 v3 v4 v5 o0 k_o0 r_o0 i_v1 i_v2 i_v3 i_v4 i_v5 f_o0_0 f_o0_95 x_0 hm => tM_cellValue_86 ih v1 v2 v3 v4 v5 o0 k_o0 r_o0 i_v1 i_v2 i_v3 i_v4 i_v5 f_o0_0 f_o0_95 x_0 (by omega))⟩
set_option maxHeartbeats 4000000 in
set_option maxRecDepth 100000 in
theorem sM_cellValue (v1 : Int32) (v2 : Int32) (o0 : cf_O) (k_o0 : okO I_M o0) (i_v1 : (0 : Int) ≤ v1.toInt ∧ v1.toInt ≤ 208) (i_v2 : (0 : Int) ≤ v2.toInt ∧ v2.toInt ≤ 31) (f_o0_0 : (0 : Int) ≤ (o0.1 0).toInt ∧ (o0.1 0).toInt ≤ 0) (f_o0_95 : (0 : Int) ≤ (o0.1 95).toInt ∧ (o0.1 95).toInt ≤ 0) (x_0 : v1.toInt ≤ (o0.1 39).toInt + (o0.1 43).toInt) : tt (fM_cellValue v1 v2 o0) (QM_cellValue v1 v2 o0) := by
  have H := hM_cellValue v1 v2 o0 cfFU
  have hm : (2929 : Int) ≤ (cfFU : Nat) := by decide
  have r_o0 : Fr (fr_M [] [75] []) o0 o0 := fr_rfl
  unfold fM_cellValue fM_cellValue_0
  have g_o0_39 : (0 : Int) ≤ (o0.1 39).toInt ∧ (o0.1 39).toInt ≤ 8 := k_o0.1 39
  have g_o0_43 : (0 : Int) ≤ (o0.1 43).toInt ∧ (o0.1 43).toInt ≤ 200 := k_o0.1 43
  refine tt_n (ix_ok i_v1 (by decide) (by decide)) ?_
  refine tt_kv (P := fun z => ((0 : Int) ≤ z.toInt ∧ z.toInt ≤ 63209) ∧ z.toInt = (o0.2.1 63 v1.toNatClampNeg).toInt) ⟨(k_o0.2 63 _), rfl⟩ (fun x1 qi2 => ?_)
  obtain ⟨i2, ei2⟩ := qi2
  exact H.1 _ _ _ _ _ k_o0 r_o0 i_v1 i_v2 i2 (iv_w (a := 0) (b := 209) (by decide) (by decide) (show (0 : Int) ≤ (0 : Int32).toInt ∧ (0 : Int32).toInt ≤ 0 by decide)) f_o0_0 f_o0_95 (show v1.toInt ≤ (o0.1 39).toInt + (o0.1 43).toInt by omega) (show 0 + (209 - 0) * 14 < ((cfFU : Nat) : Int) by omega)
def QM_writeCell (v1 : Int32) (o0 : cf_O) (r : (cf_O)) : Prop := (okO I_M r) ∧ (Fr (fr_M [76, 96] [75, 77, 97] []) o0 r) ∧ ((r.1 76).toInt ≤ (o0.1 76).toInt + 330) ∧ ((r.1 96).toInt ≤ (o0.1 96).toInt + 330) ∧ True
def HM_writeCell (yv1 : Int32) (yo0 : cf_O) (n : Nat) : Prop := (∀ (v1 : Int32) (v2 : Int32) (v3 : Int32) (v4 : Int32) (o0 : cf_O), (okO I_M o0) → (Fr (fr_M [76, 96] [75, 77, 97] []) yo0 o0) → ((0 : Int) ≤ v1.toInt ∧ v1.toInt ≤ 208) → ((0 : Int) ≤ v2.toInt ∧ v2.toInt ≤ 63209) → ((0 : Int) ≤ v3.toInt ∧ v3.toInt ≤ 5) → ((0 : Int) ≤ v4.toInt ∧ v4.toInt ≤ 5) → ((0 : Int) ≤ (o0.1 0).toInt ∧ (o0.1 0).toInt ≤ 0) → ((1 : Int) ≤ (o0.1 38).toInt ∧ (o0.1 38).toInt ≤ 1) → ((2 : Int) ≤ (o0.1 65).toInt ∧ (o0.1 65).toInt ≤ 5) → ((1 : Int) ≤ (o0.1 73).toInt ∧ (o0.1 73).toInt ≤ 200) → ((0 : Int) ≤ (o0.1 95).toInt ∧ (o0.1 95).toInt ≤ 0) → (v1.toInt ≤ (o0.1 39).toInt + (o0.1 43).toInt) → ((o0.1 76).toInt ≤ (yo0.1 76).toInt + 14 + 9 * v4.toInt) → ((o0.1 96).toInt ≤ (yo0.1 96).toInt + 14 + 9 * v4.toInt) → ((o0.1 95).toInt = 1 ∨ (yo0.1 76).toInt ≤ 90000 - 330) → ((o0.1 95).toInt = 0 ∨ (yo0.1 96).toInt ≤ 24000 - 330) → (1 ≤ v1.toInt) → (Cn (o0.2.1 59) (o0.2.1 58)) → ((v3.toInt = (o0.2.1 59 v2.toNatClampNeg).toInt)) → 450 + (5 - v4.toInt) * 2 < (n : Int) → tt (gM_writeCell n 0 v1 v2 v3 v4 0 o0) (QM_writeCell yv1 yo0)) ∧ (∀ (v1 : Int32) (v3 : Int32) (v4 : Int32) (o0 : cf_O), (okO I_M o0) → (Fr (fr_M [76, 96] [75, 77, 97] []) yo0 o0) → ((0 : Int) ≤ v1.toInt ∧ v1.toInt ≤ 208) → ((0 : Int) ≤ v3.toInt ∧ v3.toInt ≤ 5) → ((0 : Int) ≤ v4.toInt ∧ v4.toInt ≤ 32) → ((0 : Int) ≤ (o0.1 0).toInt ∧ (o0.1 0).toInt ≤ 0) → ((1 : Int) ≤ (o0.1 38).toInt ∧ (o0.1 38).toInt ≤ 1) → ((2 : Int) ≤ (o0.1 65).toInt ∧ (o0.1 65).toInt ≤ 5) → ((1 : Int) ≤ (o0.1 73).toInt ∧ (o0.1 73).toInt ≤ 200) → ((0 : Int) ≤ (o0.1 95).toInt ∧ (o0.1 95).toInt ≤ 0) → (v1.toInt ≤ (o0.1 39).toInt + (o0.1 43).toInt) → ((o0.1 76).toInt ≤ (yo0.1 76).toInt + 69 + 8 * v4.toInt) → ((o0.1 96).toInt ≤ (yo0.1 96).toInt + 69 + 8 * v4.toInt) → ((o0.1 95).toInt = 1 ∨ (yo0.1 76).toInt ≤ 90000 - 330) → ((o0.1 95).toInt = 0 ∨ (yo0.1 96).toInt ≤ 24000 - 330) → (1 ≤ v1.toInt) → 0 + (32 - v4.toInt) * 14 < (n : Int) → tt (gM_writeCell n 1 v1 0 v3 v4 0 o0) (QM_writeCell yv1 yo0)) ∧ (∀ (v1 : Int32) (v3 : Int32) (v4 : Int32) (v5 : Int32) (o0 : cf_O), (okO I_M o0) → (Fr (fr_M [76, 96] [75, 77, 97] []) yo0 o0) → ((0 : Int) ≤ v1.toInt ∧ v1.toInt ≤ 208) → ((0 : Int) ≤ v3.toInt ∧ v3.toInt ≤ 5) → ((0 : Int) ≤ v4.toInt ∧ v4.toInt ≤ 31) → ((0 : Int) ≤ v5.toInt ∧ v5.toInt ≤ 5) → ((0 : Int) ≤ (o0.1 0).toInt ∧ (o0.1 0).toInt ≤ 0) → ((1 : Int) ≤ (o0.1 38).toInt ∧ (o0.1 38).toInt ≤ 1) → ((2 : Int) ≤ (o0.1 65).toInt ∧ (o0.1 65).toInt ≤ 5) → ((1 : Int) ≤ (o0.1 73).toInt ∧ (o0.1 73).toInt ≤ 200) → ((0 : Int) ≤ (o0.1 95).toInt ∧ (o0.1 95).toInt ≤ 0) → (v1.toInt ≤ (o0.1 39).toInt + (o0.1 43).toInt) → ((o0.1 76).toInt ≤ (yo0.1 76).toInt + 69 + 8 * v4.toInt + v5.toInt) → ((o0.1 96).toInt ≤ (yo0.1 96).toInt + 69 + 8 * v4.toInt + v5.toInt) → ((o0.1 95).toInt = 1 ∨ (yo0.1 76).toInt ≤ 90000 - 330) → ((o0.1 95).toInt = 0 ∨ (yo0.1 96).toInt ≤ 24000 - 330) → (1 ≤ v1.toInt) → 0 + (32 - v4.toInt - 1) * 14 + 1 + (5 - v5.toInt) * 2 < (n : Int) → tt (gM_writeCell n 2 v1 0 v3 v4 v5 o0) (QM_writeCell yv1 yo0))
set_option maxHeartbeats 4000000 in
set_option maxRecDepth 100000 in
theorem tM_writeCell_85 {yv1 : Int32} {yo0 : cf_O} {n : Nat} (H : HM_writeCell yv1 yo0 n) (v1 : Int32) (v3 : Int32) (v4 : Int32) (v5 : Int32) (o0 : cf_O) (k_o0 : okO I_M o0) (r_o0 : Fr (fr_M [76, 96] [75, 77, 97] []) yo0 o0) (i_v1 : (0 : Int) ≤ v1.toInt ∧ v1.toInt ≤ 208) (i_v3 : (0 : Int) ≤ v3.toInt ∧ v3.toInt ≤ 5) (i_v4 : (0 : Int) ≤ v4.toInt ∧ v4.toInt ≤ 31) (i_v5 : (0 : Int) ≤ v5.toInt ∧ v5.toInt ≤ 5) (f_o0_0 : (0 : Int) ≤ (o0.1 0).toInt ∧ (o0.1 0).toInt ≤ 0) (f_o0_38 : (1 : Int) ≤ (o0.1 38).toInt ∧ (o0.1 38).toInt ≤ 1) (f_o0_65 : (2 : Int) ≤ (o0.1 65).toInt ∧ (o0.1 65).toInt ≤ 5) (f_o0_73 : (1 : Int) ≤ (o0.1 73).toInt ∧ (o0.1 73).toInt ≤ 200) (f_o0_95 : (0 : Int) ≤ (o0.1 95).toInt ∧ (o0.1 95).toInt ≤ 0) (x_0 : v1.toInt ≤ (o0.1 39).toInt + (o0.1 43).toInt) (x_1 : (o0.1 76).toInt ≤ (yo0.1 76).toInt + 69 + 8 * v4.toInt + v5.toInt) (x_2 : (o0.1 96).toInt ≤ (yo0.1 96).toInt + 69 + 8 * v4.toInt + v5.toInt) (x_3 : (o0.1 95).toInt = 1 ∨ (yo0.1 76).toInt ≤ 90000 - 330) (x_4 : (o0.1 95).toInt = 0 ∨ (yo0.1 96).toInt ≤ 24000 - 330) (x_5 : 1 ≤ v1.toInt) (hm : 0 + (32 - v4.toInt - 1) * 14 + 1 + (5 - v5.toInt) * 2 ≤ (n : Int)) : tt (fM_writeCell_85 (gM_writeCell n) v1 v3 v4 v5 o0) (QM_writeCell yv1 yo0) := by
  unfold fM_writeCell_85
  have g_o0_39 : (0 : Int) ≤ (o0.1 39).toInt ∧ (o0.1 39).toInt ≤ 8 := k_o0.1 39
  have ey_o0_39 : (o0.1 39).toInt = (yo0.1 39).toInt := congrArg Int32.toInt (r_o0.1 39 rfl)
  have g_o0_43 : (0 : Int) ≤ (o0.1 43).toInt ∧ (o0.1 43).toInt ≤ 200 := k_o0.1 43
  have ey_o0_43 : (o0.1 43).toInt = (yo0.1 43).toInt := congrArg Int32.toInt (r_o0.1 43 rfl)
  have g_o0_76 : (0 : Int) ≤ (o0.1 76).toInt ∧ (o0.1 76).toInt ≤ 90000 := k_o0.1 76
  have ey_o0_95 : (o0.1 95).toInt = (yo0.1 95).toInt := congrArg Int32.toInt (r_o0.1 95 rfl)
  have g_o0_96 : (0 : Int) ≤ (o0.1 96).toInt ∧ (o0.1 96).toInt ≤ 24000 := k_o0.1 96
  refine tt_if (fun c1 => ?_) (fun c1 => ?_)
  · have wc1 : v3.toInt ≤ v5.toInt := c_le c1
    refine tt_b (sM_emit _ _ k_o0 f_o0_0 f_o0_38 (show (o0.1 95).toInt = 1 ∨ (o0.1 76).toInt ≤ 90000 - 1 by omega) (show (o0.1 95).toInt = 0 ∨ (o0.1 96).toInt ≤ 24000 - 1 by omega)) (fun q2 hq2 => ?_)
    obtain ⟨k_q2, n_q2, zq2_0, zq2_1, -⟩ := hq2
    have r_q2 := fr_tr r_o0 n_q2 rfl rfl rfl
    have f_q2_0 : (0 : Int) ≤ (q2.1 0).toInt ∧ (q2.1 0).toInt ≤ 0 := by rw [n_q2.1 0 rfl]; exact f_o0_0
    have f_q2_65 : (2 : Int) ≤ (q2.1 65).toInt ∧ (q2.1 65).toInt ≤ 5 := by rw [n_q2.1 65 rfl]; exact f_o0_65
    have f_q2_38 : (1 : Int) ≤ (q2.1 38).toInt ∧ (q2.1 38).toInt ≤ 1 := by rw [n_q2.1 38 rfl]; exact f_o0_38
    have f_q2_73 : (1 : Int) ≤ (q2.1 73).toInt ∧ (q2.1 73).toInt ≤ 200 := by rw [n_q2.1 73 rfl]; exact f_o0_73
    have f_q2_95 : (0 : Int) ≤ (q2.1 95).toInt ∧ (q2.1 95).toInt ≤ 0 := by rw [n_q2.1 95 rfl]; exact f_o0_95
    have e_q2_39 : (q2.1 39).toInt = (o0.1 39).toInt := congrArg Int32.toInt (n_q2.1 39 rfl)
    have g_q2_39 : (0 : Int) ≤ (q2.1 39).toInt ∧ (q2.1 39).toInt ≤ 8 := k_q2.1 39
    have e_q2_43 : (q2.1 43).toInt = (o0.1 43).toInt := congrArg Int32.toInt (n_q2.1 43 rfl)
    have g_q2_43 : (0 : Int) ≤ (q2.1 43).toInt ∧ (q2.1 43).toInt ≤ 200 := k_q2.1 43
    have g_q2_76 : (0 : Int) ≤ (q2.1 76).toInt ∧ (q2.1 76).toInt ≤ 90000 := k_q2.1 76
    have e_q2_95 : (q2.1 95).toInt = (o0.1 95).toInt := congrArg Int32.toInt (n_q2.1 95 rfl)
    have g_q2_96 : (0 : Int) ≤ (q2.1 96).toInt ∧ (q2.1 96).toInt ≤ 24000 := k_q2.1 96
    have zq2_0 : (q2.1 76).toInt ≤ (o0.1 76).toInt + 1 := zq2_0
    have zq2_1 : (q2.1 96).toInt ≤ (o0.1 96).toInt + 1 := zq2_1
    refine tt_b (sM_emit _ _ k_q2 f_q2_0 f_q2_38 (show (q2.1 95).toInt = 1 ∨ (q2.1 76).toInt ≤ 90000 - 1 by omega) (show (q2.1 95).toInt = 0 ∨ (q2.1 96).toInt ≤ 24000 - 1 by omega)) (fun q3 hq3 => ?_)
    obtain ⟨k_q3, n_q3, zq3_0, zq3_1, -⟩ := hq3
    have r_q3 := fr_tr r_q2 n_q3 rfl rfl rfl
    have f_q3_0 : (0 : Int) ≤ (q3.1 0).toInt ∧ (q3.1 0).toInt ≤ 0 := by rw [n_q3.1 0 rfl]; exact f_q2_0
    have f_q3_65 : (2 : Int) ≤ (q3.1 65).toInt ∧ (q3.1 65).toInt ≤ 5 := by rw [n_q3.1 65 rfl]; exact f_q2_65
    have f_q3_38 : (1 : Int) ≤ (q3.1 38).toInt ∧ (q3.1 38).toInt ≤ 1 := by rw [n_q3.1 38 rfl]; exact f_q2_38
    have f_q3_73 : (1 : Int) ≤ (q3.1 73).toInt ∧ (q3.1 73).toInt ≤ 200 := by rw [n_q3.1 73 rfl]; exact f_q2_73
    have f_q3_95 : (0 : Int) ≤ (q3.1 95).toInt ∧ (q3.1 95).toInt ≤ 0 := by rw [n_q3.1 95 rfl]; exact f_q2_95
    have e_q3_39 : (q3.1 39).toInt = (q2.1 39).toInt := congrArg Int32.toInt (n_q3.1 39 rfl)
    have g_q3_39 : (0 : Int) ≤ (q3.1 39).toInt ∧ (q3.1 39).toInt ≤ 8 := k_q3.1 39
    have e_q3_43 : (q3.1 43).toInt = (q2.1 43).toInt := congrArg Int32.toInt (n_q3.1 43 rfl)
    have g_q3_43 : (0 : Int) ≤ (q3.1 43).toInt ∧ (q3.1 43).toInt ≤ 200 := k_q3.1 43
    have g_q3_76 : (0 : Int) ≤ (q3.1 76).toInt ∧ (q3.1 76).toInt ≤ 90000 := k_q3.1 76
    have e_q3_95 : (q3.1 95).toInt = (q2.1 95).toInt := congrArg Int32.toInt (n_q3.1 95 rfl)
    have g_q3_96 : (0 : Int) ≤ (q3.1 96).toInt ∧ (q3.1 96).toInt ≤ 24000 := k_q3.1 96
    have zq3_0 : (q3.1 76).toInt ≤ (q2.1 76).toInt + 1 := zq3_0
    have zq3_1 : (q3.1 96).toInt ≤ (q2.1 96).toInt + 1 := zq3_1
    refine tt_b (sM_emit _ _ k_q3 f_q3_0 f_q3_38 (show (q3.1 95).toInt = 1 ∨ (q3.1 76).toInt ≤ 90000 - 1 by omega) (show (q3.1 95).toInt = 0 ∨ (q3.1 96).toInt ≤ 24000 - 1 by omega)) (fun q4 hq4 => ?_)
    obtain ⟨k_q4, n_q4, zq4_0, zq4_1, -⟩ := hq4
    have r_q4 := fr_tr r_q3 n_q4 rfl rfl rfl
    have f_q4_0 : (0 : Int) ≤ (q4.1 0).toInt ∧ (q4.1 0).toInt ≤ 0 := by rw [n_q4.1 0 rfl]; exact f_q3_0
    have f_q4_65 : (2 : Int) ≤ (q4.1 65).toInt ∧ (q4.1 65).toInt ≤ 5 := by rw [n_q4.1 65 rfl]; exact f_q3_65
    have f_q4_38 : (1 : Int) ≤ (q4.1 38).toInt ∧ (q4.1 38).toInt ≤ 1 := by rw [n_q4.1 38 rfl]; exact f_q3_38
    have f_q4_73 : (1 : Int) ≤ (q4.1 73).toInt ∧ (q4.1 73).toInt ≤ 200 := by rw [n_q4.1 73 rfl]; exact f_q3_73
    have f_q4_95 : (0 : Int) ≤ (q4.1 95).toInt ∧ (q4.1 95).toInt ≤ 0 := by rw [n_q4.1 95 rfl]; exact f_q3_95
    have e_q4_39 : (q4.1 39).toInt = (q3.1 39).toInt := congrArg Int32.toInt (n_q4.1 39 rfl)
    have g_q4_39 : (0 : Int) ≤ (q4.1 39).toInt ∧ (q4.1 39).toInt ≤ 8 := k_q4.1 39
    have e_q4_43 : (q4.1 43).toInt = (q3.1 43).toInt := congrArg Int32.toInt (n_q4.1 43 rfl)
    have g_q4_43 : (0 : Int) ≤ (q4.1 43).toInt ∧ (q4.1 43).toInt ≤ 200 := k_q4.1 43
    have g_q4_76 : (0 : Int) ≤ (q4.1 76).toInt ∧ (q4.1 76).toInt ≤ 90000 := k_q4.1 76
    have e_q4_95 : (q4.1 95).toInt = (q3.1 95).toInt := congrArg Int32.toInt (n_q4.1 95 rfl)
    have g_q4_96 : (0 : Int) ≤ (q4.1 96).toInt ∧ (q4.1 96).toInt ≤ 24000 := k_q4.1 96
    have zq4_0 : (q4.1 76).toInt ≤ (q3.1 76).toInt + 1 := zq4_0
    have zq4_1 : (q4.1 96).toInt ≤ (q3.1 96).toInt + 1 := zq4_1
    try unfold fM_writeCell_133
    refine tt_kv (P := fun z => ((1 : Int) ≤ z.toInt ∧ z.toInt ≤ 32) ∧ z.toInt = v4.toInt + 1) ⟨iv_add i_v4 (show (1 : Int) ≤ (1 : Int32).toInt ∧ (1 : Int32).toInt ≤ 1 by decide) (by decide) (by decide) (by decide) (by decide), iq_add i_v4 (show (1 : Int) ≤ (1 : Int32).toInt ∧ (1 : Int32).toInt ≤ 1 by decide) (by decide) (by decide)⟩ (fun x5 qi6 => ?_)
    obtain ⟨i6, ei6⟩ := qi6
    exact H.2.1 _ _ _ _ k_q4 r_q4 i_v1 i_v3 (iv_w (a := 0) (b := 32) (by decide) (by decide) i6) f_q4_0 f_q4_38 f_q4_65 f_q4_73 f_q4_95 (show v1.toInt ≤ (q4.1 39).toInt + (q4.1 43).toInt by omega) (show (q4.1 76).toInt ≤ (yo0.1 76).toInt + 69 + 8 * x5.toInt by omega) (show (q4.1 96).toInt ≤ (yo0.1 96).toInt + 69 + 8 * x5.toInt by omega) (show (q4.1 95).toInt = 1 ∨ (yo0.1 76).toInt ≤ 90000 - 330 by omega) (show (q4.1 95).toInt = 0 ∨ (yo0.1 96).toInt ≤ 24000 - 330 by omega) (show 1 ≤ v1.toInt by omega) (show 0 + (32 - x5.toInt) * 14 < (n : Int) by omega)
  · have wc1 : v5.toInt < v3.toInt := c_nle c1
    have i7 : (0 : Int) ≤ v5.toInt ∧ v5.toInt ≤ 4 := nr_nlel c1 i_v5 i_v3 (by decide) (by decide)
    have i8 : (1 : Int) ≤ v3.toInt ∧ v3.toInt ≤ 5 := nr_nler c1 i_v5 i_v3 (by decide) (by decide)
    refine tt_kv (P := fun z => (0 : Int) ≤ z.toInt ∧ z.toInt ≤ 31) (iv_shr (p := 0) (q := 4) i_v4 i7 (by decide) (by decide) (by decide) (by decide)) (fun x9 i10 => ?_)
    refine tt_kv (P := fun z => (0 : Int) ≤ z.toInt ∧ z.toInt ≤ 1) (iv_and (show (1 : Int) ≤ (1 : Int32).toInt ∧ (1 : Int32).toInt ≤ 1 by decide) (by decide) (by decide) (by decide)) (fun x11 i12 => ?_)
    refine tt_kv (P := fun z => ((48 : Int) ≤ z.toInt ∧ z.toInt ≤ 49) ∧ z.toInt = 48 + x11.toInt) ⟨iv_add (show (48 : Int) ≤ (48 : Int32).toInt ∧ (48 : Int32).toInt ≤ 48 by decide) i12 (by decide) (by decide) (by decide) (by decide), iq_add (show (48 : Int) ≤ (48 : Int32).toInt ∧ (48 : Int32).toInt ≤ 48 by decide) i12 (by decide) (by decide)⟩ (fun x13 qi14 => ?_)
    obtain ⟨i14, ei14⟩ := qi14
    refine tt_kl (fun x15 => ?_)
    refine tt_b (sM_emit _ _ k_o0 f_o0_0 f_o0_38 (show (o0.1 95).toInt = 1 ∨ (o0.1 76).toInt ≤ 90000 - 1 by omega) (show (o0.1 95).toInt = 0 ∨ (o0.1 96).toInt ≤ 24000 - 1 by omega)) (fun q16 hq16 => ?_)
    obtain ⟨k_q16, n_q16, zq16_0, zq16_1, -⟩ := hq16
    have r_q16 := fr_tr r_o0 n_q16 rfl rfl rfl
    have f_q16_0 : (0 : Int) ≤ (q16.1 0).toInt ∧ (q16.1 0).toInt ≤ 0 := by rw [n_q16.1 0 rfl]; exact f_o0_0
    have f_q16_65 : (2 : Int) ≤ (q16.1 65).toInt ∧ (q16.1 65).toInt ≤ 5 := by rw [n_q16.1 65 rfl]; exact f_o0_65
    have f_q16_38 : (1 : Int) ≤ (q16.1 38).toInt ∧ (q16.1 38).toInt ≤ 1 := by rw [n_q16.1 38 rfl]; exact f_o0_38
    have f_q16_73 : (1 : Int) ≤ (q16.1 73).toInt ∧ (q16.1 73).toInt ≤ 200 := by rw [n_q16.1 73 rfl]; exact f_o0_73
    have f_q16_95 : (0 : Int) ≤ (q16.1 95).toInt ∧ (q16.1 95).toInt ≤ 0 := by rw [n_q16.1 95 rfl]; exact f_o0_95
    have e_q16_39 : (q16.1 39).toInt = (o0.1 39).toInt := congrArg Int32.toInt (n_q16.1 39 rfl)
    have g_q16_39 : (0 : Int) ≤ (q16.1 39).toInt ∧ (q16.1 39).toInt ≤ 8 := k_q16.1 39
    have e_q16_43 : (q16.1 43).toInt = (o0.1 43).toInt := congrArg Int32.toInt (n_q16.1 43 rfl)
    have g_q16_43 : (0 : Int) ≤ (q16.1 43).toInt ∧ (q16.1 43).toInt ≤ 200 := k_q16.1 43
    have g_q16_76 : (0 : Int) ≤ (q16.1 76).toInt ∧ (q16.1 76).toInt ≤ 90000 := k_q16.1 76
    have e_q16_95 : (q16.1 95).toInt = (o0.1 95).toInt := congrArg Int32.toInt (n_q16.1 95 rfl)
    have g_q16_96 : (0 : Int) ≤ (q16.1 96).toInt ∧ (q16.1 96).toInt ≤ 24000 := k_q16.1 96
    have zq16_0 : (q16.1 76).toInt ≤ (o0.1 76).toInt + 1 := zq16_0
    have zq16_1 : (q16.1 96).toInt ≤ (o0.1 96).toInt + 1 := zq16_1
    refine tt_kv (P := fun z => ((1 : Int) ≤ z.toInt ∧ z.toInt ≤ 5) ∧ z.toInt = v5.toInt + 1) ⟨iv_add i7 (show (1 : Int) ≤ (1 : Int32).toInt ∧ (1 : Int32).toInt ≤ 1 by decide) (by decide) (by decide) (by decide) (by decide), iq_add i7 (show (1 : Int) ≤ (1 : Int32).toInt ∧ (1 : Int32).toInt ≤ 1 by decide) (by decide) (by decide)⟩ (fun x17 qi18 => ?_)
    obtain ⟨i18, ei18⟩ := qi18
    exact H.2.2 _ _ _ _ _ k_q16 r_q16 i_v1 (iv_w (a := 0) (b := 5) (by decide) (by decide) i8) i_v4 (iv_w (a := 0) (b := 5) (by decide) (by decide) i18) f_q16_0 f_q16_38 f_q16_65 f_q16_73 f_q16_95 (show v1.toInt ≤ (q16.1 39).toInt + (q16.1 43).toInt by omega) (show (q16.1 76).toInt ≤ (yo0.1 76).toInt + 69 + 8 * v4.toInt + x17.toInt by omega) (show (q16.1 96).toInt ≤ (yo0.1 96).toInt + 69 + 8 * v4.toInt + x17.toInt by omega) (show (q16.1 95).toInt = 1 ∨ (yo0.1 76).toInt ≤ 90000 - 330 by omega) (show (q16.1 95).toInt = 0 ∨ (yo0.1 96).toInt ≤ 24000 - 330 by omega) (show 1 ≤ v1.toInt by omega) (show 0 + (32 - v4.toInt - 1) * 14 + 1 + (5 - x17.toInt) * 2 < (n : Int) by omega)
set_option maxHeartbeats 4000000 in
set_option maxRecDepth 100000 in
theorem tM_writeCell_64 {yv1 : Int32} {yo0 : cf_O} {n : Nat} (H : HM_writeCell yv1 yo0 n) (v1 : Int32) (v3 : Int32) (v4 : Int32) (o0 : cf_O) (k_o0 : okO I_M o0) (r_o0 : Fr (fr_M [76, 96] [75, 77, 97] []) yo0 o0) (i_v1 : (0 : Int) ≤ v1.toInt ∧ v1.toInt ≤ 208) (i_v3 : (0 : Int) ≤ v3.toInt ∧ v3.toInt ≤ 5) (i_v4 : (0 : Int) ≤ v4.toInt ∧ v4.toInt ≤ 32) (f_o0_0 : (0 : Int) ≤ (o0.1 0).toInt ∧ (o0.1 0).toInt ≤ 0) (f_o0_38 : (1 : Int) ≤ (o0.1 38).toInt ∧ (o0.1 38).toInt ≤ 1) (f_o0_65 : (2 : Int) ≤ (o0.1 65).toInt ∧ (o0.1 65).toInt ≤ 5) (f_o0_73 : (1 : Int) ≤ (o0.1 73).toInt ∧ (o0.1 73).toInt ≤ 200) (f_o0_95 : (0 : Int) ≤ (o0.1 95).toInt ∧ (o0.1 95).toInt ≤ 0) (x_0 : v1.toInt ≤ (o0.1 39).toInt + (o0.1 43).toInt) (x_1 : (o0.1 76).toInt ≤ (yo0.1 76).toInt + 69 + 8 * v4.toInt) (x_2 : (o0.1 96).toInt ≤ (yo0.1 96).toInt + 69 + 8 * v4.toInt) (x_3 : (o0.1 95).toInt = 1 ∨ (yo0.1 76).toInt ≤ 90000 - 330) (x_4 : (o0.1 95).toInt = 0 ∨ (yo0.1 96).toInt ≤ 24000 - 330) (x_5 : 1 ≤ v1.toInt) (hm : 0 + (32 - v4.toInt) * 14 ≤ (n : Int)) : tt (fM_writeCell_64 (gM_writeCell n) v1 v3 v4 o0) (QM_writeCell yv1 yo0) := by
  unfold fM_writeCell_64
  have g_o0_39 : (0 : Int) ≤ (o0.1 39).toInt ∧ (o0.1 39).toInt ≤ 8 := k_o0.1 39
  have ey_o0_39 : (o0.1 39).toInt = (yo0.1 39).toInt := congrArg Int32.toInt (r_o0.1 39 rfl)
  have g_o0_43 : (0 : Int) ≤ (o0.1 43).toInt ∧ (o0.1 43).toInt ≤ 200 := k_o0.1 43
  have ey_o0_43 : (o0.1 43).toInt = (yo0.1 43).toInt := congrArg Int32.toInt (r_o0.1 43 rfl)
  have g_o0_76 : (0 : Int) ≤ (o0.1 76).toInt ∧ (o0.1 76).toInt ≤ 90000 := k_o0.1 76
  have ey_o0_95 : (o0.1 95).toInt = (yo0.1 95).toInt := congrArg Int32.toInt (r_o0.1 95 rfl)
  have g_o0_96 : (0 : Int) ≤ (o0.1 96).toInt ∧ (o0.1 96).toInt ≤ 24000 := k_o0.1 96
  refine tt_kv (P := fun z => ((1 : Int) ≤ z.toInt ∧ z.toInt ≤ 32) ∧ z.toInt = ((1 : Int32) <<< (v3 &&& (31 : Int32))).toInt) ⟨iv_shl (p := 0) (q := 5) (show (1 : Int) ≤ (1 : Int32).toInt ∧ (1 : Int32).toInt ≤ 1 by decide) i_v3 (by decide) (by decide) (by decide) (by decide) (by decide), rfl⟩ (fun x1 qi2 => ?_)
  obtain ⟨i2, ei2⟩ := qi2
  refine tt_if (fun c3 => ?_) (fun c3 => ?_)
  · have wc3 : x1.toInt ≤ v4.toInt := c_le c3
    have i4 : (1 : Int) ≤ v4.toInt ∧ v4.toInt ≤ 32 := nr_ler c3 i2 i_v4 (by decide) (by decide)
    exact tt_some ⟨k_o0, r_o0, (show (o0.1 76).toInt ≤ (yo0.1 76).toInt + 330 by omega), (show (o0.1 96).toInt ≤ (yo0.1 96).toInt + 330 by omega), trivial⟩
  · have wc3 : v4.toInt < x1.toInt := c_nle c3
    have i5 : (0 : Int) ≤ v4.toInt ∧ v4.toInt ≤ 31 := nr_nlel c3 i_v4 i2 (by decide) (by decide)
    refine tt_b (sM_cellValue _ _ _ k_o0 i_v1 i5 f_o0_0 f_o0_95 (show v1.toInt ≤ (o0.1 39).toInt + (o0.1 43).toInt by omega)) (fun q6 hq6 => ?_)
    obtain ⟨i_q6, k_q6_2, n_q6_2, -⟩ := hq6
    have r_q6_2 := fr_tr r_o0 n_q6_2 rfl rfl rfl
    have f_q6_2_0 : (0 : Int) ≤ (q6.2.1 0).toInt ∧ (q6.2.1 0).toInt ≤ 0 := by rw [n_q6_2.1 0 rfl]; exact f_o0_0
    have f_q6_2_65 : (2 : Int) ≤ (q6.2.1 65).toInt ∧ (q6.2.1 65).toInt ≤ 5 := by rw [n_q6_2.1 65 rfl]; exact f_o0_65
    have f_q6_2_38 : (1 : Int) ≤ (q6.2.1 38).toInt ∧ (q6.2.1 38).toInt ≤ 1 := by rw [n_q6_2.1 38 rfl]; exact f_o0_38
    have f_q6_2_73 : (1 : Int) ≤ (q6.2.1 73).toInt ∧ (q6.2.1 73).toInt ≤ 200 := by rw [n_q6_2.1 73 rfl]; exact f_o0_73
    have f_q6_2_95 : (0 : Int) ≤ (q6.2.1 95).toInt ∧ (q6.2.1 95).toInt ≤ 0 := by rw [n_q6_2.1 95 rfl]; exact f_o0_95
    have e_q6_2_39 : (q6.2.1 39).toInt = (o0.1 39).toInt := congrArg Int32.toInt (n_q6_2.1 39 rfl)
    have g_q6_2_39 : (0 : Int) ≤ (q6.2.1 39).toInt ∧ (q6.2.1 39).toInt ≤ 8 := k_q6_2.1 39
    have e_q6_2_43 : (q6.2.1 43).toInt = (o0.1 43).toInt := congrArg Int32.toInt (n_q6_2.1 43 rfl)
    have g_q6_2_43 : (0 : Int) ≤ (q6.2.1 43).toInt ∧ (q6.2.1 43).toInt ≤ 200 := k_q6_2.1 43
    have e_q6_2_76 : (q6.2.1 76).toInt = (o0.1 76).toInt := congrArg Int32.toInt (n_q6_2.1 76 rfl)
    have g_q6_2_76 : (0 : Int) ≤ (q6.2.1 76).toInt ∧ (q6.2.1 76).toInt ≤ 90000 := k_q6_2.1 76
    have e_q6_2_95 : (q6.2.1 95).toInt = (o0.1 95).toInt := congrArg Int32.toInt (n_q6_2.1 95 rfl)
    have e_q6_2_96 : (q6.2.1 96).toInt = (o0.1 96).toInt := congrArg Int32.toInt (n_q6_2.1 96 rfl)
    have g_q6_2_96 : (0 : Int) ≤ (q6.2.1 96).toInt ∧ (q6.2.1 96).toInt ≤ 24000 := k_q6_2.1 96
    refine tt_if (fun c7 => ?_) (fun c7 => ?_)
    · have wc7 : q6.1.toInt = (0 : Int) := c_eq c7
      have i8 : (0 : Int) ≤ q6.1.toInt ∧ q6.1.toInt ≤ 0 := nr_eql c7 i_q6 (show (0 : Int) ≤ (0 : Int32).toInt ∧ (0 : Int32).toInt ≤ 0 by decide) (by decide) (by decide)
      try unfold fM_writeCell_133
      refine tt_kv (P := fun z => ((1 : Int) ≤ z.toInt ∧ z.toInt ≤ 32) ∧ z.toInt = v4.toInt + 1) ⟨iv_add i5 (show (1 : Int) ≤ (1 : Int32).toInt ∧ (1 : Int32).toInt ≤ 1 by decide) (by decide) (by decide) (by decide) (by decide), iq_add i5 (show (1 : Int) ≤ (1 : Int32).toInt ∧ (1 : Int32).toInt ≤ 1 by decide) (by decide) (by decide)⟩ (fun x9 qi10 => ?_)
      obtain ⟨i10, ei10⟩ := qi10
      exact H.2.1 _ _ _ _ k_q6_2 r_q6_2 i_v1 i_v3 (iv_w (a := 0) (b := 32) (by decide) (by decide) i10) f_q6_2_0 f_q6_2_38 f_q6_2_65 f_q6_2_73 f_q6_2_95 (show v1.toInt ≤ (q6.2.1 39).toInt + (q6.2.1 43).toInt by omega) (show (q6.2.1 76).toInt ≤ (yo0.1 76).toInt + 69 + 8 * x9.toInt by omega) (show (q6.2.1 96).toInt ≤ (yo0.1 96).toInt + 69 + 8 * x9.toInt by omega) (show (q6.2.1 95).toInt = 1 ∨ (yo0.1 76).toInt ≤ 90000 - 330 by omega) (show (q6.2.1 95).toInt = 0 ∨ (yo0.1 96).toInt ≤ 24000 - 330 by omega) (show 1 ≤ v1.toInt by omega) (show 0 + (32 - x9.toInt) * 14 < (n : Int) by omega)
    · have wc7 : ¬ q6.1.toInt = (0 : Int) := c_ne c7
      have i11 : (1 : Int) ≤ q6.1.toInt ∧ q6.1.toInt ≤ 1 := nr_nela c7 i_q6 (show (0 : Int) ≤ (0 : Int32).toInt ∧ (0 : Int32).toInt ≤ 0 by decide) (by decide) (by decide)
      exact H.2.2 _ _ _ _ _ k_q6_2 r_q6_2 i_v1 i_v3 i5 (iv_w (a := 0) (b := 5) (by decide) (by decide) (show (0 : Int) ≤ (0 : Int32).toInt ∧ (0 : Int32).toInt ≤ 0 by decide)) f_q6_2_0 f_q6_2_38 f_q6_2_65 f_q6_2_73 f_q6_2_95 (show v1.toInt ≤ (q6.2.1 39).toInt + (q6.2.1 43).toInt by omega) (show (q6.2.1 76).toInt ≤ (yo0.1 76).toInt + 69 + 8 * v4.toInt + 0 by omega) (show (q6.2.1 96).toInt ≤ (yo0.1 96).toInt + 69 + 8 * v4.toInt + 0 by omega) (show (q6.2.1 95).toInt = 1 ∨ (yo0.1 76).toInt ≤ 90000 - 330 by omega) (show (q6.2.1 95).toInt = 0 ∨ (yo0.1 96).toInt ≤ 24000 - 330 by omega) (show 1 ≤ v1.toInt by omega) (show 0 + (32 - v4.toInt - 1) * 14 + 1 + (5 - 0) * 2 < (n : Int) by omega)
set_option maxHeartbeats 4000000 in
set_option maxRecDepth 100000 in
theorem tM_writeCell_22 {yv1 : Int32} {yo0 : cf_O} {n : Nat} (H : HM_writeCell yv1 yo0 n) (v1 : Int32) (v2 : Int32) (v3 : Int32) (v4 : Int32) (o0 : cf_O) (k_o0 : okO I_M o0) (r_o0 : Fr (fr_M [76, 96] [75, 77, 97] []) yo0 o0) (i_v1 : (0 : Int) ≤ v1.toInt ∧ v1.toInt ≤ 208) (i_v2 : (0 : Int) ≤ v2.toInt ∧ v2.toInt ≤ 63209) (i_v3 : (0 : Int) ≤ v3.toInt ∧ v3.toInt ≤ 5) (i_v4 : (0 : Int) ≤ v4.toInt ∧ v4.toInt ≤ 5) (f_o0_0 : (0 : Int) ≤ (o0.1 0).toInt ∧ (o0.1 0).toInt ≤ 0) (f_o0_38 : (1 : Int) ≤ (o0.1 38).toInt ∧ (o0.1 38).toInt ≤ 1) (f_o0_65 : (2 : Int) ≤ (o0.1 65).toInt ∧ (o0.1 65).toInt ≤ 5) (f_o0_73 : (1 : Int) ≤ (o0.1 73).toInt ∧ (o0.1 73).toInt ≤ 200) (f_o0_95 : (0 : Int) ≤ (o0.1 95).toInt ∧ (o0.1 95).toInt ≤ 0) (x_0 : v1.toInt ≤ (o0.1 39).toInt + (o0.1 43).toInt) (x_1 : (o0.1 76).toInt ≤ (yo0.1 76).toInt + 14 + 9 * v4.toInt) (x_2 : (o0.1 96).toInt ≤ (yo0.1 96).toInt + 14 + 9 * v4.toInt) (x_3 : (o0.1 95).toInt = 1 ∨ (yo0.1 76).toInt ≤ 90000 - 330) (x_4 : (o0.1 95).toInt = 0 ∨ (yo0.1 96).toInt ≤ 24000 - 330) (x_5 : 1 ≤ v1.toInt) (x_6 : Cn (o0.2.1 59) (o0.2.1 58)) (x_7 : (v3.toInt = (o0.2.1 59 v2.toNatClampNeg).toInt)) (hm : 450 + (5 - v4.toInt) * 2 ≤ (n : Int)) : tt (fM_writeCell_22 (gM_writeCell n) v1 v2 v3 v4 o0) (QM_writeCell yv1 yo0) := by
  unfold fM_writeCell_22
  have g_o0_39 : (0 : Int) ≤ (o0.1 39).toInt ∧ (o0.1 39).toInt ≤ 8 := k_o0.1 39
  have ey_o0_39 : (o0.1 39).toInt = (yo0.1 39).toInt := congrArg Int32.toInt (r_o0.1 39 rfl)
  have g_o0_43 : (0 : Int) ≤ (o0.1 43).toInt ∧ (o0.1 43).toInt ≤ 200 := k_o0.1 43
  have ey_o0_43 : (o0.1 43).toInt = (yo0.1 43).toInt := congrArg Int32.toInt (r_o0.1 43 rfl)
  have g_o0_76 : (0 : Int) ≤ (o0.1 76).toInt ∧ (o0.1 76).toInt ≤ 90000 := k_o0.1 76
  have ey_o0_95 : (o0.1 95).toInt = (yo0.1 95).toInt := congrArg Int32.toInt (r_o0.1 95 rfl)
  have g_o0_96 : (0 : Int) ≤ (o0.1 96).toInt ∧ (o0.1 96).toInt ≤ 24000 := k_o0.1 96
  have t1 := tn_n v2
  have t2 := tn_n v4
  refine tt_if (fun c3 => ?_) (fun c3 => ?_)
  · have wc3 : v3.toInt ≤ v4.toInt := c_le c3
    refine tt_b (sM_nodeName _ _ k_o0 (show (1 : Int) ≤ _ ∧ _ ≤ (208 : Int) by omega) f_o0_0 f_o0_38 (show (o0.1 95).toInt = 1 ∨ (o0.1 76).toInt ≤ 90000 - 9 by omega) (show (o0.1 95).toInt = 0 ∨ (o0.1 96).toInt ≤ 24000 - 9 by omega)) (fun q4 hq4 => ?_)
    obtain ⟨k_q4, n_q4, zq4_0, zq4_1, -⟩ := hq4
    have r_q4 := fr_tr r_o0 n_q4 rfl rfl rfl
    have f_q4_0 : (0 : Int) ≤ (q4.1 0).toInt ∧ (q4.1 0).toInt ≤ 0 := by rw [n_q4.1 0 rfl]; exact f_o0_0
    have f_q4_65 : (2 : Int) ≤ (q4.1 65).toInt ∧ (q4.1 65).toInt ≤ 5 := by rw [n_q4.1 65 rfl]; exact f_o0_65
    have f_q4_38 : (1 : Int) ≤ (q4.1 38).toInt ∧ (q4.1 38).toInt ≤ 1 := by rw [n_q4.1 38 rfl]; exact f_o0_38
    have f_q4_73 : (1 : Int) ≤ (q4.1 73).toInt ∧ (q4.1 73).toInt ≤ 200 := by rw [n_q4.1 73 rfl]; exact f_o0_73
    have f_q4_95 : (0 : Int) ≤ (q4.1 95).toInt ∧ (q4.1 95).toInt ≤ 0 := by rw [n_q4.1 95 rfl]; exact f_o0_95
    have e_q4_39 : (q4.1 39).toInt = (o0.1 39).toInt := congrArg Int32.toInt (n_q4.1 39 rfl)
    have g_q4_39 : (0 : Int) ≤ (q4.1 39).toInt ∧ (q4.1 39).toInt ≤ 8 := k_q4.1 39
    have e_q4_43 : (q4.1 43).toInt = (o0.1 43).toInt := congrArg Int32.toInt (n_q4.1 43 rfl)
    have g_q4_43 : (0 : Int) ≤ (q4.1 43).toInt ∧ (q4.1 43).toInt ≤ 200 := k_q4.1 43
    have g_q4_76 : (0 : Int) ≤ (q4.1 76).toInt ∧ (q4.1 76).toInt ≤ 90000 := k_q4.1 76
    have e_q4_95 : (q4.1 95).toInt = (o0.1 95).toInt := congrArg Int32.toInt (n_q4.1 95 rfl)
    have g_q4_96 : (0 : Int) ≤ (q4.1 96).toInt ∧ (q4.1 96).toInt ≤ 24000 := k_q4.1 96
    have zq4_0 : (q4.1 76).toInt ≤ (o0.1 76).toInt + 9 := zq4_0
    have zq4_1 : (q4.1 96).toInt ≤ (o0.1 96).toInt + 9 := zq4_1
    have u5 : Cn (q4.2.1 59) (q4.2.1 58) := by rw [n_q4.2.1 58 rfl, n_q4.2.1 59 rfl]; exact x_6
    have u6 : (v3.toInt = (q4.2.1 59 v2.toNatClampNeg).toInt) := by rw [n_q4.2.1 59 rfl]; exact x_7
    refine tt_b (sM_emit _ _ k_q4 f_q4_0 f_q4_38 (show (q4.1 95).toInt = 1 ∨ (q4.1 76).toInt ≤ 90000 - 1 by omega) (show (q4.1 95).toInt = 0 ∨ (q4.1 96).toInt ≤ 24000 - 1 by omega)) (fun q7 hq7 => ?_)
    obtain ⟨k_q7, n_q7, zq7_0, zq7_1, -⟩ := hq7
    have r_q7 := fr_tr r_q4 n_q7 rfl rfl rfl
    have f_q7_0 : (0 : Int) ≤ (q7.1 0).toInt ∧ (q7.1 0).toInt ≤ 0 := by rw [n_q7.1 0 rfl]; exact f_q4_0
    have f_q7_65 : (2 : Int) ≤ (q7.1 65).toInt ∧ (q7.1 65).toInt ≤ 5 := by rw [n_q7.1 65 rfl]; exact f_q4_65
    have f_q7_38 : (1 : Int) ≤ (q7.1 38).toInt ∧ (q7.1 38).toInt ≤ 1 := by rw [n_q7.1 38 rfl]; exact f_q4_38
    have f_q7_73 : (1 : Int) ≤ (q7.1 73).toInt ∧ (q7.1 73).toInt ≤ 200 := by rw [n_q7.1 73 rfl]; exact f_q4_73
    have f_q7_95 : (0 : Int) ≤ (q7.1 95).toInt ∧ (q7.1 95).toInt ≤ 0 := by rw [n_q7.1 95 rfl]; exact f_q4_95
    have e_q7_39 : (q7.1 39).toInt = (q4.1 39).toInt := congrArg Int32.toInt (n_q7.1 39 rfl)
    have g_q7_39 : (0 : Int) ≤ (q7.1 39).toInt ∧ (q7.1 39).toInt ≤ 8 := k_q7.1 39
    have e_q7_43 : (q7.1 43).toInt = (q4.1 43).toInt := congrArg Int32.toInt (n_q7.1 43 rfl)
    have g_q7_43 : (0 : Int) ≤ (q7.1 43).toInt ∧ (q7.1 43).toInt ≤ 200 := k_q7.1 43
    have g_q7_76 : (0 : Int) ≤ (q7.1 76).toInt ∧ (q7.1 76).toInt ≤ 90000 := k_q7.1 76
    have e_q7_95 : (q7.1 95).toInt = (q4.1 95).toInt := congrArg Int32.toInt (n_q7.1 95 rfl)
    have g_q7_96 : (0 : Int) ≤ (q7.1 96).toInt ∧ (q7.1 96).toInt ≤ 24000 := k_q7.1 96
    have zq7_0 : (q7.1 76).toInt ≤ (q4.1 76).toInt + 1 := zq7_0
    have zq7_1 : (q7.1 96).toInt ≤ (q4.1 96).toInt + 1 := zq7_1
    have u8 : Cn (q7.2.1 59) (q7.2.1 58) := by rw [n_q7.2.1 58 rfl, n_q7.2.1 59 rfl]; exact u5
    have u9 : (v3.toInt = (q7.2.1 59 v2.toNatClampNeg).toInt) := by rw [n_q7.2.1 59 rfl]; exact u6
    exact H.2.1 _ _ _ _ k_q7 r_q7 i_v1 i_v3 (iv_w (a := 0) (b := 32) (by decide) (by decide) (show (0 : Int) ≤ (0 : Int32).toInt ∧ (0 : Int32).toInt ≤ 0 by decide)) f_q7_0 f_q7_38 f_q7_65 f_q7_73 f_q7_95 (show v1.toInt ≤ (q7.1 39).toInt + (q7.1 43).toInt by omega) (show (q7.1 76).toInt ≤ (yo0.1 76).toInt + 69 + 8 * 0 by omega) (show (q7.1 96).toInt ≤ (yo0.1 96).toInt + 69 + 8 * 0 by omega) (show (q7.1 95).toInt = 1 ∨ (yo0.1 76).toInt ≤ 90000 - 330 by omega) (show (q7.1 95).toInt = 0 ∨ (yo0.1 96).toInt ≤ 24000 - 330 by omega) (show 1 ≤ v1.toInt by omega) (show 0 + (32 - 0) * 14 < (n : Int) by omega)
  · have wc3 : v4.toInt < v3.toInt := c_nle c3
    have i10 : (0 : Int) ≤ v4.toInt ∧ v4.toInt ≤ 4 := nr_nlel c3 i_v4 i_v3 (by decide) (by decide)
    have i11 : (1 : Int) ≤ v3.toInt ∧ v3.toInt ≤ 5 := nr_nler c3 i_v4 i_v3 (by decide) (by decide)
    refine tt_kv (P := fun z => ((0 : Int) ≤ z.toInt ∧ z.toInt ≤ 316045) ∧ z.toInt = 5 * v2.toInt) ⟨iv_mul (show (5 : Int) ≤ (5 : Int32).toInt ∧ (5 : Int32).toInt ≤ 5 by decide) i_v2 (by decide) (by decide) (by decide) (by decide) (by decide), iq_mul (show (5 : Int) ≤ (5 : Int32).toInt ∧ (5 : Int32).toInt ≤ 5 by decide) i_v2 (by decide) (by decide) (by decide) (by decide)⟩ (fun x12 qi13 => ?_)
    obtain ⟨i13, ei13⟩ := qi13
    refine tt_kv (P := fun z => ((0 : Int) ≤ z.toInt ∧ z.toInt ≤ 316049) ∧ z.toInt = x12.toInt + v4.toInt) ⟨iv_add i13 i10 (by decide) (by decide) (by decide) (by decide), iq_add i13 i10 (by decide) (by decide)⟩ (fun x14 qi15 => ?_)
    obtain ⟨i15, ei15⟩ := qi15
    refine tt_n (ix_ok i15 (by decide) (by decide)) ?_
    refine tt_kv (P := fun z => ((0 : Int) ≤ z.toInt ∧ z.toInt ≤ 208) ∧ z.toInt = (o0.2.1 58 x14.toNatClampNeg).toInt) ⟨(k_o0.2 58 _), rfl⟩ (fun x16 qi17 => ?_)
    obtain ⟨i17, ei17⟩ := qi17
    have t18 := tn_n x14
    have t19 := x_6 v2.toNatClampNeg v4.toNatClampNeg (x14.toNatClampNeg)
    have i20 : (1 : Int) ≤ x16.toInt ∧ x16.toInt ≤ 208 := by omega
    refine tt_b (sM_nodeName _ _ k_o0 i20 f_o0_0 f_o0_38 (show (o0.1 95).toInt = 1 ∨ (o0.1 76).toInt ≤ 90000 - 9 by omega) (show (o0.1 95).toInt = 0 ∨ (o0.1 96).toInt ≤ 24000 - 9 by omega)) (fun q21 hq21 => ?_)
    obtain ⟨k_q21, n_q21, zq21_0, zq21_1, -⟩ := hq21
    have r_q21 := fr_tr r_o0 n_q21 rfl rfl rfl
    have f_q21_0 : (0 : Int) ≤ (q21.1 0).toInt ∧ (q21.1 0).toInt ≤ 0 := by rw [n_q21.1 0 rfl]; exact f_o0_0
    have f_q21_65 : (2 : Int) ≤ (q21.1 65).toInt ∧ (q21.1 65).toInt ≤ 5 := by rw [n_q21.1 65 rfl]; exact f_o0_65
    have f_q21_38 : (1 : Int) ≤ (q21.1 38).toInt ∧ (q21.1 38).toInt ≤ 1 := by rw [n_q21.1 38 rfl]; exact f_o0_38
    have f_q21_73 : (1 : Int) ≤ (q21.1 73).toInt ∧ (q21.1 73).toInt ≤ 200 := by rw [n_q21.1 73 rfl]; exact f_o0_73
    have f_q21_95 : (0 : Int) ≤ (q21.1 95).toInt ∧ (q21.1 95).toInt ≤ 0 := by rw [n_q21.1 95 rfl]; exact f_o0_95
    have e_q21_39 : (q21.1 39).toInt = (o0.1 39).toInt := congrArg Int32.toInt (n_q21.1 39 rfl)
    have g_q21_39 : (0 : Int) ≤ (q21.1 39).toInt ∧ (q21.1 39).toInt ≤ 8 := k_q21.1 39
    have e_q21_43 : (q21.1 43).toInt = (o0.1 43).toInt := congrArg Int32.toInt (n_q21.1 43 rfl)
    have g_q21_43 : (0 : Int) ≤ (q21.1 43).toInt ∧ (q21.1 43).toInt ≤ 200 := k_q21.1 43
    have g_q21_76 : (0 : Int) ≤ (q21.1 76).toInt ∧ (q21.1 76).toInt ≤ 90000 := k_q21.1 76
    have e_q21_95 : (q21.1 95).toInt = (o0.1 95).toInt := congrArg Int32.toInt (n_q21.1 95 rfl)
    have g_q21_96 : (0 : Int) ≤ (q21.1 96).toInt ∧ (q21.1 96).toInt ≤ 24000 := k_q21.1 96
    have zq21_0 : (q21.1 76).toInt ≤ (o0.1 76).toInt + 9 := zq21_0
    have zq21_1 : (q21.1 96).toInt ≤ (o0.1 96).toInt + 9 := zq21_1
    have u22 : Cn (q21.2.1 59) (q21.2.1 58) := by rw [n_q21.2.1 58 rfl, n_q21.2.1 59 rfl]; exact x_6
    have u23 : (v3.toInt = (q21.2.1 59 v2.toNatClampNeg).toInt) := by rw [n_q21.2.1 59 rfl]; exact x_7
    refine tt_kv (P := fun z => ((1 : Int) ≤ z.toInt ∧ z.toInt ≤ 5) ∧ z.toInt = v4.toInt + 1) ⟨iv_add i10 (show (1 : Int) ≤ (1 : Int32).toInt ∧ (1 : Int32).toInt ≤ 1 by decide) (by decide) (by decide) (by decide) (by decide), iq_add i10 (show (1 : Int) ≤ (1 : Int32).toInt ∧ (1 : Int32).toInt ≤ 1 by decide) (by decide) (by decide)⟩ (fun x24 qi25 => ?_)
    obtain ⟨i25, ei25⟩ := qi25
    exact H.1 _ _ _ _ _ k_q21 r_q21 i_v1 i_v2 (iv_w (a := 0) (b := 5) (by decide) (by decide) i11) (iv_w (a := 0) (b := 5) (by decide) (by decide) i25) f_q21_0 f_q21_38 f_q21_65 f_q21_73 f_q21_95 (show v1.toInt ≤ (q21.1 39).toInt + (q21.1 43).toInt by omega) (show (q21.1 76).toInt ≤ (yo0.1 76).toInt + 14 + 9 * x24.toInt by omega) (show (q21.1 96).toInt ≤ (yo0.1 96).toInt + 14 + 9 * x24.toInt by omega) (show (q21.1 95).toInt = 1 ∨ (yo0.1 76).toInt ≤ 90000 - 330 by omega) (show (q21.1 95).toInt = 0 ∨ (yo0.1 96).toInt ≤ 24000 - 330 by omega) (show 1 ≤ v1.toInt by omega) u22 u23 (show 450 + (5 - x24.toInt) * 2 < (n : Int) by omega)
set_option maxHeartbeats 4000000 in
set_option maxRecDepth 100000 in
theorem hM_writeCell (yv1 : Int32) (yo0 : cf_O) : ∀ n, HM_writeCell yv1 yo0 n := by
  intro n
  induction n with
  | zero => exact ⟨(fun v1 v2 v3 v4 o0 k_o0 r_o0 i_v1 i_v2 i_v3 i_v4 f_o0_0 f_o0_38 f_o0_65 f_o0_73 f_o0_95 x_0 x_1 x_2 x_3 x_4 x_5 x_6 x_7 hm => by exact absurd (show 450 + (5 - v4.toInt) * 2 < (0 : Int) from hm) (by omega)), (fun v1 v3 v4 o0 k_o0 r_o0 i_v1 i_v3 i_v4 f_o0_0 f_o0_38 f_o0_65 f_o0_73 f_o0_95 x_0 x_1 x_2 x_3 x_4 x_5 hm => by exact absurd (show 0 + (32 - v4.toInt) * 14 < (0 : Int) from hm) (by omega)), (fun v1 v3 v4 v5 o0 k_o0 r_o0 i_v1 i_v3 i_v4 i_v5 f_o0_0 f_o0_38 f_o0_65 f_o0_73 f_o0_95 x_0 x_1 x_2 x_3 x_4 x_5 hm => by exact absurd (show 0 + (32 - v4.toInt - 1) * 14 + 1 + (5 - v5.toInt) * 2 < (0 : Int) from hm) (by omega))⟩
  | succ n ih => exact ⟨(fun v1 v2 v3 v4 o0 k_o0 r_o0 i_v1 i_v2 i_v3 i_v4 f_o0_0 f_o0_38 f_o0_65 f_o0_73 f_o0_95 x_0 x_1 x_2 x_3 x_4 x_5 x_6 x_7 hm => tM_writeCell_22 ih v1 v2 v3 v4 o0 k_o0 r_o0 i_v1 i_v2 i_v3 i_v4 f_o0_0 f_o0_38 f_o0_65 f_o0_73 f_o0_95 x_0 x_1 x_2 x_3 x_4 x_5 x_6 x_7 (by omega)), (fun v1 v3 v4 o0 k_o0 r_o0 i_v1 i_v3 i_v4 f_o0_0 f_o0_38 f_o0_65 f_o0_73 f_o0_95 x_0 x_1 x_2 x_3 x_4 x_5 hm => tM_writeCell_64 ih v1 v3 v4 o0 k_o0 r_o0 i_v1 i_v3 i_v4 f_o0_0 f_o0_38 f_o0_65 f_o0_73 f_o0_95 x_0 x_1 x_2 x_3 x_4 x_5 (by omega)), (fun v1 v3 v4 v5 o0 k_o0 r_o0 i_v1 i_v3 i_v4 i_v5 f_o0_0 f_o0_38 f_o0_65 f_o0_73 f_o0_95 x_0 x_1 x_2 x_3 x_4 x_5 hm => tM_writeCell_85 ih v1 v3 v4 v5 o0 k_o0 r_o0 i_v1 i_v3 i_v4 i_v5 f_o0_0 f_o0_38 f_o0_65 f_o0_73 f_o0_95 x_0 x_1 x_2 x_3 x_4 x_5 (by omega))⟩
set_option maxHeartbeats 4000000 in
set_option maxRecDepth 100000 in
theorem sM_writeCell (v1 : Int32) (o0 : cf_O) (k_o0 : okO I_M o0) (i_v1 : (0 : Int) ≤ v1.toInt ∧ v1.toInt ≤ 208) (f_o0_0 : (0 : Int) ≤ (o0.1 0).toInt ∧ (o0.1 0).toInt ≤ 0) (f_o0_38 : (1 : Int) ≤ (o0.1 38).toInt ∧ (o0.1 38).toInt ≤ 1) (f_o0_65 : (2 : Int) ≤ (o0.1 65).toInt ∧ (o0.1 65).toInt ≤ 5) (f_o0_73 : (1 : Int) ≤ (o0.1 73).toInt ∧ (o0.1 73).toInt ≤ 200) (f_o0_95 : (0 : Int) ≤ (o0.1 95).toInt ∧ (o0.1 95).toInt ≤ 0) (x_0 : v1.toInt ≤ (o0.1 39).toInt + (o0.1 43).toInt) (x_1 : (o0.1 95).toInt = 1 ∨ (o0.1 76).toInt ≤ 90000 - 330) (x_2 : (o0.1 95).toInt = 0 ∨ (o0.1 96).toInt ≤ 24000 - 330) (x_3 : 1 ≤ v1.toInt) (x_4 : Cn (o0.2.1 59) (o0.2.1 58)) : tt (fM_writeCell v1 o0) (QM_writeCell v1 o0) := by
  have H := hM_writeCell v1 o0 cfFU
  have hm : (463 : Int) ≤ (cfFU : Nat) := by decide
  have r_o0 : Fr (fr_M [76, 96] [75, 77, 97] []) o0 o0 := fr_rfl
  unfold fM_writeCell fM_writeCell_0
  have g_o0_39 : (0 : Int) ≤ (o0.1 39).toInt ∧ (o0.1 39).toInt ≤ 8 := k_o0.1 39
  have g_o0_43 : (0 : Int) ≤ (o0.1 43).toInt ∧ (o0.1 43).toInt ≤ 200 := k_o0.1 43
  have g_o0_76 : (0 : Int) ≤ (o0.1 76).toInt ∧ (o0.1 76).toInt ≤ 90000 := k_o0.1 76
  have g_o0_96 : (0 : Int) ≤ (o0.1 96).toInt ∧ (o0.1 96).toInt ≤ 24000 := k_o0.1 96
  refine tt_n (ix_ok i_v1 (by decide) (by decide)) ?_
  refine tt_kv (P := fun z => ((0 : Int) ≤ z.toInt ∧ z.toInt ≤ 63209) ∧ z.toInt = (o0.2.1 63 v1.toNatClampNeg).toInt) ⟨(k_o0.2 63 _), rfl⟩ (fun x1 qi2 => ?_)
  obtain ⟨i2, ei2⟩ := qi2
  refine tt_n (ix_ok i2 (by decide) (by decide)) ?_
  refine tt_kv (P := fun z => ((0 : Int) ≤ z.toInt ∧ z.toInt ≤ 5) ∧ z.toInt = (o0.2.1 59 x1.toNatClampNeg).toInt) ⟨(k_o0.2 59 _), rfl⟩ (fun x3 qi4 => ?_)
  obtain ⟨i4, ei4⟩ := qi4
  refine tt_b (sM_word _ _ k_o0 (iv_w (a := 0) (b := 3) (by decide) (by decide) (show (2 : Int) ≤ (2 : Int32).toInt ∧ (2 : Int32).toInt ≤ 2 by decide)) f_o0_0 f_o0_38 (show (o0.1 95).toInt = 1 ∨ (o0.1 76).toInt ≤ 90000 - 14 by omega) (show (o0.1 95).toInt = 0 ∨ (o0.1 96).toInt ≤ 24000 - 14 by omega)) (fun q5 hq5 => ?_)
  obtain ⟨k_q5, n_q5, zq5_0, zq5_1, -⟩ := hq5
  have r_q5 := fr_tr r_o0 n_q5 rfl rfl rfl
  have f_q5_0 : (0 : Int) ≤ (q5.1 0).toInt ∧ (q5.1 0).toInt ≤ 0 := by rw [n_q5.1 0 rfl]; exact f_o0_0
  have f_q5_65 : (2 : Int) ≤ (q5.1 65).toInt ∧ (q5.1 65).toInt ≤ 5 := by rw [n_q5.1 65 rfl]; exact f_o0_65
  have f_q5_38 : (1 : Int) ≤ (q5.1 38).toInt ∧ (q5.1 38).toInt ≤ 1 := by rw [n_q5.1 38 rfl]; exact f_o0_38
  have f_q5_73 : (1 : Int) ≤ (q5.1 73).toInt ∧ (q5.1 73).toInt ≤ 200 := by rw [n_q5.1 73 rfl]; exact f_o0_73
  have f_q5_95 : (0 : Int) ≤ (q5.1 95).toInt ∧ (q5.1 95).toInt ≤ 0 := by rw [n_q5.1 95 rfl]; exact f_o0_95
  have e_q5_39 : (q5.1 39).toInt = (o0.1 39).toInt := congrArg Int32.toInt (n_q5.1 39 rfl)
  have g_q5_39 : (0 : Int) ≤ (q5.1 39).toInt ∧ (q5.1 39).toInt ≤ 8 := k_q5.1 39
  have e_q5_43 : (q5.1 43).toInt = (o0.1 43).toInt := congrArg Int32.toInt (n_q5.1 43 rfl)
  have g_q5_43 : (0 : Int) ≤ (q5.1 43).toInt ∧ (q5.1 43).toInt ≤ 200 := k_q5.1 43
  have g_q5_76 : (0 : Int) ≤ (q5.1 76).toInt ∧ (q5.1 76).toInt ≤ 90000 := k_q5.1 76
  have e_q5_95 : (q5.1 95).toInt = (o0.1 95).toInt := congrArg Int32.toInt (n_q5.1 95 rfl)
  have g_q5_96 : (0 : Int) ≤ (q5.1 96).toInt ∧ (q5.1 96).toInt ≤ 24000 := k_q5.1 96
  have zq5_0 : (q5.1 76).toInt ≤ (o0.1 76).toInt + 14 := zq5_0
  have zq5_1 : (q5.1 96).toInt ≤ (o0.1 96).toInt + 14 := zq5_1
  have u6 : Cn (q5.2.1 59) (q5.2.1 58) := by rw [n_q5.2.1 58 rfl, n_q5.2.1 59 rfl]; exact x_4
  have u7 : (x3.toInt = (q5.2.1 59 x1.toNatClampNeg).toInt) := by rw [n_q5.2.1 59 rfl]; exact ei4
  exact H.1 _ _ _ _ _ k_q5 r_q5 i_v1 i2 i4 (iv_w (a := 0) (b := 5) (by decide) (by decide) (show (0 : Int) ≤ (0 : Int32).toInt ∧ (0 : Int32).toInt ≤ 0 by decide)) f_q5_0 f_q5_38 f_q5_65 f_q5_73 f_q5_95 (show v1.toInt ≤ (q5.1 39).toInt + (q5.1 43).toInt by omega) (show (q5.1 76).toInt ≤ (o0.1 76).toInt + 14 + 9 * 0 by omega) (show (q5.1 96).toInt ≤ (o0.1 96).toInt + 14 + 9 * 0 by omega) (show (q5.1 95).toInt = 1 ∨ (o0.1 76).toInt ≤ 90000 - 330 by omega) (show (q5.1 95).toInt = 0 ∨ (o0.1 96).toInt ≤ 24000 - 330 by omega) (show 1 ≤ v1.toInt by omega) u6 u7 (show 450 + (5 - 0) * 2 < ((cfFU : Nat) : Int) by omega)
def QM_writeOutput (v1 : Int32) (o0 : cf_O) (r : (cf_O)) : Prop := (okO I_M r) ∧ (Fr (fr_M [76, 96] [77, 97] []) o0 r) ∧ ((r.1 76).toInt ≤ (o0.1 76).toInt + 40) ∧ ((r.1 96).toInt ≤ (o0.1 96).toInt + 40) ∧ True
set_option maxHeartbeats 4000000 in
set_option maxRecDepth 100000 in
theorem sM_writeOutput (v1 : Int32) (o0 : cf_O) (k_o0 : okO I_M o0) (i_v1 : (0 : Int) ≤ v1.toInt ∧ v1.toInt ≤ 5) (f_o0_0 : (0 : Int) ≤ (o0.1 0).toInt ∧ (o0.1 0).toInt ≤ 0) (f_o0_38 : (1 : Int) ≤ (o0.1 38).toInt ∧ (o0.1 38).toInt ≤ 1) (f_o0_40 : (1 : Int) ≤ (o0.1 40).toInt ∧ (o0.1 40).toInt ≤ 6) (f_o0_65 : (2 : Int) ≤ (o0.1 65).toInt ∧ (o0.1 65).toInt ≤ 5) (f_o0_95 : (0 : Int) ≤ (o0.1 95).toInt ∧ (o0.1 95).toInt ≤ 0) (x_0 : (o0.1 95).toInt = 1 ∨ (o0.1 76).toInt ≤ 90000 - 40) (x_1 : (o0.1 95).toInt = 0 ∨ (o0.1 96).toInt ≤ 24000 - 40) : tt (fM_writeOutput v1 o0) (QM_writeOutput v1 o0) := by
  have r_o0 : Fr (fr_M [76, 96] [77, 97] []) o0 o0 := fr_rfl
  unfold fM_writeOutput fM_writeOutput_0
  have g_o0_76 : (0 : Int) ≤ (o0.1 76).toInt ∧ (o0.1 76).toInt ≤ 90000 := k_o0.1 76
  have g_o0_93 : (0 : Int) ≤ (o0.1 93).toInt ∧ (o0.1 93).toInt ≤ 420 := k_o0.1 93
  have g_o0_96 : (0 : Int) ≤ (o0.1 96).toInt ∧ (o0.1 96).toInt ≤ 24000 := k_o0.1 96
  refine tt_n (ix_ok i_v1 (by decide) (by decide)) ?_
  refine tt_kv (P := fun z => ((0 : Int) ≤ z.toInt ∧ z.toInt ≤ 417) ∧ z.toInt = (o0.2.1 47 v1.toNatClampNeg).toInt) ⟨(k_o0.2 47 _), rfl⟩ (fun x1 qi2 => ?_)
  obtain ⟨i2, ei2⟩ := qi2
  refine tt_kv (P := fun z => ((0 : Int) ≤ z.toInt ∧ z.toInt ≤ 208) ∧ z.toInt = x1.toInt / 2) ⟨iv_div (k := 2) i2 (show (2 : Int) ≤ (2 : Int32).toInt ∧ (2 : Int32).toInt ≤ 2 by decide) (by decide) (by decide) (by decide) (by decide), i_dv (Int.le_trans (by decide) i2.1) (by decide)⟩ (fun x3 qi4 => ?_)
  obtain ⟨i4, ei4⟩ := qi4
  refine tt_n (ix_ok i_v1 (by decide) (by decide)) ?_
  refine tt_kv (P := fun z => ((0 : Int) ≤ z.toInt ∧ z.toInt ≤ 417) ∧ z.toInt = (o0.2.1 47 v1.toNatClampNeg).toInt) ⟨(k_o0.2 47 _), rfl⟩ (fun x5 qi6 => ?_)
  obtain ⟨i6, ei6⟩ := qi6
  refine tt_kv (P := fun z => ((0 : Int) ≤ z.toInt ∧ z.toInt ≤ 1) ∧ z.toInt = x5.toInt % 2) ⟨iv_rem (k := 2) i6 (show (2 : Int) ≤ (2 : Int32).toInt ∧ (2 : Int32).toInt ≤ 2 by decide) (by decide) (by decide) (by decide) (by decide), i_rem (x := x5) (y := 2) (Int.le_trans (by decide) i6.1) (by decide)⟩ (fun x7 qi8 => ?_)
  obtain ⟨i8, ei8⟩ := qi8
  refine tt_if (fun c9 => ?_) (fun c9 => ?_)
  · have wc9 : x7.toInt = (1 : Int) := c_eq c9
    have i10 : (1 : Int) ≤ x7.toInt ∧ x7.toInt ≤ 1 := nr_eql c9 i8 (show (1 : Int) ≤ (1 : Int32).toInt ∧ (1 : Int32).toInt ≤ 1 by decide) (by decide) (by decide)
    try unfold fM_writeOutput_26
    refine tt_b (sM_word _ _ k_o0 (iv_w (a := 0) (b := 3) (by decide) (by decide) (show (2 : Int) ≤ (2 : Int32).toInt ∧ (2 : Int32).toInt ≤ 2 by decide)) f_o0_0 f_o0_38 (show (o0.1 95).toInt = 1 ∨ (o0.1 76).toInt ≤ 90000 - 14 by omega) (show (o0.1 95).toInt = 0 ∨ (o0.1 96).toInt ≤ 24000 - 14 by omega)) (fun q11 hq11 => ?_)
    obtain ⟨k_q11, n_q11, zq11_0, zq11_1, -⟩ := hq11
    have r_q11 := fr_tr r_o0 n_q11 rfl rfl rfl
    have f_q11_0 : (0 : Int) ≤ (q11.1 0).toInt ∧ (q11.1 0).toInt ≤ 0 := by rw [n_q11.1 0 rfl]; exact f_o0_0
    have f_q11_65 : (2 : Int) ≤ (q11.1 65).toInt ∧ (q11.1 65).toInt ≤ 5 := by rw [n_q11.1 65 rfl]; exact f_o0_65
    have f_q11_38 : (1 : Int) ≤ (q11.1 38).toInt ∧ (q11.1 38).toInt ≤ 1 := by rw [n_q11.1 38 rfl]; exact f_o0_38
    have f_q11_40 : (1 : Int) ≤ (q11.1 40).toInt ∧ (q11.1 40).toInt ≤ 6 := by rw [n_q11.1 40 rfl]; exact f_o0_40
    have f_q11_95 : (0 : Int) ≤ (q11.1 95).toInt ∧ (q11.1 95).toInt ≤ 0 := by rw [n_q11.1 95 rfl]; exact f_o0_95
    have g_q11_76 : (0 : Int) ≤ (q11.1 76).toInt ∧ (q11.1 76).toInt ≤ 90000 := k_q11.1 76
    have e_q11_93 : (q11.1 93).toInt = (o0.1 93).toInt := congrArg Int32.toInt (n_q11.1 93 rfl)
    have g_q11_93 : (0 : Int) ≤ (q11.1 93).toInt ∧ (q11.1 93).toInt ≤ 420 := k_q11.1 93
    have e_q11_95 : (q11.1 95).toInt = (o0.1 95).toInt := congrArg Int32.toInt (n_q11.1 95 rfl)
    have g_q11_96 : (0 : Int) ≤ (q11.1 96).toInt ∧ (q11.1 96).toInt ≤ 24000 := k_q11.1 96
    have zq11_0 : (q11.1 76).toInt ≤ (o0.1 76).toInt + 14 := zq11_0
    have zq11_1 : (q11.1 96).toInt ≤ (o0.1 96).toInt + 14 := zq11_1
    refine tt_if (fun c12 => ?_) (fun c12 => ?_)
    · have wc12 : x3.toInt ≤ (0 : Int) := c_le c12
      have i13 : (0 : Int) ≤ x3.toInt ∧ x3.toInt ≤ 0 := nr_lel c12 i4 (show (0 : Int) ≤ (0 : Int32).toInt ∧ (0 : Int32).toInt ≤ 0 by decide) (by decide) (by decide)
      try unfold fM_writeOutput_41
      refine tt_b (sM_name_M42 _ _ k_q11 i_v1 f_q11_0 f_q11_38 f_q11_40 (show (q11.1 95).toInt = 1 ∨ (q11.1 76).toInt ≤ 90000 - 9 by omega) (show (q11.1 95).toInt = 0 ∨ (q11.1 96).toInt ≤ 24000 - 9 by omega)) (fun q14 hq14 => ?_)
      obtain ⟨k_q14, n_q14, zq14_0, zq14_1, -⟩ := hq14
      have r_q14 := fr_tr r_q11 n_q14 rfl rfl rfl
      have f_q14_0 : (0 : Int) ≤ (q14.1 0).toInt ∧ (q14.1 0).toInt ≤ 0 := by rw [n_q14.1 0 rfl]; exact f_q11_0
      have f_q14_65 : (2 : Int) ≤ (q14.1 65).toInt ∧ (q14.1 65).toInt ≤ 5 := by rw [n_q14.1 65 rfl]; exact f_q11_65
      have f_q14_38 : (1 : Int) ≤ (q14.1 38).toInt ∧ (q14.1 38).toInt ≤ 1 := by rw [n_q14.1 38 rfl]; exact f_q11_38
      have f_q14_40 : (1 : Int) ≤ (q14.1 40).toInt ∧ (q14.1 40).toInt ≤ 6 := by rw [n_q14.1 40 rfl]; exact f_q11_40
      have f_q14_95 : (0 : Int) ≤ (q14.1 95).toInt ∧ (q14.1 95).toInt ≤ 0 := by rw [n_q14.1 95 rfl]; exact f_q11_95
      have g_q14_76 : (0 : Int) ≤ (q14.1 76).toInt ∧ (q14.1 76).toInt ≤ 90000 := k_q14.1 76
      have e_q14_93 : (q14.1 93).toInt = (q11.1 93).toInt := congrArg Int32.toInt (n_q14.1 93 rfl)
      have g_q14_93 : (0 : Int) ≤ (q14.1 93).toInt ∧ (q14.1 93).toInt ≤ 420 := k_q14.1 93
      have e_q14_95 : (q14.1 95).toInt = (q11.1 95).toInt := congrArg Int32.toInt (n_q14.1 95 rfl)
      have g_q14_96 : (0 : Int) ≤ (q14.1 96).toInt ∧ (q14.1 96).toInt ≤ 24000 := k_q14.1 96
      have zq14_0 : (q14.1 76).toInt ≤ (q11.1 76).toInt + 9 := zq14_0
      have zq14_1 : (q14.1 96).toInt ≤ (q11.1 96).toInt + 9 := zq14_1
      refine tt_b (sM_emit _ _ k_q14 f_q14_0 f_q14_38 (show (q14.1 95).toInt = 1 ∨ (q14.1 76).toInt ≤ 90000 - 1 by omega) (show (q14.1 95).toInt = 0 ∨ (q14.1 96).toInt ≤ 24000 - 1 by omega)) (fun q15 hq15 => ?_)
      obtain ⟨k_q15, n_q15, zq15_0, zq15_1, -⟩ := hq15
      have r_q15 := fr_tr r_q14 n_q15 rfl rfl rfl
      have f_q15_0 : (0 : Int) ≤ (q15.1 0).toInt ∧ (q15.1 0).toInt ≤ 0 := by rw [n_q15.1 0 rfl]; exact f_q14_0
      have f_q15_65 : (2 : Int) ≤ (q15.1 65).toInt ∧ (q15.1 65).toInt ≤ 5 := by rw [n_q15.1 65 rfl]; exact f_q14_65
      have f_q15_38 : (1 : Int) ≤ (q15.1 38).toInt ∧ (q15.1 38).toInt ≤ 1 := by rw [n_q15.1 38 rfl]; exact f_q14_38
      have f_q15_40 : (1 : Int) ≤ (q15.1 40).toInt ∧ (q15.1 40).toInt ≤ 6 := by rw [n_q15.1 40 rfl]; exact f_q14_40
      have f_q15_95 : (0 : Int) ≤ (q15.1 95).toInt ∧ (q15.1 95).toInt ≤ 0 := by rw [n_q15.1 95 rfl]; exact f_q14_95
      have g_q15_76 : (0 : Int) ≤ (q15.1 76).toInt ∧ (q15.1 76).toInt ≤ 90000 := k_q15.1 76
      have e_q15_93 : (q15.1 93).toInt = (q14.1 93).toInt := congrArg Int32.toInt (n_q15.1 93 rfl)
      have g_q15_93 : (0 : Int) ≤ (q15.1 93).toInt ∧ (q15.1 93).toInt ≤ 420 := k_q15.1 93
      have e_q15_95 : (q15.1 95).toInt = (q14.1 95).toInt := congrArg Int32.toInt (n_q15.1 95 rfl)
      have g_q15_96 : (0 : Int) ≤ (q15.1 96).toInt ∧ (q15.1 96).toInt ≤ 24000 := k_q15.1 96
      have zq15_0 : (q15.1 76).toInt ≤ (q14.1 76).toInt + 1 := zq15_0
      have zq15_1 : (q15.1 96).toInt ≤ (q14.1 96).toInt + 1 := zq15_1
      refine tt_if (fun c16 => ?_) (fun c16 => ?_)
      · have wc16 : x3.toInt ≤ (0 : Int) := c_le c16
        refine tt_if (fun c17 => ?_) (fun c17 => ?_)
        · have wc17 : (1 : Int) = (0 : Int) := c_eq c17
          exact (dd_eq c17 (show (1 : Int) ≤ (1 : Int32).toInt ∧ (1 : Int32).toInt ≤ 1 by decide) (show (0 : Int) ≤ (0 : Int32).toInt ∧ (0 : Int32).toInt ≤ 0 by decide) (by decide)).elim
        · have wc17 : ¬ (1 : Int) = (0 : Int) := c_ne c17
          refine tt_b (sM_emit _ _ k_q15 f_q15_0 f_q15_38 (show (q15.1 95).toInt = 1 ∨ (q15.1 76).toInt ≤ 90000 - 1 by omega) (show (q15.1 95).toInt = 0 ∨ (q15.1 96).toInt ≤ 24000 - 1 by omega)) (fun q18 hq18 => ?_)
          obtain ⟨k_q18, n_q18, zq18_0, zq18_1, -⟩ := hq18
          have r_q18 := fr_tr r_q15 n_q18 rfl rfl rfl
          have f_q18_0 : (0 : Int) ≤ (q18.1 0).toInt ∧ (q18.1 0).toInt ≤ 0 := by rw [n_q18.1 0 rfl]; exact f_q15_0
          have f_q18_65 : (2 : Int) ≤ (q18.1 65).toInt ∧ (q18.1 65).toInt ≤ 5 := by rw [n_q18.1 65 rfl]; exact f_q15_65
          have f_q18_38 : (1 : Int) ≤ (q18.1 38).toInt ∧ (q18.1 38).toInt ≤ 1 := by rw [n_q18.1 38 rfl]; exact f_q15_38
          have f_q18_40 : (1 : Int) ≤ (q18.1 40).toInt ∧ (q18.1 40).toInt ≤ 6 := by rw [n_q18.1 40 rfl]; exact f_q15_40
          have f_q18_95 : (0 : Int) ≤ (q18.1 95).toInt ∧ (q18.1 95).toInt ≤ 0 := by rw [n_q18.1 95 rfl]; exact f_q15_95
          have g_q18_76 : (0 : Int) ≤ (q18.1 76).toInt ∧ (q18.1 76).toInt ≤ 90000 := k_q18.1 76
          have e_q18_93 : (q18.1 93).toInt = (q15.1 93).toInt := congrArg Int32.toInt (n_q18.1 93 rfl)
          have g_q18_93 : (0 : Int) ≤ (q18.1 93).toInt ∧ (q18.1 93).toInt ≤ 420 := k_q18.1 93
          have e_q18_95 : (q18.1 95).toInt = (q15.1 95).toInt := congrArg Int32.toInt (n_q18.1 95 rfl)
          have g_q18_96 : (0 : Int) ≤ (q18.1 96).toInt ∧ (q18.1 96).toInt ≤ 24000 := k_q18.1 96
          have zq18_0 : (q18.1 76).toInt ≤ (q15.1 76).toInt + 1 := zq18_0
          have zq18_1 : (q18.1 96).toInt ≤ (q15.1 96).toInt + 1 := zq18_1
          refine tt_b (sM_emit _ _ k_q18 f_q18_0 f_q18_38 (show (q18.1 95).toInt = 1 ∨ (q18.1 76).toInt ≤ 90000 - 1 by omega) (show (q18.1 95).toInt = 0 ∨ (q18.1 96).toInt ≤ 24000 - 1 by omega)) (fun q19 hq19 => ?_)
          obtain ⟨k_q19, n_q19, zq19_0, zq19_1, -⟩ := hq19
          have r_q19 := fr_tr r_q18 n_q19 rfl rfl rfl
          have f_q19_0 : (0 : Int) ≤ (q19.1 0).toInt ∧ (q19.1 0).toInt ≤ 0 := by rw [n_q19.1 0 rfl]; exact f_q18_0
          have f_q19_65 : (2 : Int) ≤ (q19.1 65).toInt ∧ (q19.1 65).toInt ≤ 5 := by rw [n_q19.1 65 rfl]; exact f_q18_65
          have f_q19_38 : (1 : Int) ≤ (q19.1 38).toInt ∧ (q19.1 38).toInt ≤ 1 := by rw [n_q19.1 38 rfl]; exact f_q18_38
          have f_q19_40 : (1 : Int) ≤ (q19.1 40).toInt ∧ (q19.1 40).toInt ≤ 6 := by rw [n_q19.1 40 rfl]; exact f_q18_40
          have f_q19_95 : (0 : Int) ≤ (q19.1 95).toInt ∧ (q19.1 95).toInt ≤ 0 := by rw [n_q19.1 95 rfl]; exact f_q18_95
          have g_q19_76 : (0 : Int) ≤ (q19.1 76).toInt ∧ (q19.1 76).toInt ≤ 90000 := k_q19.1 76
          have e_q19_93 : (q19.1 93).toInt = (q18.1 93).toInt := congrArg Int32.toInt (n_q19.1 93 rfl)
          have g_q19_93 : (0 : Int) ≤ (q19.1 93).toInt ∧ (q19.1 93).toInt ≤ 420 := k_q19.1 93
          have e_q19_95 : (q19.1 95).toInt = (q18.1 95).toInt := congrArg Int32.toInt (n_q19.1 95 rfl)
          have g_q19_96 : (0 : Int) ≤ (q19.1 96).toInt ∧ (q19.1 96).toInt ≤ 24000 := k_q19.1 96
          have zq19_0 : (q19.1 76).toInt ≤ (q18.1 76).toInt + 1 := zq19_0
          have zq19_1 : (q19.1 96).toInt ≤ (q18.1 96).toInt + 1 := zq19_1
          try unfold fM_writeOutput_120
          exact tt_some ⟨k_q19, r_q19, (show (q19.1 76).toInt ≤ (o0.1 76).toInt + 40 by omega), (show (q19.1 96).toInt ≤ (o0.1 96).toInt + 40 by omega), trivial⟩
      · have wc16 : (0 : Int) < x3.toInt := c_nle c16
        exact (dd_nle c16 (show (0 : Int) ≤ (0 : Int32).toInt ∧ (0 : Int32).toInt ≤ 0 by decide) i13 (by decide)).elim
    · have wc12 : (0 : Int) < x3.toInt := c_nle c12
      have i20 : (1 : Int) ≤ x3.toInt ∧ x3.toInt ≤ 208 := nr_nler c12 (show (0 : Int) ≤ (0 : Int32).toInt ∧ (0 : Int32).toInt ≤ 0 by decide) i4 (by decide) (by decide)
      refine tt_b (sM_nodeName _ _ k_q11 i20 f_q11_0 f_q11_38 (show (q11.1 95).toInt = 1 ∨ (q11.1 76).toInt ≤ 90000 - 9 by omega) (show (q11.1 95).toInt = 0 ∨ (q11.1 96).toInt ≤ 24000 - 9 by omega)) (fun q21 hq21 => ?_)
      obtain ⟨k_q21, n_q21, zq21_0, zq21_1, -⟩ := hq21
      have r_q21 := fr_tr r_q11 n_q21 rfl rfl rfl
      have f_q21_0 : (0 : Int) ≤ (q21.1 0).toInt ∧ (q21.1 0).toInt ≤ 0 := by rw [n_q21.1 0 rfl]; exact f_q11_0
      have f_q21_65 : (2 : Int) ≤ (q21.1 65).toInt ∧ (q21.1 65).toInt ≤ 5 := by rw [n_q21.1 65 rfl]; exact f_q11_65
      have f_q21_38 : (1 : Int) ≤ (q21.1 38).toInt ∧ (q21.1 38).toInt ≤ 1 := by rw [n_q21.1 38 rfl]; exact f_q11_38
      have f_q21_40 : (1 : Int) ≤ (q21.1 40).toInt ∧ (q21.1 40).toInt ≤ 6 := by rw [n_q21.1 40 rfl]; exact f_q11_40
      have f_q21_95 : (0 : Int) ≤ (q21.1 95).toInt ∧ (q21.1 95).toInt ≤ 0 := by rw [n_q21.1 95 rfl]; exact f_q11_95
      have g_q21_76 : (0 : Int) ≤ (q21.1 76).toInt ∧ (q21.1 76).toInt ≤ 90000 := k_q21.1 76
      have e_q21_93 : (q21.1 93).toInt = (q11.1 93).toInt := congrArg Int32.toInt (n_q21.1 93 rfl)
      have g_q21_93 : (0 : Int) ≤ (q21.1 93).toInt ∧ (q21.1 93).toInt ≤ 420 := k_q21.1 93
      have e_q21_95 : (q21.1 95).toInt = (q11.1 95).toInt := congrArg Int32.toInt (n_q21.1 95 rfl)
      have g_q21_96 : (0 : Int) ≤ (q21.1 96).toInt ∧ (q21.1 96).toInt ≤ 24000 := k_q21.1 96
      have zq21_0 : (q21.1 76).toInt ≤ (q11.1 76).toInt + 9 := zq21_0
      have zq21_1 : (q21.1 96).toInt ≤ (q11.1 96).toInt + 9 := zq21_1
      try unfold fM_writeOutput_41
      refine tt_b (sM_name_M42 _ _ k_q21 i_v1 f_q21_0 f_q21_38 f_q21_40 (show (q21.1 95).toInt = 1 ∨ (q21.1 76).toInt ≤ 90000 - 9 by omega) (show (q21.1 95).toInt = 0 ∨ (q21.1 96).toInt ≤ 24000 - 9 by omega)) (fun q22 hq22 => ?_)
      obtain ⟨k_q22, n_q22, zq22_0, zq22_1, -⟩ := hq22
      have r_q22 := fr_tr r_q21 n_q22 rfl rfl rfl
      have f_q22_0 : (0 : Int) ≤ (q22.1 0).toInt ∧ (q22.1 0).toInt ≤ 0 := by rw [n_q22.1 0 rfl]; exact f_q21_0
      have f_q22_65 : (2 : Int) ≤ (q22.1 65).toInt ∧ (q22.1 65).toInt ≤ 5 := by rw [n_q22.1 65 rfl]; exact f_q21_65
      have f_q22_38 : (1 : Int) ≤ (q22.1 38).toInt ∧ (q22.1 38).toInt ≤ 1 := by rw [n_q22.1 38 rfl]; exact f_q21_38
      have f_q22_40 : (1 : Int) ≤ (q22.1 40).toInt ∧ (q22.1 40).toInt ≤ 6 := by rw [n_q22.1 40 rfl]; exact f_q21_40
      have f_q22_95 : (0 : Int) ≤ (q22.1 95).toInt ∧ (q22.1 95).toInt ≤ 0 := by rw [n_q22.1 95 rfl]; exact f_q21_95
      have g_q22_76 : (0 : Int) ≤ (q22.1 76).toInt ∧ (q22.1 76).toInt ≤ 90000 := k_q22.1 76
      have e_q22_93 : (q22.1 93).toInt = (q21.1 93).toInt := congrArg Int32.toInt (n_q22.1 93 rfl)
      have g_q22_93 : (0 : Int) ≤ (q22.1 93).toInt ∧ (q22.1 93).toInt ≤ 420 := k_q22.1 93
      have e_q22_95 : (q22.1 95).toInt = (q21.1 95).toInt := congrArg Int32.toInt (n_q22.1 95 rfl)
      have g_q22_96 : (0 : Int) ≤ (q22.1 96).toInt ∧ (q22.1 96).toInt ≤ 24000 := k_q22.1 96
      have zq22_0 : (q22.1 76).toInt ≤ (q21.1 76).toInt + 9 := zq22_0
      have zq22_1 : (q22.1 96).toInt ≤ (q21.1 96).toInt + 9 := zq22_1
      refine tt_b (sM_emit _ _ k_q22 f_q22_0 f_q22_38 (show (q22.1 95).toInt = 1 ∨ (q22.1 76).toInt ≤ 90000 - 1 by omega) (show (q22.1 95).toInt = 0 ∨ (q22.1 96).toInt ≤ 24000 - 1 by omega)) (fun q23 hq23 => ?_)
      obtain ⟨k_q23, n_q23, zq23_0, zq23_1, -⟩ := hq23
      have r_q23 := fr_tr r_q22 n_q23 rfl rfl rfl
      have f_q23_0 : (0 : Int) ≤ (q23.1 0).toInt ∧ (q23.1 0).toInt ≤ 0 := by rw [n_q23.1 0 rfl]; exact f_q22_0
      have f_q23_65 : (2 : Int) ≤ (q23.1 65).toInt ∧ (q23.1 65).toInt ≤ 5 := by rw [n_q23.1 65 rfl]; exact f_q22_65
      have f_q23_38 : (1 : Int) ≤ (q23.1 38).toInt ∧ (q23.1 38).toInt ≤ 1 := by rw [n_q23.1 38 rfl]; exact f_q22_38
      have f_q23_40 : (1 : Int) ≤ (q23.1 40).toInt ∧ (q23.1 40).toInt ≤ 6 := by rw [n_q23.1 40 rfl]; exact f_q22_40
      have f_q23_95 : (0 : Int) ≤ (q23.1 95).toInt ∧ (q23.1 95).toInt ≤ 0 := by rw [n_q23.1 95 rfl]; exact f_q22_95
      have g_q23_76 : (0 : Int) ≤ (q23.1 76).toInt ∧ (q23.1 76).toInt ≤ 90000 := k_q23.1 76
      have e_q23_93 : (q23.1 93).toInt = (q22.1 93).toInt := congrArg Int32.toInt (n_q23.1 93 rfl)
      have g_q23_93 : (0 : Int) ≤ (q23.1 93).toInt ∧ (q23.1 93).toInt ≤ 420 := k_q23.1 93
      have e_q23_95 : (q23.1 95).toInt = (q22.1 95).toInt := congrArg Int32.toInt (n_q23.1 95 rfl)
      have g_q23_96 : (0 : Int) ≤ (q23.1 96).toInt ∧ (q23.1 96).toInt ≤ 24000 := k_q23.1 96
      have zq23_0 : (q23.1 76).toInt ≤ (q22.1 76).toInt + 1 := zq23_0
      have zq23_1 : (q23.1 96).toInt ≤ (q22.1 96).toInt + 1 := zq23_1
      refine tt_if (fun c24 => ?_) (fun c24 => ?_)
      · have wc24 : x3.toInt ≤ (0 : Int) := c_le c24
        exact (dd_le c24 i20 (show (0 : Int) ≤ (0 : Int32).toInt ∧ (0 : Int32).toInt ≤ 0 by decide) (by decide)).elim
      · have wc24 : (0 : Int) < x3.toInt := c_nle c24
        refine tt_if (fun c25 => ?_) (fun c25 => ?_)
        · have wc25 : (1 : Int) = (0 : Int) := c_eq c25
          exact (dd_eq c25 (show (1 : Int) ≤ (1 : Int32).toInt ∧ (1 : Int32).toInt ≤ 1 by decide) (show (0 : Int) ≤ (0 : Int32).toInt ∧ (0 : Int32).toInt ≤ 0 by decide) (by decide)).elim
        · have wc25 : ¬ (1 : Int) = (0 : Int) := c_ne c25
          try unfold fM_writeOutput_75
          refine tt_b (sM_emit _ _ k_q23 f_q23_0 f_q23_38 (show (q23.1 95).toInt = 1 ∨ (q23.1 76).toInt ≤ 90000 - 1 by omega) (show (q23.1 95).toInt = 0 ∨ (q23.1 96).toInt ≤ 24000 - 1 by omega)) (fun q26 hq26 => ?_)
          obtain ⟨k_q26, n_q26, zq26_0, zq26_1, -⟩ := hq26
          have r_q26 := fr_tr r_q23 n_q26 rfl rfl rfl
          have f_q26_0 : (0 : Int) ≤ (q26.1 0).toInt ∧ (q26.1 0).toInt ≤ 0 := by rw [n_q26.1 0 rfl]; exact f_q23_0
          have f_q26_65 : (2 : Int) ≤ (q26.1 65).toInt ∧ (q26.1 65).toInt ≤ 5 := by rw [n_q26.1 65 rfl]; exact f_q23_65
          have f_q26_38 : (1 : Int) ≤ (q26.1 38).toInt ∧ (q26.1 38).toInt ≤ 1 := by rw [n_q26.1 38 rfl]; exact f_q23_38
          have f_q26_40 : (1 : Int) ≤ (q26.1 40).toInt ∧ (q26.1 40).toInt ≤ 6 := by rw [n_q26.1 40 rfl]; exact f_q23_40
          have f_q26_95 : (0 : Int) ≤ (q26.1 95).toInt ∧ (q26.1 95).toInt ≤ 0 := by rw [n_q26.1 95 rfl]; exact f_q23_95
          have g_q26_76 : (0 : Int) ≤ (q26.1 76).toInt ∧ (q26.1 76).toInt ≤ 90000 := k_q26.1 76
          have e_q26_93 : (q26.1 93).toInt = (q23.1 93).toInt := congrArg Int32.toInt (n_q26.1 93 rfl)
          have g_q26_93 : (0 : Int) ≤ (q26.1 93).toInt ∧ (q26.1 93).toInt ≤ 420 := k_q26.1 93
          have e_q26_95 : (q26.1 95).toInt = (q23.1 95).toInt := congrArg Int32.toInt (n_q26.1 95 rfl)
          have g_q26_96 : (0 : Int) ≤ (q26.1 96).toInt ∧ (q26.1 96).toInt ≤ 24000 := k_q26.1 96
          have zq26_0 : (q26.1 76).toInt ≤ (q23.1 76).toInt + 1 := zq26_0
          have zq26_1 : (q26.1 96).toInt ≤ (q23.1 96).toInt + 1 := zq26_1
          refine tt_b (sM_emit _ _ k_q26 f_q26_0 f_q26_38 (show (q26.1 95).toInt = 1 ∨ (q26.1 76).toInt ≤ 90000 - 1 by omega) (show (q26.1 95).toInt = 0 ∨ (q26.1 96).toInt ≤ 24000 - 1 by omega)) (fun q27 hq27 => ?_)
          obtain ⟨k_q27, n_q27, zq27_0, zq27_1, -⟩ := hq27
          have r_q27 := fr_tr r_q26 n_q27 rfl rfl rfl
          have f_q27_0 : (0 : Int) ≤ (q27.1 0).toInt ∧ (q27.1 0).toInt ≤ 0 := by rw [n_q27.1 0 rfl]; exact f_q26_0
          have f_q27_65 : (2 : Int) ≤ (q27.1 65).toInt ∧ (q27.1 65).toInt ≤ 5 := by rw [n_q27.1 65 rfl]; exact f_q26_65
          have f_q27_38 : (1 : Int) ≤ (q27.1 38).toInt ∧ (q27.1 38).toInt ≤ 1 := by rw [n_q27.1 38 rfl]; exact f_q26_38
          have f_q27_40 : (1 : Int) ≤ (q27.1 40).toInt ∧ (q27.1 40).toInt ≤ 6 := by rw [n_q27.1 40 rfl]; exact f_q26_40
          have f_q27_95 : (0 : Int) ≤ (q27.1 95).toInt ∧ (q27.1 95).toInt ≤ 0 := by rw [n_q27.1 95 rfl]; exact f_q26_95
          have g_q27_76 : (0 : Int) ≤ (q27.1 76).toInt ∧ (q27.1 76).toInt ≤ 90000 := k_q27.1 76
          have e_q27_93 : (q27.1 93).toInt = (q26.1 93).toInt := congrArg Int32.toInt (n_q27.1 93 rfl)
          have g_q27_93 : (0 : Int) ≤ (q27.1 93).toInt ∧ (q27.1 93).toInt ≤ 420 := k_q27.1 93
          have e_q27_95 : (q27.1 95).toInt = (q26.1 95).toInt := congrArg Int32.toInt (n_q27.1 95 rfl)
          have g_q27_96 : (0 : Int) ≤ (q27.1 96).toInt ∧ (q27.1 96).toInt ≤ 24000 := k_q27.1 96
          have zq27_0 : (q27.1 76).toInt ≤ (q26.1 76).toInt + 1 := zq27_0
          have zq27_1 : (q27.1 96).toInt ≤ (q26.1 96).toInt + 1 := zq27_1
          refine tt_b (sM_emit _ _ k_q27 f_q27_0 f_q27_38 (show (q27.1 95).toInt = 1 ∨ (q27.1 76).toInt ≤ 90000 - 1 by omega) (show (q27.1 95).toInt = 0 ∨ (q27.1 96).toInt ≤ 24000 - 1 by omega)) (fun q28 hq28 => ?_)
          obtain ⟨k_q28, n_q28, zq28_0, zq28_1, -⟩ := hq28
          have r_q28 := fr_tr r_q27 n_q28 rfl rfl rfl
          have f_q28_0 : (0 : Int) ≤ (q28.1 0).toInt ∧ (q28.1 0).toInt ≤ 0 := by rw [n_q28.1 0 rfl]; exact f_q27_0
          have f_q28_65 : (2 : Int) ≤ (q28.1 65).toInt ∧ (q28.1 65).toInt ≤ 5 := by rw [n_q28.1 65 rfl]; exact f_q27_65
          have f_q28_38 : (1 : Int) ≤ (q28.1 38).toInt ∧ (q28.1 38).toInt ≤ 1 := by rw [n_q28.1 38 rfl]; exact f_q27_38
          have f_q28_40 : (1 : Int) ≤ (q28.1 40).toInt ∧ (q28.1 40).toInt ≤ 6 := by rw [n_q28.1 40 rfl]; exact f_q27_40
          have f_q28_95 : (0 : Int) ≤ (q28.1 95).toInt ∧ (q28.1 95).toInt ≤ 0 := by rw [n_q28.1 95 rfl]; exact f_q27_95
          have g_q28_76 : (0 : Int) ≤ (q28.1 76).toInt ∧ (q28.1 76).toInt ≤ 90000 := k_q28.1 76
          have e_q28_93 : (q28.1 93).toInt = (q27.1 93).toInt := congrArg Int32.toInt (n_q28.1 93 rfl)
          have g_q28_93 : (0 : Int) ≤ (q28.1 93).toInt ∧ (q28.1 93).toInt ≤ 420 := k_q28.1 93
          have e_q28_95 : (q28.1 95).toInt = (q27.1 95).toInt := congrArg Int32.toInt (n_q28.1 95 rfl)
          have g_q28_96 : (0 : Int) ≤ (q28.1 96).toInt ∧ (q28.1 96).toInt ≤ 24000 := k_q28.1 96
          have zq28_0 : (q28.1 76).toInt ≤ (q27.1 76).toInt + 1 := zq28_0
          have zq28_1 : (q28.1 96).toInt ≤ (q27.1 96).toInt + 1 := zq28_1
          refine tt_b (sM_emit _ _ k_q28 f_q28_0 f_q28_38 (show (q28.1 95).toInt = 1 ∨ (q28.1 76).toInt ≤ 90000 - 1 by omega) (show (q28.1 95).toInt = 0 ∨ (q28.1 96).toInt ≤ 24000 - 1 by omega)) (fun q29 hq29 => ?_)
          obtain ⟨k_q29, n_q29, zq29_0, zq29_1, -⟩ := hq29
          have r_q29 := fr_tr r_q28 n_q29 rfl rfl rfl
          have f_q29_0 : (0 : Int) ≤ (q29.1 0).toInt ∧ (q29.1 0).toInt ≤ 0 := by rw [n_q29.1 0 rfl]; exact f_q28_0
          have f_q29_65 : (2 : Int) ≤ (q29.1 65).toInt ∧ (q29.1 65).toInt ≤ 5 := by rw [n_q29.1 65 rfl]; exact f_q28_65
          have f_q29_38 : (1 : Int) ≤ (q29.1 38).toInt ∧ (q29.1 38).toInt ≤ 1 := by rw [n_q29.1 38 rfl]; exact f_q28_38
          have f_q29_40 : (1 : Int) ≤ (q29.1 40).toInt ∧ (q29.1 40).toInt ≤ 6 := by rw [n_q29.1 40 rfl]; exact f_q28_40
          have f_q29_95 : (0 : Int) ≤ (q29.1 95).toInt ∧ (q29.1 95).toInt ≤ 0 := by rw [n_q29.1 95 rfl]; exact f_q28_95
          have g_q29_76 : (0 : Int) ≤ (q29.1 76).toInt ∧ (q29.1 76).toInt ≤ 90000 := k_q29.1 76
          have e_q29_93 : (q29.1 93).toInt = (q28.1 93).toInt := congrArg Int32.toInt (n_q29.1 93 rfl)
          have g_q29_93 : (0 : Int) ≤ (q29.1 93).toInt ∧ (q29.1 93).toInt ≤ 420 := k_q29.1 93
          have e_q29_95 : (q29.1 95).toInt = (q28.1 95).toInt := congrArg Int32.toInt (n_q29.1 95 rfl)
          have g_q29_96 : (0 : Int) ≤ (q29.1 96).toInt ∧ (q29.1 96).toInt ≤ 24000 := k_q29.1 96
          have zq29_0 : (q29.1 76).toInt ≤ (q28.1 76).toInt + 1 := zq29_0
          have zq29_1 : (q29.1 96).toInt ≤ (q28.1 96).toInt + 1 := zq29_1
          try unfold fM_writeOutput_120
          exact tt_some ⟨k_q29, r_q29, (show (q29.1 76).toInt ≤ (o0.1 76).toInt + 40 by omega), (show (q29.1 96).toInt ≤ (o0.1 96).toInt + 40 by omega), trivial⟩
  · have wc9 : ¬ x7.toInt = (1 : Int) := c_ne c9
    have i30 : (0 : Int) ≤ x7.toInt ∧ x7.toInt ≤ 0 := nr_nelb c9 i8 (show (1 : Int) ≤ (1 : Int32).toInt ∧ (1 : Int32).toInt ≤ 1 by decide) (by decide) (by decide)
    try unfold fM_writeOutput_26
    refine tt_b (sM_word _ _ k_o0 (iv_w (a := 0) (b := 3) (by decide) (by decide) (show (2 : Int) ≤ (2 : Int32).toInt ∧ (2 : Int32).toInt ≤ 2 by decide)) f_o0_0 f_o0_38 (show (o0.1 95).toInt = 1 ∨ (o0.1 76).toInt ≤ 90000 - 14 by omega) (show (o0.1 95).toInt = 0 ∨ (o0.1 96).toInt ≤ 24000 - 14 by omega)) (fun q31 hq31 => ?_)
    obtain ⟨k_q31, n_q31, zq31_0, zq31_1, -⟩ := hq31
    have r_q31 := fr_tr r_o0 n_q31 rfl rfl rfl
    have f_q31_0 : (0 : Int) ≤ (q31.1 0).toInt ∧ (q31.1 0).toInt ≤ 0 := by rw [n_q31.1 0 rfl]; exact f_o0_0
    have f_q31_65 : (2 : Int) ≤ (q31.1 65).toInt ∧ (q31.1 65).toInt ≤ 5 := by rw [n_q31.1 65 rfl]; exact f_o0_65
    have f_q31_38 : (1 : Int) ≤ (q31.1 38).toInt ∧ (q31.1 38).toInt ≤ 1 := by rw [n_q31.1 38 rfl]; exact f_o0_38
    have f_q31_40 : (1 : Int) ≤ (q31.1 40).toInt ∧ (q31.1 40).toInt ≤ 6 := by rw [n_q31.1 40 rfl]; exact f_o0_40
    have f_q31_95 : (0 : Int) ≤ (q31.1 95).toInt ∧ (q31.1 95).toInt ≤ 0 := by rw [n_q31.1 95 rfl]; exact f_o0_95
    have g_q31_76 : (0 : Int) ≤ (q31.1 76).toInt ∧ (q31.1 76).toInt ≤ 90000 := k_q31.1 76
    have e_q31_93 : (q31.1 93).toInt = (o0.1 93).toInt := congrArg Int32.toInt (n_q31.1 93 rfl)
    have g_q31_93 : (0 : Int) ≤ (q31.1 93).toInt ∧ (q31.1 93).toInt ≤ 420 := k_q31.1 93
    have e_q31_95 : (q31.1 95).toInt = (o0.1 95).toInt := congrArg Int32.toInt (n_q31.1 95 rfl)
    have g_q31_96 : (0 : Int) ≤ (q31.1 96).toInt ∧ (q31.1 96).toInt ≤ 24000 := k_q31.1 96
    have zq31_0 : (q31.1 76).toInt ≤ (o0.1 76).toInt + 14 := zq31_0
    have zq31_1 : (q31.1 96).toInt ≤ (o0.1 96).toInt + 14 := zq31_1
    refine tt_if (fun c32 => ?_) (fun c32 => ?_)
    · have wc32 : x3.toInt ≤ (0 : Int) := c_le c32
      have i33 : (0 : Int) ≤ x3.toInt ∧ x3.toInt ≤ 0 := nr_lel c32 i4 (show (0 : Int) ≤ (0 : Int32).toInt ∧ (0 : Int32).toInt ≤ 0 by decide) (by decide) (by decide)
      try unfold fM_writeOutput_41
      refine tt_b (sM_name_M42 _ _ k_q31 i_v1 f_q31_0 f_q31_38 f_q31_40 (show (q31.1 95).toInt = 1 ∨ (q31.1 76).toInt ≤ 90000 - 9 by omega) (show (q31.1 95).toInt = 0 ∨ (q31.1 96).toInt ≤ 24000 - 9 by omega)) (fun q34 hq34 => ?_)
      obtain ⟨k_q34, n_q34, zq34_0, zq34_1, -⟩ := hq34
      have r_q34 := fr_tr r_q31 n_q34 rfl rfl rfl
      have f_q34_0 : (0 : Int) ≤ (q34.1 0).toInt ∧ (q34.1 0).toInt ≤ 0 := by rw [n_q34.1 0 rfl]; exact f_q31_0
      have f_q34_65 : (2 : Int) ≤ (q34.1 65).toInt ∧ (q34.1 65).toInt ≤ 5 := by rw [n_q34.1 65 rfl]; exact f_q31_65
      have f_q34_38 : (1 : Int) ≤ (q34.1 38).toInt ∧ (q34.1 38).toInt ≤ 1 := by rw [n_q34.1 38 rfl]; exact f_q31_38
      have f_q34_40 : (1 : Int) ≤ (q34.1 40).toInt ∧ (q34.1 40).toInt ≤ 6 := by rw [n_q34.1 40 rfl]; exact f_q31_40
      have f_q34_95 : (0 : Int) ≤ (q34.1 95).toInt ∧ (q34.1 95).toInt ≤ 0 := by rw [n_q34.1 95 rfl]; exact f_q31_95
      have g_q34_76 : (0 : Int) ≤ (q34.1 76).toInt ∧ (q34.1 76).toInt ≤ 90000 := k_q34.1 76
      have e_q34_93 : (q34.1 93).toInt = (q31.1 93).toInt := congrArg Int32.toInt (n_q34.1 93 rfl)
      have g_q34_93 : (0 : Int) ≤ (q34.1 93).toInt ∧ (q34.1 93).toInt ≤ 420 := k_q34.1 93
      have e_q34_95 : (q34.1 95).toInt = (q31.1 95).toInt := congrArg Int32.toInt (n_q34.1 95 rfl)
      have g_q34_96 : (0 : Int) ≤ (q34.1 96).toInt ∧ (q34.1 96).toInt ≤ 24000 := k_q34.1 96
      have zq34_0 : (q34.1 76).toInt ≤ (q31.1 76).toInt + 9 := zq34_0
      have zq34_1 : (q34.1 96).toInt ≤ (q31.1 96).toInt + 9 := zq34_1
      refine tt_b (sM_emit _ _ k_q34 f_q34_0 f_q34_38 (show (q34.1 95).toInt = 1 ∨ (q34.1 76).toInt ≤ 90000 - 1 by omega) (show (q34.1 95).toInt = 0 ∨ (q34.1 96).toInt ≤ 24000 - 1 by omega)) (fun q35 hq35 => ?_)
      obtain ⟨k_q35, n_q35, zq35_0, zq35_1, -⟩ := hq35
      have r_q35 := fr_tr r_q34 n_q35 rfl rfl rfl
      have f_q35_0 : (0 : Int) ≤ (q35.1 0).toInt ∧ (q35.1 0).toInt ≤ 0 := by rw [n_q35.1 0 rfl]; exact f_q34_0
      have f_q35_65 : (2 : Int) ≤ (q35.1 65).toInt ∧ (q35.1 65).toInt ≤ 5 := by rw [n_q35.1 65 rfl]; exact f_q34_65
      have f_q35_38 : (1 : Int) ≤ (q35.1 38).toInt ∧ (q35.1 38).toInt ≤ 1 := by rw [n_q35.1 38 rfl]; exact f_q34_38
      have f_q35_40 : (1 : Int) ≤ (q35.1 40).toInt ∧ (q35.1 40).toInt ≤ 6 := by rw [n_q35.1 40 rfl]; exact f_q34_40
      have f_q35_95 : (0 : Int) ≤ (q35.1 95).toInt ∧ (q35.1 95).toInt ≤ 0 := by rw [n_q35.1 95 rfl]; exact f_q34_95
      have g_q35_76 : (0 : Int) ≤ (q35.1 76).toInt ∧ (q35.1 76).toInt ≤ 90000 := k_q35.1 76
      have e_q35_93 : (q35.1 93).toInt = (q34.1 93).toInt := congrArg Int32.toInt (n_q35.1 93 rfl)
      have g_q35_93 : (0 : Int) ≤ (q35.1 93).toInt ∧ (q35.1 93).toInt ≤ 420 := k_q35.1 93
      have e_q35_95 : (q35.1 95).toInt = (q34.1 95).toInt := congrArg Int32.toInt (n_q35.1 95 rfl)
      have g_q35_96 : (0 : Int) ≤ (q35.1 96).toInt ∧ (q35.1 96).toInt ≤ 24000 := k_q35.1 96
      have zq35_0 : (q35.1 76).toInt ≤ (q34.1 76).toInt + 1 := zq35_0
      have zq35_1 : (q35.1 96).toInt ≤ (q34.1 96).toInt + 1 := zq35_1
      refine tt_if (fun c36 => ?_) (fun c36 => ?_)
      · have wc36 : x3.toInt ≤ (0 : Int) := c_le c36
        refine tt_if (fun c37 => ?_) (fun c37 => ?_)
        · have wc37 : (0 : Int) = (0 : Int) := c_eq c37
          try unfold fM_writeOutput_120
          exact tt_some ⟨k_q35, r_q35, (show (q35.1 76).toInt ≤ (o0.1 76).toInt + 40 by omega), (show (q35.1 96).toInt ≤ (o0.1 96).toInt + 40 by omega), trivial⟩
        · have wc37 : ¬ (0 : Int) = (0 : Int) := c_ne c37
          exact (dd_ne c37 (show (0 : Int) ≤ (0 : Int32).toInt ∧ (0 : Int32).toInt ≤ 0 by decide) (show (0 : Int) ≤ (0 : Int32).toInt ∧ (0 : Int32).toInt ≤ 0 by decide)).elim
      · have wc36 : (0 : Int) < x3.toInt := c_nle c36
        exact (dd_nle c36 (show (0 : Int) ≤ (0 : Int32).toInt ∧ (0 : Int32).toInt ≤ 0 by decide) i33 (by decide)).elim
    · have wc32 : (0 : Int) < x3.toInt := c_nle c32
      have i38 : (1 : Int) ≤ x3.toInt ∧ x3.toInt ≤ 208 := nr_nler c32 (show (0 : Int) ≤ (0 : Int32).toInt ∧ (0 : Int32).toInt ≤ 0 by decide) i4 (by decide) (by decide)
      refine tt_b (sM_nodeName _ _ k_q31 i38 f_q31_0 f_q31_38 (show (q31.1 95).toInt = 1 ∨ (q31.1 76).toInt ≤ 90000 - 9 by omega) (show (q31.1 95).toInt = 0 ∨ (q31.1 96).toInt ≤ 24000 - 9 by omega)) (fun q39 hq39 => ?_)
      obtain ⟨k_q39, n_q39, zq39_0, zq39_1, -⟩ := hq39
      have r_q39 := fr_tr r_q31 n_q39 rfl rfl rfl
      have f_q39_0 : (0 : Int) ≤ (q39.1 0).toInt ∧ (q39.1 0).toInt ≤ 0 := by rw [n_q39.1 0 rfl]; exact f_q31_0
      have f_q39_65 : (2 : Int) ≤ (q39.1 65).toInt ∧ (q39.1 65).toInt ≤ 5 := by rw [n_q39.1 65 rfl]; exact f_q31_65
      have f_q39_38 : (1 : Int) ≤ (q39.1 38).toInt ∧ (q39.1 38).toInt ≤ 1 := by rw [n_q39.1 38 rfl]; exact f_q31_38
      have f_q39_40 : (1 : Int) ≤ (q39.1 40).toInt ∧ (q39.1 40).toInt ≤ 6 := by rw [n_q39.1 40 rfl]; exact f_q31_40
      have f_q39_95 : (0 : Int) ≤ (q39.1 95).toInt ∧ (q39.1 95).toInt ≤ 0 := by rw [n_q39.1 95 rfl]; exact f_q31_95
      have g_q39_76 : (0 : Int) ≤ (q39.1 76).toInt ∧ (q39.1 76).toInt ≤ 90000 := k_q39.1 76
      have e_q39_93 : (q39.1 93).toInt = (q31.1 93).toInt := congrArg Int32.toInt (n_q39.1 93 rfl)
      have g_q39_93 : (0 : Int) ≤ (q39.1 93).toInt ∧ (q39.1 93).toInt ≤ 420 := k_q39.1 93
      have e_q39_95 : (q39.1 95).toInt = (q31.1 95).toInt := congrArg Int32.toInt (n_q39.1 95 rfl)
      have g_q39_96 : (0 : Int) ≤ (q39.1 96).toInt ∧ (q39.1 96).toInt ≤ 24000 := k_q39.1 96
      have zq39_0 : (q39.1 76).toInt ≤ (q31.1 76).toInt + 9 := zq39_0
      have zq39_1 : (q39.1 96).toInt ≤ (q31.1 96).toInt + 9 := zq39_1
      try unfold fM_writeOutput_41
      refine tt_b (sM_name_M42 _ _ k_q39 i_v1 f_q39_0 f_q39_38 f_q39_40 (show (q39.1 95).toInt = 1 ∨ (q39.1 76).toInt ≤ 90000 - 9 by omega) (show (q39.1 95).toInt = 0 ∨ (q39.1 96).toInt ≤ 24000 - 9 by omega)) (fun q40 hq40 => ?_)
      obtain ⟨k_q40, n_q40, zq40_0, zq40_1, -⟩ := hq40
      have r_q40 := fr_tr r_q39 n_q40 rfl rfl rfl
      have f_q40_0 : (0 : Int) ≤ (q40.1 0).toInt ∧ (q40.1 0).toInt ≤ 0 := by rw [n_q40.1 0 rfl]; exact f_q39_0
      have f_q40_65 : (2 : Int) ≤ (q40.1 65).toInt ∧ (q40.1 65).toInt ≤ 5 := by rw [n_q40.1 65 rfl]; exact f_q39_65
      have f_q40_38 : (1 : Int) ≤ (q40.1 38).toInt ∧ (q40.1 38).toInt ≤ 1 := by rw [n_q40.1 38 rfl]; exact f_q39_38
      have f_q40_40 : (1 : Int) ≤ (q40.1 40).toInt ∧ (q40.1 40).toInt ≤ 6 := by rw [n_q40.1 40 rfl]; exact f_q39_40
      have f_q40_95 : (0 : Int) ≤ (q40.1 95).toInt ∧ (q40.1 95).toInt ≤ 0 := by rw [n_q40.1 95 rfl]; exact f_q39_95
      have g_q40_76 : (0 : Int) ≤ (q40.1 76).toInt ∧ (q40.1 76).toInt ≤ 90000 := k_q40.1 76
      have e_q40_93 : (q40.1 93).toInt = (q39.1 93).toInt := congrArg Int32.toInt (n_q40.1 93 rfl)
      have g_q40_93 : (0 : Int) ≤ (q40.1 93).toInt ∧ (q40.1 93).toInt ≤ 420 := k_q40.1 93
      have e_q40_95 : (q40.1 95).toInt = (q39.1 95).toInt := congrArg Int32.toInt (n_q40.1 95 rfl)
      have g_q40_96 : (0 : Int) ≤ (q40.1 96).toInt ∧ (q40.1 96).toInt ≤ 24000 := k_q40.1 96
      have zq40_0 : (q40.1 76).toInt ≤ (q39.1 76).toInt + 9 := zq40_0
      have zq40_1 : (q40.1 96).toInt ≤ (q39.1 96).toInt + 9 := zq40_1
      refine tt_b (sM_emit _ _ k_q40 f_q40_0 f_q40_38 (show (q40.1 95).toInt = 1 ∨ (q40.1 76).toInt ≤ 90000 - 1 by omega) (show (q40.1 95).toInt = 0 ∨ (q40.1 96).toInt ≤ 24000 - 1 by omega)) (fun q41 hq41 => ?_)
      obtain ⟨k_q41, n_q41, zq41_0, zq41_1, -⟩ := hq41
      have r_q41 := fr_tr r_q40 n_q41 rfl rfl rfl
      have f_q41_0 : (0 : Int) ≤ (q41.1 0).toInt ∧ (q41.1 0).toInt ≤ 0 := by rw [n_q41.1 0 rfl]; exact f_q40_0
      have f_q41_65 : (2 : Int) ≤ (q41.1 65).toInt ∧ (q41.1 65).toInt ≤ 5 := by rw [n_q41.1 65 rfl]; exact f_q40_65
      have f_q41_38 : (1 : Int) ≤ (q41.1 38).toInt ∧ (q41.1 38).toInt ≤ 1 := by rw [n_q41.1 38 rfl]; exact f_q40_38
      have f_q41_40 : (1 : Int) ≤ (q41.1 40).toInt ∧ (q41.1 40).toInt ≤ 6 := by rw [n_q41.1 40 rfl]; exact f_q40_40
      have f_q41_95 : (0 : Int) ≤ (q41.1 95).toInt ∧ (q41.1 95).toInt ≤ 0 := by rw [n_q41.1 95 rfl]; exact f_q40_95
      have g_q41_76 : (0 : Int) ≤ (q41.1 76).toInt ∧ (q41.1 76).toInt ≤ 90000 := k_q41.1 76
      have e_q41_93 : (q41.1 93).toInt = (q40.1 93).toInt := congrArg Int32.toInt (n_q41.1 93 rfl)
      have g_q41_93 : (0 : Int) ≤ (q41.1 93).toInt ∧ (q41.1 93).toInt ≤ 420 := k_q41.1 93
      have e_q41_95 : (q41.1 95).toInt = (q40.1 95).toInt := congrArg Int32.toInt (n_q41.1 95 rfl)
      have g_q41_96 : (0 : Int) ≤ (q41.1 96).toInt ∧ (q41.1 96).toInt ≤ 24000 := k_q41.1 96
      have zq41_0 : (q41.1 76).toInt ≤ (q40.1 76).toInt + 1 := zq41_0
      have zq41_1 : (q41.1 96).toInt ≤ (q40.1 96).toInt + 1 := zq41_1
      refine tt_if (fun c42 => ?_) (fun c42 => ?_)
      · have wc42 : x3.toInt ≤ (0 : Int) := c_le c42
        exact (dd_le c42 i38 (show (0 : Int) ≤ (0 : Int32).toInt ∧ (0 : Int32).toInt ≤ 0 by decide) (by decide)).elim
      · have wc42 : (0 : Int) < x3.toInt := c_nle c42
        refine tt_if (fun c43 => ?_) (fun c43 => ?_)
        · have wc43 : (0 : Int) = (0 : Int) := c_eq c43
          try unfold fM_writeOutput_75
          refine tt_b (sM_emit _ _ k_q41 f_q41_0 f_q41_38 (show (q41.1 95).toInt = 1 ∨ (q41.1 76).toInt ≤ 90000 - 1 by omega) (show (q41.1 95).toInt = 0 ∨ (q41.1 96).toInt ≤ 24000 - 1 by omega)) (fun q44 hq44 => ?_)
          obtain ⟨k_q44, n_q44, zq44_0, zq44_1, -⟩ := hq44
          have r_q44 := fr_tr r_q41 n_q44 rfl rfl rfl
          have f_q44_0 : (0 : Int) ≤ (q44.1 0).toInt ∧ (q44.1 0).toInt ≤ 0 := by rw [n_q44.1 0 rfl]; exact f_q41_0
          have f_q44_65 : (2 : Int) ≤ (q44.1 65).toInt ∧ (q44.1 65).toInt ≤ 5 := by rw [n_q44.1 65 rfl]; exact f_q41_65
          have f_q44_38 : (1 : Int) ≤ (q44.1 38).toInt ∧ (q44.1 38).toInt ≤ 1 := by rw [n_q44.1 38 rfl]; exact f_q41_38
          have f_q44_40 : (1 : Int) ≤ (q44.1 40).toInt ∧ (q44.1 40).toInt ≤ 6 := by rw [n_q44.1 40 rfl]; exact f_q41_40
          have f_q44_95 : (0 : Int) ≤ (q44.1 95).toInt ∧ (q44.1 95).toInt ≤ 0 := by rw [n_q44.1 95 rfl]; exact f_q41_95
          have g_q44_76 : (0 : Int) ≤ (q44.1 76).toInt ∧ (q44.1 76).toInt ≤ 90000 := k_q44.1 76
          have e_q44_93 : (q44.1 93).toInt = (q41.1 93).toInt := congrArg Int32.toInt (n_q44.1 93 rfl)
          have g_q44_93 : (0 : Int) ≤ (q44.1 93).toInt ∧ (q44.1 93).toInt ≤ 420 := k_q44.1 93
          have e_q44_95 : (q44.1 95).toInt = (q41.1 95).toInt := congrArg Int32.toInt (n_q44.1 95 rfl)
          have g_q44_96 : (0 : Int) ≤ (q44.1 96).toInt ∧ (q44.1 96).toInt ≤ 24000 := k_q44.1 96
          have zq44_0 : (q44.1 76).toInt ≤ (q41.1 76).toInt + 1 := zq44_0
          have zq44_1 : (q44.1 96).toInt ≤ (q41.1 96).toInt + 1 := zq44_1
          refine tt_b (sM_emit _ _ k_q44 f_q44_0 f_q44_38 (show (q44.1 95).toInt = 1 ∨ (q44.1 76).toInt ≤ 90000 - 1 by omega) (show (q44.1 95).toInt = 0 ∨ (q44.1 96).toInt ≤ 24000 - 1 by omega)) (fun q45 hq45 => ?_)
          obtain ⟨k_q45, n_q45, zq45_0, zq45_1, -⟩ := hq45
          have r_q45 := fr_tr r_q44 n_q45 rfl rfl rfl
          have f_q45_0 : (0 : Int) ≤ (q45.1 0).toInt ∧ (q45.1 0).toInt ≤ 0 := by rw [n_q45.1 0 rfl]; exact f_q44_0
          have f_q45_65 : (2 : Int) ≤ (q45.1 65).toInt ∧ (q45.1 65).toInt ≤ 5 := by rw [n_q45.1 65 rfl]; exact f_q44_65
          have f_q45_38 : (1 : Int) ≤ (q45.1 38).toInt ∧ (q45.1 38).toInt ≤ 1 := by rw [n_q45.1 38 rfl]; exact f_q44_38
          have f_q45_40 : (1 : Int) ≤ (q45.1 40).toInt ∧ (q45.1 40).toInt ≤ 6 := by rw [n_q45.1 40 rfl]; exact f_q44_40
          have f_q45_95 : (0 : Int) ≤ (q45.1 95).toInt ∧ (q45.1 95).toInt ≤ 0 := by rw [n_q45.1 95 rfl]; exact f_q44_95
          have g_q45_76 : (0 : Int) ≤ (q45.1 76).toInt ∧ (q45.1 76).toInt ≤ 90000 := k_q45.1 76
          have e_q45_93 : (q45.1 93).toInt = (q44.1 93).toInt := congrArg Int32.toInt (n_q45.1 93 rfl)
          have g_q45_93 : (0 : Int) ≤ (q45.1 93).toInt ∧ (q45.1 93).toInt ≤ 420 := k_q45.1 93
          have e_q45_95 : (q45.1 95).toInt = (q44.1 95).toInt := congrArg Int32.toInt (n_q45.1 95 rfl)
          have g_q45_96 : (0 : Int) ≤ (q45.1 96).toInt ∧ (q45.1 96).toInt ≤ 24000 := k_q45.1 96
          have zq45_0 : (q45.1 76).toInt ≤ (q44.1 76).toInt + 1 := zq45_0
          have zq45_1 : (q45.1 96).toInt ≤ (q44.1 96).toInt + 1 := zq45_1
          refine tt_b (sM_emit _ _ k_q45 f_q45_0 f_q45_38 (show (q45.1 95).toInt = 1 ∨ (q45.1 76).toInt ≤ 90000 - 1 by omega) (show (q45.1 95).toInt = 0 ∨ (q45.1 96).toInt ≤ 24000 - 1 by omega)) (fun q46 hq46 => ?_)
          obtain ⟨k_q46, n_q46, zq46_0, zq46_1, -⟩ := hq46
          have r_q46 := fr_tr r_q45 n_q46 rfl rfl rfl
          have f_q46_0 : (0 : Int) ≤ (q46.1 0).toInt ∧ (q46.1 0).toInt ≤ 0 := by rw [n_q46.1 0 rfl]; exact f_q45_0
          have f_q46_65 : (2 : Int) ≤ (q46.1 65).toInt ∧ (q46.1 65).toInt ≤ 5 := by rw [n_q46.1 65 rfl]; exact f_q45_65
          have f_q46_38 : (1 : Int) ≤ (q46.1 38).toInt ∧ (q46.1 38).toInt ≤ 1 := by rw [n_q46.1 38 rfl]; exact f_q45_38
          have f_q46_40 : (1 : Int) ≤ (q46.1 40).toInt ∧ (q46.1 40).toInt ≤ 6 := by rw [n_q46.1 40 rfl]; exact f_q45_40
          have f_q46_95 : (0 : Int) ≤ (q46.1 95).toInt ∧ (q46.1 95).toInt ≤ 0 := by rw [n_q46.1 95 rfl]; exact f_q45_95
          have g_q46_76 : (0 : Int) ≤ (q46.1 76).toInt ∧ (q46.1 76).toInt ≤ 90000 := k_q46.1 76
          have e_q46_93 : (q46.1 93).toInt = (q45.1 93).toInt := congrArg Int32.toInt (n_q46.1 93 rfl)
          have g_q46_93 : (0 : Int) ≤ (q46.1 93).toInt ∧ (q46.1 93).toInt ≤ 420 := k_q46.1 93
          have e_q46_95 : (q46.1 95).toInt = (q45.1 95).toInt := congrArg Int32.toInt (n_q46.1 95 rfl)
          have g_q46_96 : (0 : Int) ≤ (q46.1 96).toInt ∧ (q46.1 96).toInt ≤ 24000 := k_q46.1 96
          have zq46_0 : (q46.1 76).toInt ≤ (q45.1 76).toInt + 1 := zq46_0
          have zq46_1 : (q46.1 96).toInt ≤ (q45.1 96).toInt + 1 := zq46_1
          refine tt_b (sM_emit _ _ k_q46 f_q46_0 f_q46_38 (show (q46.1 95).toInt = 1 ∨ (q46.1 76).toInt ≤ 90000 - 1 by omega) (show (q46.1 95).toInt = 0 ∨ (q46.1 96).toInt ≤ 24000 - 1 by omega)) (fun q47 hq47 => ?_)
          obtain ⟨k_q47, n_q47, zq47_0, zq47_1, -⟩ := hq47
          have r_q47 := fr_tr r_q46 n_q47 rfl rfl rfl
          have f_q47_0 : (0 : Int) ≤ (q47.1 0).toInt ∧ (q47.1 0).toInt ≤ 0 := by rw [n_q47.1 0 rfl]; exact f_q46_0
          have f_q47_65 : (2 : Int) ≤ (q47.1 65).toInt ∧ (q47.1 65).toInt ≤ 5 := by rw [n_q47.1 65 rfl]; exact f_q46_65
          have f_q47_38 : (1 : Int) ≤ (q47.1 38).toInt ∧ (q47.1 38).toInt ≤ 1 := by rw [n_q47.1 38 rfl]; exact f_q46_38
          have f_q47_40 : (1 : Int) ≤ (q47.1 40).toInt ∧ (q47.1 40).toInt ≤ 6 := by rw [n_q47.1 40 rfl]; exact f_q46_40
          have f_q47_95 : (0 : Int) ≤ (q47.1 95).toInt ∧ (q47.1 95).toInt ≤ 0 := by rw [n_q47.1 95 rfl]; exact f_q46_95
          have g_q47_76 : (0 : Int) ≤ (q47.1 76).toInt ∧ (q47.1 76).toInt ≤ 90000 := k_q47.1 76
          have e_q47_93 : (q47.1 93).toInt = (q46.1 93).toInt := congrArg Int32.toInt (n_q47.1 93 rfl)
          have g_q47_93 : (0 : Int) ≤ (q47.1 93).toInt ∧ (q47.1 93).toInt ≤ 420 := k_q47.1 93
          have e_q47_95 : (q47.1 95).toInt = (q46.1 95).toInt := congrArg Int32.toInt (n_q47.1 95 rfl)
          have g_q47_96 : (0 : Int) ≤ (q47.1 96).toInt ∧ (q47.1 96).toInt ≤ 24000 := k_q47.1 96
          have zq47_0 : (q47.1 76).toInt ≤ (q46.1 76).toInt + 1 := zq47_0
          have zq47_1 : (q47.1 96).toInt ≤ (q46.1 96).toInt + 1 := zq47_1
          try unfold fM_writeOutput_120
          exact tt_some ⟨k_q47, r_q47, (show (q47.1 76).toInt ≤ (o0.1 76).toInt + 40 by omega), (show (q47.1 96).toInt ≤ (o0.1 96).toInt + 40 by omega), trivial⟩
        · have wc43 : ¬ (0 : Int) = (0 : Int) := c_ne c43
          exact (dd_ne c43 (show (0 : Int) ≤ (0 : Int32).toInt ∧ (0 : Int32).toInt ≤ 0 by decide) (show (0 : Int) ≤ (0 : Int32).toInt ∧ (0 : Int32).toInt ≤ 0 by decide)).elim
def QM_write (o0 : cf_O) (r : (cf_O)) : Prop := (okO I_M r) ∧ (Fr (fr_M [76, 96] [75, 77, 97] []) o0 r) ∧ True
def HM_write (yo0 : cf_O) (n : Nat) : Prop := (∀ (v1 : Int32) (o0 : cf_O), (okO I_M o0) → (Fr (fr_M [76, 96] [75, 77, 97] []) yo0 o0) → ((0 : Int) ≤ v1.toInt ∧ v1.toInt ≤ 8) → ((0 : Int) ≤ (o0.1 0).toInt ∧ (o0.1 0).toInt ≤ 0) → ((1 : Int) ≤ (o0.1 38).toInt ∧ (o0.1 38).toInt ≤ 1) → ((2 : Int) ≤ (o0.1 65).toInt ∧ (o0.1 65).toInt ≤ 5) → ((0 : Int) ≤ (o0.1 95).toInt ∧ (o0.1 95).toInt ≤ 0) → ((o0.1 76).toInt ≤ 14 + 9 * v1.toInt) → (Cv (o0.1 73) (o0.1 39) (o0.1 43) (o0.2.1 74)) → (Cn (o0.2.1 59) (o0.2.1 58)) → 430 + (8 - v1.toInt) * 2 < (n : Int) → tt (gM_write n 0 v1 o0) (QM_write yo0)) ∧ (∀ (v1 : Int32) (o0 : cf_O), (okO I_M o0) → (Fr (fr_M [76, 96] [75, 77, 97] []) yo0 o0) → ((0 : Int) ≤ v1.toInt ∧ v1.toInt ≤ 6) → ((0 : Int) ≤ (o0.1 0).toInt ∧ (o0.1 0).toInt ≤ 0) → ((1 : Int) ≤ (o0.1 38).toInt ∧ (o0.1 38).toInt ≤ 1) → ((2 : Int) ≤ (o0.1 65).toInt ∧ (o0.1 65).toInt ≤ 5) → ((0 : Int) ≤ (o0.1 95).toInt ∧ (o0.1 95).toInt ≤ 0) → ((o0.1 76).toInt ≤ 101 + 9 * v1.toInt) → (Cv (o0.1 73) (o0.1 39) (o0.1 43) (o0.2.1 74)) → (Cn (o0.2.1 59) (o0.2.1 58)) → 416 + (6 - v1.toInt) * 2 < (n : Int) → tt (gM_write n 1 v1 o0) (QM_write yo0)) ∧ (∀ (v1 : Int32) (o0 : cf_O), (okO I_M o0) → (Fr (fr_M [76, 96] [75, 77, 97] []) yo0 o0) → ((0 : Int) ≤ v1.toInt ∧ v1.toInt ≤ 200) → ((0 : Int) ≤ (o0.1 0).toInt ∧ (o0.1 0).toInt ≤ 0) → ((1 : Int) ≤ (o0.1 38).toInt ∧ (o0.1 38).toInt ≤ 1) → ((2 : Int) ≤ (o0.1 65).toInt ∧ (o0.1 65).toInt ≤ 5) → ((0 : Int) ≤ (o0.1 95).toInt ∧ (o0.1 95).toInt ≤ 0) → ((o0.1 76).toInt ≤ 200 + 330 * v1.toInt) → (Cv (o0.1 73) (o0.1 39) (o0.1 43) (o0.2.1 74)) → (Cn (o0.2.1 59) (o0.2.1 58)) → 14 + (200 - v1.toInt) * 2 < (n : Int) → tt (gM_write n 2 v1 o0) (QM_write yo0)) ∧ (∀ (v1 : Int32) (o0 : cf_O), (okO I_M o0) → (Fr (fr_M [76, 96] [75, 77, 97] []) yo0 o0) → ((0 : Int) ≤ v1.toInt ∧ v1.toInt ≤ 6) → ((0 : Int) ≤ (o0.1 0).toInt ∧ (o0.1 0).toInt ≤ 0) → ((1 : Int) ≤ (o0.1 38).toInt ∧ (o0.1 38).toInt ≤ 1) → ((2 : Int) ≤ (o0.1 65).toInt ∧ (o0.1 65).toInt ≤ 5) → ((0 : Int) ≤ (o0.1 95).toInt ∧ (o0.1 95).toInt ≤ 0) → ((o0.1 76).toInt ≤ 66300 + 40 * v1.toInt) → 0 + (6 - v1.toInt) * 2 < (n : Int) → tt (gM_write n 3 v1 o0) (QM_write yo0))
set_option maxHeartbeats 4000000 in
set_option maxRecDepth 100000 in
theorem tM_write_107 {yo0 : cf_O} {n : Nat} (H : HM_write yo0 n) (v1 : Int32) (o0 : cf_O) (k_o0 : okO I_M o0) (r_o0 : Fr (fr_M [76, 96] [75, 77, 97] []) yo0 o0) (i_v1 : (0 : Int) ≤ v1.toInt ∧ v1.toInt ≤ 6) (f_o0_0 : (0 : Int) ≤ (o0.1 0).toInt ∧ (o0.1 0).toInt ≤ 0) (f_o0_38 : (1 : Int) ≤ (o0.1 38).toInt ∧ (o0.1 38).toInt ≤ 1) (f_o0_65 : (2 : Int) ≤ (o0.1 65).toInt ∧ (o0.1 65).toInt ≤ 5) (f_o0_95 : (0 : Int) ≤ (o0.1 95).toInt ∧ (o0.1 95).toInt ≤ 0) (x_0 : (o0.1 76).toInt ≤ 66300 + 40 * v1.toInt) (hm : 0 + (6 - v1.toInt) * 2 ≤ (n : Int)) : tt (fM_write_107 (gM_write n) v1 o0) (QM_write yo0) := by
  unfold fM_write_107
  have g_o0_39 : (0 : Int) ≤ (o0.1 39).toInt ∧ (o0.1 39).toInt ≤ 8 := k_o0.1 39
  have ey_o0_39 : (o0.1 39).toInt = (yo0.1 39).toInt := congrArg Int32.toInt (r_o0.1 39 rfl)
  have g_o0_43 : (0 : Int) ≤ (o0.1 43).toInt ∧ (o0.1 43).toInt ≤ 200 := k_o0.1 43
  have ey_o0_43 : (o0.1 43).toInt = (yo0.1 43).toInt := congrArg Int32.toInt (r_o0.1 43 rfl)
  have g_o0_76 : (0 : Int) ≤ (o0.1 76).toInt ∧ (o0.1 76).toInt ≤ 90000 := k_o0.1 76
  have ey_o0_95 : (o0.1 95).toInt = (yo0.1 95).toInt := congrArg Int32.toInt (r_o0.1 95 rfl)
  have g_o0_96 : (0 : Int) ≤ (o0.1 96).toInt ∧ (o0.1 96).toInt ≤ 24000 := k_o0.1 96
  refine tt_if (fun c1 => ?_) (fun c1 => ?_)
  · have wc1 : (o0.1 40).toInt ≤ v1.toInt := c_le c1
    refine tt_b (sM_word _ _ k_o0 (iv_w (a := 0) (b := 3) (by decide) (by decide) (show (3 : Int) ≤ (3 : Int32).toInt ∧ (3 : Int32).toInt ≤ 3 by decide)) f_o0_0 f_o0_38 (show (o0.1 95).toInt = 1 ∨ (o0.1 76).toInt ≤ 90000 - 14 by omega) (show (o0.1 95).toInt = 0 ∨ (o0.1 96).toInt ≤ 24000 - 14 by omega)) (fun q2 hq2 => ?_)
    obtain ⟨k_q2, n_q2, zq2_0, zq2_1, -⟩ := hq2
    have r_q2 := fr_tr r_o0 n_q2 rfl rfl rfl
    have f_q2_0 : (0 : Int) ≤ (q2.1 0).toInt ∧ (q2.1 0).toInt ≤ 0 := by rw [n_q2.1 0 rfl]; exact f_o0_0
    have f_q2_65 : (2 : Int) ≤ (q2.1 65).toInt ∧ (q2.1 65).toInt ≤ 5 := by rw [n_q2.1 65 rfl]; exact f_o0_65
    have f_q2_38 : (1 : Int) ≤ (q2.1 38).toInt ∧ (q2.1 38).toInt ≤ 1 := by rw [n_q2.1 38 rfl]; exact f_o0_38
    have f_q2_95 : (0 : Int) ≤ (q2.1 95).toInt ∧ (q2.1 95).toInt ≤ 0 := by rw [n_q2.1 95 rfl]; exact f_o0_95
    have e_q2_39 : (q2.1 39).toInt = (o0.1 39).toInt := congrArg Int32.toInt (n_q2.1 39 rfl)
    have g_q2_39 : (0 : Int) ≤ (q2.1 39).toInt ∧ (q2.1 39).toInt ≤ 8 := k_q2.1 39
    have e_q2_43 : (q2.1 43).toInt = (o0.1 43).toInt := congrArg Int32.toInt (n_q2.1 43 rfl)
    have g_q2_43 : (0 : Int) ≤ (q2.1 43).toInt ∧ (q2.1 43).toInt ≤ 200 := k_q2.1 43
    have g_q2_76 : (0 : Int) ≤ (q2.1 76).toInt ∧ (q2.1 76).toInt ≤ 90000 := k_q2.1 76
    have e_q2_95 : (q2.1 95).toInt = (o0.1 95).toInt := congrArg Int32.toInt (n_q2.1 95 rfl)
    have g_q2_96 : (0 : Int) ≤ (q2.1 96).toInt ∧ (q2.1 96).toInt ≤ 24000 := k_q2.1 96
    have zq2_0 : (q2.1 76).toInt ≤ (o0.1 76).toInt + 14 := zq2_0
    have zq2_1 : (q2.1 96).toInt ≤ (o0.1 96).toInt + 14 := zq2_1
    refine tt_b (sM_emit _ _ k_q2 f_q2_0 f_q2_38 (show (q2.1 95).toInt = 1 ∨ (q2.1 76).toInt ≤ 90000 - 1 by omega) (show (q2.1 95).toInt = 0 ∨ (q2.1 96).toInt ≤ 24000 - 1 by omega)) (fun q3 hq3 => ?_)
    obtain ⟨k_q3, n_q3, zq3_0, zq3_1, -⟩ := hq3
    have r_q3 := fr_tr r_q2 n_q3 rfl rfl rfl
    have f_q3_0 : (0 : Int) ≤ (q3.1 0).toInt ∧ (q3.1 0).toInt ≤ 0 := by rw [n_q3.1 0 rfl]; exact f_q2_0
    have f_q3_65 : (2 : Int) ≤ (q3.1 65).toInt ∧ (q3.1 65).toInt ≤ 5 := by rw [n_q3.1 65 rfl]; exact f_q2_65
    have f_q3_38 : (1 : Int) ≤ (q3.1 38).toInt ∧ (q3.1 38).toInt ≤ 1 := by rw [n_q3.1 38 rfl]; exact f_q2_38
    have f_q3_95 : (0 : Int) ≤ (q3.1 95).toInt ∧ (q3.1 95).toInt ≤ 0 := by rw [n_q3.1 95 rfl]; exact f_q2_95
    have e_q3_39 : (q3.1 39).toInt = (q2.1 39).toInt := congrArg Int32.toInt (n_q3.1 39 rfl)
    have g_q3_39 : (0 : Int) ≤ (q3.1 39).toInt ∧ (q3.1 39).toInt ≤ 8 := k_q3.1 39
    have e_q3_43 : (q3.1 43).toInt = (q2.1 43).toInt := congrArg Int32.toInt (n_q3.1 43 rfl)
    have g_q3_43 : (0 : Int) ≤ (q3.1 43).toInt ∧ (q3.1 43).toInt ≤ 200 := k_q3.1 43
    have g_q3_76 : (0 : Int) ≤ (q3.1 76).toInt ∧ (q3.1 76).toInt ≤ 90000 := k_q3.1 76
    have e_q3_95 : (q3.1 95).toInt = (q2.1 95).toInt := congrArg Int32.toInt (n_q3.1 95 rfl)
    have g_q3_96 : (0 : Int) ≤ (q3.1 96).toInt ∧ (q3.1 96).toInt ≤ 24000 := k_q3.1 96
    have zq3_0 : (q3.1 76).toInt ≤ (q2.1 76).toInt + 1 := zq3_0
    have zq3_1 : (q3.1 96).toInt ≤ (q2.1 96).toInt + 1 := zq3_1
    exact tt_some ⟨k_q3, r_q3, trivial⟩
  · have wc1 : v1.toInt < (o0.1 40).toInt := c_nle c1
    have i4 : (0 : Int) ≤ v1.toInt ∧ v1.toInt ≤ 5 := nr_nlel c1 i_v1 (k_o0.1 40) (by decide) (by decide)
    have i5 : (1 : Int) ≤ (o0.1 40).toInt ∧ (o0.1 40).toInt ≤ 6 := nr_nler c1 i_v1 (k_o0.1 40) (by decide) (by decide)
    refine tt_b (sM_writeOutput _ _ k_o0 i4 f_o0_0 f_o0_38 i5 f_o0_65 f_o0_95 (show (o0.1 95).toInt = 1 ∨ (o0.1 76).toInt ≤ 90000 - 40 by omega) (show (o0.1 95).toInt = 0 ∨ (o0.1 96).toInt ≤ 24000 - 40 by omega)) (fun q6 hq6 => ?_)
    obtain ⟨k_q6, n_q6, zq6_0, zq6_1, -⟩ := hq6
    have r_q6 := fr_tr r_o0 n_q6 rfl rfl rfl
    have f_q6_0 : (0 : Int) ≤ (q6.1 0).toInt ∧ (q6.1 0).toInt ≤ 0 := by rw [n_q6.1 0 rfl]; exact f_o0_0
    have f_q6_65 : (2 : Int) ≤ (q6.1 65).toInt ∧ (q6.1 65).toInt ≤ 5 := by rw [n_q6.1 65 rfl]; exact f_o0_65
    have f_q6_38 : (1 : Int) ≤ (q6.1 38).toInt ∧ (q6.1 38).toInt ≤ 1 := by rw [n_q6.1 38 rfl]; exact f_o0_38
    have f_q6_40 : (1 : Int) ≤ (q6.1 40).toInt ∧ (q6.1 40).toInt ≤ 6 := by rw [n_q6.1 40 rfl]; exact i5
    have f_q6_95 : (0 : Int) ≤ (q6.1 95).toInt ∧ (q6.1 95).toInt ≤ 0 := by rw [n_q6.1 95 rfl]; exact f_o0_95
    have e_q6_39 : (q6.1 39).toInt = (o0.1 39).toInt := congrArg Int32.toInt (n_q6.1 39 rfl)
    have g_q6_39 : (0 : Int) ≤ (q6.1 39).toInt ∧ (q6.1 39).toInt ≤ 8 := k_q6.1 39
    have e_q6_43 : (q6.1 43).toInt = (o0.1 43).toInt := congrArg Int32.toInt (n_q6.1 43 rfl)
    have g_q6_43 : (0 : Int) ≤ (q6.1 43).toInt ∧ (q6.1 43).toInt ≤ 200 := k_q6.1 43
    have g_q6_76 : (0 : Int) ≤ (q6.1 76).toInt ∧ (q6.1 76).toInt ≤ 90000 := k_q6.1 76
    have e_q6_95 : (q6.1 95).toInt = (o0.1 95).toInt := congrArg Int32.toInt (n_q6.1 95 rfl)
    have g_q6_96 : (0 : Int) ≤ (q6.1 96).toInt ∧ (q6.1 96).toInt ≤ 24000 := k_q6.1 96
    have zq6_0 : (q6.1 76).toInt ≤ (o0.1 76).toInt + 40 := zq6_0
    have zq6_1 : (q6.1 96).toInt ≤ (o0.1 96).toInt + 40 := zq6_1
    refine tt_kv (P := fun z => ((1 : Int) ≤ z.toInt ∧ z.toInt ≤ 6) ∧ z.toInt = v1.toInt + 1) ⟨iv_add i4 (show (1 : Int) ≤ (1 : Int32).toInt ∧ (1 : Int32).toInt ≤ 1 by decide) (by decide) (by decide) (by decide) (by decide), iq_add i4 (show (1 : Int) ≤ (1 : Int32).toInt ∧ (1 : Int32).toInt ≤ 1 by decide) (by decide) (by decide)⟩ (fun x7 qi8 => ?_)
    obtain ⟨i8, ei8⟩ := qi8
    exact H.2.2.2 _ _ k_q6 r_q6 (iv_w (a := 0) (b := 6) (by decide) (by decide) i8) f_q6_0 f_q6_38 f_q6_65 f_q6_95 (show (q6.1 76).toInt ≤ 66300 + 40 * x7.toInt by omega) (show 0 + (6 - x7.toInt) * 2 < (n : Int) by omega)
set_option maxHeartbeats 4000000 in
set_option maxRecDepth 100000 in
theorem tM_write_81 {yo0 : cf_O} {n : Nat} (H : HM_write yo0 n) (v1 : Int32) (o0 : cf_O) (k_o0 : okO I_M o0) (r_o0 : Fr (fr_M [76, 96] [75, 77, 97] []) yo0 o0) (i_v1 : (0 : Int) ≤ v1.toInt ∧ v1.toInt ≤ 200) (f_o0_0 : (0 : Int) ≤ (o0.1 0).toInt ∧ (o0.1 0).toInt ≤ 0) (f_o0_38 : (1 : Int) ≤ (o0.1 38).toInt ∧ (o0.1 38).toInt ≤ 1) (f_o0_65 : (2 : Int) ≤ (o0.1 65).toInt ∧ (o0.1 65).toInt ≤ 5) (f_o0_95 : (0 : Int) ≤ (o0.1 95).toInt ∧ (o0.1 95).toInt ≤ 0) (x_0 : (o0.1 76).toInt ≤ 200 + 330 * v1.toInt) (x_1 : Cv (o0.1 73) (o0.1 39) (o0.1 43) (o0.2.1 74)) (x_2 : Cn (o0.2.1 59) (o0.2.1 58)) (hm : 14 + (200 - v1.toInt) * 2 ≤ (n : Int)) : tt (fM_write_81 (gM_write n) v1 o0) (QM_write yo0) := by
  unfold fM_write_81
  have g_o0_39 : (0 : Int) ≤ (o0.1 39).toInt ∧ (o0.1 39).toInt ≤ 8 := k_o0.1 39
  have ey_o0_39 : (o0.1 39).toInt = (yo0.1 39).toInt := congrArg Int32.toInt (r_o0.1 39 rfl)
  have g_o0_43 : (0 : Int) ≤ (o0.1 43).toInt ∧ (o0.1 43).toInt ≤ 200 := k_o0.1 43
  have ey_o0_43 : (o0.1 43).toInt = (yo0.1 43).toInt := congrArg Int32.toInt (r_o0.1 43 rfl)
  have g_o0_76 : (0 : Int) ≤ (o0.1 76).toInt ∧ (o0.1 76).toInt ≤ 90000 := k_o0.1 76
  have ey_o0_95 : (o0.1 95).toInt = (yo0.1 95).toInt := congrArg Int32.toInt (r_o0.1 95 rfl)
  have g_o0_96 : (0 : Int) ≤ (o0.1 96).toInt ∧ (o0.1 96).toInt ≤ 24000 := k_o0.1 96
  refine tt_if (fun c1 => ?_) (fun c1 => ?_)
  · have wc1 : (o0.1 73).toInt ≤ v1.toInt := c_le c1
    exact H.2.2.2 _ _ k_o0 r_o0 (iv_w (a := 0) (b := 6) (by decide) (by decide) (show (0 : Int) ≤ (0 : Int32).toInt ∧ (0 : Int32).toInt ≤ 0 by decide)) f_o0_0 f_o0_38 f_o0_65 f_o0_95 (show (o0.1 76).toInt ≤ 66300 + 40 * 0 by omega) (show 0 + (6 - 0) * 2 < (n : Int) by omega)
  · have wc1 : v1.toInt < (o0.1 73).toInt := c_nle c1
    have i2 : (0 : Int) ≤ v1.toInt ∧ v1.toInt ≤ 199 := nr_nlel c1 i_v1 (k_o0.1 73) (by decide) (by decide)
    have i3 : (1 : Int) ≤ (o0.1 73).toInt ∧ (o0.1 73).toInt ≤ 200 := nr_nler c1 i_v1 (k_o0.1 73) (by decide) (by decide)
    refine tt_n (ix_ok i2 (by decide) (by decide)) ?_
    refine tt_kv (P := fun z => ((0 : Int) ≤ z.toInt ∧ z.toInt ≤ 208) ∧ z.toInt = (o0.2.1 74 v1.toNatClampNeg).toInt) ⟨(k_o0.2 74 _), rfl⟩ (fun x4 qi5 => ?_)
    obtain ⟨i5, ei5⟩ := qi5
    have t6 := tn_n v1
    have t7 := x_1 (v1.toNatClampNeg)
    refine tt_b (sM_writeCell _ _ k_o0 i5 f_o0_0 f_o0_38 f_o0_65 i3 f_o0_95 (show x4.toInt ≤ (o0.1 39).toInt + (o0.1 43).toInt by omega) (show (o0.1 95).toInt = 1 ∨ (o0.1 76).toInt ≤ 90000 - 330 by omega) (show (o0.1 95).toInt = 0 ∨ (o0.1 96).toInt ≤ 24000 - 330 by omega) (show 1 ≤ x4.toInt by omega) x_2) (fun q8 hq8 => ?_)
    obtain ⟨k_q8, n_q8, zq8_0, zq8_1, -⟩ := hq8
    have r_q8 := fr_tr r_o0 n_q8 rfl rfl rfl
    have f_q8_0 : (0 : Int) ≤ (q8.1 0).toInt ∧ (q8.1 0).toInt ≤ 0 := by rw [n_q8.1 0 rfl]; exact f_o0_0
    have f_q8_65 : (2 : Int) ≤ (q8.1 65).toInt ∧ (q8.1 65).toInt ≤ 5 := by rw [n_q8.1 65 rfl]; exact f_o0_65
    have f_q8_38 : (1 : Int) ≤ (q8.1 38).toInt ∧ (q8.1 38).toInt ≤ 1 := by rw [n_q8.1 38 rfl]; exact f_o0_38
    have f_q8_73 : (1 : Int) ≤ (q8.1 73).toInt ∧ (q8.1 73).toInt ≤ 200 := by rw [n_q8.1 73 rfl]; exact i3
    have f_q8_95 : (0 : Int) ≤ (q8.1 95).toInt ∧ (q8.1 95).toInt ≤ 0 := by rw [n_q8.1 95 rfl]; exact f_o0_95
    have e_q8_39 : (q8.1 39).toInt = (o0.1 39).toInt := congrArg Int32.toInt (n_q8.1 39 rfl)
    have g_q8_39 : (0 : Int) ≤ (q8.1 39).toInt ∧ (q8.1 39).toInt ≤ 8 := k_q8.1 39
    have e_q8_43 : (q8.1 43).toInt = (o0.1 43).toInt := congrArg Int32.toInt (n_q8.1 43 rfl)
    have g_q8_43 : (0 : Int) ≤ (q8.1 43).toInt ∧ (q8.1 43).toInt ≤ 200 := k_q8.1 43
    have g_q8_76 : (0 : Int) ≤ (q8.1 76).toInt ∧ (q8.1 76).toInt ≤ 90000 := k_q8.1 76
    have e_q8_95 : (q8.1 95).toInt = (o0.1 95).toInt := congrArg Int32.toInt (n_q8.1 95 rfl)
    have g_q8_96 : (0 : Int) ≤ (q8.1 96).toInt ∧ (q8.1 96).toInt ≤ 24000 := k_q8.1 96
    have zq8_0 : (q8.1 76).toInt ≤ (o0.1 76).toInt + 330 := zq8_0
    have zq8_1 : (q8.1 96).toInt ≤ (o0.1 96).toInt + 330 := zq8_1
    have u9 : Cv (q8.1 73) (q8.1 39) (q8.1 43) (q8.2.1 74) := by rw [n_q8.1 39 rfl, n_q8.1 43 rfl, n_q8.1 73 rfl, n_q8.2.1 74 rfl]; exact x_1
    have u10 : Cn (q8.2.1 59) (q8.2.1 58) := by rw [n_q8.2.1 58 rfl, n_q8.2.1 59 rfl]; exact x_2
    refine tt_kv (P := fun z => ((1 : Int) ≤ z.toInt ∧ z.toInt ≤ 200) ∧ z.toInt = v1.toInt + 1) ⟨iv_add i2 (show (1 : Int) ≤ (1 : Int32).toInt ∧ (1 : Int32).toInt ≤ 1 by decide) (by decide) (by decide) (by decide) (by decide), iq_add i2 (show (1 : Int) ≤ (1 : Int32).toInt ∧ (1 : Int32).toInt ≤ 1 by decide) (by decide) (by decide)⟩ (fun x11 qi12 => ?_)
    obtain ⟨i12, ei12⟩ := qi12
    exact H.2.2.1 _ _ k_q8 r_q8 (iv_w (a := 0) (b := 200) (by decide) (by decide) i12) f_q8_0 f_q8_38 f_q8_65 f_q8_95 (show (q8.1 76).toInt ≤ 200 + 330 * x11.toInt by omega) u9 u10 (show 14 + (200 - x11.toInt) * 2 < (n : Int) by omega)
set_option maxHeartbeats 4000000 in
set_option maxRecDepth 100000 in
theorem tM_write_49 {yo0 : cf_O} {n : Nat} (H : HM_write yo0 n) (v1 : Int32) (o0 : cf_O) (k_o0 : okO I_M o0) (r_o0 : Fr (fr_M [76, 96] [75, 77, 97] []) yo0 o0) (i_v1 : (0 : Int) ≤ v1.toInt ∧ v1.toInt ≤ 6) (f_o0_0 : (0 : Int) ≤ (o0.1 0).toInt ∧ (o0.1 0).toInt ≤ 0) (f_o0_38 : (1 : Int) ≤ (o0.1 38).toInt ∧ (o0.1 38).toInt ≤ 1) (f_o0_65 : (2 : Int) ≤ (o0.1 65).toInt ∧ (o0.1 65).toInt ≤ 5) (f_o0_95 : (0 : Int) ≤ (o0.1 95).toInt ∧ (o0.1 95).toInt ≤ 0) (x_0 : (o0.1 76).toInt ≤ 101 + 9 * v1.toInt) (x_1 : Cv (o0.1 73) (o0.1 39) (o0.1 43) (o0.2.1 74)) (x_2 : Cn (o0.2.1 59) (o0.2.1 58)) (hm : 416 + (6 - v1.toInt) * 2 ≤ (n : Int)) : tt (fM_write_49 (gM_write n) v1 o0) (QM_write yo0) := by
  unfold fM_write_49
  have g_o0_39 : (0 : Int) ≤ (o0.1 39).toInt ∧ (o0.1 39).toInt ≤ 8 := k_o0.1 39
  have ey_o0_39 : (o0.1 39).toInt = (yo0.1 39).toInt := congrArg Int32.toInt (r_o0.1 39 rfl)
  have g_o0_43 : (0 : Int) ≤ (o0.1 43).toInt ∧ (o0.1 43).toInt ≤ 200 := k_o0.1 43
  have ey_o0_43 : (o0.1 43).toInt = (yo0.1 43).toInt := congrArg Int32.toInt (r_o0.1 43 rfl)
  have g_o0_76 : (0 : Int) ≤ (o0.1 76).toInt ∧ (o0.1 76).toInt ≤ 90000 := k_o0.1 76
  have ey_o0_95 : (o0.1 95).toInt = (yo0.1 95).toInt := congrArg Int32.toInt (r_o0.1 95 rfl)
  have g_o0_96 : (0 : Int) ≤ (o0.1 96).toInt ∧ (o0.1 96).toInt ≤ 24000 := k_o0.1 96
  refine tt_if (fun c1 => ?_) (fun c1 => ?_)
  · have wc1 : (o0.1 40).toInt ≤ v1.toInt := c_le c1
    refine tt_b (sM_emit _ _ k_o0 f_o0_0 f_o0_38 (show (o0.1 95).toInt = 1 ∨ (o0.1 76).toInt ≤ 90000 - 1 by omega) (show (o0.1 95).toInt = 0 ∨ (o0.1 96).toInt ≤ 24000 - 1 by omega)) (fun q2 hq2 => ?_)
    obtain ⟨k_q2, n_q2, zq2_0, zq2_1, -⟩ := hq2
    have r_q2 := fr_tr r_o0 n_q2 rfl rfl rfl
    have f_q2_0 : (0 : Int) ≤ (q2.1 0).toInt ∧ (q2.1 0).toInt ≤ 0 := by rw [n_q2.1 0 rfl]; exact f_o0_0
    have f_q2_65 : (2 : Int) ≤ (q2.1 65).toInt ∧ (q2.1 65).toInt ≤ 5 := by rw [n_q2.1 65 rfl]; exact f_o0_65
    have f_q2_38 : (1 : Int) ≤ (q2.1 38).toInt ∧ (q2.1 38).toInt ≤ 1 := by rw [n_q2.1 38 rfl]; exact f_o0_38
    have f_q2_95 : (0 : Int) ≤ (q2.1 95).toInt ∧ (q2.1 95).toInt ≤ 0 := by rw [n_q2.1 95 rfl]; exact f_o0_95
    have e_q2_39 : (q2.1 39).toInt = (o0.1 39).toInt := congrArg Int32.toInt (n_q2.1 39 rfl)
    have g_q2_39 : (0 : Int) ≤ (q2.1 39).toInt ∧ (q2.1 39).toInt ≤ 8 := k_q2.1 39
    have e_q2_43 : (q2.1 43).toInt = (o0.1 43).toInt := congrArg Int32.toInt (n_q2.1 43 rfl)
    have g_q2_43 : (0 : Int) ≤ (q2.1 43).toInt ∧ (q2.1 43).toInt ≤ 200 := k_q2.1 43
    have g_q2_76 : (0 : Int) ≤ (q2.1 76).toInt ∧ (q2.1 76).toInt ≤ 90000 := k_q2.1 76
    have e_q2_95 : (q2.1 95).toInt = (o0.1 95).toInt := congrArg Int32.toInt (n_q2.1 95 rfl)
    have g_q2_96 : (0 : Int) ≤ (q2.1 96).toInt ∧ (q2.1 96).toInt ≤ 24000 := k_q2.1 96
    have zq2_0 : (q2.1 76).toInt ≤ (o0.1 76).toInt + 1 := zq2_0
    have zq2_1 : (q2.1 96).toInt ≤ (o0.1 96).toInt + 1 := zq2_1
    have u3 : Cv (q2.1 73) (q2.1 39) (q2.1 43) (q2.2.1 74) := by rw [n_q2.1 39 rfl, n_q2.1 43 rfl, n_q2.1 73 rfl, n_q2.2.1 74 rfl]; exact x_1
    have u4 : Cn (q2.2.1 59) (q2.2.1 58) := by rw [n_q2.2.1 58 rfl, n_q2.2.1 59 rfl]; exact x_2
    exact H.2.2.1 _ _ k_q2 r_q2 (iv_w (a := 0) (b := 200) (by decide) (by decide) (show (0 : Int) ≤ (0 : Int32).toInt ∧ (0 : Int32).toInt ≤ 0 by decide)) f_q2_0 f_q2_38 f_q2_65 f_q2_95 (show (q2.1 76).toInt ≤ 200 + 330 * 0 by omega) u3 u4 (show 14 + (200 - 0) * 2 < (n : Int) by omega)
  · have wc1 : v1.toInt < (o0.1 40).toInt := c_nle c1
    have i5 : (0 : Int) ≤ v1.toInt ∧ v1.toInt ≤ 5 := nr_nlel c1 i_v1 (k_o0.1 40) (by decide) (by decide)
    have i6 : (1 : Int) ≤ (o0.1 40).toInt ∧ (o0.1 40).toInt ≤ 6 := nr_nler c1 i_v1 (k_o0.1 40) (by decide) (by decide)
    refine tt_b (sM_name_M42 _ _ k_o0 i5 f_o0_0 f_o0_38 i6 (show (o0.1 95).toInt = 1 ∨ (o0.1 76).toInt ≤ 90000 - 9 by omega) (show (o0.1 95).toInt = 0 ∨ (o0.1 96).toInt ≤ 24000 - 9 by omega)) (fun q7 hq7 => ?_)
    obtain ⟨k_q7, n_q7, zq7_0, zq7_1, -⟩ := hq7
    have r_q7 := fr_tr r_o0 n_q7 rfl rfl rfl
    have f_q7_0 : (0 : Int) ≤ (q7.1 0).toInt ∧ (q7.1 0).toInt ≤ 0 := by rw [n_q7.1 0 rfl]; exact f_o0_0
    have f_q7_65 : (2 : Int) ≤ (q7.1 65).toInt ∧ (q7.1 65).toInt ≤ 5 := by rw [n_q7.1 65 rfl]; exact f_o0_65
    have f_q7_38 : (1 : Int) ≤ (q7.1 38).toInt ∧ (q7.1 38).toInt ≤ 1 := by rw [n_q7.1 38 rfl]; exact f_o0_38
    have f_q7_40 : (1 : Int) ≤ (q7.1 40).toInt ∧ (q7.1 40).toInt ≤ 6 := by rw [n_q7.1 40 rfl]; exact i6
    have f_q7_95 : (0 : Int) ≤ (q7.1 95).toInt ∧ (q7.1 95).toInt ≤ 0 := by rw [n_q7.1 95 rfl]; exact f_o0_95
    have e_q7_39 : (q7.1 39).toInt = (o0.1 39).toInt := congrArg Int32.toInt (n_q7.1 39 rfl)
    have g_q7_39 : (0 : Int) ≤ (q7.1 39).toInt ∧ (q7.1 39).toInt ≤ 8 := k_q7.1 39
    have e_q7_43 : (q7.1 43).toInt = (o0.1 43).toInt := congrArg Int32.toInt (n_q7.1 43 rfl)
    have g_q7_43 : (0 : Int) ≤ (q7.1 43).toInt ∧ (q7.1 43).toInt ≤ 200 := k_q7.1 43
    have g_q7_76 : (0 : Int) ≤ (q7.1 76).toInt ∧ (q7.1 76).toInt ≤ 90000 := k_q7.1 76
    have e_q7_95 : (q7.1 95).toInt = (o0.1 95).toInt := congrArg Int32.toInt (n_q7.1 95 rfl)
    have g_q7_96 : (0 : Int) ≤ (q7.1 96).toInt ∧ (q7.1 96).toInt ≤ 24000 := k_q7.1 96
    have zq7_0 : (q7.1 76).toInt ≤ (o0.1 76).toInt + 9 := zq7_0
    have zq7_1 : (q7.1 96).toInt ≤ (o0.1 96).toInt + 9 := zq7_1
    have u8 : Cv (q7.1 73) (q7.1 39) (q7.1 43) (q7.2.1 74) := by rw [n_q7.1 39 rfl, n_q7.1 43 rfl, n_q7.1 73 rfl, n_q7.2.1 74 rfl]; exact x_1
    have u9 : Cn (q7.2.1 59) (q7.2.1 58) := by rw [n_q7.2.1 58 rfl, n_q7.2.1 59 rfl]; exact x_2
    refine tt_kv (P := fun z => ((1 : Int) ≤ z.toInt ∧ z.toInt ≤ 6) ∧ z.toInt = v1.toInt + 1) ⟨iv_add i5 (show (1 : Int) ≤ (1 : Int32).toInt ∧ (1 : Int32).toInt ≤ 1 by decide) (by decide) (by decide) (by decide) (by decide), iq_add i5 (show (1 : Int) ≤ (1 : Int32).toInt ∧ (1 : Int32).toInt ≤ 1 by decide) (by decide) (by decide)⟩ (fun x10 qi11 => ?_)
    obtain ⟨i11, ei11⟩ := qi11
    exact H.2.1 _ _ k_q7 r_q7 (iv_w (a := 0) (b := 6) (by decide) (by decide) i11) f_q7_0 f_q7_38 f_q7_65 f_q7_95 (show (q7.1 76).toInt ≤ 101 + 9 * x10.toInt by omega) u8 u9 (show 416 + (6 - x10.toInt) * 2 < (n : Int) by omega)
set_option maxHeartbeats 4000000 in
set_option maxRecDepth 100000 in
theorem tM_write_12 {yo0 : cf_O} {n : Nat} (H : HM_write yo0 n) (v1 : Int32) (o0 : cf_O) (k_o0 : okO I_M o0) (r_o0 : Fr (fr_M [76, 96] [75, 77, 97] []) yo0 o0) (i_v1 : (0 : Int) ≤ v1.toInt ∧ v1.toInt ≤ 8) (f_o0_0 : (0 : Int) ≤ (o0.1 0).toInt ∧ (o0.1 0).toInt ≤ 0) (f_o0_38 : (1 : Int) ≤ (o0.1 38).toInt ∧ (o0.1 38).toInt ≤ 1) (f_o0_65 : (2 : Int) ≤ (o0.1 65).toInt ∧ (o0.1 65).toInt ≤ 5) (f_o0_95 : (0 : Int) ≤ (o0.1 95).toInt ∧ (o0.1 95).toInt ≤ 0) (x_0 : (o0.1 76).toInt ≤ 14 + 9 * v1.toInt) (x_1 : Cv (o0.1 73) (o0.1 39) (o0.1 43) (o0.2.1 74)) (x_2 : Cn (o0.2.1 59) (o0.2.1 58)) (hm : 430 + (8 - v1.toInt) * 2 ≤ (n : Int)) : tt (fM_write_12 (gM_write n) v1 o0) (QM_write yo0) := by
  unfold fM_write_12
  have g_o0_39 : (0 : Int) ≤ (o0.1 39).toInt ∧ (o0.1 39).toInt ≤ 8 := k_o0.1 39
  have ey_o0_39 : (o0.1 39).toInt = (yo0.1 39).toInt := congrArg Int32.toInt (r_o0.1 39 rfl)
  have g_o0_43 : (0 : Int) ≤ (o0.1 43).toInt ∧ (o0.1 43).toInt ≤ 200 := k_o0.1 43
  have ey_o0_43 : (o0.1 43).toInt = (yo0.1 43).toInt := congrArg Int32.toInt (r_o0.1 43 rfl)
  have g_o0_76 : (0 : Int) ≤ (o0.1 76).toInt ∧ (o0.1 76).toInt ≤ 90000 := k_o0.1 76
  have ey_o0_95 : (o0.1 95).toInt = (yo0.1 95).toInt := congrArg Int32.toInt (r_o0.1 95 rfl)
  have g_o0_96 : (0 : Int) ≤ (o0.1 96).toInt ∧ (o0.1 96).toInt ≤ 24000 := k_o0.1 96
  refine tt_if (fun c1 => ?_) (fun c1 => ?_)
  · have wc1 : (o0.1 39).toInt ≤ v1.toInt := c_le c1
    refine tt_b (sM_emit _ _ k_o0 f_o0_0 f_o0_38 (show (o0.1 95).toInt = 1 ∨ (o0.1 76).toInt ≤ 90000 - 1 by omega) (show (o0.1 95).toInt = 0 ∨ (o0.1 96).toInt ≤ 24000 - 1 by omega)) (fun q2 hq2 => ?_)
    obtain ⟨k_q2, n_q2, zq2_0, zq2_1, -⟩ := hq2
    have r_q2 := fr_tr r_o0 n_q2 rfl rfl rfl
    have f_q2_0 : (0 : Int) ≤ (q2.1 0).toInt ∧ (q2.1 0).toInt ≤ 0 := by rw [n_q2.1 0 rfl]; exact f_o0_0
    have f_q2_65 : (2 : Int) ≤ (q2.1 65).toInt ∧ (q2.1 65).toInt ≤ 5 := by rw [n_q2.1 65 rfl]; exact f_o0_65
    have f_q2_38 : (1 : Int) ≤ (q2.1 38).toInt ∧ (q2.1 38).toInt ≤ 1 := by rw [n_q2.1 38 rfl]; exact f_o0_38
    have f_q2_95 : (0 : Int) ≤ (q2.1 95).toInt ∧ (q2.1 95).toInt ≤ 0 := by rw [n_q2.1 95 rfl]; exact f_o0_95
    have e_q2_39 : (q2.1 39).toInt = (o0.1 39).toInt := congrArg Int32.toInt (n_q2.1 39 rfl)
    have g_q2_39 : (0 : Int) ≤ (q2.1 39).toInt ∧ (q2.1 39).toInt ≤ 8 := k_q2.1 39
    have e_q2_43 : (q2.1 43).toInt = (o0.1 43).toInt := congrArg Int32.toInt (n_q2.1 43 rfl)
    have g_q2_43 : (0 : Int) ≤ (q2.1 43).toInt ∧ (q2.1 43).toInt ≤ 200 := k_q2.1 43
    have g_q2_76 : (0 : Int) ≤ (q2.1 76).toInt ∧ (q2.1 76).toInt ≤ 90000 := k_q2.1 76
    have e_q2_95 : (q2.1 95).toInt = (o0.1 95).toInt := congrArg Int32.toInt (n_q2.1 95 rfl)
    have g_q2_96 : (0 : Int) ≤ (q2.1 96).toInt ∧ (q2.1 96).toInt ≤ 24000 := k_q2.1 96
    have zq2_0 : (q2.1 76).toInt ≤ (o0.1 76).toInt + 1 := zq2_0
    have zq2_1 : (q2.1 96).toInt ≤ (o0.1 96).toInt + 1 := zq2_1
    have u3 : Cv (q2.1 73) (q2.1 39) (q2.1 43) (q2.2.1 74) := by rw [n_q2.1 39 rfl, n_q2.1 43 rfl, n_q2.1 73 rfl, n_q2.2.1 74 rfl]; exact x_1
    have u4 : Cn (q2.2.1 59) (q2.2.1 58) := by rw [n_q2.2.1 58 rfl, n_q2.2.1 59 rfl]; exact x_2
    refine tt_b (sM_word _ _ k_q2 (iv_w (a := 0) (b := 3) (by decide) (by decide) (show (1 : Int) ≤ (1 : Int32).toInt ∧ (1 : Int32).toInt ≤ 1 by decide)) f_q2_0 f_q2_38 (show (q2.1 95).toInt = 1 ∨ (q2.1 76).toInt ≤ 90000 - 14 by omega) (show (q2.1 95).toInt = 0 ∨ (q2.1 96).toInt ≤ 24000 - 14 by omega)) (fun q5 hq5 => ?_)
    obtain ⟨k_q5, n_q5, zq5_0, zq5_1, -⟩ := hq5
    have r_q5 := fr_tr r_q2 n_q5 rfl rfl rfl
    have f_q5_0 : (0 : Int) ≤ (q5.1 0).toInt ∧ (q5.1 0).toInt ≤ 0 := by rw [n_q5.1 0 rfl]; exact f_q2_0
    have f_q5_65 : (2 : Int) ≤ (q5.1 65).toInt ∧ (q5.1 65).toInt ≤ 5 := by rw [n_q5.1 65 rfl]; exact f_q2_65
    have f_q5_38 : (1 : Int) ≤ (q5.1 38).toInt ∧ (q5.1 38).toInt ≤ 1 := by rw [n_q5.1 38 rfl]; exact f_q2_38
    have f_q5_95 : (0 : Int) ≤ (q5.1 95).toInt ∧ (q5.1 95).toInt ≤ 0 := by rw [n_q5.1 95 rfl]; exact f_q2_95
    have e_q5_39 : (q5.1 39).toInt = (q2.1 39).toInt := congrArg Int32.toInt (n_q5.1 39 rfl)
    have g_q5_39 : (0 : Int) ≤ (q5.1 39).toInt ∧ (q5.1 39).toInt ≤ 8 := k_q5.1 39
    have e_q5_43 : (q5.1 43).toInt = (q2.1 43).toInt := congrArg Int32.toInt (n_q5.1 43 rfl)
    have g_q5_43 : (0 : Int) ≤ (q5.1 43).toInt ∧ (q5.1 43).toInt ≤ 200 := k_q5.1 43
    have g_q5_76 : (0 : Int) ≤ (q5.1 76).toInt ∧ (q5.1 76).toInt ≤ 90000 := k_q5.1 76
    have e_q5_95 : (q5.1 95).toInt = (q2.1 95).toInt := congrArg Int32.toInt (n_q5.1 95 rfl)
    have g_q5_96 : (0 : Int) ≤ (q5.1 96).toInt ∧ (q5.1 96).toInt ≤ 24000 := k_q5.1 96
    have zq5_0 : (q5.1 76).toInt ≤ (q2.1 76).toInt + 14 := zq5_0
    have zq5_1 : (q5.1 96).toInt ≤ (q2.1 96).toInt + 14 := zq5_1
    have u6 : Cv (q5.1 73) (q5.1 39) (q5.1 43) (q5.2.1 74) := by rw [n_q5.1 39 rfl, n_q5.1 43 rfl, n_q5.1 73 rfl, n_q5.2.1 74 rfl]; exact u3
    have u7 : Cn (q5.2.1 59) (q5.2.1 58) := by rw [n_q5.2.1 58 rfl, n_q5.2.1 59 rfl]; exact u4
    exact H.2.1 _ _ k_q5 r_q5 (iv_w (a := 0) (b := 6) (by decide) (by decide) (show (0 : Int) ≤ (0 : Int32).toInt ∧ (0 : Int32).toInt ≤ 0 by decide)) f_q5_0 f_q5_38 f_q5_65 f_q5_95 (show (q5.1 76).toInt ≤ 101 + 9 * 0 by omega) u6 u7 (show 416 + (6 - 0) * 2 < (n : Int) by omega)
  · have wc1 : v1.toInt < (o0.1 39).toInt := c_nle c1
    have i8 : (0 : Int) ≤ v1.toInt ∧ v1.toInt ≤ 7 := nr_nlel c1 i_v1 (k_o0.1 39) (by decide) (by decide)
    have i9 : (1 : Int) ≤ (o0.1 39).toInt ∧ (o0.1 39).toInt ≤ 8 := nr_nler c1 i_v1 (k_o0.1 39) (by decide) (by decide)
    refine tt_b (sM_name_M41 _ _ k_o0 i8 f_o0_0 f_o0_38 i9 (show (o0.1 95).toInt = 1 ∨ (o0.1 76).toInt ≤ 90000 - 9 by omega) (show (o0.1 95).toInt = 0 ∨ (o0.1 96).toInt ≤ 24000 - 9 by omega)) (fun q10 hq10 => ?_)
    obtain ⟨k_q10, n_q10, zq10_0, zq10_1, -⟩ := hq10
    have r_q10 := fr_tr r_o0 n_q10 rfl rfl rfl
    have f_q10_0 : (0 : Int) ≤ (q10.1 0).toInt ∧ (q10.1 0).toInt ≤ 0 := by rw [n_q10.1 0 rfl]; exact f_o0_0
    have f_q10_65 : (2 : Int) ≤ (q10.1 65).toInt ∧ (q10.1 65).toInt ≤ 5 := by rw [n_q10.1 65 rfl]; exact f_o0_65
    have f_q10_38 : (1 : Int) ≤ (q10.1 38).toInt ∧ (q10.1 38).toInt ≤ 1 := by rw [n_q10.1 38 rfl]; exact f_o0_38
    have f_q10_39 : (1 : Int) ≤ (q10.1 39).toInt ∧ (q10.1 39).toInt ≤ 8 := by rw [n_q10.1 39 rfl]; exact i9
    have f_q10_95 : (0 : Int) ≤ (q10.1 95).toInt ∧ (q10.1 95).toInt ≤ 0 := by rw [n_q10.1 95 rfl]; exact f_o0_95
    have e_q10_39 : (q10.1 39).toInt = (o0.1 39).toInt := congrArg Int32.toInt (n_q10.1 39 rfl)
    have e_q10_43 : (q10.1 43).toInt = (o0.1 43).toInt := congrArg Int32.toInt (n_q10.1 43 rfl)
    have g_q10_43 : (0 : Int) ≤ (q10.1 43).toInt ∧ (q10.1 43).toInt ≤ 200 := k_q10.1 43
    have g_q10_76 : (0 : Int) ≤ (q10.1 76).toInt ∧ (q10.1 76).toInt ≤ 90000 := k_q10.1 76
    have e_q10_95 : (q10.1 95).toInt = (o0.1 95).toInt := congrArg Int32.toInt (n_q10.1 95 rfl)
    have g_q10_96 : (0 : Int) ≤ (q10.1 96).toInt ∧ (q10.1 96).toInt ≤ 24000 := k_q10.1 96
    have zq10_0 : (q10.1 76).toInt ≤ (o0.1 76).toInt + 9 := zq10_0
    have zq10_1 : (q10.1 96).toInt ≤ (o0.1 96).toInt + 9 := zq10_1
    have u11 : Cv (q10.1 73) (q10.1 39) (q10.1 43) (q10.2.1 74) := by rw [n_q10.1 39 rfl, n_q10.1 43 rfl, n_q10.1 73 rfl, n_q10.2.1 74 rfl]; exact x_1
    have u12 : Cn (q10.2.1 59) (q10.2.1 58) := by rw [n_q10.2.1 58 rfl, n_q10.2.1 59 rfl]; exact x_2
    refine tt_kv (P := fun z => ((1 : Int) ≤ z.toInt ∧ z.toInt ≤ 8) ∧ z.toInt = v1.toInt + 1) ⟨iv_add i8 (show (1 : Int) ≤ (1 : Int32).toInt ∧ (1 : Int32).toInt ≤ 1 by decide) (by decide) (by decide) (by decide) (by decide), iq_add i8 (show (1 : Int) ≤ (1 : Int32).toInt ∧ (1 : Int32).toInt ≤ 1 by decide) (by decide) (by decide)⟩ (fun x13 qi14 => ?_)
    obtain ⟨i14, ei14⟩ := qi14
    exact H.1 _ _ k_q10 r_q10 (iv_w (a := 0) (b := 8) (by decide) (by decide) i14) f_q10_0 f_q10_38 f_q10_65 f_q10_95 (show (q10.1 76).toInt ≤ 14 + 9 * x13.toInt by omega) u11 u12 (show 430 + (8 - x13.toInt) * 2 < (n : Int) by omega)
set_option maxHeartbeats 4000000 in
set_option maxRecDepth 100000 in
theorem hM_write (yo0 : cf_O) : ∀ n, HM_write yo0 n := by
  intro n
  induction n with
  | zero => exact ⟨(fun v1 o0 k_o0 r_o0 i_v1 f_o0_0 f_o0_38 f_o0_65 f_o0_95 x_0 x_1 x_2 hm => by exact absurd (show 430 + (8 - v1.toInt) * 2 < (0 : Int) from hm) (by omega)), (fun v1 o0 k_o0 r_o0 i_v1 f_o0_0 f_o0_38 f_o0_65 f_o0_95 x_0 x_1 x_2 hm => by exact absurd (show 416 + (6 - v1.toInt) * 2 < (0 : Int) from hm) (by omega)), (fun v1 o0 k_o0 r_o0 i_v1 f_o0_0 f_o0_38 f_o0_65 f_o0_95 x_0 x_1 x_2 hm => by exact absurd (show 14 + (200 - v1.toInt) * 2 < (0 : Int) from hm) (by omega)), (fun v1 o0 k_o0 r_o0 i_v1 f_o0_0 f_o0_38 f_o0_65 f_o0_95 x_0 hm => by exact absurd (show 0 + (6 - v1.toInt) * 2 < (0 : Int) from hm) (by omega))⟩
  | succ n ih => exact ⟨(fun v1 o0 k_o0 r_o0 i_v1 f_o0_0 f_o0_38 f_o0_65 f_o0_95 x_0 x_1 x_2 hm => tM_write_12 ih v1 o0 k_o0 r_o0 i_v1 f_o0_0 f_o0_38 f_o0_65 f_o0_95 x_0 x_1 x_2 (by omega)), (fun v1 o0 k_o0 r_o0 i_v1 f_o0_0 f_o0_38 f_o0_65 f_o0_95 x_0 x_1 x_2 hm => tM_write_49 ih v1 o0 k_o0 r_o0 i_v1 f_o0_0 f_o0_38 f_o0_65 f_o0_95 x_0 x_1 x_2 (by omega)), (fun v1 o0 k_o0 r_o0 i_v1 f_o0_0 f_o0_38 f_o0_65 f_o0_95 x_0 x_1 x_2 hm => tM_write_81 ih v1 o0 k_o0 r_o0 i_v1 f_o0_0 f_o0_38 f_o0_65 f_o0_95 x_0 x_1 x_2 (by omega)), (fun v1 o0 k_o0 r_o0 i_v1 f_o0_0 f_o0_38 f_o0_65 f_o0_95 x_0 hm => tM_write_107 ih v1 o0 k_o0 r_o0 i_v1 f_o0_0 f_o0_38 f_o0_65 f_o0_95 x_0 (by omega))⟩
set_option maxHeartbeats 4000000 in
set_option maxRecDepth 100000 in
theorem sM_write (o0 : cf_O) (k_o0 : okO I_M o0) (f_o0_0 : (0 : Int) ≤ (o0.1 0).toInt ∧ (o0.1 0).toInt ≤ 0) (f_o0_38 : (1 : Int) ≤ (o0.1 38).toInt ∧ (o0.1 38).toInt ≤ 1) (f_o0_65 : (2 : Int) ≤ (o0.1 65).toInt ∧ (o0.1 65).toInt ≤ 5) (f_o0_95 : (0 : Int) ≤ (o0.1 95).toInt ∧ (o0.1 95).toInt ≤ 0) (x_0 : Cv (o0.1 73) (o0.1 39) (o0.1 43) (o0.2.1 74)) (x_1 : Cn (o0.2.1 59) (o0.2.1 58)) : tt (fM_write o0) (QM_write o0) := by
  have H := hM_write o0 cfFU
  have hm : (449 : Int) ≤ (cfFU : Nat) := by decide
  have r_o0 : Fr (fr_M [76, 96] [75, 77, 97] []) o0 o0 := fr_rfl
  unfold fM_write fM_write_0
  have g_o0_39 : (0 : Int) ≤ (o0.1 39).toInt ∧ (o0.1 39).toInt ≤ 8 := k_o0.1 39
  have g_o0_43 : (0 : Int) ≤ (o0.1 43).toInt ∧ (o0.1 43).toInt ≤ 200 := k_o0.1 43
  have g_o0_76 : (0 : Int) ≤ (o0.1 76).toInt ∧ (o0.1 76).toInt ≤ 90000 := k_o0.1 76
  have g_o0_96 : (0 : Int) ≤ (o0.1 96).toInt ∧ (o0.1 96).toInt ≤ 24000 := k_o0.1 96
  refine tt_ko ?_
  have k1 := ok_fp (k := 76) (v := 0) k_o0 (iv_w (a := 0) (b := 90000) (by decide) (by decide) (show (0 : Int) ≤ (0 : Int32).toInt ∧ (0 : Int32).toInt ≤ 0 by decide))
  have r2 := fr_fp (k := 76) (v := 0) r_o0 rfl
  refine tt_b (sM_word _ _ k1 (iv_w (a := 0) (b := 3) (by decide) (by decide) (show (0 : Int) ≤ (0 : Int32).toInt ∧ (0 : Int32).toInt ≤ 0 by decide)) f_o0_0 f_o0_38 (show (o0.1 95).toInt = 1 ∨ 0 ≤ 90000 - 14 by omega) (show (o0.1 95).toInt = 0 ∨ (o0.1 96).toInt ≤ 24000 - 14 by omega)) (fun q3 hq3 => ?_)
  obtain ⟨k_q3, n_q3, zq3_0, zq3_1, -⟩ := hq3
  have r_q3 := fr_tr r2 n_q3 rfl rfl rfl
  have f_q3_0 : (0 : Int) ≤ (q3.1 0).toInt ∧ (q3.1 0).toInt ≤ 0 := by rw [n_q3.1 0 rfl]; exact f_o0_0
  have f_q3_65 : (2 : Int) ≤ (q3.1 65).toInt ∧ (q3.1 65).toInt ≤ 5 := by rw [n_q3.1 65 rfl]; exact f_o0_65
  have f_q3_38 : (1 : Int) ≤ (q3.1 38).toInt ∧ (q3.1 38).toInt ≤ 1 := by rw [n_q3.1 38 rfl]; exact f_o0_38
  have f_q3_95 : (0 : Int) ≤ (q3.1 95).toInt ∧ (q3.1 95).toInt ≤ 0 := by rw [n_q3.1 95 rfl]; exact f_o0_95
  have e_q3_39 : (q3.1 39).toInt = (o0.1 39).toInt := congrArg Int32.toInt (n_q3.1 39 rfl)
  have g_q3_39 : (0 : Int) ≤ (q3.1 39).toInt ∧ (q3.1 39).toInt ≤ 8 := k_q3.1 39
  have e_q3_43 : (q3.1 43).toInt = (o0.1 43).toInt := congrArg Int32.toInt (n_q3.1 43 rfl)
  have g_q3_43 : (0 : Int) ≤ (q3.1 43).toInt ∧ (q3.1 43).toInt ≤ 200 := k_q3.1 43
  have g_q3_76 : (0 : Int) ≤ (q3.1 76).toInt ∧ (q3.1 76).toInt ≤ 90000 := k_q3.1 76
  have e_q3_95 : (q3.1 95).toInt = (o0.1 95).toInt := congrArg Int32.toInt (n_q3.1 95 rfl)
  have g_q3_96 : (0 : Int) ≤ (q3.1 96).toInt ∧ (q3.1 96).toInt ≤ 24000 := k_q3.1 96
  have zq3_0 : (q3.1 76).toInt ≤ 0 + 14 := zq3_0
  have zq3_1 : (q3.1 96).toInt ≤ (o0.1 96).toInt + 14 := zq3_1
  have u4 : Cv (q3.1 73) (q3.1 39) (q3.1 43) (q3.2.1 74) := by rw [n_q3.1 39 rfl, n_q3.1 43 rfl, n_q3.1 73 rfl, n_q3.2.1 74 rfl]; exact x_0
  have u5 : Cn (q3.2.1 59) (q3.2.1 58) := by rw [n_q3.2.1 58 rfl, n_q3.2.1 59 rfl]; exact x_1
  exact H.1 _ _ k_q3 r_q3 (iv_w (a := 0) (b := 8) (by decide) (by decide) (show (0 : Int) ≤ (0 : Int32).toInt ∧ (0 : Int32).toInt ≤ 0 by decide)) f_q3_0 f_q3_38 f_q3_65 f_q3_95 (show (q3.1 76).toInt ≤ 14 + 9 * 0 by omega) u4 u5 (show 430 + (8 - 0) * 2 < ((cfFU : Nat) : Int) by omega)
def QM_coverBy (v1 : Int32) (v2 : Int32) (o0 : cf_O) (r : (Int32 × cf_O)) : Prop := ((0 : Int) ≤ r.1.toInt ∧ r.1.toInt ≤ 200) ∧ (okO I_M r.2) ∧ (Fr (fr_M [0, 36, 64, 65, 66, 73, 76, 96] [57, 58, 59, 60, 61, 62, 63, 67, 72, 74, 75, 77, 97] []) o0 r.2) ∧ (Ch (r.2.1 64) (r.2.1 73) (r.2.1 39) (r.2.1 43) (r.2.2.1 74)) ∧ (Lmd (r.2.1 64).toInt (r.2.1 65).toInt) ∧ (Cn (r.2.2.1 59) (r.2.2.1 58)) ∧ (Gx ((r.2.1 39).toInt + 1) (r.2.1 43).toInt (r.2.2.1 44) (r.2.2.1 45)) ∧ (No (r.2.1 40).toInt ((r.2.1 39).toInt + 1 + (r.2.1 43).toInt) (r.2.2.1 47)) ∧ (Hc (r.2.1 64).toInt ((r.2.1 39).toInt + 1) (r.2.1 43).toInt (r.2.1 65).toInt (r.2.2.1 44) (r.2.2.1 45)) ∧ True
set_option maxHeartbeats 4000000 in
set_option maxRecDepth 100000 in
theorem sM_coverBy (v1 : Int32) (v2 : Int32) (o0 : cf_O) (k_o0 : okO I_M o0) (i_v1 : (2 : Int) ≤ v1.toInt ∧ v1.toInt ≤ 5) (i_v2 : (0 : Int) ≤ v2.toInt ∧ v2.toInt ≤ 1) (f_o0_0 : (0 : Int) ≤ (o0.1 0).toInt ∧ (o0.1 0).toInt ≤ 0) (f_o0_38 : (1 : Int) ≤ (o0.1 38).toInt ∧ (o0.1 38).toInt ≤ 1) (f_o0_95 : (0 : Int) ≤ (o0.1 95).toInt ∧ (o0.1 95).toInt ≤ 0) (x_0 : Ch (o0.1 64) (o0.1 73) (o0.1 39) (o0.1 43) (o0.2.1 74)) (x_1 : Lmd (o0.1 64).toInt (o0.1 65).toInt) (x_2 : Cn (o0.2.1 59) (o0.2.1 58)) (x_3 : Gx ((o0.1 39).toInt + 1) (o0.1 43).toInt (o0.2.1 44) (o0.2.1 45)) (x_4 : No (o0.1 40).toInt ((o0.1 39).toInt + 1 + (o0.1 43).toInt) (o0.2.1 47)) (x_5 : Hc (o0.1 64).toInt ((o0.1 39).toInt + 1) (o0.1 43).toInt (o0.1 65).toInt (o0.2.1 44) (o0.2.1 45)) (x_6 : 2 ≤ v1.toInt) : tt (fM_coverBy v1 v2 o0) (QM_coverBy v1 v2 o0) := by
  have r_o0 : Fr (fr_M [0, 36, 64, 65, 66, 73, 76, 96] [57, 58, 59, 60, 61, 62, 63, 67, 72, 74, 75, 77, 97] []) o0 o0 := fr_rfl
  unfold fM_coverBy fM_coverBy_0
  have g_o0_64 : (0 : Int) ≤ (o0.1 64).toInt ∧ (o0.1 64).toInt ≤ 1 := k_o0.1 64
  have g_o0_65 : (0 : Int) ≤ (o0.1 65).toInt ∧ (o0.1 65).toInt ≤ 5 := k_o0.1 65
  refine tt_b (sM_cutAll _ _ k_o0 (iv_w (a := 0) (b := 5) (by decide) (by decide) i_v1) (iv_w (a := 0) (b := 2) (by decide) (by decide) f_o0_0) f_o0_38 f_o0_95 x_2 (show 1 ≤ v1.toInt by omega) x_3 (show 2 ≤ v1.toInt by omega)) (fun q1 hq1 => ?_)
  obtain ⟨i_q1, k_q1_2, n_q1_2, zq1_0, zq1_1, zq1_2, zq1_3, zq1_4, -⟩ := hq1
  have r_q1_2 := fr_tr r_o0 n_q1_2 rfl rfl rfl
  have f_q1_2_0 : (0 : Int) ≤ (q1.2.1 0).toInt ∧ (q1.2.1 0).toInt ≤ 0 := by rw [n_q1_2.1 0 rfl]; exact f_o0_0
  have f_q1_2_38 : (1 : Int) ≤ (q1.2.1 38).toInt ∧ (q1.2.1 38).toInt ≤ 1 := by rw [n_q1_2.1 38 rfl]; exact f_o0_38
  have f_q1_2_95 : (0 : Int) ≤ (q1.2.1 95).toInt ∧ (q1.2.1 95).toInt ≤ 0 := by rw [n_q1_2.1 95 rfl]; exact f_o0_95
  have e_q1_2_64 : (q1.2.1 64).toInt = (o0.1 64).toInt := congrArg Int32.toInt (n_q1_2.1 64 rfl)
  have g_q1_2_64 : (0 : Int) ≤ (q1.2.1 64).toInt ∧ (q1.2.1 64).toInt ≤ 1 := k_q1_2.1 64
  have e_q1_2_65 : (q1.2.1 65).toInt = (o0.1 65).toInt := congrArg Int32.toInt (n_q1_2.1 65 rfl)
  have g_q1_2_65 : (0 : Int) ≤ (q1.2.1 65).toInt ∧ (q1.2.1 65).toInt ≤ 5 := k_q1_2.1 65
  have u2 : Ch (q1.2.1 64) (q1.2.1 73) (q1.2.1 39) (q1.2.1 43) (q1.2.2.1 74) := by rw [n_q1_2.1 39 rfl, n_q1_2.1 43 rfl, n_q1_2.1 64 rfl, n_q1_2.1 73 rfl, n_q1_2.2.1 74 rfl]; exact x_0
  have u3 : Lmd (q1.2.1 64).toInt (q1.2.1 65).toInt := by rw [n_q1_2.1 64 rfl, n_q1_2.1 65 rfl]; exact x_1
  have u4 : Gx ((q1.2.1 39).toInt + 1) (q1.2.1 43).toInt (q1.2.2.1 44) (q1.2.2.1 45) := by rw [n_q1_2.1 39 rfl, n_q1_2.1 43 rfl, n_q1_2.2.1 44 rfl, n_q1_2.2.1 45 rfl]; exact x_3
  have u5 : No (q1.2.1 40).toInt ((q1.2.1 39).toInt + 1 + (q1.2.1 43).toInt) (q1.2.2.1 47) := by rw [n_q1_2.1 39 rfl, n_q1_2.1 40 rfl, n_q1_2.1 43 rfl, n_q1_2.2.1 47 rfl]; exact x_4
  have u6 : Hc (q1.2.1 64).toInt ((q1.2.1 39).toInt + 1) (q1.2.1 43).toInt (q1.2.1 65).toInt (q1.2.2.1 44) (q1.2.2.1 45) := by rw [n_q1_2.1 39 rfl, n_q1_2.1 43 rfl, n_q1_2.1 64 rfl, n_q1_2.1 65 rfl, n_q1_2.2.1 44 rfl, n_q1_2.2.1 45 rfl]; exact x_5
  refine tt_if (fun c7 => ?_) (fun c7 => ?_)
  · have wc7 : q1.1.toInt = (0 : Int) := c_eq c7
    have i8 : (0 : Int) ≤ q1.1.toInt ∧ q1.1.toInt ≤ 0 := nr_eql c7 i_q1 (show (0 : Int) ≤ (0 : Int32).toInt ∧ (0 : Int32).toInt ≤ 0 by decide) (by decide) (by decide)
    refine tt_b (sM_again _ k_q1_2 (iv_w (a := 0) (b := 2) (by decide) (by decide) f_q1_2_0) f_q1_2_38 f_q1_2_95 u2 u3 zq1_0 u4 u5 u6) (fun q9 hq9 => ?_)
    obtain ⟨k_q9, n_q9, zq9_0, zq9_1, zq9_2, zq9_3, zq9_4, zq9_5, -⟩ := hq9
    have r_q9 := fr_tr r_q1_2 n_q9 rfl rfl rfl
    have f_q9_0 : (0 : Int) ≤ (q9.1 0).toInt ∧ (q9.1 0).toInt ≤ 0 := by rw [n_q9.1 0 rfl]; exact f_q1_2_0
    have f_q9_38 : (1 : Int) ≤ (q9.1 38).toInt ∧ (q9.1 38).toInt ≤ 1 := by rw [n_q9.1 38 rfl]; exact f_q1_2_38
    have f_q9_95 : (0 : Int) ≤ (q9.1 95).toInt ∧ (q9.1 95).toInt ≤ 0 := by rw [n_q9.1 95 rfl]; exact f_q1_2_95
    have e_q9_64 : (q9.1 64).toInt = (q1.2.1 64).toInt := congrArg Int32.toInt (n_q9.1 64 rfl)
    have g_q9_64 : (0 : Int) ≤ (q9.1 64).toInt ∧ (q9.1 64).toInt ≤ 1 := k_q9.1 64
    have e_q9_65 : (q9.1 65).toInt = (q1.2.1 65).toInt := congrArg Int32.toInt (n_q9.1 65 rfl)
    have g_q9_65 : (0 : Int) ≤ (q9.1 65).toInt ∧ (q9.1 65).toInt ≤ 5 := k_q9.1 65
    have u10 : Hs q1.1.toInt ((q9.1 39).toInt + 1) (q9.1 43).toInt v1.toInt (q9.2.1 44) (q9.2.1 45) := by rw [n_q9.1 39 rfl, n_q9.1 43 rfl, n_q9.2.1 44 rfl, n_q9.2.1 45 rfl]; exact zq1_2
    try unfold fM_refuse
    try unfold fM_refuse_0
    refine tt_bif (fun c15 => ?_) (fun c15 => ?_)
    · have wc15 : (0 : Int) = (0 : Int) := c_eq c15
      refine tt_bif (fun c16 => ?_) (fun c16 => ?_)
      · have wc16 : (0 : Int) = (0 : Int) := c_eq c16
        refine tt_bif (fun c17 => ?_) (fun c17 => ?_)
        · have wc17 : (1 : Int) = (0 : Int) := c_eq c17
          exact (dd_eq c17 (show (1 : Int) ≤ (1 : Int32).toInt ∧ (1 : Int32).toInt ≤ 1 by decide) (show (0 : Int) ≤ (0 : Int32).toInt ∧ (0 : Int32).toInt ≤ 0 by decide) (by decide)).elim
        · have wc17 : ¬ (1 : Int) = (0 : Int) := c_ne c17
          try unfold fM_refuse_26
          refine tt_bko ?_
          have k18 := ok_fp (k := 0) (v := 3) k_q9 (iv_w (a := 0) (b := 3) (by decide) (by decide) (show (3 : Int) ≤ (3 : Int32).toInt ∧ (3 : Int32).toInt ≤ 3 by decide))
          have r19 := fr_fp (k := 0) (v := 3) r_q9 rfl
          refine tt_bif (fun c20 => ?_) (fun c20 => ?_)
          · have wc20 : (3 : Int) ≤ (0 : Int) := c_le c20
            exact (dd_le c20 (show (3 : Int) ≤ (3 : Int32).toInt ∧ (3 : Int32).toInt ≤ 3 by decide) (show (0 : Int) ≤ (0 : Int32).toInt ∧ (0 : Int32).toInt ≤ 0 by decide) (by decide)).elim
          · have wc20 : (0 : Int) < (3 : Int) := c_nle c20
            try unfold fM_refuse_41
            refine tt_bw (iv_b (show (1 : Int) ≤ (1 : Int32).toInt ∧ (1 : Int32).toInt ≤ 1 by decide) (by decide) (by decide)) ?_
            refine tt_bs ?_
            exact tt_some ⟨(iv_w (a := 0) (b := 200) (by decide) (by decide) (show (0 : Int) ≤ (0 : Int32).toInt ∧ (0 : Int32).toInt ≤ 0 by decide)), k18, r19, zq9_0, zq9_1, zq9_2, zq9_3, zq9_4, zq9_5, trivial⟩
      · have wc16 : ¬ (0 : Int) = (0 : Int) := c_ne c16
        exact (dd_ne c16 (show (0 : Int) ≤ (0 : Int32).toInt ∧ (0 : Int32).toInt ≤ 0 by decide) (show (0 : Int) ≤ (0 : Int32).toInt ∧ (0 : Int32).toInt ≤ 0 by decide)).elim
    · have wc15 : ¬ (0 : Int) = (0 : Int) := c_ne c15
      exact (dd_ne c15 (show (0 : Int) ≤ (0 : Int32).toInt ∧ (0 : Int32).toInt ≤ 0 by decide) (show (0 : Int) ≤ (0 : Int32).toInt ∧ (0 : Int32).toInt ≤ 0 by decide)).elim
  · have wc7 : ¬ q1.1.toInt = (0 : Int) := c_ne c7
    have i21 : (1 : Int) ≤ q1.1.toInt ∧ q1.1.toInt ≤ 1 := nr_nela c7 i_q1 (show (0 : Int) ≤ (0 : Int32).toInt ∧ (0 : Int32).toInt ≤ 0 by decide) (by decide) (by decide)
    refine tt_ko ?_
    have k22 := ok_fp (k := 65) (v := v1) k_q1_2 (iv_w (a := 0) (b := 5) (by decide) (by decide) i_v1)
    have r23 := fr_fp (k := 65) (v := v1) r_q1_2 rfl
    refine tt_w (iv_b i_v2 (by decide) (by decide)) ?_
    refine tt_ko ?_
    have k24 := ok_fp (k := 66) (v := v2) k22 i_v2
    have r25 := fr_fp (k := 66) (v := v2) r23 rfl
    refine tt_if (fun c26 => ?_) (fun c26 => ?_)
    · have wc26 : v2.toInt = (0 : Int) := c_eq c26
      have i27 : (0 : Int) ≤ v2.toInt ∧ v2.toInt ≤ 0 := nr_eql c26 i_v2 (show (0 : Int) ≤ (0 : Int32).toInt ∧ (0 : Int32).toInt ≤ 0 by decide) (by decide) (by decide)
      refine tt_b (sM_chooseCells _ k24 f_q1_2_0 (k_q1_2.1 36) f_q1_2_38 i_v1 i27 f_q1_2_95) (fun q28 hq28 => ?_)
      obtain ⟨k_q28, n_q28, zq28_0, -⟩ := hq28
      have r_q28 := fr_tr r25 n_q28 rfl rfl rfl
      have f_q28_0 : (0 : Int) ≤ (q28.1 0).toInt ∧ (q28.1 0).toInt ≤ 0 := by rw [n_q28.1 0 rfl]; exact f_q1_2_0
      have f_q28_65 : (2 : Int) ≤ (q28.1 65).toInt ∧ (q28.1 65).toInt ≤ 5 := by rw [n_q28.1 65 rfl]; exact i_v1
      have f_q28_66 : (0 : Int) ≤ (q28.1 66).toInt ∧ (q28.1 66).toInt ≤ 0 := by rw [n_q28.1 66 rfl]; exact i27
      have f_q28_38 : (1 : Int) ≤ (q28.1 38).toInt ∧ (q28.1 38).toInt ≤ 1 := by rw [n_q28.1 38 rfl]; exact f_q1_2_38
      have f_q28_95 : (0 : Int) ≤ (q28.1 95).toInt ∧ (q28.1 95).toInt ≤ 0 := by rw [n_q28.1 95 rfl]; exact f_q1_2_95
      have e_q28_64 : (q28.1 64).toInt = (q1.2.1 64).toInt := congrArg Int32.toInt (n_q28.1 64 rfl)
      have g_q28_64 : (0 : Int) ≤ (q28.1 64).toInt ∧ (q28.1 64).toInt ≤ 1 := k_q28.1 64
      have e_q28_65 : (q28.1 65).toInt = v1.toInt := congrArg Int32.toInt (n_q28.1 65 rfl)
      have zq28_0 : Cv (q28.1 73) (q28.1 39) (q28.1 43) (q28.2.1 74) := zq28_0
      have u29 : Cn (q28.2.1 59) (q28.2.1 58) := by rw [n_q28.2.1 58 rfl, n_q28.2.1 59 rfl]; exact zq1_0
      have u30 : Bc q1.1.toInt ((q28.1 39).toInt + 1) (q28.1 43).toInt v1.toInt (q28.2.1 63) (q28.2.1 59) := by rw [n_q28.1 39 rfl, n_q28.1 43 rfl, n_q28.2.1 59 rfl, n_q28.2.1 63 rfl]; exact zq1_1
      have u31 : Hs q1.1.toInt ((q28.1 39).toInt + 1) (q28.1 43).toInt v1.toInt (q28.2.1 44) (q28.2.1 45) := by rw [n_q28.1 39 rfl, n_q28.1 43 rfl, n_q28.2.1 44 rfl, n_q28.2.1 45 rfl]; exact zq1_2
      have u32 : Fz q1.1.toInt ((q28.1 39).toInt + 1) (q28.1 43).toInt (q28.2.1 44) (q28.2.1 45) (q28.2.1 57) (q28.2.1 59) (q28.2.1 58) (q28.2.1 62) := by rw [n_q28.1 39 rfl, n_q28.1 43 rfl, n_q28.2.1 44 rfl, n_q28.2.1 45 rfl, n_q28.2.1 57 rfl, n_q28.2.1 58 rfl, n_q28.2.1 59 rfl, n_q28.2.1 62 rfl]; exact zq1_3
      have u33 : Be q1.1.toInt ((q28.1 39).toInt + 1) (q28.1 43).toInt (q28.2.1 57) (q28.2.1 63) := by rw [n_q28.1 39 rfl, n_q28.1 43 rfl, n_q28.2.1 57 rfl, n_q28.2.1 63 rfl]; exact zq1_4
      have u34 : Gx ((q28.1 39).toInt + 1) (q28.1 43).toInt (q28.2.1 44) (q28.2.1 45) := by rw [n_q28.1 39 rfl, n_q28.1 43 rfl, n_q28.2.1 44 rfl, n_q28.2.1 45 rfl]; exact u4
      have u35 : No (q28.1 40).toInt ((q28.1 39).toInt + 1 + (q28.1 43).toInt) (q28.2.1 47) := by rw [n_q28.1 39 rfl, n_q28.1 40 rfl, n_q28.1 43 rfl, n_q28.2.1 47 rfl]; exact u5
      try unfold fM_coverBy_47
      refine tt_b (sM_write _ k_q28 f_q28_0 f_q28_38 f_q28_65 f_q28_95 zq28_0 u29) (fun q36 hq36 => ?_)
      obtain ⟨k_q36, n_q36, -⟩ := hq36
      have r_q36 := fr_tr r_q28 n_q36 rfl rfl rfl
      have f_q36_0 : (0 : Int) ≤ (q36.1 0).toInt ∧ (q36.1 0).toInt ≤ 0 := by rw [n_q36.1 0 rfl]; exact f_q28_0
      have f_q36_65 : (2 : Int) ≤ (q36.1 65).toInt ∧ (q36.1 65).toInt ≤ 5 := by rw [n_q36.1 65 rfl]; exact f_q28_65
      have f_q36_66 : (0 : Int) ≤ (q36.1 66).toInt ∧ (q36.1 66).toInt ≤ 0 := by rw [n_q36.1 66 rfl]; exact f_q28_66
      have f_q36_38 : (1 : Int) ≤ (q36.1 38).toInt ∧ (q36.1 38).toInt ≤ 1 := by rw [n_q36.1 38 rfl]; exact f_q28_38
      have f_q36_95 : (0 : Int) ≤ (q36.1 95).toInt ∧ (q36.1 95).toInt ≤ 0 := by rw [n_q36.1 95 rfl]; exact f_q28_95
      have e_q36_64 : (q36.1 64).toInt = (q28.1 64).toInt := congrArg Int32.toInt (n_q36.1 64 rfl)
      have g_q36_64 : (0 : Int) ≤ (q36.1 64).toInt ∧ (q36.1 64).toInt ≤ 1 := k_q36.1 64
      have e_q36_65 : (q36.1 65).toInt = (q28.1 65).toInt := congrArg Int32.toInt (n_q36.1 65 rfl)
      have u37 : Cv (q36.1 73) (q36.1 39) (q36.1 43) (q36.2.1 74) := by rw [n_q36.1 39 rfl, n_q36.1 43 rfl, n_q36.1 73 rfl, n_q36.2.1 74 rfl]; exact zq28_0
      have u38 : Cn (q36.2.1 59) (q36.2.1 58) := by rw [n_q36.2.1 58 rfl, n_q36.2.1 59 rfl]; exact u29
      have u39 : Bc q1.1.toInt ((q36.1 39).toInt + 1) (q36.1 43).toInt v1.toInt (q36.2.1 63) (q36.2.1 59) := by rw [n_q36.1 39 rfl, n_q36.1 43 rfl, n_q36.2.1 59 rfl, n_q36.2.1 63 rfl]; exact u30
      have u40 : Hs q1.1.toInt ((q36.1 39).toInt + 1) (q36.1 43).toInt v1.toInt (q36.2.1 44) (q36.2.1 45) := by rw [n_q36.1 39 rfl, n_q36.1 43 rfl, n_q36.2.1 44 rfl, n_q36.2.1 45 rfl]; exact u31
      have u41 : Fz q1.1.toInt ((q36.1 39).toInt + 1) (q36.1 43).toInt (q36.2.1 44) (q36.2.1 45) (q36.2.1 57) (q36.2.1 59) (q36.2.1 58) (q36.2.1 62) := by rw [n_q36.1 39 rfl, n_q36.1 43 rfl, n_q36.2.1 44 rfl, n_q36.2.1 45 rfl, n_q36.2.1 57 rfl, n_q36.2.1 58 rfl, n_q36.2.1 59 rfl, n_q36.2.1 62 rfl]; exact u32
      have u42 : Be q1.1.toInt ((q36.1 39).toInt + 1) (q36.1 43).toInt (q36.2.1 57) (q36.2.1 63) := by rw [n_q36.1 39 rfl, n_q36.1 43 rfl, n_q36.2.1 57 rfl, n_q36.2.1 63 rfl]; exact u33
      have u43 : Gx ((q36.1 39).toInt + 1) (q36.1 43).toInt (q36.2.1 44) (q36.2.1 45) := by rw [n_q36.1 39 rfl, n_q36.1 43 rfl, n_q36.2.1 44 rfl, n_q36.2.1 45 rfl]; exact u34
      have u44 : No (q36.1 40).toInt ((q36.1 39).toInt + 1 + (q36.1 43).toInt) (q36.2.1 47) := by rw [n_q36.1 39 rfl, n_q36.1 40 rfl, n_q36.1 43 rfl, n_q36.2.1 47 rfl]; exact u35
      refine tt_ko ?_
      have k45 := ok_fp (k := 64) (v := 1) k_q36 (iv_w (a := 0) (b := 1) (by decide) (by decide) (show (1 : Int) ≤ (1 : Int32).toInt ∧ (1 : Int32).toInt ≤ 1 by decide))
      have r46 := fr_fp (k := 64) (v := 1) r_q36 rfl
      have p47 : Ch (1 : Int32) (q36.1 73) (q36.1 39) (q36.1 43) (q36.2.1 74) := by exact fun _ => (by assumption)
      have p48 : Lmd 1 (q36.1 65).toInt := by first | assumption | exact lmd_i (by omega)
      have p49 : Hc 1 ((q36.1 39).toInt + 1) (q36.1 43).toInt (q36.1 65).toInt (q36.2.1 44) (q36.2.1 45) := by first | assumption | exact hc_i (show Hs _ _ _ _ _ _ by assumption) (by omega) (by omega)
      exact tt_some ⟨(k_q36.1 73), k45, r46, p47, p48, u38, u43, u44, p49, trivial⟩
    · have wc26 : ¬ v2.toInt = (0 : Int) := c_ne c26
      have i50 : (1 : Int) ≤ v2.toInt ∧ v2.toInt ≤ 1 := nr_nela c26 i_v2 (show (0 : Int) ≤ (0 : Int32).toInt ∧ (0 : Int32).toInt ≤ 0 by decide) (by decide) (by decide)
      have p51 : Sa (q1.2.1 43).toInt ((q1.2.1 39).toInt + 1) (q1.2.2.1 57) (q1.2.2.1 59) (q1.2.2.1 58) := by exact ((show Fz _ _ _ _ _ _ _ _ _ by assumption) (by omega)).2.1
      have p52 : Dp (q1.2.1 43).toInt ((q1.2.1 39).toInt + 1) (q1.2.2.1 57) (q1.2.2.1 59) (q1.2.2.1 58) (q1.2.2.1 62) := by exact ((show Fz _ _ _ _ _ _ _ _ _ by assumption) (by omega)).2.2.2
      refine tt_b (sM_chooseFew _ k24 (iv_w (a := 0) (b := 2) (by decide) (by decide) f_q1_2_0) f_q1_2_38 i50 f_q1_2_95 p51 p52 u5) (fun q53 hq53 => ?_)
      obtain ⟨k_q53, n_q53, zq53_0, -⟩ := hq53
      have r_q53 := fr_tr r25 n_q53 rfl rfl rfl
      have f_q53_0 : (0 : Int) ≤ (q53.1 0).toInt ∧ (q53.1 0).toInt ≤ 0 := by rw [n_q53.1 0 rfl]; exact f_q1_2_0
      have f_q53_65 : (2 : Int) ≤ (q53.1 65).toInt ∧ (q53.1 65).toInt ≤ 5 := by rw [n_q53.1 65 rfl]; exact i_v1
      have f_q53_66 : (1 : Int) ≤ (q53.1 66).toInt ∧ (q53.1 66).toInt ≤ 1 := by rw [n_q53.1 66 rfl]; exact i50
      have f_q53_38 : (1 : Int) ≤ (q53.1 38).toInt ∧ (q53.1 38).toInt ≤ 1 := by rw [n_q53.1 38 rfl]; exact f_q1_2_38
      have f_q53_95 : (0 : Int) ≤ (q53.1 95).toInt ∧ (q53.1 95).toInt ≤ 0 := by rw [n_q53.1 95 rfl]; exact f_q1_2_95
      have e_q53_64 : (q53.1 64).toInt = (q1.2.1 64).toInt := congrArg Int32.toInt (n_q53.1 64 rfl)
      have g_q53_64 : (0 : Int) ≤ (q53.1 64).toInt ∧ (q53.1 64).toInt ≤ 1 := k_q53.1 64
      have e_q53_65 : (q53.1 65).toInt = v1.toInt := congrArg Int32.toInt (n_q53.1 65 rfl)
      have zq53_0 : Cv (q53.1 73) (q53.1 39) (q53.1 43) (q53.2.1 74) := zq53_0
      have u54 : Cn (q53.2.1 59) (q53.2.1 58) := by rw [n_q53.2.1 58 rfl, n_q53.2.1 59 rfl]; exact zq1_0
      have u55 : Hs q1.1.toInt ((q53.1 39).toInt + 1) (q53.1 43).toInt v1.toInt (q53.2.1 44) (q53.2.1 45) := by rw [n_q53.1 39 rfl, n_q53.1 43 rfl, n_q53.2.1 44 rfl, n_q53.2.1 45 rfl]; exact zq1_2
      have u56 : Fz q1.1.toInt ((q53.1 39).toInt + 1) (q53.1 43).toInt (q53.2.1 44) (q53.2.1 45) (q53.2.1 57) (q53.2.1 59) (q53.2.1 58) (q53.2.1 62) := by rw [n_q53.1 39 rfl, n_q53.1 43 rfl, n_q53.2.1 44 rfl, n_q53.2.1 45 rfl, n_q53.2.1 57 rfl, n_q53.2.1 58 rfl, n_q53.2.1 59 rfl, n_q53.2.1 62 rfl]; exact zq1_3
      have u57 : Gx ((q53.1 39).toInt + 1) (q53.1 43).toInt (q53.2.1 44) (q53.2.1 45) := by rw [n_q53.1 39 rfl, n_q53.1 43 rfl, n_q53.2.1 44 rfl, n_q53.2.1 45 rfl]; exact u4
      have u58 : No (q53.1 40).toInt ((q53.1 39).toInt + 1 + (q53.1 43).toInt) (q53.2.1 47) := by rw [n_q53.1 39 rfl, n_q53.1 40 rfl, n_q53.1 43 rfl, n_q53.2.1 47 rfl]; exact u5
      try unfold fM_coverBy_47
      refine tt_b (sM_write _ k_q53 f_q53_0 f_q53_38 f_q53_65 f_q53_95 zq53_0 u54) (fun q59 hq59 => ?_)
      obtain ⟨k_q59, n_q59, -⟩ := hq59
      have r_q59 := fr_tr r_q53 n_q59 rfl rfl rfl
      have f_q59_0 : (0 : Int) ≤ (q59.1 0).toInt ∧ (q59.1 0).toInt ≤ 0 := by rw [n_q59.1 0 rfl]; exact f_q53_0
      have f_q59_65 : (2 : Int) ≤ (q59.1 65).toInt ∧ (q59.1 65).toInt ≤ 5 := by rw [n_q59.1 65 rfl]; exact f_q53_65
      have f_q59_66 : (1 : Int) ≤ (q59.1 66).toInt ∧ (q59.1 66).toInt ≤ 1 := by rw [n_q59.1 66 rfl]; exact f_q53_66
      have f_q59_38 : (1 : Int) ≤ (q59.1 38).toInt ∧ (q59.1 38).toInt ≤ 1 := by rw [n_q59.1 38 rfl]; exact f_q53_38
      have f_q59_95 : (0 : Int) ≤ (q59.1 95).toInt ∧ (q59.1 95).toInt ≤ 0 := by rw [n_q59.1 95 rfl]; exact f_q53_95
      have e_q59_64 : (q59.1 64).toInt = (q53.1 64).toInt := congrArg Int32.toInt (n_q59.1 64 rfl)
      have g_q59_64 : (0 : Int) ≤ (q59.1 64).toInt ∧ (q59.1 64).toInt ≤ 1 := k_q59.1 64
      have e_q59_65 : (q59.1 65).toInt = (q53.1 65).toInt := congrArg Int32.toInt (n_q59.1 65 rfl)
      have u60 : Cv (q59.1 73) (q59.1 39) (q59.1 43) (q59.2.1 74) := by rw [n_q59.1 39 rfl, n_q59.1 43 rfl, n_q59.1 73 rfl, n_q59.2.1 74 rfl]; exact zq53_0
      have u61 : Cn (q59.2.1 59) (q59.2.1 58) := by rw [n_q59.2.1 58 rfl, n_q59.2.1 59 rfl]; exact u54
      have u62 : Hs q1.1.toInt ((q59.1 39).toInt + 1) (q59.1 43).toInt v1.toInt (q59.2.1 44) (q59.2.1 45) := by rw [n_q59.1 39 rfl, n_q59.1 43 rfl, n_q59.2.1 44 rfl, n_q59.2.1 45 rfl]; exact u55
      have u63 : Fz q1.1.toInt ((q59.1 39).toInt + 1) (q59.1 43).toInt (q59.2.1 44) (q59.2.1 45) (q59.2.1 57) (q59.2.1 59) (q59.2.1 58) (q59.2.1 62) := by rw [n_q59.1 39 rfl, n_q59.1 43 rfl, n_q59.2.1 44 rfl, n_q59.2.1 45 rfl, n_q59.2.1 57 rfl, n_q59.2.1 58 rfl, n_q59.2.1 59 rfl, n_q59.2.1 62 rfl]; exact u56
      have u64 : Gx ((q59.1 39).toInt + 1) (q59.1 43).toInt (q59.2.1 44) (q59.2.1 45) := by rw [n_q59.1 39 rfl, n_q59.1 43 rfl, n_q59.2.1 44 rfl, n_q59.2.1 45 rfl]; exact u57
      have u65 : No (q59.1 40).toInt ((q59.1 39).toInt + 1 + (q59.1 43).toInt) (q59.2.1 47) := by rw [n_q59.1 39 rfl, n_q59.1 40 rfl, n_q59.1 43 rfl, n_q59.2.1 47 rfl]; exact u58
      refine tt_ko ?_
      have k66 := ok_fp (k := 64) (v := 1) k_q59 (iv_w (a := 0) (b := 1) (by decide) (by decide) (show (1 : Int) ≤ (1 : Int32).toInt ∧ (1 : Int32).toInt ≤ 1 by decide))
      have r67 := fr_fp (k := 64) (v := 1) r_q59 rfl
      have p68 : Ch (1 : Int32) (q59.1 73) (q59.1 39) (q59.1 43) (q59.2.1 74) := by exact fun _ => (by assumption)
      have p69 : Lmd 1 (q59.1 65).toInt := by first | assumption | exact lmd_i (by omega)
      have p70 : Hc 1 ((q59.1 39).toInt + 1) (q59.1 43).toInt (q59.1 65).toInt (q59.2.1 44) (q59.2.1 45) := by first | assumption | exact hc_i (show Hs _ _ _ _ _ _ by assumption) (by omega) (by omega)
      exact tt_some ⟨(k_q59.1 73), k66, r67, p68, p69, u61, u64, u65, p70, trivial⟩
