def QMp_wantPins (o0 : cf_O) (o1 : cf_O) (o2 : cf_O) (r : (cf_O)) : Prop := (okO I_Mp r) ∧ (Fr (fr_M [] [6] []) o0 r) ∧ (Wtd (((o1.1 0).toInt + 1) + (o1.1 2).toInt) (r.2.2 4) (r.2.1 6)) ∧ True
def HMp_wantPins (yo0 : cf_O) (yo1 : cf_O) (yo2 : cf_O) (n : Nat) : Prop := (∀ (v3 : Int32) (o0 : cf_O) (o1 : cf_O) (o2 : cf_O), (okO I_Mp o0) → (Fr (fr_M [] [6] []) yo0 o0) → (okO I_Gr o1) → (Fr (fr_M [] [] []) yo1 o1) → (okO I_Li o2) → (Fr (fr_M [] [] []) yo2 o2) → ((0 : Int) ≤ v3.toInt ∧ v3.toInt ≤ 208) → ((0 : Int) ≤ (o0.1 2).toInt ∧ (o0.1 2).toInt ≤ 536870912) → ((1 : Int) ≤ (o2.1 0).toInt ∧ (o2.1 0).toInt ≤ 12) → (Mam (((o1.1 0).toInt + 1) + (o1.1 2).toInt) (o0.2.2 4) (o2.2.1 5)) → (Wtd (((o1.1 0).toInt + 1) + (o1.1 2).toInt) (o0.2.2 4) (o0.2.1 6)) → (v3.toInt < (((o1.1 0).toInt + 1) + (o1.1 2).toInt)) → 0 + (v3.toInt - 0) * 44 < (n : Int) → tt (gMp_wantPins n 0 v3 0 0 0 o0 o1 o2) (QMp_wantPins yo0 yo1 yo2)) ∧ (∀ (v3 : Int32) (v4 : Int32) (o0 : cf_O) (o1 : cf_O) (o2 : cf_O), (okO I_Mp o0) → (Fr (fr_M [] [6] []) yo0 o0) → (okO I_Gr o1) → (Fr (fr_M [] [] []) yo1 o1) → (okO I_Li o2) → (Fr (fr_M [] [] []) yo2 o2) → ((1 : Int) ≤ v3.toInt ∧ v3.toInt ≤ 208) → ((0 : Int) ≤ v4.toInt ∧ v4.toInt ≤ 4) → ((0 : Int) ≤ (o0.1 2).toInt ∧ (o0.1 2).toInt ≤ 536870912) → ((1 : Int) ≤ (o2.1 0).toInt ∧ (o2.1 0).toInt ≤ 12) → (Mam (((o1.1 0).toInt + 1) + (o1.1 2).toInt) (o0.2.2 4) (o2.2.1 5)) → (Wtd (((o1.1 0).toInt + 1) + (o1.1 2).toInt) (o0.2.2 4) (o0.2.1 6)) → (v3.toInt < (((o1.1 0).toInt + 1) + (o1.1 2).toInt)) → 0 + (v3.toInt - 0 - 1) * 44 + 1 + (4 - v4.toInt) * 10 < (n : Int) → tt (gMp_wantPins n 1 v3 v4 0 0 o0 o1 o2) (QMp_wantPins yo0 yo1 yo2)) ∧ (∀ (v3 : Int32) (v4 : Int32) (v5 : Int32) (v6 : Int32) (o0 : cf_O) (o1 : cf_O) (o2 : cf_O), (okO I_Mp o0) → (Fr (fr_M [] [6] []) yo0 o0) → (okO I_Gr o1) → (Fr (fr_M [] [] []) yo1 o1) → (okO I_Li o2) → (Fr (fr_M [] [] []) yo2 o2) → ((1 : Int) ≤ v3.toInt ∧ v3.toInt ≤ 208) → ((0 : Int) ≤ v4.toInt ∧ v4.toInt ≤ 3) → ((2 : Int) ≤ v5.toInt ∧ v5.toInt ≤ 417) → ((0 : Int) ≤ v6.toInt ∧ v6.toInt ≤ 3) → ((0 : Int) ≤ (o0.1 2).toInt ∧ (o0.1 2).toInt ≤ 536870912) → ((1 : Int) ≤ (o2.1 0).toInt ∧ (o2.1 0).toInt ≤ 12) → (Mam (((o1.1 0).toInt + 1) + (o1.1 2).toInt) (o0.2.2 4) (o2.2.1 5)) → (Wtd (((o1.1 0).toInt + 1) + (o1.1 2).toInt) (o0.2.2 4) (o0.2.1 6)) → (Mgz (2 * (((o1.1 0).toInt + 1) + (o1.1 2).toInt)) ((o0.2.2 4) v5.toNatClampNeg) (o0.2.2 4) (o2.2.1 5)) → (v3.toInt < (((o1.1 0).toInt + 1) + (o1.1 2).toInt)) → 0 + (v3.toInt - 0 - 1) * 44 + 1 + (4 - v4.toInt - 1) * 10 + 1 + (3 - v6.toInt) * 2 < (n : Int) → tt (gMp_wantPins n 2 v3 v4 v5 v6 o0 o1 o2) (QMp_wantPins yo0 yo1 yo2))
set_option maxHeartbeats 4000000 in
set_option maxRecDepth 100000 in
theorem tMp_wantPins_58 {yo0 : cf_O} {yo1 : cf_O} {yo2 : cf_O} {n : Nat} (H : HMp_wantPins yo0 yo1 yo2 n) (v3 : Int32) (v4 : Int32) (v5 : Int32) (v6 : Int32) (o0 : cf_O) (o1 : cf_O) (o2 : cf_O) (k_o0 : okO I_Mp o0) (r_o0 : Fr (fr_M [] [6] []) yo0 o0) (k_o1 : okO I_Gr o1) (r_o1 : Fr (fr_M [] [] []) yo1 o1) (k_o2 : okO I_Li o2) (r_o2 : Fr (fr_M [] [] []) yo2 o2) (i_v3 : (1 : Int) ≤ v3.toInt ∧ v3.toInt ≤ 208) (i_v4 : (0 : Int) ≤ v4.toInt ∧ v4.toInt ≤ 3) (i_v5 : (2 : Int) ≤ v5.toInt ∧ v5.toInt ≤ 417) (i_v6 : (0 : Int) ≤ v6.toInt ∧ v6.toInt ≤ 3) (f_o0_2 : (0 : Int) ≤ (o0.1 2).toInt ∧ (o0.1 2).toInt ≤ 536870912) (f_o2_0 : (1 : Int) ≤ (o2.1 0).toInt ∧ (o2.1 0).toInt ≤ 12) (x_0 : Mam (((o1.1 0).toInt + 1) + (o1.1 2).toInt) (o0.2.2 4) (o2.2.1 5)) (x_1 : Wtd (((o1.1 0).toInt + 1) + (o1.1 2).toInt) (o0.2.2 4) (o0.2.1 6)) (x_2 : Mgz (2 * (((o1.1 0).toInt + 1) + (o1.1 2).toInt)) ((o0.2.2 4) v5.toNatClampNeg) (o0.2.2 4) (o2.2.1 5)) (x_3 : v3.toInt < (((o1.1 0).toInt + 1) + (o1.1 2).toInt)) (hm : 0 + (v3.toInt - 0 - 1) * 44 + 1 + (4 - v4.toInt - 1) * 10 + 1 + (3 - v6.toInt) * 2 ≤ (n : Int)) : tt (fMp_wantPins_58 (gMp_wantPins n) v3 v4 v5 v6 o0 o1 o2) (QMp_wantPins yo0 yo1 yo2) := by
  unfold fMp_wantPins_58
  have g_o0_0 : (0 : Int) ≤ (o0.1 0).toInt ∧ (o0.1 0).toInt ≤ 418 := k_o0.1 0
  have ey_o0_0 : (o0.1 0).toInt = (yo0.1 0).toInt := congrArg Int32.toInt (r_o0.1 0 rfl)
  have ey_o0_2 : (o0.1 2).toInt = (yo0.1 2).toInt := congrArg Int32.toInt (r_o0.1 2 rfl)
  have g_o1_0 : (0 : Int) ≤ (o1.1 0).toInt ∧ (o1.1 0).toInt ≤ 8 := k_o1.1 0
  have ey_o1_0 : (o1.1 0).toInt = (yo1.1 0).toInt := congrArg Int32.toInt (r_o1.1 0 rfl)
  have g_o1_2 : (0 : Int) ≤ (o1.1 2).toInt ∧ (o1.1 2).toInt ≤ 200 := k_o1.1 2
  have ey_o1_2 : (o1.1 2).toInt = (yo1.1 2).toInt := congrArg Int32.toInt (r_o1.1 2 rfl)
  have ey_o2_0 : (o2.1 0).toInt = (yo2.1 0).toInt := congrArg Int32.toInt (r_o2.1 0 rfl)
  have g_o2_2 : (0 : Int) ≤ (o2.1 2).toInt ∧ (o2.1 2).toInt ≤ 0 := k_o2.1 2
  have ey_o2_2 : (o2.1 2).toInt = (yo2.1 2).toInt := congrArg Int32.toInt (r_o2.1 2 rfl)
  refine tt_n (ix_ok i_v5 (by decide) (by decide)) ?_
  refine tt_klr (fun x1 ax1 => ?_)
  refine tt_be (sMp_cellOf _ ) (fun q2 hq2 eq2 => ?_)
  obtain ⟨i_q2, -⟩ := hq2
  have t3 := Mgd_c x_2.1 eq2 (by assumption)
  refine tt_n (ix_rel (by omega) (by omega)) ?_
  have i4 : (0 : Int) ≤ q2.toInt ∧ q2.toInt ≤ 11 := (by omega)
  refine tt_kv (P := fun z => ((0 : Int) ≤ z.toInt ∧ z.toInt ≤ 3) ∧ z = (o2.2.1 5 q2.toNatClampNeg) ∧ z.toInt = (o2.2.1 5 q2.toNatClampNeg).toInt) ⟨(k_o2.2 5 _), rfl, rfl⟩ (fun x5 qi6 => ?_)
  obtain ⟨i6, ax5, ei6⟩ := qi6
  refine tt_if (fun c7 => ?_) (fun c7 => ?_)
  · have wc7 : x5.toInt ≤ v6.toInt := c_le c7
    try unfold fMp_wantPins_102
    refine tt_kv (P := fun z => ((1 : Int) ≤ z.toInt ∧ z.toInt ≤ 4) ∧ z = (v4 + 1) ∧ z.toInt = v4.toInt + 1) ⟨iv_add i_v4 (show (1 : Int) ≤ (1 : Int32).toInt ∧ (1 : Int32).toInt ≤ 1 by decide) (by decide) (by decide) (by decide) (by decide), rfl, iq_add i_v4 (show (1 : Int) ≤ (1 : Int32).toInt ∧ (1 : Int32).toInt ≤ 1 by decide) (by decide) (by decide)⟩ (fun x8 qi9 => ?_)
    obtain ⟨i9, ax8, ei9⟩ := qi9
    exact H.2.1 _ _ _ _ _ k_o0 r_o0 k_o1 r_o1 k_o2 r_o2 i_v3 (iv_w (a := 0) (b := 4) (by decide) (by decide) i9) f_o0_2 f_o2_0 x_0 x_1 (show v3.toInt < (((o1.1 0).toInt + 1) + (o1.1 2).toInt) by omega) (show 0 + (v3.toInt - 0 - 1) * 44 + 1 + (4 - x8.toInt) * 10 < (n : Int) by omega)
  · have wc7 : v6.toInt < x5.toInt := c_nle c7
    have i10 : (0 : Int) ≤ v6.toInt ∧ v6.toInt ≤ 2 := nr_nlel c7 i_v6 i6 (by decide) (by decide)
    have i11 : (1 : Int) ≤ x5.toInt ∧ x5.toInt ≤ 3 := nr_nler c7 i_v6 i6 (by decide) (by decide)
    refine tt_n (ix_ok i_v5 (by decide) (by decide)) ?_
    refine tt_klr (fun x12 ax12 => ?_)
    refine tt_be (sMp_pinOf _ _ i10) (fun q13 hq13 eq13 => ?_)
    obtain ⟨i_q13, -⟩ := hq13
    have t14 := Mgd_p x_2.1 eq13 (by assumption) (by omega) (by omega)
    refine tt_n (ix_rel (by omega) (by omega)) ?_
    have i15 : (0 : Int) ≤ q13.toInt ∧ q13.toInt ≤ 417 := (by omega)
    refine tt_ko ?_
    have k16 := ok_xp (k := 6) (i := q13.toNatClampNeg) (v := (vp_nar .boolean 1)) k_o0 (iv_nz _)
    have r17 := fr_xp (k := 6) (i := q13.toNatClampNeg) (v := (vp_nar .boolean 1)) r_o0 rfl
    refine tt_kv (P := fun z => ((1 : Int) ≤ z.toInt ∧ z.toInt ≤ 3) ∧ z = (v6 + 1) ∧ z.toInt = v6.toInt + 1) ⟨iv_add i10 (show (1 : Int) ≤ (1 : Int32).toInt ∧ (1 : Int32).toInt ≤ 1 by decide) (by decide) (by decide) (by decide) (by decide), rfl, iq_add i10 (show (1 : Int) ≤ (1 : Int32).toInt ∧ (1 : Int32).toInt ≤ 1 by decide) (by decide) (by decide)⟩ (fun x18 qi19 => ?_)
    obtain ⟨i19, ax18, ei19⟩ := qi19
    have p20 : Wtd (((o1.1 0).toInt + 1) + (o1.1 2).toInt) (o0.2.2 4) (upd (o0.2.1 6) (q13.toNatClampNeg) (vp_nar .boolean 1)) := by first | exact x_1 | (exact Wtd_s x_1 (Mgz_p x_2 eq13 (by assumption) (show _ ∧ _ by assumption).1 (by assumption) (by omega) (by omega) (by omega)))
    exact H.2.2 _ _ _ _ _ _ _ k16 r17 k_o1 r_o1 k_o2 r_o2 i_v3 i_v4 i_v5 (iv_w (a := 0) (b := 3) (by decide) (by decide) i19) f_o0_2 f_o2_0 x_0 p20 x_2 (show v3.toInt < (((o1.1 0).toInt + 1) + (o1.1 2).toInt) by omega) (show 0 + (v3.toInt - 0 - 1) * 44 + 1 + (4 - v4.toInt - 1) * 10 + 1 + (3 - x18.toInt) * 2 < (n : Int) by omega)
set_option maxHeartbeats 4000000 in
set_option maxRecDepth 100000 in
theorem tMp_wantPins_14 {yo0 : cf_O} {yo1 : cf_O} {yo2 : cf_O} {n : Nat} (H : HMp_wantPins yo0 yo1 yo2 n) (v3 : Int32) (v4 : Int32) (o0 : cf_O) (o1 : cf_O) (o2 : cf_O) (k_o0 : okO I_Mp o0) (r_o0 : Fr (fr_M [] [6] []) yo0 o0) (k_o1 : okO I_Gr o1) (r_o1 : Fr (fr_M [] [] []) yo1 o1) (k_o2 : okO I_Li o2) (r_o2 : Fr (fr_M [] [] []) yo2 o2) (i_v3 : (1 : Int) ≤ v3.toInt ∧ v3.toInt ≤ 208) (i_v4 : (0 : Int) ≤ v4.toInt ∧ v4.toInt ≤ 4) (f_o0_2 : (0 : Int) ≤ (o0.1 2).toInt ∧ (o0.1 2).toInt ≤ 536870912) (f_o2_0 : (1 : Int) ≤ (o2.1 0).toInt ∧ (o2.1 0).toInt ≤ 12) (x_0 : Mam (((o1.1 0).toInt + 1) + (o1.1 2).toInt) (o0.2.2 4) (o2.2.1 5)) (x_1 : Wtd (((o1.1 0).toInt + 1) + (o1.1 2).toInt) (o0.2.2 4) (o0.2.1 6)) (x_2 : v3.toInt < (((o1.1 0).toInt + 1) + (o1.1 2).toInt)) (hm : 0 + (v3.toInt - 0 - 1) * 44 + 1 + (4 - v4.toInt) * 10 ≤ (n : Int)) : tt (fMp_wantPins_14 (gMp_wantPins n) v3 v4 o0 o1 o2) (QMp_wantPins yo0 yo1 yo2) := by
  unfold fMp_wantPins_14
  have g_o0_0 : (0 : Int) ≤ (o0.1 0).toInt ∧ (o0.1 0).toInt ≤ 418 := k_o0.1 0
  have ey_o0_0 : (o0.1 0).toInt = (yo0.1 0).toInt := congrArg Int32.toInt (r_o0.1 0 rfl)
  have ey_o0_2 : (o0.1 2).toInt = (yo0.1 2).toInt := congrArg Int32.toInt (r_o0.1 2 rfl)
  have g_o1_0 : (0 : Int) ≤ (o1.1 0).toInt ∧ (o1.1 0).toInt ≤ 8 := k_o1.1 0
  have ey_o1_0 : (o1.1 0).toInt = (yo1.1 0).toInt := congrArg Int32.toInt (r_o1.1 0 rfl)
  have g_o1_2 : (0 : Int) ≤ (o1.1 2).toInt ∧ (o1.1 2).toInt ≤ 200 := k_o1.1 2
  have ey_o1_2 : (o1.1 2).toInt = (yo1.1 2).toInt := congrArg Int32.toInt (r_o1.1 2 rfl)
  have ey_o2_0 : (o2.1 0).toInt = (yo2.1 0).toInt := congrArg Int32.toInt (r_o2.1 0 rfl)
  have g_o2_2 : (0 : Int) ≤ (o2.1 2).toInt ∧ (o2.1 2).toInt ≤ 0 := k_o2.1 2
  have ey_o2_2 : (o2.1 2).toInt = (yo2.1 2).toInt := congrArg Int32.toInt (r_o2.1 2 rfl)
  refine tt_if (fun c1 => ?_) (fun c1 => ?_)
  · have wc1 : (4 : Int) ≤ v4.toInt := c_le c1
    have i2 : (4 : Int) ≤ v4.toInt ∧ v4.toInt ≤ 4 := nr_ler c1 (show (4 : Int) ≤ (4 : Int32).toInt ∧ (4 : Int32).toInt ≤ 4 by decide) i_v4 (by decide) (by decide)
    refine tt_kv (P := fun z => ((0 : Int) ≤ z.toInt ∧ z.toInt ≤ 207) ∧ z = (v3 + (-1)) ∧ z.toInt = v3.toInt + (-1)) ⟨iv_add i_v3 (show ((-1) : Int) ≤ ((-1) : Int32).toInt ∧ ((-1) : Int32).toInt ≤ (-1) by decide) (by decide) (by decide) (by decide) (by decide), rfl, iq_add i_v3 (show ((-1) : Int) ≤ ((-1) : Int32).toInt ∧ ((-1) : Int32).toInt ≤ (-1) by decide) (by decide) (by decide)⟩ (fun x3 qi4 => ?_)
    obtain ⟨i4, ax3, ei4⟩ := qi4
    exact H.1 _ _ _ _ k_o0 r_o0 k_o1 r_o1 k_o2 r_o2 (iv_w (a := 0) (b := 208) (by decide) (by decide) i4) f_o0_2 f_o2_0 x_0 x_1 (show x3.toInt < (((o1.1 0).toInt + 1) + (o1.1 2).toInt) by omega) (show 0 + (x3.toInt - 0) * 44 < (n : Int) by omega)
  · have wc1 : v4.toInt < (4 : Int) := c_nle c1
    have i5 : (0 : Int) ≤ v4.toInt ∧ v4.toInt ≤ 3 := nr_nlel c1 i_v4 (show (4 : Int) ≤ (4 : Int32).toInt ∧ (4 : Int32).toInt ≤ 4 by decide) (by decide) (by decide)
    refine tt_kv (P := fun z => ((2 : Int) ≤ z.toInt ∧ z.toInt ≤ 416) ∧ z = (2 * v3) ∧ z.toInt = 2 * v3.toInt) ⟨iv_mul (show (2 : Int) ≤ (2 : Int32).toInt ∧ (2 : Int32).toInt ≤ 2 by decide) i_v3 (by decide) (by decide) (by decide) (by decide) (by decide), rfl, iq_mul (show (2 : Int) ≤ (2 : Int32).toInt ∧ (2 : Int32).toInt ≤ 2 by decide) i_v3 (by decide) (by decide) (by decide) (by decide)⟩ (fun x6 qi7 => ?_)
    obtain ⟨i7, ax6, ei7⟩ := qi7
    refine tt_kv (P := fun z => ((0 : Int) ≤ z.toInt ∧ z.toInt ≤ 1) ∧ z = (v4 &&& 1) ∧ z.toInt = v4.toInt % 2) ⟨iv_and (show (1 : Int) ≤ (1 : Int32).toInt ∧ (1 : Int32).toInt ≤ 1 by decide) (by decide) (by decide) (by decide), rfl, i_a1 (Int.le_trans (by decide) i5.1)⟩ (fun x8 qi9 => ?_)
    obtain ⟨i9, ax8, ei9⟩ := qi9
    refine tt_kv (P := fun z => ((2 : Int) ≤ z.toInt ∧ z.toInt ≤ 417) ∧ z = (x6 + x8) ∧ z.toInt = x6.toInt + x8.toInt) ⟨iv_add i7 i9 (by decide) (by decide) (by decide) (by decide), rfl, iq_add i7 i9 (by decide) (by decide)⟩ (fun x10 qi11 => ?_)
    obtain ⟨i11, ax10, ei11⟩ := qi11
    refine tt_n (ix_ok i11 (by decide) (by decide)) ?_
    refine tt_kv (P := fun z => ((0 : Int) ≤ z.toInt ∧ z.toInt ≤ 1) ∧ z = (o0.2.1 6 x10.toNatClampNeg) ∧ z.toInt = (o0.2.1 6 x10.toNatClampNeg).toInt) ⟨(k_o0.2 6 _), rfl, rfl⟩ (fun x12 qi13 => ?_)
    obtain ⟨i13, ax12, ei13⟩ := qi13
    refine tt_if (fun c14 => ?_) (fun c14 => ?_)
    · have wc14 : x12.toInt = (0 : Int) := c_eq c14
      have i15 : (0 : Int) ≤ x12.toInt ∧ x12.toInt ≤ 0 := nr_eql c14 i13 (show (0 : Int) ≤ (0 : Int32).toInt ∧ (0 : Int32).toInt ≤ 0 by decide) (by decide) (by decide)
      try unfold fMp_wantPins_102
      refine tt_kv (P := fun z => ((1 : Int) ≤ z.toInt ∧ z.toInt ≤ 4) ∧ z = (v4 + 1) ∧ z.toInt = v4.toInt + 1) ⟨iv_add i5 (show (1 : Int) ≤ (1 : Int32).toInt ∧ (1 : Int32).toInt ≤ 1 by decide) (by decide) (by decide) (by decide) (by decide), rfl, iq_add i5 (show (1 : Int) ≤ (1 : Int32).toInt ∧ (1 : Int32).toInt ≤ 1 by decide) (by decide) (by decide)⟩ (fun x16 qi17 => ?_)
      obtain ⟨i17, ax16, ei17⟩ := qi17
      exact H.2.1 _ _ _ _ _ k_o0 r_o0 k_o1 r_o1 k_o2 r_o2 i_v3 (iv_w (a := 0) (b := 4) (by decide) (by decide) i17) f_o0_2 f_o2_0 x_0 x_1 (show v3.toInt < (((o1.1 0).toInt + 1) + (o1.1 2).toInt) by omega) (show 0 + (v3.toInt - 0 - 1) * 44 + 1 + (4 - x16.toInt) * 10 < (n : Int) by omega)
    · have wc14 : ¬ x12.toInt = (0 : Int) := c_ne c14
      have i18 : (1 : Int) ≤ x12.toInt ∧ x12.toInt ≤ 1 := nr_nela c14 i13 (show (0 : Int) ≤ (0 : Int32).toInt ∧ (0 : Int32).toInt ≤ 0 by decide) (by decide) (by decide)
      refine tt_n (ix_ok i11 (by decide) (by decide)) ?_
      refine tt_klr (fun x19 ax19 => ?_)
      refine tt_kv (P := fun z => (((-2147483648) : Int) ≤ z.toInt ∧ z.toInt ≤ 2147483647) ∧ z = (lg_cmp x19 (0 : Int64))) ⟨iv_top _, rfl⟩ (fun x20 qi21 => ?_)
      obtain ⟨i21, ax20⟩ := qi21
      refine tt_if (fun c22 => ?_) (fun c22 => ?_)
      · have wc22 : x20.toInt = (0 : Int) := c_eq c22
        have i23 : (0 : Int) ≤ x20.toInt ∧ x20.toInt ≤ 0 := nr_eql c22 i21 (show (0 : Int) ≤ (0 : Int32).toInt ∧ (0 : Int32).toInt ≤ 0 by decide) (by decide) (by decide)
        try unfold fMp_wantPins_102
        refine tt_kv (P := fun z => ((1 : Int) ≤ z.toInt ∧ z.toInt ≤ 4) ∧ z = (v4 + 1) ∧ z.toInt = v4.toInt + 1) ⟨iv_add i5 (show (1 : Int) ≤ (1 : Int32).toInt ∧ (1 : Int32).toInt ≤ 1 by decide) (by decide) (by decide) (by decide) (by decide), rfl, iq_add i5 (show (1 : Int) ≤ (1 : Int32).toInt ∧ (1 : Int32).toInt ≤ 1 by decide) (by decide) (by decide)⟩ (fun x24 qi25 => ?_)
        obtain ⟨i25, ax24, ei25⟩ := qi25
        exact H.2.1 _ _ _ _ _ k_o0 r_o0 k_o1 r_o1 k_o2 r_o2 i_v3 (iv_w (a := 0) (b := 4) (by decide) (by decide) i25) f_o0_2 f_o2_0 x_0 x_1 (show v3.toInt < (((o1.1 0).toInt + 1) + (o1.1 2).toInt) by omega) (show 0 + (v3.toInt - 0 - 1) * 44 + 1 + (4 - x24.toInt) * 10 < (n : Int) by omega)
      · have wc22 : ¬ x20.toInt = (0 : Int) := c_ne c22
        have p26 : Mgz (2 * (((o1.1 0).toInt + 1) + (o1.1 2).toInt)) ((o0.2.2 4) x10.toNatClampNeg) (o0.2.2 4) (o2.2.1 5) := by exact Mgz_i x_0 x_1 (by assumption) (show _ = lg_cmp _ _ by assumption) (by assumption) (by omega) (by omega) (by omega) (by omega)
        exact H.2.2 _ _ _ _ _ _ _ k_o0 r_o0 k_o1 r_o1 k_o2 r_o2 i_v3 i5 i11 (iv_w (a := 0) (b := 3) (by decide) (by decide) (show (0 : Int) ≤ (0 : Int32).toInt ∧ (0 : Int32).toInt ≤ 0 by decide)) f_o0_2 f_o2_0 x_0 x_1 p26 (show v3.toInt < (((o1.1 0).toInt + 1) + (o1.1 2).toInt) by omega) (show 0 + (v3.toInt - 0 - 1) * 44 + 1 + (4 - v4.toInt - 1) * 10 + 1 + (3 - 0) * 2 < (n : Int) by omega)
set_option maxHeartbeats 4000000 in
set_option maxRecDepth 100000 in
theorem tMp_wantPins_7 {yo0 : cf_O} {yo1 : cf_O} {yo2 : cf_O} {n : Nat} (H : HMp_wantPins yo0 yo1 yo2 n) (v3 : Int32) (o0 : cf_O) (o1 : cf_O) (o2 : cf_O) (k_o0 : okO I_Mp o0) (r_o0 : Fr (fr_M [] [6] []) yo0 o0) (k_o1 : okO I_Gr o1) (r_o1 : Fr (fr_M [] [] []) yo1 o1) (k_o2 : okO I_Li o2) (r_o2 : Fr (fr_M [] [] []) yo2 o2) (i_v3 : (0 : Int) ≤ v3.toInt ∧ v3.toInt ≤ 208) (f_o0_2 : (0 : Int) ≤ (o0.1 2).toInt ∧ (o0.1 2).toInt ≤ 536870912) (f_o2_0 : (1 : Int) ≤ (o2.1 0).toInt ∧ (o2.1 0).toInt ≤ 12) (x_0 : Mam (((o1.1 0).toInt + 1) + (o1.1 2).toInt) (o0.2.2 4) (o2.2.1 5)) (x_1 : Wtd (((o1.1 0).toInt + 1) + (o1.1 2).toInt) (o0.2.2 4) (o0.2.1 6)) (x_2 : v3.toInt < (((o1.1 0).toInt + 1) + (o1.1 2).toInt)) (hm : 0 + (v3.toInt - 0) * 44 ≤ (n : Int)) : tt (fMp_wantPins_7 (gMp_wantPins n) v3 o0 o1 o2) (QMp_wantPins yo0 yo1 yo2) := by
  unfold fMp_wantPins_7
  have g_o0_0 : (0 : Int) ≤ (o0.1 0).toInt ∧ (o0.1 0).toInt ≤ 418 := k_o0.1 0
  have ey_o0_0 : (o0.1 0).toInt = (yo0.1 0).toInt := congrArg Int32.toInt (r_o0.1 0 rfl)
  have ey_o0_2 : (o0.1 2).toInt = (yo0.1 2).toInt := congrArg Int32.toInt (r_o0.1 2 rfl)
  have g_o1_0 : (0 : Int) ≤ (o1.1 0).toInt ∧ (o1.1 0).toInt ≤ 8 := k_o1.1 0
  have ey_o1_0 : (o1.1 0).toInt = (yo1.1 0).toInt := congrArg Int32.toInt (r_o1.1 0 rfl)
  have g_o1_2 : (0 : Int) ≤ (o1.1 2).toInt ∧ (o1.1 2).toInt ≤ 200 := k_o1.1 2
  have ey_o1_2 : (o1.1 2).toInt = (yo1.1 2).toInt := congrArg Int32.toInt (r_o1.1 2 rfl)
  have ey_o2_0 : (o2.1 0).toInt = (yo2.1 0).toInt := congrArg Int32.toInt (r_o2.1 0 rfl)
  have g_o2_2 : (0 : Int) ≤ (o2.1 2).toInt ∧ (o2.1 2).toInt ≤ 0 := k_o2.1 2
  have ey_o2_2 : (o2.1 2).toInt = (yo2.1 2).toInt := congrArg Int32.toInt (r_o2.1 2 rfl)
  refine tt_if (fun c1 => ?_) (fun c1 => ?_)
  · have wc1 : v3.toInt ≤ (0 : Int) := c_le c1
    have i2 : (0 : Int) ≤ v3.toInt ∧ v3.toInt ≤ 0 := nr_lel c1 i_v3 (show (0 : Int) ≤ (0 : Int32).toInt ∧ (0 : Int32).toInt ≤ 0 by decide) (by decide) (by decide)
    have p3 : Wtd (((yo1.1 0).toInt + 1) + (yo1.1 2).toInt) (o0.2.2 4) (o0.2.1 6) := by rw [← r_o1.1 0 rfl, ← r_o1.1 2 rfl]; exact x_1
    exact tt_some ⟨k_o0, r_o0, p3, trivial⟩
  · have wc1 : (0 : Int) < v3.toInt := c_nle c1
    have i4 : (1 : Int) ≤ v3.toInt ∧ v3.toInt ≤ 208 := nr_nler c1 (show (0 : Int) ≤ (0 : Int32).toInt ∧ (0 : Int32).toInt ≤ 0 by decide) i_v3 (by decide) (by decide)
    exact H.2.1 _ _ _ _ _ k_o0 r_o0 k_o1 r_o1 k_o2 r_o2 i4 (iv_w (a := 0) (b := 4) (by decide) (by decide) (show (0 : Int) ≤ (0 : Int32).toInt ∧ (0 : Int32).toInt ≤ 0 by decide)) f_o0_2 f_o2_0 x_0 x_1 (show v3.toInt < (((o1.1 0).toInt + 1) + (o1.1 2).toInt) by omega) (show 0 + (v3.toInt - 0 - 1) * 44 + 1 + (4 - 0) * 10 < (n : Int) by omega)
set_option maxHeartbeats 4000000 in
set_option maxRecDepth 100000 in
theorem hMp_wantPins (yo0 : cf_O) (yo1 : cf_O) (yo2 : cf_O) : ∀ n, HMp_wantPins yo0 yo1 yo2 n := by
  intro n
  induction n with
  | zero => exact ⟨(fun v3 o0 o1 o2 k_o0 r_o0 k_o1 r_o1 k_o2 r_o2 i_v3 f_o0_2 f_o2_0 x_0 x_1 x_2 hm => by exact absurd (show 0 + (v3.toInt - 0) * 44 < (0 : Int) from hm) (by omega)), (fun v3 v4 o0 o1 o2 k_o0 r_o0 k_o1 r_o1 k_o2 r_o2 i_v3 i_v4 f_o0_2 f_o2_0 x_0 x_1 x_2 hm => by exact absurd (show 0 + (v3.toInt - 0 - 1) * 44 + 1 + (4 - v4.toInt) * 10 < (0 : Int) from hm) (by omega)), (fun v3 v4 v5 v6 o0 o1 o2 k_o0 r_o0 k_o1 r_o1 k_o2 r_o2 i_v3 i_v4 i_v5 i_v6 f_o0_2 f_o2_0 x_0 x_1 x_2 x_3 hm => by exact absurd (show 0 + (v3.toInt - 0 - 1) * 44 + 1 + (4 - v4.toInt - 1) * 10 + 1 + (3 - v6.toInt) * 2 < (0 : Int) from hm) (by omega))⟩
  | succ n ih => exact ⟨(fun v3 o0 o1 o2 k_o0 r_o0 k_o1 r_o1 k_o2 r_o2 i_v3 f_o0_2 f_o2_0 x_0 x_1 x_2 hm => tMp_wantPins_7 ih v3 o0 o1 o2 k_o0 r_o0 k_o1 r_o1 k_o2 r_o2 i_v3 f_o0_2 f_o2_0 x_0 x_1 x_2 (by omega)), (fun v3 v4 o0 o1 o2 k_o0 r_o0 k_o1 r_o1 k_o2 r_o2 i_v3 i_v4 f_o0_2 f_o2_0 x_0 x_1 x_2 hm => tMp_wantPins_14 ih v3 v4 o0 o1 o2 k_o0 r_o0 k_o1 r_o1 k_o2 r_o2 i_v3 i_v4 f_o0_2 f_o2_0 x_0 x_1 x_2 (by omega)), (fun v3 v4 v5 v6 o0 o1 o2 k_o0 r_o0 k_o1 r_o1 k_o2 r_o2 i_v3 i_v4 i_v5 i_v6 f_o0_2 f_o2_0 x_0 x_1 x_2 x_3 hm => tMp_wantPins_58 ih v3 v4 v5 v6 o0 o1 o2 k_o0 r_o0 k_o1 r_o1 k_o2 r_o2 i_v3 i_v4 i_v5 i_v6 f_o0_2 f_o2_0 x_0 x_1 x_2 x_3 (by omega))⟩
set_option maxHeartbeats 4000000 in
set_option maxRecDepth 100000 in
theorem sMp_wantPins (o0 : cf_O) (o1 : cf_O) (o2 : cf_O) (k_o0 : okO I_Mp o0) (k_o1 : okO I_Gr o1) (k_o2 : okO I_Li o2) (f_o0_2 : (0 : Int) ≤ (o0.1 2).toInt ∧ (o0.1 2).toInt ≤ 1048575) (f_o2_0 : (1 : Int) ≤ (o2.1 0).toInt ∧ (o2.1 0).toInt ≤ 12) (x_0 : Mam (((o1.1 0).toInt + 1) + (o1.1 2).toInt) (o0.2.2 4) (o2.2.1 5)) (x_1 : Wtd (((o1.1 0).toInt + 1) + (o1.1 2).toInt) (o0.2.2 4) (o0.2.1 6)) : tt (fMp_wantPins o0 o1 o2) (QMp_wantPins o0 o1 o2) := by
  have H := hMp_wantPins o0 o1 o2 cfFU
  have hm : (9155 : Int) ≤ (cfFU : Nat) := by decide
  have r_o0 : Fr (fr_M [] [6] []) o0 o0 := fr_rfl
  have r_o1 : Fr (fr_M [] [] []) o1 o1 := fr_rfl
  have r_o2 : Fr (fr_M [] [] []) o2 o2 := fr_rfl
  unfold fMp_wantPins fMp_wantPins_0
  have g_o0_0 : (0 : Int) ≤ (o0.1 0).toInt ∧ (o0.1 0).toInt ≤ 418 := k_o0.1 0
  have g_o1_0 : (0 : Int) ≤ (o1.1 0).toInt ∧ (o1.1 0).toInt ≤ 8 := k_o1.1 0
  have g_o1_2 : (0 : Int) ≤ (o1.1 2).toInt ∧ (o1.1 2).toInt ≤ 200 := k_o1.1 2
  have g_o2_2 : (0 : Int) ≤ (o2.1 2).toInt ∧ (o2.1 2).toInt ≤ 0 := k_o2.1 2
  try unfold fGr_size
  try unfold fGr_size_0
  refine tt_bkv (P := fun z => ((1 : Int) ≤ z.toInt ∧ z.toInt ≤ 9) ∧ z = (1 + (o1.1 0)) ∧ z.toInt = 1 + (o1.1 0).toInt) ⟨iv_add (show (1 : Int) ≤ (1 : Int32).toInt ∧ (1 : Int32).toInt ≤ 1 by decide) (k_o1.1 0) (by decide) (by decide) (by decide) (by decide), rfl, iq_add (show (1 : Int) ≤ (1 : Int32).toInt ∧ (1 : Int32).toInt ≤ 1 by decide) (k_o1.1 0) (by decide) (by decide)⟩ (fun x1 qi2 => ?_)
  obtain ⟨i2, ax1, ei2⟩ := qi2
  refine tt_bkv (P := fun z => ((1 : Int) ≤ z.toInt ∧ z.toInt ≤ 209) ∧ z = (x1 + (o1.1 2)) ∧ z.toInt = x1.toInt + (o1.1 2).toInt) ⟨iv_add i2 (k_o1.1 2) (by decide) (by decide) (by decide) (by decide), rfl, iq_add i2 (k_o1.1 2) (by decide) (by decide)⟩ (fun x3 qi4 => ?_)
  obtain ⟨i4, ax3, ei4⟩ := qi4
  refine tt_bs ?_
  refine tt_kv (P := fun z => ((0 : Int) ≤ z.toInt ∧ z.toInt ≤ 208) ∧ z = (x3 - 1) ∧ z.toInt = x3.toInt - 1) ⟨iv_sub i4 (show (1 : Int) ≤ (1 : Int32).toInt ∧ (1 : Int32).toInt ≤ 1 by decide) (by decide) (by decide) (by decide) (by decide), rfl, iq_sub i4 (show (1 : Int) ≤ (1 : Int32).toInt ∧ (1 : Int32).toInt ≤ 1 by decide) (by decide) (by decide)⟩ (fun x5 qi6 => ?_)
  obtain ⟨i6, ax5, ei6⟩ := qi6
  exact H.1 _ _ _ _ k_o0 r_o0 k_o1 r_o1 k_o2 r_o2 i6 (iv_w (a := 0) (b := 536870912) (by decide) (by decide) f_o0_2) f_o2_0 x_0 x_1 (show x5.toInt < (((o1.1 0).toInt + 1) + (o1.1 2).toInt) by omega) (show 0 + (x5.toInt - 0) * 44 < ((cfFU : Nat) : Int) by omega)
def QMp_takeInstances (o0 : cf_O) (o1 : cf_O) (o2 : cf_O) (r : (cf_O)) : Prop := (okO I_Mp r) ∧ (Fr (fr_M [0, 1] [3] []) o0 r) ∧ (Tki (r.1 0).toInt (r.2.1 3) (r.2.2 4)) ∧ True
def HMp_takeInstances (yo0 : cf_O) (yo1 : cf_O) (yo2 : cf_O) (n : Nat) : Prop := (∀ (v3 : Int32) (o0 : cf_O) (o1 : cf_O) (o2 : cf_O), (okO I_Mp o0) → (Fr (fr_M [0, 1] [3] []) yo0 o0) → (okO I_Gr o1) → (Fr (fr_M [] [] []) yo1 o1) → (okO I_Li o2) → (Fr (fr_M [] [] []) yo2 o2) → ((2 : Int) ≤ v3.toInt ∧ v3.toInt ≤ 418) → ((0 : Int) ≤ (o0.1 2).toInt ∧ (o0.1 2).toInt ≤ 1048575) → ((1 : Int) ≤ (o2.1 0).toInt ∧ (o2.1 0).toInt ≤ 12) → (Mam (((o1.1 0).toInt + 1) + (o1.1 2).toInt) (o0.2.2 4) (o2.2.1 5)) → (Wtd (((o1.1 0).toInt + 1) + (o1.1 2).toInt) (o0.2.2 4) (o0.2.1 6)) → (Tki (o0.1 0).toInt (o0.2.1 3) (o0.2.2 4)) → ((o0.1 0).toInt + 2 ≤ v3.toInt) → (0 ≤ (o0.1 0).toInt) → (2 ≤ v3.toInt) → 0 + (418 - v3.toInt) * 2 < (n : Int) → tt (gMp_takeInstances n 0 v3 o0 o1 o2) (QMp_takeInstances yo0 yo1 yo2))
set_option maxHeartbeats 4000000 in
set_option maxRecDepth 100000 in
theorem tMp_takeInstances_12 {yo0 : cf_O} {yo1 : cf_O} {yo2 : cf_O} {n : Nat} (H : HMp_takeInstances yo0 yo1 yo2 n) (v3 : Int32) (o0 : cf_O) (o1 : cf_O) (o2 : cf_O) (k_o0 : okO I_Mp o0) (r_o0 : Fr (fr_M [0, 1] [3] []) yo0 o0) (k_o1 : okO I_Gr o1) (r_o1 : Fr (fr_M [] [] []) yo1 o1) (k_o2 : okO I_Li o2) (r_o2 : Fr (fr_M [] [] []) yo2 o2) (i_v3 : (2 : Int) ≤ v3.toInt ∧ v3.toInt ≤ 418) (f_o0_2 : (0 : Int) ≤ (o0.1 2).toInt ∧ (o0.1 2).toInt ≤ 1048575) (f_o2_0 : (1 : Int) ≤ (o2.1 0).toInt ∧ (o2.1 0).toInt ≤ 12) (x_0 : Mam (((o1.1 0).toInt + 1) + (o1.1 2).toInt) (o0.2.2 4) (o2.2.1 5)) (x_1 : Wtd (((o1.1 0).toInt + 1) + (o1.1 2).toInt) (o0.2.2 4) (o0.2.1 6)) (x_2 : Tki (o0.1 0).toInt (o0.2.1 3) (o0.2.2 4)) (x_3 : (o0.1 0).toInt + 2 ≤ v3.toInt) (x_4 : 0 ≤ (o0.1 0).toInt) (x_5 : 2 ≤ v3.toInt) (hm : 0 + (418 - v3.toInt) * 2 ≤ (n : Int)) : tt (fMp_takeInstances_12 (gMp_takeInstances n) v3 o0 o1 o2) (QMp_takeInstances yo0 yo1 yo2) := by
  unfold fMp_takeInstances_12
  have g_o0_0 : (0 : Int) ≤ (o0.1 0).toInt ∧ (o0.1 0).toInt ≤ 418 := k_o0.1 0
  have ey_o0_2 : (o0.1 2).toInt = (yo0.1 2).toInt := congrArg Int32.toInt (r_o0.1 2 rfl)
  have g_o1_0 : (0 : Int) ≤ (o1.1 0).toInt ∧ (o1.1 0).toInt ≤ 8 := k_o1.1 0
  have ey_o1_0 : (o1.1 0).toInt = (yo1.1 0).toInt := congrArg Int32.toInt (r_o1.1 0 rfl)
  have g_o1_2 : (0 : Int) ≤ (o1.1 2).toInt ∧ (o1.1 2).toInt ≤ 200 := k_o1.1 2
  have ey_o1_2 : (o1.1 2).toInt = (yo1.1 2).toInt := congrArg Int32.toInt (r_o1.1 2 rfl)
  have ey_o2_0 : (o2.1 0).toInt = (yo2.1 0).toInt := congrArg Int32.toInt (r_o2.1 0 rfl)
  have g_o2_2 : (0 : Int) ≤ (o2.1 2).toInt ∧ (o2.1 2).toInt ≤ 0 := k_o2.1 2
  have ey_o2_2 : (o2.1 2).toInt = (yo2.1 2).toInt := congrArg Int32.toInt (r_o2.1 2 rfl)
  try unfold fGr_size
  try unfold fGr_size_0
  refine tt_bkv (P := fun z => ((1 : Int) ≤ z.toInt ∧ z.toInt ≤ 9) ∧ z = (1 + (o1.1 0)) ∧ z.toInt = 1 + (o1.1 0).toInt) ⟨iv_add (show (1 : Int) ≤ (1 : Int32).toInt ∧ (1 : Int32).toInt ≤ 1 by decide) (k_o1.1 0) (by decide) (by decide) (by decide) (by decide), rfl, iq_add (show (1 : Int) ≤ (1 : Int32).toInt ∧ (1 : Int32).toInt ≤ 1 by decide) (k_o1.1 0) (by decide) (by decide)⟩ (fun x1 qi2 => ?_)
  obtain ⟨i2, ax1, ei2⟩ := qi2
  refine tt_bkv (P := fun z => ((1 : Int) ≤ z.toInt ∧ z.toInt ≤ 209) ∧ z = (x1 + (o1.1 2)) ∧ z.toInt = x1.toInt + (o1.1 2).toInt) ⟨iv_add i2 (k_o1.1 2) (by decide) (by decide) (by decide) (by decide), rfl, iq_add i2 (k_o1.1 2) (by decide) (by decide)⟩ (fun x3 qi4 => ?_)
  obtain ⟨i4, ax3, ei4⟩ := qi4
  refine tt_bs ?_
  refine tt_kv (P := fun z => ((2 : Int) ≤ z.toInt ∧ z.toInt ≤ 418) ∧ z = (2 * x3) ∧ z.toInt = 2 * x3.toInt) ⟨iv_mul (show (2 : Int) ≤ (2 : Int32).toInt ∧ (2 : Int32).toInt ≤ 2 by decide) i4 (by decide) (by decide) (by decide) (by decide) (by decide), rfl, iq_mul (show (2 : Int) ≤ (2 : Int32).toInt ∧ (2 : Int32).toInt ≤ 2 by decide) i4 (by decide) (by decide) (by decide) (by decide)⟩ (fun x5 qi6 => ?_)
  obtain ⟨i6, ax5, ei6⟩ := qi6
  refine tt_if (fun c7 => ?_) (fun c7 => ?_)
  · have wc7 : x5.toInt ≤ v3.toInt := c_le c7
    exact tt_some ⟨k_o0, r_o0, x_2, trivial⟩
  · have wc7 : v3.toInt < x5.toInt := c_nle c7
    have i8 : (2 : Int) ≤ v3.toInt ∧ v3.toInt ≤ 417 := nr_nlel c7 i_v3 i6 (by decide) (by decide)
    have i9 : (3 : Int) ≤ x5.toInt ∧ x5.toInt ≤ 418 := nr_nler c7 i_v3 i6 (by decide) (by decide)
    refine tt_n (ix_ok i8 (by decide) (by decide)) ?_
    refine tt_kv (P := fun z => ((0 : Int) ≤ z.toInt ∧ z.toInt ≤ 1) ∧ z = (o0.2.1 6 v3.toNatClampNeg) ∧ z.toInt = (o0.2.1 6 v3.toNatClampNeg).toInt) ⟨(k_o0.2 6 _), rfl, rfl⟩ (fun x10 qi11 => ?_)
    obtain ⟨i11, ax10, ei11⟩ := qi11
    refine tt_if (fun c12 => ?_) (fun c12 => ?_)
    · have wc12 : x10.toInt = (0 : Int) := c_eq c12
      have i13 : (0 : Int) ≤ x10.toInt ∧ x10.toInt ≤ 0 := nr_eql c12 i11 (show (0 : Int) ≤ (0 : Int32).toInt ∧ (0 : Int32).toInt ≤ 0 by decide) (by decide) (by decide)
      try unfold fMp_takeInstances_85
      refine tt_kv (P := fun z => ((3 : Int) ≤ z.toInt ∧ z.toInt ≤ 418) ∧ z = (v3 + 1) ∧ z.toInt = v3.toInt + 1) ⟨iv_add i8 (show (1 : Int) ≤ (1 : Int32).toInt ∧ (1 : Int32).toInt ≤ 1 by decide) (by decide) (by decide) (by decide) (by decide), rfl, iq_add i8 (show (1 : Int) ≤ (1 : Int32).toInt ∧ (1 : Int32).toInt ≤ 1 by decide) (by decide) (by decide)⟩ (fun x14 qi15 => ?_)
      obtain ⟨i15, ax14, ei15⟩ := qi15
      exact H _ _ _ _ k_o0 r_o0 k_o1 r_o1 k_o2 r_o2 (iv_w (a := 2) (b := 418) (by decide) (by decide) i15) f_o0_2 f_o2_0 x_0 x_1 x_2 (show (o0.1 0).toInt + 2 ≤ x14.toInt by omega) (show 0 ≤ (o0.1 0).toInt by omega) (show 2 ≤ x14.toInt by omega) (show 0 + (418 - x14.toInt) * 2 < (n : Int) by omega)
    · have wc12 : ¬ x10.toInt = (0 : Int) := c_ne c12
      have i16 : (1 : Int) ≤ x10.toInt ∧ x10.toInt ≤ 1 := nr_nela c12 i11 (show (0 : Int) ≤ (0 : Int32).toInt ∧ (0 : Int32).toInt ≤ 0 by decide) (by decide) (by decide)
      refine tt_n (ix_ok i8 (by decide) (by decide)) ?_
      refine tt_klr (fun x17 ax17 => ?_)
      refine tt_kv (P := fun z => (((-2147483648) : Int) ≤ z.toInt ∧ z.toInt ≤ 2147483647) ∧ z = (lg_cmp x17 (0 : Int64))) ⟨iv_top _, rfl⟩ (fun x18 qi19 => ?_)
      obtain ⟨i19, ax18⟩ := qi19
      refine tt_if (fun c20 => ?_) (fun c20 => ?_)
      · have wc20 : x18.toInt = (0 : Int) := c_eq c20
        have i21 : (0 : Int) ≤ x18.toInt ∧ x18.toInt ≤ 0 := nr_eql c20 i19 (show (0 : Int) ≤ (0 : Int32).toInt ∧ (0 : Int32).toInt ≤ 0 by decide) (by decide) (by decide)
        try unfold fMp_takeInstances_85
        refine tt_kv (P := fun z => ((3 : Int) ≤ z.toInt ∧ z.toInt ≤ 418) ∧ z = (v3 + 1) ∧ z.toInt = v3.toInt + 1) ⟨iv_add i8 (show (1 : Int) ≤ (1 : Int32).toInt ∧ (1 : Int32).toInt ≤ 1 by decide) (by decide) (by decide) (by decide) (by decide), rfl, iq_add i8 (show (1 : Int) ≤ (1 : Int32).toInt ∧ (1 : Int32).toInt ≤ 1 by decide) (by decide) (by decide)⟩ (fun x22 qi23 => ?_)
        obtain ⟨i23, ax22, ei23⟩ := qi23
        exact H _ _ _ _ k_o0 r_o0 k_o1 r_o1 k_o2 r_o2 (iv_w (a := 2) (b := 418) (by decide) (by decide) i23) f_o0_2 f_o2_0 x_0 x_1 x_2 (show (o0.1 0).toInt + 2 ≤ x22.toInt by omega) (show 0 ≤ (o0.1 0).toInt by omega) (show 2 ≤ x22.toInt by omega) (show 0 + (418 - x22.toInt) * 2 < (n : Int) by omega)
      · have wc20 : ¬ x18.toInt = (0 : Int) := c_ne c20
        refine tt_n (ix_rel (x := (o0.1 0)) (by omega) (by omega)) ?_
        have i24 : (0 : Int) ≤ (o0.1 0).toInt ∧ (o0.1 0).toInt ≤ 417 := (by omega)
        refine tt_ko ?_
        have k25 := ok_xp (k := 3) (i := (o0.1 0).toNatClampNeg) (v := v3) k_o0 (iv_w (a := 0) (b := 417) (by decide) (by decide) i8)
        have r26 := fr_xp (k := 3) (i := (o0.1 0).toNatClampNeg) (v := v3) r_o0 rfl
        refine tt_n (ix_ok i8 (by decide) (by decide)) ?_
        refine tt_klr (fun x27 ax27 => ?_)
        refine tt_be (sMp_cellOf _ ) (fun q28 hq28 eq28 => ?_)
        obtain ⟨i_q28, -⟩ := hq28
        have t29 := Mgd_c (Mgz_i (x5 := v3) x_0 x_1 (by assumption) (show _ = lg_cmp _ _ by assumption) (by assumption) (by omega) (by omega) (by omega) (by omega)).1 eq28 (by assumption)
        refine tt_n (ix_rel (by omega) (by omega)) ?_
        have i30 : (0 : Int) ≤ q28.toInt ∧ q28.toInt ≤ 11 := (by omega)
        refine tt_kv (P := fun z => (((-2147483648) : Int) ≤ z.toInt ∧ z.toInt ≤ 2147483647) ∧ z = (o2.2.1 3 q28.toNatClampNeg) ∧ z.toInt = (o2.2.1 3 q28.toNatClampNeg).toInt) ⟨(k_o2.2 3 _), rfl, rfl⟩ (fun x31 qi32 => ?_)
        obtain ⟨i32, ax31, ei32⟩ := qi32
        refine tt_kv (P := fun z => (((-2147483648) : Int) ≤ z.toInt ∧ z.toInt ≤ 2147483647) ∧ z = ((o0.1 1) + x31)) ⟨iv_top _, rfl⟩ (fun x33 qi34 => ?_)
        obtain ⟨i34, ax33⟩ := qi34
        refine tt_ko ?_
        have k35 := ok_fp (k := 1) (v := x33) k25 i34
        have r36 := fr_fp (k := 1) (v := x33) r26 rfl
        refine tt_kv (P := fun z => ((1 : Int) ≤ z.toInt ∧ z.toInt ≤ 418) ∧ z = ((o0.1 0) + 1) ∧ z.toInt = (o0.1 0).toInt + 1) ⟨iv_add i24 (show (1 : Int) ≤ (1 : Int32).toInt ∧ (1 : Int32).toInt ≤ 1 by decide) (by decide) (by decide) (by decide) (by decide), rfl, iq_add i24 (show (1 : Int) ≤ (1 : Int32).toInt ∧ (1 : Int32).toInt ≤ 1 by decide) (by decide) (by decide)⟩ (fun x37 qi38 => ?_)
        obtain ⟨i38, ax37, ei38⟩ := qi38
        refine tt_ko ?_
        have k39 := ok_fp (k := 0) (v := x37) k35 (iv_w (a := 0) (b := 418) (by decide) (by decide) i38)
        have r40 := fr_fp (k := 0) (v := x37) r36 rfl
        try unfold fMp_takeInstances_85
        refine tt_kv (P := fun z => ((3 : Int) ≤ z.toInt ∧ z.toInt ≤ 418) ∧ z = (v3 + 1) ∧ z.toInt = v3.toInt + 1) ⟨iv_add i8 (show (1 : Int) ≤ (1 : Int32).toInt ∧ (1 : Int32).toInt ≤ 1 by decide) (by decide) (by decide) (by decide) (by decide), rfl, iq_add i8 (show (1 : Int) ≤ (1 : Int32).toInt ∧ (1 : Int32).toInt ≤ 1 by decide) (by decide) (by decide)⟩ (fun x41 qi42 => ?_)
        obtain ⟨i42, ax41, ei42⟩ := qi42
        have p43 : Tki x37.toInt (upd (o0.2.1 3) ((o0.1 0).toNatClampNeg) v3) (o0.2.2 4) := by first | exact x_2 | exact Tki_s x_2 (Mgz_i (x5 := v3) x_0 x_1 (by assumption) (show _ = lg_cmp _ _ by assumption) (by assumption) (by omega) (by omega) (by omega) (by omega)).1 (by rw [tn_n]; omega) (by omega) (by omega) (by omega)
        exact H _ _ _ _ k39 r40 k_o1 r_o1 k_o2 r_o2 (iv_w (a := 2) (b := 418) (by decide) (by decide) i42) f_o0_2 f_o2_0 x_0 x_1 p43 (show x37.toInt + 2 ≤ x41.toInt by omega) (show 0 ≤ x37.toInt by omega) (show 2 ≤ x41.toInt by omega) (show 0 + (418 - x41.toInt) * 2 < (n : Int) by omega)
set_option maxHeartbeats 4000000 in
set_option maxRecDepth 100000 in
theorem hMp_takeInstances (yo0 : cf_O) (yo1 : cf_O) (yo2 : cf_O) : ∀ n, HMp_takeInstances yo0 yo1 yo2 n := by
  intro n
  induction n with
  | zero => exact (fun v3 o0 o1 o2 k_o0 r_o0 k_o1 r_o1 k_o2 r_o2 i_v3 f_o0_2 f_o2_0 x_0 x_1 x_2 x_3 x_4 x_5 hm => by exact absurd (show 0 + (418 - v3.toInt) * 2 < (0 : Int) from hm) (by omega))
  | succ n ih => exact (fun v3 o0 o1 o2 k_o0 r_o0 k_o1 r_o1 k_o2 r_o2 i_v3 f_o0_2 f_o2_0 x_0 x_1 x_2 x_3 x_4 x_5 hm => tMp_takeInstances_12 ih v3 o0 o1 o2 k_o0 r_o0 k_o1 r_o1 k_o2 r_o2 i_v3 f_o0_2 f_o2_0 x_0 x_1 x_2 x_3 x_4 x_5 (by omega))
set_option maxHeartbeats 4000000 in
set_option maxRecDepth 100000 in
theorem sMp_takeInstances (o0 : cf_O) (o1 : cf_O) (o2 : cf_O) (k_o0 : okO I_Mp o0) (k_o1 : okO I_Gr o1) (k_o2 : okO I_Li o2) (f_o0_2 : (0 : Int) ≤ (o0.1 2).toInt ∧ (o0.1 2).toInt ≤ 1048575) (f_o2_0 : (1 : Int) ≤ (o2.1 0).toInt ∧ (o2.1 0).toInt ≤ 12) (x_0 : Mam (((o1.1 0).toInt + 1) + (o1.1 2).toInt) (o0.2.2 4) (o2.2.1 5)) (x_1 : Wtd (((o1.1 0).toInt + 1) + (o1.1 2).toInt) (o0.2.2 4) (o0.2.1 6)) : tt (fMp_takeInstances o0 o1 o2) (QMp_takeInstances o0 o1 o2) := by
  have H := hMp_takeInstances o0 o1 o2 cfFU
  have hm : (835 : Int) ≤ (cfFU : Nat) := by decide
  have r_o0 : Fr (fr_M [0, 1] [3] []) o0 o0 := fr_rfl
  have r_o1 : Fr (fr_M [] [] []) o1 o1 := fr_rfl
  have r_o2 : Fr (fr_M [] [] []) o2 o2 := fr_rfl
  unfold fMp_takeInstances fMp_takeInstances_0
  have g_o0_0 : (0 : Int) ≤ (o0.1 0).toInt ∧ (o0.1 0).toInt ≤ 418 := k_o0.1 0
  have g_o1_0 : (0 : Int) ≤ (o1.1 0).toInt ∧ (o1.1 0).toInt ≤ 8 := k_o1.1 0
  have g_o1_2 : (0 : Int) ≤ (o1.1 2).toInt ∧ (o1.1 2).toInt ≤ 200 := k_o1.1 2
  have g_o2_2 : (0 : Int) ≤ (o2.1 2).toInt ∧ (o2.1 2).toInt ≤ 0 := k_o2.1 2
  refine tt_ko ?_
  have k1 := ok_fp (k := 0) (v := 0) k_o0 (iv_w (a := 0) (b := 418) (by decide) (by decide) (show (0 : Int) ≤ (0 : Int32).toInt ∧ (0 : Int32).toInt ≤ 0 by decide))
  have r2 := fr_fp (k := 0) (v := 0) r_o0 rfl
  refine tt_ko ?_
  have k3 := ok_fp (k := 1) (v := 0) k1 (iv_w (a := (-2147483648)) (b := 2147483647) (by decide) (by decide) (show (0 : Int) ≤ (0 : Int32).toInt ∧ (0 : Int32).toInt ≤ 0 by decide))
  have r4 := fr_fp (k := 1) (v := 0) r2 rfl
  have p5 : Tki 0 (o0.2.1 3) (o0.2.2 4) := by exact Tki_0
  exact H _ _ _ _ k3 r4 k_o1 r_o1 k_o2 r_o2 (iv_w (a := 2) (b := 418) (by decide) (by decide) (show (2 : Int) ≤ (2 : Int32).toInt ∧ (2 : Int32).toInt ≤ 2 by decide)) f_o0_2 f_o2_0 x_0 x_1 p5 (show 0 + 2 ≤ 2 by omega) (show 0 ≤ 0 by omega) (show 2 ≤ 2 by omega) (show 0 + (418 - 2) * 2 < ((cfFU : Nat) : Int) by omega)
def QMp_find (o0 : cf_O) (o1 : cf_O) (o2 : cf_O) (o3 : cf_O) (o4 : cf_O) (r : (Int32 × cf_O × cf_O)) : Prop := ((0 : Int) ≤ r.1.toInt ∧ r.1.toInt ≤ 1) ∧ (okO I_Mp r.2.1) ∧ (Fr (fr_M [0, 1, 2] [3, 6] [4, 5]) o0 r.2.1) ∧ ((0 : Int) ≤ (r.2.1.1 2).toInt ∧ (r.2.1.1 2).toInt ≤ 1048575) ∧ (okO I_Co r.2.2) ∧ (Fr (fr_M [0, 1] [2, 3, 4] []) o3 r.2.2) ∧ (Tks r.1.toInt (r.2.1.1 0).toInt (r.2.1.2.1 3) (r.2.1.2.2 4)) ∧ True
def HMp_find (yo0 : cf_O) (yo1 : cf_O) (yo2 : cf_O) (yo3 : cf_O) (yo4 : cf_O) (n : Nat) : Prop := (∀ (v5 : Int32) (o0 : cf_O) (o1 : cf_O) (o2 : cf_O) (o3 : cf_O) (o4 : cf_O), (okO I_Mp o0) → (Fr (fr_M [0, 1, 2] [3, 6] [4, 5]) yo0 o0) → (okO I_Gr o1) → (Fr (fr_M [] [] []) yo1 o1) → (okO I_Cu o2) → (Fr (fr_M [] [] []) yo2 o2) → (okO I_Co o3) → (Fr (fr_M [0, 1] [2, 3, 4] []) yo3 o3) → (okO I_Li o4) → (Fr (fr_M [] [] []) yo4 o4) → ((0 : Int) ≤ v5.toInt ∧ v5.toInt ≤ 418) → ((0 : Int) ≤ (o0.1 2).toInt ∧ (o0.1 2).toInt ≤ 0) → ((0 : Int) ≤ (o2.1 0).toInt ∧ (o2.1 0).toInt ≤ 5) → ((1 : Int) ≤ (o4.1 0).toInt ∧ (o4.1 0).toInt ≤ 12) → (Mam (((o1.1 0).toInt + 1) + (o1.1 2).toInt) (o0.2.2 4) (o4.2.1 5)) → (Wtz v5.toInt (o0.2.1 6)) → (v5.toInt ≤ 2 * (((o1.1 0).toInt + 1) + (o1.1 2).toInt)) → 14 + (418 - v5.toInt) * 2 < (n : Int) → tt (gMp_find n 0 v5 o0 o1 o2 o3 o4) (QMp_find yo0 yo1 yo2 yo3 yo4)) ∧ (∀ (v5 : Int32) (o0 : cf_O) (o1 : cf_O) (o2 : cf_O) (o3 : cf_O) (o4 : cf_O), (okO I_Mp o0) → (Fr (fr_M [0, 1, 2] [3, 6] [4, 5]) yo0 o0) → (okO I_Gr o1) → (Fr (fr_M [] [] []) yo1 o1) → (okO I_Cu o2) → (Fr (fr_M [] [] []) yo2 o2) → (okO I_Co o3) → (Fr (fr_M [0, 1] [2, 3, 4] []) yo3 o3) → (okO I_Li o4) → (Fr (fr_M [] [] []) yo4 o4) → ((0 : Int) ≤ v5.toInt ∧ v5.toInt ≤ 6) → ((0 : Int) ≤ (o0.1 2).toInt ∧ (o0.1 2).toInt ≤ 1048575) → ((0 : Int) ≤ (o2.1 0).toInt ∧ (o2.1 0).toInt ≤ 5) → ((1 : Int) ≤ (o4.1 0).toInt ∧ (o4.1 0).toInt ≤ 12) → (Mam (((o1.1 0).toInt + 1) + (o1.1 2).toInt) (o0.2.2 4) (o4.2.1 5)) → (Wtd (((o1.1 0).toInt + 1) + (o1.1 2).toInt) (o0.2.2 4) (o0.2.1 6)) → 0 + (6 - v5.toInt) * 2 < (n : Int) → tt (gMp_find n 1 v5 o0 o1 o2 o3 o4) (QMp_find yo0 yo1 yo2 yo3 yo4))
set_option maxHeartbeats 4000000 in
set_option maxRecDepth 100000 in
theorem tMp_find_59 {yo0 : cf_O} {yo1 : cf_O} {yo2 : cf_O} {yo3 : cf_O} {yo4 : cf_O} {n : Nat} (H : HMp_find yo0 yo1 yo2 yo3 yo4 n) (v5 : Int32) (o0 : cf_O) (o1 : cf_O) (o2 : cf_O) (o3 : cf_O) (o4 : cf_O) (k_o0 : okO I_Mp o0) (r_o0 : Fr (fr_M [0, 1, 2] [3, 6] [4, 5]) yo0 o0) (k_o1 : okO I_Gr o1) (r_o1 : Fr (fr_M [] [] []) yo1 o1) (k_o2 : okO I_Cu o2) (r_o2 : Fr (fr_M [] [] []) yo2 o2) (k_o3 : okO I_Co o3) (r_o3 : Fr (fr_M [0, 1] [2, 3, 4] []) yo3 o3) (k_o4 : okO I_Li o4) (r_o4 : Fr (fr_M [] [] []) yo4 o4) (i_v5 : (0 : Int) ≤ v5.toInt ∧ v5.toInt ≤ 6) (f_o0_2 : (0 : Int) ≤ (o0.1 2).toInt ∧ (o0.1 2).toInt ≤ 1048575) (f_o2_0 : (0 : Int) ≤ (o2.1 0).toInt ∧ (o2.1 0).toInt ≤ 5) (f_o4_0 : (1 : Int) ≤ (o4.1 0).toInt ∧ (o4.1 0).toInt ≤ 12) (x_0 : Mam (((o1.1 0).toInt + 1) + (o1.1 2).toInt) (o0.2.2 4) (o4.2.1 5)) (x_1 : Wtd (((o1.1 0).toInt + 1) + (o1.1 2).toInt) (o0.2.2 4) (o0.2.1 6)) (hm : 0 + (6 - v5.toInt) * 2 ≤ (n : Int)) : tt (fMp_find_59 (gMp_find n) v5 o0 o1 o2 o3 o4) (QMp_find yo0 yo1 yo2 yo3 yo4) := by
  unfold fMp_find_59
  have g_o0_0 : (0 : Int) ≤ (o0.1 0).toInt ∧ (o0.1 0).toInt ≤ 418 := k_o0.1 0
  have g_o0_1 : ((-2147483648) : Int) ≤ (o0.1 1).toInt ∧ (o0.1 1).toInt ≤ 2147483647 := k_o0.1 1
  have g_o0_3 : (0 : Int) ≤ (o0.1 3).toInt ∧ (o0.1 3).toInt ≤ 0 := k_o0.1 3
  have ey_o0_3 : (o0.1 3).toInt = (yo0.1 3).toInt := congrArg Int32.toInt (r_o0.1 3 rfl)
  have g_o0_4 : (0 : Int) ≤ (o0.1 4).toInt ∧ (o0.1 4).toInt ≤ 0 := k_o0.1 4
  have ey_o0_4 : (o0.1 4).toInt = (yo0.1 4).toInt := congrArg Int32.toInt (r_o0.1 4 rfl)
  have g_o0_7 : (0 : Int) ≤ (o0.1 7).toInt ∧ (o0.1 7).toInt ≤ 0 := k_o0.1 7
  have ey_o0_7 : (o0.1 7).toInt = (yo0.1 7).toInt := congrArg Int32.toInt (r_o0.1 7 rfl)
  have g_o1_0 : (0 : Int) ≤ (o1.1 0).toInt ∧ (o1.1 0).toInt ≤ 8 := k_o1.1 0
  have ey_o1_0 : (o1.1 0).toInt = (yo1.1 0).toInt := congrArg Int32.toInt (r_o1.1 0 rfl)
  have g_o1_1 : (0 : Int) ≤ (o1.1 1).toInt ∧ (o1.1 1).toInt ≤ 6 := k_o1.1 1
  have ey_o1_1 : (o1.1 1).toInt = (yo1.1 1).toInt := congrArg Int32.toInt (r_o1.1 1 rfl)
  have g_o1_2 : (0 : Int) ≤ (o1.1 2).toInt ∧ (o1.1 2).toInt ≤ 200 := k_o1.1 2
  have ey_o1_2 : (o1.1 2).toInt = (yo1.1 2).toInt := congrArg Int32.toInt (r_o1.1 2 rfl)
  have g_o1_3 : (0 : Int) ≤ (o1.1 3).toInt ∧ (o1.1 3).toInt ≤ 1 := k_o1.1 3
  have ey_o1_3 : (o1.1 3).toInt = (yo1.1 3).toInt := congrArg Int32.toInt (r_o1.1 3 rfl)
  have g_o1_4 : (0 : Int) ≤ (o1.1 4).toInt ∧ (o1.1 4).toInt ≤ 0 := k_o1.1 4
  have ey_o1_4 : (o1.1 4).toInt = (yo1.1 4).toInt := congrArg Int32.toInt (r_o1.1 4 rfl)
  have g_o1_7 : (0 : Int) ≤ (o1.1 7).toInt ∧ (o1.1 7).toInt ≤ 0 := k_o1.1 7
  have ey_o1_7 : (o1.1 7).toInt = (yo1.1 7).toInt := congrArg Int32.toInt (r_o1.1 7 rfl)
  have ey_o2_0 : (o2.1 0).toInt = (yo2.1 0).toInt := congrArg Int32.toInt (r_o2.1 0 rfl)
  have g_o2_1 : (0 : Int) ≤ (o2.1 1).toInt ∧ (o2.1 1).toInt ≤ 0 := k_o2.1 1
  have ey_o2_1 : (o2.1 1).toInt = (yo2.1 1).toInt := congrArg Int32.toInt (r_o2.1 1 rfl)
  have g_o2_2 : (0 : Int) ≤ (o2.1 2).toInt ∧ (o2.1 2).toInt ≤ 0 := k_o2.1 2
  have ey_o2_2 : (o2.1 2).toInt = (yo2.1 2).toInt := congrArg Int32.toInt (r_o2.1 2 rfl)
  have g_o2_3 : (0 : Int) ≤ (o2.1 3).toInt ∧ (o2.1 3).toInt ≤ 62909 := k_o2.1 3
  have ey_o2_3 : (o2.1 3).toInt = (yo2.1 3).toInt := congrArg Int32.toInt (r_o2.1 3 rfl)
  have g_o2_4 : (1024 : Int) ≤ (o2.1 4).toInt ∧ (o2.1 4).toInt ≤ 131072 := k_o2.1 4
  have ey_o2_4 : (o2.1 4).toInt = (yo2.1 4).toInt := congrArg Int32.toInt (r_o2.1 4 rfl)
  have g_o2_7 : (0 : Int) ≤ (o2.1 7).toInt ∧ (o2.1 7).toInt ≤ 0 := k_o2.1 7
  have ey_o2_7 : (o2.1 7).toInt = (yo2.1 7).toInt := congrArg Int32.toInt (r_o2.1 7 rfl)
  have g_o3_0 : (0 : Int) ≤ (o3.1 0).toInt ∧ (o3.1 0).toInt ≤ 5 := k_o3.1 0
  have g_o3_1 : ((-2147483648) : Int) ≤ (o3.1 1).toInt ∧ (o3.1 1).toInt ≤ 2147483647 := k_o3.1 1
  have g_o3_2 : (0 : Int) ≤ (o3.1 2).toInt ∧ (o3.1 2).toInt ≤ 0 := k_o3.1 2
  have ey_o3_2 : (o3.1 2).toInt = (yo3.1 2).toInt := congrArg Int32.toInt (r_o3.1 2 rfl)
  have g_o3_3 : (0 : Int) ≤ (o3.1 3).toInt ∧ (o3.1 3).toInt ≤ 0 := k_o3.1 3
  have ey_o3_3 : (o3.1 3).toInt = (yo3.1 3).toInt := congrArg Int32.toInt (r_o3.1 3 rfl)
  have g_o3_4 : (0 : Int) ≤ (o3.1 4).toInt ∧ (o3.1 4).toInt ≤ 0 := k_o3.1 4
  have ey_o3_4 : (o3.1 4).toInt = (yo3.1 4).toInt := congrArg Int32.toInt (r_o3.1 4 rfl)
  have g_o3_7 : (0 : Int) ≤ (o3.1 7).toInt ∧ (o3.1 7).toInt ≤ 0 := k_o3.1 7
  have ey_o3_7 : (o3.1 7).toInt = (yo3.1 7).toInt := congrArg Int32.toInt (r_o3.1 7 rfl)
  have ey_o4_0 : (o4.1 0).toInt = (yo4.1 0).toInt := congrArg Int32.toInt (r_o4.1 0 rfl)
  have g_o4_1 : ((-1) : Int) ≤ (o4.1 1).toInt ∧ (o4.1 1).toInt ≤ 11 := k_o4.1 1
  have ey_o4_1 : (o4.1 1).toInt = (yo4.1 1).toInt := congrArg Int32.toInt (r_o4.1 1 rfl)
  have g_o4_2 : (0 : Int) ≤ (o4.1 2).toInt ∧ (o4.1 2).toInt ≤ 0 := k_o4.1 2
  have ey_o4_2 : (o4.1 2).toInt = (yo4.1 2).toInt := congrArg Int32.toInt (r_o4.1 2 rfl)
  have g_o4_3 : (0 : Int) ≤ (o4.1 3).toInt ∧ (o4.1 3).toInt ≤ 0 := k_o4.1 3
  have ey_o4_3 : (o4.1 3).toInt = (yo4.1 3).toInt := congrArg Int32.toInt (r_o4.1 3 rfl)
  have g_o4_4 : (0 : Int) ≤ (o4.1 4).toInt ∧ (o4.1 4).toInt ≤ 0 := k_o4.1 4
  have ey_o4_4 : (o4.1 4).toInt = (yo4.1 4).toInt := congrArg Int32.toInt (r_o4.1 4 rfl)
  have g_o4_7 : (0 : Int) ≤ (o4.1 7).toInt ∧ (o4.1 7).toInt ≤ 576 := k_o4.1 7
  have ey_o4_7 : (o4.1 7).toInt = (yo4.1 7).toInt := congrArg Int32.toInt (r_o4.1 7 rfl)
  refine tt_if (fun c1 => ?_) (fun c1 => ?_)
  · have wc1 : (o1.1 1).toInt ≤ v5.toInt := c_le c1
    refine tt_b (sMp_wantPins _ _ _ k_o0 k_o1 k_o4 f_o0_2 f_o4_0 x_0 x_1) (fun q2 hq2 => ?_)
    obtain ⟨k_q2, n_q2, zq2_0, -⟩ := hq2
    have r_q2 := fr_tr r_o0 n_q2 rfl rfl rfl
    have f_q2_2 : (0 : Int) ≤ (q2.1 2).toInt ∧ (q2.1 2).toInt ≤ 1048575 := by rw [n_q2.1 2 rfl]; exact f_o0_2
    have e_q2_0 : (q2.1 0).toInt = (o0.1 0).toInt := congrArg Int32.toInt (n_q2.1 0 rfl)
    have g_q2_0 : (0 : Int) ≤ (q2.1 0).toInt ∧ (q2.1 0).toInt ≤ 418 := k_q2.1 0
    have e_q2_1 : (q2.1 1).toInt = (o0.1 1).toInt := congrArg Int32.toInt (n_q2.1 1 rfl)
    have g_q2_1 : ((-2147483648) : Int) ≤ (q2.1 1).toInt ∧ (q2.1 1).toInt ≤ 2147483647 := k_q2.1 1
    have e_q2_2 : (q2.1 2).toInt = (o0.1 2).toInt := congrArg Int32.toInt (n_q2.1 2 rfl)
    have e_q2_3 : (q2.1 3).toInt = (o0.1 3).toInt := congrArg Int32.toInt (n_q2.1 3 rfl)
    have g_q2_3 : (0 : Int) ≤ (q2.1 3).toInt ∧ (q2.1 3).toInt ≤ 0 := k_q2.1 3
    have e_q2_4 : (q2.1 4).toInt = (o0.1 4).toInt := congrArg Int32.toInt (n_q2.1 4 rfl)
    have g_q2_4 : (0 : Int) ≤ (q2.1 4).toInt ∧ (q2.1 4).toInt ≤ 0 := k_q2.1 4
    have e_q2_7 : (q2.1 7).toInt = (o0.1 7).toInt := congrArg Int32.toInt (n_q2.1 7 rfl)
    have g_q2_7 : (0 : Int) ≤ (q2.1 7).toInt ∧ (q2.1 7).toInt ≤ 0 := k_q2.1 7
    have u3 : Mam (((o1.1 0).toInt + 1) + (o1.1 2).toInt) (q2.2.2 4) (o4.2.1 5) := by rw [n_q2.2.2 4 rfl]; exact x_0
    refine tt_b (sMp_takeInstances _ _ _ k_q2 k_o1 k_o4 f_q2_2 f_o4_0 u3 zq2_0) (fun q4 hq4 => ?_)
    obtain ⟨k_q4, n_q4, zq4_0, -⟩ := hq4
    have r_q4 := fr_tr r_q2 n_q4 rfl rfl rfl
    have f_q4_2 : (0 : Int) ≤ (q4.1 2).toInt ∧ (q4.1 2).toInt ≤ 1048575 := by rw [n_q4.1 2 rfl]; exact f_q2_2
    have g_q4_0 : (0 : Int) ≤ (q4.1 0).toInt ∧ (q4.1 0).toInt ≤ 418 := k_q4.1 0
    have g_q4_1 : ((-2147483648) : Int) ≤ (q4.1 1).toInt ∧ (q4.1 1).toInt ≤ 2147483647 := k_q4.1 1
    have e_q4_2 : (q4.1 2).toInt = (q2.1 2).toInt := congrArg Int32.toInt (n_q4.1 2 rfl)
    have e_q4_3 : (q4.1 3).toInt = (q2.1 3).toInt := congrArg Int32.toInt (n_q4.1 3 rfl)
    have g_q4_3 : (0 : Int) ≤ (q4.1 3).toInt ∧ (q4.1 3).toInt ≤ 0 := k_q4.1 3
    have e_q4_4 : (q4.1 4).toInt = (q2.1 4).toInt := congrArg Int32.toInt (n_q4.1 4 rfl)
    have g_q4_4 : (0 : Int) ≤ (q4.1 4).toInt ∧ (q4.1 4).toInt ≤ 0 := k_q4.1 4
    have e_q4_7 : (q4.1 7).toInt = (q2.1 7).toInt := congrArg Int32.toInt (n_q4.1 7 rfl)
    have g_q4_7 : (0 : Int) ≤ (q4.1 7).toInt ∧ (q4.1 7).toInt ≤ 0 := k_q4.1 7
    have u5 : Wtd (((o1.1 0).toInt + 1) + (o1.1 2).toInt) (q4.2.2 4) (q4.2.1 6) := by rw [n_q4.2.1 6 rfl, n_q4.2.2 4 rfl]; exact zq2_0
    have u6 : Mam (((o1.1 0).toInt + 1) + (o1.1 2).toInt) (q4.2.2 4) (o4.2.1 5) := by rw [n_q4.2.2 4 rfl]; exact u3
    have p7 : Tks 1 (q4.1 0).toInt (q4.2.1 3) (q4.2.2 4) := by first | exact Or.inl (by omega) | exact Or.inl rfl | exact Or.inr (by assumption) | exact Or.inr (Tki_v (show Tki _ _ _ by assumption) (by assumption))
    exact tt_some ⟨(iv_w (a := 0) (b := 1) (by decide) (by decide) (show (1 : Int) ≤ (1 : Int32).toInt ∧ (1 : Int32).toInt ≤ 1 by decide)), k_q4, r_q4, f_q4_2, k_o3, r_o3, p7, trivial⟩
  · have wc1 : v5.toInt < (o1.1 1).toInt := c_nle c1
    have i8 : (0 : Int) ≤ v5.toInt ∧ v5.toInt ≤ 5 := nr_nlel c1 i_v5 (k_o1.1 1) (by decide) (by decide)
    have i9 : (1 : Int) ≤ (o1.1 1).toInt ∧ (o1.1 1).toInt ≤ 6 := nr_nler c1 i_v5 (k_o1.1 1) (by decide) (by decide)
    refine tt_n (ix_ok i8 (by decide) (by decide)) ?_
    refine tt_kv (P := fun z => ((0 : Int) ≤ z.toInt ∧ z.toInt ≤ 417) ∧ z = (o1.2.1 7 v5.toNatClampNeg) ∧ z.toInt = (o1.2.1 7 v5.toNatClampNeg).toInt) ⟨(k_o1.2 7 _), rfl, rfl⟩ (fun x10 qi11 => ?_)
    obtain ⟨i11, ax10, ei11⟩ := qi11
    refine tt_n (ix_ok i11 (by decide) (by decide)) ?_
    refine tt_klr (fun x12 ax12 => ?_)
    refine tt_kv (P := fun z => (((-2147483648) : Int) ≤ z.toInt ∧ z.toInt ≤ 2147483647) ∧ z = (lg_cmp x12 (9223372036854775807 : Int64))) ⟨iv_top _, rfl⟩ (fun x13 qi14 => ?_)
    obtain ⟨i14, ax13⟩ := qi14
    refine tt_if (fun c15 => ?_) (fun c15 => ?_)
    · have wc15 : x13.toInt = (0 : Int) := c_eq c15
      have i16 : (0 : Int) ≤ x13.toInt ∧ x13.toInt ≤ 0 := nr_eql c15 i14 (show (0 : Int) ≤ (0 : Int32).toInt ∧ (0 : Int32).toInt ≤ 0 by decide) (by decide) (by decide)
      have p17 : Tks 0 (o0.1 0).toInt (o0.2.1 3) (o0.2.2 4) := by first | exact Or.inl (by omega) | exact Or.inl rfl | exact Or.inr (by assumption) | exact Or.inr (Tki_v (show Tki _ _ _ by assumption) (by assumption))
      exact tt_some ⟨(iv_w (a := 0) (b := 1) (by decide) (by decide) (show (0 : Int) ≤ (0 : Int32).toInt ∧ (0 : Int32).toInt ≤ 0 by decide)), k_o0, r_o0, f_o0_2, k_o3, r_o3, p17, trivial⟩
    · have wc15 : ¬ x13.toInt = (0 : Int) := c_ne c15
      refine tt_n (ix_ok i11 (by decide) (by decide)) ?_
      refine tt_ko ?_
      have k18 := ok_xp (k := 6) (i := x10.toNatClampNeg) (v := (vp_nar .boolean 1)) k_o0 (iv_nz _)
      have r19 := fr_xp (k := 6) (i := x10.toNatClampNeg) (v := (vp_nar .boolean 1)) r_o0 rfl
      refine tt_n (ix_ok i11 (by decide) (by decide)) ?_
      refine tt_klr (fun x20 ax20 => ?_)
      refine tt_b (sMp_timeOf _ ) (fun q21 hq21 => ?_)
      obtain ⟨i_q21, -⟩ := hq21
      refine tt_kv (P := fun z => ((0 : Int) ≤ z.toInt ∧ z.toInt ≤ 1048575) ∧ z = (op_mx (o0.1 2) q21)) ⟨iv_mx f_o0_2 i_q21 (by decide) (by decide) (by decide) (by decide), rfl⟩ (fun x22 qi23 => ?_)
      obtain ⟨i23, ax22⟩ := qi23
      refine tt_ko ?_
      have k24 := ok_fp (k := 2) (v := x22) k18 (iv_w (a := (-2147483648)) (b := 2147483647) (by decide) (by decide) i23)
      have r25 := fr_fp (k := 2) (v := x22) r19 rfl
      refine tt_kv (P := fun z => ((1 : Int) ≤ z.toInt ∧ z.toInt ≤ 6) ∧ z = (v5 + 1) ∧ z.toInt = v5.toInt + 1) ⟨iv_add i8 (show (1 : Int) ≤ (1 : Int32).toInt ∧ (1 : Int32).toInt ≤ 1 by decide) (by decide) (by decide) (by decide) (by decide), rfl, iq_add i8 (show (1 : Int) ≤ (1 : Int32).toInt ∧ (1 : Int32).toInt ≤ 1 by decide) (by decide) (by decide)⟩ (fun x26 qi27 => ?_)
      obtain ⟨i27, ax26, ei27⟩ := qi27
      have p28 : Wtd (((o1.1 0).toInt + 1) + (o1.1 2).toInt) (o0.2.2 4) (upd (o0.2.1 6) (x10.toNatClampNeg) (vp_nar .boolean 1)) := by exact Wtd_s x_1 (lgm_n (show _ = lg_cmp _ _ by assumption) (by assumption) (by omega))
      exact H.2 _ _ _ _ _ _ k24 r25 k_o1 r_o1 k_o2 r_o2 k_o3 r_o3 k_o4 r_o4 (iv_w (a := 0) (b := 6) (by decide) (by decide) i27) i23 f_o2_0 f_o4_0 x_0 p28 (show 0 + (6 - x26.toInt) * 2 < (n : Int) by omega)
set_option maxHeartbeats 4000000 in
set_option maxRecDepth 100000 in
theorem tMp_find_31 {yo0 : cf_O} {yo1 : cf_O} {yo2 : cf_O} {yo3 : cf_O} {yo4 : cf_O} {n : Nat} (H : HMp_find yo0 yo1 yo2 yo3 yo4 n) (v5 : Int32) (o0 : cf_O) (o1 : cf_O) (o2 : cf_O) (o3 : cf_O) (o4 : cf_O) (k_o0 : okO I_Mp o0) (r_o0 : Fr (fr_M [0, 1, 2] [3, 6] [4, 5]) yo0 o0) (k_o1 : okO I_Gr o1) (r_o1 : Fr (fr_M [] [] []) yo1 o1) (k_o2 : okO I_Cu o2) (r_o2 : Fr (fr_M [] [] []) yo2 o2) (k_o3 : okO I_Co o3) (r_o3 : Fr (fr_M [0, 1] [2, 3, 4] []) yo3 o3) (k_o4 : okO I_Li o4) (r_o4 : Fr (fr_M [] [] []) yo4 o4) (i_v5 : (0 : Int) ≤ v5.toInt ∧ v5.toInt ≤ 418) (f_o0_2 : (0 : Int) ≤ (o0.1 2).toInt ∧ (o0.1 2).toInt ≤ 0) (f_o2_0 : (0 : Int) ≤ (o2.1 0).toInt ∧ (o2.1 0).toInt ≤ 5) (f_o4_0 : (1 : Int) ≤ (o4.1 0).toInt ∧ (o4.1 0).toInt ≤ 12) (x_0 : Mam (((o1.1 0).toInt + 1) + (o1.1 2).toInt) (o0.2.2 4) (o4.2.1 5)) (x_1 : Wtz v5.toInt (o0.2.1 6)) (x_2 : v5.toInt ≤ 2 * (((o1.1 0).toInt + 1) + (o1.1 2).toInt)) (hm : 14 + (418 - v5.toInt) * 2 ≤ (n : Int)) : tt (fMp_find_31 (gMp_find n) v5 o0 o1 o2 o3 o4) (QMp_find yo0 yo1 yo2 yo3 yo4) := by
  unfold fMp_find_31
  have g_o0_0 : (0 : Int) ≤ (o0.1 0).toInt ∧ (o0.1 0).toInt ≤ 418 := k_o0.1 0
  have g_o0_1 : ((-2147483648) : Int) ≤ (o0.1 1).toInt ∧ (o0.1 1).toInt ≤ 2147483647 := k_o0.1 1
  have g_o0_3 : (0 : Int) ≤ (o0.1 3).toInt ∧ (o0.1 3).toInt ≤ 0 := k_o0.1 3
  have ey_o0_3 : (o0.1 3).toInt = (yo0.1 3).toInt := congrArg Int32.toInt (r_o0.1 3 rfl)
  have g_o0_4 : (0 : Int) ≤ (o0.1 4).toInt ∧ (o0.1 4).toInt ≤ 0 := k_o0.1 4
  have ey_o0_4 : (o0.1 4).toInt = (yo0.1 4).toInt := congrArg Int32.toInt (r_o0.1 4 rfl)
  have g_o0_7 : (0 : Int) ≤ (o0.1 7).toInt ∧ (o0.1 7).toInt ≤ 0 := k_o0.1 7
  have ey_o0_7 : (o0.1 7).toInt = (yo0.1 7).toInt := congrArg Int32.toInt (r_o0.1 7 rfl)
  have g_o1_0 : (0 : Int) ≤ (o1.1 0).toInt ∧ (o1.1 0).toInt ≤ 8 := k_o1.1 0
  have ey_o1_0 : (o1.1 0).toInt = (yo1.1 0).toInt := congrArg Int32.toInt (r_o1.1 0 rfl)
  have g_o1_1 : (0 : Int) ≤ (o1.1 1).toInt ∧ (o1.1 1).toInt ≤ 6 := k_o1.1 1
  have ey_o1_1 : (o1.1 1).toInt = (yo1.1 1).toInt := congrArg Int32.toInt (r_o1.1 1 rfl)
  have g_o1_2 : (0 : Int) ≤ (o1.1 2).toInt ∧ (o1.1 2).toInt ≤ 200 := k_o1.1 2
  have ey_o1_2 : (o1.1 2).toInt = (yo1.1 2).toInt := congrArg Int32.toInt (r_o1.1 2 rfl)
  have g_o1_3 : (0 : Int) ≤ (o1.1 3).toInt ∧ (o1.1 3).toInt ≤ 1 := k_o1.1 3
  have ey_o1_3 : (o1.1 3).toInt = (yo1.1 3).toInt := congrArg Int32.toInt (r_o1.1 3 rfl)
  have g_o1_4 : (0 : Int) ≤ (o1.1 4).toInt ∧ (o1.1 4).toInt ≤ 0 := k_o1.1 4
  have ey_o1_4 : (o1.1 4).toInt = (yo1.1 4).toInt := congrArg Int32.toInt (r_o1.1 4 rfl)
  have g_o1_7 : (0 : Int) ≤ (o1.1 7).toInt ∧ (o1.1 7).toInt ≤ 0 := k_o1.1 7
  have ey_o1_7 : (o1.1 7).toInt = (yo1.1 7).toInt := congrArg Int32.toInt (r_o1.1 7 rfl)
  have ey_o2_0 : (o2.1 0).toInt = (yo2.1 0).toInt := congrArg Int32.toInt (r_o2.1 0 rfl)
  have g_o2_1 : (0 : Int) ≤ (o2.1 1).toInt ∧ (o2.1 1).toInt ≤ 0 := k_o2.1 1
  have ey_o2_1 : (o2.1 1).toInt = (yo2.1 1).toInt := congrArg Int32.toInt (r_o2.1 1 rfl)
  have g_o2_2 : (0 : Int) ≤ (o2.1 2).toInt ∧ (o2.1 2).toInt ≤ 0 := k_o2.1 2
  have ey_o2_2 : (o2.1 2).toInt = (yo2.1 2).toInt := congrArg Int32.toInt (r_o2.1 2 rfl)
  have g_o2_3 : (0 : Int) ≤ (o2.1 3).toInt ∧ (o2.1 3).toInt ≤ 62909 := k_o2.1 3
  have ey_o2_3 : (o2.1 3).toInt = (yo2.1 3).toInt := congrArg Int32.toInt (r_o2.1 3 rfl)
  have g_o2_4 : (1024 : Int) ≤ (o2.1 4).toInt ∧ (o2.1 4).toInt ≤ 131072 := k_o2.1 4
  have ey_o2_4 : (o2.1 4).toInt = (yo2.1 4).toInt := congrArg Int32.toInt (r_o2.1 4 rfl)
  have g_o2_7 : (0 : Int) ≤ (o2.1 7).toInt ∧ (o2.1 7).toInt ≤ 0 := k_o2.1 7
  have ey_o2_7 : (o2.1 7).toInt = (yo2.1 7).toInt := congrArg Int32.toInt (r_o2.1 7 rfl)
  have g_o3_0 : (0 : Int) ≤ (o3.1 0).toInt ∧ (o3.1 0).toInt ≤ 5 := k_o3.1 0
  have g_o3_1 : ((-2147483648) : Int) ≤ (o3.1 1).toInt ∧ (o3.1 1).toInt ≤ 2147483647 := k_o3.1 1
  have g_o3_2 : (0 : Int) ≤ (o3.1 2).toInt ∧ (o3.1 2).toInt ≤ 0 := k_o3.1 2
  have ey_o3_2 : (o3.1 2).toInt = (yo3.1 2).toInt := congrArg Int32.toInt (r_o3.1 2 rfl)
  have g_o3_3 : (0 : Int) ≤ (o3.1 3).toInt ∧ (o3.1 3).toInt ≤ 0 := k_o3.1 3
  have ey_o3_3 : (o3.1 3).toInt = (yo3.1 3).toInt := congrArg Int32.toInt (r_o3.1 3 rfl)
  have g_o3_4 : (0 : Int) ≤ (o3.1 4).toInt ∧ (o3.1 4).toInt ≤ 0 := k_o3.1 4
  have ey_o3_4 : (o3.1 4).toInt = (yo3.1 4).toInt := congrArg Int32.toInt (r_o3.1 4 rfl)
  have g_o3_7 : (0 : Int) ≤ (o3.1 7).toInt ∧ (o3.1 7).toInt ≤ 0 := k_o3.1 7
  have ey_o3_7 : (o3.1 7).toInt = (yo3.1 7).toInt := congrArg Int32.toInt (r_o3.1 7 rfl)
  have ey_o4_0 : (o4.1 0).toInt = (yo4.1 0).toInt := congrArg Int32.toInt (r_o4.1 0 rfl)
  have g_o4_1 : ((-1) : Int) ≤ (o4.1 1).toInt ∧ (o4.1 1).toInt ≤ 11 := k_o4.1 1
  have ey_o4_1 : (o4.1 1).toInt = (yo4.1 1).toInt := congrArg Int32.toInt (r_o4.1 1 rfl)
  have g_o4_2 : (0 : Int) ≤ (o4.1 2).toInt ∧ (o4.1 2).toInt ≤ 0 := k_o4.1 2
  have ey_o4_2 : (o4.1 2).toInt = (yo4.1 2).toInt := congrArg Int32.toInt (r_o4.1 2 rfl)
  have g_o4_3 : (0 : Int) ≤ (o4.1 3).toInt ∧ (o4.1 3).toInt ≤ 0 := k_o4.1 3
  have ey_o4_3 : (o4.1 3).toInt = (yo4.1 3).toInt := congrArg Int32.toInt (r_o4.1 3 rfl)
  have g_o4_4 : (0 : Int) ≤ (o4.1 4).toInt ∧ (o4.1 4).toInt ≤ 0 := k_o4.1 4
  have ey_o4_4 : (o4.1 4).toInt = (yo4.1 4).toInt := congrArg Int32.toInt (r_o4.1 4 rfl)
  have g_o4_7 : (0 : Int) ≤ (o4.1 7).toInt ∧ (o4.1 7).toInt ≤ 576 := k_o4.1 7
  have ey_o4_7 : (o4.1 7).toInt = (yo4.1 7).toInt := congrArg Int32.toInt (r_o4.1 7 rfl)
  try unfold fGr_size
  try unfold fGr_size_0
  refine tt_bkv (P := fun z => ((1 : Int) ≤ z.toInt ∧ z.toInt ≤ 9) ∧ z = (1 + (o1.1 0)) ∧ z.toInt = 1 + (o1.1 0).toInt) ⟨iv_add (show (1 : Int) ≤ (1 : Int32).toInt ∧ (1 : Int32).toInt ≤ 1 by decide) (k_o1.1 0) (by decide) (by decide) (by decide) (by decide), rfl, iq_add (show (1 : Int) ≤ (1 : Int32).toInt ∧ (1 : Int32).toInt ≤ 1 by decide) (k_o1.1 0) (by decide) (by decide)⟩ (fun x1 qi2 => ?_)
  obtain ⟨i2, ax1, ei2⟩ := qi2
  refine tt_bkv (P := fun z => ((1 : Int) ≤ z.toInt ∧ z.toInt ≤ 209) ∧ z = (x1 + (o1.1 2)) ∧ z.toInt = x1.toInt + (o1.1 2).toInt) ⟨iv_add i2 (k_o1.1 2) (by decide) (by decide) (by decide) (by decide), rfl, iq_add i2 (k_o1.1 2) (by decide) (by decide)⟩ (fun x3 qi4 => ?_)
  obtain ⟨i4, ax3, ei4⟩ := qi4
  refine tt_bs ?_
  refine tt_kv (P := fun z => ((2 : Int) ≤ z.toInt ∧ z.toInt ≤ 418) ∧ z = (2 * x3) ∧ z.toInt = 2 * x3.toInt) ⟨iv_mul (show (2 : Int) ≤ (2 : Int32).toInt ∧ (2 : Int32).toInt ≤ 2 by decide) i4 (by decide) (by decide) (by decide) (by decide) (by decide), rfl, iq_mul (show (2 : Int) ≤ (2 : Int32).toInt ∧ (2 : Int32).toInt ≤ 2 by decide) i4 (by decide) (by decide) (by decide) (by decide)⟩ (fun x5 qi6 => ?_)
  obtain ⟨i6, ax5, ei6⟩ := qi6
  refine tt_if (fun c7 => ?_) (fun c7 => ?_)
  · have wc7 : x5.toInt ≤ v5.toInt := c_le c7
    have i8 : (2 : Int) ≤ v5.toInt ∧ v5.toInt ≤ 418 := nr_ler c7 i6 i_v5 (by decide) (by decide)
    have p9 : Wtd (((o1.1 0).toInt + 1) + (o1.1 2).toInt) (o0.2.2 4) (o0.2.1 6) := by exact Wtd_0 x_1 (by omega)
    exact H.2 _ _ _ _ _ _ k_o0 r_o0 k_o1 r_o1 k_o2 r_o2 k_o3 r_o3 k_o4 r_o4 (iv_w (a := 0) (b := 6) (by decide) (by decide) (show (0 : Int) ≤ (0 : Int32).toInt ∧ (0 : Int32).toInt ≤ 0 by decide)) (iv_w (a := 0) (b := 1048575) (by decide) (by decide) f_o0_2) f_o2_0 f_o4_0 x_0 p9 (show 0 + (6 - 0) * 2 < (n : Int) by omega)
  · have wc7 : v5.toInt < x5.toInt := c_nle c7
    have i10 : (0 : Int) ≤ v5.toInt ∧ v5.toInt ≤ 417 := nr_nlel c7 i_v5 i6 (by decide) (by decide)
    refine tt_n (ix_ok i10 (by decide) (by decide)) ?_
    refine tt_ko ?_
    have k11 := ok_xp (k := 6) (i := v5.toNatClampNeg) (v := (vp_nar .boolean 0)) k_o0 (iv_nz _)
    have r12 := fr_xp (k := 6) (i := v5.toNatClampNeg) (v := (vp_nar .boolean 0)) r_o0 rfl
    refine tt_kv (P := fun z => ((1 : Int) ≤ z.toInt ∧ z.toInt ≤ 418) ∧ z = (v5 + 1) ∧ z.toInt = v5.toInt + 1) ⟨iv_add i10 (show (1 : Int) ≤ (1 : Int32).toInt ∧ (1 : Int32).toInt ≤ 1 by decide) (by decide) (by decide) (by decide) (by decide), rfl, iq_add i10 (show (1 : Int) ≤ (1 : Int32).toInt ∧ (1 : Int32).toInt ≤ 1 by decide) (by decide) (by decide)⟩ (fun x13 qi14 => ?_)
    obtain ⟨i14, ax13, ei14⟩ := qi14
    have p15 : Wtz x13.toInt (upd (o0.2.1 6) (v5.toNatClampNeg) (vp_nar .boolean 0)) := by exact Wtz_s x_1 (by rw [tn_n]; omega) (by omega)
    exact H.1 _ _ _ _ _ _ k11 r12 k_o1 r_o1 k_o2 r_o2 k_o3 r_o3 k_o4 r_o4 (iv_w (a := 0) (b := 418) (by decide) (by decide) i14) f_o0_2 f_o2_0 f_o4_0 x_0 p15 (show x13.toInt ≤ 2 * (((o1.1 0).toInt + 1) + (o1.1 2).toInt) by omega) (show 14 + (418 - x13.toInt) * 2 < (n : Int) by omega)
set_option maxHeartbeats 4000000 in
set_option maxRecDepth 100000 in
theorem hMp_find (yo0 : cf_O) (yo1 : cf_O) (yo2 : cf_O) (yo3 : cf_O) (yo4 : cf_O) : ∀ n, HMp_find yo0 yo1 yo2 yo3 yo4 n := by
  intro n
  induction n with
  | zero => exact ⟨(fun v5 o0 o1 o2 o3 o4 k_o0 r_o0 k_o1 r_o1 k_o2 r_o2 k_o3 r_o3 k_o4 r_o4 i_v5 f_o0_2 f_o2_0 f_o4_0 x_0 x_1 x_2 hm => by exact absurd (show 14 + (418 - v5.toInt) * 2 < (0 : Int) from hm) (by omega)), (fun v5 o0 o1 o2 o3 o4 k_o0 r_o0 k_o1 r_o1 k_o2 r_o2 k_o3 r_o3 k_o4 r_o4 i_v5 f_o0_2 f_o2_0 f_o4_0 x_0 x_1 hm => by exact absurd (show 0 + (6 - v5.toInt) * 2 < (0 : Int) from hm) (by omega))⟩
  | succ n ih => exact ⟨(fun v5 o0 o1 o2 o3 o4 k_o0 r_o0 k_o1 r_o1 k_o2 r_o2 k_o3 r_o3 k_o4 r_o4 i_v5 f_o0_2 f_o2_0 f_o4_0 x_0 x_1 x_2 hm => tMp_find_31 ih v5 o0 o1 o2 o3 o4 k_o0 r_o0 k_o1 r_o1 k_o2 r_o2 k_o3 r_o3 k_o4 r_o4 i_v5 f_o0_2 f_o2_0 f_o4_0 x_0 x_1 x_2 (by omega)), (fun v5 o0 o1 o2 o3 o4 k_o0 r_o0 k_o1 r_o1 k_o2 r_o2 k_o3 r_o3 k_o4 r_o4 i_v5 f_o0_2 f_o2_0 f_o4_0 x_0 x_1 hm => tMp_find_59 ih v5 o0 o1 o2 o3 o4 k_o0 r_o0 k_o1 r_o1 k_o2 r_o2 k_o3 r_o3 k_o4 r_o4 i_v5 f_o0_2 f_o2_0 f_o4_0 x_0 x_1 (by omega))⟩
set_option maxHeartbeats 4000000 in
set_option maxRecDepth 100000 in
theorem sMp_find (o0 : cf_O) (o1 : cf_O) (o2 : cf_O) (o3 : cf_O) (o4 : cf_O) (k_o0 : okO I_Mp o0) (k_o1 : okO I_Gr o1) (k_o2 : okO I_Cu o2) (k_o3 : okO I_Co o3) (k_o4 : okO I_Li o4) (f_o2_0 : (0 : Int) ≤ (o2.1 0).toInt ∧ (o2.1 0).toInt ≤ 5) (f_o4_0 : (1 : Int) ≤ (o4.1 0).toInt ∧ (o4.1 0).toInt ≤ 12) (x_0 : Fqs (o2.1 0).toInt (o1.1 0).toInt (((o1.1 0).toInt + 1) + (o1.1 2).toInt) (o2.1 3).toInt (o2.2.1 2) (o2.2.1 1) (o2.2.2 4)) (x_1 : Lbr (o4.1 7).toInt (o4.1 1).toInt (o4.2.1 8) (o4.2.1 9) (o4.2.1 10) (o4.2.1 11) (o4.2.1 5)) (x_2 : (o2.1 0).toInt = 3) (x_3 : (o2.1 3).toInt ≤ (o2.1 4).toInt) : tt (fMp_find o0 o1 o2 o3 o4) (QMp_find o0 o1 o2 o3 o4) := by
  have H := hMp_find o0 o1 o2 o3 o4 cfFU
  have hm : (853 : Int) ≤ (cfFU : Nat) := by decide
  have r_o0 : Fr (fr_M [0, 1, 2] [3, 6] [4, 5]) o0 o0 := fr_rfl
  have r_o1 : Fr (fr_M [] [] []) o1 o1 := fr_rfl
  have r_o2 : Fr (fr_M [] [] []) o2 o2 := fr_rfl
  have r_o3 : Fr (fr_M [0, 1] [2, 3, 4] []) o3 o3 := fr_rfl
  have r_o4 : Fr (fr_M [] [] []) o4 o4 := fr_rfl
  unfold fMp_find fMp_find_0
  have g_o0_0 : (0 : Int) ≤ (o0.1 0).toInt ∧ (o0.1 0).toInt ≤ 418 := k_o0.1 0
  have g_o0_1 : ((-2147483648) : Int) ≤ (o0.1 1).toInt ∧ (o0.1 1).toInt ≤ 2147483647 := k_o0.1 1
  have g_o0_2 : ((-2147483648) : Int) ≤ (o0.1 2).toInt ∧ (o0.1 2).toInt ≤ 2147483647 := k_o0.1 2
  have g_o0_3 : (0 : Int) ≤ (o0.1 3).toInt ∧ (o0.1 3).toInt ≤ 0 := k_o0.1 3
  have g_o0_4 : (0 : Int) ≤ (o0.1 4).toInt ∧ (o0.1 4).toInt ≤ 0 := k_o0.1 4
  have g_o0_7 : (0 : Int) ≤ (o0.1 7).toInt ∧ (o0.1 7).toInt ≤ 0 := k_o0.1 7
  have g_o1_0 : (0 : Int) ≤ (o1.1 0).toInt ∧ (o1.1 0).toInt ≤ 8 := k_o1.1 0
  have g_o1_1 : (0 : Int) ≤ (o1.1 1).toInt ∧ (o1.1 1).toInt ≤ 6 := k_o1.1 1
  have g_o1_2 : (0 : Int) ≤ (o1.1 2).toInt ∧ (o1.1 2).toInt ≤ 200 := k_o1.1 2
  have g_o1_3 : (0 : Int) ≤ (o1.1 3).toInt ∧ (o1.1 3).toInt ≤ 1 := k_o1.1 3
  have g_o1_4 : (0 : Int) ≤ (o1.1 4).toInt ∧ (o1.1 4).toInt ≤ 0 := k_o1.1 4
  have g_o1_7 : (0 : Int) ≤ (o1.1 7).toInt ∧ (o1.1 7).toInt ≤ 0 := k_o1.1 7
  have g_o2_1 : (0 : Int) ≤ (o2.1 1).toInt ∧ (o2.1 1).toInt ≤ 0 := k_o2.1 1
  have g_o2_2 : (0 : Int) ≤ (o2.1 2).toInt ∧ (o2.1 2).toInt ≤ 0 := k_o2.1 2
  have g_o2_3 : (0 : Int) ≤ (o2.1 3).toInt ∧ (o2.1 3).toInt ≤ 62909 := k_o2.1 3
  have g_o2_4 : (1024 : Int) ≤ (o2.1 4).toInt ∧ (o2.1 4).toInt ≤ 131072 := k_o2.1 4
  have g_o2_7 : (0 : Int) ≤ (o2.1 7).toInt ∧ (o2.1 7).toInt ≤ 0 := k_o2.1 7
  have g_o3_0 : (0 : Int) ≤ (o3.1 0).toInt ∧ (o3.1 0).toInt ≤ 5 := k_o3.1 0
  have g_o3_1 : ((-2147483648) : Int) ≤ (o3.1 1).toInt ∧ (o3.1 1).toInt ≤ 2147483647 := k_o3.1 1
  have g_o3_2 : (0 : Int) ≤ (o3.1 2).toInt ∧ (o3.1 2).toInt ≤ 0 := k_o3.1 2
  have g_o3_3 : (0 : Int) ≤ (o3.1 3).toInt ∧ (o3.1 3).toInt ≤ 0 := k_o3.1 3
  have g_o3_4 : (0 : Int) ≤ (o3.1 4).toInt ∧ (o3.1 4).toInt ≤ 0 := k_o3.1 4
  have g_o3_7 : (0 : Int) ≤ (o3.1 7).toInt ∧ (o3.1 7).toInt ≤ 0 := k_o3.1 7
  have g_o4_1 : ((-1) : Int) ≤ (o4.1 1).toInt ∧ (o4.1 1).toInt ≤ 11 := k_o4.1 1
  have g_o4_2 : (0 : Int) ≤ (o4.1 2).toInt ∧ (o4.1 2).toInt ≤ 0 := k_o4.1 2
  have g_o4_3 : (0 : Int) ≤ (o4.1 3).toInt ∧ (o4.1 3).toInt ≤ 0 := k_o4.1 3
  have g_o4_4 : (0 : Int) ≤ (o4.1 4).toInt ∧ (o4.1 4).toInt ≤ 0 := k_o4.1 4
  have g_o4_7 : (0 : Int) ≤ (o4.1 7).toInt ∧ (o4.1 7).toInt ≤ 576 := k_o4.1 7
  refine tt_b (sMp_findMatches _ _ _ _ _ k_o0 k_o1 k_o2 k_o3 k_o4 f_o2_0 f_o4_0 x_0 (show (o2.1 0).toInt = 3 by omega) (show (o2.1 3).toInt ≤ (o2.1 4).toInt by omega) x_1) (fun q1 hq1 => ?_)
  obtain ⟨k_q1_1, n_q1_1, k_q1_2, n_q1_2, zq1_0, -⟩ := hq1
  have r_q1_1 := fr_tr r_o0 n_q1_1 rfl rfl rfl
  have e_q1_1_0 : (q1.1.1 0).toInt = (o0.1 0).toInt := congrArg Int32.toInt (n_q1_1.1 0 rfl)
  have g_q1_1_0 : (0 : Int) ≤ (q1.1.1 0).toInt ∧ (q1.1.1 0).toInt ≤ 418 := k_q1_1.1 0
  have e_q1_1_1 : (q1.1.1 1).toInt = (o0.1 1).toInt := congrArg Int32.toInt (n_q1_1.1 1 rfl)
  have g_q1_1_1 : ((-2147483648) : Int) ≤ (q1.1.1 1).toInt ∧ (q1.1.1 1).toInt ≤ 2147483647 := k_q1_1.1 1
  have e_q1_1_2 : (q1.1.1 2).toInt = (o0.1 2).toInt := congrArg Int32.toInt (n_q1_1.1 2 rfl)
  have g_q1_1_2 : ((-2147483648) : Int) ≤ (q1.1.1 2).toInt ∧ (q1.1.1 2).toInt ≤ 2147483647 := k_q1_1.1 2
  have e_q1_1_3 : (q1.1.1 3).toInt = (o0.1 3).toInt := congrArg Int32.toInt (n_q1_1.1 3 rfl)
  have g_q1_1_3 : (0 : Int) ≤ (q1.1.1 3).toInt ∧ (q1.1.1 3).toInt ≤ 0 := k_q1_1.1 3
  have e_q1_1_4 : (q1.1.1 4).toInt = (o0.1 4).toInt := congrArg Int32.toInt (n_q1_1.1 4 rfl)
  have g_q1_1_4 : (0 : Int) ≤ (q1.1.1 4).toInt ∧ (q1.1.1 4).toInt ≤ 0 := k_q1_1.1 4
  have e_q1_1_7 : (q1.1.1 7).toInt = (o0.1 7).toInt := congrArg Int32.toInt (n_q1_1.1 7 rfl)
  have g_q1_1_7 : (0 : Int) ≤ (q1.1.1 7).toInt ∧ (q1.1.1 7).toInt ≤ 0 := k_q1_1.1 7
  have r_q1_2 := fr_tr r_o3 n_q1_2 rfl rfl rfl
  have g_q1_2_0 : (0 : Int) ≤ (q1.2.1 0).toInt ∧ (q1.2.1 0).toInt ≤ 5 := k_q1_2.1 0
  have g_q1_2_1 : ((-2147483648) : Int) ≤ (q1.2.1 1).toInt ∧ (q1.2.1 1).toInt ≤ 2147483647 := k_q1_2.1 1
  have e_q1_2_2 : (q1.2.1 2).toInt = (o3.1 2).toInt := congrArg Int32.toInt (n_q1_2.1 2 rfl)
  have g_q1_2_2 : (0 : Int) ≤ (q1.2.1 2).toInt ∧ (q1.2.1 2).toInt ≤ 0 := k_q1_2.1 2
  have e_q1_2_3 : (q1.2.1 3).toInt = (o3.1 3).toInt := congrArg Int32.toInt (n_q1_2.1 3 rfl)
  have g_q1_2_3 : (0 : Int) ≤ (q1.2.1 3).toInt ∧ (q1.2.1 3).toInt ≤ 0 := k_q1_2.1 3
  have e_q1_2_4 : (q1.2.1 4).toInt = (o3.1 4).toInt := congrArg Int32.toInt (n_q1_2.1 4 rfl)
  have g_q1_2_4 : (0 : Int) ≤ (q1.2.1 4).toInt ∧ (q1.2.1 4).toInt ≤ 0 := k_q1_2.1 4
  have e_q1_2_7 : (q1.2.1 7).toInt = (o3.1 7).toInt := congrArg Int32.toInt (n_q1_2.1 7 rfl)
  have g_q1_2_7 : (0 : Int) ≤ (q1.2.1 7).toInt ∧ (q1.2.1 7).toInt ≤ 0 := k_q1_2.1 7
  refine tt_n (ix_ok (show (0 : Int) ≤ (0 : Int32).toInt ∧ (0 : Int32).toInt ≤ 0 by decide) (by decide) (by decide)) ?_
  refine tt_ko ?_
  have k2 := ok_yp (k := 4) (i := (0 : Int32).toNatClampNeg) (v := 0) k_q1_1
  have r3 := fr_yp (k := 4) (i := (0 : Int32).toNatClampNeg) (v := 0) r_q1_1 rfl
  refine tt_n (ix_ok (show (1 : Int) ≤ (1 : Int32).toInt ∧ (1 : Int32).toInt ≤ 1 by decide) (by decide) (by decide)) ?_
  refine tt_ko ?_
  have k4 := ok_yp (k := 4) (i := (1 : Int32).toNatClampNeg) (v := 0) k2
  have r5 := fr_yp (k := 4) (i := (1 : Int32).toNatClampNeg) (v := 0) r3 rfl
  refine tt_ko ?_
  have k6 := ok_fp (k := 2) (v := 0) k4 (iv_w (a := (-2147483648)) (b := 2147483647) (by decide) (by decide) (show (0 : Int) ≤ (0 : Int32).toInt ∧ (0 : Int32).toInt ≤ 0 by decide))
  have r7 := fr_fp (k := 2) (v := 0) r5 rfl
  have p8 : Mam (((o1.1 0).toInt + 1) + (o1.1 2).toInt) (vp_updL (vp_updL (q1.1.2.2 4) ((0 : Int32).toNatClampNeg) 0) ((1 : Int32).toNatClampNeg) 0) (o4.2.1 5) := by exact Mam_i (show Mal _ _ _ by assumption) (by decide) (by decide)
  have p9 : Wtz 0 (q1.1.2.1 6) := by exact Wtz_0
  exact H.1 _ _ _ _ _ _ k6 r7 k_o1 r_o1 k_o2 r_o2 k_q1_2 r_q1_2 k_o4 r_o4 (iv_w (a := 0) (b := 418) (by decide) (by decide) (show (0 : Int) ≤ (0 : Int32).toInt ∧ (0 : Int32).toInt ≤ 0 by decide)) (show (0 : Int) ≤ (0 : Int32).toInt ∧ (0 : Int32).toInt ≤ 0 by decide) f_o2_0 f_o4_0 p8 p9 (show 0 ≤ 2 * (((o1.1 0).toInt + 1) + (o1.1 2).toInt) by omega) (show 14 + (418 - 0) * 2 < ((cfFU : Nat) : Int) by omega)
def QJString_coder__S17  (r : (Int32)) : Prop := ((0 : Int) ≤ r.toInt ∧ r.toInt ≤ 0) ∧ True
set_option maxHeartbeats 4000000 in
set_option maxRecDepth 100000 in
theorem sJString_coder__S17   : tt (fJString_coder__S17 ) (QJString_coder__S17 ) := by
  unfold fJString_coder__S17 fJString_coder__S17_0
  try unfold fJString_coder__S17_14
  refine tt_w (iv_nb (show (0 : Int) ≤ (0 : Int32).toInt ∧ (0 : Int32).toInt ≤ 0 by decide) (by decide) (by decide)) ?_
  exact tt_some ⟨(show (0 : Int) ≤ (0 : Int32).toInt ∧ (0 : Int32).toInt ≤ 0 by decide), trivial⟩
def QJString_length__S17  (r : (Int32)) : Prop := ((5 : Int) ≤ r.toInt ∧ r.toInt ≤ 5) ∧ True
set_option maxHeartbeats 4000000 in
set_option maxRecDepth 100000 in
theorem sJString_length__S17   : tt (fJString_length__S17 ) (QJString_length__S17 ) := by
  unfold fJString_length__S17 fJString_length__S17_0
  refine tt_b (sJString_coder__S17  ) (fun q1 hq1 => ?_)
  obtain ⟨i_q1, -⟩ := hq1
  refine tt_kv (P := fun z => (5 : Int) ≤ z.toInt ∧ z.toInt ≤ 5) (iv_shr (p := 0) (q := 0) (show (5 : Int) ≤ (5 : Int32).toInt ∧ (5 : Int32).toInt ≤ 5 by decide) i_q1 (by decide) (by decide) (by decide) (by decide)) (fun x2 i3 => ?_)
  exact tt_some ⟨i3, trivial⟩
def QAS_inflateIfNeededFor_S17 (o0 : cf_O) (r : (Unit)) : Prop := True
set_option maxHeartbeats 4000000 in
set_option maxRecDepth 100000 in
theorem sAS_inflateIfNeededFor_S17 (o0 : cf_O) (k_o0 : okO I_SB o0) (f_o0_3 : (8 : Int) ≤ (o0.1 3).toInt ∧ (o0.1 3).toInt ≤ 90000) : tt (fAS_inflateIfNeededFor_S17 o0) (QAS_inflateIfNeededFor_S17 o0) := by
  have r_o0 : Fr (fr_M [] [] []) o0 o0 := fr_rfl
  unfold fAS_inflateIfNeededFor_S17 fAS_inflateIfNeededFor_S17_0
  refine tt_b (sJString_coder__S17  ) (fun q1 hq1 => ?_)
  obtain ⟨i_q1, -⟩ := hq1
  refine tt_if (fun c2 => ?_) (fun c2 => ?_)
  · try unfold fAS_inflateIfNeededFor_S17_21
    exact tt_some trivial
  · exact (dd_ne c2 (k_o0.1 1) i_q1).elim
def QJString_getBytes_ABIB_S17_SB0 (v2 : Int32) (v3 : Int32) (o0 : cf_O) (r : (cf_O)) : Prop := (okO I_SB r) ∧ (Fr (fr_M [] [0] []) o0 r) ∧ True
set_option maxHeartbeats 4000000 in
set_option maxRecDepth 100000 in
theorem sJString_getBytes_ABIB_S17_SB0 (v2 : Int32) (v3 : Int32) (o0 : cf_O) (k_o0 : okO I_SB o0) (i_v2 : (8 : Int) ≤ v2.toInt ∧ v2.toInt ≤ 90000) (i_v3 : (0 : Int) ≤ v3.toInt ∧ v3.toInt ≤ 0) (f_o0_3 : (8 : Int) ≤ (o0.1 3).toInt ∧ (o0.1 3).toInt ≤ 90000) (x_0 : 0 ≤ v2.toInt) (x_1 : v2.toInt + 5 ≤ (o0.1 0).toInt) : tt (fJString_getBytes_ABIB_S17_SB0 v2 v3 o0) (QJString_getBytes_ABIB_S17_SB0 v2 v3 o0) := by
  have r_o0 : Fr (fr_M [] [0] []) o0 o0 := fr_rfl
  unfold fJString_getBytes_ABIB_S17_SB0 fJString_getBytes_ABIB_S17_SB0_0
  have g_o0_0 : (16 : Int) ≤ (o0.1 0).toInt ∧ (o0.1 0).toInt ≤ 400000 := k_o0.1 0
  have g_o0_1 : (0 : Int) ≤ (o0.1 1).toInt ∧ (o0.1 1).toInt ≤ 0 := k_o0.1 1
  refine tt_b (sJString_coder__S17  ) (fun q1 hq1 => ?_)
  obtain ⟨i_q1, -⟩ := hq1
  refine tt_if (fun c2 => ?_) (fun c2 => ?_)
  · have wc2 : q1.toInt = v3.toInt := c_eq c2
    refine tt_kv (P := fun z => ((8 : Int) ≤ z.toInt ∧ z.toInt ≤ 90000) ∧ z.toInt = v2.toInt) ⟨iv_shl (p := 0) (q := 0) i_v2 i_v3 (by decide) (by decide) (by decide) (by decide) (by decide), sh0l i_v3⟩ (fun x3 qi4 => ?_)
    obtain ⟨i4, ei4⟩ := qi4
    refine tt_n (ac_ok (x := x3) (l := (o0.1 0)) (by omega) (by omega)) ?_
    refine tt_ko ?_
    have k5 := ok_cb (k := 0) (s := 17) (x := x3) (n := 5) k_o0 ⟨by decide, by decide⟩
    have r6 := fr_cb (k := 0) (s := 17) (x := x3) (n := 5) r_o0 rfl
    exact tt_some ⟨k5, r6, trivial⟩
  · have wc2 : ¬ q1.toInt = v3.toInt := c_ne c2
    exact (dd_ne c2 i_q1 i_v3).elim
def QAS_putStringAt_S17 (v1 : Int32) (o0 : cf_O) (r : (cf_O)) : Prop := (okO I_SB r) ∧ (Fr (fr_M [] [0] []) o0 r) ∧ True
set_option maxHeartbeats 4000000 in
set_option maxRecDepth 100000 in
theorem sAS_putStringAt_S17 (v1 : Int32) (o0 : cf_O) (k_o0 : okO I_SB o0) (i_v1 : (8 : Int) ≤ v1.toInt ∧ v1.toInt ≤ 90000) (f_o0_3 : (8 : Int) ≤ (o0.1 3).toInt ∧ (o0.1 3).toInt ≤ 90000) (x_0 : 0 ≤ v1.toInt) (x_1 : v1.toInt + 5 ≤ (o0.1 0).toInt) : tt (fAS_putStringAt_S17 v1 o0) (QAS_putStringAt_S17 v1 o0) := by
  have r_o0 : Fr (fr_M [] [0] []) o0 o0 := fr_rfl
  unfold fAS_putStringAt_S17 fAS_putStringAt_S17_0
  have g_o0_0 : (16 : Int) ≤ (o0.1 0).toInt ∧ (o0.1 0).toInt ≤ 400000 := k_o0.1 0
  have g_o0_1 : (0 : Int) ≤ (o0.1 1).toInt ∧ (o0.1 1).toInt ≤ 0 := k_o0.1 1
  refine tt_b (sAS_inflateIfNeededFor_S17 _ k_o0 f_o0_3) (fun q1 hq1 => ?_)
  refine tt_b (sJString_getBytes_ABIB_S17_SB0 _ _ _ k_o0 i_v1 (k_o0.1 1) f_o0_3 (show 0 ≤ v1.toInt by omega) (show v1.toInt + 5 ≤ (o0.1 0).toInt by omega)) (fun q2 hq2 => ?_)
  obtain ⟨k_q2, n_q2, -⟩ := hq2
  have r_q2 := fr_tr r_o0 n_q2 rfl rfl rfl
  have f_q2_3 : (8 : Int) ≤ (q2.1 3).toInt ∧ (q2.1 3).toInt ≤ 90000 := by rw [n_q2.1 3 rfl]; exact f_o0_3
  have e_q2_0 : (q2.1 0).toInt = (o0.1 0).toInt := congrArg Int32.toInt (n_q2.1 0 rfl)
  have g_q2_0 : (16 : Int) ≤ (q2.1 0).toInt ∧ (q2.1 0).toInt ≤ 400000 := k_q2.1 0
  have e_q2_1 : (q2.1 1).toInt = (o0.1 1).toInt := congrArg Int32.toInt (n_q2.1 1 rfl)
  have g_q2_1 : (0 : Int) ≤ (q2.1 1).toInt ∧ (q2.1 1).toInt ≤ 0 := k_q2.1 1
  have e_q2_3 : (q2.1 3).toInt = (o0.1 3).toInt := congrArg Int32.toInt (n_q2.1 3 rfl)
  exact tt_some ⟨k_q2, r_q2, trivial⟩
def QAS_appendS_S17 (o0 : cf_O) (r : (cf_O)) : Prop := (okO I_SB r) ∧ (Fr (fr_M [0, 3] [0] []) o0 r) ∧ ((13 : Int) ≤ (r.1 3).toInt ∧ (r.1 3).toInt ≤ 90000) ∧ ((r.1 3).toInt = (o0.1 3).toInt + 5) ∧ ((o0.1 3).toInt ≤ (r.1 3).toInt) ∧ ((r.1 3).toInt ≤ (r.1 0).toInt) ∧ True
set_option maxHeartbeats 4000000 in
set_option maxRecDepth 100000 in
theorem sAS_appendS_S17 (o0 : cf_O) (k_o0 : okO I_SB o0) (f_o0_3 : (8 : Int) ≤ (o0.1 3).toInt ∧ (o0.1 3).toInt ≤ 90000) (x_0 : (o0.1 3).toInt ≤ (o0.1 0).toInt) (x_1 : (o0.1 3).toInt ≤ 89995) : tt (fAS_appendS_S17 o0) (QAS_appendS_S17 o0) := by
  have r_o0 : Fr (fr_M [0, 3] [0] []) o0 o0 := fr_rfl
  unfold fAS_appendS_S17 fAS_appendS_S17_0
  have g_o0_0 : (16 : Int) ≤ (o0.1 0).toInt ∧ (o0.1 0).toInt ≤ 400000 := k_o0.1 0
  have g_o0_1 : (0 : Int) ≤ (o0.1 1).toInt ∧ (o0.1 1).toInt ≤ 0 := k_o0.1 1
  refine tt_b (sJString_length__S17  ) (fun q1 hq1 => ?_)
  obtain ⟨i_q1, -⟩ := hq1
  try unfold fAS_appendS_S17_13
  refine tt_kv (P := fun z => ((13 : Int) ≤ z.toInt ∧ z.toInt ≤ 90005) ∧ z.toInt = (o0.1 3).toInt + q1.toInt) ⟨iv_add f_o0_3 i_q1 (by decide) (by decide) (by decide) (by decide), iq_add f_o0_3 i_q1 (by decide) (by decide)⟩ (fun x2 qi3 => ?_)
  obtain ⟨i3, ei3⟩ := qi3
  refine tt_b (sAS_ensureCapacityInternal _ _ k_o0 (iv_w (a := 0) (b := 90010) (by decide) (by decide) i3)) (fun q4 hq4 => ?_)
  obtain ⟨k_q4, n_q4, zq4_0, zq4_1, zq4_2, -⟩ := hq4
  have r_q4 := fr_tr r_o0 n_q4 rfl rfl rfl
  have f_q4_3 : (8 : Int) ≤ (q4.1 3).toInt ∧ (q4.1 3).toInt ≤ 90000 := by rw [n_q4.1 3 rfl]; exact f_o0_3
  have g_q4_0 : (16 : Int) ≤ (q4.1 0).toInt ∧ (q4.1 0).toInt ≤ 400000 := k_q4.1 0
  have e_q4_1 : (q4.1 1).toInt = (o0.1 1).toInt := congrArg Int32.toInt (n_q4.1 1 rfl)
  have g_q4_1 : (0 : Int) ≤ (q4.1 1).toInt ∧ (q4.1 1).toInt ≤ 0 := k_q4.1 1
  have e_q4_3 : (q4.1 3).toInt = (o0.1 3).toInt := congrArg Int32.toInt (n_q4.1 3 rfl)
  have zq4_0 : x2.toInt ≤ (q4.1 0).toInt := zq4_0
  have zq4_1 : (o0.1 0).toInt ≤ (q4.1 0).toInt := zq4_1
  have zq4_2 : (q4.1 0).toInt ≤ (o0.1 0).toInt ∨ (q4.1 0).toInt ≤ 180022 := zq4_2
  try unfold fAS_appendS_S17_24
  refine tt_b (sAS_putStringAt_S17 _ _ k_q4 f_q4_3 f_q4_3 (show 0 ≤ (q4.1 3).toInt by omega) (show (q4.1 3).toInt + 5 ≤ (q4.1 0).toInt by omega)) (fun q5 hq5 => ?_)
  obtain ⟨k_q5, n_q5, -⟩ := hq5
  have r_q5 := fr_tr r_q4 n_q5 rfl rfl rfl
  have f_q5_3 : (8 : Int) ≤ (q5.1 3).toInt ∧ (q5.1 3).toInt ≤ 90000 := by rw [n_q5.1 3 rfl]; exact f_q4_3
  have e_q5_0 : (q5.1 0).toInt = (q4.1 0).toInt := congrArg Int32.toInt (n_q5.1 0 rfl)
  have g_q5_0 : (16 : Int) ≤ (q5.1 0).toInt ∧ (q5.1 0).toInt ≤ 400000 := k_q5.1 0
  have e_q5_1 : (q5.1 1).toInt = (q4.1 1).toInt := congrArg Int32.toInt (n_q5.1 1 rfl)
  have g_q5_1 : (0 : Int) ≤ (q5.1 1).toInt ∧ (q5.1 1).toInt ≤ 0 := k_q5.1 1
  have e_q5_3 : (q5.1 3).toInt = (q4.1 3).toInt := congrArg Int32.toInt (n_q5.1 3 rfl)
  try unfold fAS_appendS_S17_33
  refine tt_kv (P := fun z => ((13 : Int) ≤ z.toInt ∧ z.toInt ≤ 90005) ∧ z.toInt = (q5.1 3).toInt + q1.toInt) ⟨iv_add f_q5_3 i_q1 (by decide) (by decide) (by decide) (by decide), iq_add f_q5_3 i_q1 (by decide) (by decide)⟩ (fun x6 qi7 => ?_)
  obtain ⟨i7, ei7⟩ := qi7
  refine tt_ko ?_
  have k8 := ok_fp (k := 3) (v := x6) k_q5 (show (0 : Int) ≤ _ ∧ _ ≤ (90000 : Int) by omega)
  have i9 : (13 : Int) ≤ x6.toInt ∧ x6.toInt ≤ 90000 := (by omega)
  have r10 := fr_fp (k := 3) (v := x6) r_q5 rfl
  exact tt_some ⟨k8, r10, i9, (show x6.toInt = (o0.1 3).toInt + 5 by omega), (show (o0.1 3).toInt ≤ x6.toInt by omega), (show x6.toInt ≤ (q5.1 0).toInt by omega), trivial⟩
def QSB_appendS_S17 (o0 : cf_O) (r : (cf_O)) : Prop := (okO I_SB r) ∧ (Fr (fr_M [0, 3] [0] []) o0 r) ∧ ((13 : Int) ≤ (r.1 3).toInt ∧ (r.1 3).toInt ≤ 90000) ∧ ((r.1 3).toInt = (o0.1 3).toInt + 5) ∧ ((o0.1 3).toInt ≤ (r.1 3).toInt) ∧ ((r.1 3).toInt ≤ (r.1 0).toInt) ∧ True
set_option maxHeartbeats 4000000 in
set_option maxRecDepth 100000 in
theorem sSB_appendS_S17 (o0 : cf_O) (k_o0 : okO I_SB o0) (f_o0_3 : (8 : Int) ≤ (o0.1 3).toInt ∧ (o0.1 3).toInt ≤ 90000) (x_0 : (o0.1 3).toInt ≤ (o0.1 0).toInt) (x_1 : (o0.1 3).toInt ≤ 89995) : tt (fSB_appendS_S17 o0) (QSB_appendS_S17 o0) := by
  have r_o0 : Fr (fr_M [0, 3] [0] []) o0 o0 := fr_rfl
  unfold fSB_appendS_S17 fSB_appendS_S17_0
  have g_o0_0 : (16 : Int) ≤ (o0.1 0).toInt ∧ (o0.1 0).toInt ≤ 400000 := k_o0.1 0
  have g_o0_1 : (0 : Int) ≤ (o0.1 1).toInt ∧ (o0.1 1).toInt ≤ 0 := k_o0.1 1
  refine tt_b (sAS_appendS_S17 _ k_o0 f_o0_3 (show (o0.1 3).toInt ≤ (o0.1 0).toInt by omega) (show (o0.1 3).toInt ≤ 89995 by omega)) (fun q1 hq1 => ?_)
  obtain ⟨k_q1, n_q1, f_q1_3, zq1_0, zq1_1, zq1_2, -⟩ := hq1
  have r_q1 := fr_tr r_o0 n_q1 rfl rfl rfl
  have g_q1_0 : (16 : Int) ≤ (q1.1 0).toInt ∧ (q1.1 0).toInt ≤ 400000 := k_q1.1 0
  have e_q1_1 : (q1.1 1).toInt = (o0.1 1).toInt := congrArg Int32.toInt (n_q1.1 1 rfl)
  have g_q1_1 : (0 : Int) ≤ (q1.1 1).toInt ∧ (q1.1 1).toInt ≤ 0 := k_q1.1 1
  have zq1_0 : (q1.1 3).toInt = (o0.1 3).toInt + 5 := zq1_0
  have zq1_1 : (o0.1 3).toInt ≤ (q1.1 3).toInt := zq1_1
  have zq1_2 : (q1.1 3).toInt ≤ (q1.1 0).toInt := zq1_2
  try unfold fSB_appendS_S17_5
  exact tt_some ⟨k_q1, r_q1, f_q1_3, (show (q1.1 3).toInt = (o0.1 3).toInt + 5 by omega), (show (o0.1 3).toInt ≤ (q1.1 3).toInt by omega), (show (q1.1 3).toInt ≤ (q1.1 0).toInt by omega), trivial⟩
def QMp_writeTo (o0 : cf_O) (o1 : cf_O) (o2 : cf_O) (o3 : cf_O) (o4 : cf_O) (o5 : cf_O) (r : (cf_O × cf_O)) : Prop := (okO I_Sc r.1) ∧ (Fr (fr_M [0] [] []) o1 r.1) ∧ ((1 : Int) ≤ (r.1.1 0).toInt ∧ (r.1.1 0).toInt ≤ 1) ∧ (okO I_SB r.2) ∧ (Fr (fr_M [0, 2, 3] [0] []) o5 r.2) ∧ ((13 : Int) ≤ (r.2.1 3).toInt ∧ (r.2.1 3).toInt ≤ 90000) ∧ ((r.2.1 3).toInt ≤ (r.2.1 0).toInt) ∧ True
def HMp_writeTo (yo0 : cf_O) (yo1 : cf_O) (yo2 : cf_O) (yo3 : cf_O) (yo4 : cf_O) (yo5 : cf_O) (n : Nat) : Prop := (∀ (v5 : Int32) (o0 : cf_O) (o1 : cf_O) (o2 : cf_O) (o3 : cf_O) (o4 : cf_O) (o5 : cf_O), (okO I_Mp o0) → (Fr (fr_M [] [] []) yo0 o0) → (okO I_Sc o1) → (Fr (fr_M [0] [] []) yo1 o1) → (okO I_Nl o2) → (Fr (fr_M [] [] []) yo2 o2) → (okO I_Gr o3) → (Fr (fr_M [] [] []) yo3 o3) → (okO I_Li o4) → (Fr (fr_M [] [] []) yo4 o4) → (okO I_SB o5) → (Fr (fr_M [0, 2, 3] [0] []) yo5 o5) → ((0 : Int) ≤ v5.toInt ∧ v5.toInt ≤ 418) → ((8 : Int) ≤ (o5.1 3).toInt ∧ (o5.1 3).toInt ≤ 90000) → (Tki (o0.1 0).toInt (o0.2.1 3) (o0.2.2 4)) → ((o5.1 3).toInt ≤ (o5.1 0).toInt) → ((o5.1 3).toInt ≤ 143 + 67 * v5.toInt) → (0 ≤ v5.toInt) → (v5.toInt ≤ (o0.1 0).toInt) → 14 + (418 - v5.toInt) * 10 < (n : Int) → tt (gMp_writeTo n 0 v5 0 0 0 o0 o1 o2 o3 o4 o5) (QMp_writeTo yo0 yo1 yo2 yo3 yo4 yo5)) ∧ (∀ (v5 : Int32) (v6 : Int64) (v8 : Int32) (v9 : Int32) (o0 : cf_O) (o1 : cf_O) (o2 : cf_O) (o3 : cf_O) (o4 : cf_O) (o5 : cf_O), (okO I_Mp o0) → (Fr (fr_M [] [] []) yo0 o0) → (okO I_Sc o1) → (Fr (fr_M [0] [] []) yo1 o1) → (okO I_Nl o2) → (Fr (fr_M [] [] []) yo2 o2) → (okO I_Gr o3) → (Fr (fr_M [] [] []) yo3 o3) → (okO I_Li o4) → (Fr (fr_M [] [] []) yo4 o4) → (okO I_SB o5) → (Fr (fr_M [0, 2, 3] [0] []) yo5 o5) → ((0 : Int) ≤ v5.toInt ∧ v5.toInt ≤ 417) → ((0 : Int) ≤ v8.toInt ∧ v8.toInt ≤ 11) → ((0 : Int) ≤ v9.toInt ∧ v9.toInt ≤ 3) → ((1 : Int) ≤ (o0.1 0).toInt ∧ (o0.1 0).toInt ≤ 418) → ((8 : Int) ≤ (o5.1 3).toInt ∧ (o5.1 3).toInt ≤ 90000) → (Tki (o0.1 0).toInt (o0.2.1 3) (o0.2.2 4)) → (Mgd v6) → ((o5.1 3).toInt ≤ (o5.1 0).toInt) → ((o5.1 3).toInt ≤ 157 + 67 * v5.toInt + 13 * v9.toInt) → (0 ≤ v5.toInt) → (v5.toInt < (o0.1 0).toInt) → (0 ≤ v9.toInt) → (v9.toInt ≤ 3) → 14 + (418 - v5.toInt - 1) * 10 + 1 + (3 - v9.toInt) * 2 < (n : Int) → tt (gMp_writeTo n 1 v5 v6 v8 v9 o0 o1 o2 o3 o4 o5) (QMp_writeTo yo0 yo1 yo2 yo3 yo4 yo5)) ∧ (∀ (v5 : Int32) (o0 : cf_O) (o1 : cf_O) (o2 : cf_O) (o3 : cf_O) (o4 : cf_O) (o5 : cf_O), (okO I_Mp o0) → (Fr (fr_M [] [] []) yo0 o0) → (okO I_Sc o1) → (Fr (fr_M [0] [] []) yo1 o1) → (okO I_Nl o2) → (Fr (fr_M [] [] []) yo2 o2) → (okO I_Gr o3) → (Fr (fr_M [] [] []) yo3 o3) → (okO I_Li o4) → (Fr (fr_M [] [] []) yo4 o4) → (okO I_SB o5) → (Fr (fr_M [0, 2, 3] [0] []) yo5 o5) → ((0 : Int) ≤ v5.toInt ∧ v5.toInt ≤ 6) → ((8 : Int) ≤ (o5.1 3).toInt ∧ (o5.1 3).toInt ≤ 90000) → ((o5.1 3).toInt ≤ (o5.1 0).toInt) → ((o5.1 3).toInt ≤ 28149 + 33 * v5.toInt) → 0 + (6 - v5.toInt) * 2 < (n : Int) → tt (gMp_writeTo n 2 v5 0 0 0 o0 o1 o2 o3 o4 o5) (QMp_writeTo yo0 yo1 yo2 yo3 yo4 yo5))
set_option maxHeartbeats 4000000 in
set_option maxRecDepth 100000 in
theorem tMp_writeTo_125 {yo0 : cf_O} {yo1 : cf_O} {yo2 : cf_O} {yo3 : cf_O} {yo4 : cf_O} {yo5 : cf_O} {n : Nat} (H : HMp_writeTo yo0 yo1 yo2 yo3 yo4 yo5 n) (v5 : Int32) (o0 : cf_O) (o1 : cf_O) (o2 : cf_O) (o3 : cf_O) (o4 : cf_O) (o5 : cf_O) (k_o0 : okO I_Mp o0) (r_o0 : Fr (fr_M [] [] []) yo0 o0) (k_o1 : okO I_Sc o1) (r_o1 : Fr (fr_M [0] [] []) yo1 o1) (k_o2 : okO I_Nl o2) (r_o2 : Fr (fr_M [] [] []) yo2 o2) (k_o3 : okO I_Gr o3) (r_o3 : Fr (fr_M [] [] []) yo3 o3) (k_o4 : okO I_Li o4) (r_o4 : Fr (fr_M [] [] []) yo4 o4) (k_o5 : okO I_SB o5) (r_o5 : Fr (fr_M [0, 2, 3] [0] []) yo5 o5) (i_v5 : (0 : Int) ≤ v5.toInt ∧ v5.toInt ≤ 6) (f_o5_3 : (8 : Int) ≤ (o5.1 3).toInt ∧ (o5.1 3).toInt ≤ 90000) (x_0 : (o5.1 3).toInt ≤ (o5.1 0).toInt) (x_1 : (o5.1 3).toInt ≤ 28149 + 33 * v5.toInt) (hm : 0 + (6 - v5.toInt) * 2 ≤ (n : Int)) : tt (fMp_writeTo_125 (gMp_writeTo n) v5 o0 o1 o2 o3 o4 o5) (QMp_writeTo yo0 yo1 yo2 yo3 yo4 yo5) := by
  unfold fMp_writeTo_125
  have g_o0_0 : (0 : Int) ≤ (o0.1 0).toInt ∧ (o0.1 0).toInt ≤ 418 := k_o0.1 0
  have ey_o0_0 : (o0.1 0).toInt = (yo0.1 0).toInt := congrArg Int32.toInt (r_o0.1 0 rfl)
  have g_o0_1 : ((-2147483648) : Int) ≤ (o0.1 1).toInt ∧ (o0.1 1).toInt ≤ 2147483647 := k_o0.1 1
  have ey_o0_1 : (o0.1 1).toInt = (yo0.1 1).toInt := congrArg Int32.toInt (r_o0.1 1 rfl)
  have g_o0_3 : (0 : Int) ≤ (o0.1 3).toInt ∧ (o0.1 3).toInt ≤ 0 := k_o0.1 3
  have ey_o0_3 : (o0.1 3).toInt = (yo0.1 3).toInt := congrArg Int32.toInt (r_o0.1 3 rfl)
  have g_o1_0 : (0 : Int) ≤ (o1.1 0).toInt ∧ (o1.1 0).toInt ≤ 1 := k_o1.1 0
  have g_o1_1 : (0 : Int) ≤ (o1.1 1).toInt ∧ (o1.1 1).toInt ≤ 0 := k_o1.1 1
  have ey_o1_1 : (o1.1 1).toInt = (yo1.1 1).toInt := congrArg Int32.toInt (r_o1.1 1 rfl)
  have g_o1_3 : (0 : Int) ≤ (o1.1 3).toInt ∧ (o1.1 3).toInt ≤ 0 := k_o1.1 3
  have ey_o1_3 : (o1.1 3).toInt = (yo1.1 3).toInt := congrArg Int32.toInt (r_o1.1 3 rfl)
  have g_o2_0 : (0 : Int) ≤ (o2.1 0).toInt ∧ (o2.1 0).toInt ≤ 8 := k_o2.1 0
  have ey_o2_0 : (o2.1 0).toInt = (yo2.1 0).toInt := congrArg Int32.toInt (r_o2.1 0 rfl)
  have g_o2_1 : (0 : Int) ≤ (o2.1 1).toInt ∧ (o2.1 1).toInt ≤ 6 := k_o2.1 1
  have ey_o2_1 : (o2.1 1).toInt = (yo2.1 1).toInt := congrArg Int32.toInt (r_o2.1 1 rfl)
  have g_o2_3 : (0 : Int) ≤ (o2.1 3).toInt ∧ (o2.1 3).toInt ≤ 0 := k_o2.1 3
  have ey_o2_3 : (o2.1 3).toInt = (yo2.1 3).toInt := congrArg Int32.toInt (r_o2.1 3 rfl)
  have g_o3_0 : (0 : Int) ≤ (o3.1 0).toInt ∧ (o3.1 0).toInt ≤ 8 := k_o3.1 0
  have ey_o3_0 : (o3.1 0).toInt = (yo3.1 0).toInt := congrArg Int32.toInt (r_o3.1 0 rfl)
  have g_o3_1 : (0 : Int) ≤ (o3.1 1).toInt ∧ (o3.1 1).toInt ≤ 6 := k_o3.1 1
  have ey_o3_1 : (o3.1 1).toInt = (yo3.1 1).toInt := congrArg Int32.toInt (r_o3.1 1 rfl)
  have g_o3_3 : (0 : Int) ≤ (o3.1 3).toInt ∧ (o3.1 3).toInt ≤ 1 := k_o3.1 3
  have ey_o3_3 : (o3.1 3).toInt = (yo3.1 3).toInt := congrArg Int32.toInt (r_o3.1 3 rfl)
  have g_o4_0 : (0 : Int) ≤ (o4.1 0).toInt ∧ (o4.1 0).toInt ≤ 12 := k_o4.1 0
  have ey_o4_0 : (o4.1 0).toInt = (yo4.1 0).toInt := congrArg Int32.toInt (r_o4.1 0 rfl)
  have g_o4_1 : ((-1) : Int) ≤ (o4.1 1).toInt ∧ (o4.1 1).toInt ≤ 11 := k_o4.1 1
  have ey_o4_1 : (o4.1 1).toInt = (yo4.1 1).toInt := congrArg Int32.toInt (r_o4.1 1 rfl)
  have g_o4_3 : (0 : Int) ≤ (o4.1 3).toInt ∧ (o4.1 3).toInt ≤ 0 := k_o4.1 3
  have ey_o4_3 : (o4.1 3).toInt = (yo4.1 3).toInt := congrArg Int32.toInt (r_o4.1 3 rfl)
  have g_o5_0 : (16 : Int) ≤ (o5.1 0).toInt ∧ (o5.1 0).toInt ≤ 400000 := k_o5.1 0
  have g_o5_1 : (0 : Int) ≤ (o5.1 1).toInt ∧ (o5.1 1).toInt ≤ 0 := k_o5.1 1
  have ey_o5_1 : (o5.1 1).toInt = (yo5.1 1).toInt := congrArg Int32.toInt (r_o5.1 1 rfl)
  refine tt_if (fun c1 => ?_) (fun c1 => ?_)
  · have wc1 : (o3.1 1).toInt ≤ v5.toInt := c_le c1
    refine tt_b (sSc_close _ _ k_o1 k_o5 f_o5_3 (show (o5.1 3).toInt ≤ (o5.1 0).toInt by omega) (show (o5.1 3).toInt ≤ 89995 by omega)) (fun q2 hq2 => ?_)
    obtain ⟨k_q2_1, n_q2_1, f_q2_1_0, k_q2_2, n_q2_2, f_q2_2_3, zq2_0, zq2_1, -⟩ := hq2
    have r_q2_1 := fr_tr r_o1 n_q2_1 rfl rfl rfl
    have e_q2_1_1 : (q2.1.1 1).toInt = (o1.1 1).toInt := congrArg Int32.toInt (n_q2_1.1 1 rfl)
    have g_q2_1_1 : (0 : Int) ≤ (q2.1.1 1).toInt ∧ (q2.1.1 1).toInt ≤ 0 := k_q2_1.1 1
    have e_q2_1_3 : (q2.1.1 3).toInt = (o1.1 3).toInt := congrArg Int32.toInt (n_q2_1.1 3 rfl)
    have g_q2_1_3 : (0 : Int) ≤ (q2.1.1 3).toInt ∧ (q2.1.1 3).toInt ≤ 0 := k_q2_1.1 3
    have r_q2_2 := fr_tr r_o5 n_q2_2 rfl rfl rfl
    have g_q2_2_0 : (16 : Int) ≤ (q2.2.1 0).toInt ∧ (q2.2.1 0).toInt ≤ 400000 := k_q2_2.1 0
    have e_q2_2_1 : (q2.2.1 1).toInt = (o5.1 1).toInt := congrArg Int32.toInt (n_q2_2.1 1 rfl)
    have g_q2_2_1 : (0 : Int) ≤ (q2.2.1 1).toInt ∧ (q2.2.1 1).toInt ≤ 0 := k_q2_2.1 1
    have zq2_0 : (q2.2.1 3).toInt ≤ (o5.1 3).toInt + 5 := zq2_0
    have zq2_1 : (q2.2.1 3).toInt ≤ (q2.2.1 0).toInt := zq2_1
    try unfold fMp_writeTo_159
    exact tt_some ⟨k_q2_1, r_q2_1, f_q2_1_0, k_q2_2, r_q2_2, f_q2_2_3, (show (q2.2.1 3).toInt ≤ (q2.2.1 0).toInt by omega), trivial⟩
  · have wc1 : v5.toInt < (o3.1 1).toInt := c_nle c1
    have i3 : (0 : Int) ≤ v5.toInt ∧ v5.toInt ≤ 5 := nr_nlel c1 i_v5 (k_o3.1 1) (by decide) (by decide)
    have i4 : (1 : Int) ≤ (o3.1 1).toInt ∧ (o3.1 1).toInt ≤ 6 := nr_nler c1 i_v5 (k_o3.1 1) (by decide) (by decide)
    refine tt_n (ix_ok i3 (by decide) (by decide)) ?_
    refine tt_kv (P := fun z => ((0 : Int) ≤ z.toInt ∧ z.toInt ≤ 417) ∧ z = (o3.2.1 7 v5.toNatClampNeg) ∧ z.toInt = (o3.2.1 7 v5.toNatClampNeg).toInt) ⟨(k_o3.2 7 _), rfl, rfl⟩ (fun x5 qi6 => ?_)
    obtain ⟨i6, ax5, ei6⟩ := qi6
    refine tt_b (sSc_writeResult _ _ _ _ _ _ k_o1 k_o2 k_o5 i3 i6 (iv_w (a := 0) (b := 1) (by decide) (by decide) (show (0 : Int) ≤ (0 : Int32).toInt ∧ (0 : Int32).toInt ≤ 0 by decide)) f_o5_3 (show (o5.1 3).toInt ≤ (o5.1 0).toInt by omega) (show (o5.1 3).toInt ≤ 89967 by omega)) (fun q7 hq7 => ?_)
    obtain ⟨k_q7, n_q7, f_q7_3, zq7_0, zq7_1, zq7_2, -⟩ := hq7
    have r_q7 := fr_tr r_o5 n_q7 rfl rfl rfl
    have g_q7_0 : (16 : Int) ≤ (q7.1 0).toInt ∧ (q7.1 0).toInt ≤ 400000 := k_q7.1 0
    have e_q7_1 : (q7.1 1).toInt = (o5.1 1).toInt := congrArg Int32.toInt (n_q7.1 1 rfl)
    have g_q7_1 : (0 : Int) ≤ (q7.1 1).toInt ∧ (q7.1 1).toInt ≤ 0 := k_q7.1 1
    have zq7_0 : (q7.1 3).toInt ≤ (o5.1 3).toInt + 33 := zq7_0
    have zq7_1 : (o5.1 3).toInt ≤ (q7.1 3).toInt := zq7_1
    have zq7_2 : (q7.1 3).toInt ≤ (q7.1 0).toInt := zq7_2
    try unfold fMp_writeTo_149
    refine tt_kv (P := fun z => ((1 : Int) ≤ z.toInt ∧ z.toInt ≤ 6) ∧ z = (v5 + 1) ∧ z.toInt = v5.toInt + 1) ⟨iv_add i3 (show (1 : Int) ≤ (1 : Int32).toInt ∧ (1 : Int32).toInt ≤ 1 by decide) (by decide) (by decide) (by decide) (by decide), rfl, iq_add i3 (show (1 : Int) ≤ (1 : Int32).toInt ∧ (1 : Int32).toInt ≤ 1 by decide) (by decide) (by decide)⟩ (fun x8 qi9 => ?_)
    obtain ⟨i9, ax8, ei9⟩ := qi9
    exact H.2.2 _ _ _ _ _ _ _ k_o0 r_o0 k_o1 r_o1 k_o2 r_o2 k_o3 r_o3 k_o4 r_o4 k_q7 r_q7 (iv_w (a := 0) (b := 6) (by decide) (by decide) i9) f_q7_3 (show (q7.1 3).toInt ≤ (q7.1 0).toInt by omega) (show (q7.1 3).toInt ≤ 28149 + 33 * x8.toInt by omega) (show 0 + (6 - x8.toInt) * 2 < (n : Int) by omega)
set_option maxHeartbeats 4000000 in
set_option maxRecDepth 100000 in
theorem tMp_writeTo_63 {yo0 : cf_O} {yo1 : cf_O} {yo2 : cf_O} {yo3 : cf_O} {yo4 : cf_O} {yo5 : cf_O} {n : Nat} (H : HMp_writeTo yo0 yo1 yo2 yo3 yo4 yo5 n) (v5 : Int32) (v6 : Int64) (v8 : Int32) (v9 : Int32) (o0 : cf_O) (o1 : cf_O) (o2 : cf_O) (o3 : cf_O) (o4 : cf_O) (o5 : cf_O) (k_o0 : okO I_Mp o0) (r_o0 : Fr (fr_M [] [] []) yo0 o0) (k_o1 : okO I_Sc o1) (r_o1 : Fr (fr_M [0] [] []) yo1 o1) (k_o2 : okO I_Nl o2) (r_o2 : Fr (fr_M [] [] []) yo2 o2) (k_o3 : okO I_Gr o3) (r_o3 : Fr (fr_M [] [] []) yo3 o3) (k_o4 : okO I_Li o4) (r_o4 : Fr (fr_M [] [] []) yo4 o4) (k_o5 : okO I_SB o5) (r_o5 : Fr (fr_M [0, 2, 3] [0] []) yo5 o5) (i_v5 : (0 : Int) ≤ v5.toInt ∧ v5.toInt ≤ 417) (i_v8 : (0 : Int) ≤ v8.toInt ∧ v8.toInt ≤ 11) (i_v9 : (0 : Int) ≤ v9.toInt ∧ v9.toInt ≤ 3) (f_o0_0 : (1 : Int) ≤ (o0.1 0).toInt ∧ (o0.1 0).toInt ≤ 418) (f_o5_3 : (8 : Int) ≤ (o5.1 3).toInt ∧ (o5.1 3).toInt ≤ 90000) (x_0 : Tki (o0.1 0).toInt (o0.2.1 3) (o0.2.2 4)) (x_1 : Mgd v6) (x_2 : (o5.1 3).toInt ≤ (o5.1 0).toInt) (x_3 : (o5.1 3).toInt ≤ 157 + 67 * v5.toInt + 13 * v9.toInt) (x_4 : 0 ≤ v5.toInt) (x_5 : v5.toInt < (o0.1 0).toInt) (x_6 : 0 ≤ v9.toInt) (x_7 : v9.toInt ≤ 3) (hm : 14 + (418 - v5.toInt - 1) * 10 + 1 + (3 - v9.toInt) * 2 ≤ (n : Int)) : tt (fMp_writeTo_63 (gMp_writeTo n) v5 v6 v8 v9 o0 o1 o2 o3 o4 o5) (QMp_writeTo yo0 yo1 yo2 yo3 yo4 yo5) := by
  unfold fMp_writeTo_63
  have ey_o0_0 : (o0.1 0).toInt = (yo0.1 0).toInt := congrArg Int32.toInt (r_o0.1 0 rfl)
  have g_o0_1 : ((-2147483648) : Int) ≤ (o0.1 1).toInt ∧ (o0.1 1).toInt ≤ 2147483647 := k_o0.1 1
  have ey_o0_1 : (o0.1 1).toInt = (yo0.1 1).toInt := congrArg Int32.toInt (r_o0.1 1 rfl)
  have g_o0_3 : (0 : Int) ≤ (o0.1 3).toInt ∧ (o0.1 3).toInt ≤ 0 := k_o0.1 3
  have ey_o0_3 : (o0.1 3).toInt = (yo0.1 3).toInt := congrArg Int32.toInt (r_o0.1 3 rfl)
  have g_o1_0 : (0 : Int) ≤ (o1.1 0).toInt ∧ (o1.1 0).toInt ≤ 1 := k_o1.1 0
  have g_o1_1 : (0 : Int) ≤ (o1.1 1).toInt ∧ (o1.1 1).toInt ≤ 0 := k_o1.1 1
  have ey_o1_1 : (o1.1 1).toInt = (yo1.1 1).toInt := congrArg Int32.toInt (r_o1.1 1 rfl)
  have g_o1_3 : (0 : Int) ≤ (o1.1 3).toInt ∧ (o1.1 3).toInt ≤ 0 := k_o1.1 3
  have ey_o1_3 : (o1.1 3).toInt = (yo1.1 3).toInt := congrArg Int32.toInt (r_o1.1 3 rfl)
  have g_o2_0 : (0 : Int) ≤ (o2.1 0).toInt ∧ (o2.1 0).toInt ≤ 8 := k_o2.1 0
  have ey_o2_0 : (o2.1 0).toInt = (yo2.1 0).toInt := congrArg Int32.toInt (r_o2.1 0 rfl)
  have g_o2_1 : (0 : Int) ≤ (o2.1 1).toInt ∧ (o2.1 1).toInt ≤ 6 := k_o2.1 1
  have ey_o2_1 : (o2.1 1).toInt = (yo2.1 1).toInt := congrArg Int32.toInt (r_o2.1 1 rfl)
  have g_o2_3 : (0 : Int) ≤ (o2.1 3).toInt ∧ (o2.1 3).toInt ≤ 0 := k_o2.1 3
  have ey_o2_3 : (o2.1 3).toInt = (yo2.1 3).toInt := congrArg Int32.toInt (r_o2.1 3 rfl)
  have g_o3_0 : (0 : Int) ≤ (o3.1 0).toInt ∧ (o3.1 0).toInt ≤ 8 := k_o3.1 0
  have ey_o3_0 : (o3.1 0).toInt = (yo3.1 0).toInt := congrArg Int32.toInt (r_o3.1 0 rfl)
  have g_o3_1 : (0 : Int) ≤ (o3.1 1).toInt ∧ (o3.1 1).toInt ≤ 6 := k_o3.1 1
  have ey_o3_1 : (o3.1 1).toInt = (yo3.1 1).toInt := congrArg Int32.toInt (r_o3.1 1 rfl)
  have g_o3_3 : (0 : Int) ≤ (o3.1 3).toInt ∧ (o3.1 3).toInt ≤ 1 := k_o3.1 3
  have ey_o3_3 : (o3.1 3).toInt = (yo3.1 3).toInt := congrArg Int32.toInt (r_o3.1 3 rfl)
  have g_o4_0 : (0 : Int) ≤ (o4.1 0).toInt ∧ (o4.1 0).toInt ≤ 12 := k_o4.1 0
  have ey_o4_0 : (o4.1 0).toInt = (yo4.1 0).toInt := congrArg Int32.toInt (r_o4.1 0 rfl)
  have g_o4_1 : ((-1) : Int) ≤ (o4.1 1).toInt ∧ (o4.1 1).toInt ≤ 11 := k_o4.1 1
  have ey_o4_1 : (o4.1 1).toInt = (yo4.1 1).toInt := congrArg Int32.toInt (r_o4.1 1 rfl)
  have g_o4_3 : (0 : Int) ≤ (o4.1 3).toInt ∧ (o4.1 3).toInt ≤ 0 := k_o4.1 3
  have ey_o4_3 : (o4.1 3).toInt = (yo4.1 3).toInt := congrArg Int32.toInt (r_o4.1 3 rfl)
  have g_o5_0 : (16 : Int) ≤ (o5.1 0).toInt ∧ (o5.1 0).toInt ≤ 400000 := k_o5.1 0
  have g_o5_1 : (0 : Int) ≤ (o5.1 1).toInt ∧ (o5.1 1).toInt ≤ 0 := k_o5.1 1
  have ey_o5_1 : (o5.1 1).toInt = (yo5.1 1).toInt := congrArg Int32.toInt (r_o5.1 1 rfl)
  refine tt_n (ix_ok i_v8 (by decide) (by decide)) ?_
  refine tt_kv (P := fun z => ((0 : Int) ≤ z.toInt ∧ z.toInt ≤ 3) ∧ z = (o4.2.1 5 v8.toNatClampNeg) ∧ z.toInt = (o4.2.1 5 v8.toNatClampNeg).toInt) ⟨(k_o4.2 5 _), rfl, rfl⟩ (fun x1 qi2 => ?_)
  obtain ⟨i2, ax1, ei2⟩ := qi2
  refine tt_if (fun c3 => ?_) (fun c3 => ?_)
  · have wc3 : x1.toInt ≤ v9.toInt := c_le c3
    refine tt_n (ix_ok i_v5 (by decide) (by decide)) ?_
    refine tt_kv (P := fun z => ((0 : Int) ≤ z.toInt ∧ z.toInt ≤ 417) ∧ z = (o0.2.1 3 v5.toNatClampNeg) ∧ z.toInt = (o0.2.1 3 v5.toNatClampNeg).toInt) ⟨(k_o0.2 3 _), rfl, rfl⟩ (fun x4 qi5 => ?_)
    obtain ⟨i5, ax4, ei5⟩ := qi5
    refine tt_b (sSc_writeLiteral _ _ _ _ k_o1 k_o2 k_o5 (iv_w (a := 0) (b := 1023) (by decide) (by decide) i5) f_o5_3 (show (o5.1 3).toInt ≤ (o5.1 0).toInt by omega) (show (o5.1 3).toInt ≤ 89987 by omega)) (fun q6 hq6 => ?_)
    obtain ⟨k_q6, n_q6, f_q6_3, zq6_0, zq6_1, zq6_2, -⟩ := hq6
    have r_q6 := fr_tr r_o5 n_q6 rfl rfl rfl
    have g_q6_0 : (16 : Int) ≤ (q6.1 0).toInt ∧ (q6.1 0).toInt ≤ 400000 := k_q6.1 0
    have e_q6_1 : (q6.1 1).toInt = (o5.1 1).toInt := congrArg Int32.toInt (n_q6.1 1 rfl)
    have g_q6_1 : (0 : Int) ≤ (q6.1 1).toInt ∧ (q6.1 1).toInt ≤ 0 := k_q6.1 1
    have zq6_0 : (q6.1 3).toInt ≤ (o5.1 3).toInt + 13 := zq6_0
    have zq6_1 : (o5.1 3).toInt ≤ (q6.1 3).toInt := zq6_1
    have zq6_2 : (q6.1 3).toInt ≤ (q6.1 0).toInt := zq6_2
    try unfold fMp_writeTo_106
    refine tt_b (sSB_appendC _ _ k_q6 (iv_w (a := 0) (b := 255) (by decide) (by decide) (show (10 : Int) ≤ (10 : Int32).toInt ∧ (10 : Int32).toInt ≤ 10 by decide)) (iv_w (a := 7) (b := 90000) (by decide) (by decide) f_q6_3) (show (q6.1 3).toInt ≤ (q6.1 0).toInt by omega) (show (q6.1 3).toInt ≤ 89999 by omega)) (fun q7 hq7 => ?_)
    obtain ⟨k_q7, n_q7, f_q7_3, zq7_0, zq7_1, zq7_2, -⟩ := hq7
    have r_q7 := fr_tr r_q6 n_q7 rfl rfl rfl
    have g_q7_0 : (16 : Int) ≤ (q7.1 0).toInt ∧ (q7.1 0).toInt ≤ 400000 := k_q7.1 0
    have e_q7_1 : (q7.1 1).toInt = (q6.1 1).toInt := congrArg Int32.toInt (n_q7.1 1 rfl)
    have g_q7_1 : (0 : Int) ≤ (q7.1 1).toInt ∧ (q7.1 1).toInt ≤ 0 := k_q7.1 1
    have zq7_0 : (q7.1 3).toInt = (q6.1 3).toInt + 1 := zq7_0
    have zq7_1 : (q6.1 3).toInt ≤ (q7.1 3).toInt := zq7_1
    have zq7_2 : (q7.1 3).toInt ≤ (q7.1 0).toInt := zq7_2
    try unfold fMp_writeTo_115
    refine tt_kv (P := fun z => ((1 : Int) ≤ z.toInt ∧ z.toInt ≤ 418) ∧ z = (v5 + 1) ∧ z.toInt = v5.toInt + 1) ⟨iv_add i_v5 (show (1 : Int) ≤ (1 : Int32).toInt ∧ (1 : Int32).toInt ≤ 1 by decide) (by decide) (by decide) (by decide) (by decide), rfl, iq_add i_v5 (show (1 : Int) ≤ (1 : Int32).toInt ∧ (1 : Int32).toInt ≤ 1 by decide) (by decide) (by decide)⟩ (fun x8 qi9 => ?_)
    obtain ⟨i9, ax8, ei9⟩ := qi9
    exact H.1 _ _ _ _ _ _ _ k_o0 r_o0 k_o1 r_o1 k_o2 r_o2 k_o3 r_o3 k_o4 r_o4 k_q7 r_q7 (iv_w (a := 0) (b := 418) (by decide) (by decide) i9) f_q7_3 x_0 (show (q7.1 3).toInt ≤ (q7.1 0).toInt by omega) (show (q7.1 3).toInt ≤ 143 + 67 * x8.toInt by omega) (show 0 ≤ x8.toInt by omega) (show x8.toInt ≤ (o0.1 0).toInt by omega) (show 14 + (418 - x8.toInt) * 10 < (n : Int) by omega)
  · have wc3 : v9.toInt < x1.toInt := c_nle c3
    have i10 : (0 : Int) ≤ v9.toInt ∧ v9.toInt ≤ 2 := nr_nlel c3 i_v9 i2 (by decide) (by decide)
    have i11 : (1 : Int) ≤ x1.toInt ∧ x1.toInt ≤ 3 := nr_nler c3 i_v9 i2 (by decide) (by decide)
    refine tt_be (sMp_pinOf _ _ i10) (fun q12 hq12 eq12 => ?_)
    obtain ⟨i_q12, -⟩ := hq12
    have t13 := Mgd_p x_1 eq12 rfl (by omega) (by omega)
    try unfold fMp_writeTo_85
    refine tt_b (sSc_writeLiteral _ _ _ _ k_o1 k_o2 k_o5 i_q12 f_o5_3 (show (o5.1 3).toInt ≤ (o5.1 0).toInt by omega) (show (o5.1 3).toInt ≤ 89987 by omega)) (fun q14 hq14 => ?_)
    obtain ⟨k_q14, n_q14, f_q14_3, zq14_0, zq14_1, zq14_2, -⟩ := hq14
    have r_q14 := fr_tr r_o5 n_q14 rfl rfl rfl
    have g_q14_0 : (16 : Int) ≤ (q14.1 0).toInt ∧ (q14.1 0).toInt ≤ 400000 := k_q14.1 0
    have e_q14_1 : (q14.1 1).toInt = (o5.1 1).toInt := congrArg Int32.toInt (n_q14.1 1 rfl)
    have g_q14_1 : (0 : Int) ≤ (q14.1 1).toInt ∧ (q14.1 1).toInt ≤ 0 := k_q14.1 1
    have zq14_0 : (q14.1 3).toInt ≤ (o5.1 3).toInt + 13 := zq14_0
    have zq14_1 : (o5.1 3).toInt ≤ (q14.1 3).toInt := zq14_1
    have zq14_2 : (q14.1 3).toInt ≤ (q14.1 0).toInt := zq14_2
    try unfold fMp_writeTo_88
    refine tt_kv (P := fun z => ((1 : Int) ≤ z.toInt ∧ z.toInt ≤ 3) ∧ z = (v9 + 1) ∧ z.toInt = v9.toInt + 1) ⟨iv_add i10 (show (1 : Int) ≤ (1 : Int32).toInt ∧ (1 : Int32).toInt ≤ 1 by decide) (by decide) (by decide) (by decide) (by decide), rfl, iq_add i10 (show (1 : Int) ≤ (1 : Int32).toInt ∧ (1 : Int32).toInt ≤ 1 by decide) (by decide) (by decide)⟩ (fun x15 qi16 => ?_)
    obtain ⟨i16, ax15, ei16⟩ := qi16
    exact H.2.1 _ _ _ _ _ _ _ _ _ _ k_o0 r_o0 k_o1 r_o1 k_o2 r_o2 k_o3 r_o3 k_o4 r_o4 k_q14 r_q14 i_v5 i_v8 (iv_w (a := 0) (b := 3) (by decide) (by decide) i16) f_o0_0 f_q14_3 x_0 x_1 (show (q14.1 3).toInt ≤ (q14.1 0).toInt by omega) (show (q14.1 3).toInt ≤ 157 + 67 * v5.toInt + 13 * x15.toInt by omega) (show 0 ≤ v5.toInt by omega) (show v5.toInt < (o0.1 0).toInt by omega) (show 0 ≤ x15.toInt by omega) (show x15.toInt ≤ 3 by omega) (show 14 + (418 - v5.toInt - 1) * 10 + 1 + (3 - x15.toInt) * 2 < (n : Int) by omega)
set_option maxHeartbeats 4000000 in
set_option maxRecDepth 100000 in
theorem tMp_writeTo_8 {yo0 : cf_O} {yo1 : cf_O} {yo2 : cf_O} {yo3 : cf_O} {yo4 : cf_O} {yo5 : cf_O} {n : Nat} (H : HMp_writeTo yo0 yo1 yo2 yo3 yo4 yo5 n) (v5 : Int32) (o0 : cf_O) (o1 : cf_O) (o2 : cf_O) (o3 : cf_O) (o4 : cf_O) (o5 : cf_O) (k_o0 : okO I_Mp o0) (r_o0 : Fr (fr_M [] [] []) yo0 o0) (k_o1 : okO I_Sc o1) (r_o1 : Fr (fr_M [0] [] []) yo1 o1) (k_o2 : okO I_Nl o2) (r_o2 : Fr (fr_M [] [] []) yo2 o2) (k_o3 : okO I_Gr o3) (r_o3 : Fr (fr_M [] [] []) yo3 o3) (k_o4 : okO I_Li o4) (r_o4 : Fr (fr_M [] [] []) yo4 o4) (k_o5 : okO I_SB o5) (r_o5 : Fr (fr_M [0, 2, 3] [0] []) yo5 o5) (i_v5 : (0 : Int) ≤ v5.toInt ∧ v5.toInt ≤ 418) (f_o5_3 : (8 : Int) ≤ (o5.1 3).toInt ∧ (o5.1 3).toInt ≤ 90000) (x_0 : Tki (o0.1 0).toInt (o0.2.1 3) (o0.2.2 4)) (x_1 : (o5.1 3).toInt ≤ (o5.1 0).toInt) (x_2 : (o5.1 3).toInt ≤ 143 + 67 * v5.toInt) (x_3 : 0 ≤ v5.toInt) (x_4 : v5.toInt ≤ (o0.1 0).toInt) (hm : 14 + (418 - v5.toInt) * 10 ≤ (n : Int)) : tt (fMp_writeTo_8 (gMp_writeTo n) v5 o0 o1 o2 o3 o4 o5) (QMp_writeTo yo0 yo1 yo2 yo3 yo4 yo5) := by
  unfold fMp_writeTo_8
  have g_o0_0 : (0 : Int) ≤ (o0.1 0).toInt ∧ (o0.1 0).toInt ≤ 418 := k_o0.1 0
  have ey_o0_0 : (o0.1 0).toInt = (yo0.1 0).toInt := congrArg Int32.toInt (r_o0.1 0 rfl)
  have g_o0_1 : ((-2147483648) : Int) ≤ (o0.1 1).toInt ∧ (o0.1 1).toInt ≤ 2147483647 := k_o0.1 1
  have ey_o0_1 : (o0.1 1).toInt = (yo0.1 1).toInt := congrArg Int32.toInt (r_o0.1 1 rfl)
  have g_o0_3 : (0 : Int) ≤ (o0.1 3).toInt ∧ (o0.1 3).toInt ≤ 0 := k_o0.1 3
  have ey_o0_3 : (o0.1 3).toInt = (yo0.1 3).toInt := congrArg Int32.toInt (r_o0.1 3 rfl)
  have g_o1_0 : (0 : Int) ≤ (o1.1 0).toInt ∧ (o1.1 0).toInt ≤ 1 := k_o1.1 0
  have g_o1_1 : (0 : Int) ≤ (o1.1 1).toInt ∧ (o1.1 1).toInt ≤ 0 := k_o1.1 1
  have ey_o1_1 : (o1.1 1).toInt = (yo1.1 1).toInt := congrArg Int32.toInt (r_o1.1 1 rfl)
  have g_o1_3 : (0 : Int) ≤ (o1.1 3).toInt ∧ (o1.1 3).toInt ≤ 0 := k_o1.1 3
  have ey_o1_3 : (o1.1 3).toInt = (yo1.1 3).toInt := congrArg Int32.toInt (r_o1.1 3 rfl)
  have g_o2_0 : (0 : Int) ≤ (o2.1 0).toInt ∧ (o2.1 0).toInt ≤ 8 := k_o2.1 0
  have ey_o2_0 : (o2.1 0).toInt = (yo2.1 0).toInt := congrArg Int32.toInt (r_o2.1 0 rfl)
  have g_o2_1 : (0 : Int) ≤ (o2.1 1).toInt ∧ (o2.1 1).toInt ≤ 6 := k_o2.1 1
  have ey_o2_1 : (o2.1 1).toInt = (yo2.1 1).toInt := congrArg Int32.toInt (r_o2.1 1 rfl)
  have g_o2_3 : (0 : Int) ≤ (o2.1 3).toInt ∧ (o2.1 3).toInt ≤ 0 := k_o2.1 3
  have ey_o2_3 : (o2.1 3).toInt = (yo2.1 3).toInt := congrArg Int32.toInt (r_o2.1 3 rfl)
  have g_o3_0 : (0 : Int) ≤ (o3.1 0).toInt ∧ (o3.1 0).toInt ≤ 8 := k_o3.1 0
  have ey_o3_0 : (o3.1 0).toInt = (yo3.1 0).toInt := congrArg Int32.toInt (r_o3.1 0 rfl)
  have g_o3_1 : (0 : Int) ≤ (o3.1 1).toInt ∧ (o3.1 1).toInt ≤ 6 := k_o3.1 1
  have ey_o3_1 : (o3.1 1).toInt = (yo3.1 1).toInt := congrArg Int32.toInt (r_o3.1 1 rfl)
  have g_o3_3 : (0 : Int) ≤ (o3.1 3).toInt ∧ (o3.1 3).toInt ≤ 1 := k_o3.1 3
  have ey_o3_3 : (o3.1 3).toInt = (yo3.1 3).toInt := congrArg Int32.toInt (r_o3.1 3 rfl)
  have g_o4_0 : (0 : Int) ≤ (o4.1 0).toInt ∧ (o4.1 0).toInt ≤ 12 := k_o4.1 0
  have ey_o4_0 : (o4.1 0).toInt = (yo4.1 0).toInt := congrArg Int32.toInt (r_o4.1 0 rfl)
  have g_o4_1 : ((-1) : Int) ≤ (o4.1 1).toInt ∧ (o4.1 1).toInt ≤ 11 := k_o4.1 1
  have ey_o4_1 : (o4.1 1).toInt = (yo4.1 1).toInt := congrArg Int32.toInt (r_o4.1 1 rfl)
  have g_o4_3 : (0 : Int) ≤ (o4.1 3).toInt ∧ (o4.1 3).toInt ≤ 0 := k_o4.1 3
  have ey_o4_3 : (o4.1 3).toInt = (yo4.1 3).toInt := congrArg Int32.toInt (r_o4.1 3 rfl)
  have g_o5_0 : (16 : Int) ≤ (o5.1 0).toInt ∧ (o5.1 0).toInt ≤ 400000 := k_o5.1 0
  have g_o5_1 : (0 : Int) ≤ (o5.1 1).toInt ∧ (o5.1 1).toInt ≤ 0 := k_o5.1 1
  have ey_o5_1 : (o5.1 1).toInt = (yo5.1 1).toInt := congrArg Int32.toInt (r_o5.1 1 rfl)
  refine tt_if (fun c1 => ?_) (fun c1 => ?_)
  · have wc1 : (o0.1 0).toInt ≤ v5.toInt := c_le c1
    exact H.2.2 _ _ _ _ _ _ _ k_o0 r_o0 k_o1 r_o1 k_o2 r_o2 k_o3 r_o3 k_o4 r_o4 k_o5 r_o5 (iv_w (a := 0) (b := 6) (by decide) (by decide) (show (0 : Int) ≤ (0 : Int32).toInt ∧ (0 : Int32).toInt ≤ 0 by decide)) f_o5_3 (show (o5.1 3).toInt ≤ (o5.1 0).toInt by omega) (show (o5.1 3).toInt ≤ 28149 + 33 * 0 by omega) (show 0 + (6 - 0) * 2 < (n : Int) by omega)
  · have wc1 : v5.toInt < (o0.1 0).toInt := c_nle c1
    have i2 : (0 : Int) ≤ v5.toInt ∧ v5.toInt ≤ 417 := nr_nlel c1 i_v5 (k_o0.1 0) (by decide) (by decide)
    have i3 : (1 : Int) ≤ (o0.1 0).toInt ∧ (o0.1 0).toInt ≤ 418 := nr_nler c1 i_v5 (k_o0.1 0) (by decide) (by decide)
    refine tt_n (ix_ok i2 (by decide) (by decide)) ?_
    refine tt_kv (P := fun z => ((0 : Int) ≤ z.toInt ∧ z.toInt ≤ 417) ∧ z = (o0.2.1 3 v5.toNatClampNeg) ∧ z.toInt = (o0.2.1 3 v5.toNatClampNeg).toInt) ⟨(k_o0.2 3 _), rfl, rfl⟩ (fun x4 qi5 => ?_)
    obtain ⟨i5, ax4, ei5⟩ := qi5
    refine tt_n (ix_ok i5 (by decide) (by decide)) ?_
    refine tt_klr (fun x6 ax6 => ?_)
    refine tt_be (sMp_cellOf _ ) (fun q7 hq7 eq7 => ?_)
    obtain ⟨i_q7, -⟩ := hq7
    have t8 := Mgd_c (Tki_m x_0 (i := v5.toNatClampNeg) (by rw [tn_n]; omega) (by assumption) (by assumption)) eq7 rfl
    try unfold fMp_writeTo_36
    refine tt_b (sSB_appendS_S17 _ k_o5 f_o5_3 (show (o5.1 3).toInt ≤ (o5.1 0).toInt by omega) (show (o5.1 3).toInt ≤ 89995 by omega)) (fun q9 hq9 => ?_)
    obtain ⟨k_q9, n_q9, f_q9_3, zq9_0, zq9_1, zq9_2, -⟩ := hq9
    have r_q9 := fr_tr r_o5 n_q9 rfl rfl rfl
    have g_q9_0 : (16 : Int) ≤ (q9.1 0).toInt ∧ (q9.1 0).toInt ≤ 400000 := k_q9.1 0
    have e_q9_1 : (q9.1 1).toInt = (o5.1 1).toInt := congrArg Int32.toInt (n_q9.1 1 rfl)
    have g_q9_1 : (0 : Int) ≤ (q9.1 1).toInt ∧ (q9.1 1).toInt ≤ 0 := k_q9.1 1
    have zq9_0 : (q9.1 3).toInt = (o5.1 3).toInt + 5 := zq9_0
    have zq9_1 : (o5.1 3).toInt ≤ (q9.1 3).toInt := zq9_1
    have zq9_2 : (q9.1 3).toInt ≤ (q9.1 0).toInt := zq9_2
    try unfold fMp_writeTo_47
    refine tt_n (ix_rel (by omega) (by omega)) ?_
    have i10 : (0 : Int) ≤ q7.toInt ∧ q7.toInt ≤ 11 := (by omega)
    refine tt_klr (fun x11 ax11 => ?_)
    refine tt_b (sSc_writeName _ _ _ k_o1 k_q9 (iv_w (a := 7) (b := 90000) (by decide) (by decide) f_q9_3) (show (q9.1 3).toInt ≤ (q9.1 0).toInt by omega) (show (q9.1 3).toInt ≤ 89991 by omega)) (fun q12 hq12 => ?_)
    obtain ⟨k_q12, n_q12, f_q12_3, zq12_0, zq12_1, zq12_2, -⟩ := hq12
    have r_q12 := fr_tr r_q9 n_q12 rfl rfl rfl
    have g_q12_0 : (16 : Int) ≤ (q12.1 0).toInt ∧ (q12.1 0).toInt ≤ 400000 := k_q12.1 0
    have e_q12_1 : (q12.1 1).toInt = (q9.1 1).toInt := congrArg Int32.toInt (n_q12.1 1 rfl)
    have g_q12_1 : (0 : Int) ≤ (q12.1 1).toInt ∧ (q12.1 1).toInt ≤ 0 := k_q12.1 1
    have zq12_0 : (q12.1 3).toInt ≤ (q9.1 3).toInt + 9 := zq12_0
    have zq12_1 : (q9.1 3).toInt ≤ (q12.1 3).toInt := zq12_1
    have zq12_2 : (q12.1 3).toInt ≤ (q12.1 0).toInt := zq12_2
    try unfold fMp_writeTo_60
    have p13 : Mgd x6 := by exact (Tki_m x_0 (i := v5.toNatClampNeg) (by rw [tn_n]; omega) (by assumption) (by assumption))
    exact H.2.1 _ _ _ _ _ _ _ _ _ _ k_o0 r_o0 k_o1 r_o1 k_o2 r_o2 k_o3 r_o3 k_o4 r_o4 k_q12 r_q12 i2 i10 (iv_w (a := 0) (b := 3) (by decide) (by decide) (show (0 : Int) ≤ (0 : Int32).toInt ∧ (0 : Int32).toInt ≤ 0 by decide)) i3 f_q12_3 x_0 p13 (show (q12.1 3).toInt ≤ (q12.1 0).toInt by omega) (show (q12.1 3).toInt ≤ 157 + 67 * v5.toInt + 13 * 0 by omega) (show 0 ≤ v5.toInt by omega) (show v5.toInt < (o0.1 0).toInt by omega) (show 0 ≤ 0 by omega) (show 0 ≤ 3 by omega) (show 14 + (418 - v5.toInt - 1) * 10 + 1 + (3 - 0) * 2 < (n : Int) by omega)
set_option maxHeartbeats 4000000 in
set_option maxRecDepth 100000 in
theorem hMp_writeTo (yo0 : cf_O) (yo1 : cf_O) (yo2 : cf_O) (yo3 : cf_O) (yo4 : cf_O) (yo5 : cf_O) : ∀ n, HMp_writeTo yo0 yo1 yo2 yo3 yo4 yo5 n := by
  intro n
  induction n with
  | zero => exact ⟨(fun v5 o0 o1 o2 o3 o4 o5 k_o0 r_o0 k_o1 r_o1 k_o2 r_o2 k_o3 r_o3 k_o4 r_o4 k_o5 r_o5 i_v5 f_o5_3 x_0 x_1 x_2 x_3 x_4 hm => by exact absurd (show 14 + (418 - v5.toInt) * 10 < (0 : Int) from hm) (by omega)), (fun v5 v6 v8 v9 o0 o1 o2 o3 o4 o5 k_o0 r_o0 k_o1 r_o1 k_o2 r_o2 k_o3 r_o3 k_o4 r_o4 k_o5 r_o5 i_v5 i_v8 i_v9 f_o0_0 f_o5_3 x_0 x_1 x_2 x_3 x_4 x_5 x_6 x_7 hm => by exact absurd (show 14 + (418 - v5.toInt - 1) * 10 + 1 + (3 - v9.toInt) * 2 < (0 : Int) from hm) (by omega)), (fun v5 o0 o1 o2 o3 o4 o5 k_o0 r_o0 k_o1 r_o1 k_o2 r_o2 k_o3 r_o3 k_o4 r_o4 k_o5 r_o5 i_v5 f_o5_3 x_0 x_1 hm => by exact absurd (show 0 + (6 - v5.toInt) * 2 < (0 : Int) from hm) (by omega))⟩
  | succ n ih => exact ⟨(fun v5 o0 o1 o2 o3 o4 o5 k_o0 r_o0 k_o1 r_o1 k_o2 r_o2 k_o3 r_o3 k_o4 r_o4 k_o5 r_o5 i_v5 f_o5_3 x_0 x_1 x_2 x_3 x_4 hm => tMp_writeTo_8 ih v5 o0 o1 o2 o3 o4 o5 k_o0 r_o0 k_o1 r_o1 k_o2 r_o2 k_o3 r_o3 k_o4 r_o4 k_o5 r_o5 i_v5 f_o5_3 x_0 x_1 x_2 x_3 x_4 (by omega)), (fun v5 v6 v8 v9 o0 o1 o2 o3 o4 o5 k_o0 r_o0 k_o1 r_o1 k_o2 r_o2 k_o3 r_o3 k_o4 r_o4 k_o5 r_o5 i_v5 i_v8 i_v9 f_o0_0 f_o5_3 x_0 x_1 x_2 x_3 x_4 x_5 x_6 x_7 hm => tMp_writeTo_63 ih v5 v6 v8 v9 o0 o1 o2 o3 o4 o5 k_o0 r_o0 k_o1 r_o1 k_o2 r_o2 k_o3 r_o3 k_o4 r_o4 k_o5 r_o5 i_v5 i_v8 i_v9 f_o0_0 f_o5_3 x_0 x_1 x_2 x_3 x_4 x_5 x_6 x_7 (by omega)), (fun v5 o0 o1 o2 o3 o4 o5 k_o0 r_o0 k_o1 r_o1 k_o2 r_o2 k_o3 r_o3 k_o4 r_o4 k_o5 r_o5 i_v5 f_o5_3 x_0 x_1 hm => tMp_writeTo_125 ih v5 o0 o1 o2 o3 o4 o5 k_o0 r_o0 k_o1 r_o1 k_o2 r_o2 k_o3 r_o3 k_o4 r_o4 k_o5 r_o5 i_v5 f_o5_3 x_0 x_1 (by omega))⟩
set_option maxHeartbeats 4000000 in
set_option maxRecDepth 100000 in
theorem sMp_writeTo (o0 : cf_O) (o1 : cf_O) (o2 : cf_O) (o3 : cf_O) (o4 : cf_O) (o5 : cf_O) (k_o0 : okO I_Mp o0) (k_o1 : okO I_Sc o1) (k_o2 : okO I_Nl o2) (k_o3 : okO I_Gr o3) (k_o4 : okO I_Li o4) (k_o5 : okO I_SB o5) (f_o1_0 : (0 : Int) ≤ (o1.1 0).toInt ∧ (o1.1 0).toInt ≤ 0) (x_0 : Tki (o0.1 0).toInt (o0.2.1 3) (o0.2.2 4)) (x_1 : (o5.1 3).toInt ≤ (o5.1 0).toInt) : tt (fMp_writeTo o0 o1 o2 o3 o4 o5) (QMp_writeTo o0 o1 o2 o3 o4 o5) := by
  have H := hMp_writeTo o0 o1 o2 o3 o4 o5 cfFU
  have hm : (4197 : Int) ≤ (cfFU : Nat) := by decide
  have r_o0 : Fr (fr_M [] [] []) o0 o0 := fr_rfl
  have r_o1 : Fr (fr_M [0] [] []) o1 o1 := fr_rfl
  have r_o2 : Fr (fr_M [] [] []) o2 o2 := fr_rfl
  have r_o3 : Fr (fr_M [] [] []) o3 o3 := fr_rfl
  have r_o4 : Fr (fr_M [] [] []) o4 o4 := fr_rfl
  have r_o5 : Fr (fr_M [0, 2, 3] [0] []) o5 o5 := fr_rfl
  unfold fMp_writeTo fMp_writeTo_0
  have g_o0_0 : (0 : Int) ≤ (o0.1 0).toInt ∧ (o0.1 0).toInt ≤ 418 := k_o0.1 0
  have g_o0_1 : ((-2147483648) : Int) ≤ (o0.1 1).toInt ∧ (o0.1 1).toInt ≤ 2147483647 := k_o0.1 1
  have g_o0_3 : (0 : Int) ≤ (o0.1 3).toInt ∧ (o0.1 3).toInt ≤ 0 := k_o0.1 3
  have g_o1_1 : (0 : Int) ≤ (o1.1 1).toInt ∧ (o1.1 1).toInt ≤ 0 := k_o1.1 1
  have g_o1_3 : (0 : Int) ≤ (o1.1 3).toInt ∧ (o1.1 3).toInt ≤ 0 := k_o1.1 3
  have g_o2_0 : (0 : Int) ≤ (o2.1 0).toInt ∧ (o2.1 0).toInt ≤ 8 := k_o2.1 0
  have g_o2_1 : (0 : Int) ≤ (o2.1 1).toInt ∧ (o2.1 1).toInt ≤ 6 := k_o2.1 1
  have g_o2_3 : (0 : Int) ≤ (o2.1 3).toInt ∧ (o2.1 3).toInt ≤ 0 := k_o2.1 3
  have g_o3_0 : (0 : Int) ≤ (o3.1 0).toInt ∧ (o3.1 0).toInt ≤ 8 := k_o3.1 0
  have g_o3_1 : (0 : Int) ≤ (o3.1 1).toInt ∧ (o3.1 1).toInt ≤ 6 := k_o3.1 1
  have g_o3_3 : (0 : Int) ≤ (o3.1 3).toInt ∧ (o3.1 3).toInt ≤ 1 := k_o3.1 3
  have g_o4_0 : (0 : Int) ≤ (o4.1 0).toInt ∧ (o4.1 0).toInt ≤ 12 := k_o4.1 0
  have g_o4_1 : ((-1) : Int) ≤ (o4.1 1).toInt ∧ (o4.1 1).toInt ≤ 11 := k_o4.1 1
  have g_o4_3 : (0 : Int) ≤ (o4.1 3).toInt ∧ (o4.1 3).toInt ≤ 0 := k_o4.1 3
  have g_o5_0 : (16 : Int) ≤ (o5.1 0).toInt ∧ (o5.1 0).toInt ≤ 400000 := k_o5.1 0
  have g_o5_1 : (0 : Int) ≤ (o5.1 1).toInt ∧ (o5.1 1).toInt ≤ 0 := k_o5.1 1
  have g_o5_3 : (0 : Int) ≤ (o5.1 3).toInt ∧ (o5.1 3).toInt ≤ 90000 := k_o5.1 3
  refine tt_b (sSc_writeHead _ _ _ k_o1 k_o2 k_o5 f_o1_0 (show (o5.1 3).toInt ≤ (o5.1 0).toInt by omega)) (fun q1 hq1 => ?_)
  obtain ⟨k_q1, n_q1, f_q1_3, zq1_0, zq1_1, -⟩ := hq1
  have r_q1 := fr_tr r_o5 n_q1 rfl rfl rfl
  have g_q1_0 : (16 : Int) ≤ (q1.1 0).toInt ∧ (q1.1 0).toInt ≤ 400000 := k_q1.1 0
  have e_q1_1 : (q1.1 1).toInt = (o5.1 1).toInt := congrArg Int32.toInt (n_q1.1 1 rfl)
  have g_q1_1 : (0 : Int) ≤ (q1.1 1).toInt ∧ (q1.1 1).toInt ≤ 0 := k_q1.1 1
  have zq1_0 : (q1.1 3).toInt ≤ 143 := zq1_0
  have zq1_1 : (q1.1 3).toInt ≤ (q1.1 0).toInt := zq1_1
  try unfold fMp_writeTo_5
  exact H.1 _ _ _ _ _ _ _ k_o0 r_o0 k_o1 r_o1 k_o2 r_o2 k_o3 r_o3 k_o4 r_o4 k_q1 r_q1 (iv_w (a := 0) (b := 418) (by decide) (by decide) (show (0 : Int) ≤ (0 : Int32).toInt ∧ (0 : Int32).toInt ≤ 0 by decide)) f_q1_3 x_0 (show (q1.1 3).toInt ≤ (q1.1 0).toInt by omega) (show (q1.1 3).toInt ≤ 143 + 67 * 0 by omega) (show 0 ≤ 0 by omega) (show 0 ≤ (o0.1 0).toInt by omega) (show 14 + (418 - 0) * 10 < ((cfFU : Nat) : Int) by omega)
def QJString_coder__S2  (r : (Int32)) : Prop := ((0 : Int) ≤ r.toInt ∧ r.toInt ≤ 0) ∧ True
set_option maxHeartbeats 4000000 in
set_option maxRecDepth 100000 in
theorem sJString_coder__S2   : tt (fJString_coder__S2 ) (QJString_coder__S2 ) := by
  unfold fJString_coder__S2 fJString_coder__S2_0
  try unfold fJString_coder__S2_14
  refine tt_w (iv_nb (show (0 : Int) ≤ (0 : Int32).toInt ∧ (0 : Int32).toInt ≤ 0 by decide) (by decide) (by decide)) ?_
  exact tt_some ⟨(show (0 : Int) ≤ (0 : Int32).toInt ∧ (0 : Int32).toInt ≤ 0 by decide), trivial⟩
def QJString_length__S2  (r : (Int32)) : Prop := ((7 : Int) ≤ r.toInt ∧ r.toInt ≤ 7) ∧ True
set_option maxHeartbeats 4000000 in
set_option maxRecDepth 100000 in
theorem sJString_length__S2   : tt (fJString_length__S2 ) (QJString_length__S2 ) := by
  unfold fJString_length__S2 fJString_length__S2_0
  refine tt_b (sJString_coder__S2  ) (fun q1 hq1 => ?_)
  obtain ⟨i_q1, -⟩ := hq1
  refine tt_kv (P := fun z => (7 : Int) ≤ z.toInt ∧ z.toInt ≤ 7) (iv_shr (p := 0) (q := 0) (show (7 : Int) ≤ (7 : Int32).toInt ∧ (7 : Int32).toInt ≤ 7 by decide) i_q1 (by decide) (by decide) (by decide) (by decide)) (fun x2 i3 => ?_)
  exact tt_some ⟨i3, trivial⟩
def QJString_isLatin1__S2  (r : (Int32)) : Prop := ((1 : Int) ≤ r.toInt ∧ r.toInt ≤ 1) ∧ True
set_option maxHeartbeats 4000000 in
set_option maxRecDepth 100000 in
theorem sJString_isLatin1__S2   : tt (fJString_isLatin1__S2 ) (QJString_isLatin1__S2 ) := by
  unfold fJString_isLatin1__S2 fJString_isLatin1__S2_0
  try unfold fJString_isLatin1__S2_18
  refine tt_w (iv_b (show (1 : Int) ≤ (1 : Int32).toInt ∧ (1 : Int32).toInt ≤ 1 by decide) (by decide) (by decide)) ?_
  exact tt_some ⟨(show (1 : Int) ≤ (1 : Int32).toInt ∧ (1 : Int32).toInt ≤ 1 by decide), trivial⟩
def QJStringLatin1_charAt_ABI_B2 (v1 : Int32) (r : (Int32)) : Prop := ((0 : Int) ≤ r.toInt ∧ r.toInt ≤ 255) ∧ True
set_option maxHeartbeats 4000000 in
set_option maxRecDepth 100000 in
theorem sJStringLatin1_charAt_ABI_B2 (v1 : Int32) (i_v1 : (0 : Int) ≤ v1.toInt ∧ v1.toInt ≤ 6) : tt (fJStringLatin1_charAt_ABI_B2 v1) (QJStringLatin1_charAt_ABI_B2 v1) := by
  unfold fJStringLatin1_charAt_ABI_B2 fJStringLatin1_charAt_ABI_B2_0
  refine tt_b (sJString_checkIndex_II _ _ (iv_w (a := 0) (b := 89999) (by decide) (by decide) i_v1) (iv_w (a := 0) (b := 90000) (by decide) (by decide) (show (7 : Int) ≤ (7 : Int32).toInt ∧ (7 : Int32).toInt ≤ 7 by decide)) (show 0 ≤ v1.toInt by omega) (show v1.toInt < 7 by omega)) (fun q1 hq1 => ?_)
  refine tt_n (ix_ok i_v1 (by decide) (by decide)) ?_
  refine tt_kv (P := fun z => (0 : Int) ≤ z.toInt ∧ z.toInt ≤ 127) (iv_sb _ _) (fun x2 i3 => ?_)
  refine tt_kv (P := fun z => (0 : Int) ≤ z.toInt ∧ z.toInt ≤ 255) (iv_and (show (255 : Int) ≤ (255 : Int32).toInt ∧ (255 : Int32).toInt ≤ 255 by decide) (by decide) (by decide) (by decide)) (fun x4 i5 => ?_)
  refine tt_kv (P := fun z => (0 : Int) ≤ z.toInt ∧ z.toInt ≤ 255) (iv_c16i i5 (by decide) (by decide)) (fun x6 i7 => ?_)
  refine tt_w (iv_nc i7 (by decide) (by decide)) ?_
  exact tt_some ⟨i7, trivial⟩
def QJString_charAt_I_S2 (v1 : Int32) (r : (Int32)) : Prop := ((0 : Int) ≤ r.toInt ∧ r.toInt ≤ 255) ∧ True
set_option maxHeartbeats 4000000 in
set_option maxRecDepth 100000 in
theorem sJString_charAt_I_S2 (v1 : Int32) (i_v1 : (0 : Int) ≤ v1.toInt ∧ v1.toInt ≤ 6) (x_0 : 0 ≤ v1.toInt) (x_1 : v1.toInt < 7) : tt (fJString_charAt_I_S2 v1) (QJString_charAt_I_S2 v1) := by
  unfold fJString_charAt_I_S2 fJString_charAt_I_S2_0
  refine tt_b (sJString_isLatin1__S2  ) (fun q1 hq1 => ?_)
  obtain ⟨i_q1, -⟩ := hq1
  refine tt_n (iv_nz0 i_q1 (by decide)) ?_
  refine tt_b (sJStringLatin1_charAt_ABI_B2 _ i_v1) (fun q2 hq2 => ?_)
  obtain ⟨i_q2, -⟩ := hq2
  refine tt_w (iv_nc i_q2 (by decide) (by decide)) ?_
  exact tt_some ⟨i_q2, trivial⟩
def QTx_isWord_S2 (v1 : Int32) (o0 : cf_O) (r : (Int32)) : Prop := ((0 : Int) ≤ r.toInt ∧ r.toInt ≤ 1) ∧ True
def HTx_isWord_S2 (yv1 : Int32) (yo0 : cf_O) (n : Nat) : Prop := (∀ (v1 : Int32) (v3 : Int32) (o0 : cf_O), (okO I_Tx o0) → (Fr (fr_M [] [] []) yo0 o0) → ((0 : Int) ≤ v1.toInt ∧ v1.toInt ≤ 0) → ((0 : Int) ≤ v3.toInt ∧ v3.toInt ≤ 7) → ((0 : Int) ≤ (o0.1 4).toInt ∧ (o0.1 4).toInt ≤ 1602) → ((o0.2.1 2 v1.toNatClampNeg).toInt - (o0.2.1 1 v1.toNatClampNeg).toInt = 7) → 0 + (7 - v3.toInt) * 2 < (n : Int) → tt (gTx_isWord_S2 n 0 v1 v3 o0) (QTx_isWord_S2 yv1 yo0))
set_option maxHeartbeats 4000000 in
set_option maxRecDepth 100000 in
theorem tTx_isWord_S2_16 {yv1 : Int32} {yo0 : cf_O} {n : Nat} (H : HTx_isWord_S2 yv1 yo0 n) (v1 : Int32) (v3 : Int32) (o0 : cf_O) (k_o0 : okO I_Tx o0) (r_o0 : Fr (fr_M [] [] []) yo0 o0) (i_v1 : (0 : Int) ≤ v1.toInt ∧ v1.toInt ≤ 0) (i_v3 : (0 : Int) ≤ v3.toInt ∧ v3.toInt ≤ 7) (f_o0_4 : (0 : Int) ≤ (o0.1 4).toInt ∧ (o0.1 4).toInt ≤ 1602) (x_0 : (o0.2.1 2 v1.toNatClampNeg).toInt - (o0.2.1 1 v1.toNatClampNeg).toInt = 7) (hm : 0 + (7 - v3.toInt) * 2 ≤ (n : Int)) : tt (fTx_isWord_S2_16 (gTx_isWord_S2 n) v1 v3 o0) (QTx_isWord_S2 yv1 yo0) := by
  unfold fTx_isWord_S2_16
  refine tt_b (sJString_length__S2  ) (fun q1 hq1 => ?_)
  obtain ⟨i_q1, -⟩ := hq1
  refine tt_if (fun c2 => ?_) (fun c2 => ?_)
  · have wc2 : q1.toInt ≤ v3.toInt := c_le c2
    have i3 : (7 : Int) ≤ v3.toInt ∧ v3.toInt ≤ 7 := nr_ler c2 i_q1 i_v3 (by decide) (by decide)
    exact tt_some ⟨(iv_w (a := 0) (b := 1) (by decide) (by decide) (show (1 : Int) ≤ (1 : Int32).toInt ∧ (1 : Int32).toInt ≤ 1 by decide)), trivial⟩
  · have wc2 : v3.toInt < q1.toInt := c_nle c2
    have i4 : (0 : Int) ≤ v3.toInt ∧ v3.toInt ≤ 6 := nr_nlel c2 i_v3 i_q1 (by decide) (by decide)
    have t5 : (0 : Int) ≤ (o0.2.1 2 v1.toNatClampNeg).toInt ∧ (o0.2.1 2 v1.toNatClampNeg).toInt ≤ 1600 := k_o0.2 2 _
    have t6 : (0 : Int) ≤ (o0.2.1 1 v1.toNatClampNeg).toInt ∧ (o0.2.1 1 v1.toNatClampNeg).toInt ≤ 1599 := k_o0.2 1 _
    refine tt_b (sTx_signOf _ _ _ k_o0 (iv_w (a := 0) (b := 8) (by decide) (by decide) i_v1) (iv_w (a := 0) (b := 1599) (by decide) (by decide) i4) f_o0_4 (show 0 ≤ v3.toInt by omega) (show v3.toInt < (o0.2.1 2 v1.toNatClampNeg).toInt - (o0.2.1 1 v1.toNatClampNeg).toInt by omega)) (fun q7 hq7 => ?_)
    obtain ⟨i_q7, -⟩ := hq7
    refine tt_b (sJString_charAt_I_S2 _ i4 (show 0 ≤ v3.toInt by omega) (show v3.toInt < 7 by omega)) (fun q8 hq8 => ?_)
    obtain ⟨i_q8, -⟩ := hq8
    refine tt_if (fun c9 => ?_) (fun c9 => ?_)
    · have wc9 : q7.toInt = q8.toInt := c_eq c9
      have i10 : (0 : Int) ≤ q7.toInt ∧ q7.toInt ≤ 127 := nr_eql c9 i_q7 i_q8 (by decide) (by decide)
      have i11 : (0 : Int) ≤ q8.toInt ∧ q8.toInt ≤ 127 := nr_eqr c9 i_q7 i_q8 (by decide) (by decide)
      refine tt_kv (P := fun z => ((1 : Int) ≤ z.toInt ∧ z.toInt ≤ 7) ∧ z.toInt = v3.toInt + 1) ⟨iv_add i4 (show (1 : Int) ≤ (1 : Int32).toInt ∧ (1 : Int32).toInt ≤ 1 by decide) (by decide) (by decide) (by decide) (by decide), iq_add i4 (show (1 : Int) ≤ (1 : Int32).toInt ∧ (1 : Int32).toInt ≤ 1 by decide) (by decide) (by decide)⟩ (fun x12 qi13 => ?_)
      obtain ⟨i13, ei13⟩ := qi13
      have t14 : (0 : Int) ≤ (o0.2.1 2 v1.toNatClampNeg).toInt ∧ (o0.2.1 2 v1.toNatClampNeg).toInt ≤ 1600 := k_o0.2 2 _
      have t15 : (0 : Int) ≤ (o0.2.1 1 v1.toNatClampNeg).toInt ∧ (o0.2.1 1 v1.toNatClampNeg).toInt ≤ 1599 := k_o0.2 1 _
      exact H _ _ _ k_o0 r_o0 i_v1 (iv_w (a := 0) (b := 7) (by decide) (by decide) i13) f_o0_4 (show (o0.2.1 2 v1.toNatClampNeg).toInt - (o0.2.1 1 v1.toNatClampNeg).toInt = 7 by omega) (show 0 + (7 - x12.toInt) * 2 < (n : Int) by omega)
    · have wc9 : ¬ q7.toInt = q8.toInt := c_ne c9
      exact tt_some ⟨(iv_w (a := 0) (b := 1) (by decide) (by decide) (show (0 : Int) ≤ (0 : Int32).toInt ∧ (0 : Int32).toInt ≤ 0 by decide)), trivial⟩
set_option maxHeartbeats 4000000 in
set_option maxRecDepth 100000 in
theorem hTx_isWord_S2 (yv1 : Int32) (yo0 : cf_O) : ∀ n, HTx_isWord_S2 yv1 yo0 n := by
  intro n
  induction n with
  | zero => exact (fun v1 v3 o0 k_o0 r_o0 i_v1 i_v3 f_o0_4 x_0 hm => by exact absurd (show 0 + (7 - v3.toInt) * 2 < (0 : Int) from hm) (by omega))
  | succ n ih => exact (fun v1 v3 o0 k_o0 r_o0 i_v1 i_v3 f_o0_4 x_0 hm => tTx_isWord_S2_16 ih v1 v3 o0 k_o0 r_o0 i_v1 i_v3 f_o0_4 x_0 (by omega))
set_option maxHeartbeats 4000000 in
set_option maxRecDepth 100000 in
theorem sTx_isWord_S2 (v1 : Int32) (o0 : cf_O) (k_o0 : okO I_Tx o0) (i_v1 : (0 : Int) ≤ v1.toInt ∧ v1.toInt ≤ 0) (f_o0_4 : (0 : Int) ≤ (o0.1 4).toInt ∧ (o0.1 4).toInt ≤ 1602) : tt (fTx_isWord_S2 v1 o0) (QTx_isWord_S2 v1 o0) := by
  have H := hTx_isWord_S2 v1 o0 cfFU
  have hm : (17 : Int) ≤ (cfFU : Nat) := by decide
  have r_o0 : Fr (fr_M [] [] []) o0 o0 := fr_rfl
  unfold fTx_isWord_S2 fTx_isWord_S2_0
  refine tt_b (sTx_length _ _ k_o0 (iv_w (a := 0) (b := 8) (by decide) (by decide) i_v1) f_o0_4) (fun q1 hq1 => ?_)
  obtain ⟨i_q1, zq1_0, -⟩ := hq1
  have zq1_0 : q1.toInt = (o0.2.1 2 v1.toNatClampNeg).toInt - (o0.2.1 1 v1.toNatClampNeg).toInt := zq1_0
  refine tt_b (sJString_length__S2  ) (fun q2 hq2 => ?_)
  obtain ⟨i_q2, -⟩ := hq2
  refine tt_if (fun c3 => ?_) (fun c3 => ?_)
  · have wc3 : q1.toInt = q2.toInt := c_eq c3
    have i4 : (7 : Int) ≤ q1.toInt ∧ q1.toInt ≤ 7 := nr_eql c3 i_q1 i_q2 (by decide) (by decide)
    have t5 : (0 : Int) ≤ (o0.2.1 2 v1.toNatClampNeg).toInt ∧ (o0.2.1 2 v1.toNatClampNeg).toInt ≤ 1600 := k_o0.2 2 _
    have t6 : (0 : Int) ≤ (o0.2.1 1 v1.toNatClampNeg).toInt ∧ (o0.2.1 1 v1.toNatClampNeg).toInt ≤ 1599 := k_o0.2 1 _
    exact H _ _ _ k_o0 r_o0 i_v1 (iv_w (a := 0) (b := 7) (by decide) (by decide) (show (0 : Int) ≤ (0 : Int32).toInt ∧ (0 : Int32).toInt ≤ 0 by decide)) f_o0_4 (show (o0.2.1 2 v1.toNatClampNeg).toInt - (o0.2.1 1 v1.toNatClampNeg).toInt = 7 by omega) (show 0 + (7 - 0) * 2 < ((cfFU : Nat) : Int) by omega)
  · have wc3 : ¬ q1.toInt = q2.toInt := c_ne c3
    exact tt_some ⟨(iv_w (a := 0) (b := 1) (by decide) (by decide) (show (0 : Int) ≤ (0 : Int32).toInt ∧ (0 : Int32).toInt ≤ 0 by decide)), trivial⟩
def QNl_takeNames_Nl3 (v2 : Int32) (v3 : Int32) (o0 : cf_O) (o1 : cf_O) (r : (Int32 × cf_O)) : Prop := ((0 : Int) ≤ r.1.toInt ∧ r.1.toInt ≤ 1) ∧ (okO I_Nl r.2) ∧ (Fr (fr_M [] [] [3]) o1 r.2) ∧ (r.1.toInt = 0 ∨ (2 ≤ (o0.1 5).toInt ∧ (o0.1 5).toInt ≤ v3.toInt + 1)) ∧ True
def HNl_takeNames_Nl3 (yv2 : Int32) (yv3 : Int32) (yo0 : cf_O) (yo1 : cf_O) (n : Nat) : Prop := (∀ (v2 : Int32) (v4 : Int32) (v5 : Int32) (o0 : cf_O) (o1 : cf_O), (okO I_Tx o0) → (Fr (fr_M [] [] []) yo0 o0) → (okO I_Nl o1) → (Fr (fr_M [] [] [3]) yo1 o1) → ((0 : Int) ≤ v2.toInt ∧ v2.toInt ≤ 0) → ((1 : Int) ≤ v4.toInt ∧ v4.toInt ≤ 8) → ((0 : Int) ≤ v5.toInt ∧ v5.toInt ≤ 8) → ((0 : Int) ≤ (o0.1 4).toInt ∧ (o0.1 4).toInt ≤ 1602) → ((2 : Int) ≤ (o0.1 5).toInt ∧ (o0.1 5).toInt ≤ 9) → (v4.toInt = (o0.1 5).toInt - 1) → (v4.toInt ≤ yv3.toInt) → (1 ≤ v4.toInt) → 0 + (8 - v5.toInt) * 2 < (n : Int) → tt (gNl_takeNames_Nl3 n 0 v2 v4 v5 o0 o1) (QNl_takeNames_Nl3 yv2 yv3 yo0 yo1))
set_option maxHeartbeats 4000000 in
set_option maxRecDepth 100000 in
theorem tNl_takeNames_Nl3_25 {yv2 : Int32} {yv3 : Int32} {yo0 : cf_O} {yo1 : cf_O} {n : Nat} (H : HNl_takeNames_Nl3 yv2 yv3 yo0 yo1 n) (v2 : Int32) (v4 : Int32) (v5 : Int32) (o0 : cf_O) (o1 : cf_O) (k_o0 : okO I_Tx o0) (r_o0 : Fr (fr_M [] [] []) yo0 o0) (k_o1 : okO I_Nl o1) (r_o1 : Fr (fr_M [] [] [3]) yo1 o1) (i_v2 : (0 : Int) ≤ v2.toInt ∧ v2.toInt ≤ 0) (i_v4 : (1 : Int) ≤ v4.toInt ∧ v4.toInt ≤ 8) (i_v5 : (0 : Int) ≤ v5.toInt ∧ v5.toInt ≤ 8) (f_o0_4 : (0 : Int) ≤ (o0.1 4).toInt ∧ (o0.1 4).toInt ≤ 1602) (f_o0_5 : (2 : Int) ≤ (o0.1 5).toInt ∧ (o0.1 5).toInt ≤ 9) (x_0 : v4.toInt = (o0.1 5).toInt - 1) (x_1 : v4.toInt ≤ yv3.toInt) (x_2 : 1 ≤ v4.toInt) (hm : 0 + (8 - v5.toInt) * 2 ≤ (n : Int)) : tt (fNl_takeNames_Nl3_25 (gNl_takeNames_Nl3 n) v2 v4 v5 o0 o1) (QNl_takeNames_Nl3 yv2 yv3 yo0 yo1) := by
  unfold fNl_takeNames_Nl3_25
  have ey_o0_5 : (o0.1 5).toInt = (yo0.1 5).toInt := congrArg Int32.toInt (r_o0.1 5 rfl)
  have g_o1_5 : (0 : Int) ≤ (o1.1 5).toInt ∧ (o1.1 5).toInt ≤ 2147483647 := k_o1.1 5
  have ey_o1_5 : (o1.1 5).toInt = (yo1.1 5).toInt := congrArg Int32.toInt (r_o1.1 5 rfl)
  refine tt_if (fun c1 => ?_) (fun c1 => ?_)
  · have wc1 : v4.toInt ≤ v5.toInt := c_le c1
    have i2 : (1 : Int) ≤ v5.toInt ∧ v5.toInt ≤ 8 := nr_ler c1 i_v4 i_v5 (by decide) (by decide)
    exact tt_some ⟨(iv_w (a := 0) (b := 1) (by decide) (by decide) (show (1 : Int) ≤ (1 : Int32).toInt ∧ (1 : Int32).toInt ≤ 1 by decide)), k_o1, r_o1, (show 1 = 0 ∨ (2 ≤ (yo0.1 5).toInt ∧ (yo0.1 5).toInt ≤ yv3.toInt + 1) by omega), trivial⟩
  · have wc1 : v5.toInt < v4.toInt := c_nle c1
    have i3 : (0 : Int) ≤ v5.toInt ∧ v5.toInt ≤ 7 := nr_nlel c1 i_v5 i_v4 (by decide) (by decide)
    refine tt_kv (P := fun z => ((0 : Int) ≤ z.toInt ∧ z.toInt ≤ 7) ∧ z.toInt = v2.toInt + v5.toInt) ⟨iv_add i_v2 i3 (by decide) (by decide) (by decide) (by decide), iq_add i_v2 i3 (by decide) (by decide)⟩ (fun x4 qi5 => ?_)
    obtain ⟨i5, ei5⟩ := qi5
    refine tt_kv (P := fun z => ((1 : Int) ≤ z.toInt ∧ z.toInt ≤ 8) ∧ z.toInt = v5.toInt + 1) ⟨iv_add i3 (show (1 : Int) ≤ (1 : Int32).toInt ∧ (1 : Int32).toInt ≤ 1 by decide) (by decide) (by decide) (by decide) (by decide), iq_add i3 (show (1 : Int) ≤ (1 : Int32).toInt ∧ (1 : Int32).toInt ≤ 1 by decide) (by decide) (by decide)⟩ (fun x6 qi7 => ?_)
    obtain ⟨i7, ei7⟩ := qi7
    refine tt_b (sTx_name _ _ k_o0 i7 f_o0_4 f_o0_5) (fun q8 hq8 => ?_)
    refine tt_n (ix_ok i5 (by decide) (by decide)) ?_
    refine tt_ko ?_
    have k9 := ok_yp (k := 3) (i := x4.toNatClampNeg) (v := q8) k_o1
    have r10 := fr_yp (k := 3) (i := x4.toNatClampNeg) (v := q8) r_o1 rfl
    refine tt_kv (P := fun z => ((0 : Int) ≤ z.toInt ∧ z.toInt ≤ 7) ∧ z.toInt = v2.toInt + v5.toInt) ⟨iv_add i_v2 i3 (by decide) (by decide) (by decide) (by decide), iq_add i_v2 i3 (by decide) (by decide)⟩ (fun x11 qi12 => ?_)
    obtain ⟨i12, ei12⟩ := qi12
    refine tt_n (ix_ok i12 (by decide) (by decide)) ?_
    refine tt_kl (fun x13 => ?_)
    refine tt_kv (P := fun z => ((-2147483648) : Int) ≤ z.toInt ∧ z.toInt ≤ 2147483647) (iv_top _) (fun x14 i15 => ?_)
    refine tt_if (fun c16 => ?_) (fun c16 => ?_)
    · have wc16 : x14.toInt = (0 : Int) := c_eq c16
      have i17 : (0 : Int) ≤ x14.toInt ∧ x14.toInt ≤ 0 := nr_eql c16 i15 (show (0 : Int) ≤ (0 : Int32).toInt ∧ (0 : Int32).toInt ≤ 0 by decide) (by decide) (by decide)
      exact tt_some ⟨(iv_w (a := 0) (b := 1) (by decide) (by decide) (show (0 : Int) ≤ (0 : Int32).toInt ∧ (0 : Int32).toInt ≤ 0 by decide)), k9, r10, (show 0 = 0 ∨ (2 ≤ (yo0.1 5).toInt ∧ (yo0.1 5).toInt ≤ yv3.toInt + 1) by omega), trivial⟩
    · have wc16 : ¬ x14.toInt = (0 : Int) := c_ne c16
      refine tt_kv (P := fun z => ((1 : Int) ≤ z.toInt ∧ z.toInt ≤ 8) ∧ z.toInt = v5.toInt + 1) ⟨iv_add i3 (show (1 : Int) ≤ (1 : Int32).toInt ∧ (1 : Int32).toInt ≤ 1 by decide) (by decide) (by decide) (by decide) (by decide), iq_add i3 (show (1 : Int) ≤ (1 : Int32).toInt ∧ (1 : Int32).toInt ≤ 1 by decide) (by decide) (by decide)⟩ (fun x18 qi19 => ?_)
      obtain ⟨i19, ei19⟩ := qi19
      exact H _ _ _ _ _ k_o0 r_o0 k9 r10 i_v2 i_v4 (iv_w (a := 0) (b := 8) (by decide) (by decide) i19) f_o0_4 f_o0_5 (show v4.toInt = (o0.1 5).toInt - 1 by omega) (show v4.toInt ≤ yv3.toInt by omega) (show 1 ≤ v4.toInt by omega) (show 0 + (8 - x18.toInt) * 2 < (n : Int) by omega)
set_option maxHeartbeats 4000000 in
set_option maxRecDepth 100000 in
theorem hNl_takeNames_Nl3 (yv2 : Int32) (yv3 : Int32) (yo0 : cf_O) (yo1 : cf_O) : ∀ n, HNl_takeNames_Nl3 yv2 yv3 yo0 yo1 n := by
  intro n
  induction n with
  | zero => exact (fun v2 v4 v5 o0 o1 k_o0 r_o0 k_o1 r_o1 i_v2 i_v4 i_v5 f_o0_4 f_o0_5 x_0 x_1 x_2 hm => by exact absurd (show 0 + (8 - v5.toInt) * 2 < (0 : Int) from hm) (by omega))
  | succ n ih => exact (fun v2 v4 v5 o0 o1 k_o0 r_o0 k_o1 r_o1 i_v2 i_v4 i_v5 f_o0_4 f_o0_5 x_0 x_1 x_2 hm => tNl_takeNames_Nl3_25 ih v2 v4 v5 o0 o1 k_o0 r_o0 k_o1 r_o1 i_v2 i_v4 i_v5 f_o0_4 f_o0_5 x_0 x_1 x_2 (by omega))
set_option maxHeartbeats 4000000 in
set_option maxRecDepth 100000 in
theorem sNl_takeNames_Nl3 (v2 : Int32) (v3 : Int32) (o0 : cf_O) (o1 : cf_O) (k_o0 : okO I_Tx o0) (k_o1 : okO I_Nl o1) (i_v2 : (0 : Int) ≤ v2.toInt ∧ v2.toInt ≤ 0) (i_v3 : (8 : Int) ≤ v3.toInt ∧ v3.toInt ≤ 8) (f_o0_4 : (0 : Int) ≤ (o0.1 4).toInt ∧ (o0.1 4).toInt ≤ 1602) : tt (fNl_takeNames_Nl3 v2 v3 o0 o1) (QNl_takeNames_Nl3 v2 v3 o0 o1) := by
  have H := hNl_takeNames_Nl3 v2 v3 o0 o1 cfFU
  have hm : (19 : Int) ≤ (cfFU : Nat) := by decide
  have r_o0 : Fr (fr_M [] [] []) o0 o0 := fr_rfl
  have r_o1 : Fr (fr_M [] [] [3]) o1 o1 := fr_rfl
  unfold fNl_takeNames_Nl3 fNl_takeNames_Nl3_0
  have g_o0_5 : (0 : Int) ≤ (o0.1 5).toInt ∧ (o0.1 5).toInt ≤ 10 := k_o0.1 5
  have g_o1_5 : (0 : Int) ≤ (o1.1 5).toInt ∧ (o1.1 5).toInt ≤ 2147483647 := k_o1.1 5
  refine tt_kv (P := fun z => (((-1) : Int) ≤ z.toInt ∧ z.toInt ≤ 9) ∧ z.toInt = (o0.1 5).toInt - 1) ⟨iv_sub (k_o0.1 5) (show (1 : Int) ≤ (1 : Int32).toInt ∧ (1 : Int32).toInt ≤ 1 by decide) (by decide) (by decide) (by decide) (by decide), iq_sub (k_o0.1 5) (show (1 : Int) ≤ (1 : Int32).toInt ∧ (1 : Int32).toInt ≤ 1 by decide) (by decide) (by decide)⟩ (fun x1 qi2 => ?_)
  obtain ⟨i2, ei2⟩ := qi2
  refine tt_if (fun c3 => ?_) (fun c3 => ?_)
  · have wc3 : x1.toInt < (1 : Int) := c_lt c3
    have i4 : ((-1) : Int) ≤ x1.toInt ∧ x1.toInt ≤ 0 := nr_ltl c3 i2 (show (1 : Int) ≤ (1 : Int32).toInt ∧ (1 : Int32).toInt ≤ 1 by decide) (by decide) (by decide)
    have i5 : (0 : Int) ≤ (o0.1 5).toInt ∧ (o0.1 5).toInt ≤ 1 := by omega
    try unfold fNl_takeNames_Nl3_20
    exact tt_some ⟨(iv_w (a := 0) (b := 1) (by decide) (by decide) (show (0 : Int) ≤ (0 : Int32).toInt ∧ (0 : Int32).toInt ≤ 0 by decide)), k_o1, r_o1, (show 0 = 0 ∨ (2 ≤ (o0.1 5).toInt ∧ (o0.1 5).toInt ≤ v3.toInt + 1) by omega), trivial⟩
  · have wc3 : (1 : Int) ≤ x1.toInt := c_nlt c3
    have i6 : (1 : Int) ≤ x1.toInt ∧ x1.toInt ≤ 9 := nr_nltr c3 (show (1 : Int) ≤ (1 : Int32).toInt ∧ (1 : Int32).toInt ≤ 1 by decide) i2 (by decide) (by decide)
    have i7 : (2 : Int) ≤ (o0.1 5).toInt ∧ (o0.1 5).toInt ≤ 10 := by omega
    refine tt_if (fun c8 => ?_) (fun c8 => ?_)
    · have wc8 : x1.toInt ≤ v3.toInt := c_le c8
      have i9 : (1 : Int) ≤ x1.toInt ∧ x1.toInt ≤ 8 := nr_lel c8 i6 i_v3 (by decide) (by decide)
      have i10 : (2 : Int) ≤ (o0.1 5).toInt ∧ (o0.1 5).toInt ≤ 9 := by omega
      exact H _ _ _ _ _ k_o0 r_o0 k_o1 r_o1 i_v2 i9 (iv_w (a := 0) (b := 8) (by decide) (by decide) (show (0 : Int) ≤ (0 : Int32).toInt ∧ (0 : Int32).toInt ≤ 0 by decide)) f_o0_4 i10 (show x1.toInt = (o0.1 5).toInt - 1 by omega) (show x1.toInt ≤ v3.toInt by omega) (show 1 ≤ x1.toInt by omega) (show 0 + (8 - 0) * 2 < ((cfFU : Nat) : Int) by omega)
    · have wc8 : v3.toInt < x1.toInt := c_nle c8
      have i11 : (9 : Int) ≤ x1.toInt ∧ x1.toInt ≤ 9 := nr_nler c8 i_v3 i6 (by decide) (by decide)
      have i12 : (10 : Int) ≤ (o0.1 5).toInt ∧ (o0.1 5).toInt ≤ 10 := by omega
      try unfold fNl_takeNames_Nl3_20
      exact tt_some ⟨(iv_w (a := 0) (b := 1) (by decide) (by decide) (show (0 : Int) ≤ (0 : Int32).toInt ∧ (0 : Int32).toInt ≤ 0 by decide)), k_o1, r_o1, (show 0 = 0 ∨ (2 ≤ (o0.1 5).toInt ∧ (o0.1 5).toInt ≤ v3.toInt + 1) by omega), trivial⟩
def QNl_hasTwice_Nl3 (v1 : Int32) (o0 : cf_O) (r : (Int32)) : Prop := ((0 : Int) ≤ r.toInt ∧ r.toInt ≤ 1) ∧ True
def HNl_hasTwice_Nl3 (yv1 : Int32) (yo0 : cf_O) (n : Nat) : Prop := (∀ (v1 : Int32) (v2 : Int32) (o0 : cf_O), (okO I_Nl o0) → (Fr (fr_M [] [] []) yo0 o0) → ((0 : Int) ≤ v1.toInt ∧ v1.toInt ≤ 8) → ((0 : Int) ≤ v2.toInt ∧ v2.toInt ≤ 8) → 0 + (8 - v2.toInt) * 18 < (n : Int) → tt (gNl_hasTwice_Nl3 n 0 v1 v2 0 o0) (QNl_hasTwice_Nl3 yv1 yo0)) ∧ (∀ (v1 : Int32) (v2 : Int32) (v3 : Int32) (o0 : cf_O), (okO I_Nl o0) → (Fr (fr_M [] [] []) yo0 o0) → ((1 : Int) ≤ v1.toInt ∧ v1.toInt ≤ 8) → ((0 : Int) ≤ v2.toInt ∧ v2.toInt ≤ 7) → ((0 : Int) ≤ v3.toInt ∧ v3.toInt ≤ 7) → 0 + (8 - v2.toInt - 1) * 18 + 1 + (7 - v3.toInt) * 2 < (n : Int) → tt (gNl_hasTwice_Nl3 n 1 v1 v2 v3 o0) (QNl_hasTwice_Nl3 yv1 yo0))
set_option maxHeartbeats 4000000 in
set_option maxRecDepth 100000 in
theorem tNl_hasTwice_Nl3_9 {yv1 : Int32} {yo0 : cf_O} {n : Nat} (H : HNl_hasTwice_Nl3 yv1 yo0 n) (v1 : Int32) (v2 : Int32) (v3 : Int32) (o0 : cf_O) (k_o0 : okO I_Nl o0) (r_o0 : Fr (fr_M [] [] []) yo0 o0) (i_v1 : (1 : Int) ≤ v1.toInt ∧ v1.toInt ≤ 8) (i_v2 : (0 : Int) ≤ v2.toInt ∧ v2.toInt ≤ 7) (i_v3 : (0 : Int) ≤ v3.toInt ∧ v3.toInt ≤ 7) (hm : 0 + (8 - v2.toInt - 1) * 18 + 1 + (7 - v3.toInt) * 2 ≤ (n : Int)) : tt (fNl_hasTwice_Nl3_9 (gNl_hasTwice_Nl3 n) v1 v2 v3 o0) (QNl_hasTwice_Nl3 yv1 yo0) := by
  unfold fNl_hasTwice_Nl3_9
  refine tt_if (fun c1 => ?_) (fun c1 => ?_)
  · refine tt_kv (P := fun z => ((1 : Int) ≤ z.toInt ∧ z.toInt ≤ 8) ∧ z.toInt = v2.toInt + 1) ⟨iv_add i_v2 (show (1 : Int) ≤ (1 : Int32).toInt ∧ (1 : Int32).toInt ≤ 1 by decide) (by decide) (by decide) (by decide) (by decide), iq_add i_v2 (show (1 : Int) ≤ (1 : Int32).toInt ∧ (1 : Int32).toInt ≤ 1 by decide) (by decide) (by decide)⟩ (fun x2 qi3 => ?_)
    obtain ⟨i3, ei3⟩ := qi3
    exact H.1 _ _ _ k_o0 r_o0 (iv_w (a := 0) (b := 8) (by decide) (by decide) i_v1) (iv_w (a := 0) (b := 8) (by decide) (by decide) i3) (show 0 + (8 - x2.toInt) * 18 < (n : Int) by omega)
  · have i4 : (0 : Int) ≤ v3.toInt ∧ v3.toInt ≤ 6 := nr_nlel c1 i_v3 i_v2 (by decide) (by decide)
    have i5 : (1 : Int) ≤ v2.toInt ∧ v2.toInt ≤ 7 := nr_nler c1 i_v3 i_v2 (by decide) (by decide)
    refine tt_n (ix_ok i5 (by decide) (by decide)) ?_
    refine tt_kl (fun x6 => ?_)
    refine tt_n (ix_ok i4 (by decide) (by decide)) ?_
    refine tt_kl (fun x7 => ?_)
    refine tt_kv (P := fun z => ((-2147483648) : Int) ≤ z.toInt ∧ z.toInt ≤ 2147483647) (iv_top _) (fun x8 i9 => ?_)
    refine tt_if (fun c10 => ?_) (fun c10 => ?_)
    · have i11 : (0 : Int) ≤ x8.toInt ∧ x8.toInt ≤ 0 := nr_eql c10 i9 (show (0 : Int) ≤ (0 : Int32).toInt ∧ (0 : Int32).toInt ≤ 0 by decide) (by decide) (by decide)
      exact tt_some ⟨(iv_w (a := 0) (b := 1) (by decide) (by decide) (show (1 : Int) ≤ (1 : Int32).toInt ∧ (1 : Int32).toInt ≤ 1 by decide)), trivial⟩
    · refine tt_kv (P := fun z => ((1 : Int) ≤ z.toInt ∧ z.toInt ≤ 7) ∧ z.toInt = v3.toInt + 1) ⟨iv_add i4 (show (1 : Int) ≤ (1 : Int32).toInt ∧ (1 : Int32).toInt ≤ 1 by decide) (by decide) (by decide) (by decide) (by decide), iq_add i4 (show (1 : Int) ≤ (1 : Int32).toInt ∧ (1 : Int32).toInt ≤ 1 by decide) (by decide) (by decide)⟩ (fun x12 qi13 => ?_)
      obtain ⟨i13, ei13⟩ := qi13
      exact H.2 _ _ _ _ k_o0 r_o0 i_v1 (iv_w (a := 0) (b := 7) (by decide) (by decide) i5) (iv_w (a := 0) (b := 7) (by decide) (by decide) i13) (show 0 + (8 - v2.toInt - 1) * 18 + 1 + (7 - x12.toInt) * 2 < (n : Int) by omega)
set_option maxHeartbeats 4000000 in
set_option maxRecDepth 100000 in
theorem tNl_hasTwice_Nl3_2 {yv1 : Int32} {yo0 : cf_O} {n : Nat} (H : HNl_hasTwice_Nl3 yv1 yo0 n) (v1 : Int32) (v2 : Int32) (o0 : cf_O) (k_o0 : okO I_Nl o0) (r_o0 : Fr (fr_M [] [] []) yo0 o0) (i_v1 : (0 : Int) ≤ v1.toInt ∧ v1.toInt ≤ 8) (i_v2 : (0 : Int) ≤ v2.toInt ∧ v2.toInt ≤ 8) (hm : 0 + (8 - v2.toInt) * 18 ≤ (n : Int)) : tt (fNl_hasTwice_Nl3_2 (gNl_hasTwice_Nl3 n) v1 v2 o0) (QNl_hasTwice_Nl3 yv1 yo0) := by
  unfold fNl_hasTwice_Nl3_2
  refine tt_if (fun c1 => ?_) (fun c1 => ?_)
  · exact tt_some ⟨(iv_w (a := 0) (b := 1) (by decide) (by decide) (show (0 : Int) ≤ (0 : Int32).toInt ∧ (0 : Int32).toInt ≤ 0 by decide)), trivial⟩
  · have i2 : (0 : Int) ≤ v2.toInt ∧ v2.toInt ≤ 7 := nr_nlel c1 i_v2 i_v1 (by decide) (by decide)
    have i3 : (1 : Int) ≤ v1.toInt ∧ v1.toInt ≤ 8 := nr_nler c1 i_v2 i_v1 (by decide) (by decide)
    exact H.2 _ _ _ _ k_o0 r_o0 i3 i2 (iv_w (a := 0) (b := 7) (by decide) (by decide) (show (0 : Int) ≤ (0 : Int32).toInt ∧ (0 : Int32).toInt ≤ 0 by decide)) (show 0 + (8 - v2.toInt - 1) * 18 + 1 + (7 - 0) * 2 < (n : Int) by omega)
set_option maxHeartbeats 4000000 in
set_option maxRecDepth 100000 in
theorem hNl_hasTwice_Nl3 (yv1 : Int32) (yo0 : cf_O) : ∀ n, HNl_hasTwice_Nl3 yv1 yo0 n := by
  intro n
  induction n with
  | zero => exact ⟨(fun v1 v2 o0 k_o0 r_o0 i_v1 i_v2 hm => by exact absurd (show 0 + (8 - v2.toInt) * 18 < (0 : Int) from hm) (by omega)), (fun v1 v2 v3 o0 k_o0 r_o0 i_v1 i_v2 i_v3 hm => by exact absurd (show 0 + (8 - v2.toInt - 1) * 18 + 1 + (7 - v3.toInt) * 2 < (0 : Int) from hm) (by omega))⟩
  | succ n ih => exact ⟨(fun v1 v2 o0 k_o0 r_o0 i_v1 i_v2 hm => tNl_hasTwice_Nl3_2 ih v1 v2 o0 k_o0 r_o0 i_v1 i_v2 (by omega)), (fun v1 v2 v3 o0 k_o0 r_o0 i_v1 i_v2 i_v3 hm => tNl_hasTwice_Nl3_9 ih v1 v2 v3 o0 k_o0 r_o0 i_v1 i_v2 i_v3 (by omega))⟩
set_option maxHeartbeats 4000000 in
set_option maxRecDepth 100000 in
theorem sNl_hasTwice_Nl3 (v1 : Int32) (o0 : cf_O) (k_o0 : okO I_Nl o0) (i_v1 : (0 : Int) ≤ v1.toInt ∧ v1.toInt ≤ 8) (f_o0_0 : (0 : Int) ≤ (o0.1 0).toInt ∧ (o0.1 0).toInt ≤ 8) : tt (fNl_hasTwice_Nl3 v1 o0) (QNl_hasTwice_Nl3 v1 o0) := by
  have H := hNl_hasTwice_Nl3 v1 o0 cfFU
  have hm : (147 : Int) ≤ (cfFU : Nat) := by decide
  have r_o0 : Fr (fr_M [] [] []) o0 o0 := fr_rfl
  unfold fNl_hasTwice_Nl3 fNl_hasTwice_Nl3_0
  exact H.1 _ _ _ k_o0 r_o0 i_v1 (iv_w (a := 0) (b := 8) (by decide) (by decide) (show (0 : Int) ≤ (0 : Int32).toInt ∧ (0 : Int32).toInt ≤ 0 by decide)) (show 0 + (8 - 0) * 18 < ((cfFU : Nat) : Int) by omega)
def QNl_scanInputs (o0 : cf_O) (o1 : cf_O) (r : (Int32 × cf_O)) : Prop := ((0 : Int) ≤ r.1.toInt ∧ r.1.toInt ≤ 2) ∧ (okO I_Nl r.2) ∧ (Fr (fr_M [0] [] [3]) o0 r.2) ∧ True
set_option maxHeartbeats 4000000 in
set_option maxRecDepth 100000 in
theorem sNl_scanInputs (o0 : cf_O) (o1 : cf_O) (k_o0 : okO I_Nl o0) (k_o1 : okO I_Tx o1) (f_o1_4 : (0 : Int) ≤ (o1.1 4).toInt ∧ (o1.1 4).toInt ≤ 1602) : tt (fNl_scanInputs o0 o1) (QNl_scanInputs o0 o1) := by
  have r_o0 : Fr (fr_M [0] [] [3]) o0 o0 := fr_rfl
  have r_o1 : Fr (fr_M [] [] []) o1 o1 := fr_rfl
  unfold fNl_scanInputs fNl_scanInputs_0
  have g_o0_5 : (0 : Int) ≤ (o0.1 5).toInt ∧ (o0.1 5).toInt ≤ 2147483647 := k_o0.1 5
  have g_o0_6 : (0 : Int) ≤ (o0.1 6).toInt ∧ (o0.1 6).toInt ≤ 30 := k_o0.1 6
  have g_o1_5 : (0 : Int) ≤ (o1.1 5).toInt ∧ (o1.1 5).toInt ≤ 10 := k_o1.1 5
  have g_o1_6 : (0 : Int) ≤ (o1.1 6).toInt ∧ (o1.1 6).toInt ≤ 1601 := k_o1.1 6
  refine tt_b (sTx_isWord_S2 _ _ k_o1 (show (0 : Int) ≤ (0 : Int32).toInt ∧ (0 : Int32).toInt ≤ 0 by decide) f_o1_4) (fun q1 hq1 => ?_)
  obtain ⟨i_q1, -⟩ := hq1
  refine tt_if (fun c2 => ?_) (fun c2 => ?_)
  · have wc2 : q1.toInt = (0 : Int) := c_eq c2
    have i3 : (0 : Int) ≤ q1.toInt ∧ q1.toInt ≤ 0 := nr_eql c2 i_q1 (show (0 : Int) ≤ (0 : Int32).toInt ∧ (0 : Int32).toInt ≤ 0 by decide) (by decide) (by decide)
    try unfold fNl_scanInputs_24
    exact tt_some ⟨(iv_w (a := 0) (b := 2) (by decide) (by decide) (show (1 : Int) ≤ (1 : Int32).toInt ∧ (1 : Int32).toInt ≤ 1 by decide)), k_o0, r_o0, trivial⟩
  · have wc2 : ¬ q1.toInt = (0 : Int) := c_ne c2
    have i4 : (1 : Int) ≤ q1.toInt ∧ q1.toInt ≤ 1 := nr_nela c2 i_q1 (show (0 : Int) ≤ (0 : Int32).toInt ∧ (0 : Int32).toInt ≤ 0 by decide) (by decide) (by decide)
    refine tt_b (sNl_takeNames_Nl3 _ _ _ _ k_o1 k_o0 (show (0 : Int) ≤ (0 : Int32).toInt ∧ (0 : Int32).toInt ≤ 0 by decide) (show (8 : Int) ≤ (8 : Int32).toInt ∧ (8 : Int32).toInt ≤ 8 by decide) f_o1_4) (fun q5 hq5 => ?_)
    obtain ⟨i_q5, k_q5_2, n_q5_2, zq5_0, -⟩ := hq5
    have r_q5_2 := fr_tr r_o0 n_q5_2 rfl rfl rfl
    have e_q5_2_5 : (q5.2.1 5).toInt = (o0.1 5).toInt := congrArg Int32.toInt (n_q5_2.1 5 rfl)
    have g_q5_2_5 : (0 : Int) ≤ (q5.2.1 5).toInt ∧ (q5.2.1 5).toInt ≤ 2147483647 := k_q5_2.1 5
    have e_q5_2_6 : (q5.2.1 6).toInt = (o0.1 6).toInt := congrArg Int32.toInt (n_q5_2.1 6 rfl)
    have g_q5_2_6 : (0 : Int) ≤ (q5.2.1 6).toInt ∧ (q5.2.1 6).toInt ≤ 30 := k_q5_2.1 6
    have zq5_0 : q5.1.toInt = 0 ∨ (2 ≤ (o1.1 5).toInt ∧ (o1.1 5).toInt ≤ 8 + 1) := zq5_0
    refine tt_if (fun c6 => ?_) (fun c6 => ?_)
    · have wc6 : q5.1.toInt = (0 : Int) := c_eq c6
      have i7 : (0 : Int) ≤ q5.1.toInt ∧ q5.1.toInt ≤ 0 := nr_eql c6 i_q5 (show (0 : Int) ≤ (0 : Int32).toInt ∧ (0 : Int32).toInt ≤ 0 by decide) (by decide) (by decide)
      try unfold fNl_scanInputs_24
      exact tt_some ⟨(iv_w (a := 0) (b := 2) (by decide) (by decide) (show (1 : Int) ≤ (1 : Int32).toInt ∧ (1 : Int32).toInt ≤ 1 by decide)), k_q5_2, r_q5_2, trivial⟩
    · have wc6 : ¬ q5.1.toInt = (0 : Int) := c_ne c6
      have i8 : (1 : Int) ≤ q5.1.toInt ∧ q5.1.toInt ≤ 1 := nr_nela c6 i_q5 (show (0 : Int) ≤ (0 : Int32).toInt ∧ (0 : Int32).toInt ≤ 0 by decide) (by decide) (by decide)
      refine tt_kv (P := fun z => (((-1) : Int) ≤ z.toInt ∧ z.toInt ≤ 9) ∧ z.toInt = (o1.1 5).toInt - 1) ⟨iv_sub (k_o1.1 5) (show (1 : Int) ≤ (1 : Int32).toInt ∧ (1 : Int32).toInt ≤ 1 by decide) (by decide) (by decide) (by decide) (by decide), iq_sub (k_o1.1 5) (show (1 : Int) ≤ (1 : Int32).toInt ∧ (1 : Int32).toInt ≤ 1 by decide) (by decide) (by decide)⟩ (fun x9 qi10 => ?_)
      obtain ⟨i10, ei10⟩ := qi10
      refine tt_ko ?_
      have k11 := ok_fp (k := 0) (v := x9) k_q5_2 (show (0 : Int) ≤ _ ∧ _ ≤ (8 : Int) by omega)
      have i12 : (0 : Int) ≤ x9.toInt ∧ x9.toInt ≤ 8 := (by omega)
      have i13 : (1 : Int) ≤ (o1.1 5).toInt ∧ (o1.1 5).toInt ≤ 9 := by omega
      have r14 := fr_fp (k := 0) (v := x9) r_q5_2 rfl
      refine tt_b (sNl_hasTwice_Nl3 _ _ k11 i12 i12) (fun q15 hq15 => ?_)
      obtain ⟨i_q15, -⟩ := hq15
      refine tt_if (fun c16 => ?_) (fun c16 => ?_)
      · have wc16 : q15.toInt = (0 : Int) := c_eq c16
        have i17 : (0 : Int) ≤ q15.toInt ∧ q15.toInt ≤ 0 := nr_eql c16 i_q15 (show (0 : Int) ≤ (0 : Int32).toInt ∧ (0 : Int32).toInt ≤ 0 by decide) (by decide) (by decide)
        try unfold fNl_scanInputs_55
        exact tt_some ⟨(iv_w (a := 0) (b := 2) (by decide) (by decide) (show (0 : Int) ≤ (0 : Int32).toInt ∧ (0 : Int32).toInt ≤ 0 by decide)), k11, r14, trivial⟩
      · have wc16 : ¬ q15.toInt = (0 : Int) := c_ne c16
        have i18 : (1 : Int) ≤ q15.toInt ∧ q15.toInt ≤ 1 := nr_nela c16 i_q15 (show (0 : Int) ≤ (0 : Int32).toInt ∧ (0 : Int32).toInt ≤ 0 by decide) (by decide) (by decide)
        try unfold fNl_scanInputs_55
        exact tt_some ⟨(iv_w (a := 0) (b := 2) (by decide) (by decide) (show (2 : Int) ≤ (2 : Int32).toInt ∧ (2 : Int32).toInt ≤ 2 by decide)), k11, r14, trivial⟩
def QJString_coder__S3  (r : (Int32)) : Prop := ((0 : Int) ≤ r.toInt ∧ r.toInt ≤ 0) ∧ True
set_option maxHeartbeats 4000000 in
set_option maxRecDepth 100000 in
theorem sJString_coder__S3   : tt (fJString_coder__S3 ) (QJString_coder__S3 ) := by
  unfold fJString_coder__S3 fJString_coder__S3_0
  try unfold fJString_coder__S3_14
  refine tt_w (iv_nb (show (0 : Int) ≤ (0 : Int32).toInt ∧ (0 : Int32).toInt ≤ 0 by decide) (by decide) (by decide)) ?_
  exact tt_some ⟨(show (0 : Int) ≤ (0 : Int32).toInt ∧ (0 : Int32).toInt ≤ 0 by decide), trivial⟩
def QJString_length__S3  (r : (Int32)) : Prop := ((8 : Int) ≤ r.toInt ∧ r.toInt ≤ 8) ∧ True
set_option maxHeartbeats 4000000 in
set_option maxRecDepth 100000 in
theorem sJString_length__S3   : tt (fJString_length__S3 ) (QJString_length__S3 ) := by
  unfold fJString_length__S3 fJString_length__S3_0
  refine tt_b (sJString_coder__S3  ) (fun q1 hq1 => ?_)
  obtain ⟨i_q1, -⟩ := hq1
  refine tt_kv (P := fun z => (8 : Int) ≤ z.toInt ∧ z.toInt ≤ 8) (iv_shr (p := 0) (q := 0) (show (8 : Int) ≤ (8 : Int32).toInt ∧ (8 : Int32).toInt ≤ 8 by decide) i_q1 (by decide) (by decide) (by decide) (by decide)) (fun x2 i3 => ?_)
  exact tt_some ⟨i3, trivial⟩
def QJString_isLatin1__S3  (r : (Int32)) : Prop := ((1 : Int) ≤ r.toInt ∧ r.toInt ≤ 1) ∧ True
set_option maxHeartbeats 4000000 in
set_option maxRecDepth 100000 in
theorem sJString_isLatin1__S3   : tt (fJString_isLatin1__S3 ) (QJString_isLatin1__S3 ) := by
  unfold fJString_isLatin1__S3 fJString_isLatin1__S3_0
  try unfold fJString_isLatin1__S3_18
  refine tt_w (iv_b (show (1 : Int) ≤ (1 : Int32).toInt ∧ (1 : Int32).toInt ≤ 1 by decide) (by decide) (by decide)) ?_
  exact tt_some ⟨(show (1 : Int) ≤ (1 : Int32).toInt ∧ (1 : Int32).toInt ≤ 1 by decide), trivial⟩
def QJStringLatin1_charAt_ABI_B3 (v1 : Int32) (r : (Int32)) : Prop := ((0 : Int) ≤ r.toInt ∧ r.toInt ≤ 255) ∧ True
set_option maxHeartbeats 4000000 in
set_option maxRecDepth 100000 in
theorem sJStringLatin1_charAt_ABI_B3 (v1 : Int32) (i_v1 : (0 : Int) ≤ v1.toInt ∧ v1.toInt ≤ 7) : tt (fJStringLatin1_charAt_ABI_B3 v1) (QJStringLatin1_charAt_ABI_B3 v1) := by
  unfold fJStringLatin1_charAt_ABI_B3 fJStringLatin1_charAt_ABI_B3_0
  refine tt_b (sJString_checkIndex_II _ _ (iv_w (a := 0) (b := 89999) (by decide) (by decide) i_v1) (iv_w (a := 0) (b := 90000) (by decide) (by decide) (show (8 : Int) ≤ (8 : Int32).toInt ∧ (8 : Int32).toInt ≤ 8 by decide)) (show 0 ≤ v1.toInt by omega) (show v1.toInt < 8 by omega)) (fun q1 hq1 => ?_)
  refine tt_n (ix_ok i_v1 (by decide) (by decide)) ?_
  refine tt_kv (P := fun z => (0 : Int) ≤ z.toInt ∧ z.toInt ≤ 127) (iv_sb _ _) (fun x2 i3 => ?_)
  refine tt_kv (P := fun z => (0 : Int) ≤ z.toInt ∧ z.toInt ≤ 255) (iv_and (show (255 : Int) ≤ (255 : Int32).toInt ∧ (255 : Int32).toInt ≤ 255 by decide) (by decide) (by decide) (by decide)) (fun x4 i5 => ?_)
  refine tt_kv (P := fun z => (0 : Int) ≤ z.toInt ∧ z.toInt ≤ 255) (iv_c16i i5 (by decide) (by decide)) (fun x6 i7 => ?_)
  refine tt_w (iv_nc i7 (by decide) (by decide)) ?_
  exact tt_some ⟨i7, trivial⟩
def QJString_charAt_I_S3 (v1 : Int32) (r : (Int32)) : Prop := ((0 : Int) ≤ r.toInt ∧ r.toInt ≤ 255) ∧ True
set_option maxHeartbeats 4000000 in
set_option maxRecDepth 100000 in
theorem sJString_charAt_I_S3 (v1 : Int32) (i_v1 : (0 : Int) ≤ v1.toInt ∧ v1.toInt ≤ 7) (x_0 : 0 ≤ v1.toInt) (x_1 : v1.toInt < 8) : tt (fJString_charAt_I_S3 v1) (QJString_charAt_I_S3 v1) := by
  unfold fJString_charAt_I_S3 fJString_charAt_I_S3_0
  refine tt_b (sJString_isLatin1__S3  ) (fun q1 hq1 => ?_)
  obtain ⟨i_q1, -⟩ := hq1
  refine tt_n (iv_nz0 i_q1 (by decide)) ?_
  refine tt_b (sJStringLatin1_charAt_ABI_B3 _ i_v1) (fun q2 hq2 => ?_)
  obtain ⟨i_q2, -⟩ := hq2
  refine tt_w (iv_nc i_q2 (by decide) (by decide)) ?_
  exact tt_some ⟨i_q2, trivial⟩
def QTx_isWord_S3 (v1 : Int32) (o0 : cf_O) (r : (Int32)) : Prop := ((0 : Int) ≤ r.toInt ∧ r.toInt ≤ 1) ∧ True
def HTx_isWord_S3 (yv1 : Int32) (yo0 : cf_O) (n : Nat) : Prop := (∀ (v1 : Int32) (v3 : Int32) (o0 : cf_O), (okO I_Tx o0) → (Fr (fr_M [] [] []) yo0 o0) → ((0 : Int) ≤ v1.toInt ∧ v1.toInt ≤ 0) → ((0 : Int) ≤ v3.toInt ∧ v3.toInt ≤ 8) → ((0 : Int) ≤ (o0.1 4).toInt ∧ (o0.1 4).toInt ≤ 1602) → ((o0.2.1 2 v1.toNatClampNeg).toInt - (o0.2.1 1 v1.toNatClampNeg).toInt = 8) → 0 + (8 - v3.toInt) * 2 < (n : Int) → tt (gTx_isWord_S3 n 0 v1 v3 o0) (QTx_isWord_S3 yv1 yo0))
set_option maxHeartbeats 4000000 in
set_option maxRecDepth 100000 in
theorem tTx_isWord_S3_16 {yv1 : Int32} {yo0 : cf_O} {n : Nat} (H : HTx_isWord_S3 yv1 yo0 n) (v1 : Int32) (v3 : Int32) (o0 : cf_O) (k_o0 : okO I_Tx o0) (r_o0 : Fr (fr_M [] [] []) yo0 o0) (i_v1 : (0 : Int) ≤ v1.toInt ∧ v1.toInt ≤ 0) (i_v3 : (0 : Int) ≤ v3.toInt ∧ v3.toInt ≤ 8) (f_o0_4 : (0 : Int) ≤ (o0.1 4).toInt ∧ (o0.1 4).toInt ≤ 1602) (x_0 : (o0.2.1 2 v1.toNatClampNeg).toInt - (o0.2.1 1 v1.toNatClampNeg).toInt = 8) (hm : 0 + (8 - v3.toInt) * 2 ≤ (n : Int)) : tt (fTx_isWord_S3_16 (gTx_isWord_S3 n) v1 v3 o0) (QTx_isWord_S3 yv1 yo0) := by
  unfold fTx_isWord_S3_16
  refine tt_b (sJString_length__S3  ) (fun q1 hq1 => ?_)
  obtain ⟨i_q1, -⟩ := hq1
  refine tt_if (fun c2 => ?_) (fun c2 => ?_)
  · have wc2 : q1.toInt ≤ v3.toInt := c_le c2
    have i3 : (8 : Int) ≤ v3.toInt ∧ v3.toInt ≤ 8 := nr_ler c2 i_q1 i_v3 (by decide) (by decide)
    exact tt_some ⟨(iv_w (a := 0) (b := 1) (by decide) (by decide) (show (1 : Int) ≤ (1 : Int32).toInt ∧ (1 : Int32).toInt ≤ 1 by decide)), trivial⟩
  · have wc2 : v3.toInt < q1.toInt := c_nle c2
    have i4 : (0 : Int) ≤ v3.toInt ∧ v3.toInt ≤ 7 := nr_nlel c2 i_v3 i_q1 (by decide) (by decide)
    have t5 : (0 : Int) ≤ (o0.2.1 2 v1.toNatClampNeg).toInt ∧ (o0.2.1 2 v1.toNatClampNeg).toInt ≤ 1600 := k_o0.2 2 _
    have t6 : (0 : Int) ≤ (o0.2.1 1 v1.toNatClampNeg).toInt ∧ (o0.2.1 1 v1.toNatClampNeg).toInt ≤ 1599 := k_o0.2 1 _
    refine tt_b (sTx_signOf _ _ _ k_o0 (iv_w (a := 0) (b := 8) (by decide) (by decide) i_v1) (iv_w (a := 0) (b := 1599) (by decide) (by decide) i4) f_o0_4 (show 0 ≤ v3.toInt by omega) (show v3.toInt < (o0.2.1 2 v1.toNatClampNeg).toInt - (o0.2.1 1 v1.toNatClampNeg).toInt by omega)) (fun q7 hq7 => ?_)
    obtain ⟨i_q7, -⟩ := hq7
    refine tt_b (sJString_charAt_I_S3 _ i4 (show 0 ≤ v3.toInt by omega) (show v3.toInt < 8 by omega)) (fun q8 hq8 => ?_)
    obtain ⟨i_q8, -⟩ := hq8
    refine tt_if (fun c9 => ?_) (fun c9 => ?_)
    · have wc9 : q7.toInt = q8.toInt := c_eq c9
      have i10 : (0 : Int) ≤ q7.toInt ∧ q7.toInt ≤ 127 := nr_eql c9 i_q7 i_q8 (by decide) (by decide)
      have i11 : (0 : Int) ≤ q8.toInt ∧ q8.toInt ≤ 127 := nr_eqr c9 i_q7 i_q8 (by decide) (by decide)
      refine tt_kv (P := fun z => ((1 : Int) ≤ z.toInt ∧ z.toInt ≤ 8) ∧ z.toInt = v3.toInt + 1) ⟨iv_add i4 (show (1 : Int) ≤ (1 : Int32).toInt ∧ (1 : Int32).toInt ≤ 1 by decide) (by decide) (by decide) (by decide) (by decide), iq_add i4 (show (1 : Int) ≤ (1 : Int32).toInt ∧ (1 : Int32).toInt ≤ 1 by decide) (by decide) (by decide)⟩ (fun x12 qi13 => ?_)
      obtain ⟨i13, ei13⟩ := qi13
      have t14 : (0 : Int) ≤ (o0.2.1 2 v1.toNatClampNeg).toInt ∧ (o0.2.1 2 v1.toNatClampNeg).toInt ≤ 1600 := k_o0.2 2 _
      have t15 : (0 : Int) ≤ (o0.2.1 1 v1.toNatClampNeg).toInt ∧ (o0.2.1 1 v1.toNatClampNeg).toInt ≤ 1599 := k_o0.2 1 _
      exact H _ _ _ k_o0 r_o0 i_v1 (iv_w (a := 0) (b := 8) (by decide) (by decide) i13) f_o0_4 (show (o0.2.1 2 v1.toNatClampNeg).toInt - (o0.2.1 1 v1.toNatClampNeg).toInt = 8 by omega) (show 0 + (8 - x12.toInt) * 2 < (n : Int) by omega)
    · have wc9 : ¬ q7.toInt = q8.toInt := c_ne c9
      exact tt_some ⟨(iv_w (a := 0) (b := 1) (by decide) (by decide) (show (0 : Int) ≤ (0 : Int32).toInt ∧ (0 : Int32).toInt ≤ 0 by decide)), trivial⟩
set_option maxHeartbeats 4000000 in
set_option maxRecDepth 100000 in
theorem hTx_isWord_S3 (yv1 : Int32) (yo0 : cf_O) : ∀ n, HTx_isWord_S3 yv1 yo0 n := by
  intro n
  induction n with
  | zero => exact (fun v1 v3 o0 k_o0 r_o0 i_v1 i_v3 f_o0_4 x_0 hm => by exact absurd (show 0 + (8 - v3.toInt) * 2 < (0 : Int) from hm) (by omega))
  | succ n ih => exact (fun v1 v3 o0 k_o0 r_o0 i_v1 i_v3 f_o0_4 x_0 hm => tTx_isWord_S3_16 ih v1 v3 o0 k_o0 r_o0 i_v1 i_v3 f_o0_4 x_0 (by omega))
set_option maxHeartbeats 4000000 in
set_option maxRecDepth 100000 in
theorem sTx_isWord_S3 (v1 : Int32) (o0 : cf_O) (k_o0 : okO I_Tx o0) (i_v1 : (0 : Int) ≤ v1.toInt ∧ v1.toInt ≤ 0) (f_o0_4 : (0 : Int) ≤ (o0.1 4).toInt ∧ (o0.1 4).toInt ≤ 1602) : tt (fTx_isWord_S3 v1 o0) (QTx_isWord_S3 v1 o0) := by
  have H := hTx_isWord_S3 v1 o0 cfFU
  have hm : (19 : Int) ≤ (cfFU : Nat) := by decide
  have r_o0 : Fr (fr_M [] [] []) o0 o0 := fr_rfl
  unfold fTx_isWord_S3 fTx_isWord_S3_0
  refine tt_b (sTx_length _ _ k_o0 (iv_w (a := 0) (b := 8) (by decide) (by decide) i_v1) f_o0_4) (fun q1 hq1 => ?_)
  obtain ⟨i_q1, zq1_0, -⟩ := hq1
  have zq1_0 : q1.toInt = (o0.2.1 2 v1.toNatClampNeg).toInt - (o0.2.1 1 v1.toNatClampNeg).toInt := zq1_0
  refine tt_b (sJString_length__S3  ) (fun q2 hq2 => ?_)
  obtain ⟨i_q2, -⟩ := hq2
  refine tt_if (fun c3 => ?_) (fun c3 => ?_)
  · have wc3 : q1.toInt = q2.toInt := c_eq c3
    have i4 : (8 : Int) ≤ q1.toInt ∧ q1.toInt ≤ 8 := nr_eql c3 i_q1 i_q2 (by decide) (by decide)
    have t5 : (0 : Int) ≤ (o0.2.1 2 v1.toNatClampNeg).toInt ∧ (o0.2.1 2 v1.toNatClampNeg).toInt ≤ 1600 := k_o0.2 2 _
    have t6 : (0 : Int) ≤ (o0.2.1 1 v1.toNatClampNeg).toInt ∧ (o0.2.1 1 v1.toNatClampNeg).toInt ≤ 1599 := k_o0.2 1 _
    exact H _ _ _ k_o0 r_o0 i_v1 (iv_w (a := 0) (b := 8) (by decide) (by decide) (show (0 : Int) ≤ (0 : Int32).toInt ∧ (0 : Int32).toInt ≤ 0 by decide)) f_o0_4 (show (o0.2.1 2 v1.toNatClampNeg).toInt - (o0.2.1 1 v1.toNatClampNeg).toInt = 8 by omega) (show 0 + (8 - 0) * 2 < ((cfFU : Nat) : Int) by omega)
  · have wc3 : ¬ q1.toInt = q2.toInt := c_ne c3
    exact tt_some ⟨(iv_w (a := 0) (b := 1) (by decide) (by decide) (show (0 : Int) ≤ (0 : Int32).toInt ∧ (0 : Int32).toInt ≤ 0 by decide)), trivial⟩
def QNl_takeNames_Nl4 (v2 : Int32) (v3 : Int32) (o0 : cf_O) (o1 : cf_O) (r : (Int32 × cf_O)) : Prop := ((0 : Int) ≤ r.1.toInt ∧ r.1.toInt ≤ 1) ∧ (okO I_Nl r.2) ∧ (Fr (fr_M [] [] [4]) o1 r.2) ∧ (r.1.toInt = 0 ∨ (2 ≤ (o0.1 5).toInt ∧ (o0.1 5).toInt ≤ v3.toInt + 1)) ∧ True
def HNl_takeNames_Nl4 (yv2 : Int32) (yv3 : Int32) (yo0 : cf_O) (yo1 : cf_O) (n : Nat) : Prop := (∀ (v2 : Int32) (v4 : Int32) (v5 : Int32) (o0 : cf_O) (o1 : cf_O), (okO I_Tx o0) → (Fr (fr_M [] [] []) yo0 o0) → (okO I_Nl o1) → (Fr (fr_M [] [] [4]) yo1 o1) → ((0 : Int) ≤ v2.toInt ∧ v2.toInt ≤ 0) → ((1 : Int) ≤ v4.toInt ∧ v4.toInt ≤ 6) → ((0 : Int) ≤ v5.toInt ∧ v5.toInt ≤ 6) → ((0 : Int) ≤ (o0.1 4).toInt ∧ (o0.1 4).toInt ≤ 1602) → ((2 : Int) ≤ (o0.1 5).toInt ∧ (o0.1 5).toInt ≤ 7) → (v4.toInt = (o0.1 5).toInt - 1) → (v4.toInt ≤ yv3.toInt) → (1 ≤ v4.toInt) → 0 + (6 - v5.toInt) * 2 < (n : Int) → tt (gNl_takeNames_Nl4 n 0 v2 v4 v5 o0 o1) (QNl_takeNames_Nl4 yv2 yv3 yo0 yo1))
set_option maxHeartbeats 4000000 in
set_option maxRecDepth 100000 in
theorem tNl_takeNames_Nl4_25 {yv2 : Int32} {yv3 : Int32} {yo0 : cf_O} {yo1 : cf_O} {n : Nat} (H : HNl_takeNames_Nl4 yv2 yv3 yo0 yo1 n) (v2 : Int32) (v4 : Int32) (v5 : Int32) (o0 : cf_O) (o1 : cf_O) (k_o0 : okO I_Tx o0) (r_o0 : Fr (fr_M [] [] []) yo0 o0) (k_o1 : okO I_Nl o1) (r_o1 : Fr (fr_M [] [] [4]) yo1 o1) (i_v2 : (0 : Int) ≤ v2.toInt ∧ v2.toInt ≤ 0) (i_v4 : (1 : Int) ≤ v4.toInt ∧ v4.toInt ≤ 6) (i_v5 : (0 : Int) ≤ v5.toInt ∧ v5.toInt ≤ 6) (f_o0_4 : (0 : Int) ≤ (o0.1 4).toInt ∧ (o0.1 4).toInt ≤ 1602) (f_o0_5 : (2 : Int) ≤ (o0.1 5).toInt ∧ (o0.1 5).toInt ≤ 7) (x_0 : v4.toInt = (o0.1 5).toInt - 1) (x_1 : v4.toInt ≤ yv3.toInt) (x_2 : 1 ≤ v4.toInt) (hm : 0 + (6 - v5.toInt) * 2 ≤ (n : Int)) : tt (fNl_takeNames_Nl4_25 (gNl_takeNames_Nl4 n) v2 v4 v5 o0 o1) (QNl_takeNames_Nl4 yv2 yv3 yo0 yo1) := by
  unfold fNl_takeNames_Nl4_25
  have ey_o0_5 : (o0.1 5).toInt = (yo0.1 5).toInt := congrArg Int32.toInt (r_o0.1 5 rfl)
  have g_o1_5 : (0 : Int) ≤ (o1.1 5).toInt ∧ (o1.1 5).toInt ≤ 2147483647 := k_o1.1 5
  have ey_o1_5 : (o1.1 5).toInt = (yo1.1 5).toInt := congrArg Int32.toInt (r_o1.1 5 rfl)
  refine tt_if (fun c1 => ?_) (fun c1 => ?_)
  · have wc1 : v4.toInt ≤ v5.toInt := c_le c1
    have i2 : (1 : Int) ≤ v5.toInt ∧ v5.toInt ≤ 6 := nr_ler c1 i_v4 i_v5 (by decide) (by decide)
    exact tt_some ⟨(iv_w (a := 0) (b := 1) (by decide) (by decide) (show (1 : Int) ≤ (1 : Int32).toInt ∧ (1 : Int32).toInt ≤ 1 by decide)), k_o1, r_o1, (show 1 = 0 ∨ (2 ≤ (yo0.1 5).toInt ∧ (yo0.1 5).toInt ≤ yv3.toInt + 1) by omega), trivial⟩
  · have wc1 : v5.toInt < v4.toInt := c_nle c1
    have i3 : (0 : Int) ≤ v5.toInt ∧ v5.toInt ≤ 5 := nr_nlel c1 i_v5 i_v4 (by decide) (by decide)
    refine tt_kv (P := fun z => ((0 : Int) ≤ z.toInt ∧ z.toInt ≤ 5) ∧ z.toInt = v2.toInt + v5.toInt) ⟨iv_add i_v2 i3 (by decide) (by decide) (by decide) (by decide), iq_add i_v2 i3 (by decide) (by decide)⟩ (fun x4 qi5 => ?_)
    obtain ⟨i5, ei5⟩ := qi5
    refine tt_kv (P := fun z => ((1 : Int) ≤ z.toInt ∧ z.toInt ≤ 6) ∧ z.toInt = v5.toInt + 1) ⟨iv_add i3 (show (1 : Int) ≤ (1 : Int32).toInt ∧ (1 : Int32).toInt ≤ 1 by decide) (by decide) (by decide) (by decide) (by decide), iq_add i3 (show (1 : Int) ≤ (1 : Int32).toInt ∧ (1 : Int32).toInt ≤ 1 by decide) (by decide) (by decide)⟩ (fun x6 qi7 => ?_)
    obtain ⟨i7, ei7⟩ := qi7
    refine tt_b (sTx_name _ _ k_o0 (iv_w (a := 1) (b := 8) (by decide) (by decide) i7) f_o0_4 (iv_w (a := 2) (b := 9) (by decide) (by decide) f_o0_5)) (fun q8 hq8 => ?_)
    refine tt_n (ix_ok i5 (by decide) (by decide)) ?_
    refine tt_ko ?_
    have k9 := ok_yp (k := 4) (i := x4.toNatClampNeg) (v := q8) k_o1
    have r10 := fr_yp (k := 4) (i := x4.toNatClampNeg) (v := q8) r_o1 rfl
    refine tt_kv (P := fun z => ((0 : Int) ≤ z.toInt ∧ z.toInt ≤ 5) ∧ z.toInt = v2.toInt + v5.toInt) ⟨iv_add i_v2 i3 (by decide) (by decide) (by decide) (by decide), iq_add i_v2 i3 (by decide) (by decide)⟩ (fun x11 qi12 => ?_)
    obtain ⟨i12, ei12⟩ := qi12
    refine tt_n (ix_ok i12 (by decide) (by decide)) ?_
    refine tt_kl (fun x13 => ?_)
    refine tt_kv (P := fun z => ((-2147483648) : Int) ≤ z.toInt ∧ z.toInt ≤ 2147483647) (iv_top _) (fun x14 i15 => ?_)
    refine tt_if (fun c16 => ?_) (fun c16 => ?_)
    · have wc16 : x14.toInt = (0 : Int) := c_eq c16
      have i17 : (0 : Int) ≤ x14.toInt ∧ x14.toInt ≤ 0 := nr_eql c16 i15 (show (0 : Int) ≤ (0 : Int32).toInt ∧ (0 : Int32).toInt ≤ 0 by decide) (by decide) (by decide)
      exact tt_some ⟨(iv_w (a := 0) (b := 1) (by decide) (by decide) (show (0 : Int) ≤ (0 : Int32).toInt ∧ (0 : Int32).toInt ≤ 0 by decide)), k9, r10, (show 0 = 0 ∨ (2 ≤ (yo0.1 5).toInt ∧ (yo0.1 5).toInt ≤ yv3.toInt + 1) by omega), trivial⟩
    · have wc16 : ¬ x14.toInt = (0 : Int) := c_ne c16
      refine tt_kv (P := fun z => ((1 : Int) ≤ z.toInt ∧ z.toInt ≤ 6) ∧ z.toInt = v5.toInt + 1) ⟨iv_add i3 (show (1 : Int) ≤ (1 : Int32).toInt ∧ (1 : Int32).toInt ≤ 1 by decide) (by decide) (by decide) (by decide) (by decide), iq_add i3 (show (1 : Int) ≤ (1 : Int32).toInt ∧ (1 : Int32).toInt ≤ 1 by decide) (by decide) (by decide)⟩ (fun x18 qi19 => ?_)
      obtain ⟨i19, ei19⟩ := qi19
      exact H _ _ _ _ _ k_o0 r_o0 k9 r10 i_v2 i_v4 (iv_w (a := 0) (b := 6) (by decide) (by decide) i19) f_o0_4 f_o0_5 (show v4.toInt = (o0.1 5).toInt - 1 by omega) (show v4.toInt ≤ yv3.toInt by omega) (show 1 ≤ v4.toInt by omega) (show 0 + (6 - x18.toInt) * 2 < (n : Int) by omega)
set_option maxHeartbeats 4000000 in
set_option maxRecDepth 100000 in
theorem hNl_takeNames_Nl4 (yv2 : Int32) (yv3 : Int32) (yo0 : cf_O) (yo1 : cf_O) : ∀ n, HNl_takeNames_Nl4 yv2 yv3 yo0 yo1 n := by
  intro n
  induction n with
  | zero => exact (fun v2 v4 v5 o0 o1 k_o0 r_o0 k_o1 r_o1 i_v2 i_v4 i_v5 f_o0_4 f_o0_5 x_0 x_1 x_2 hm => by exact absurd (show 0 + (6 - v5.toInt) * 2 < (0 : Int) from hm) (by omega))
  | succ n ih => exact (fun v2 v4 v5 o0 o1 k_o0 r_o0 k_o1 r_o1 i_v2 i_v4 i_v5 f_o0_4 f_o0_5 x_0 x_1 x_2 hm => tNl_takeNames_Nl4_25 ih v2 v4 v5 o0 o1 k_o0 r_o0 k_o1 r_o1 i_v2 i_v4 i_v5 f_o0_4 f_o0_5 x_0 x_1 x_2 (by omega))
set_option maxHeartbeats 4000000 in
set_option maxRecDepth 100000 in
theorem sNl_takeNames_Nl4 (v2 : Int32) (v3 : Int32) (o0 : cf_O) (o1 : cf_O) (k_o0 : okO I_Tx o0) (k_o1 : okO I_Nl o1) (i_v2 : (0 : Int) ≤ v2.toInt ∧ v2.toInt ≤ 0) (i_v3 : (6 : Int) ≤ v3.toInt ∧ v3.toInt ≤ 6) (f_o0_4 : (0 : Int) ≤ (o0.1 4).toInt ∧ (o0.1 4).toInt ≤ 1602) : tt (fNl_takeNames_Nl4 v2 v3 o0 o1) (QNl_takeNames_Nl4 v2 v3 o0 o1) := by
  have H := hNl_takeNames_Nl4 v2 v3 o0 o1 cfFU
  have hm : (15 : Int) ≤ (cfFU : Nat) := by decide
  have r_o0 : Fr (fr_M [] [] []) o0 o0 := fr_rfl
  have r_o1 : Fr (fr_M [] [] [4]) o1 o1 := fr_rfl
  unfold fNl_takeNames_Nl4 fNl_takeNames_Nl4_0
  have g_o0_5 : (0 : Int) ≤ (o0.1 5).toInt ∧ (o0.1 5).toInt ≤ 10 := k_o0.1 5
  have g_o1_5 : (0 : Int) ≤ (o1.1 5).toInt ∧ (o1.1 5).toInt ≤ 2147483647 := k_o1.1 5
  refine tt_kv (P := fun z => (((-1) : Int) ≤ z.toInt ∧ z.toInt ≤ 9) ∧ z.toInt = (o0.1 5).toInt - 1) ⟨iv_sub (k_o0.1 5) (show (1 : Int) ≤ (1 : Int32).toInt ∧ (1 : Int32).toInt ≤ 1 by decide) (by decide) (by decide) (by decide) (by decide), iq_sub (k_o0.1 5) (show (1 : Int) ≤ (1 : Int32).toInt ∧ (1 : Int32).toInt ≤ 1 by decide) (by decide) (by decide)⟩ (fun x1 qi2 => ?_)
  obtain ⟨i2, ei2⟩ := qi2
  refine tt_if (fun c3 => ?_) (fun c3 => ?_)
  · have wc3 : x1.toInt < (1 : Int) := c_lt c3
    have i4 : ((-1) : Int) ≤ x1.toInt ∧ x1.toInt ≤ 0 := nr_ltl c3 i2 (show (1 : Int) ≤ (1 : Int32).toInt ∧ (1 : Int32).toInt ≤ 1 by decide) (by decide) (by decide)
    have i5 : (0 : Int) ≤ (o0.1 5).toInt ∧ (o0.1 5).toInt ≤ 1 := by omega
    try unfold fNl_takeNames_Nl4_20
    exact tt_some ⟨(iv_w (a := 0) (b := 1) (by decide) (by decide) (show (0 : Int) ≤ (0 : Int32).toInt ∧ (0 : Int32).toInt ≤ 0 by decide)), k_o1, r_o1, (show 0 = 0 ∨ (2 ≤ (o0.1 5).toInt ∧ (o0.1 5).toInt ≤ v3.toInt + 1) by omega), trivial⟩
  · have wc3 : (1 : Int) ≤ x1.toInt := c_nlt c3
    have i6 : (1 : Int) ≤ x1.toInt ∧ x1.toInt ≤ 9 := nr_nltr c3 (show (1 : Int) ≤ (1 : Int32).toInt ∧ (1 : Int32).toInt ≤ 1 by decide) i2 (by decide) (by decide)
    have i7 : (2 : Int) ≤ (o0.1 5).toInt ∧ (o0.1 5).toInt ≤ 10 := by omega
    refine tt_if (fun c8 => ?_) (fun c8 => ?_)
    · have wc8 : x1.toInt ≤ v3.toInt := c_le c8
      have i9 : (1 : Int) ≤ x1.toInt ∧ x1.toInt ≤ 6 := nr_lel c8 i6 i_v3 (by decide) (by decide)
      have i10 : (2 : Int) ≤ (o0.1 5).toInt ∧ (o0.1 5).toInt ≤ 7 := by omega
      exact H _ _ _ _ _ k_o0 r_o0 k_o1 r_o1 i_v2 i9 (iv_w (a := 0) (b := 6) (by decide) (by decide) (show (0 : Int) ≤ (0 : Int32).toInt ∧ (0 : Int32).toInt ≤ 0 by decide)) f_o0_4 i10 (show x1.toInt = (o0.1 5).toInt - 1 by omega) (show x1.toInt ≤ v3.toInt by omega) (show 1 ≤ x1.toInt by omega) (show 0 + (6 - 0) * 2 < ((cfFU : Nat) : Int) by omega)
    · have wc8 : v3.toInt < x1.toInt := c_nle c8
      have i11 : (7 : Int) ≤ x1.toInt ∧ x1.toInt ≤ 9 := nr_nler c8 i_v3 i6 (by decide) (by decide)
      have i12 : (8 : Int) ≤ (o0.1 5).toInt ∧ (o0.1 5).toInt ≤ 10 := by omega
      try unfold fNl_takeNames_Nl4_20
      exact tt_some ⟨(iv_w (a := 0) (b := 1) (by decide) (by decide) (show (0 : Int) ≤ (0 : Int32).toInt ∧ (0 : Int32).toInt ≤ 0 by decide)), k_o1, r_o1, (show 0 = 0 ∨ (2 ≤ (o0.1 5).toInt ∧ (o0.1 5).toInt ≤ v3.toInt + 1) by omega), trivial⟩
def QNl_hasTwice_Nl4 (v1 : Int32) (o0 : cf_O) (r : (Int32)) : Prop := ((0 : Int) ≤ r.toInt ∧ r.toInt ≤ 1) ∧ True
def HNl_hasTwice_Nl4 (yv1 : Int32) (yo0 : cf_O) (n : Nat) : Prop := (∀ (v1 : Int32) (v2 : Int32) (o0 : cf_O), (okO I_Nl o0) → (Fr (fr_M [] [] []) yo0 o0) → ((0 : Int) ≤ v1.toInt ∧ v1.toInt ≤ 6) → ((0 : Int) ≤ v2.toInt ∧ v2.toInt ≤ 6) → ((0 : Int) ≤ (o0.1 5).toInt ∧ (o0.1 5).toInt ≤ 1602) → 0 + (6 - v2.toInt) * 14 < (n : Int) → tt (gNl_hasTwice_Nl4 n 0 v1 v2 0 o0) (QNl_hasTwice_Nl4 yv1 yo0)) ∧ (∀ (v1 : Int32) (v2 : Int32) (v3 : Int32) (o0 : cf_O), (okO I_Nl o0) → (Fr (fr_M [] [] []) yo0 o0) → ((1 : Int) ≤ v1.toInt ∧ v1.toInt ≤ 6) → ((0 : Int) ≤ v2.toInt ∧ v2.toInt ≤ 5) → ((0 : Int) ≤ v3.toInt ∧ v3.toInt ≤ 5) → ((0 : Int) ≤ (o0.1 5).toInt ∧ (o0.1 5).toInt ≤ 1602) → 0 + (6 - v2.toInt - 1) * 14 + 1 + (5 - v3.toInt) * 2 < (n : Int) → tt (gNl_hasTwice_Nl4 n 1 v1 v2 v3 o0) (QNl_hasTwice_Nl4 yv1 yo0))
set_option maxHeartbeats 4000000 in
set_option maxRecDepth 100000 in
theorem tNl_hasTwice_Nl4_9 {yv1 : Int32} {yo0 : cf_O} {n : Nat} (H : HNl_hasTwice_Nl4 yv1 yo0 n) (v1 : Int32) (v2 : Int32) (v3 : Int32) (o0 : cf_O) (k_o0 : okO I_Nl o0) (r_o0 : Fr (fr_M [] [] []) yo0 o0) (i_v1 : (1 : Int) ≤ v1.toInt ∧ v1.toInt ≤ 6) (i_v2 : (0 : Int) ≤ v2.toInt ∧ v2.toInt ≤ 5) (i_v3 : (0 : Int) ≤ v3.toInt ∧ v3.toInt ≤ 5) (f_o0_5 : (0 : Int) ≤ (o0.1 5).toInt ∧ (o0.1 5).toInt ≤ 1602) (hm : 0 + (6 - v2.toInt - 1) * 14 + 1 + (5 - v3.toInt) * 2 ≤ (n : Int)) : tt (fNl_hasTwice_Nl4_9 (gNl_hasTwice_Nl4 n) v1 v2 v3 o0) (QNl_hasTwice_Nl4 yv1 yo0) := by
  unfold fNl_hasTwice_Nl4_9
  refine tt_if (fun c1 => ?_) (fun c1 => ?_)
  · refine tt_kv (P := fun z => ((1 : Int) ≤ z.toInt ∧ z.toInt ≤ 6) ∧ z.toInt = v2.toInt + 1) ⟨iv_add i_v2 (show (1 : Int) ≤ (1 : Int32).toInt ∧ (1 : Int32).toInt ≤ 1 by decide) (by decide) (by decide) (by decide) (by decide), iq_add i_v2 (show (1 : Int) ≤ (1 : Int32).toInt ∧ (1 : Int32).toInt ≤ 1 by decide) (by decide) (by decide)⟩ (fun x2 qi3 => ?_)
    obtain ⟨i3, ei3⟩ := qi3
    exact H.1 _ _ _ k_o0 r_o0 (iv_w (a := 0) (b := 6) (by decide) (by decide) i_v1) (iv_w (a := 0) (b := 6) (by decide) (by decide) i3) f_o0_5 (show 0 + (6 - x2.toInt) * 14 < (n : Int) by omega)
  · have i4 : (0 : Int) ≤ v3.toInt ∧ v3.toInt ≤ 4 := nr_nlel c1 i_v3 i_v2 (by decide) (by decide)
    have i5 : (1 : Int) ≤ v2.toInt ∧ v2.toInt ≤ 5 := nr_nler c1 i_v3 i_v2 (by decide) (by decide)
    refine tt_n (ix_ok i5 (by decide) (by decide)) ?_
    refine tt_kl (fun x6 => ?_)
    refine tt_n (ix_ok i4 (by decide) (by decide)) ?_
    refine tt_kl (fun x7 => ?_)
    refine tt_kv (P := fun z => ((-2147483648) : Int) ≤ z.toInt ∧ z.toInt ≤ 2147483647) (iv_top _) (fun x8 i9 => ?_)
    refine tt_if (fun c10 => ?_) (fun c10 => ?_)
    · have i11 : (0 : Int) ≤ x8.toInt ∧ x8.toInt ≤ 0 := nr_eql c10 i9 (show (0 : Int) ≤ (0 : Int32).toInt ∧ (0 : Int32).toInt ≤ 0 by decide) (by decide) (by decide)
      exact tt_some ⟨(iv_w (a := 0) (b := 1) (by decide) (by decide) (show (1 : Int) ≤ (1 : Int32).toInt ∧ (1 : Int32).toInt ≤ 1 by decide)), trivial⟩
    · refine tt_kv (P := fun z => ((1 : Int) ≤ z.toInt ∧ z.toInt ≤ 5) ∧ z.toInt = v3.toInt + 1) ⟨iv_add i4 (show (1 : Int) ≤ (1 : Int32).toInt ∧ (1 : Int32).toInt ≤ 1 by decide) (by decide) (by decide) (by decide) (by decide), iq_add i4 (show (1 : Int) ≤ (1 : Int32).toInt ∧ (1 : Int32).toInt ≤ 1 by decide) (by decide) (by decide)⟩ (fun x12 qi13 => ?_)
      obtain ⟨i13, ei13⟩ := qi13
      exact H.2 _ _ _ _ k_o0 r_o0 i_v1 (iv_w (a := 0) (b := 5) (by decide) (by decide) i5) (iv_w (a := 0) (b := 5) (by decide) (by decide) i13) f_o0_5 (show 0 + (6 - v2.toInt - 1) * 14 + 1 + (5 - x12.toInt) * 2 < (n : Int) by omega)
set_option maxHeartbeats 4000000 in
set_option maxRecDepth 100000 in
theorem tNl_hasTwice_Nl4_2 {yv1 : Int32} {yo0 : cf_O} {n : Nat} (H : HNl_hasTwice_Nl4 yv1 yo0 n) (v1 : Int32) (v2 : Int32) (o0 : cf_O) (k_o0 : okO I_Nl o0) (r_o0 : Fr (fr_M [] [] []) yo0 o0) (i_v1 : (0 : Int) ≤ v1.toInt ∧ v1.toInt ≤ 6) (i_v2 : (0 : Int) ≤ v2.toInt ∧ v2.toInt ≤ 6) (f_o0_5 : (0 : Int) ≤ (o0.1 5).toInt ∧ (o0.1 5).toInt ≤ 1602) (hm : 0 + (6 - v2.toInt) * 14 ≤ (n : Int)) : tt (fNl_hasTwice_Nl4_2 (gNl_hasTwice_Nl4 n) v1 v2 o0) (QNl_hasTwice_Nl4 yv1 yo0) := by
  unfold fNl_hasTwice_Nl4_2
  refine tt_if (fun c1 => ?_) (fun c1 => ?_)
  · exact tt_some ⟨(iv_w (a := 0) (b := 1) (by decide) (by decide) (show (0 : Int) ≤ (0 : Int32).toInt ∧ (0 : Int32).toInt ≤ 0 by decide)), trivial⟩
  · have i2 : (0 : Int) ≤ v2.toInt ∧ v2.toInt ≤ 5 := nr_nlel c1 i_v2 i_v1 (by decide) (by decide)
    have i3 : (1 : Int) ≤ v1.toInt ∧ v1.toInt ≤ 6 := nr_nler c1 i_v2 i_v1 (by decide) (by decide)
    exact H.2 _ _ _ _ k_o0 r_o0 i3 i2 (iv_w (a := 0) (b := 5) (by decide) (by decide) (show (0 : Int) ≤ (0 : Int32).toInt ∧ (0 : Int32).toInt ≤ 0 by decide)) f_o0_5 (show 0 + (6 - v2.toInt - 1) * 14 + 1 + (5 - 0) * 2 < (n : Int) by omega)
set_option maxHeartbeats 4000000 in
set_option maxRecDepth 100000 in
theorem hNl_hasTwice_Nl4 (yv1 : Int32) (yo0 : cf_O) : ∀ n, HNl_hasTwice_Nl4 yv1 yo0 n := by
  intro n
  induction n with
  | zero => exact ⟨(fun v1 v2 o0 k_o0 r_o0 i_v1 i_v2 f_o0_5 hm => by exact absurd (show 0 + (6 - v2.toInt) * 14 < (0 : Int) from hm) (by omega)), (fun v1 v2 v3 o0 k_o0 r_o0 i_v1 i_v2 i_v3 f_o0_5 hm => by exact absurd (show 0 + (6 - v2.toInt - 1) * 14 + 1 + (5 - v3.toInt) * 2 < (0 : Int) from hm) (by omega))⟩
  | succ n ih => exact ⟨(fun v1 v2 o0 k_o0 r_o0 i_v1 i_v2 f_o0_5 hm => tNl_hasTwice_Nl4_2 ih v1 v2 o0 k_o0 r_o0 i_v1 i_v2 f_o0_5 (by omega)), (fun v1 v2 v3 o0 k_o0 r_o0 i_v1 i_v2 i_v3 f_o0_5 hm => tNl_hasTwice_Nl4_9 ih v1 v2 v3 o0 k_o0 r_o0 i_v1 i_v2 i_v3 f_o0_5 (by omega))⟩
set_option maxHeartbeats 4000000 in
set_option maxRecDepth 100000 in
theorem sNl_hasTwice_Nl4 (v1 : Int32) (o0 : cf_O) (k_o0 : okO I_Nl o0) (i_v1 : (0 : Int) ≤ v1.toInt ∧ v1.toInt ≤ 6) (f_o0_1 : (0 : Int) ≤ (o0.1 1).toInt ∧ (o0.1 1).toInt ≤ 6) (f_o0_5 : (0 : Int) ≤ (o0.1 5).toInt ∧ (o0.1 5).toInt ≤ 1602) : tt (fNl_hasTwice_Nl4 v1 o0) (QNl_hasTwice_Nl4 v1 o0) := by
  have H := hNl_hasTwice_Nl4 v1 o0 cfFU
  have hm : (87 : Int) ≤ (cfFU : Nat) := by decide
  have r_o0 : Fr (fr_M [] [] []) o0 o0 := fr_rfl
  unfold fNl_hasTwice_Nl4 fNl_hasTwice_Nl4_0
  exact H.1 _ _ _ k_o0 r_o0 i_v1 (iv_w (a := 0) (b := 6) (by decide) (by decide) (show (0 : Int) ≤ (0 : Int32).toInt ∧ (0 : Int32).toInt ≤ 0 by decide)) f_o0_5 (show 0 + (6 - 0) * 14 < ((cfFU : Nat) : Int) by omega)
def QNl_scanOutputs (o0 : cf_O) (o1 : cf_O) (r : (Int32 × cf_O)) : Prop := ((0 : Int) ≤ r.1.toInt ∧ r.1.toInt ≤ 2) ∧ (okO I_Nl r.2) ∧ (Fr (fr_M [1, 5] [] [4]) o0 r.2) ∧ True
set_option maxHeartbeats 4000000 in
set_option maxRecDepth 100000 in
theorem sNl_scanOutputs (o0 : cf_O) (o1 : cf_O) (k_o0 : okO I_Nl o0) (k_o1 : okO I_Tx o1) (f_o1_4 : (0 : Int) ≤ (o1.1 4).toInt ∧ (o1.1 4).toInt ≤ 1602) (x_0 : 0 ≤ (o1.1 4).toInt) : tt (fNl_scanOutputs o0 o1) (QNl_scanOutputs o0 o1) := by
  have r_o0 : Fr (fr_M [1, 5] [] [4]) o0 o0 := fr_rfl
  have r_o1 : Fr (fr_M [] [] []) o1 o1 := fr_rfl
  unfold fNl_scanOutputs fNl_scanOutputs_0
  have g_o0_4 : (0 : Int) ≤ (o0.1 4).toInt ∧ (o0.1 4).toInt ≤ 0 := k_o0.1 4
  have g_o0_5 : (0 : Int) ≤ (o0.1 5).toInt ∧ (o0.1 5).toInt ≤ 2147483647 := k_o0.1 5
  have g_o0_6 : (0 : Int) ≤ (o0.1 6).toInt ∧ (o0.1 6).toInt ≤ 30 := k_o0.1 6
  have g_o1_5 : (0 : Int) ≤ (o1.1 5).toInt ∧ (o1.1 5).toInt ≤ 10 := k_o1.1 5
  have g_o1_6 : (0 : Int) ≤ (o1.1 6).toInt ∧ (o1.1 6).toInt ≤ 1601 := k_o1.1 6
  refine tt_b (sTx_isWord_S3 _ _ k_o1 (show (0 : Int) ≤ (0 : Int32).toInt ∧ (0 : Int32).toInt ≤ 0 by decide) f_o1_4) (fun q1 hq1 => ?_)
  obtain ⟨i_q1, -⟩ := hq1
  refine tt_if (fun c2 => ?_) (fun c2 => ?_)
  · have wc2 : q1.toInt = (0 : Int) := c_eq c2
    have i3 : (0 : Int) ≤ q1.toInt ∧ q1.toInt ≤ 0 := nr_eql c2 i_q1 (show (0 : Int) ≤ (0 : Int32).toInt ∧ (0 : Int32).toInt ≤ 0 by decide) (by decide) (by decide)
    try unfold fNl_scanOutputs_24
    exact tt_some ⟨(iv_w (a := 0) (b := 2) (by decide) (by decide) (show (1 : Int) ≤ (1 : Int32).toInt ∧ (1 : Int32).toInt ≤ 1 by decide)), k_o0, r_o0, trivial⟩
  · have wc2 : ¬ q1.toInt = (0 : Int) := c_ne c2
    have i4 : (1 : Int) ≤ q1.toInt ∧ q1.toInt ≤ 1 := nr_nela c2 i_q1 (show (0 : Int) ≤ (0 : Int32).toInt ∧ (0 : Int32).toInt ≤ 0 by decide) (by decide) (by decide)
    refine tt_b (sNl_takeNames_Nl4 _ _ _ _ k_o1 k_o0 (show (0 : Int) ≤ (0 : Int32).toInt ∧ (0 : Int32).toInt ≤ 0 by decide) (show (6 : Int) ≤ (6 : Int32).toInt ∧ (6 : Int32).toInt ≤ 6 by decide) f_o1_4) (fun q5 hq5 => ?_)
    obtain ⟨i_q5, k_q5_2, n_q5_2, zq5_0, -⟩ := hq5
    have r_q5_2 := fr_tr r_o0 n_q5_2 rfl rfl rfl
    have e_q5_2_4 : (q5.2.1 4).toInt = (o0.1 4).toInt := congrArg Int32.toInt (n_q5_2.1 4 rfl)
    have g_q5_2_4 : (0 : Int) ≤ (q5.2.1 4).toInt ∧ (q5.2.1 4).toInt ≤ 0 := k_q5_2.1 4
    have e_q5_2_5 : (q5.2.1 5).toInt = (o0.1 5).toInt := congrArg Int32.toInt (n_q5_2.1 5 rfl)
    have g_q5_2_5 : (0 : Int) ≤ (q5.2.1 5).toInt ∧ (q5.2.1 5).toInt ≤ 2147483647 := k_q5_2.1 5
    have e_q5_2_6 : (q5.2.1 6).toInt = (o0.1 6).toInt := congrArg Int32.toInt (n_q5_2.1 6 rfl)
    have g_q5_2_6 : (0 : Int) ≤ (q5.2.1 6).toInt ∧ (q5.2.1 6).toInt ≤ 30 := k_q5_2.1 6
    have zq5_0 : q5.1.toInt = 0 ∨ (2 ≤ (o1.1 5).toInt ∧ (o1.1 5).toInt ≤ 6 + 1) := zq5_0
    refine tt_if (fun c6 => ?_) (fun c6 => ?_)
    · have wc6 : q5.1.toInt = (0 : Int) := c_eq c6
      have i7 : (0 : Int) ≤ q5.1.toInt ∧ q5.1.toInt ≤ 0 := nr_eql c6 i_q5 (show (0 : Int) ≤ (0 : Int32).toInt ∧ (0 : Int32).toInt ≤ 0 by decide) (by decide) (by decide)
      try unfold fNl_scanOutputs_24
      exact tt_some ⟨(iv_w (a := 0) (b := 2) (by decide) (by decide) (show (1 : Int) ≤ (1 : Int32).toInt ∧ (1 : Int32).toInt ≤ 1 by decide)), k_q5_2, r_q5_2, trivial⟩
    · have wc6 : ¬ q5.1.toInt = (0 : Int) := c_ne c6
      have i8 : (1 : Int) ≤ q5.1.toInt ∧ q5.1.toInt ≤ 1 := nr_nela c6 i_q5 (show (0 : Int) ≤ (0 : Int32).toInt ∧ (0 : Int32).toInt ≤ 0 by decide) (by decide) (by decide)
      refine tt_kv (P := fun z => (((-1) : Int) ≤ z.toInt ∧ z.toInt ≤ 9) ∧ z.toInt = (o1.1 5).toInt - 1) ⟨iv_sub (k_o1.1 5) (show (1 : Int) ≤ (1 : Int32).toInt ∧ (1 : Int32).toInt ≤ 1 by decide) (by decide) (by decide) (by decide) (by decide), iq_sub (k_o1.1 5) (show (1 : Int) ≤ (1 : Int32).toInt ∧ (1 : Int32).toInt ≤ 1 by decide) (by decide) (by decide)⟩ (fun x9 qi10 => ?_)
      obtain ⟨i10, ei10⟩ := qi10
      refine tt_ko ?_
      have k11 := ok_fp (k := 1) (v := x9) k_q5_2 (show (0 : Int) ≤ _ ∧ _ ≤ (6 : Int) by omega)
      have i12 : (0 : Int) ≤ x9.toInt ∧ x9.toInt ≤ 6 := (by omega)
      have i13 : (1 : Int) ≤ (o1.1 5).toInt ∧ (o1.1 5).toInt ≤ 7 := by omega
      have r14 := fr_fp (k := 1) (v := x9) r_q5_2 rfl
      refine tt_ko ?_
      have k15 := ok_fp (k := 5) (v := (o1.1 4)) k11 (iv_w (a := 0) (b := 2147483647) (by decide) (by decide) f_o1_4)
      have r16 := fr_fp (k := 5) (v := (o1.1 4)) r14 rfl
      refine tt_b (sNl_hasTwice_Nl4 _ _ k15 i12 i12 f_o1_4) (fun q17 hq17 => ?_)
      obtain ⟨i_q17, -⟩ := hq17
      refine tt_if (fun c18 => ?_) (fun c18 => ?_)
      · have wc18 : q17.toInt = (0 : Int) := c_eq c18
        have i19 : (0 : Int) ≤ q17.toInt ∧ q17.toInt ≤ 0 := nr_eql c18 i_q17 (show (0 : Int) ≤ (0 : Int32).toInt ∧ (0 : Int32).toInt ≤ 0 by decide) (by decide) (by decide)
        try unfold fNl_scanOutputs_63
        exact tt_some ⟨(iv_w (a := 0) (b := 2) (by decide) (by decide) (show (0 : Int) ≤ (0 : Int32).toInt ∧ (0 : Int32).toInt ≤ 0 by decide)), k15, r16, trivial⟩
      · have wc18 : ¬ q17.toInt = (0 : Int) := c_ne c18
        have i20 : (1 : Int) ≤ q17.toInt ∧ q17.toInt ≤ 1 := nr_nela c18 i_q17 (show (0 : Int) ≤ (0 : Int32).toInt ∧ (0 : Int32).toInt ≤ 0 by decide) (by decide) (by decide)
        try unfold fNl_scanOutputs_63
        exact tt_some ⟨(iv_w (a := 0) (b := 2) (by decide) (by decide) (show (2 : Int) ≤ (2 : Int32).toInt ∧ (2 : Int32).toInt ≤ 2 by decide)), k15, r16, trivial⟩
def QJString_coder__S4  (r : (Int32)) : Prop := ((0 : Int) ≤ r.toInt ∧ r.toInt ≤ 0) ∧ True
set_option maxHeartbeats 4000000 in
set_option maxRecDepth 100000 in
theorem sJString_coder__S4   : tt (fJString_coder__S4 ) (QJString_coder__S4 ) := by
  unfold fJString_coder__S4 fJString_coder__S4_0
  try unfold fJString_coder__S4_14
  refine tt_w (iv_nb (show (0 : Int) ≤ (0 : Int32).toInt ∧ (0 : Int32).toInt ≤ 0 by decide) (by decide) (by decide)) ?_
  exact tt_some ⟨(show (0 : Int) ≤ (0 : Int32).toInt ∧ (0 : Int32).toInt ≤ 0 by decide), trivial⟩
def QJString_length__S4  (r : (Int32)) : Prop := ((4 : Int) ≤ r.toInt ∧ r.toInt ≤ 4) ∧ True
set_option maxHeartbeats 4000000 in
set_option maxRecDepth 100000 in
theorem sJString_length__S4   : tt (fJString_length__S4 ) (QJString_length__S4 ) := by
  unfold fJString_length__S4 fJString_length__S4_0
  refine tt_b (sJString_coder__S4  ) (fun q1 hq1 => ?_)
  obtain ⟨i_q1, -⟩ := hq1
  refine tt_kv (P := fun z => (4 : Int) ≤ z.toInt ∧ z.toInt ≤ 4) (iv_shr (p := 0) (q := 0) (show (4 : Int) ≤ (4 : Int32).toInt ∧ (4 : Int32).toInt ≤ 4 by decide) i_q1 (by decide) (by decide) (by decide) (by decide)) (fun x2 i3 => ?_)
  exact tt_some ⟨i3, trivial⟩
def QJString_isLatin1__S4  (r : (Int32)) : Prop := ((1 : Int) ≤ r.toInt ∧ r.toInt ≤ 1) ∧ True
set_option maxHeartbeats 4000000 in
set_option maxRecDepth 100000 in
theorem sJString_isLatin1__S4   : tt (fJString_isLatin1__S4 ) (QJString_isLatin1__S4 ) := by
  unfold fJString_isLatin1__S4 fJString_isLatin1__S4_0
  try unfold fJString_isLatin1__S4_18
  refine tt_w (iv_b (show (1 : Int) ≤ (1 : Int32).toInt ∧ (1 : Int32).toInt ≤ 1 by decide) (by decide) (by decide)) ?_
  exact tt_some ⟨(show (1 : Int) ≤ (1 : Int32).toInt ∧ (1 : Int32).toInt ≤ 1 by decide), trivial⟩
def QJStringLatin1_charAt_ABI_B4 (v1 : Int32) (r : (Int32)) : Prop := ((0 : Int) ≤ r.toInt ∧ r.toInt ≤ 255) ∧ True
set_option maxHeartbeats 4000000 in
set_option maxRecDepth 100000 in
theorem sJStringLatin1_charAt_ABI_B4 (v1 : Int32) (i_v1 : (0 : Int) ≤ v1.toInt ∧ v1.toInt ≤ 3) : tt (fJStringLatin1_charAt_ABI_B4 v1) (QJStringLatin1_charAt_ABI_B4 v1) := by
  unfold fJStringLatin1_charAt_ABI_B4 fJStringLatin1_charAt_ABI_B4_0
  refine tt_b (sJString_checkIndex_II _ _ (iv_w (a := 0) (b := 89999) (by decide) (by decide) i_v1) (iv_w (a := 0) (b := 90000) (by decide) (by decide) (show (4 : Int) ≤ (4 : Int32).toInt ∧ (4 : Int32).toInt ≤ 4 by decide)) (show 0 ≤ v1.toInt by omega) (show v1.toInt < 4 by omega)) (fun q1 hq1 => ?_)
  refine tt_n (ix_ok i_v1 (by decide) (by decide)) ?_
  refine tt_kv (P := fun z => (0 : Int) ≤ z.toInt ∧ z.toInt ≤ 127) (iv_sb _ _) (fun x2 i3 => ?_)
  refine tt_kv (P := fun z => (0 : Int) ≤ z.toInt ∧ z.toInt ≤ 255) (iv_and (show (255 : Int) ≤ (255 : Int32).toInt ∧ (255 : Int32).toInt ≤ 255 by decide) (by decide) (by decide) (by decide)) (fun x4 i5 => ?_)
  refine tt_kv (P := fun z => (0 : Int) ≤ z.toInt ∧ z.toInt ≤ 255) (iv_c16i i5 (by decide) (by decide)) (fun x6 i7 => ?_)
  refine tt_w (iv_nc i7 (by decide) (by decide)) ?_
  exact tt_some ⟨i7, trivial⟩
def QJString_charAt_I_S4 (v1 : Int32) (r : (Int32)) : Prop := ((0 : Int) ≤ r.toInt ∧ r.toInt ≤ 255) ∧ True
set_option maxHeartbeats 4000000 in
set_option maxRecDepth 100000 in
theorem sJString_charAt_I_S4 (v1 : Int32) (i_v1 : (0 : Int) ≤ v1.toInt ∧ v1.toInt ≤ 3) (x_0 : 0 ≤ v1.toInt) (x_1 : v1.toInt < 4) : tt (fJString_charAt_I_S4 v1) (QJString_charAt_I_S4 v1) := by
  unfold fJString_charAt_I_S4 fJString_charAt_I_S4_0
  refine tt_b (sJString_isLatin1__S4  ) (fun q1 hq1 => ?_)
  obtain ⟨i_q1, -⟩ := hq1
  refine tt_n (iv_nz0 i_q1 (by decide)) ?_
  refine tt_b (sJStringLatin1_charAt_ABI_B4 _ i_v1) (fun q2 hq2 => ?_)
  obtain ⟨i_q2, -⟩ := hq2
  refine tt_w (iv_nc i_q2 (by decide) (by decide)) ?_
  exact tt_some ⟨i_q2, trivial⟩
def QTx_isWord_S4 (v1 : Int32) (o0 : cf_O) (r : (Int32)) : Prop := ((0 : Int) ≤ r.toInt ∧ r.toInt ≤ 1) ∧ True
def HTx_isWord_S4 (yv1 : Int32) (yo0 : cf_O) (n : Nat) : Prop := (∀ (v1 : Int32) (v3 : Int32) (o0 : cf_O), (okO I_Tx o0) → (Fr (fr_M [] [] []) yo0 o0) → ((0 : Int) ≤ v1.toInt ∧ v1.toInt ≤ 0) → ((0 : Int) ≤ v3.toInt ∧ v3.toInt ≤ 4) → ((0 : Int) ≤ (o0.1 4).toInt ∧ (o0.1 4).toInt ≤ 1602) → ((o0.2.1 2 v1.toNatClampNeg).toInt - (o0.2.1 1 v1.toNatClampNeg).toInt = 4) → 0 + (4 - v3.toInt) * 2 < (n : Int) → tt (gTx_isWord_S4 n 0 v1 v3 o0) (QTx_isWord_S4 yv1 yo0))
set_option maxHeartbeats 4000000 in
set_option maxRecDepth 100000 in
theorem tTx_isWord_S4_16 {yv1 : Int32} {yo0 : cf_O} {n : Nat} (H : HTx_isWord_S4 yv1 yo0 n) (v1 : Int32) (v3 : Int32) (o0 : cf_O) (k_o0 : okO I_Tx o0) (r_o0 : Fr (fr_M [] [] []) yo0 o0) (i_v1 : (0 : Int) ≤ v1.toInt ∧ v1.toInt ≤ 0) (i_v3 : (0 : Int) ≤ v3.toInt ∧ v3.toInt ≤ 4) (f_o0_4 : (0 : Int) ≤ (o0.1 4).toInt ∧ (o0.1 4).toInt ≤ 1602) (x_0 : (o0.2.1 2 v1.toNatClampNeg).toInt - (o0.2.1 1 v1.toNatClampNeg).toInt = 4) (hm : 0 + (4 - v3.toInt) * 2 ≤ (n : Int)) : tt (fTx_isWord_S4_16 (gTx_isWord_S4 n) v1 v3 o0) (QTx_isWord_S4 yv1 yo0) := by
  unfold fTx_isWord_S4_16
  refine tt_b (sJString_length__S4  ) (fun q1 hq1 => ?_)
  obtain ⟨i_q1, -⟩ := hq1
  refine tt_if (fun c2 => ?_) (fun c2 => ?_)
  · have wc2 : q1.toInt ≤ v3.toInt := c_le c2
    have i3 : (4 : Int) ≤ v3.toInt ∧ v3.toInt ≤ 4 := nr_ler c2 i_q1 i_v3 (by decide) (by decide)
    exact tt_some ⟨(iv_w (a := 0) (b := 1) (by decide) (by decide) (show (1 : Int) ≤ (1 : Int32).toInt ∧ (1 : Int32).toInt ≤ 1 by decide)), trivial⟩
  · have wc2 : v3.toInt < q1.toInt := c_nle c2
    have i4 : (0 : Int) ≤ v3.toInt ∧ v3.toInt ≤ 3 := nr_nlel c2 i_v3 i_q1 (by decide) (by decide)
    have t5 : (0 : Int) ≤ (o0.2.1 2 v1.toNatClampNeg).toInt ∧ (o0.2.1 2 v1.toNatClampNeg).toInt ≤ 1600 := k_o0.2 2 _
    have t6 : (0 : Int) ≤ (o0.2.1 1 v1.toNatClampNeg).toInt ∧ (o0.2.1 1 v1.toNatClampNeg).toInt ≤ 1599 := k_o0.2 1 _
    refine tt_b (sTx_signOf _ _ _ k_o0 (iv_w (a := 0) (b := 8) (by decide) (by decide) i_v1) (iv_w (a := 0) (b := 1599) (by decide) (by decide) i4) f_o0_4 (show 0 ≤ v3.toInt by omega) (show v3.toInt < (o0.2.1 2 v1.toNatClampNeg).toInt - (o0.2.1 1 v1.toNatClampNeg).toInt by omega)) (fun q7 hq7 => ?_)
    obtain ⟨i_q7, -⟩ := hq7
    refine tt_b (sJString_charAt_I_S4 _ i4 (show 0 ≤ v3.toInt by omega) (show v3.toInt < 4 by omega)) (fun q8 hq8 => ?_)
    obtain ⟨i_q8, -⟩ := hq8
    refine tt_if (fun c9 => ?_) (fun c9 => ?_)
    · have wc9 : q7.toInt = q8.toInt := c_eq c9
      have i10 : (0 : Int) ≤ q7.toInt ∧ q7.toInt ≤ 127 := nr_eql c9 i_q7 i_q8 (by decide) (by decide)
      have i11 : (0 : Int) ≤ q8.toInt ∧ q8.toInt ≤ 127 := nr_eqr c9 i_q7 i_q8 (by decide) (by decide)
      refine tt_kv (P := fun z => ((1 : Int) ≤ z.toInt ∧ z.toInt ≤ 4) ∧ z.toInt = v3.toInt + 1) ⟨iv_add i4 (show (1 : Int) ≤ (1 : Int32).toInt ∧ (1 : Int32).toInt ≤ 1 by decide) (by decide) (by decide) (by decide) (by decide), iq_add i4 (show (1 : Int) ≤ (1 : Int32).toInt ∧ (1 : Int32).toInt ≤ 1 by decide) (by decide) (by decide)⟩ (fun x12 qi13 => ?_)
      obtain ⟨i13, ei13⟩ := qi13
      have t14 : (0 : Int) ≤ (o0.2.1 2 v1.toNatClampNeg).toInt ∧ (o0.2.1 2 v1.toNatClampNeg).toInt ≤ 1600 := k_o0.2 2 _
      have t15 : (0 : Int) ≤ (o0.2.1 1 v1.toNatClampNeg).toInt ∧ (o0.2.1 1 v1.toNatClampNeg).toInt ≤ 1599 := k_o0.2 1 _
      exact H _ _ _ k_o0 r_o0 i_v1 (iv_w (a := 0) (b := 4) (by decide) (by decide) i13) f_o0_4 (show (o0.2.1 2 v1.toNatClampNeg).toInt - (o0.2.1 1 v1.toNatClampNeg).toInt = 4 by omega) (show 0 + (4 - x12.toInt) * 2 < (n : Int) by omega)
    · have wc9 : ¬ q7.toInt = q8.toInt := c_ne c9
      exact tt_some ⟨(iv_w (a := 0) (b := 1) (by decide) (by decide) (show (0 : Int) ≤ (0 : Int32).toInt ∧ (0 : Int32).toInt ≤ 0 by decide)), trivial⟩
set_option maxHeartbeats 4000000 in
set_option maxRecDepth 100000 in
theorem hTx_isWord_S4 (yv1 : Int32) (yo0 : cf_O) : ∀ n, HTx_isWord_S4 yv1 yo0 n := by
  intro n
  induction n with
  | zero => exact (fun v1 v3 o0 k_o0 r_o0 i_v1 i_v3 f_o0_4 x_0 hm => by exact absurd (show 0 + (4 - v3.toInt) * 2 < (0 : Int) from hm) (by omega))
  | succ n ih => exact (fun v1 v3 o0 k_o0 r_o0 i_v1 i_v3 f_o0_4 x_0 hm => tTx_isWord_S4_16 ih v1 v3 o0 k_o0 r_o0 i_v1 i_v3 f_o0_4 x_0 (by omega))
set_option maxHeartbeats 4000000 in
set_option maxRecDepth 100000 in
theorem sTx_isWord_S4 (v1 : Int32) (o0 : cf_O) (k_o0 : okO I_Tx o0) (i_v1 : (0 : Int) ≤ v1.toInt ∧ v1.toInt ≤ 0) (f_o0_4 : (0 : Int) ≤ (o0.1 4).toInt ∧ (o0.1 4).toInt ≤ 1602) : tt (fTx_isWord_S4 v1 o0) (QTx_isWord_S4 v1 o0) := by
  have H := hTx_isWord_S4 v1 o0 cfFU
  have hm : (11 : Int) ≤ (cfFU : Nat) := by decide
  have r_o0 : Fr (fr_M [] [] []) o0 o0 := fr_rfl
  unfold fTx_isWord_S4 fTx_isWord_S4_0
  refine tt_b (sTx_length _ _ k_o0 (iv_w (a := 0) (b := 8) (by decide) (by decide) i_v1) f_o0_4) (fun q1 hq1 => ?_)
  obtain ⟨i_q1, zq1_0, -⟩ := hq1
  have zq1_0 : q1.toInt = (o0.2.1 2 v1.toNatClampNeg).toInt - (o0.2.1 1 v1.toNatClampNeg).toInt := zq1_0
  refine tt_b (sJString_length__S4  ) (fun q2 hq2 => ?_)
  obtain ⟨i_q2, -⟩ := hq2
  refine tt_if (fun c3 => ?_) (fun c3 => ?_)
  · have wc3 : q1.toInt = q2.toInt := c_eq c3
    have i4 : (4 : Int) ≤ q1.toInt ∧ q1.toInt ≤ 4 := nr_eql c3 i_q1 i_q2 (by decide) (by decide)
    have t5 : (0 : Int) ≤ (o0.2.1 2 v1.toNatClampNeg).toInt ∧ (o0.2.1 2 v1.toNatClampNeg).toInt ≤ 1600 := k_o0.2 2 _
    have t6 : (0 : Int) ≤ (o0.2.1 1 v1.toNatClampNeg).toInt ∧ (o0.2.1 1 v1.toNatClampNeg).toInt ≤ 1599 := k_o0.2 1 _
    exact H _ _ _ k_o0 r_o0 i_v1 (iv_w (a := 0) (b := 4) (by decide) (by decide) (show (0 : Int) ≤ (0 : Int32).toInt ∧ (0 : Int32).toInt ≤ 0 by decide)) f_o0_4 (show (o0.2.1 2 v1.toNatClampNeg).toInt - (o0.2.1 1 v1.toNatClampNeg).toInt = 4 by omega) (show 0 + (4 - 0) * 2 < ((cfFU : Nat) : Int) by omega)
  · have wc3 : ¬ q1.toInt = q2.toInt := c_ne c3
    exact tt_some ⟨(iv_w (a := 0) (b := 1) (by decide) (by decide) (show (0 : Int) ≤ (0 : Int32).toInt ∧ (0 : Int32).toInt ≤ 0 by decide)), trivial⟩
def QJString_coder__S5  (r : (Int32)) : Prop := ((0 : Int) ≤ r.toInt ∧ r.toInt ≤ 0) ∧ True
set_option maxHeartbeats 4000000 in
set_option maxRecDepth 100000 in
theorem sJString_coder__S5   : tt (fJString_coder__S5 ) (QJString_coder__S5 ) := by
  unfold fJString_coder__S5 fJString_coder__S5_0
  try unfold fJString_coder__S5_14
  refine tt_w (iv_nb (show (0 : Int) ≤ (0 : Int32).toInt ∧ (0 : Int32).toInt ≤ 0 by decide) (by decide) (by decide)) ?_
  exact tt_some ⟨(show (0 : Int) ≤ (0 : Int32).toInt ∧ (0 : Int32).toInt ≤ 0 by decide), trivial⟩
def QJString_length__S5  (r : (Int32)) : Prop := ((6 : Int) ≤ r.toInt ∧ r.toInt ≤ 6) ∧ True
set_option maxHeartbeats 4000000 in
set_option maxRecDepth 100000 in
theorem sJString_length__S5   : tt (fJString_length__S5 ) (QJString_length__S5 ) := by
  unfold fJString_length__S5 fJString_length__S5_0
  refine tt_b (sJString_coder__S5  ) (fun q1 hq1 => ?_)
  obtain ⟨i_q1, -⟩ := hq1
  refine tt_kv (P := fun z => (6 : Int) ≤ z.toInt ∧ z.toInt ≤ 6) (iv_shr (p := 0) (q := 0) (show (6 : Int) ≤ (6 : Int32).toInt ∧ (6 : Int32).toInt ≤ 6 by decide) i_q1 (by decide) (by decide) (by decide) (by decide)) (fun x2 i3 => ?_)
  exact tt_some ⟨i3, trivial⟩
def QJString_isLatin1__S5  (r : (Int32)) : Prop := ((1 : Int) ≤ r.toInt ∧ r.toInt ≤ 1) ∧ True
set_option maxHeartbeats 4000000 in
set_option maxRecDepth 100000 in
theorem sJString_isLatin1__S5   : tt (fJString_isLatin1__S5 ) (QJString_isLatin1__S5 ) := by
  unfold fJString_isLatin1__S5 fJString_isLatin1__S5_0
  try unfold fJString_isLatin1__S5_18
  refine tt_w (iv_b (show (1 : Int) ≤ (1 : Int32).toInt ∧ (1 : Int32).toInt ≤ 1 by decide) (by decide) (by decide)) ?_
  exact tt_some ⟨(show (1 : Int) ≤ (1 : Int32).toInt ∧ (1 : Int32).toInt ≤ 1 by decide), trivial⟩
def QJStringLatin1_charAt_ABI_B5 (v1 : Int32) (r : (Int32)) : Prop := ((0 : Int) ≤ r.toInt ∧ r.toInt ≤ 255) ∧ True
set_option maxHeartbeats 4000000 in
set_option maxRecDepth 100000 in
theorem sJStringLatin1_charAt_ABI_B5 (v1 : Int32) (i_v1 : (0 : Int) ≤ v1.toInt ∧ v1.toInt ≤ 5) : tt (fJStringLatin1_charAt_ABI_B5 v1) (QJStringLatin1_charAt_ABI_B5 v1) := by
  unfold fJStringLatin1_charAt_ABI_B5 fJStringLatin1_charAt_ABI_B5_0
  refine tt_b (sJString_checkIndex_II _ _ (iv_w (a := 0) (b := 89999) (by decide) (by decide) i_v1) (iv_w (a := 0) (b := 90000) (by decide) (by decide) (show (6 : Int) ≤ (6 : Int32).toInt ∧ (6 : Int32).toInt ≤ 6 by decide)) (show 0 ≤ v1.toInt by omega) (show v1.toInt < 6 by omega)) (fun q1 hq1 => ?_)
  refine tt_n (ix_ok i_v1 (by decide) (by decide)) ?_
  refine tt_kv (P := fun z => (0 : Int) ≤ z.toInt ∧ z.toInt ≤ 127) (iv_sb _ _) (fun x2 i3 => ?_)
  refine tt_kv (P := fun z => (0 : Int) ≤ z.toInt ∧ z.toInt ≤ 255) (iv_and (show (255 : Int) ≤ (255 : Int32).toInt ∧ (255 : Int32).toInt ≤ 255 by decide) (by decide) (by decide) (by decide)) (fun x4 i5 => ?_)
  refine tt_kv (P := fun z => (0 : Int) ≤ z.toInt ∧ z.toInt ≤ 255) (iv_c16i i5 (by decide) (by decide)) (fun x6 i7 => ?_)
  refine tt_w (iv_nc i7 (by decide) (by decide)) ?_
  exact tt_some ⟨i7, trivial⟩
def QJString_charAt_I_S5 (v1 : Int32) (r : (Int32)) : Prop := ((0 : Int) ≤ r.toInt ∧ r.toInt ≤ 255) ∧ True
set_option maxHeartbeats 4000000 in
set_option maxRecDepth 100000 in
theorem sJString_charAt_I_S5 (v1 : Int32) (i_v1 : (0 : Int) ≤ v1.toInt ∧ v1.toInt ≤ 5) (x_0 : 0 ≤ v1.toInt) (x_1 : v1.toInt < 6) : tt (fJString_charAt_I_S5 v1) (QJString_charAt_I_S5 v1) := by
  unfold fJString_charAt_I_S5 fJString_charAt_I_S5_0
  refine tt_b (sJString_isLatin1__S5  ) (fun q1 hq1 => ?_)
  obtain ⟨i_q1, -⟩ := hq1
  refine tt_n (iv_nz0 i_q1 (by decide)) ?_
  refine tt_b (sJStringLatin1_charAt_ABI_B5 _ i_v1) (fun q2 hq2 => ?_)
  obtain ⟨i_q2, -⟩ := hq2
  refine tt_w (iv_nc i_q2 (by decide) (by decide)) ?_
  exact tt_some ⟨i_q2, trivial⟩
def QTx_isWord_S5 (v1 : Int32) (o0 : cf_O) (r : (Int32)) : Prop := ((0 : Int) ≤ r.toInt ∧ r.toInt ≤ 1) ∧ True
def HTx_isWord_S5 (yv1 : Int32) (yo0 : cf_O) (n : Nat) : Prop := (∀ (v1 : Int32) (v3 : Int32) (o0 : cf_O), (okO I_Tx o0) → (Fr (fr_M [] [] []) yo0 o0) → ((0 : Int) ≤ v1.toInt ∧ v1.toInt ≤ 0) → ((0 : Int) ≤ v3.toInt ∧ v3.toInt ≤ 6) → ((0 : Int) ≤ (o0.1 4).toInt ∧ (o0.1 4).toInt ≤ 1602) → ((o0.2.1 2 v1.toNatClampNeg).toInt - (o0.2.1 1 v1.toNatClampNeg).toInt = 6) → 0 + (6 - v3.toInt) * 2 < (n : Int) → tt (gTx_isWord_S5 n 0 v1 v3 o0) (QTx_isWord_S5 yv1 yo0))
set_option maxHeartbeats 4000000 in
set_option maxRecDepth 100000 in
theorem tTx_isWord_S5_16 {yv1 : Int32} {yo0 : cf_O} {n : Nat} (H : HTx_isWord_S5 yv1 yo0 n) (v1 : Int32) (v3 : Int32) (o0 : cf_O) (k_o0 : okO I_Tx o0) (r_o0 : Fr (fr_M [] [] []) yo0 o0) (i_v1 : (0 : Int) ≤ v1.toInt ∧ v1.toInt ≤ 0) (i_v3 : (0 : Int) ≤ v3.toInt ∧ v3.toInt ≤ 6) (f_o0_4 : (0 : Int) ≤ (o0.1 4).toInt ∧ (o0.1 4).toInt ≤ 1602) (x_0 : (o0.2.1 2 v1.toNatClampNeg).toInt - (o0.2.1 1 v1.toNatClampNeg).toInt = 6) (hm : 0 + (6 - v3.toInt) * 2 ≤ (n : Int)) : tt (fTx_isWord_S5_16 (gTx_isWord_S5 n) v1 v3 o0) (QTx_isWord_S5 yv1 yo0) := by
  unfold fTx_isWord_S5_16
  refine tt_b (sJString_length__S5  ) (fun q1 hq1 => ?_)
  obtain ⟨i_q1, -⟩ := hq1
  refine tt_if (fun c2 => ?_) (fun c2 => ?_)
  · have wc2 : q1.toInt ≤ v3.toInt := c_le c2
    have i3 : (6 : Int) ≤ v3.toInt ∧ v3.toInt ≤ 6 := nr_ler c2 i_q1 i_v3 (by decide) (by decide)
    exact tt_some ⟨(iv_w (a := 0) (b := 1) (by decide) (by decide) (show (1 : Int) ≤ (1 : Int32).toInt ∧ (1 : Int32).toInt ≤ 1 by decide)), trivial⟩
  · have wc2 : v3.toInt < q1.toInt := c_nle c2
    have i4 : (0 : Int) ≤ v3.toInt ∧ v3.toInt ≤ 5 := nr_nlel c2 i_v3 i_q1 (by decide) (by decide)
    have t5 : (0 : Int) ≤ (o0.2.1 2 v1.toNatClampNeg).toInt ∧ (o0.2.1 2 v1.toNatClampNeg).toInt ≤ 1600 := k_o0.2 2 _
    have t6 : (0 : Int) ≤ (o0.2.1 1 v1.toNatClampNeg).toInt ∧ (o0.2.1 1 v1.toNatClampNeg).toInt ≤ 1599 := k_o0.2 1 _
    refine tt_b (sTx_signOf _ _ _ k_o0 (iv_w (a := 0) (b := 8) (by decide) (by decide) i_v1) (iv_w (a := 0) (b := 1599) (by decide) (by decide) i4) f_o0_4 (show 0 ≤ v3.toInt by omega) (show v3.toInt < (o0.2.1 2 v1.toNatClampNeg).toInt - (o0.2.1 1 v1.toNatClampNeg).toInt by omega)) (fun q7 hq7 => ?_)
    obtain ⟨i_q7, -⟩ := hq7
    refine tt_b (sJString_charAt_I_S5 _ i4 (show 0 ≤ v3.toInt by omega) (show v3.toInt < 6 by omega)) (fun q8 hq8 => ?_)
    obtain ⟨i_q8, -⟩ := hq8
    refine tt_if (fun c9 => ?_) (fun c9 => ?_)
    · have wc9 : q7.toInt = q8.toInt := c_eq c9
      have i10 : (0 : Int) ≤ q7.toInt ∧ q7.toInt ≤ 127 := nr_eql c9 i_q7 i_q8 (by decide) (by decide)
      have i11 : (0 : Int) ≤ q8.toInt ∧ q8.toInt ≤ 127 := nr_eqr c9 i_q7 i_q8 (by decide) (by decide)
      refine tt_kv (P := fun z => ((1 : Int) ≤ z.toInt ∧ z.toInt ≤ 6) ∧ z.toInt = v3.toInt + 1) ⟨iv_add i4 (show (1 : Int) ≤ (1 : Int32).toInt ∧ (1 : Int32).toInt ≤ 1 by decide) (by decide) (by decide) (by decide) (by decide), iq_add i4 (show (1 : Int) ≤ (1 : Int32).toInt ∧ (1 : Int32).toInt ≤ 1 by decide) (by decide) (by decide)⟩ (fun x12 qi13 => ?_)
      obtain ⟨i13, ei13⟩ := qi13
      have t14 : (0 : Int) ≤ (o0.2.1 2 v1.toNatClampNeg).toInt ∧ (o0.2.1 2 v1.toNatClampNeg).toInt ≤ 1600 := k_o0.2 2 _
      have t15 : (0 : Int) ≤ (o0.2.1 1 v1.toNatClampNeg).toInt ∧ (o0.2.1 1 v1.toNatClampNeg).toInt ≤ 1599 := k_o0.2 1 _
      exact H _ _ _ k_o0 r_o0 i_v1 (iv_w (a := 0) (b := 6) (by decide) (by decide) i13) f_o0_4 (show (o0.2.1 2 v1.toNatClampNeg).toInt - (o0.2.1 1 v1.toNatClampNeg).toInt = 6 by omega) (show 0 + (6 - x12.toInt) * 2 < (n : Int) by omega)
    · have wc9 : ¬ q7.toInt = q8.toInt := c_ne c9
      exact tt_some ⟨(iv_w (a := 0) (b := 1) (by decide) (by decide) (show (0 : Int) ≤ (0 : Int32).toInt ∧ (0 : Int32).toInt ≤ 0 by decide)), trivial⟩
set_option maxHeartbeats 4000000 in
set_option maxRecDepth 100000 in
theorem hTx_isWord_S5 (yv1 : Int32) (yo0 : cf_O) : ∀ n, HTx_isWord_S5 yv1 yo0 n := by
  intro n
  induction n with
  | zero => exact (fun v1 v3 o0 k_o0 r_o0 i_v1 i_v3 f_o0_4 x_0 hm => by exact absurd (show 0 + (6 - v3.toInt) * 2 < (0 : Int) from hm) (by omega))
  | succ n ih => exact (fun v1 v3 o0 k_o0 r_o0 i_v1 i_v3 f_o0_4 x_0 hm => tTx_isWord_S5_16 ih v1 v3 o0 k_o0 r_o0 i_v1 i_v3 f_o0_4 x_0 (by omega))
set_option maxHeartbeats 4000000 in
set_option maxRecDepth 100000 in
theorem sTx_isWord_S5 (v1 : Int32) (o0 : cf_O) (k_o0 : okO I_Tx o0) (i_v1 : (0 : Int) ≤ v1.toInt ∧ v1.toInt ≤ 0) (f_o0_4 : (0 : Int) ≤ (o0.1 4).toInt ∧ (o0.1 4).toInt ≤ 1602) : tt (fTx_isWord_S5 v1 o0) (QTx_isWord_S5 v1 o0) := by
  have H := hTx_isWord_S5 v1 o0 cfFU
  have hm : (15 : Int) ≤ (cfFU : Nat) := by decide
  have r_o0 : Fr (fr_M [] [] []) o0 o0 := fr_rfl
  unfold fTx_isWord_S5 fTx_isWord_S5_0
  refine tt_b (sTx_length _ _ k_o0 (iv_w (a := 0) (b := 8) (by decide) (by decide) i_v1) f_o0_4) (fun q1 hq1 => ?_)
  obtain ⟨i_q1, zq1_0, -⟩ := hq1
  have zq1_0 : q1.toInt = (o0.2.1 2 v1.toNatClampNeg).toInt - (o0.2.1 1 v1.toNatClampNeg).toInt := zq1_0
  refine tt_b (sJString_length__S5  ) (fun q2 hq2 => ?_)
  obtain ⟨i_q2, -⟩ := hq2
  refine tt_if (fun c3 => ?_) (fun c3 => ?_)
  · have wc3 : q1.toInt = q2.toInt := c_eq c3
    have i4 : (6 : Int) ≤ q1.toInt ∧ q1.toInt ≤ 6 := nr_eql c3 i_q1 i_q2 (by decide) (by decide)
    have t5 : (0 : Int) ≤ (o0.2.1 2 v1.toNatClampNeg).toInt ∧ (o0.2.1 2 v1.toNatClampNeg).toInt ≤ 1600 := k_o0.2 2 _
    have t6 : (0 : Int) ≤ (o0.2.1 1 v1.toNatClampNeg).toInt ∧ (o0.2.1 1 v1.toNatClampNeg).toInt ≤ 1599 := k_o0.2 1 _
    exact H _ _ _ k_o0 r_o0 i_v1 (iv_w (a := 0) (b := 6) (by decide) (by decide) (show (0 : Int) ≤ (0 : Int32).toInt ∧ (0 : Int32).toInt ≤ 0 by decide)) f_o0_4 (show (o0.2.1 2 v1.toNatClampNeg).toInt - (o0.2.1 1 v1.toNatClampNeg).toInt = 6 by omega) (show 0 + (6 - 0) * 2 < ((cfFU : Nat) : Int) by omega)
  · have wc3 : ¬ q1.toInt = q2.toInt := c_ne c3
    exact tt_some ⟨(iv_w (a := 0) (b := 1) (by decide) (by decide) (show (0 : Int) ≤ (0 : Int32).toInt ∧ (0 : Int32).toInt ≤ 0 by decide)), trivial⟩
def QNl_takeNames_Nl7 (v2 : Int32) (v3 : Int32) (o0 : cf_O) (o1 : cf_O) (r : (Int32 × cf_O)) : Prop := ((0 : Int) ≤ r.1.toInt ∧ r.1.toInt ≤ 1) ∧ (okO I_Nl r.2) ∧ (Fr (fr_M [] [] [7]) o1 r.2) ∧ (r.1.toInt = 0 ∨ (2 ≤ (o0.1 5).toInt ∧ (o0.1 5).toInt ≤ v3.toInt + 1)) ∧ True
def HNl_takeNames_Nl7 (yv2 : Int32) (yv3 : Int32) (yo0 : cf_O) (yo1 : cf_O) (n : Nat) : Prop := (∀ (v2 : Int32) (v4 : Int32) (v5 : Int32) (o0 : cf_O) (o1 : cf_O), (okO I_Tx o0) → (Fr (fr_M [] [] []) yo0 o0) → (okO I_Nl o1) → (Fr (fr_M [] [] [7]) yo1 o1) → ((0 : Int) ≤ v2.toInt ∧ v2.toInt ≤ 174) → ((1 : Int) ≤ v4.toInt ∧ v4.toInt ≤ 6) → ((0 : Int) ≤ v5.toInt ∧ v5.toInt ≤ 6) → ((0 : Int) ≤ (o0.1 4).toInt ∧ (o0.1 4).toInt ≤ 1602) → ((2 : Int) ≤ (o0.1 5).toInt ∧ (o0.1 5).toInt ≤ 7) → ((0 : Int) ≤ (o1.1 6).toInt ∧ (o1.1 6).toInt ≤ 29) → (v4.toInt = (o0.1 5).toInt - 1) → (v4.toInt ≤ yv3.toInt) → (1 ≤ v4.toInt) → (v2.toInt ≤ 174) → 0 + (6 - v5.toInt) * 2 < (n : Int) → tt (gNl_takeNames_Nl7 n 0 v2 v4 v5 o0 o1) (QNl_takeNames_Nl7 yv2 yv3 yo0 yo1))
set_option maxHeartbeats 4000000 in
set_option maxRecDepth 100000 in
theorem tNl_takeNames_Nl7_25 {yv2 : Int32} {yv3 : Int32} {yo0 : cf_O} {yo1 : cf_O} {n : Nat} (H : HNl_takeNames_Nl7 yv2 yv3 yo0 yo1 n) (v2 : Int32) (v4 : Int32) (v5 : Int32) (o0 : cf_O) (o1 : cf_O) (k_o0 : okO I_Tx o0) (r_o0 : Fr (fr_M [] [] []) yo0 o0) (k_o1 : okO I_Nl o1) (r_o1 : Fr (fr_M [] [] [7]) yo1 o1) (i_v2 : (0 : Int) ≤ v2.toInt ∧ v2.toInt ≤ 174) (i_v4 : (1 : Int) ≤ v4.toInt ∧ v4.toInt ≤ 6) (i_v5 : (0 : Int) ≤ v5.toInt ∧ v5.toInt ≤ 6) (f_o0_4 : (0 : Int) ≤ (o0.1 4).toInt ∧ (o0.1 4).toInt ≤ 1602) (f_o0_5 : (2 : Int) ≤ (o0.1 5).toInt ∧ (o0.1 5).toInt ≤ 7) (f_o1_6 : (0 : Int) ≤ (o1.1 6).toInt ∧ (o1.1 6).toInt ≤ 29) (x_0 : v4.toInt = (o0.1 5).toInt - 1) (x_1 : v4.toInt ≤ yv3.toInt) (x_2 : 1 ≤ v4.toInt) (x_3 : v2.toInt ≤ 174) (hm : 0 + (6 - v5.toInt) * 2 ≤ (n : Int)) : tt (fNl_takeNames_Nl7_25 (gNl_takeNames_Nl7 n) v2 v4 v5 o0 o1) (QNl_takeNames_Nl7 yv2 yv3 yo0 yo1) := by
  unfold fNl_takeNames_Nl7_25
  have ey_o0_5 : (o0.1 5).toInt = (yo0.1 5).toInt := congrArg Int32.toInt (r_o0.1 5 rfl)
  have g_o1_5 : (0 : Int) ≤ (o1.1 5).toInt ∧ (o1.1 5).toInt ≤ 2147483647 := k_o1.1 5
  have ey_o1_5 : (o1.1 5).toInt = (yo1.1 5).toInt := congrArg Int32.toInt (r_o1.1 5 rfl)
  refine tt_if (fun c1 => ?_) (fun c1 => ?_)
  · have wc1 : v4.toInt ≤ v5.toInt := c_le c1
    have i2 : (1 : Int) ≤ v5.toInt ∧ v5.toInt ≤ 6 := nr_ler c1 i_v4 i_v5 (by decide) (by decide)
    exact tt_some ⟨(iv_w (a := 0) (b := 1) (by decide) (by decide) (show (1 : Int) ≤ (1 : Int32).toInt ∧ (1 : Int32).toInt ≤ 1 by decide)), k_o1, r_o1, (show 1 = 0 ∨ (2 ≤ (yo0.1 5).toInt ∧ (yo0.1 5).toInt ≤ yv3.toInt + 1) by omega), trivial⟩
  · have wc1 : v5.toInt < v4.toInt := c_nle c1
    have i3 : (0 : Int) ≤ v5.toInt ∧ v5.toInt ≤ 5 := nr_nlel c1 i_v5 i_v4 (by decide) (by decide)
    refine tt_kv (P := fun z => ((0 : Int) ≤ z.toInt ∧ z.toInt ≤ 179) ∧ z.toInt = v2.toInt + v5.toInt) ⟨iv_add i_v2 i3 (by decide) (by decide) (by decide) (by decide), iq_add i_v2 i3 (by decide) (by decide)⟩ (fun x4 qi5 => ?_)
    obtain ⟨i5, ei5⟩ := qi5
    refine tt_kv (P := fun z => ((1 : Int) ≤ z.toInt ∧ z.toInt ≤ 6) ∧ z.toInt = v5.toInt + 1) ⟨iv_add i3 (show (1 : Int) ≤ (1 : Int32).toInt ∧ (1 : Int32).toInt ≤ 1 by decide) (by decide) (by decide) (by decide) (by decide), iq_add i3 (show (1 : Int) ≤ (1 : Int32).toInt ∧ (1 : Int32).toInt ≤ 1 by decide) (by decide) (by decide)⟩ (fun x6 qi7 => ?_)
    obtain ⟨i7, ei7⟩ := qi7
    refine tt_b (sTx_name _ _ k_o0 (iv_w (a := 1) (b := 8) (by decide) (by decide) i7) f_o0_4 (iv_w (a := 2) (b := 9) (by decide) (by decide) f_o0_5)) (fun q8 hq8 => ?_)
    refine tt_n (ix_ok i5 (by decide) (by decide)) ?_
    refine tt_ko ?_
    have k9 := ok_yp (k := 7) (i := x4.toNatClampNeg) (v := q8) k_o1
    have r10 := fr_yp (k := 7) (i := x4.toNatClampNeg) (v := q8) r_o1 rfl
    refine tt_kv (P := fun z => ((0 : Int) ≤ z.toInt ∧ z.toInt ≤ 179) ∧ z.toInt = v2.toInt + v5.toInt) ⟨iv_add i_v2 i3 (by decide) (by decide) (by decide) (by decide), iq_add i_v2 i3 (by decide) (by decide)⟩ (fun x11 qi12 => ?_)
    obtain ⟨i12, ei12⟩ := qi12
    refine tt_n (ix_ok i12 (by decide) (by decide)) ?_
    refine tt_kl (fun x13 => ?_)
    refine tt_kv (P := fun z => ((-2147483648) : Int) ≤ z.toInt ∧ z.toInt ≤ 2147483647) (iv_top _) (fun x14 i15 => ?_)
    refine tt_if (fun c16 => ?_) (fun c16 => ?_)
    · have wc16 : x14.toInt = (0 : Int) := c_eq c16
      have i17 : (0 : Int) ≤ x14.toInt ∧ x14.toInt ≤ 0 := nr_eql c16 i15 (show (0 : Int) ≤ (0 : Int32).toInt ∧ (0 : Int32).toInt ≤ 0 by decide) (by decide) (by decide)
      exact tt_some ⟨(iv_w (a := 0) (b := 1) (by decide) (by decide) (show (0 : Int) ≤ (0 : Int32).toInt ∧ (0 : Int32).toInt ≤ 0 by decide)), k9, r10, (show 0 = 0 ∨ (2 ≤ (yo0.1 5).toInt ∧ (yo0.1 5).toInt ≤ yv3.toInt + 1) by omega), trivial⟩
    · have wc16 : ¬ x14.toInt = (0 : Int) := c_ne c16
      refine tt_kv (P := fun z => ((1 : Int) ≤ z.toInt ∧ z.toInt ≤ 6) ∧ z.toInt = v5.toInt + 1) ⟨iv_add i3 (show (1 : Int) ≤ (1 : Int32).toInt ∧ (1 : Int32).toInt ≤ 1 by decide) (by decide) (by decide) (by decide) (by decide), iq_add i3 (show (1 : Int) ≤ (1 : Int32).toInt ∧ (1 : Int32).toInt ≤ 1 by decide) (by decide) (by decide)⟩ (fun x18 qi19 => ?_)
      obtain ⟨i19, ei19⟩ := qi19
      exact H _ _ _ _ _ k_o0 r_o0 k9 r10 i_v2 i_v4 (iv_w (a := 0) (b := 6) (by decide) (by decide) i19) f_o0_4 f_o0_5 f_o1_6 (show v4.toInt = (o0.1 5).toInt - 1 by omega) (show v4.toInt ≤ yv3.toInt by omega) (show 1 ≤ v4.toInt by omega) (show v2.toInt ≤ 174 by omega) (show 0 + (6 - x18.toInt) * 2 < (n : Int) by omega)
set_option maxHeartbeats 4000000 in
set_option maxRecDepth 100000 in
theorem hNl_takeNames_Nl7 (yv2 : Int32) (yv3 : Int32) (yo0 : cf_O) (yo1 : cf_O) : ∀ n, HNl_takeNames_Nl7 yv2 yv3 yo0 yo1 n := by
  intro n
  induction n with
  | zero => exact (fun v2 v4 v5 o0 o1 k_o0 r_o0 k_o1 r_o1 i_v2 i_v4 i_v5 f_o0_4 f_o0_5 f_o1_6 x_0 x_1 x_2 x_3 hm => by exact absurd (show 0 + (6 - v5.toInt) * 2 < (0 : Int) from hm) (by omega))
  | succ n ih => exact (fun v2 v4 v5 o0 o1 k_o0 r_o0 k_o1 r_o1 i_v2 i_v4 i_v5 f_o0_4 f_o0_5 f_o1_6 x_0 x_1 x_2 x_3 hm => tNl_takeNames_Nl7_25 ih v2 v4 v5 o0 o1 k_o0 r_o0 k_o1 r_o1 i_v2 i_v4 i_v5 f_o0_4 f_o0_5 f_o1_6 x_0 x_1 x_2 x_3 (by omega))
set_option maxHeartbeats 4000000 in
set_option maxRecDepth 100000 in
theorem sNl_takeNames_Nl7 (v2 : Int32) (v3 : Int32) (o0 : cf_O) (o1 : cf_O) (k_o0 : okO I_Tx o0) (k_o1 : okO I_Nl o1) (i_v2 : (0 : Int) ≤ v2.toInt ∧ v2.toInt ≤ 174) (i_v3 : (6 : Int) ≤ v3.toInt ∧ v3.toInt ≤ 6) (f_o0_4 : (0 : Int) ≤ (o0.1 4).toInt ∧ (o0.1 4).toInt ≤ 1602) (f_o1_6 : (0 : Int) ≤ (o1.1 6).toInt ∧ (o1.1 6).toInt ≤ 29) (x_0 : v2.toInt ≤ 174) : tt (fNl_takeNames_Nl7 v2 v3 o0 o1) (QNl_takeNames_Nl7 v2 v3 o0 o1) := by
  have H := hNl_takeNames_Nl7 v2 v3 o0 o1 cfFU
  have hm : (15 : Int) ≤ (cfFU : Nat) := by decide
  have r_o0 : Fr (fr_M [] [] []) o0 o0 := fr_rfl
  have r_o1 : Fr (fr_M [] [] [7]) o1 o1 := fr_rfl
  unfold fNl_takeNames_Nl7 fNl_takeNames_Nl7_0
  have g_o0_5 : (0 : Int) ≤ (o0.1 5).toInt ∧ (o0.1 5).toInt ≤ 10 := k_o0.1 5
  have g_o1_5 : (0 : Int) ≤ (o1.1 5).toInt ∧ (o1.1 5).toInt ≤ 2147483647 := k_o1.1 5
  refine tt_kv (P := fun z => (((-1) : Int) ≤ z.toInt ∧ z.toInt ≤ 9) ∧ z.toInt = (o0.1 5).toInt - 1) ⟨iv_sub (k_o0.1 5) (show (1 : Int) ≤ (1 : Int32).toInt ∧ (1 : Int32).toInt ≤ 1 by decide) (by decide) (by decide) (by decide) (by decide), iq_sub (k_o0.1 5) (show (1 : Int) ≤ (1 : Int32).toInt ∧ (1 : Int32).toInt ≤ 1 by decide) (by decide) (by decide)⟩ (fun x1 qi2 => ?_)
  obtain ⟨i2, ei2⟩ := qi2
  refine tt_if (fun c3 => ?_) (fun c3 => ?_)
  · have wc3 : x1.toInt < (1 : Int) := c_lt c3
    have i4 : ((-1) : Int) ≤ x1.toInt ∧ x1.toInt ≤ 0 := nr_ltl c3 i2 (show (1 : Int) ≤ (1 : Int32).toInt ∧ (1 : Int32).toInt ≤ 1 by decide) (by decide) (by decide)
    have i5 : (0 : Int) ≤ (o0.1 5).toInt ∧ (o0.1 5).toInt ≤ 1 := by omega
    try unfold fNl_takeNames_Nl7_20
    exact tt_some ⟨(iv_w (a := 0) (b := 1) (by decide) (by decide) (show (0 : Int) ≤ (0 : Int32).toInt ∧ (0 : Int32).toInt ≤ 0 by decide)), k_o1, r_o1, (show 0 = 0 ∨ (2 ≤ (o0.1 5).toInt ∧ (o0.1 5).toInt ≤ v3.toInt + 1) by omega), trivial⟩
  · have wc3 : (1 : Int) ≤ x1.toInt := c_nlt c3
    have i6 : (1 : Int) ≤ x1.toInt ∧ x1.toInt ≤ 9 := nr_nltr c3 (show (1 : Int) ≤ (1 : Int32).toInt ∧ (1 : Int32).toInt ≤ 1 by decide) i2 (by decide) (by decide)
    have i7 : (2 : Int) ≤ (o0.1 5).toInt ∧ (o0.1 5).toInt ≤ 10 := by omega
    refine tt_if (fun c8 => ?_) (fun c8 => ?_)
    · have wc8 : x1.toInt ≤ v3.toInt := c_le c8
      have i9 : (1 : Int) ≤ x1.toInt ∧ x1.toInt ≤ 6 := nr_lel c8 i6 i_v3 (by decide) (by decide)
      have i10 : (2 : Int) ≤ (o0.1 5).toInt ∧ (o0.1 5).toInt ≤ 7 := by omega
      exact H _ _ _ _ _ k_o0 r_o0 k_o1 r_o1 i_v2 i9 (iv_w (a := 0) (b := 6) (by decide) (by decide) (show (0 : Int) ≤ (0 : Int32).toInt ∧ (0 : Int32).toInt ≤ 0 by decide)) f_o0_4 i10 f_o1_6 (show x1.toInt = (o0.1 5).toInt - 1 by omega) (show x1.toInt ≤ v3.toInt by omega) (show 1 ≤ x1.toInt by omega) (show v2.toInt ≤ 174 by omega) (show 0 + (6 - 0) * 2 < ((cfFU : Nat) : Int) by omega)
    · have wc8 : v3.toInt < x1.toInt := c_nle c8
      have i11 : (7 : Int) ≤ x1.toInt ∧ x1.toInt ≤ 9 := nr_nler c8 i_v3 i6 (by decide) (by decide)
      have i12 : (8 : Int) ≤ (o0.1 5).toInt ∧ (o0.1 5).toInt ≤ 10 := by omega
      try unfold fNl_takeNames_Nl7_20
      exact tt_some ⟨(iv_w (a := 0) (b := 1) (by decide) (by decide) (show (0 : Int) ≤ (0 : Int32).toInt ∧ (0 : Int32).toInt ≤ 0 by decide)), k_o1, r_o1, (show 0 = 0 ∨ (2 ≤ (o0.1 5).toInt ∧ (o0.1 5).toInt ≤ v3.toInt + 1) by omega), trivial⟩
def QNl_givenName (v1 : Int32) (o0 : cf_O) (r : (Int64)) : Prop := True
set_option maxHeartbeats 4000000 in
set_option maxRecDepth 100000 in
theorem sNl_givenName (v1 : Int32) (o0 : cf_O) (k_o0 : okO I_Nl o0) (i_v1 : (0 : Int) ≤ v1.toInt ∧ v1.toInt ≤ 29) : tt (fNl_givenName v1 o0) (QNl_givenName v1 o0) := by
  have r_o0 : Fr (fr_M [] [] []) o0 o0 := fr_rfl
  unfold fNl_givenName fNl_givenName_0
  refine tt_kv (P := fun z => (0 : Int) ≤ z.toInt ∧ z.toInt ≤ 174) (iv_mul i_v1 (show (6 : Int) ≤ (6 : Int32).toInt ∧ (6 : Int32).toInt ≤ 6 by decide) (by decide) (by decide) (by decide) (by decide) (by decide)) (fun x1 i2 => ?_)
  refine tt_n (ix_ok i_v1 (by decide) (by decide)) ?_
  refine tt_kv (P := fun z => (0 : Int) ≤ z.toInt ∧ z.toInt ≤ 5) (k_o0.2 8 _) (fun x3 i4 => ?_)
  refine tt_kv (P := fun z => (0 : Int) ≤ z.toInt ∧ z.toInt ≤ 179) (iv_add i2 i4 (by decide) (by decide) (by decide) (by decide)) (fun x5 i6 => ?_)
  refine tt_n (ix_ok i6 (by decide) (by decide)) ?_
  refine tt_kl (fun x7 => ?_)
  exact tt_some trivial
def QNl_sourceOf (v1 : Int64) (o0 : cf_O) (r : (Int32)) : Prop := (((-1) : Int) ≤ r.toInt ∧ r.toInt ≤ 37) ∧ (r.toInt = -1 ∨ (0 ≤ r.toInt ∧ r.toInt < (o0.1 0).toInt) ∨ (8 ≤ r.toInt ∧ r.toInt < 8 + (o0.1 6).toInt)) ∧ True
def HNl_sourceOf (yv1 : Int64) (yo0 : cf_O) (n : Nat) : Prop := (∀ (v1 : Int64) (v3 : Int32) (o0 : cf_O), (okO I_Nl o0) → (Fr (fr_M [] [] []) yo0 o0) → ((0 : Int) ≤ v3.toInt ∧ v3.toInt ≤ 8) → 62 + (8 - v3.toInt) * 2 < (n : Int) → tt (gNl_sourceOf n 0 v1 v3 o0) (QNl_sourceOf yv1 yo0)) ∧ (∀ (v1 : Int64) (v3 : Int32) (o0 : cf_O), (okO I_Nl o0) → (Fr (fr_M [] [] []) yo0 o0) → ((0 : Int) ≤ v3.toInt ∧ v3.toInt ≤ 30) → 0 + (30 - v3.toInt) * 2 < (n : Int) → tt (gNl_sourceOf n 1 v1 v3 o0) (QNl_sourceOf yv1 yo0))
set_option maxHeartbeats 4000000 in
set_option maxRecDepth 100000 in
theorem tNl_sourceOf_31 {yv1 : Int64} {yo0 : cf_O} {n : Nat} (H : HNl_sourceOf yv1 yo0 n) (v1 : Int64) (v3 : Int32) (o0 : cf_O) (k_o0 : okO I_Nl o0) (r_o0 : Fr (fr_M [] [] []) yo0 o0) (i_v3 : (0 : Int) ≤ v3.toInt ∧ v3.toInt ≤ 30) (hm : 0 + (30 - v3.toInt) * 2 ≤ (n : Int)) : tt (fNl_sourceOf_31 (gNl_sourceOf n) v1 v3 o0) (QNl_sourceOf yv1 yo0) := by
  unfold fNl_sourceOf_31
  have g_o0_0 : (0 : Int) ≤ (o0.1 0).toInt ∧ (o0.1 0).toInt ≤ 8 := k_o0.1 0
  have ey_o0_0 : (o0.1 0).toInt = (yo0.1 0).toInt := congrArg Int32.toInt (r_o0.1 0 rfl)
  have g_o0_6 : (0 : Int) ≤ (o0.1 6).toInt ∧ (o0.1 6).toInt ≤ 30 := k_o0.1 6
  have ey_o0_6 : (o0.1 6).toInt = (yo0.1 6).toInt := congrArg Int32.toInt (r_o0.1 6 rfl)
  refine tt_if (fun c1 => ?_) (fun c1 => ?_)
  · have wc1 : (o0.1 6).toInt ≤ v3.toInt := c_le c1
    exact tt_some ⟨(iv_w (a := (-1)) (b := 37) (by decide) (by decide) (show ((-1) : Int) ≤ ((-1) : Int32).toInt ∧ ((-1) : Int32).toInt ≤ (-1) by decide)), (show (-1) = -1 ∨ (0 ≤ (-1) ∧ (-1) < (yo0.1 0).toInt) ∨ (8 ≤ (-1) ∧ (-1) < 8 + (yo0.1 6).toInt) by omega), trivial⟩
  · have wc1 : v3.toInt < (o0.1 6).toInt := c_nle c1
    have i2 : (0 : Int) ≤ v3.toInt ∧ v3.toInt ≤ 29 := nr_nlel c1 i_v3 (k_o0.1 6) (by decide) (by decide)
    have i3 : (1 : Int) ≤ (o0.1 6).toInt ∧ (o0.1 6).toInt ≤ 30 := nr_nler c1 i_v3 (k_o0.1 6) (by decide) (by decide)
    refine tt_b (sNl_givenName _ _ k_o0 i2) (fun q4 hq4 => ?_)
    refine tt_kv (P := fun z => ((-2147483648) : Int) ≤ z.toInt ∧ z.toInt ≤ 2147483647) (iv_top _) (fun x5 i6 => ?_)
    refine tt_if (fun c7 => ?_) (fun c7 => ?_)
    · have wc7 : x5.toInt = (0 : Int) := c_eq c7
      have i8 : (0 : Int) ≤ x5.toInt ∧ x5.toInt ≤ 0 := nr_eql c7 i6 (show (0 : Int) ≤ (0 : Int32).toInt ∧ (0 : Int32).toInt ≤ 0 by decide) (by decide) (by decide)
      refine tt_kv (P := fun z => ((8 : Int) ≤ z.toInt ∧ z.toInt ≤ 37) ∧ z.toInt = 8 + v3.toInt) ⟨iv_add (show (8 : Int) ≤ (8 : Int32).toInt ∧ (8 : Int32).toInt ≤ 8 by decide) i2 (by decide) (by decide) (by decide) (by decide), iq_add (show (8 : Int) ≤ (8 : Int32).toInt ∧ (8 : Int32).toInt ≤ 8 by decide) i2 (by decide) (by decide)⟩ (fun x9 qi10 => ?_)
      obtain ⟨i10, ei10⟩ := qi10
      exact tt_some ⟨(iv_w (a := (-1)) (b := 37) (by decide) (by decide) i10), (show x9.toInt = -1 ∨ (0 ≤ x9.toInt ∧ x9.toInt < (yo0.1 0).toInt) ∨ (8 ≤ x9.toInt ∧ x9.toInt < 8 + (yo0.1 6).toInt) by omega), trivial⟩
    · have wc7 : ¬ x5.toInt = (0 : Int) := c_ne c7
      refine tt_kv (P := fun z => ((1 : Int) ≤ z.toInt ∧ z.toInt ≤ 30) ∧ z.toInt = v3.toInt + 1) ⟨iv_add i2 (show (1 : Int) ≤ (1 : Int32).toInt ∧ (1 : Int32).toInt ≤ 1 by decide) (by decide) (by decide) (by decide) (by decide), iq_add i2 (show (1 : Int) ≤ (1 : Int32).toInt ∧ (1 : Int32).toInt ≤ 1 by decide) (by decide) (by decide)⟩ (fun x11 qi12 => ?_)
      obtain ⟨i12, ei12⟩ := qi12
      exact H.2 _ _ _ k_o0 r_o0 (iv_w (a := 0) (b := 30) (by decide) (by decide) i12) (show 0 + (30 - x11.toInt) * 2 < (n : Int) by omega)
set_option maxHeartbeats 4000000 in
set_option maxRecDepth 100000 in
theorem tNl_sourceOf_2 {yv1 : Int64} {yo0 : cf_O} {n : Nat} (H : HNl_sourceOf yv1 yo0 n) (v1 : Int64) (v3 : Int32) (o0 : cf_O) (k_o0 : okO I_Nl o0) (r_o0 : Fr (fr_M [] [] []) yo0 o0) (i_v3 : (0 : Int) ≤ v3.toInt ∧ v3.toInt ≤ 8) (hm : 62 + (8 - v3.toInt) * 2 ≤ (n : Int)) : tt (fNl_sourceOf_2 (gNl_sourceOf n) v1 v3 o0) (QNl_sourceOf yv1 yo0) := by
  unfold fNl_sourceOf_2
  have g_o0_0 : (0 : Int) ≤ (o0.1 0).toInt ∧ (o0.1 0).toInt ≤ 8 := k_o0.1 0
  have ey_o0_0 : (o0.1 0).toInt = (yo0.1 0).toInt := congrArg Int32.toInt (r_o0.1 0 rfl)
  have g_o0_6 : (0 : Int) ≤ (o0.1 6).toInt ∧ (o0.1 6).toInt ≤ 30 := k_o0.1 6
  have ey_o0_6 : (o0.1 6).toInt = (yo0.1 6).toInt := congrArg Int32.toInt (r_o0.1 6 rfl)
  refine tt_if (fun c1 => ?_) (fun c1 => ?_)
  · have wc1 : (o0.1 0).toInt ≤ v3.toInt := c_le c1
    exact H.2 _ _ _ k_o0 r_o0 (iv_w (a := 0) (b := 30) (by decide) (by decide) (show (0 : Int) ≤ (0 : Int32).toInt ∧ (0 : Int32).toInt ≤ 0 by decide)) (show 0 + (30 - 0) * 2 < (n : Int) by omega)
  · have wc1 : v3.toInt < (o0.1 0).toInt := c_nle c1
    have i2 : (0 : Int) ≤ v3.toInt ∧ v3.toInt ≤ 7 := nr_nlel c1 i_v3 (k_o0.1 0) (by decide) (by decide)
    have i3 : (1 : Int) ≤ (o0.1 0).toInt ∧ (o0.1 0).toInt ≤ 8 := nr_nler c1 i_v3 (k_o0.1 0) (by decide) (by decide)
    refine tt_n (ix_ok i2 (by decide) (by decide)) ?_
    refine tt_kl (fun x4 => ?_)
    refine tt_kv (P := fun z => ((-2147483648) : Int) ≤ z.toInt ∧ z.toInt ≤ 2147483647) (iv_top _) (fun x5 i6 => ?_)
    refine tt_if (fun c7 => ?_) (fun c7 => ?_)
    · have wc7 : x5.toInt = (0 : Int) := c_eq c7
      have i8 : (0 : Int) ≤ x5.toInt ∧ x5.toInt ≤ 0 := nr_eql c7 i6 (show (0 : Int) ≤ (0 : Int32).toInt ∧ (0 : Int32).toInt ≤ 0 by decide) (by decide) (by decide)
      exact tt_some ⟨(iv_w (a := (-1)) (b := 37) (by decide) (by decide) i2), (show v3.toInt = -1 ∨ (0 ≤ v3.toInt ∧ v3.toInt < (yo0.1 0).toInt) ∨ (8 ≤ v3.toInt ∧ v3.toInt < 8 + (yo0.1 6).toInt) by omega), trivial⟩
    · have wc7 : ¬ x5.toInt = (0 : Int) := c_ne c7
      refine tt_kv (P := fun z => ((1 : Int) ≤ z.toInt ∧ z.toInt ≤ 8) ∧ z.toInt = v3.toInt + 1) ⟨iv_add i2 (show (1 : Int) ≤ (1 : Int32).toInt ∧ (1 : Int32).toInt ≤ 1 by decide) (by decide) (by decide) (by decide) (by decide), iq_add i2 (show (1 : Int) ≤ (1 : Int32).toInt ∧ (1 : Int32).toInt ≤ 1 by decide) (by decide) (by decide)⟩ (fun x9 qi10 => ?_)
      obtain ⟨i10, ei10⟩ := qi10
      exact H.1 _ _ _ k_o0 r_o0 (iv_w (a := 0) (b := 8) (by decide) (by decide) i10) (show 62 + (8 - x9.toInt) * 2 < (n : Int) by omega)
set_option maxHeartbeats 4000000 in
set_option maxRecDepth 100000 in
theorem hNl_sourceOf (yv1 : Int64) (yo0 : cf_O) : ∀ n, HNl_sourceOf yv1 yo0 n := by
  intro n
  induction n with
  | zero => exact ⟨(fun v1 v3 o0 k_o0 r_o0 i_v3 hm => by exact absurd (show 62 + (8 - v3.toInt) * 2 < (0 : Int) from hm) (by omega)), (fun v1 v3 o0 k_o0 r_o0 i_v3 hm => by exact absurd (show 0 + (30 - v3.toInt) * 2 < (0 : Int) from hm) (by omega))⟩
  | succ n ih => exact ⟨(fun v1 v3 o0 k_o0 r_o0 i_v3 hm => tNl_sourceOf_2 ih v1 v3 o0 k_o0 r_o0 i_v3 (by omega)), (fun v1 v3 o0 k_o0 r_o0 i_v3 hm => tNl_sourceOf_31 ih v1 v3 o0 k_o0 r_o0 i_v3 (by omega))⟩
set_option maxHeartbeats 4000000 in
set_option maxRecDepth 100000 in
theorem sNl_sourceOf (v1 : Int64) (o0 : cf_O) (k_o0 : okO I_Nl o0) : tt (fNl_sourceOf v1 o0) (QNl_sourceOf v1 o0) := by
  have H := hNl_sourceOf v1 o0 cfFU
  have hm : (81 : Int) ≤ (cfFU : Nat) := by decide
  have r_o0 : Fr (fr_M [] [] []) o0 o0 := fr_rfl
  unfold fNl_sourceOf fNl_sourceOf_0
  have g_o0_0 : (0 : Int) ≤ (o0.1 0).toInt ∧ (o0.1 0).toInt ≤ 8 := k_o0.1 0
  have g_o0_6 : (0 : Int) ≤ (o0.1 6).toInt ∧ (o0.1 6).toInt ≤ 30 := k_o0.1 6
  exact H.1 _ _ _ k_o0 r_o0 (iv_w (a := 0) (b := 8) (by decide) (by decide) (show (0 : Int) ≤ (0 : Int32).toInt ∧ (0 : Int32).toInt ≤ 0 by decide)) (show 62 + (8 - 0) * 2 < ((cfFU : Nat) : Int) by omega)
def QNl_scanTable (o0 : cf_O) (o1 : cf_O) (r : (Int32 × cf_O)) : Prop := ((0 : Int) ≤ r.1.toInt ∧ r.1.toInt ≤ 2) ∧ (okO I_Nl r.2) ∧ (Fr (fr_M [6] [8, 9, 10, 11] [7]) o0 r.2) ∧ True
set_option maxHeartbeats 4000000 in
set_option maxRecDepth 100000 in
theorem sNl_scanTable (o0 : cf_O) (o1 : cf_O) (k_o0 : okO I_Nl o0) (k_o1 : okO I_Tx o1) (f_o1_4 : (0 : Int) ≤ (o1.1 4).toInt ∧ (o1.1 4).toInt ≤ 1602) (x_0 : 0 ≤ (o1.1 4).toInt) : tt (fNl_scanTable o0 o1) (QNl_scanTable o0 o1) := by
  have r_o0 : Fr (fr_M [6] [8, 9, 10, 11] [7]) o0 o0 := fr_rfl
  have r_o1 : Fr (fr_M [] [] []) o1 o1 := fr_rfl
  unfold fNl_scanTable fNl_scanTable_0
  have g_o0_4 : (0 : Int) ≤ (o0.1 4).toInt ∧ (o0.1 4).toInt ≤ 0 := k_o0.1 4
  have g_o0_5 : (0 : Int) ≤ (o0.1 5).toInt ∧ (o0.1 5).toInt ≤ 2147483647 := k_o0.1 5
  have g_o0_6 : (0 : Int) ≤ (o0.1 6).toInt ∧ (o0.1 6).toInt ≤ 30 := k_o0.1 6
  have g_o1_5 : (0 : Int) ≤ (o1.1 5).toInt ∧ (o1.1 5).toInt ≤ 10 := k_o1.1 5
  have g_o1_6 : (0 : Int) ≤ (o1.1 6).toInt ∧ (o1.1 6).toInt ≤ 1601 := k_o1.1 6
  refine tt_if (fun c1 => ?_) (fun c1 => ?_)
  · have wc1 : (o0.1 6).toInt = (30 : Int) := c_eq c1
    have i2 : (30 : Int) ≤ (o0.1 6).toInt ∧ (o0.1 6).toInt ≤ 30 := nr_eql c1 (k_o0.1 6) (show (30 : Int) ≤ (30 : Int32).toInt ∧ (30 : Int32).toInt ≤ 30 by decide) (by decide) (by decide)
    try unfold fNl_scanTable_29
    exact tt_some ⟨(iv_w (a := 0) (b := 2) (by decide) (by decide) (show (1 : Int) ≤ (1 : Int32).toInt ∧ (1 : Int32).toInt ≤ 1 by decide)), k_o0, r_o0, trivial⟩
  · have wc1 : ¬ (o0.1 6).toInt = (30 : Int) := c_ne c1
    have i3 : (0 : Int) ≤ (o0.1 6).toInt ∧ (o0.1 6).toInt ≤ 29 := nr_nelb c1 (k_o0.1 6) (show (30 : Int) ≤ (30 : Int32).toInt ∧ (30 : Int32).toInt ≤ 30 by decide) (by decide) (by decide)
    refine tt_kv (P := fun z => ((0 : Int) ≤ z.toInt ∧ z.toInt ≤ 174) ∧ z.toInt = (o0.1 6).toInt * 6) ⟨iv_mul i3 (show (6 : Int) ≤ (6 : Int32).toInt ∧ (6 : Int32).toInt ≤ 6 by decide) (by decide) (by decide) (by decide) (by decide) (by decide), iq_mul i3 (show (6 : Int) ≤ (6 : Int32).toInt ∧ (6 : Int32).toInt ≤ 6 by decide) (by decide) (by decide) (by decide) (by decide)⟩ (fun x4 qi5 => ?_)
    obtain ⟨i5, ei5⟩ := qi5
    refine tt_b (sNl_takeNames_Nl7 _ _ _ _ k_o1 k_o0 i5 (show (6 : Int) ≤ (6 : Int32).toInt ∧ (6 : Int32).toInt ≤ 6 by decide) f_o1_4 i3 (show x4.toInt ≤ 174 by omega)) (fun q6 hq6 => ?_)
    obtain ⟨i_q6, k_q6_2, n_q6_2, zq6_0, -⟩ := hq6
    have r_q6_2 := fr_tr r_o0 n_q6_2 rfl rfl rfl
    have f_q6_2_6 : (0 : Int) ≤ (q6.2.1 6).toInt ∧ (q6.2.1 6).toInt ≤ 29 := by rw [n_q6_2.1 6 rfl]; exact i3
    have e_q6_2_4 : (q6.2.1 4).toInt = (o0.1 4).toInt := congrArg Int32.toInt (n_q6_2.1 4 rfl)
    have g_q6_2_4 : (0 : Int) ≤ (q6.2.1 4).toInt ∧ (q6.2.1 4).toInt ≤ 0 := k_q6_2.1 4
    have e_q6_2_5 : (q6.2.1 5).toInt = (o0.1 5).toInt := congrArg Int32.toInt (n_q6_2.1 5 rfl)
    have g_q6_2_5 : (0 : Int) ≤ (q6.2.1 5).toInt ∧ (q6.2.1 5).toInt ≤ 2147483647 := k_q6_2.1 5
    have e_q6_2_6 : (q6.2.1 6).toInt = (o0.1 6).toInt := congrArg Int32.toInt (n_q6_2.1 6 rfl)
    have zq6_0 : q6.1.toInt = 0 ∨ (2 ≤ (o1.1 5).toInt ∧ (o1.1 5).toInt ≤ 6 + 1) := zq6_0
    refine tt_if (fun c7 => ?_) (fun c7 => ?_)
    · have wc7 : q6.1.toInt = (0 : Int) := c_eq c7
      have i8 : (0 : Int) ≤ q6.1.toInt ∧ q6.1.toInt ≤ 0 := nr_eql c7 i_q6 (show (0 : Int) ≤ (0 : Int32).toInt ∧ (0 : Int32).toInt ≤ 0 by decide) (by decide) (by decide)
      try unfold fNl_scanTable_29
      exact tt_some ⟨(iv_w (a := 0) (b := 2) (by decide) (by decide) (show (1 : Int) ≤ (1 : Int32).toInt ∧ (1 : Int32).toInt ≤ 1 by decide)), k_q6_2, r_q6_2, trivial⟩
    · have wc7 : ¬ q6.1.toInt = (0 : Int) := c_ne c7
      have i9 : (1 : Int) ≤ q6.1.toInt ∧ q6.1.toInt ≤ 1 := nr_nela c7 i_q6 (show (0 : Int) ≤ (0 : Int32).toInt ∧ (0 : Int32).toInt ≤ 0 by decide) (by decide) (by decide)
      refine tt_kv (P := fun z => (((-2) : Int) ≤ z.toInt ∧ z.toInt ≤ 8) ∧ z.toInt = (o1.1 5).toInt - 2) ⟨iv_sub (k_o1.1 5) (show (2 : Int) ≤ (2 : Int32).toInt ∧ (2 : Int32).toInt ≤ 2 by decide) (by decide) (by decide) (by decide) (by decide), iq_sub (k_o1.1 5) (show (2 : Int) ≤ (2 : Int32).toInt ∧ (2 : Int32).toInt ≤ 2 by decide) (by decide) (by decide)⟩ (fun x10 qi11 => ?_)
      obtain ⟨i11, ei11⟩ := qi11
      refine tt_n (ix_ok f_q6_2_6 (by decide) (by decide)) ?_
      refine tt_ko ?_
      have k12 := ok_xp (k := 8) (i := (q6.2.1 6).toNatClampNeg) (v := x10) k_q6_2 (show (0 : Int) ≤ _ ∧ _ ≤ (5 : Int) by omega)
      have r13 := fr_xp (k := 8) (i := (q6.2.1 6).toNatClampNeg) (v := x10) r_q6_2 rfl
      refine tt_b (sNl_givenName _ _ k12 f_q6_2_6) (fun q14 hq14 => ?_)
      refine tt_b (sNl_sourceOf _ _ k12) (fun q15 hq15 => ?_)
      obtain ⟨i_q15, zq15_0, -⟩ := hq15
      have zq15_0 : q15.toInt = -1 ∨ (0 ≤ q15.toInt ∧ q15.toInt < (q6.2.1 0).toInt) ∨ (8 ≤ q15.toInt ∧ q15.toInt < 8 + (q6.2.1 6).toInt) := zq15_0
      refine tt_if (fun c16 => ?_) (fun c16 => ?_)
      · have wc16 : q15.toInt = ((-1) : Int) := c_eq c16
        have i17 : ((-1) : Int) ≤ q15.toInt ∧ q15.toInt ≤ (-1) := nr_eql c16 i_q15 (show ((-1) : Int) ≤ ((-1) : Int32).toInt ∧ ((-1) : Int32).toInt ≤ (-1) by decide) (by decide) (by decide)
        refine tt_n (ix_ok f_q6_2_6 (by decide) (by decide)) ?_
        refine tt_ko ?_
        have k18 := ok_xp (k := 9) (i := (q6.2.1 6).toNatClampNeg) (v := (o1.1 4)) k12 (iv_w (a := 0) (b := 2147483647) (by decide) (by decide) f_o1_4)
        have r19 := fr_xp (k := 9) (i := (q6.2.1 6).toNatClampNeg) (v := (o1.1 4)) r13 rfl
        refine tt_n (ix_ok f_q6_2_6 (by decide) (by decide)) ?_
        refine tt_ko ?_
        have k20 := ok_xp (k := 10) (i := (q6.2.1 6).toNatClampNeg) (v := 0) k18 (iv_w (a := 0) (b := 16) (by decide) (by decide) (show (0 : Int) ≤ (0 : Int32).toInt ∧ (0 : Int32).toInt ≤ 0 by decide))
        have r21 := fr_xp (k := 10) (i := (q6.2.1 6).toNatClampNeg) (v := 0) r19 rfl
        refine tt_n (ix_ok f_q6_2_6 (by decide) (by decide)) ?_
        refine tt_ko ?_
        have k22 := ok_xp (k := 11) (i := (q6.2.1 6).toNatClampNeg) (v := 1) k20 (iv_w (a := (-2147483648)) (b := 2147483647) (by decide) (by decide) (show (1 : Int) ≤ (1 : Int32).toInt ∧ (1 : Int32).toInt ≤ 1 by decide))
        have r23 := fr_xp (k := 11) (i := (q6.2.1 6).toNatClampNeg) (v := 1) r21 rfl
        refine tt_kv (P := fun z => ((1 : Int) ≤ z.toInt ∧ z.toInt ≤ 30) ∧ z.toInt = (q6.2.1 6).toInt + 1) ⟨iv_add f_q6_2_6 (show (1 : Int) ≤ (1 : Int32).toInt ∧ (1 : Int32).toInt ≤ 1 by decide) (by decide) (by decide) (by decide) (by decide), iq_add f_q6_2_6 (show (1 : Int) ≤ (1 : Int32).toInt ∧ (1 : Int32).toInt ≤ 1 by decide) (by decide) (by decide)⟩ (fun x24 qi25 => ?_)
        obtain ⟨i25, ei25⟩ := qi25
        refine tt_ko ?_
        have k26 := ok_fp (k := 6) (v := x24) k22 (iv_w (a := 0) (b := 30) (by decide) (by decide) i25)
        have r27 := fr_fp (k := 6) (v := x24) r23 rfl
        exact tt_some ⟨(iv_w (a := 0) (b := 2) (by decide) (by decide) (show (0 : Int) ≤ (0 : Int32).toInt ∧ (0 : Int32).toInt ≤ 0 by decide)), k26, r27, trivial⟩
      · have wc16 : ¬ q15.toInt = ((-1) : Int) := c_ne c16
        have i28 : (0 : Int) ≤ q15.toInt ∧ q15.toInt ≤ 37 := nr_nela c16 i_q15 (show ((-1) : Int) ≤ ((-1) : Int32).toInt ∧ ((-1) : Int32).toInt ≤ (-1) by decide) (by decide) (by decide)
        exact tt_some ⟨(iv_w (a := 0) (b := 2) (by decide) (by decide) (show (2 : Int) ≤ (2 : Int32).toInt ∧ (2 : Int32).toInt ≤ 2 by decide)), k12, r13, trivial⟩
def QTx_ask (v1 : Int32) (v2 : Int32) (o0 : cf_O) (r : (Int32)) : Prop := (((-1) : Int) ≤ r.toInt ∧ r.toInt ≤ 1023) ∧ (Rks r) ∧ True
def HTx_ask (yv1 : Int32) (yv2 : Int32) (yo0 : cf_O) (n : Nat) : Prop := (∀ (v1 : Int32) (v2 : Int32) (v3 : Int32) (v4 : Int32) (o0 : cf_O), (okO I_Tx o0) → (Fr (fr_M [] [] []) yo0 o0) → ((0 : Int) ≤ v1.toInt ∧ v1.toInt ≤ 0) → ((1 : Int) ≤ v2.toInt ∧ v2.toInt ≤ 5) → ((0 : Int) ≤ v3.toInt ∧ v3.toInt ≤ 1023) → ((0 : Int) ≤ v4.toInt ∧ v4.toInt ≤ 5) → ((0 : Int) ≤ (o0.1 4).toInt ∧ (o0.1 4).toInt ≤ 1602) → ((2 : Int) ≤ (o0.1 5).toInt ∧ (o0.1 5).toInt ≤ 2) → ((o0.2.1 2 v1.toNatClampNeg).toInt - (o0.2.1 1 v1.toNatClampNeg).toInt = v2.toInt) → (Rkd v4.toInt v3) → 0 + (5 - v4.toInt) * 2 < (n : Int) → tt (gTx_ask n 0 v1 v2 v3 v4 o0) (QTx_ask yv1 yv2 yo0))
set_option maxHeartbeats 4000000 in
set_option maxRecDepth 100000 in
theorem tTx_ask_16 {yv1 : Int32} {yv2 : Int32} {yo0 : cf_O} {n : Nat} (H : HTx_ask yv1 yv2 yo0 n) (v1 : Int32) (v2 : Int32) (v3 : Int32) (v4 : Int32) (o0 : cf_O) (k_o0 : okO I_Tx o0) (r_o0 : Fr (fr_M [] [] []) yo0 o0) (i_v1 : (0 : Int) ≤ v1.toInt ∧ v1.toInt ≤ 0) (i_v2 : (1 : Int) ≤ v2.toInt ∧ v2.toInt ≤ 5) (i_v3 : (0 : Int) ≤ v3.toInt ∧ v3.toInt ≤ 1023) (i_v4 : (0 : Int) ≤ v4.toInt ∧ v4.toInt ≤ 5) (f_o0_4 : (0 : Int) ≤ (o0.1 4).toInt ∧ (o0.1 4).toInt ≤ 1602) (f_o0_5 : (2 : Int) ≤ (o0.1 5).toInt ∧ (o0.1 5).toInt ≤ 2) (x_0 : (o0.2.1 2 v1.toNatClampNeg).toInt - (o0.2.1 1 v1.toNatClampNeg).toInt = v2.toInt) (x_1 : Rkd v4.toInt v3) (hm : 0 + (5 - v4.toInt) * 2 ≤ (n : Int)) : tt (fTx_ask_16 (gTx_ask n) v1 v2 v3 v4 o0) (QTx_ask yv1 yv2 yo0) := by
  unfold fTx_ask_16
  refine tt_if (fun c1 => ?_) (fun c1 => ?_)
  · have wc1 : v2.toInt ≤ v4.toInt := c_le c1
    have i2 : (1 : Int) ≤ v4.toInt ∧ v4.toInt ≤ 5 := nr_ler c1 i_v2 i_v4 (by decide) (by decide)
    have p3 : Rks v3 := by first | exact Or.inl (by decide) | exact Or.inr (Rkd_r x_1)
    exact tt_some ⟨(iv_w (a := (-1)) (b := 1023) (by decide) (by decide) i_v3), p3, trivial⟩
  · have wc1 : v4.toInt < v2.toInt := c_nle c1
    have i4 : (0 : Int) ≤ v4.toInt ∧ v4.toInt ≤ 4 := nr_nlel c1 i_v4 i_v2 (by decide) (by decide)
    have t5 : (0 : Int) ≤ (o0.2.1 2 v1.toNatClampNeg).toInt ∧ (o0.2.1 2 v1.toNatClampNeg).toInt ≤ 1600 := k_o0.2 2 _
    have t6 : (0 : Int) ≤ (o0.2.1 1 v1.toNatClampNeg).toInt ∧ (o0.2.1 1 v1.toNatClampNeg).toInt ≤ 1599 := k_o0.2 1 _
    refine tt_b (sTx_signOf _ _ _ k_o0 (iv_w (a := 0) (b := 8) (by decide) (by decide) i_v1) (iv_w (a := 0) (b := 1599) (by decide) (by decide) i4) f_o0_4 (show 0 ≤ v4.toInt by omega) (show v4.toInt < (o0.2.1 2 v1.toNatClampNeg).toInt - (o0.2.1 1 v1.toNatClampNeg).toInt by omega)) (fun q7 hq7 => ?_)
    obtain ⟨i_q7, -⟩ := hq7
    refine tt_if (fun c8 => ?_) (fun c8 => ?_)
    · have wc8 : q7.toInt = (48 : Int) := c_eq c8
      have i9 : (48 : Int) ≤ q7.toInt ∧ q7.toInt ≤ 48 := nr_eql c8 i_q7 (show (48 : Int) ≤ (48 : Int32).toInt ∧ (48 : Int32).toInt ≤ 48 by decide) (by decide) (by decide)
      try unfold fTx_ask_54
      refine tt_if (fun c10 => ?_) (fun c10 => ?_)
      · have wc10 : q7.toInt = (45 : Int) := c_eq c10
        exact (dd_eq c10 i9 (show (45 : Int) ≤ (45 : Int32).toInt ∧ (45 : Int32).toInt ≤ 45 by decide) (by decide)).elim
      · have wc10 : ¬ q7.toInt = (45 : Int) := c_ne c10
        refine tt_kv (P := fun z => ((0 : Int) ≤ z.toInt ∧ z.toInt ≤ 0) ∧ z = (q7 - 48) ∧ z.toInt = q7.toInt - 48) ⟨iv_sub i9 (show (48 : Int) ≤ (48 : Int32).toInt ∧ (48 : Int32).toInt ≤ 48 by decide) (by decide) (by decide) (by decide) (by decide), rfl, iq_sub i9 (show (48 : Int) ≤ (48 : Int32).toInt ∧ (48 : Int32).toInt ≤ 48 by decide) (by decide) (by decide)⟩ (fun x11 qi12 => ?_)
        obtain ⟨i12, ax11, ei12⟩ := qi12
        try unfold fTx_ask_71
        refine tt_kv (P := fun z => ((0 : Int) ≤ z.toInt ∧ z.toInt ≤ 8) ∧ z = (2 * v4) ∧ z.toInt = 2 * v4.toInt) ⟨iv_mul (show (2 : Int) ≤ (2 : Int32).toInt ∧ (2 : Int32).toInt ≤ 2 by decide) i4 (by decide) (by decide) (by decide) (by decide) (by decide), rfl, iq_mul (show (2 : Int) ≤ (2 : Int32).toInt ∧ (2 : Int32).toInt ≤ 2 by decide) i4 (by decide) (by decide) (by decide) (by decide)⟩ (fun x13 qi14 => ?_)
        obtain ⟨i14, ax13, ei14⟩ := qi14
        refine tt_kv (P := fun z => ((0 : Int) ≤ z.toInt ∧ z.toInt ≤ 0) ∧ z = (x11 <<< (x13 &&& 31))) ⟨iv_shl (p := 0) (q := 8) i12 i14 (by decide) (by decide) (by decide) (by decide) (by decide), rfl⟩ (fun x15 qi16 => ?_)
        obtain ⟨i16, ax15⟩ := qi16
        refine tt_kv (P := fun z => ((0 : Int) ≤ z.toInt ∧ z.toInt ≤ 1023) ∧ z = (v3 ||| x15)) ⟨iv_or (w := 10) i_v3 i16 (by decide) (by decide) (by decide) (by decide) (by decide) (by decide) (by decide), rfl⟩ (fun x17 qi18 => ?_)
        obtain ⟨i18, ax17⟩ := qi18
        refine tt_kv (P := fun z => ((1 : Int) ≤ z.toInt ∧ z.toInt ≤ 5) ∧ z = (v4 + 1) ∧ z.toInt = v4.toInt + 1) ⟨iv_add i4 (show (1 : Int) ≤ (1 : Int32).toInt ∧ (1 : Int32).toInt ≤ 1 by decide) (by decide) (by decide) (by decide) (by decide), rfl, iq_add i4 (show (1 : Int) ≤ (1 : Int32).toInt ∧ (1 : Int32).toInt ≤ 1 by decide) (by decide) (by decide)⟩ (fun x19 qi20 => ?_)
        obtain ⟨i20, ax19, ei20⟩ := qi20
        have t21 : (0 : Int) ≤ (o0.2.1 2 v1.toNatClampNeg).toInt ∧ (o0.2.1 2 v1.toNatClampNeg).toInt ≤ 1600 := k_o0.2 2 _
        have t22 : (0 : Int) ≤ (o0.2.1 1 v1.toNatClampNeg).toInt ∧ (o0.2.1 1 v1.toNatClampNeg).toInt ≤ 1599 := k_o0.2 1 _
        have p23 : Rkd x19.toInt x17 := by exact Rkd_s x_1 (show _ = v3 ||| _ by assumption) (show _ = _ <<< _ by assumption) (by assumption) (by omega) (by omega) (by first | omega | decide) (by first | omega | decide) (by omega)
        exact H _ _ _ _ _ k_o0 r_o0 i_v1 i_v2 i18 (iv_w (a := 0) (b := 5) (by decide) (by decide) i20) f_o0_4 f_o0_5 (show (o0.2.1 2 v1.toNatClampNeg).toInt - (o0.2.1 1 v1.toNatClampNeg).toInt = v2.toInt by omega) p23 (show 0 + (5 - x19.toInt) * 2 < (n : Int) by omega)
    · have wc8 : ¬ q7.toInt = (48 : Int) := c_ne c8
      refine tt_if (fun c24 => ?_) (fun c24 => ?_)
      · have wc24 : q7.toInt = (49 : Int) := c_eq c24
        have i25 : (49 : Int) ≤ q7.toInt ∧ q7.toInt ≤ 49 := nr_eql c24 i_q7 (show (49 : Int) ≤ (49 : Int32).toInt ∧ (49 : Int32).toInt ≤ 49 by decide) (by decide) (by decide)
        try unfold fTx_ask_54
        refine tt_if (fun c26 => ?_) (fun c26 => ?_)
        · have wc26 : q7.toInt = (45 : Int) := c_eq c26
          exact (dd_eq c26 i25 (show (45 : Int) ≤ (45 : Int32).toInt ∧ (45 : Int32).toInt ≤ 45 by decide) (by decide)).elim
        · have wc26 : ¬ q7.toInt = (45 : Int) := c_ne c26
          refine tt_kv (P := fun z => ((1 : Int) ≤ z.toInt ∧ z.toInt ≤ 1) ∧ z = (q7 - 48) ∧ z.toInt = q7.toInt - 48) ⟨iv_sub i25 (show (48 : Int) ≤ (48 : Int32).toInt ∧ (48 : Int32).toInt ≤ 48 by decide) (by decide) (by decide) (by decide) (by decide), rfl, iq_sub i25 (show (48 : Int) ≤ (48 : Int32).toInt ∧ (48 : Int32).toInt ≤ 48 by decide) (by decide) (by decide)⟩ (fun x27 qi28 => ?_)
          obtain ⟨i28, ax27, ei28⟩ := qi28
          try unfold fTx_ask_71
          refine tt_kv (P := fun z => ((0 : Int) ≤ z.toInt ∧ z.toInt ≤ 8) ∧ z = (2 * v4) ∧ z.toInt = 2 * v4.toInt) ⟨iv_mul (show (2 : Int) ≤ (2 : Int32).toInt ∧ (2 : Int32).toInt ≤ 2 by decide) i4 (by decide) (by decide) (by decide) (by decide) (by decide), rfl, iq_mul (show (2 : Int) ≤ (2 : Int32).toInt ∧ (2 : Int32).toInt ≤ 2 by decide) i4 (by decide) (by decide) (by decide) (by decide)⟩ (fun x29 qi30 => ?_)
          obtain ⟨i30, ax29, ei30⟩ := qi30
          refine tt_kv (P := fun z => ((1 : Int) ≤ z.toInt ∧ z.toInt ≤ 256) ∧ z = (x27 <<< (x29 &&& 31))) ⟨iv_shl (p := 0) (q := 8) i28 i30 (by decide) (by decide) (by decide) (by decide) (by decide), rfl⟩ (fun x31 qi32 => ?_)
          obtain ⟨i32, ax31⟩ := qi32
          refine tt_kv (P := fun z => ((0 : Int) ≤ z.toInt ∧ z.toInt ≤ 1023) ∧ z = (v3 ||| x31)) ⟨iv_or (w := 10) i_v3 i32 (by decide) (by decide) (by decide) (by decide) (by decide) (by decide) (by decide), rfl⟩ (fun x33 qi34 => ?_)
          obtain ⟨i34, ax33⟩ := qi34
          refine tt_kv (P := fun z => ((1 : Int) ≤ z.toInt ∧ z.toInt ≤ 5) ∧ z = (v4 + 1) ∧ z.toInt = v4.toInt + 1) ⟨iv_add i4 (show (1 : Int) ≤ (1 : Int32).toInt ∧ (1 : Int32).toInt ≤ 1 by decide) (by decide) (by decide) (by decide) (by decide), rfl, iq_add i4 (show (1 : Int) ≤ (1 : Int32).toInt ∧ (1 : Int32).toInt ≤ 1 by decide) (by decide) (by decide)⟩ (fun x35 qi36 => ?_)
          obtain ⟨i36, ax35, ei36⟩ := qi36
          have t37 : (0 : Int) ≤ (o0.2.1 2 v1.toNatClampNeg).toInt ∧ (o0.2.1 2 v1.toNatClampNeg).toInt ≤ 1600 := k_o0.2 2 _
          have t38 : (0 : Int) ≤ (o0.2.1 1 v1.toNatClampNeg).toInt ∧ (o0.2.1 1 v1.toNatClampNeg).toInt ≤ 1599 := k_o0.2 1 _
          have p39 : Rkd x35.toInt x33 := by exact Rkd_s x_1 (show _ = v3 ||| _ by assumption) (show _ = _ <<< _ by assumption) (by assumption) (by omega) (by omega) (by first | omega | decide) (by first | omega | decide) (by omega)
          exact H _ _ _ _ _ k_o0 r_o0 i_v1 i_v2 i34 (iv_w (a := 0) (b := 5) (by decide) (by decide) i36) f_o0_4 f_o0_5 (show (o0.2.1 2 v1.toNatClampNeg).toInt - (o0.2.1 1 v1.toNatClampNeg).toInt = v2.toInt by omega) p39 (show 0 + (5 - x35.toInt) * 2 < (n : Int) by omega)
      · have wc24 : ¬ q7.toInt = (49 : Int) := c_ne c24
        refine tt_if (fun c40 => ?_) (fun c40 => ?_)
        · have wc40 : q7.toInt = (45 : Int) := c_eq c40
          have i41 : (45 : Int) ≤ q7.toInt ∧ q7.toInt ≤ 45 := nr_eql c40 i_q7 (show (45 : Int) ≤ (45 : Int32).toInt ∧ (45 : Int32).toInt ≤ 45 by decide) (by decide) (by decide)
          try unfold fTx_ask_54
          refine tt_if (fun c42 => ?_) (fun c42 => ?_)
          · have wc42 : q7.toInt = (45 : Int) := c_eq c42
            try unfold fTx_ask_71
            refine tt_kv (P := fun z => ((0 : Int) ≤ z.toInt ∧ z.toInt ≤ 8) ∧ z = (2 * v4) ∧ z.toInt = 2 * v4.toInt) ⟨iv_mul (show (2 : Int) ≤ (2 : Int32).toInt ∧ (2 : Int32).toInt ≤ 2 by decide) i4 (by decide) (by decide) (by decide) (by decide) (by decide), rfl, iq_mul (show (2 : Int) ≤ (2 : Int32).toInt ∧ (2 : Int32).toInt ≤ 2 by decide) i4 (by decide) (by decide) (by decide) (by decide)⟩ (fun x43 qi44 => ?_)
            obtain ⟨i44, ax43, ei44⟩ := qi44
            refine tt_kv (P := fun z => ((2 : Int) ≤ z.toInt ∧ z.toInt ≤ 512) ∧ z = ((2 : Int32) <<< (x43 &&& 31))) ⟨iv_shl (p := 0) (q := 8) (show (2 : Int) ≤ (2 : Int32).toInt ∧ (2 : Int32).toInt ≤ 2 by decide) i44 (by decide) (by decide) (by decide) (by decide) (by decide), rfl⟩ (fun x45 qi46 => ?_)
            obtain ⟨i46, ax45⟩ := qi46
            refine tt_kv (P := fun z => ((0 : Int) ≤ z.toInt ∧ z.toInt ≤ 1023) ∧ z = (v3 ||| x45)) ⟨iv_or (w := 10) i_v3 i46 (by decide) (by decide) (by decide) (by decide) (by decide) (by decide) (by decide), rfl⟩ (fun x47 qi48 => ?_)
            obtain ⟨i48, ax47⟩ := qi48
            refine tt_kv (P := fun z => ((1 : Int) ≤ z.toInt ∧ z.toInt ≤ 5) ∧ z = (v4 + 1) ∧ z.toInt = v4.toInt + 1) ⟨iv_add i4 (show (1 : Int) ≤ (1 : Int32).toInt ∧ (1 : Int32).toInt ≤ 1 by decide) (by decide) (by decide) (by decide) (by decide), rfl, iq_add i4 (show (1 : Int) ≤ (1 : Int32).toInt ∧ (1 : Int32).toInt ≤ 1 by decide) (by decide) (by decide)⟩ (fun x49 qi50 => ?_)
            obtain ⟨i50, ax49, ei50⟩ := qi50
            have t51 : (0 : Int) ≤ (o0.2.1 2 v1.toNatClampNeg).toInt ∧ (o0.2.1 2 v1.toNatClampNeg).toInt ≤ 1600 := k_o0.2 2 _
            have t52 : (0 : Int) ≤ (o0.2.1 1 v1.toNatClampNeg).toInt ∧ (o0.2.1 1 v1.toNatClampNeg).toInt ≤ 1599 := k_o0.2 1 _
            have p53 : Rkd x49.toInt x47 := by exact Rkd_s x_1 (show _ = v3 ||| _ by assumption) (show _ = _ <<< _ by assumption) (by assumption) (by omega) (by omega) (by first | omega | decide) (by first | omega | decide) (by omega)
            exact H _ _ _ _ _ k_o0 r_o0 i_v1 i_v2 i48 (iv_w (a := 0) (b := 5) (by decide) (by decide) i50) f_o0_4 f_o0_5 (show (o0.2.1 2 v1.toNatClampNeg).toInt - (o0.2.1 1 v1.toNatClampNeg).toInt = v2.toInt by omega) p53 (show 0 + (5 - x49.toInt) * 2 < (n : Int) by omega)
          · have wc42 : ¬ q7.toInt = (45 : Int) := c_ne c42
            exact (dd_ne c42 i41 (show (45 : Int) ≤ (45 : Int32).toInt ∧ (45 : Int32).toInt ≤ 45 by decide)).elim
        · have wc40 : ¬ q7.toInt = (45 : Int) := c_ne c40
          have p54 : Rks ((-1) : Int32) := by first | exact Or.inl (by decide) | exact Or.inr (Rkd_r x_1)
          exact tt_some ⟨(iv_w (a := (-1)) (b := 1023) (by decide) (by decide) (show ((-1) : Int) ≤ ((-1) : Int32).toInt ∧ ((-1) : Int32).toInt ≤ (-1) by decide)), p54, trivial⟩
set_option maxHeartbeats 4000000 in
set_option maxRecDepth 100000 in
theorem hTx_ask (yv1 : Int32) (yv2 : Int32) (yo0 : cf_O) : ∀ n, HTx_ask yv1 yv2 yo0 n := by
  intro n
  induction n with
  | zero => exact (fun v1 v2 v3 v4 o0 k_o0 r_o0 i_v1 i_v2 i_v3 i_v4 f_o0_4 f_o0_5 x_0 x_1 hm => by exact absurd (show 0 + (5 - v4.toInt) * 2 < (0 : Int) from hm) (by omega))
  | succ n ih => exact (fun v1 v2 v3 v4 o0 k_o0 r_o0 i_v1 i_v2 i_v3 i_v4 f_o0_4 f_o0_5 x_0 x_1 hm => tTx_ask_16 ih v1 v2 v3 v4 o0 k_o0 r_o0 i_v1 i_v2 i_v3 i_v4 f_o0_4 f_o0_5 x_0 x_1 (by omega))
set_option maxHeartbeats 4000000 in
set_option maxRecDepth 100000 in
theorem sTx_ask (v1 : Int32) (v2 : Int32) (o0 : cf_O) (k_o0 : okO I_Tx o0) (i_v1 : (0 : Int) ≤ v1.toInt ∧ v1.toInt ≤ 0) (i_v2 : (1 : Int) ≤ v2.toInt ∧ v2.toInt ≤ 5) (f_o0_4 : (0 : Int) ≤ (o0.1 4).toInt ∧ (o0.1 4).toInt ≤ 1602) (f_o0_5 : (2 : Int) ≤ (o0.1 5).toInt ∧ (o0.1 5).toInt ≤ 2) : tt (fTx_ask v1 v2 o0) (QTx_ask v1 v2 o0) := by
  have H := hTx_ask v1 v2 o0 cfFU
  have hm : (13 : Int) ≤ (cfFU : Nat) := by decide
  have r_o0 : Fr (fr_M [] [] []) o0 o0 := fr_rfl
  unfold fTx_ask fTx_ask_0
  refine tt_b (sTx_length _ _ k_o0 (iv_w (a := 0) (b := 8) (by decide) (by decide) i_v1) f_o0_4) (fun q1 hq1 => ?_)
  obtain ⟨i_q1, zq1_0, -⟩ := hq1
  have zq1_0 : q1.toInt = (o0.2.1 2 v1.toNatClampNeg).toInt - (o0.2.1 1 v1.toNatClampNeg).toInt := zq1_0
  refine tt_if (fun c2 => ?_) (fun c2 => ?_)
  · have wc2 : q1.toInt = v2.toInt := c_eq c2
    have i3 : (1 : Int) ≤ q1.toInt ∧ q1.toInt ≤ 5 := nr_eql c2 i_q1 i_v2 (by decide) (by decide)
    have t4 : (0 : Int) ≤ (o0.2.1 2 v1.toNatClampNeg).toInt ∧ (o0.2.1 2 v1.toNatClampNeg).toInt ≤ 1600 := k_o0.2 2 _
    have t5 : (0 : Int) ≤ (o0.2.1 1 v1.toNatClampNeg).toInt ∧ (o0.2.1 1 v1.toNatClampNeg).toInt ≤ 1599 := k_o0.2 1 _
    have p6 : Rkd 0 (0 : Int32) := by exact Rkd_0
    exact H _ _ _ _ _ k_o0 r_o0 i_v1 i_v2 (iv_w (a := 0) (b := 1023) (by decide) (by decide) (show (0 : Int) ≤ (0 : Int32).toInt ∧ (0 : Int32).toInt ≤ 0 by decide)) (iv_w (a := 0) (b := 5) (by decide) (by decide) (show (0 : Int) ≤ (0 : Int32).toInt ∧ (0 : Int32).toInt ≤ 0 by decide)) f_o0_4 f_o0_5 (show (o0.2.1 2 v1.toNatClampNeg).toInt - (o0.2.1 1 v1.toNatClampNeg).toInt = v2.toInt by omega) p6 (show 0 + (5 - 0) * 2 < ((cfFU : Nat) : Int) by omega)
  · have wc2 : ¬ q1.toInt = v2.toInt := c_ne c2
    have p7 : Rks ((-1) : Int32) := by exact Or.inl (by decide)
    exact tt_some ⟨(iv_w (a := (-1)) (b := 1023) (by decide) (by decide) (show ((-1) : Int) ≤ ((-1) : Int32).toInt ∧ ((-1) : Int32).toInt ≤ (-1) by decide)), p7, trivial⟩
def QNl_scanRow (o0 : cf_O) (o1 : cf_O) (r : (Int32 × cf_O)) : Prop := ((0 : Int) ≤ r.1.toInt ∧ r.1.toInt ≤ 1) ∧ (okO I_Nl r.2) ∧ (Fr (fr_M [] [10, 11, 12] []) o0 r.2) ∧ (Rwo (r.2.2.1 12)) ∧ True
set_option maxHeartbeats 4000000 in
set_option maxRecDepth 100000 in
theorem sNl_scanRow (o0 : cf_O) (o1 : cf_O) (k_o0 : okO I_Nl o0) (k_o1 : okO I_Tx o1) (f_o1_4 : (0 : Int) ≤ (o1.1 4).toInt ∧ (o1.1 4).toInt ≤ 1602) (x_0 : Rwo (o0.2.1 12)) : tt (fNl_scanRow o0 o1) (QNl_scanRow o0 o1) := by
  have r_o0 : Fr (fr_M [] [10, 11, 12] []) o0 o0 := fr_rfl
  have r_o1 : Fr (fr_M [] [] []) o1 o1 := fr_rfl
  unfold fNl_scanRow fNl_scanRow_0
  have g_o0_5 : (0 : Int) ≤ (o0.1 5).toInt ∧ (o0.1 5).toInt ≤ 2147483647 := k_o0.1 5
  have g_o0_6 : (0 : Int) ≤ (o0.1 6).toInt ∧ (o0.1 6).toInt ≤ 30 := k_o0.1 6
  have g_o1_5 : (0 : Int) ≤ (o1.1 5).toInt ∧ (o1.1 5).toInt ≤ 10 := k_o1.1 5
  have g_o1_6 : (0 : Int) ≤ (o1.1 6).toInt ∧ (o1.1 6).toInt ≤ 1601 := k_o1.1 6
  refine tt_kv (P := fun z => (((-1) : Int) ≤ z.toInt ∧ z.toInt ≤ 29) ∧ z.toInt = (o0.1 6).toInt - 1) ⟨iv_sub (k_o0.1 6) (show (1 : Int) ≤ (1 : Int32).toInt ∧ (1 : Int32).toInt ≤ 1 by decide) (by decide) (by decide) (by decide) (by decide), iq_sub (k_o0.1 6) (show (1 : Int) ≤ (1 : Int32).toInt ∧ (1 : Int32).toInt ≤ 1 by decide) (by decide) (by decide)⟩ (fun x1 qi2 => ?_)
  obtain ⟨i2, ei2⟩ := qi2
  refine tt_if (fun c3 => ?_) (fun c3 => ?_)
  · have wc3 : x1.toInt < (0 : Int) := c_lt c3
    have i4 : ((-1) : Int) ≤ x1.toInt ∧ x1.toInt ≤ (-1) := nr_ltl c3 i2 (show (0 : Int) ≤ (0 : Int32).toInt ∧ (0 : Int32).toInt ≤ 0 by decide) (by decide) (by decide)
    have i5 : (0 : Int) ≤ (o0.1 6).toInt ∧ (o0.1 6).toInt ≤ 0 := by omega
    try unfold fNl_scanRow_22
    exact tt_some ⟨(iv_w (a := 0) (b := 1) (by decide) (by decide) (show (1 : Int) ≤ (1 : Int32).toInt ∧ (1 : Int32).toInt ≤ 1 by decide)), k_o0, r_o0, x_0, trivial⟩
  · have wc3 : (0 : Int) ≤ x1.toInt := c_nlt c3
    have i6 : (0 : Int) ≤ x1.toInt ∧ x1.toInt ≤ 29 := nr_nltr c3 (show (0 : Int) ≤ (0 : Int32).toInt ∧ (0 : Int32).toInt ≤ 0 by decide) i2 (by decide) (by decide)
    have i7 : (1 : Int) ≤ (o0.1 6).toInt ∧ (o0.1 6).toInt ≤ 30 := by omega
    refine tt_n (ix_ok i6 (by decide) (by decide)) ?_
    refine tt_kv (P := fun z => ((0 : Int) ≤ z.toInt ∧ z.toInt ≤ 16) ∧ z.toInt = (o0.2.1 10 x1.toNatClampNeg).toInt) ⟨(k_o0.2 10 _), rfl⟩ (fun x8 qi9 => ?_)
    obtain ⟨i9, ei9⟩ := qi9
    refine tt_if (fun c10 => ?_) (fun c10 => ?_)
    · have wc10 : x8.toInt = (16 : Int) := c_eq c10
      have i11 : (16 : Int) ≤ x8.toInt ∧ x8.toInt ≤ 16 := nr_eql c10 i9 (show (16 : Int) ≤ (16 : Int32).toInt ∧ (16 : Int32).toInt ≤ 16 by decide) (by decide) (by decide)
      try unfold fNl_scanRow_22
      exact tt_some ⟨(iv_w (a := 0) (b := 1) (by decide) (by decide) (show (1 : Int) ≤ (1 : Int32).toInt ∧ (1 : Int32).toInt ≤ 1 by decide)), k_o0, r_o0, x_0, trivial⟩
    · have wc10 : ¬ x8.toInt = (16 : Int) := c_ne c10
      have i12 : (0 : Int) ≤ x8.toInt ∧ x8.toInt ≤ 15 := nr_nelb c10 i9 (show (16 : Int) ≤ (16 : Int32).toInt ∧ (16 : Int32).toInt ≤ 16 by decide) (by decide) (by decide)
      refine tt_n (ix_ok i6 (by decide) (by decide)) ?_
      refine tt_kv (P := fun z => ((0 : Int) ≤ z.toInt ∧ z.toInt ≤ 5) ∧ z.toInt = (o0.2.1 8 x1.toNatClampNeg).toInt) ⟨(k_o0.2 8 _), rfl⟩ (fun x13 qi14 => ?_)
      obtain ⟨i14, ei14⟩ := qi14
      refine tt_if (fun c15 => ?_) (fun c15 => ?_)
      · have wc15 : x13.toInt = (0 : Int) := c_eq c15
        have i16 : (0 : Int) ≤ x13.toInt ∧ x13.toInt ≤ 0 := nr_eql c15 i14 (show (0 : Int) ≤ (0 : Int32).toInt ∧ (0 : Int32).toInt ≤ 0 by decide) (by decide) (by decide)
        try unfold fNl_scanRow_44
        refine tt_if (fun c17 => ?_) (fun c17 => ?_)
        · have wc17 : (o1.1 5).toInt = (1 : Int) := c_eq c17
          have i18 : (1 : Int) ≤ (o1.1 5).toInt ∧ (o1.1 5).toInt ≤ 1 := nr_eql c17 (k_o1.1 5) (show (1 : Int) ≤ (1 : Int32).toInt ∧ (1 : Int32).toInt ≤ 1 by decide) (by decide) (by decide)
          refine tt_if (fun c19 => ?_) (fun c19 => ?_)
          · have wc19 : x13.toInt = (0 : Int) := c_eq c19
            try unfold fNl_scanRow_63
            refine tt_kv (P := fun z => ((0 : Int) ≤ z.toInt ∧ z.toInt ≤ 0) ∧ z.toInt = (o1.1 5).toInt - 1) ⟨iv_sub i18 (show (1 : Int) ≤ (1 : Int32).toInt ∧ (1 : Int32).toInt ≤ 1 by decide) (by decide) (by decide) (by decide) (by decide), iq_sub i18 (show (1 : Int) ≤ (1 : Int32).toInt ∧ (1 : Int32).toInt ≤ 1 by decide) (by decide) (by decide)⟩ (fun x20 qi21 => ?_)
            obtain ⟨i21, ei21⟩ := qi21
            refine tt_b (sTx_bits _ _ _ k_o1 (iv_w (a := 0) (b := 4) (by decide) (by decide) i21) (iv_w (a := 1) (b := 8) (by decide) (by decide) (show (1 : Int) ≤ (1 : Int32).toInt ∧ (1 : Int32).toInt ≤ 1 by decide)) f_o1_4 (iv_w (a := 1) (b := 5) (by decide) (by decide) i18)) (fun q22 hq22 => ?_)
            obtain ⟨i_q22, -⟩ := hq22
            refine tt_n (ix_ok i6 (by decide) (by decide)) ?_
            refine tt_kv (P := fun z => ((0 : Int) ≤ z.toInt ∧ z.toInt ≤ 16) ∧ z.toInt = (o0.2.1 10 x1.toNatClampNeg).toInt) ⟨(k_o0.2 10 _), rfl⟩ (fun x23 qi24 => ?_)
            obtain ⟨i24, ei24⟩ := qi24
            refine tt_if (fun c25 => ?_) (fun c25 => ?_)
            · have wc25 : x23.toInt = (0 : Int) := c_eq c25
              have i26 : (0 : Int) ≤ x23.toInt ∧ x23.toInt ≤ 0 := nr_eql c25 i24 (show (0 : Int) ≤ (0 : Int32).toInt ∧ (0 : Int32).toInt ≤ 0 by decide) (by decide) (by decide)
              try unfold fNl_scanRow_92
              refine tt_if (fun c27 => ?_) (fun c27 => ?_)
              · have wc27 : (0 : Int) = ((-1) : Int) := c_eq c27
                exact (dd_eq c27 (show (0 : Int) ≤ (0 : Int32).toInt ∧ (0 : Int32).toInt ≤ 0 by decide) (show ((-1) : Int) ≤ ((-1) : Int32).toInt ∧ ((-1) : Int32).toInt ≤ (-1) by decide) (by decide)).elim
              · have wc27 : ¬ (0 : Int) = ((-1) : Int) := c_ne c27
                refine tt_if (fun c28 => ?_) (fun c28 => ?_)
                · have wc28 : q22.toInt = ((-1) : Int) := c_eq c28
                  have i29 : ((-1) : Int) ≤ q22.toInt ∧ q22.toInt ≤ (-1) := nr_eql c28 i_q22 (show ((-1) : Int) ≤ ((-1) : Int32).toInt ∧ ((-1) : Int32).toInt ≤ (-1) by decide) (by decide) (by decide)
                  try unfold fNl_scanRow_122
                  exact tt_some ⟨(iv_w (a := 0) (b := 1) (by decide) (by decide) (show (1 : Int) ≤ (1 : Int32).toInt ∧ (1 : Int32).toInt ≤ 1 by decide)), k_o0, r_o0, x_0, trivial⟩
                · have wc28 : ¬ q22.toInt = ((-1) : Int) := c_ne c28
                  have i30 : (0 : Int) ≤ q22.toInt ∧ q22.toInt ≤ 255 := nr_nela c28 i_q22 (show ((-1) : Int) ≤ ((-1) : Int32).toInt ∧ ((-1) : Int32).toInt ≤ (-1) by decide) (by decide) (by decide)
                  refine tt_if (fun c31 => ?_) (fun c31 => ?_)
                  · have wc31 : (1 : Int) = (0 : Int) := c_eq c31
                    exact (dd_eq c31 (show (1 : Int) ≤ (1 : Int32).toInt ∧ (1 : Int32).toInt ≤ 1 by decide) (show (0 : Int) ≤ (0 : Int32).toInt ∧ (0 : Int32).toInt ≤ 0 by decide) (by decide)).elim
                  · have wc31 : ¬ (1 : Int) = (0 : Int) := c_ne c31
                    try unfold fNl_scanRow_124
                    refine tt_n (ix_ok i6 (by decide) (by decide)) ?_
                    refine tt_ko ?_
                    have k32 := ok_xp (k := 11) (i := x1.toNatClampNeg) (v := q22) k_o0 (iv_w (a := (-2147483648)) (b := 2147483647) (by decide) (by decide) i30)
                    have r33 := fr_xp (k := 11) (i := x1.toNatClampNeg) (v := q22) r_o0 rfl
                    refine tt_kv (P := fun z => ((0 : Int) ≤ z.toInt ∧ z.toInt ≤ 464) ∧ z.toInt = x1.toInt * 16) ⟨iv_mul i6 (show (16 : Int) ≤ (16 : Int32).toInt ∧ (16 : Int32).toInt ≤ 16 by decide) (by decide) (by decide) (by decide) (by decide) (by decide), iq_mul i6 (show (16 : Int) ≤ (16 : Int32).toInt ∧ (16 : Int32).toInt ≤ 16 by decide) (by decide) (by decide) (by decide) (by decide)⟩ (fun x34 qi35 => ?_)
                    obtain ⟨i35, ei35⟩ := qi35
                    refine tt_n (ix_ok i6 (by decide) (by decide)) ?_
                    refine tt_kv (P := fun z => ((0 : Int) ≤ z.toInt ∧ z.toInt ≤ 16) ∧ z.toInt = (o0.2.1 10 x1.toNatClampNeg).toInt) ⟨(k32.2 10 _), rfl⟩ (fun x36 qi37 => ?_)
                    obtain ⟨i37, ei37⟩ := qi37
                    refine tt_kv (P := fun z => ((0 : Int) ≤ z.toInt ∧ z.toInt ≤ 480) ∧ z.toInt = x34.toInt + x36.toInt) ⟨iv_add i35 i37 (by decide) (by decide) (by decide) (by decide), iq_add i35 i37 (by decide) (by decide)⟩ (fun x38 qi39 => ?_)
                    obtain ⟨i39, ei39⟩ := qi39
                    refine tt_n (ix_rel (by omega) (by omega)) ?_
                    have i40 : (0 : Int) ≤ x38.toInt ∧ x38.toInt ≤ 479 := (by omega)
                    refine tt_ko ?_
                    have k41 := ok_xp (k := 12) (i := x38.toNatClampNeg) (v := 0) k32 (iv_w (a := (-2147483648)) (b := 2147483647) (by decide) (by decide) (show (0 : Int) ≤ (0 : Int32).toInt ∧ (0 : Int32).toInt ≤ 0 by decide))
                    have r42 := fr_xp (k := 12) (i := x38.toNatClampNeg) (v := 0) r33 rfl
                    refine tt_n (ix_ok i6 (by decide) (by decide)) ?_
                    refine tt_kv (P := fun z => ((0 : Int) ≤ z.toInt ∧ z.toInt ≤ 16) ∧ z.toInt = (o0.2.1 10 x1.toNatClampNeg).toInt) ⟨(k41.2 10 _), rfl⟩ (fun x43 qi44 => ?_)
                    obtain ⟨i44, ei44⟩ := qi44
                    refine tt_kv (P := fun z => ((1 : Int) ≤ z.toInt ∧ z.toInt ≤ 17) ∧ z.toInt = x43.toInt + 1) ⟨iv_add i44 (show (1 : Int) ≤ (1 : Int32).toInt ∧ (1 : Int32).toInt ≤ 1 by decide) (by decide) (by decide) (by decide) (by decide), iq_add i44 (show (1 : Int) ≤ (1 : Int32).toInt ∧ (1 : Int32).toInt ≤ 1 by decide) (by decide) (by decide)⟩ (fun x45 qi46 => ?_)
                    obtain ⟨i46, ei46⟩ := qi46
                    refine tt_n (ix_ok i6 (by decide) (by decide)) ?_
                    refine tt_ko ?_
                    have k47 := ok_xp (k := 10) (i := x1.toNatClampNeg) (v := x45) k41 (show (0 : Int) ≤ _ ∧ _ ≤ (16 : Int) by omega)
                    have r48 := fr_xp (k := 10) (i := x1.toNatClampNeg) (v := x45) r42 rfl
                    have p49 : Rwo (upd (o0.2.1 12) (x38.toNatClampNeg) 0) := by first | exact x_0 | exact Rwo_s x_0 ((show Rks _ by assumption).resolve_left (by omega)) | exact Rwo_s x_0 Rok_0
                    exact tt_some ⟨(iv_w (a := 0) (b := 1) (by decide) (by decide) (show (0 : Int) ≤ (0 : Int32).toInt ∧ (0 : Int32).toInt ≤ 0 by decide)), k47, r48, p49, trivial⟩
            · have wc25 : ¬ x23.toInt = (0 : Int) := c_ne c25
              have i50 : (1 : Int) ≤ x23.toInt ∧ x23.toInt ≤ 16 := nr_nela c25 i24 (show (0 : Int) ≤ (0 : Int32).toInt ∧ (0 : Int32).toInt ≤ 0 by decide) (by decide) (by decide)
              try unfold fNl_scanRow_92
              refine tt_if (fun c51 => ?_) (fun c51 => ?_)
              · have wc51 : (0 : Int) = ((-1) : Int) := c_eq c51
                exact (dd_eq c51 (show (0 : Int) ≤ (0 : Int32).toInt ∧ (0 : Int32).toInt ≤ 0 by decide) (show ((-1) : Int) ≤ ((-1) : Int32).toInt ∧ ((-1) : Int32).toInt ≤ (-1) by decide) (by decide)).elim
              · have wc51 : ¬ (0 : Int) = ((-1) : Int) := c_ne c51
                refine tt_if (fun c52 => ?_) (fun c52 => ?_)
                · have wc52 : q22.toInt = ((-1) : Int) := c_eq c52
                  have i53 : ((-1) : Int) ≤ q22.toInt ∧ q22.toInt ≤ (-1) := nr_eql c52 i_q22 (show ((-1) : Int) ≤ ((-1) : Int32).toInt ∧ ((-1) : Int32).toInt ≤ (-1) by decide) (by decide) (by decide)
                  try unfold fNl_scanRow_122
                  exact tt_some ⟨(iv_w (a := 0) (b := 1) (by decide) (by decide) (show (1 : Int) ≤ (1 : Int32).toInt ∧ (1 : Int32).toInt ≤ 1 by decide)), k_o0, r_o0, x_0, trivial⟩
                · have wc52 : ¬ q22.toInt = ((-1) : Int) := c_ne c52
                  have i54 : (0 : Int) ≤ q22.toInt ∧ q22.toInt ≤ 255 := nr_nela c52 i_q22 (show ((-1) : Int) ≤ ((-1) : Int32).toInt ∧ ((-1) : Int32).toInt ≤ (-1) by decide) (by decide) (by decide)
                  refine tt_if (fun c55 => ?_) (fun c55 => ?_)
                  · have wc55 : (0 : Int) = (0 : Int) := c_eq c55
                    refine tt_n (ix_ok i6 (by decide) (by decide)) ?_
                    refine tt_kv (P := fun z => (((-2147483648) : Int) ≤ z.toInt ∧ z.toInt ≤ 2147483647) ∧ z.toInt = (o0.2.1 11 x1.toNatClampNeg).toInt) ⟨(k_o0.2 11 _), rfl⟩ (fun x56 qi57 => ?_)
                    obtain ⟨i57, ei57⟩ := qi57
                    refine tt_if (fun c58 => ?_) (fun c58 => ?_)
                    · have wc58 : q22.toInt = x56.toInt := c_eq c58
                      have i59 : (0 : Int) ≤ x56.toInt ∧ x56.toInt ≤ 255 := nr_eqr c58 i54 i57 (by decide) (by decide)
                      try unfold fNl_scanRow_124
                      refine tt_n (ix_ok i6 (by decide) (by decide)) ?_
                      refine tt_ko ?_
                      have k60 := ok_xp (k := 11) (i := x1.toNatClampNeg) (v := q22) k_o0 (iv_w (a := (-2147483648)) (b := 2147483647) (by decide) (by decide) i54)
                      have r61 := fr_xp (k := 11) (i := x1.toNatClampNeg) (v := q22) r_o0 rfl
                      refine tt_kv (P := fun z => ((0 : Int) ≤ z.toInt ∧ z.toInt ≤ 464) ∧ z.toInt = x1.toInt * 16) ⟨iv_mul i6 (show (16 : Int) ≤ (16 : Int32).toInt ∧ (16 : Int32).toInt ≤ 16 by decide) (by decide) (by decide) (by decide) (by decide) (by decide), iq_mul i6 (show (16 : Int) ≤ (16 : Int32).toInt ∧ (16 : Int32).toInt ≤ 16 by decide) (by decide) (by decide) (by decide) (by decide)⟩ (fun x62 qi63 => ?_)
                      obtain ⟨i63, ei63⟩ := qi63
                      refine tt_n (ix_ok i6 (by decide) (by decide)) ?_
                      refine tt_kv (P := fun z => ((0 : Int) ≤ z.toInt ∧ z.toInt ≤ 16) ∧ z.toInt = (o0.2.1 10 x1.toNatClampNeg).toInt) ⟨(k60.2 10 _), rfl⟩ (fun x64 qi65 => ?_)
                      obtain ⟨i65, ei65⟩ := qi65
                      refine tt_kv (P := fun z => ((0 : Int) ≤ z.toInt ∧ z.toInt ≤ 480) ∧ z.toInt = x62.toInt + x64.toInt) ⟨iv_add i63 i65 (by decide) (by decide) (by decide) (by decide), iq_add i63 i65 (by decide) (by decide)⟩ (fun x66 qi67 => ?_)
                      obtain ⟨i67, ei67⟩ := qi67
                      refine tt_n (ix_rel (by omega) (by omega)) ?_
                      have i68 : (0 : Int) ≤ x66.toInt ∧ x66.toInt ≤ 479 := (by omega)
                      refine tt_ko ?_
                      have k69 := ok_xp (k := 12) (i := x66.toNatClampNeg) (v := 0) k60 (iv_w (a := (-2147483648)) (b := 2147483647) (by decide) (by decide) (show (0 : Int) ≤ (0 : Int32).toInt ∧ (0 : Int32).toInt ≤ 0 by decide))
                      have r70 := fr_xp (k := 12) (i := x66.toNatClampNeg) (v := 0) r61 rfl
                      refine tt_n (ix_ok i6 (by decide) (by decide)) ?_
                      refine tt_kv (P := fun z => ((0 : Int) ≤ z.toInt ∧ z.toInt ≤ 16) ∧ z.toInt = (o0.2.1 10 x1.toNatClampNeg).toInt) ⟨(k69.2 10 _), rfl⟩ (fun x71 qi72 => ?_)
                      obtain ⟨i72, ei72⟩ := qi72
                      refine tt_kv (P := fun z => ((1 : Int) ≤ z.toInt ∧ z.toInt ≤ 17) ∧ z.toInt = x71.toInt + 1) ⟨iv_add i72 (show (1 : Int) ≤ (1 : Int32).toInt ∧ (1 : Int32).toInt ≤ 1 by decide) (by decide) (by decide) (by decide) (by decide), iq_add i72 (show (1 : Int) ≤ (1 : Int32).toInt ∧ (1 : Int32).toInt ≤ 1 by decide) (by decide) (by decide)⟩ (fun x73 qi74 => ?_)
                      obtain ⟨i74, ei74⟩ := qi74
                      refine tt_n (ix_ok i6 (by decide) (by decide)) ?_
                      refine tt_ko ?_
                      have k75 := ok_xp (k := 10) (i := x1.toNatClampNeg) (v := x73) k69 (show (0 : Int) ≤ _ ∧ _ ≤ (16 : Int) by omega)
                      have r76 := fr_xp (k := 10) (i := x1.toNatClampNeg) (v := x73) r70 rfl
                      have p77 : Rwo (upd (o0.2.1 12) (x66.toNatClampNeg) 0) := by first | exact x_0 | exact Rwo_s x_0 ((show Rks _ by assumption).resolve_left (by omega)) | exact Rwo_s x_0 Rok_0
                      exact tt_some ⟨(iv_w (a := 0) (b := 1) (by decide) (by decide) (show (0 : Int) ≤ (0 : Int32).toInt ∧ (0 : Int32).toInt ≤ 0 by decide)), k75, r76, p77, trivial⟩
                    · have wc58 : ¬ q22.toInt = x56.toInt := c_ne c58
                      try unfold fNl_scanRow_122
                      exact tt_some ⟨(iv_w (a := 0) (b := 1) (by decide) (by decide) (show (1 : Int) ≤ (1 : Int32).toInt ∧ (1 : Int32).toInt ≤ 1 by decide)), k_o0, r_o0, x_0, trivial⟩
                  · have wc55 : ¬ (0 : Int) = (0 : Int) := c_ne c55
                    exact (dd_ne c55 (show (0 : Int) ≤ (0 : Int32).toInt ∧ (0 : Int32).toInt ≤ 0 by decide) (show (0 : Int) ≤ (0 : Int32).toInt ∧ (0 : Int32).toInt ≤ 0 by decide)).elim
          · have wc19 : ¬ x13.toInt = (0 : Int) := c_ne c19
            exact (dd_ne c19 i16 (show (0 : Int) ≤ (0 : Int32).toInt ∧ (0 : Int32).toInt ≤ 0 by decide)).elim
        · have wc17 : ¬ (o1.1 5).toInt = (1 : Int) := c_ne c17
          exact tt_some ⟨(iv_w (a := 0) (b := 1) (by decide) (by decide) (show (1 : Int) ≤ (1 : Int32).toInt ∧ (1 : Int32).toInt ≤ 1 by decide)), k_o0, r_o0, x_0, trivial⟩
      · have wc15 : ¬ x13.toInt = (0 : Int) := c_ne c15
        have i78 : (1 : Int) ≤ x13.toInt ∧ x13.toInt ≤ 5 := nr_nela c15 i14 (show (0 : Int) ≤ (0 : Int32).toInt ∧ (0 : Int32).toInt ≤ 0 by decide) (by decide) (by decide)
        try unfold fNl_scanRow_44
        refine tt_if (fun c79 => ?_) (fun c79 => ?_)
        · have wc79 : (o1.1 5).toInt = (2 : Int) := c_eq c79
          have i80 : (2 : Int) ≤ (o1.1 5).toInt ∧ (o1.1 5).toInt ≤ 2 := nr_eql c79 (k_o1.1 5) (show (2 : Int) ≤ (2 : Int32).toInt ∧ (2 : Int32).toInt ≤ 2 by decide) (by decide) (by decide)
          refine tt_if (fun c81 => ?_) (fun c81 => ?_)
          · have wc81 : x13.toInt = (0 : Int) := c_eq c81
            exact (dd_eq c81 i78 (show (0 : Int) ≤ (0 : Int32).toInt ∧ (0 : Int32).toInt ≤ 0 by decide) (by decide)).elim
          · have wc81 : ¬ x13.toInt = (0 : Int) := c_ne c81
            refine tt_b (sTx_ask _ _ _ k_o1 (show (0 : Int) ≤ (0 : Int32).toInt ∧ (0 : Int32).toInt ≤ 0 by decide) i78 f_o1_4 i80) (fun q82 hq82 => ?_)
            obtain ⟨i_q82, zq82_0, -⟩ := hq82
            try unfold fNl_scanRow_63
            refine tt_kv (P := fun z => ((1 : Int) ≤ z.toInt ∧ z.toInt ≤ 1) ∧ z.toInt = (o1.1 5).toInt - 1) ⟨iv_sub i80 (show (1 : Int) ≤ (1 : Int32).toInt ∧ (1 : Int32).toInt ≤ 1 by decide) (by decide) (by decide) (by decide) (by decide), iq_sub i80 (show (1 : Int) ≤ (1 : Int32).toInt ∧ (1 : Int32).toInt ≤ 1 by decide) (by decide) (by decide)⟩ (fun x83 qi84 => ?_)
            obtain ⟨i84, ei84⟩ := qi84
            refine tt_b (sTx_bits _ _ _ k_o1 (iv_w (a := 0) (b := 4) (by decide) (by decide) i84) (iv_w (a := 1) (b := 8) (by decide) (by decide) (show (1 : Int) ≤ (1 : Int32).toInt ∧ (1 : Int32).toInt ≤ 1 by decide)) f_o1_4 (iv_w (a := 1) (b := 5) (by decide) (by decide) i80)) (fun q85 hq85 => ?_)
            obtain ⟨i_q85, -⟩ := hq85
            refine tt_n (ix_ok i6 (by decide) (by decide)) ?_
            refine tt_kv (P := fun z => ((0 : Int) ≤ z.toInt ∧ z.toInt ≤ 16) ∧ z.toInt = (o0.2.1 10 x1.toNatClampNeg).toInt) ⟨(k_o0.2 10 _), rfl⟩ (fun x86 qi87 => ?_)
            obtain ⟨i87, ei87⟩ := qi87
            refine tt_if (fun c88 => ?_) (fun c88 => ?_)
            · have wc88 : x86.toInt = (0 : Int) := c_eq c88
              have i89 : (0 : Int) ≤ x86.toInt ∧ x86.toInt ≤ 0 := nr_eql c88 i87 (show (0 : Int) ≤ (0 : Int32).toInt ∧ (0 : Int32).toInt ≤ 0 by decide) (by decide) (by decide)
              try unfold fNl_scanRow_92
              refine tt_if (fun c90 => ?_) (fun c90 => ?_)
              · have wc90 : q82.toInt = ((-1) : Int) := c_eq c90
                have i91 : ((-1) : Int) ≤ q82.toInt ∧ q82.toInt ≤ (-1) := nr_eql c90 i_q82 (show ((-1) : Int) ≤ ((-1) : Int32).toInt ∧ ((-1) : Int32).toInt ≤ (-1) by decide) (by decide) (by decide)
                try unfold fNl_scanRow_122
                exact tt_some ⟨(iv_w (a := 0) (b := 1) (by decide) (by decide) (show (1 : Int) ≤ (1 : Int32).toInt ∧ (1 : Int32).toInt ≤ 1 by decide)), k_o0, r_o0, x_0, trivial⟩
              · have wc90 : ¬ q82.toInt = ((-1) : Int) := c_ne c90
                have i92 : (0 : Int) ≤ q82.toInt ∧ q82.toInt ≤ 1023 := nr_nela c90 i_q82 (show ((-1) : Int) ≤ ((-1) : Int32).toInt ∧ ((-1) : Int32).toInt ≤ (-1) by decide) (by decide) (by decide)
                refine tt_if (fun c93 => ?_) (fun c93 => ?_)
                · have wc93 : q85.toInt = ((-1) : Int) := c_eq c93
                  have i94 : ((-1) : Int) ≤ q85.toInt ∧ q85.toInt ≤ (-1) := nr_eql c93 i_q85 (show ((-1) : Int) ≤ ((-1) : Int32).toInt ∧ ((-1) : Int32).toInt ≤ (-1) by decide) (by decide) (by decide)
                  try unfold fNl_scanRow_122
                  exact tt_some ⟨(iv_w (a := 0) (b := 1) (by decide) (by decide) (show (1 : Int) ≤ (1 : Int32).toInt ∧ (1 : Int32).toInt ≤ 1 by decide)), k_o0, r_o0, x_0, trivial⟩
                · have wc93 : ¬ q85.toInt = ((-1) : Int) := c_ne c93
                  have i95 : (0 : Int) ≤ q85.toInt ∧ q85.toInt ≤ 255 := nr_nela c93 i_q85 (show ((-1) : Int) ≤ ((-1) : Int32).toInt ∧ ((-1) : Int32).toInt ≤ (-1) by decide) (by decide) (by decide)
                  refine tt_if (fun c96 => ?_) (fun c96 => ?_)
                  · have wc96 : (1 : Int) = (0 : Int) := c_eq c96
                    exact (dd_eq c96 (show (1 : Int) ≤ (1 : Int32).toInt ∧ (1 : Int32).toInt ≤ 1 by decide) (show (0 : Int) ≤ (0 : Int32).toInt ∧ (0 : Int32).toInt ≤ 0 by decide) (by decide)).elim
                  · have wc96 : ¬ (1 : Int) = (0 : Int) := c_ne c96
                    try unfold fNl_scanRow_124
                    refine tt_n (ix_ok i6 (by decide) (by decide)) ?_
                    refine tt_ko ?_
                    have k97 := ok_xp (k := 11) (i := x1.toNatClampNeg) (v := q85) k_o0 (iv_w (a := (-2147483648)) (b := 2147483647) (by decide) (by decide) i95)
                    have r98 := fr_xp (k := 11) (i := x1.toNatClampNeg) (v := q85) r_o0 rfl
                    refine tt_kv (P := fun z => ((0 : Int) ≤ z.toInt ∧ z.toInt ≤ 464) ∧ z.toInt = x1.toInt * 16) ⟨iv_mul i6 (show (16 : Int) ≤ (16 : Int32).toInt ∧ (16 : Int32).toInt ≤ 16 by decide) (by decide) (by decide) (by decide) (by decide) (by decide), iq_mul i6 (show (16 : Int) ≤ (16 : Int32).toInt ∧ (16 : Int32).toInt ≤ 16 by decide) (by decide) (by decide) (by decide) (by decide)⟩ (fun x99 qi100 => ?_)
                    obtain ⟨i100, ei100⟩ := qi100
                    refine tt_n (ix_ok i6 (by decide) (by decide)) ?_
                    refine tt_kv (P := fun z => ((0 : Int) ≤ z.toInt ∧ z.toInt ≤ 16) ∧ z.toInt = (o0.2.1 10 x1.toNatClampNeg).toInt) ⟨(k97.2 10 _), rfl⟩ (fun x101 qi102 => ?_)
                    obtain ⟨i102, ei102⟩ := qi102
                    refine tt_kv (P := fun z => ((0 : Int) ≤ z.toInt ∧ z.toInt ≤ 480) ∧ z.toInt = x99.toInt + x101.toInt) ⟨iv_add i100 i102 (by decide) (by decide) (by decide) (by decide), iq_add i100 i102 (by decide) (by decide)⟩ (fun x103 qi104 => ?_)
                    obtain ⟨i104, ei104⟩ := qi104
                    refine tt_n (ix_rel (by omega) (by omega)) ?_
                    have i105 : (0 : Int) ≤ x103.toInt ∧ x103.toInt ≤ 479 := (by omega)
                    refine tt_ko ?_
                    have k106 := ok_xp (k := 12) (i := x103.toNatClampNeg) (v := q82) k97 (iv_w (a := (-2147483648)) (b := 2147483647) (by decide) (by decide) i92)
                    have r107 := fr_xp (k := 12) (i := x103.toNatClampNeg) (v := q82) r98 rfl
                    refine tt_n (ix_ok i6 (by decide) (by decide)) ?_
                    refine tt_kv (P := fun z => ((0 : Int) ≤ z.toInt ∧ z.toInt ≤ 16) ∧ z.toInt = (o0.2.1 10 x1.toNatClampNeg).toInt) ⟨(k106.2 10 _), rfl⟩ (fun x108 qi109 => ?_)
                    obtain ⟨i109, ei109⟩ := qi109
                    refine tt_kv (P := fun z => ((1 : Int) ≤ z.toInt ∧ z.toInt ≤ 17) ∧ z.toInt = x108.toInt + 1) ⟨iv_add i109 (show (1 : Int) ≤ (1 : Int32).toInt ∧ (1 : Int32).toInt ≤ 1 by decide) (by decide) (by decide) (by decide) (by decide), iq_add i109 (show (1 : Int) ≤ (1 : Int32).toInt ∧ (1 : Int32).toInt ≤ 1 by decide) (by decide) (by decide)⟩ (fun x110 qi111 => ?_)
                    obtain ⟨i111, ei111⟩ := qi111
                    refine tt_n (ix_ok i6 (by decide) (by decide)) ?_
                    refine tt_ko ?_
                    have k112 := ok_xp (k := 10) (i := x1.toNatClampNeg) (v := x110) k106 (show (0 : Int) ≤ _ ∧ _ ≤ (16 : Int) by omega)
                    have r113 := fr_xp (k := 10) (i := x1.toNatClampNeg) (v := x110) r107 rfl
                    have p114 : Rwo (upd (o0.2.1 12) (x103.toNatClampNeg) q82) := by first | exact x_0 | exact Rwo_s x_0 ((show Rks _ by assumption).resolve_left (by omega)) | exact Rwo_s x_0 Rok_0
                    exact tt_some ⟨(iv_w (a := 0) (b := 1) (by decide) (by decide) (show (0 : Int) ≤ (0 : Int32).toInt ∧ (0 : Int32).toInt ≤ 0 by decide)), k112, r113, p114, trivial⟩
            · have wc88 : ¬ x86.toInt = (0 : Int) := c_ne c88
              have i115 : (1 : Int) ≤ x86.toInt ∧ x86.toInt ≤ 16 := nr_nela c88 i87 (show (0 : Int) ≤ (0 : Int32).toInt ∧ (0 : Int32).toInt ≤ 0 by decide) (by decide) (by decide)
              try unfold fNl_scanRow_92
              refine tt_if (fun c116 => ?_) (fun c116 => ?_)
              · have wc116 : q82.toInt = ((-1) : Int) := c_eq c116
                have i117 : ((-1) : Int) ≤ q82.toInt ∧ q82.toInt ≤ (-1) := nr_eql c116 i_q82 (show ((-1) : Int) ≤ ((-1) : Int32).toInt ∧ ((-1) : Int32).toInt ≤ (-1) by decide) (by decide) (by decide)
                try unfold fNl_scanRow_122
                exact tt_some ⟨(iv_w (a := 0) (b := 1) (by decide) (by decide) (show (1 : Int) ≤ (1 : Int32).toInt ∧ (1 : Int32).toInt ≤ 1 by decide)), k_o0, r_o0, x_0, trivial⟩
              · have wc116 : ¬ q82.toInt = ((-1) : Int) := c_ne c116
                have i118 : (0 : Int) ≤ q82.toInt ∧ q82.toInt ≤ 1023 := nr_nela c116 i_q82 (show ((-1) : Int) ≤ ((-1) : Int32).toInt ∧ ((-1) : Int32).toInt ≤ (-1) by decide) (by decide) (by decide)
                refine tt_if (fun c119 => ?_) (fun c119 => ?_)
                · have wc119 : q85.toInt = ((-1) : Int) := c_eq c119
                  have i120 : ((-1) : Int) ≤ q85.toInt ∧ q85.toInt ≤ (-1) := nr_eql c119 i_q85 (show ((-1) : Int) ≤ ((-1) : Int32).toInt ∧ ((-1) : Int32).toInt ≤ (-1) by decide) (by decide) (by decide)
                  try unfold fNl_scanRow_122
                  exact tt_some ⟨(iv_w (a := 0) (b := 1) (by decide) (by decide) (show (1 : Int) ≤ (1 : Int32).toInt ∧ (1 : Int32).toInt ≤ 1 by decide)), k_o0, r_o0, x_0, trivial⟩
                · have wc119 : ¬ q85.toInt = ((-1) : Int) := c_ne c119
                  have i121 : (0 : Int) ≤ q85.toInt ∧ q85.toInt ≤ 255 := nr_nela c119 i_q85 (show ((-1) : Int) ≤ ((-1) : Int32).toInt ∧ ((-1) : Int32).toInt ≤ (-1) by decide) (by decide) (by decide)
                  refine tt_if (fun c122 => ?_) (fun c122 => ?_)
                  · have wc122 : (0 : Int) = (0 : Int) := c_eq c122
                    refine tt_n (ix_ok i6 (by decide) (by decide)) ?_
                    refine tt_kv (P := fun z => (((-2147483648) : Int) ≤ z.toInt ∧ z.toInt ≤ 2147483647) ∧ z.toInt = (o0.2.1 11 x1.toNatClampNeg).toInt) ⟨(k_o0.2 11 _), rfl⟩ (fun x123 qi124 => ?_)
                    obtain ⟨i124, ei124⟩ := qi124
                    refine tt_if (fun c125 => ?_) (fun c125 => ?_)
                    · have wc125 : q85.toInt = x123.toInt := c_eq c125
                      have i126 : (0 : Int) ≤ x123.toInt ∧ x123.toInt ≤ 255 := nr_eqr c125 i121 i124 (by decide) (by decide)
                      try unfold fNl_scanRow_124
                      refine tt_n (ix_ok i6 (by decide) (by decide)) ?_
                      refine tt_ko ?_
                      have k127 := ok_xp (k := 11) (i := x1.toNatClampNeg) (v := q85) k_o0 (iv_w (a := (-2147483648)) (b := 2147483647) (by decide) (by decide) i121)
                      have r128 := fr_xp (k := 11) (i := x1.toNatClampNeg) (v := q85) r_o0 rfl
                      refine tt_kv (P := fun z => ((0 : Int) ≤ z.toInt ∧ z.toInt ≤ 464) ∧ z.toInt = x1.toInt * 16) ⟨iv_mul i6 (show (16 : Int) ≤ (16 : Int32).toInt ∧ (16 : Int32).toInt ≤ 16 by decide) (by decide) (by decide) (by decide) (by decide) (by decide), iq_mul i6 (show (16 : Int) ≤ (16 : Int32).toInt ∧ (16 : Int32).toInt ≤ 16 by decide) (by decide) (by decide) (by decide) (by decide)⟩ (fun x129 qi130 => ?_)
                      obtain ⟨i130, ei130⟩ := qi130
                      refine tt_n (ix_ok i6 (by decide) (by decide)) ?_
                      refine tt_kv (P := fun z => ((0 : Int) ≤ z.toInt ∧ z.toInt ≤ 16) ∧ z.toInt = (o0.2.1 10 x1.toNatClampNeg).toInt) ⟨(k127.2 10 _), rfl⟩ (fun x131 qi132 => ?_)
                      obtain ⟨i132, ei132⟩ := qi132
                      refine tt_kv (P := fun z => ((0 : Int) ≤ z.toInt ∧ z.toInt ≤ 480) ∧ z.toInt = x129.toInt + x131.toInt) ⟨iv_add i130 i132 (by decide) (by decide) (by decide) (by decide), iq_add i130 i132 (by decide) (by decide)⟩ (fun x133 qi134 => ?_)
                      obtain ⟨i134, ei134⟩ := qi134
                      refine tt_n (ix_rel (by omega) (by omega)) ?_
                      have i135 : (0 : Int) ≤ x133.toInt ∧ x133.toInt ≤ 479 := (by omega)
                      refine tt_ko ?_
                      have k136 := ok_xp (k := 12) (i := x133.toNatClampNeg) (v := q82) k127 (iv_w (a := (-2147483648)) (b := 2147483647) (by decide) (by decide) i118)
                      have r137 := fr_xp (k := 12) (i := x133.toNatClampNeg) (v := q82) r128 rfl
                      refine tt_n (ix_ok i6 (by decide) (by decide)) ?_
                      refine tt_kv (P := fun z => ((0 : Int) ≤ z.toInt ∧ z.toInt ≤ 16) ∧ z.toInt = (o0.2.1 10 x1.toNatClampNeg).toInt) ⟨(k136.2 10 _), rfl⟩ (fun x138 qi139 => ?_)
                      obtain ⟨i139, ei139⟩ := qi139
                      refine tt_kv (P := fun z => ((1 : Int) ≤ z.toInt ∧ z.toInt ≤ 17) ∧ z.toInt = x138.toInt + 1) ⟨iv_add i139 (show (1 : Int) ≤ (1 : Int32).toInt ∧ (1 : Int32).toInt ≤ 1 by decide) (by decide) (by decide) (by decide) (by decide), iq_add i139 (show (1 : Int) ≤ (1 : Int32).toInt ∧ (1 : Int32).toInt ≤ 1 by decide) (by decide) (by decide)⟩ (fun x140 qi141 => ?_)
                      obtain ⟨i141, ei141⟩ := qi141
                      refine tt_n (ix_ok i6 (by decide) (by decide)) ?_
                      refine tt_ko ?_
                      have k142 := ok_xp (k := 10) (i := x1.toNatClampNeg) (v := x140) k136 (show (0 : Int) ≤ _ ∧ _ ≤ (16 : Int) by omega)
                      have r143 := fr_xp (k := 10) (i := x1.toNatClampNeg) (v := x140) r137 rfl
                      have p144 : Rwo (upd (o0.2.1 12) (x133.toNatClampNeg) q82) := by first | exact x_0 | exact Rwo_s x_0 ((show Rks _ by assumption).resolve_left (by omega)) | exact Rwo_s x_0 Rok_0
                      exact tt_some ⟨(iv_w (a := 0) (b := 1) (by decide) (by decide) (show (0 : Int) ≤ (0 : Int32).toInt ∧ (0 : Int32).toInt ≤ 0 by decide)), k142, r143, p144, trivial⟩
                    · have wc125 : ¬ q85.toInt = x123.toInt := c_ne c125
                      try unfold fNl_scanRow_122
                      exact tt_some ⟨(iv_w (a := 0) (b := 1) (by decide) (by decide) (show (1 : Int) ≤ (1 : Int32).toInt ∧ (1 : Int32).toInt ≤ 1 by decide)), k_o0, r_o0, x_0, trivial⟩
                  · have wc122 : ¬ (0 : Int) = (0 : Int) := c_ne c122
                    exact (dd_ne c122 (show (0 : Int) ≤ (0 : Int32).toInt ∧ (0 : Int32).toInt ≤ 0 by decide) (show (0 : Int) ≤ (0 : Int32).toInt ∧ (0 : Int32).toInt ≤ 0 by decide)).elim
        · have wc79 : ¬ (o1.1 5).toInt = (2 : Int) := c_ne c79
          exact tt_some ⟨(iv_w (a := 0) (b := 1) (by decide) (by decide) (show (1 : Int) ≤ (1 : Int32).toInt ∧ (1 : Int32).toInt ≤ 1 by decide)), k_o0, r_o0, x_0, trivial⟩
def QNl_scanLine (v2 : Int32) (o0 : cf_O) (o1 : cf_O) (r : (Int32 × cf_O)) : Prop := ((0 : Int) ≤ r.1.toInt ∧ r.1.toInt ≤ 2) ∧ (okO I_Nl r.2) ∧ (Fr (fr_M [0, 1, 5, 6] [8, 9, 10, 11, 12] [3, 4, 7]) o0 r.2) ∧ (Rwo (r.2.2.1 12)) ∧ True
set_option maxHeartbeats 4000000 in
set_option maxRecDepth 100000 in
theorem sNl_scanLine (v2 : Int32) (o0 : cf_O) (o1 : cf_O) (k_o0 : okO I_Nl o0) (k_o1 : okO I_Tx o1) (f_o1_4 : (0 : Int) ≤ (o1.1 4).toInt ∧ (o1.1 4).toInt ≤ 1602) (x_0 : 0 ≤ (o1.1 4).toInt) (x_1 : Rwo (o0.2.1 12)) : tt (fNl_scanLine v2 o0 o1) (QNl_scanLine v2 o0 o1) := by
  have r_o0 : Fr (fr_M [0, 1, 5, 6] [8, 9, 10, 11, 12] [3, 4, 7]) o0 o0 := fr_rfl
  have r_o1 : Fr (fr_M [] [] []) o1 o1 := fr_rfl
  unfold fNl_scanLine fNl_scanLine_0
  have i_v2 := iv_top v2
  have g_o0_4 : (0 : Int) ≤ (o0.1 4).toInt ∧ (o0.1 4).toInt ≤ 0 := k_o0.1 4
  refine tt_if (fun c1 => ?_) (fun c1 => ?_)
  · have wc1 : v2.toInt = (0 : Int) := c_eq c1
    have i2 : (0 : Int) ≤ v2.toInt ∧ v2.toInt ≤ 0 := nr_eql c1 (iv_top v2) (show (0 : Int) ≤ (0 : Int32).toInt ∧ (0 : Int32).toInt ≤ 0 by decide) (by decide) (by decide)
    refine tt_b (sNl_scanInputs _ _ k_o0 k_o1 f_o1_4) (fun q3 hq3 => ?_)
    obtain ⟨i_q3, k_q3_2, n_q3_2, -⟩ := hq3
    have r_q3_2 := fr_tr r_o0 n_q3_2 rfl rfl rfl
    have e_q3_2_4 : (q3.2.1 4).toInt = (o0.1 4).toInt := congrArg Int32.toInt (n_q3_2.1 4 rfl)
    have g_q3_2_4 : (0 : Int) ≤ (q3.2.1 4).toInt ∧ (q3.2.1 4).toInt ≤ 0 := k_q3_2.1 4
    have u4 : Rwo (q3.2.2.1 12) := by rw [n_q3_2.2.1 12 rfl]; exact x_1
    exact tt_some ⟨i_q3, k_q3_2, r_q3_2, u4, trivial⟩
  · have wc1 : ¬ v2.toInt = (0 : Int) := c_ne c1
    refine tt_if (fun c5 => ?_) (fun c5 => ?_)
    · have wc5 : v2.toInt = (1 : Int) := c_eq c5
      have i6 : (1 : Int) ≤ v2.toInt ∧ v2.toInt ≤ 1 := nr_eql c5 (iv_top v2) (show (1 : Int) ≤ (1 : Int32).toInt ∧ (1 : Int32).toInt ≤ 1 by decide) (by decide) (by decide)
      refine tt_b (sNl_scanOutputs _ _ k_o0 k_o1 f_o1_4 (show 0 ≤ (o1.1 4).toInt by omega)) (fun q7 hq7 => ?_)
      obtain ⟨i_q7, k_q7_2, n_q7_2, -⟩ := hq7
      have r_q7_2 := fr_tr r_o0 n_q7_2 rfl rfl rfl
      have e_q7_2_4 : (q7.2.1 4).toInt = (o0.1 4).toInt := congrArg Int32.toInt (n_q7_2.1 4 rfl)
      have g_q7_2_4 : (0 : Int) ≤ (q7.2.1 4).toInt ∧ (q7.2.1 4).toInt ≤ 0 := k_q7_2.1 4
      have u8 : Rwo (q7.2.2.1 12) := by rw [n_q7_2.2.1 12 rfl]; exact x_1
      exact tt_some ⟨i_q7, k_q7_2, r_q7_2, u8, trivial⟩
    · have wc5 : ¬ v2.toInt = (1 : Int) := c_ne c5
      refine tt_if (fun c9 => ?_) (fun c9 => ?_)
      · have wc9 : v2.toInt = (2 : Int) := c_eq c9
        have i10 : (2 : Int) ≤ v2.toInt ∧ v2.toInt ≤ 2 := nr_eql c9 (iv_top v2) (show (2 : Int) ≤ (2 : Int32).toInt ∧ (2 : Int32).toInt ≤ 2 by decide) (by decide) (by decide)
        refine tt_b (sTx_isWord_S4 _ _ k_o1 (show (0 : Int) ≤ (0 : Int32).toInt ∧ (0 : Int32).toInt ≤ 0 by decide) f_o1_4) (fun q11 hq11 => ?_)
        obtain ⟨i_q11, -⟩ := hq11
        refine tt_if (fun c12 => ?_) (fun c12 => ?_)
        · have wc12 : q11.toInt = (0 : Int) := c_eq c12
          have i13 : (0 : Int) ≤ q11.toInt ∧ q11.toInt ≤ 0 := nr_eql c12 i_q11 (show (0 : Int) ≤ (0 : Int32).toInt ∧ (0 : Int32).toInt ≤ 0 by decide) (by decide) (by decide)
          refine tt_b (sTx_isWord_S5 _ _ k_o1 (show (0 : Int) ≤ (0 : Int32).toInt ∧ (0 : Int32).toInt ≤ 0 by decide) f_o1_4) (fun q14 hq14 => ?_)
          obtain ⟨i_q14, -⟩ := hq14
          refine tt_if (fun c15 => ?_) (fun c15 => ?_)
          · have wc15 : q14.toInt = (0 : Int) := c_eq c15
            have i16 : (0 : Int) ≤ q14.toInt ∧ q14.toInt ≤ 0 := nr_eql c15 i_q14 (show (0 : Int) ≤ (0 : Int32).toInt ∧ (0 : Int32).toInt ≤ 0 by decide) (by decide) (by decide)
            refine tt_b (sNl_scanRow _ _ k_o0 k_o1 f_o1_4 x_1) (fun q17 hq17 => ?_)
            obtain ⟨i_q17, k_q17_2, n_q17_2, zq17_0, -⟩ := hq17
            have r_q17_2 := fr_tr r_o0 n_q17_2 rfl rfl rfl
            have e_q17_2_4 : (q17.2.1 4).toInt = (o0.1 4).toInt := congrArg Int32.toInt (n_q17_2.1 4 rfl)
            have g_q17_2_4 : (0 : Int) ≤ (q17.2.1 4).toInt ∧ (q17.2.1 4).toInt ≤ 0 := k_q17_2.1 4
            try unfold fNl_scanLine_89
            exact tt_some ⟨(iv_w (a := 0) (b := 2) (by decide) (by decide) i_q17), k_q17_2, r_q17_2, zq17_0, trivial⟩
          · have wc15 : ¬ q14.toInt = (0 : Int) := c_ne c15
            have i18 : (1 : Int) ≤ q14.toInt ∧ q14.toInt ≤ 1 := nr_nela c15 i_q14 (show (0 : Int) ≤ (0 : Int32).toInt ∧ (0 : Int32).toInt ≤ 0 by decide) (by decide) (by decide)
            refine tt_b (sNl_scanTable _ _ k_o0 k_o1 f_o1_4 (show 0 ≤ (o1.1 4).toInt by omega)) (fun q19 hq19 => ?_)
            obtain ⟨i_q19, k_q19_2, n_q19_2, -⟩ := hq19
            have r_q19_2 := fr_tr r_o0 n_q19_2 rfl rfl rfl
            have e_q19_2_4 : (q19.2.1 4).toInt = (o0.1 4).toInt := congrArg Int32.toInt (n_q19_2.1 4 rfl)
            have g_q19_2_4 : (0 : Int) ≤ (q19.2.1 4).toInt ∧ (q19.2.1 4).toInt ≤ 0 := k_q19_2.1 4
            have u20 : Rwo (q19.2.2.1 12) := by rw [n_q19_2.2.1 12 rfl]; exact x_1
            try unfold fNl_scanLine_89
            exact tt_some ⟨i_q19, k_q19_2, r_q19_2, u20, trivial⟩
        · have wc12 : ¬ q11.toInt = (0 : Int) := c_ne c12
          have i21 : (1 : Int) ≤ q11.toInt ∧ q11.toInt ≤ 1 := nr_nela c12 i_q11 (show (0 : Int) ≤ (0 : Int32).toInt ∧ (0 : Int32).toInt ≤ 0 by decide) (by decide) (by decide)
          refine tt_if (fun c22 => ?_) (fun c22 => ?_)
          · have wc22 : (o1.1 5).toInt = (1 : Int) := c_eq c22
            have i23 : (1 : Int) ≤ (o1.1 5).toInt ∧ (o1.1 5).toInt ≤ 1 := nr_eql c22 (k_o1.1 5) (show (1 : Int) ≤ (1 : Int32).toInt ∧ (1 : Int32).toInt ≤ 1 by decide) (by decide) (by decide)
            try unfold fNl_scanLine_89
            exact tt_some ⟨(iv_w (a := 0) (b := 2) (by decide) (by decide) (show (0 : Int) ≤ (0 : Int32).toInt ∧ (0 : Int32).toInt ≤ 0 by decide)), k_o0, r_o0, x_1, trivial⟩
          · have wc22 : ¬ (o1.1 5).toInt = (1 : Int) := c_ne c22
            try unfold fNl_scanLine_89
            exact tt_some ⟨(iv_w (a := 0) (b := 2) (by decide) (by decide) (show (1 : Int) ≤ (1 : Int32).toInt ∧ (1 : Int32).toInt ≤ 1 by decide)), k_o0, r_o0, x_1, trivial⟩
      · have wc9 : ¬ v2.toInt = (2 : Int) := c_ne c9
        exact tt_some ⟨(iv_w (a := 0) (b := 2) (by decide) (by decide) (show (1 : Int) ≤ (1 : Int32).toInt ∧ (1 : Int32).toInt ≤ 1 by decide)), k_o0, r_o0, x_1, trivial⟩
def QNl_scanLines (o0 : cf_O) (o1 : cf_O) (r : (Int32 × cf_O × cf_O)) : Prop := ((0 : Int) ≤ r.1.toInt ∧ r.1.toInt ≤ 2) ∧ (okO I_Nl r.2.1) ∧ (Fr (fr_M [0, 1, 5, 6] [8, 9, 10, 11, 12] [3, 4, 7]) o0 r.2.1) ∧ (okO I_Tx r.2.2) ∧ (Fr (fr_M [4, 5, 6] [1, 2] []) o1 r.2.2) ∧ (Rwo (r.2.1.2.1 12)) ∧ True
def HNl_scanLines (yo0 : cf_O) (yo1 : cf_O) (n : Nat) : Prop := (∀ (v2 : Int32) (v3 : Int32) (o0 : cf_O) (o1 : cf_O), (okO I_Nl o0) → (Fr (fr_M [0, 1, 5, 6] [8, 9, 10, 11, 12] [3, 4, 7]) yo0 o0) → (okO I_Tx o1) → (Fr (fr_M [4, 5, 6] [1, 2] []) yo1 o1) → ((0 : Int) ≤ v3.toInt ∧ v3.toInt ≤ 1601) → ((o1.1 4).toInt + 1 ≤ (o1.1 6).toInt) → (-1 ≤ (o1.1 4).toInt) → (Rwo (o0.2.1 12)) → 0 + (1601 - v3.toInt) * 2 < (n : Int) → tt (gNl_scanLines n 0 v2 v3 o0 o1) (QNl_scanLines yo0 yo1))
set_option maxHeartbeats 4000000 in
set_option maxRecDepth 100000 in
theorem tNl_scanLines_23 {yo0 : cf_O} {yo1 : cf_O} {n : Nat} (H : HNl_scanLines yo0 yo1 n) (v2 : Int32) (v3 : Int32) (o0 : cf_O) (o1 : cf_O) (k_o0 : okO I_Nl o0) (r_o0 : Fr (fr_M [0, 1, 5, 6] [8, 9, 10, 11, 12] [3, 4, 7]) yo0 o0) (k_o1 : okO I_Tx o1) (r_o1 : Fr (fr_M [4, 5, 6] [1, 2] []) yo1 o1) (i_v3 : (0 : Int) ≤ v3.toInt ∧ v3.toInt ≤ 1601) (x_0 : (o1.1 4).toInt + 1 ≤ (o1.1 6).toInt) (x_1 : -1 ≤ (o1.1 4).toInt) (x_2 : Rwo (o0.2.1 12)) (hm : 0 + (1601 - v3.toInt) * 2 ≤ (n : Int)) : tt (fNl_scanLines_23 (gNl_scanLines n) v2 v3 o0 o1) (QNl_scanLines yo0 yo1) := by
  unfold fNl_scanLines_23
  have i_v2 := iv_top v2
  have g_o0_4 : (0 : Int) ≤ (o0.1 4).toInt ∧ (o0.1 4).toInt ≤ 0 := k_o0.1 4
  have ey_o0_4 : (o0.1 4).toInt = (yo0.1 4).toInt := congrArg Int32.toInt (r_o0.1 4 rfl)
  have g_o0_6 : (0 : Int) ≤ (o0.1 6).toInt ∧ (o0.1 6).toInt ≤ 30 := k_o0.1 6
  have g_o1_4 : ((-1) : Int) ≤ (o1.1 4).toInt ∧ (o1.1 4).toInt ≤ 1602 := k_o1.1 4
  have g_o1_6 : (0 : Int) ≤ (o1.1 6).toInt ∧ (o1.1 6).toInt ≤ 1601 := k_o1.1 6
  refine tt_if (fun c1 => ?_) (fun c1 => ?_)
  · have wc1 : (1600 : Int) < v3.toInt := c_lt c1
    have i2 : (1601 : Int) ≤ v3.toInt ∧ v3.toInt ≤ 1601 := nr_ltr c1 (show (1600 : Int) ≤ (1600 : Int32).toInt ∧ (1600 : Int32).toInt ≤ 1600 by decide) i_v3 (by decide) (by decide)
    try unfold fNl_scanLines_77
    refine tt_if (fun c3 => ?_) (fun c3 => ?_)
    · have wc3 : v2.toInt = (3 : Int) := c_eq c3
      have i4 : (3 : Int) ≤ v2.toInt ∧ v2.toInt ≤ 3 := nr_eql c3 (iv_top v2) (show (3 : Int) ≤ (3 : Int32).toInt ∧ (3 : Int32).toInt ≤ 3 by decide) (by decide) (by decide)
      try unfold fNl_scanLines_87
      exact tt_some ⟨(iv_w (a := 0) (b := 2) (by decide) (by decide) (show (0 : Int) ≤ (0 : Int32).toInt ∧ (0 : Int32).toInt ≤ 0 by decide)), k_o0, r_o0, k_o1, r_o1, x_2, trivial⟩
    · have wc3 : ¬ v2.toInt = (3 : Int) := c_ne c3
      try unfold fNl_scanLines_87
      exact tt_some ⟨(iv_w (a := 0) (b := 2) (by decide) (by decide) (show (1 : Int) ≤ (1 : Int32).toInt ∧ (1 : Int32).toInt ≤ 1 by decide)), k_o0, r_o0, k_o1, r_o1, x_2, trivial⟩
  · have wc1 : v3.toInt ≤ (1600 : Int) := c_nlt c1
    have i5 : (0 : Int) ≤ v3.toInt ∧ v3.toInt ≤ 1600 := nr_nltl c1 i_v3 (show (1600 : Int) ≤ (1600 : Int32).toInt ∧ (1600 : Int32).toInt ≤ 1600 by decide) (by decide) (by decide)
    refine tt_b (sTx_toNextLine _ k_o1 (show (o1.1 4).toInt + 1 ≤ (o1.1 6).toInt by omega) (show -1 ≤ (o1.1 4).toInt by omega)) (fun q6 hq6 => ?_)
    obtain ⟨i_q6, k_q6_2, n_q6_2, f_q6_2_4, zq6_0, -⟩ := hq6
    have r_q6_2 := fr_tr r_o1 n_q6_2 rfl rfl rfl
    have g_q6_2_6 : (0 : Int) ≤ (q6.2.1 6).toInt ∧ (q6.2.1 6).toInt ≤ 1601 := k_q6_2.1 6
    have zq6_0 : q6.1.toInt = 0 ∨ ((q6.2.1 4).toInt + 1 ≤ (q6.2.1 6).toInt ∧ 0 ≤ (q6.2.1 4).toInt) := zq6_0
    refine tt_if (fun c7 => ?_) (fun c7 => ?_)
    · have wc7 : q6.1.toInt = (0 : Int) := c_eq c7
      have i8 : (0 : Int) ≤ q6.1.toInt ∧ q6.1.toInt ≤ 0 := nr_eql c7 i_q6 (show (0 : Int) ≤ (0 : Int32).toInt ∧ (0 : Int32).toInt ≤ 0 by decide) (by decide) (by decide)
      try unfold fNl_scanLines_77
      refine tt_if (fun c9 => ?_) (fun c9 => ?_)
      · have wc9 : v2.toInt = (3 : Int) := c_eq c9
        have i10 : (3 : Int) ≤ v2.toInt ∧ v2.toInt ≤ 3 := nr_eql c9 (iv_top v2) (show (3 : Int) ≤ (3 : Int32).toInt ∧ (3 : Int32).toInt ≤ 3 by decide) (by decide) (by decide)
        try unfold fNl_scanLines_87
        exact tt_some ⟨(iv_w (a := 0) (b := 2) (by decide) (by decide) (show (0 : Int) ≤ (0 : Int32).toInt ∧ (0 : Int32).toInt ≤ 0 by decide)), k_o0, r_o0, k_q6_2, r_q6_2, x_2, trivial⟩
      · have wc9 : ¬ v2.toInt = (3 : Int) := c_ne c9
        try unfold fNl_scanLines_87
        exact tt_some ⟨(iv_w (a := 0) (b := 2) (by decide) (by decide) (show (1 : Int) ≤ (1 : Int32).toInt ∧ (1 : Int32).toInt ≤ 1 by decide)), k_o0, r_o0, k_q6_2, r_q6_2, x_2, trivial⟩
    · have wc7 : ¬ q6.1.toInt = (0 : Int) := c_ne c7
      have i11 : (1 : Int) ≤ q6.1.toInt ∧ q6.1.toInt ≤ 1 := nr_nela c7 i_q6 (show (0 : Int) ≤ (0 : Int32).toInt ∧ (0 : Int32).toInt ≤ 0 by decide) (by decide) (by decide)
      refine tt_b (sNl_scanLine _ _ _ k_o0 k_q6_2 f_q6_2_4 (show 0 ≤ (q6.2.1 4).toInt by omega) x_2) (fun q12 hq12 => ?_)
      obtain ⟨i_q12, k_q12_2, n_q12_2, zq12_0, -⟩ := hq12
      have r_q12_2 := fr_tr r_o0 n_q12_2 rfl rfl rfl
      have e_q12_2_4 : (q12.2.1 4).toInt = (o0.1 4).toInt := congrArg Int32.toInt (n_q12_2.1 4 rfl)
      have g_q12_2_4 : (0 : Int) ≤ (q12.2.1 4).toInt ∧ (q12.2.1 4).toInt ≤ 0 := k_q12_2.1 4
      have g_q12_2_6 : (0 : Int) ≤ (q12.2.1 6).toInt ∧ (q12.2.1 6).toInt ≤ 30 := k_q12_2.1 6
      refine tt_if (fun c13 => ?_) (fun c13 => ?_)
      · have wc13 : q12.1.toInt = (0 : Int) := c_eq c13
        have i14 : (0 : Int) ≤ q12.1.toInt ∧ q12.1.toInt ≤ 0 := nr_eql c13 i_q12 (show (0 : Int) ≤ (0 : Int32).toInt ∧ (0 : Int32).toInt ≤ 0 by decide) (by decide) (by decide)
        refine tt_if (fun c15 => ?_) (fun c15 => ?_)
        · have wc15 : v2.toInt = (2 : Int) := c_eq c15
          have i16 : (2 : Int) ≤ v2.toInt ∧ v2.toInt ≤ 2 := nr_eql c15 (iv_top v2) (show (2 : Int) ≤ (2 : Int32).toInt ∧ (2 : Int32).toInt ≤ 2 by decide) (by decide) (by decide)
          refine tt_b (sTx_isWord_S4 _ _ k_q6_2 (show (0 : Int) ≤ (0 : Int32).toInt ∧ (0 : Int32).toInt ≤ 0 by decide) f_q6_2_4) (fun q17 hq17 => ?_)
          obtain ⟨i_q17, -⟩ := hq17
          refine tt_if (fun c18 => ?_) (fun c18 => ?_)
          · have wc18 : q17.toInt = (0 : Int) := c_eq c18
            have i19 : (0 : Int) ≤ q17.toInt ∧ q17.toInt ≤ 0 := nr_eql c18 i_q17 (show (0 : Int) ≤ (0 : Int32).toInt ∧ (0 : Int32).toInt ≤ 0 by decide) (by decide) (by decide)
            try unfold fNl_scanLines_71
            refine tt_kv (P := fun z => ((1 : Int) ≤ z.toInt ∧ z.toInt ≤ 1601) ∧ z.toInt = v3.toInt + 1) ⟨iv_add i5 (show (1 : Int) ≤ (1 : Int32).toInt ∧ (1 : Int32).toInt ≤ 1 by decide) (by decide) (by decide) (by decide) (by decide), iq_add i5 (show (1 : Int) ≤ (1 : Int32).toInt ∧ (1 : Int32).toInt ≤ 1 by decide) (by decide) (by decide)⟩ (fun x20 qi21 => ?_)
            obtain ⟨i21, ei21⟩ := qi21
            exact H _ _ _ _ k_q12_2 r_q12_2 k_q6_2 r_q6_2 (iv_w (a := 0) (b := 1601) (by decide) (by decide) i21) (show (q6.2.1 4).toInt + 1 ≤ (q6.2.1 6).toInt by omega) (show -1 ≤ (q6.2.1 4).toInt by omega) zq12_0 (show 0 + (1601 - x20.toInt) * 2 < (n : Int) by omega)
          · have wc18 : ¬ q17.toInt = (0 : Int) := c_ne c18
            have i22 : (1 : Int) ≤ q17.toInt ∧ q17.toInt ≤ 1 := nr_nela c18 i_q17 (show (0 : Int) ≤ (0 : Int32).toInt ∧ (0 : Int32).toInt ≤ 0 by decide) (by decide) (by decide)
            try unfold fNl_scanLines_68
            refine tt_kv (P := fun z => ((3 : Int) ≤ z.toInt ∧ z.toInt ≤ 3) ∧ z.toInt = v2.toInt + 1) ⟨iv_add i16 (show (1 : Int) ≤ (1 : Int32).toInt ∧ (1 : Int32).toInt ≤ 1 by decide) (by decide) (by decide) (by decide) (by decide), iq_add i16 (show (1 : Int) ≤ (1 : Int32).toInt ∧ (1 : Int32).toInt ≤ 1 by decide) (by decide) (by decide)⟩ (fun x23 qi24 => ?_)
            obtain ⟨i24, ei24⟩ := qi24
            try unfold fNl_scanLines_71
            refine tt_kv (P := fun z => ((1 : Int) ≤ z.toInt ∧ z.toInt ≤ 1601) ∧ z.toInt = v3.toInt + 1) ⟨iv_add i5 (show (1 : Int) ≤ (1 : Int32).toInt ∧ (1 : Int32).toInt ≤ 1 by decide) (by decide) (by decide) (by decide) (by decide), iq_add i5 (show (1 : Int) ≤ (1 : Int32).toInt ∧ (1 : Int32).toInt ≤ 1 by decide) (by decide) (by decide)⟩ (fun x25 qi26 => ?_)
            obtain ⟨i26, ei26⟩ := qi26
            exact H _ _ _ _ k_q12_2 r_q12_2 k_q6_2 r_q6_2 (iv_w (a := 0) (b := 1601) (by decide) (by decide) i26) (show (q6.2.1 4).toInt + 1 ≤ (q6.2.1 6).toInt by omega) (show -1 ≤ (q6.2.1 4).toInt by omega) zq12_0 (show 0 + (1601 - x25.toInt) * 2 < (n : Int) by omega)
        · have wc15 : ¬ v2.toInt = (2 : Int) := c_ne c15
          try unfold fNl_scanLines_68
          refine tt_kv (P := fun z => ((-2147483648) : Int) ≤ z.toInt ∧ z.toInt ≤ 2147483647) (iv_top _) (fun x27 i28 => ?_)
          try unfold fNl_scanLines_71
          refine tt_kv (P := fun z => ((1 : Int) ≤ z.toInt ∧ z.toInt ≤ 1601) ∧ z.toInt = v3.toInt + 1) ⟨iv_add i5 (show (1 : Int) ≤ (1 : Int32).toInt ∧ (1 : Int32).toInt ≤ 1 by decide) (by decide) (by decide) (by decide) (by decide), iq_add i5 (show (1 : Int) ≤ (1 : Int32).toInt ∧ (1 : Int32).toInt ≤ 1 by decide) (by decide) (by decide)⟩ (fun x29 qi30 => ?_)
          obtain ⟨i30, ei30⟩ := qi30
          exact H _ _ _ _ k_q12_2 r_q12_2 k_q6_2 r_q6_2 (iv_w (a := 0) (b := 1601) (by decide) (by decide) i30) (show (q6.2.1 4).toInt + 1 ≤ (q6.2.1 6).toInt by omega) (show -1 ≤ (q6.2.1 4).toInt by omega) zq12_0 (show 0 + (1601 - x29.toInt) * 2 < (n : Int) by omega)
      · have wc13 : ¬ q12.1.toInt = (0 : Int) := c_ne c13
        have i31 : (1 : Int) ≤ q12.1.toInt ∧ q12.1.toInt ≤ 2 := nr_nela c13 i_q12 (show (0 : Int) ≤ (0 : Int32).toInt ∧ (0 : Int32).toInt ≤ 0 by decide) (by decide) (by decide)
        exact tt_some ⟨(iv_w (a := 0) (b := 2) (by decide) (by decide) i31), k_q12_2, r_q12_2, k_q6_2, r_q6_2, zq12_0, trivial⟩
set_option maxHeartbeats 4000000 in
set_option maxRecDepth 100000 in
theorem hNl_scanLines (yo0 : cf_O) (yo1 : cf_O) : ∀ n, HNl_scanLines yo0 yo1 n := by
  intro n
  induction n with
  | zero => exact (fun v2 v3 o0 o1 k_o0 r_o0 k_o1 r_o1 i_v3 x_0 x_1 x_2 hm => by exact absurd (show 0 + (1601 - v3.toInt) * 2 < (0 : Int) from hm) (by omega))
  | succ n ih => exact (fun v2 v3 o0 o1 k_o0 r_o0 k_o1 r_o1 i_v3 x_0 x_1 x_2 hm => tNl_scanLines_23 ih v2 v3 o0 o1 k_o0 r_o0 k_o1 r_o1 i_v3 x_0 x_1 x_2 (by omega))
set_option maxHeartbeats 4000000 in
set_option maxRecDepth 100000 in
theorem sNl_scanLines (o0 : cf_O) (o1 : cf_O) (k_o0 : okO I_Nl o0) (k_o1 : okO I_Tx o1) (x_0 : Rwo (o0.2.1 12)) : tt (fNl_scanLines o0 o1) (QNl_scanLines o0 o1) := by
  have H := hNl_scanLines o0 o1 cfFU
  have hm : (3205 : Int) ≤ (cfFU : Nat) := by decide
  have r_o0 : Fr (fr_M [0, 1, 5, 6] [8, 9, 10, 11, 12] [3, 4, 7]) o0 o0 := fr_rfl
  have r_o1 : Fr (fr_M [4, 5, 6] [1, 2] []) o1 o1 := fr_rfl
  unfold fNl_scanLines fNl_scanLines_0
  have g_o0_4 : (0 : Int) ≤ (o0.1 4).toInt ∧ (o0.1 4).toInt ≤ 0 := k_o0.1 4
  have g_o0_6 : (0 : Int) ≤ (o0.1 6).toInt ∧ (o0.1 6).toInt ≤ 30 := k_o0.1 6
  have g_o1_4 : ((-1) : Int) ≤ (o1.1 4).toInt ∧ (o1.1 4).toInt ≤ 1602 := k_o1.1 4
  have g_o1_6 : (0 : Int) ≤ (o1.1 6).toInt ∧ (o1.1 6).toInt ≤ 1601 := k_o1.1 6
  refine tt_ko ?_
  have k1 := ok_fp (k := 0) (v := 0) k_o0 (iv_w (a := 0) (b := 8) (by decide) (by decide) (show (0 : Int) ≤ (0 : Int32).toInt ∧ (0 : Int32).toInt ≤ 0 by decide))
  have r2 := fr_fp (k := 0) (v := 0) r_o0 rfl
  refine tt_ko ?_
  have k3 := ok_fp (k := 1) (v := 0) k1 (iv_w (a := 0) (b := 6) (by decide) (by decide) (show (0 : Int) ≤ (0 : Int32).toInt ∧ (0 : Int32).toInt ≤ 0 by decide))
  have r4 := fr_fp (k := 1) (v := 0) r2 rfl
  refine tt_ko ?_
  have k5 := ok_fp (k := 6) (v := 0) k3 (iv_w (a := 0) (b := 30) (by decide) (by decide) (show (0 : Int) ≤ (0 : Int32).toInt ∧ (0 : Int32).toInt ≤ 0 by decide))
  have r6 := fr_fp (k := 6) (v := 0) r4 rfl
  refine tt_b (sTx_rewind _ k_o1) (fun q7 hq7 => ?_)
  obtain ⟨k_q7, n_q7, f_q7_4, f_q7_6, -⟩ := hq7
  have r_q7 := fr_tr r_o1 n_q7 rfl rfl rfl
  exact H _ _ _ _ k5 r6 k_q7 r_q7 (iv_w (a := 0) (b := 1601) (by decide) (by decide) (show (0 : Int) ≤ (0 : Int32).toInt ∧ (0 : Int32).toInt ≤ 0 by decide)) (show (q7.1 4).toInt + 1 ≤ (q7.1 6).toInt by omega) (show -1 ≤ (q7.1 4).toInt by omega) x_0 (show 0 + (1601 - 0) * 2 < ((cfFU : Nat) : Int) by omega)
def QNl_lineWithoutSource (o0 : cf_O) (r : (Int32 × cf_O)) : Prop := (((-1) : Int) ≤ r.1.toInt ∧ r.1.toInt ≤ 2147483647) ∧ (okO I_Nl r.2) ∧ (Fr (fr_M [] [13, 14] []) o0 r.2) ∧ (Lws r.1.toInt (r.2.1 1).toInt (r.2.1 6).toInt (r.2.1 0).toInt (r.2.2.1 8) (r.2.2.1 13) (r.2.2.1 14)) ∧ True
def HNl_lineWithoutSource (yo0 : cf_O) (n : Nat) : Prop := (∀ (v1 : Int32) (o0 : cf_O), (okO I_Nl o0) → (Fr (fr_M [] [13, 14] []) yo0 o0) → ((0 : Int) ≤ v1.toInt ∧ v1.toInt ≤ 6) → (Osk v1.toInt (o0.1 0).toInt (o0.1 6).toInt (o0.2.1 14)) → 10862 + (6 - v1.toInt) * 2 < (n : Int) → tt (gNl_lineWithoutSource n 0 v1 0 o0) (QNl_lineWithoutSource yo0)) ∧ (∀ (v1 : Int32) (o0 : cf_O), (okO I_Nl o0) → (Fr (fr_M [] [13, 14] []) yo0 o0) → ((0 : Int) ≤ v1.toInt ∧ v1.toInt ≤ 30) → (Osk (o0.1 1).toInt (o0.1 0).toInt (o0.1 6).toInt (o0.2.1 14)) → (Ssk v1.toInt (o0.1 0).toInt (o0.1 6).toInt (o0.2.1 8) (o0.2.1 13)) → 0 + (30 - v1.toInt) * 362 < (n : Int) → tt (gNl_lineWithoutSource n 1 v1 0 o0) (QNl_lineWithoutSource yo0)) ∧ (∀ (v1 : Int32) (v2 : Int32) (o0 : cf_O), (okO I_Nl o0) → (Fr (fr_M [] [13, 14] []) yo0 o0) → ((0 : Int) ≤ v1.toInt ∧ v1.toInt ≤ 29) → ((0 : Int) ≤ v2.toInt ∧ v2.toInt ≤ 179) → ((1 : Int) ≤ (o0.1 6).toInt ∧ (o0.1 6).toInt ≤ 30) → (Osk (o0.1 1).toInt (o0.1 0).toInt (o0.1 6).toInt (o0.2.1 14)) → (Ssk v1.toInt (o0.1 0).toInt (o0.1 6).toInt (o0.2.1 8) (o0.2.1 13)) → (Ssj (6 * v1.toInt) v2.toInt (o0.1 0).toInt (o0.1 6).toInt (o0.2.1 13)) → (6 * v1.toInt ≤ v2.toInt) → (v1.toInt < (o0.1 6).toInt) → 0 + (30 - v1.toInt - 1) * 362 + 1 + (179 - v2.toInt) * 2 < (n : Int) → tt (gNl_lineWithoutSource n 2 v1 v2 o0) (QNl_lineWithoutSource yo0))
set_option maxHeartbeats 4000000 in
set_option maxRecDepth 100000 in
theorem tNl_lineWithoutSource_62 {yo0 : cf_O} {n : Nat} (H : HNl_lineWithoutSource yo0 n) (v1 : Int32) (v2 : Int32) (o0 : cf_O) (k_o0 : okO I_Nl o0) (r_o0 : Fr (fr_M [] [13, 14] []) yo0 o0) (i_v1 : (0 : Int) ≤ v1.toInt ∧ v1.toInt ≤ 29) (i_v2 : (0 : Int) ≤ v2.toInt ∧ v2.toInt ≤ 179) (f_o0_6 : (1 : Int) ≤ (o0.1 6).toInt ∧ (o0.1 6).toInt ≤ 30) (x_0 : Osk (o0.1 1).toInt (o0.1 0).toInt (o0.1 6).toInt (o0.2.1 14)) (x_1 : Ssk v1.toInt (o0.1 0).toInt (o0.1 6).toInt (o0.2.1 8) (o0.2.1 13)) (x_2 : Ssj (6 * v1.toInt) v2.toInt (o0.1 0).toInt (o0.1 6).toInt (o0.2.1 13)) (x_3 : 6 * v1.toInt ≤ v2.toInt) (x_4 : v1.toInt < (o0.1 6).toInt) (hm : 0 + (30 - v1.toInt - 1) * 362 + 1 + (179 - v2.toInt) * 2 ≤ (n : Int)) : tt (fNl_lineWithoutSource_62 (gNl_lineWithoutSource n) v1 v2 o0) (QNl_lineWithoutSource yo0) := by
  unfold fNl_lineWithoutSource_62
  have g_o0_0 : (0 : Int) ≤ (o0.1 0).toInt ∧ (o0.1 0).toInt ≤ 8 := k_o0.1 0
  have ey_o0_0 : (o0.1 0).toInt = (yo0.1 0).toInt := congrArg Int32.toInt (r_o0.1 0 rfl)
  have g_o0_1 : (0 : Int) ≤ (o0.1 1).toInt ∧ (o0.1 1).toInt ≤ 6 := k_o0.1 1
  have ey_o0_1 : (o0.1 1).toInt = (yo0.1 1).toInt := congrArg Int32.toInt (r_o0.1 1 rfl)
  have g_o0_5 : (0 : Int) ≤ (o0.1 5).toInt ∧ (o0.1 5).toInt ≤ 2147483647 := k_o0.1 5
  have ey_o0_5 : (o0.1 5).toInt = (yo0.1 5).toInt := congrArg Int32.toInt (r_o0.1 5 rfl)
  have ey_o0_6 : (o0.1 6).toInt = (yo0.1 6).toInt := congrArg Int32.toInt (r_o0.1 6 rfl)
  refine tt_kv (P := fun z => ((0 : Int) ≤ z.toInt ∧ z.toInt ≤ 174) ∧ z = (v1 * 6) ∧ z.toInt = v1.toInt * 6) ⟨iv_mul i_v1 (show (6 : Int) ≤ (6 : Int32).toInt ∧ (6 : Int32).toInt ≤ 6 by decide) (by decide) (by decide) (by decide) (by decide) (by decide), rfl, iq_mul i_v1 (show (6 : Int) ≤ (6 : Int32).toInt ∧ (6 : Int32).toInt ≤ 6 by decide) (by decide) (by decide) (by decide) (by decide)⟩ (fun x1 qi2 => ?_)
  obtain ⟨i2, ax1, ei2⟩ := qi2
  refine tt_n (ix_ok i_v1 (by decide) (by decide)) ?_
  refine tt_kv (P := fun z => ((0 : Int) ≤ z.toInt ∧ z.toInt ≤ 5) ∧ z = (o0.2.1 8 v1.toNatClampNeg) ∧ z.toInt = (o0.2.1 8 v1.toNatClampNeg).toInt) ⟨(k_o0.2 8 _), rfl, rfl⟩ (fun x3 qi4 => ?_)
  obtain ⟨i4, ax3, ei4⟩ := qi4
  refine tt_kv (P := fun z => ((0 : Int) ≤ z.toInt ∧ z.toInt ≤ 179) ∧ z = (x1 + x3) ∧ z.toInt = x1.toInt + x3.toInt) ⟨iv_add i2 i4 (by decide) (by decide) (by decide) (by decide), rfl, iq_add i2 i4 (by decide) (by decide)⟩ (fun x5 qi6 => ?_)
  obtain ⟨i6, ax5, ei6⟩ := qi6
  refine tt_if (fun c7 => ?_) (fun c7 => ?_)
  · have wc7 : x5.toInt ≤ v2.toInt := c_le c7
    refine tt_kv (P := fun z => ((1 : Int) ≤ z.toInt ∧ z.toInt ≤ 30) ∧ z = (v1 + 1) ∧ z.toInt = v1.toInt + 1) ⟨iv_add i_v1 (show (1 : Int) ≤ (1 : Int32).toInt ∧ (1 : Int32).toInt ≤ 1 by decide) (by decide) (by decide) (by decide) (by decide), rfl, iq_add i_v1 (show (1 : Int) ≤ (1 : Int32).toInt ∧ (1 : Int32).toInt ≤ 1 by decide) (by decide) (by decide)⟩ (fun x8 qi9 => ?_)
    obtain ⟨i9, ax8, ei9⟩ := qi9
    have p10 : Ssk x8.toInt (o0.1 0).toInt (o0.1 6).toInt (o0.2.1 8) (o0.2.1 13) := by exact Ssk_n x_1 x_2 (show _ = o0.2.1 8 v1.toNatClampNeg by assumption) (by rw [tn_n]; omega) (by omega) (by omega)
    exact H.2.1 _ _ k_o0 r_o0 (iv_w (a := 0) (b := 30) (by decide) (by decide) i9) x_0 p10 (show 0 + (30 - x8.toInt) * 362 < (n : Int) by omega)
  · have wc7 : v2.toInt < x5.toInt := c_nle c7
    have i11 : (0 : Int) ≤ v2.toInt ∧ v2.toInt ≤ 178 := nr_nlel c7 i_v2 i6 (by decide) (by decide)
    have i12 : (1 : Int) ≤ x5.toInt ∧ x5.toInt ≤ 179 := nr_nler c7 i_v2 i6 (by decide) (by decide)
    refine tt_n (ix_ok i11 (by decide) (by decide)) ?_
    refine tt_klr (fun x13 ax13 => ?_)
    refine tt_b (sNl_sourceOf _ _ k_o0) (fun q14 hq14 => ?_)
    obtain ⟨i_q14, zq14_0, -⟩ := hq14
    have zq14_0 : q14.toInt = -1 ∨ (0 ≤ q14.toInt ∧ q14.toInt < (o0.1 0).toInt) ∨ (8 ≤ q14.toInt ∧ q14.toInt < 8 + (o0.1 6).toInt) := zq14_0
    refine tt_n (ix_ok i11 (by decide) (by decide)) ?_
    refine tt_ko ?_
    have k15 := ok_xp (k := 13) (i := v2.toNatClampNeg) (v := q14) k_o0 i_q14
    have r16 := fr_xp (k := 13) (i := v2.toNatClampNeg) (v := q14) r_o0 rfl
    refine tt_n (ix_ok i11 (by decide) (by decide)) ?_
    refine tt_kv (P := fun z => (((-1) : Int) ≤ z.toInt ∧ z.toInt ≤ 37) ∧ z = (upd (o0.2.1 13) (v2.toNatClampNeg) q14 v2.toNatClampNeg) ∧ z.toInt = (upd (o0.2.1 13) (v2.toNatClampNeg) q14 v2.toNatClampNeg).toInt) ⟨(k15.2 13 _), rfl, rfl⟩ (fun x17 qi18 => ?_)
    obtain ⟨i18, ax17, ei18⟩ := qi18
    have t19 := congrArg Int32.toInt (ax17.trans (up_s _ _ _))
    refine tt_if (fun c20 => ?_) (fun c20 => ?_)
    · have wc20 : x17.toInt = ((-1) : Int) := c_eq c20
      have i21 : ((-1) : Int) ≤ x17.toInt ∧ x17.toInt ≤ (-1) := nr_eql c20 i18 (show ((-1) : Int) ≤ ((-1) : Int32).toInt ∧ ((-1) : Int32).toInt ≤ (-1) by decide) (by decide) (by decide)
      refine tt_n (ix_ok i_v1 (by decide) (by decide)) ?_
      refine tt_kv (P := fun z => ((0 : Int) ≤ z.toInt ∧ z.toInt ≤ 2147483647) ∧ z = (o0.2.1 9 v1.toNatClampNeg) ∧ z.toInt = (o0.2.1 9 v1.toNatClampNeg).toInt) ⟨(k15.2 9 _), rfl, rfl⟩ (fun x22 qi23 => ?_)
      obtain ⟨i23, ax22, ei23⟩ := qi23
      have p24 : Lws x22.toInt (o0.1 1).toInt (o0.1 6).toInt (o0.1 0).toInt (o0.2.1 8) (upd (o0.2.1 13) (v2.toNatClampNeg) q14) (o0.2.1 14) := by exact Or.inl (by omega)
      exact tt_some ⟨(iv_w (a := (-1)) (b := 2147483647) (by decide) (by decide) i23), k15, r16, p24, trivial⟩
    · have wc20 : ¬ x17.toInt = ((-1) : Int) := c_ne c20
      have i25 : (0 : Int) ≤ x17.toInt ∧ x17.toInt ≤ 37 := nr_nela c20 i18 (show ((-1) : Int) ≤ ((-1) : Int32).toInt ∧ ((-1) : Int32).toInt ≤ (-1) by decide) (by decide) (by decide)
      refine tt_kv (P := fun z => ((1 : Int) ≤ z.toInt ∧ z.toInt ≤ 179) ∧ z = (v2 + 1) ∧ z.toInt = v2.toInt + 1) ⟨iv_add i11 (show (1 : Int) ≤ (1 : Int32).toInt ∧ (1 : Int32).toInt ≤ 1 by decide) (by decide) (by decide) (by decide) (by decide), rfl, iq_add i11 (show (1 : Int) ≤ (1 : Int32).toInt ∧ (1 : Int32).toInt ≤ 1 by decide) (by decide) (by decide)⟩ (fun x26 qi27 => ?_)
      obtain ⟨i27, ax26, ei27⟩ := qi27
      have p28 : Ssk v1.toInt (o0.1 0).toInt (o0.1 6).toInt (o0.2.1 8) (upd (o0.2.1 13) (v2.toNatClampNeg) q14) := by exact Ssk_u x_1 (by rw [tn_n]; omega) (fun t => (k_o0.2 8 t).2)
      have p29 : Ssj (6 * v1.toInt) x26.toInt (o0.1 0).toInt (o0.1 6).toInt (upd (o0.2.1 13) (v2.toNatClampNeg) q14) := by exact Ssj_s x_2 (show Sok _ _ _ by unfold Sok; omega) (by rw [tn_n]; omega) (by omega)
      exact H.2.2 _ _ _ k15 r16 i_v1 (iv_w (a := 0) (b := 179) (by decide) (by decide) i27) f_o0_6 x_0 p28 p29 (show 6 * v1.toInt ≤ x26.toInt by omega) (show v1.toInt < (o0.1 6).toInt by omega) (show 0 + (30 - v1.toInt - 1) * 362 + 1 + (179 - x26.toInt) * 2 < (n : Int) by omega)
set_option maxHeartbeats 4000000 in
set_option maxRecDepth 100000 in
theorem tNl_lineWithoutSource_49 {yo0 : cf_O} {n : Nat} (H : HNl_lineWithoutSource yo0 n) (v1 : Int32) (o0 : cf_O) (k_o0 : okO I_Nl o0) (r_o0 : Fr (fr_M [] [13, 14] []) yo0 o0) (i_v1 : (0 : Int) ≤ v1.toInt ∧ v1.toInt ≤ 30) (x_0 : Osk (o0.1 1).toInt (o0.1 0).toInt (o0.1 6).toInt (o0.2.1 14)) (x_1 : Ssk v1.toInt (o0.1 0).toInt (o0.1 6).toInt (o0.2.1 8) (o0.2.1 13)) (hm : 0 + (30 - v1.toInt) * 362 ≤ (n : Int)) : tt (fNl_lineWithoutSource_49 (gNl_lineWithoutSource n) v1 o0) (QNl_lineWithoutSource yo0) := by
  unfold fNl_lineWithoutSource_49
  have g_o0_0 : (0 : Int) ≤ (o0.1 0).toInt ∧ (o0.1 0).toInt ≤ 8 := k_o0.1 0
  have ey_o0_0 : (o0.1 0).toInt = (yo0.1 0).toInt := congrArg Int32.toInt (r_o0.1 0 rfl)
  have g_o0_1 : (0 : Int) ≤ (o0.1 1).toInt ∧ (o0.1 1).toInt ≤ 6 := k_o0.1 1
  have ey_o0_1 : (o0.1 1).toInt = (yo0.1 1).toInt := congrArg Int32.toInt (r_o0.1 1 rfl)
  have g_o0_5 : (0 : Int) ≤ (o0.1 5).toInt ∧ (o0.1 5).toInt ≤ 2147483647 := k_o0.1 5
  have ey_o0_5 : (o0.1 5).toInt = (yo0.1 5).toInt := congrArg Int32.toInt (r_o0.1 5 rfl)
  have g_o0_6 : (0 : Int) ≤ (o0.1 6).toInt ∧ (o0.1 6).toInt ≤ 30 := k_o0.1 6
  have ey_o0_6 : (o0.1 6).toInt = (yo0.1 6).toInt := congrArg Int32.toInt (r_o0.1 6 rfl)
  refine tt_if (fun c1 => ?_) (fun c1 => ?_)
  · have wc1 : (o0.1 6).toInt ≤ v1.toInt := c_le c1
    have p2 : Lws (-1) (o0.1 1).toInt (o0.1 6).toInt (o0.1 0).toInt (o0.2.1 8) (o0.2.1 13) (o0.2.1 14) := by exact Or.inr ⟨x_0, Ssk_e x_1 (by omega)⟩
    exact tt_some ⟨(iv_w (a := (-1)) (b := 2147483647) (by decide) (by decide) (show ((-1) : Int) ≤ ((-1) : Int32).toInt ∧ ((-1) : Int32).toInt ≤ (-1) by decide)), k_o0, r_o0, p2, trivial⟩
  · have wc1 : v1.toInt < (o0.1 6).toInt := c_nle c1
    have i3 : (0 : Int) ≤ v1.toInt ∧ v1.toInt ≤ 29 := nr_nlel c1 i_v1 (k_o0.1 6) (by decide) (by decide)
    have i4 : (1 : Int) ≤ (o0.1 6).toInt ∧ (o0.1 6).toInt ≤ 30 := nr_nler c1 i_v1 (k_o0.1 6) (by decide) (by decide)
    refine tt_kv (P := fun z => ((0 : Int) ≤ z.toInt ∧ z.toInt ≤ 174) ∧ z = (v1 * 6) ∧ z.toInt = v1.toInt * 6) ⟨iv_mul i3 (show (6 : Int) ≤ (6 : Int32).toInt ∧ (6 : Int32).toInt ≤ 6 by decide) (by decide) (by decide) (by decide) (by decide) (by decide), rfl, iq_mul i3 (show (6 : Int) ≤ (6 : Int32).toInt ∧ (6 : Int32).toInt ≤ 6 by decide) (by decide) (by decide) (by decide) (by decide)⟩ (fun x5 qi6 => ?_)
    obtain ⟨i6, ax5, ei6⟩ := qi6
    have p7 : Ssj (6 * v1.toInt) x5.toInt (o0.1 0).toInt (o0.1 6).toInt (o0.2.1 13) := by exact Ssj_0 (by omega)
    exact H.2.2 _ _ _ k_o0 r_o0 i3 (iv_w (a := 0) (b := 179) (by decide) (by decide) i6) i4 x_0 x_1 p7 (show 6 * v1.toInt ≤ x5.toInt by omega) (show v1.toInt < (o0.1 6).toInt by omega) (show 0 + (30 - v1.toInt - 1) * 362 + 1 + (179 - x5.toInt) * 2 < (n : Int) by omega)
set_option maxHeartbeats 4000000 in
set_option maxRecDepth 100000 in
theorem tNl_lineWithoutSource_2 {yo0 : cf_O} {n : Nat} (H : HNl_lineWithoutSource yo0 n) (v1 : Int32) (o0 : cf_O) (k_o0 : okO I_Nl o0) (r_o0 : Fr (fr_M [] [13, 14] []) yo0 o0) (i_v1 : (0 : Int) ≤ v1.toInt ∧ v1.toInt ≤ 6) (x_0 : Osk v1.toInt (o0.1 0).toInt (o0.1 6).toInt (o0.2.1 14)) (hm : 10862 + (6 - v1.toInt) * 2 ≤ (n : Int)) : tt (fNl_lineWithoutSource_2 (gNl_lineWithoutSource n) v1 o0) (QNl_lineWithoutSource yo0) := by
  unfold fNl_lineWithoutSource_2
  have g_o0_0 : (0 : Int) ≤ (o0.1 0).toInt ∧ (o0.1 0).toInt ≤ 8 := k_o0.1 0
  have ey_o0_0 : (o0.1 0).toInt = (yo0.1 0).toInt := congrArg Int32.toInt (r_o0.1 0 rfl)
  have g_o0_1 : (0 : Int) ≤ (o0.1 1).toInt ∧ (o0.1 1).toInt ≤ 6 := k_o0.1 1
  have ey_o0_1 : (o0.1 1).toInt = (yo0.1 1).toInt := congrArg Int32.toInt (r_o0.1 1 rfl)
  have g_o0_5 : (0 : Int) ≤ (o0.1 5).toInt ∧ (o0.1 5).toInt ≤ 2147483647 := k_o0.1 5
  have ey_o0_5 : (o0.1 5).toInt = (yo0.1 5).toInt := congrArg Int32.toInt (r_o0.1 5 rfl)
  have g_o0_6 : (0 : Int) ≤ (o0.1 6).toInt ∧ (o0.1 6).toInt ≤ 30 := k_o0.1 6
  have ey_o0_6 : (o0.1 6).toInt = (yo0.1 6).toInt := congrArg Int32.toInt (r_o0.1 6 rfl)
  refine tt_if (fun c1 => ?_) (fun c1 => ?_)
  · have wc1 : (o0.1 1).toInt ≤ v1.toInt := c_le c1
    have p2 : Osk (o0.1 1).toInt (o0.1 0).toInt (o0.1 6).toInt (o0.2.1 14) := by exact Osk_e x_0 (by omega)
    have p3 : Ssk 0 (o0.1 0).toInt (o0.1 6).toInt (o0.2.1 8) (o0.2.1 13) := by exact Ssk_0
    exact H.2.1 _ _ k_o0 r_o0 (iv_w (a := 0) (b := 30) (by decide) (by decide) (show (0 : Int) ≤ (0 : Int32).toInt ∧ (0 : Int32).toInt ≤ 0 by decide)) p2 p3 (show 0 + (30 - 0) * 362 < (n : Int) by omega)
  · have wc1 : v1.toInt < (o0.1 1).toInt := c_nle c1
    have i4 : (0 : Int) ≤ v1.toInt ∧ v1.toInt ≤ 5 := nr_nlel c1 i_v1 (k_o0.1 1) (by decide) (by decide)
    have i5 : (1 : Int) ≤ (o0.1 1).toInt ∧ (o0.1 1).toInt ≤ 6 := nr_nler c1 i_v1 (k_o0.1 1) (by decide) (by decide)
    refine tt_n (ix_ok i4 (by decide) (by decide)) ?_
    refine tt_klr (fun x6 ax6 => ?_)
    refine tt_b (sNl_sourceOf _ _ k_o0) (fun q7 hq7 => ?_)
    obtain ⟨i_q7, zq7_0, -⟩ := hq7
    have zq7_0 : q7.toInt = -1 ∨ (0 ≤ q7.toInt ∧ q7.toInt < (o0.1 0).toInt) ∨ (8 ≤ q7.toInt ∧ q7.toInt < 8 + (o0.1 6).toInt) := zq7_0
    refine tt_n (ix_ok i4 (by decide) (by decide)) ?_
    refine tt_ko ?_
    have k8 := ok_xp (k := 14) (i := v1.toNatClampNeg) (v := q7) k_o0 i_q7
    have r9 := fr_xp (k := 14) (i := v1.toNatClampNeg) (v := q7) r_o0 rfl
    refine tt_n (ix_ok i4 (by decide) (by decide)) ?_
    refine tt_kv (P := fun z => (((-1) : Int) ≤ z.toInt ∧ z.toInt ≤ 37) ∧ z = (upd (o0.2.1 14) (v1.toNatClampNeg) q7 v1.toNatClampNeg) ∧ z.toInt = (upd (o0.2.1 14) (v1.toNatClampNeg) q7 v1.toNatClampNeg).toInt) ⟨(k8.2 14 _), rfl, rfl⟩ (fun x10 qi11 => ?_)
    obtain ⟨i11, ax10, ei11⟩ := qi11
    have t12 := congrArg Int32.toInt (ax10.trans (up_s _ _ _))
    refine tt_if (fun c13 => ?_) (fun c13 => ?_)
    · have wc13 : x10.toInt = ((-1) : Int) := c_eq c13
      have i14 : ((-1) : Int) ≤ x10.toInt ∧ x10.toInt ≤ (-1) := nr_eql c13 i11 (show ((-1) : Int) ≤ ((-1) : Int32).toInt ∧ ((-1) : Int32).toInt ≤ (-1) by decide) (by decide) (by decide)
      have p15 : Lws (o0.1 5).toInt (o0.1 1).toInt (o0.1 6).toInt (o0.1 0).toInt (o0.2.1 8) (o0.2.1 13) (upd (o0.2.1 14) (v1.toNatClampNeg) q7) := by exact Or.inl (by omega)
      exact tt_some ⟨(iv_w (a := (-1)) (b := 2147483647) (by decide) (by decide) (k_o0.1 5)), k8, r9, p15, trivial⟩
    · have wc13 : ¬ x10.toInt = ((-1) : Int) := c_ne c13
      have i16 : (0 : Int) ≤ x10.toInt ∧ x10.toInt ≤ 37 := nr_nela c13 i11 (show ((-1) : Int) ≤ ((-1) : Int32).toInt ∧ ((-1) : Int32).toInt ≤ (-1) by decide) (by decide) (by decide)
      refine tt_kv (P := fun z => ((1 : Int) ≤ z.toInt ∧ z.toInt ≤ 6) ∧ z = (v1 + 1) ∧ z.toInt = v1.toInt + 1) ⟨iv_add i4 (show (1 : Int) ≤ (1 : Int32).toInt ∧ (1 : Int32).toInt ≤ 1 by decide) (by decide) (by decide) (by decide) (by decide), rfl, iq_add i4 (show (1 : Int) ≤ (1 : Int32).toInt ∧ (1 : Int32).toInt ≤ 1 by decide) (by decide) (by decide)⟩ (fun x17 qi18 => ?_)
      obtain ⟨i18, ax17, ei18⟩ := qi18
      have p19 : Osk x17.toInt (o0.1 0).toInt (o0.1 6).toInt (upd (o0.2.1 14) (v1.toNatClampNeg) q7) := by exact Osk_s x_0 (show Sok _ _ _ by unfold Sok; omega) (by rw [tn_n]; omega) (by omega)
      exact H.1 _ _ k8 r9 (iv_w (a := 0) (b := 6) (by decide) (by decide) i18) p19 (show 10862 + (6 - x17.toInt) * 2 < (n : Int) by omega)
set_option maxHeartbeats 4000000 in
set_option maxRecDepth 100000 in
theorem hNl_lineWithoutSource (yo0 : cf_O) : ∀ n, HNl_lineWithoutSource yo0 n := by
  intro n
  induction n with
  | zero => exact ⟨(fun v1 o0 k_o0 r_o0 i_v1 x_0 hm => by exact absurd (show 10862 + (6 - v1.toInt) * 2 < (0 : Int) from hm) (by omega)), (fun v1 o0 k_o0 r_o0 i_v1 x_0 x_1 hm => by exact absurd (show 0 + (30 - v1.toInt) * 362 < (0 : Int) from hm) (by omega)), (fun v1 v2 o0 k_o0 r_o0 i_v1 i_v2 f_o0_6 x_0 x_1 x_2 x_3 x_4 hm => by exact absurd (show 0 + (30 - v1.toInt - 1) * 362 + 1 + (179 - v2.toInt) * 2 < (0 : Int) from hm) (by omega))⟩
  | succ n ih => exact ⟨(fun v1 o0 k_o0 r_o0 i_v1 x_0 hm => tNl_lineWithoutSource_2 ih v1 o0 k_o0 r_o0 i_v1 x_0 (by omega)), (fun v1 o0 k_o0 r_o0 i_v1 x_0 x_1 hm => tNl_lineWithoutSource_49 ih v1 o0 k_o0 r_o0 i_v1 x_0 x_1 (by omega)), (fun v1 v2 o0 k_o0 r_o0 i_v1 i_v2 f_o0_6 x_0 x_1 x_2 x_3 x_4 hm => tNl_lineWithoutSource_62 ih v1 v2 o0 k_o0 r_o0 i_v1 i_v2 f_o0_6 x_0 x_1 x_2 x_3 x_4 (by omega))⟩
set_option maxHeartbeats 4000000 in
set_option maxRecDepth 100000 in
theorem sNl_lineWithoutSource (o0 : cf_O) (k_o0 : okO I_Nl o0) : tt (fNl_lineWithoutSource o0) (QNl_lineWithoutSource o0) := by
  have H := hNl_lineWithoutSource o0 cfFU
  have hm : (10877 : Int) ≤ (cfFU : Nat) := by decide
  have r_o0 : Fr (fr_M [] [13, 14] []) o0 o0 := fr_rfl
  unfold fNl_lineWithoutSource fNl_lineWithoutSource_0
  have g_o0_0 : (0 : Int) ≤ (o0.1 0).toInt ∧ (o0.1 0).toInt ≤ 8 := k_o0.1 0
  have g_o0_1 : (0 : Int) ≤ (o0.1 1).toInt ∧ (o0.1 1).toInt ≤ 6 := k_o0.1 1
  have g_o0_5 : (0 : Int) ≤ (o0.1 5).toInt ∧ (o0.1 5).toInt ≤ 2147483647 := k_o0.1 5
  have g_o0_6 : (0 : Int) ≤ (o0.1 6).toInt ∧ (o0.1 6).toInt ≤ 30 := k_o0.1 6
  have p1 : Osk 0 (o0.1 0).toInt (o0.1 6).toInt (o0.2.1 14) := by exact Osk_0
  exact H.1 _ _ k_o0 r_o0 (iv_w (a := 0) (b := 6) (by decide) (by decide) (show (0 : Int) ≤ (0 : Int32).toInt ∧ (0 : Int32).toInt ≤ 0 by decide)) p1 (show 10862 + (6 - 0) * 2 < ((cfFU : Nat) : Int) by omega)
def QNl_findReached (o0 : cf_O) (r : (cf_O)) : Prop := (okO I_Nl r) ∧ (Fr (fr_M [] [15] []) o0 r) ∧ (Trc (r.1 6).toInt (r.1 6).toInt (r.2.1 15)) ∧ (Rea (r.1 6).toInt (r.2.1 8) (r.2.1 13) (r.2.1 15)) ∧ True
def HNl_findReached (yo0 : cf_O) (n : Nat) : Prop := (∀ (v1 : Int32) (o0 : cf_O), (okO I_Nl o0) → (Fr (fr_M [] [15] []) yo0 o0) → ((0 : Int) ≤ v1.toInt ∧ v1.toInt ≤ 30) → (((-1) : Int) ≤ (o0.1 2).toInt ∧ (o0.1 2).toInt ≤ (-1)) → (Rea v1.toInt (o0.2.1 8) (o0.2.1 13) (o0.2.1 15)) → (v1.toInt ≤ (o0.1 6).toInt) → 1922 + (30 - v1.toInt) * 362 < (n : Int) → tt (gNl_findReached n 0 v1 0 o0) (QNl_findReached yo0)) ∧ (∀ (v1 : Int32) (v2 : Int32) (o0 : cf_O), (okO I_Nl o0) → (Fr (fr_M [] [15] []) yo0 o0) → ((0 : Int) ≤ v1.toInt ∧ v1.toInt ≤ 29) → ((0 : Int) ≤ v2.toInt ∧ v2.toInt ≤ 179) → (((-1) : Int) ≤ (o0.1 2).toInt ∧ (o0.1 2).toInt ≤ (-1)) → ((1 : Int) ≤ (o0.1 6).toInt ∧ (o0.1 6).toInt ≤ 30) → (Rea v1.toInt (o0.2.1 8) (o0.2.1 13) (o0.2.1 15)) → (Reb v1.toInt v2.toInt (o0.2.1 13) (o0.2.1 15)) → (6 * v1.toInt ≤ v2.toInt) → (v1.toInt < (o0.1 6).toInt) → 1922 + (30 - v1.toInt - 1) * 362 + 1 + (179 - v2.toInt) * 2 < (n : Int) → tt (gNl_findReached n 1 v1 v2 o0) (QNl_findReached yo0)) ∧ (∀ (v1 : Int32) (o0 : cf_O), (okO I_Nl o0) → (Fr (fr_M [] [15] []) yo0 o0) → ((0 : Int) ≤ v1.toInt ∧ v1.toInt ≤ 30) → (((-1) : Int) ≤ (o0.1 2).toInt ∧ (o0.1 2).toInt ≤ (-1)) → (Rea (o0.1 6).toInt (o0.2.1 8) (o0.2.1 13) (o0.2.1 15)) → (Trc v1.toInt (o0.1 6).toInt (o0.2.1 15)) → (0 ≤ v1.toInt) → (v1.toInt ≤ (o0.1 6).toInt) → 0 + (30 - v1.toInt) * 64 < (n : Int) → tt (gNl_findReached n 2 v1 0 o0) (QNl_findReached yo0)) ∧ (∀ (v1 : Int32) (v2 : Int32) (o0 : cf_O), (okO I_Nl o0) → (Fr (fr_M [] [15] []) yo0 o0) → ((0 : Int) ≤ v1.toInt ∧ v1.toInt ≤ 29) → ((0 : Int) ≤ v2.toInt ∧ v2.toInt ≤ 30) → (((-1) : Int) ≤ (o0.1 2).toInt ∧ (o0.1 2).toInt ≤ (-1)) → ((1 : Int) ≤ (o0.1 6).toInt ∧ (o0.1 6).toInt ≤ 30) → (Mid v1.toInt v2.toInt (o0.1 6).toInt (o0.2.1 8) (o0.2.1 13) (o0.2.1 15)) → (0 ≤ v1.toInt) → (v1.toInt < (o0.1 6).toInt) → 0 + (30 - v1.toInt - 1) * 64 + 1 + (30 - v2.toInt) * 2 < (n : Int) → tt (gNl_findReached n 3 v1 v2 o0) (QNl_findReached yo0))
set_option maxHeartbeats 4000000 in
set_option maxRecDepth 100000 in
theorem tNl_findReached_92 {yo0 : cf_O} {n : Nat} (H : HNl_findReached yo0 n) (v1 : Int32) (v2 : Int32) (o0 : cf_O) (k_o0 : okO I_Nl o0) (r_o0 : Fr (fr_M [] [15] []) yo0 o0) (i_v1 : (0 : Int) ≤ v1.toInt ∧ v1.toInt ≤ 29) (i_v2 : (0 : Int) ≤ v2.toInt ∧ v2.toInt ≤ 30) (f_o0_2 : ((-1) : Int) ≤ (o0.1 2).toInt ∧ (o0.1 2).toInt ≤ (-1)) (f_o0_6 : (1 : Int) ≤ (o0.1 6).toInt ∧ (o0.1 6).toInt ≤ 30) (x_0 : Mid v1.toInt v2.toInt (o0.1 6).toInt (o0.2.1 8) (o0.2.1 13) (o0.2.1 15)) (x_1 : 0 ≤ v1.toInt) (x_2 : v1.toInt < (o0.1 6).toInt) (hm : 0 + (30 - v1.toInt - 1) * 64 + 1 + (30 - v2.toInt) * 2 ≤ (n : Int)) : tt (fNl_findReached_92 (gNl_findReached n) v1 v2 o0) (QNl_findReached yo0) := by
  unfold fNl_findReached_92
  have ey_o0_6 : (o0.1 6).toInt = (yo0.1 6).toInt := congrArg Int32.toInt (r_o0.1 6 rfl)
  refine tt_if (fun c1 => ?_) (fun c1 => ?_)
  · have wc1 : (o0.1 6).toInt ≤ v2.toInt := c_le c1
    have i2 : (1 : Int) ≤ v2.toInt ∧ v2.toInt ≤ 30 := nr_ler c1 f_o0_6 i_v2 (by decide) (by decide)
    refine tt_kv (P := fun z => ((1 : Int) ≤ z.toInt ∧ z.toInt ≤ 30) ∧ z = (v1 + 1) ∧ z.toInt = v1.toInt + 1) ⟨iv_add i_v1 (show (1 : Int) ≤ (1 : Int32).toInt ∧ (1 : Int32).toInt ≤ 1 by decide) (by decide) (by decide) (by decide) (by decide), rfl, iq_add i_v1 (show (1 : Int) ≤ (1 : Int32).toInt ∧ (1 : Int32).toInt ≤ 1 by decide) (by decide) (by decide)⟩ (fun x3 qi4 => ?_)
    obtain ⟨i4, ax3, ei4⟩ := qi4
    have p5 : Rea (o0.1 6).toInt (o0.2.1 8) (o0.2.1 13) (o0.2.1 15) := by exact (Mid_x x_0 (by omega) (by omega) (by omega) rfl).2
    have p6 : Trc x3.toInt (o0.1 6).toInt (o0.2.1 15) := by exact (Mid_x x_0 (by omega) (by omega) (by omega) (by omega)).1
    exact H.2.2.1 _ _ k_o0 r_o0 (iv_w (a := 0) (b := 30) (by decide) (by decide) i4) f_o0_2 p5 p6 (show 0 ≤ x3.toInt by omega) (show x3.toInt ≤ (o0.1 6).toInt by omega) (show 0 + (30 - x3.toInt) * 64 < (n : Int) by omega)
  · have wc1 : v2.toInt < (o0.1 6).toInt := c_nle c1
    have i7 : (0 : Int) ≤ v2.toInt ∧ v2.toInt ≤ 29 := nr_nlel c1 i_v2 f_o0_6 (by decide) (by decide)
    refine tt_n (ix_ok i7 (by decide) (by decide)) ?_
    refine tt_kv (P := fun z => ((0 : Int) ≤ z.toInt ∧ z.toInt ≤ 1073741823) ∧ z = (o0.2.1 15 v2.toNatClampNeg) ∧ z.toInt = (o0.2.1 15 v2.toNatClampNeg).toInt) ⟨(k_o0.2 15 _), rfl, rfl⟩ (fun x8 qi9 => ?_)
    obtain ⟨i9, ax8, ei9⟩ := qi9
    refine tt_kv (P := fun z => ((0 : Int) ≤ z.toInt ∧ z.toInt ≤ 1073741823) ∧ z = (x8 >>> (v1 &&& 31))) ⟨iv_shr (p := 0) (q := 29) i9 i_v1 (by decide) (by decide) (by decide) (by decide), rfl⟩ (fun x10 qi11 => ?_)
    obtain ⟨i11, ax10⟩ := qi11
    refine tt_kv (P := fun z => ((0 : Int) ≤ z.toInt ∧ z.toInt ≤ 1) ∧ z = (x10 &&& 1) ∧ z.toInt = x10.toInt % 2) ⟨iv_and (show (1 : Int) ≤ (1 : Int32).toInt ∧ (1 : Int32).toInt ≤ 1 by decide) (by decide) (by decide) (by decide), rfl, i_a1 (Int.le_trans (by decide) i11.1)⟩ (fun x12 qi13 => ?_)
    obtain ⟨i13, ax12, ei13⟩ := qi13
    refine tt_if (fun c14 => ?_) (fun c14 => ?_)
    · have wc14 : x12.toInt = (0 : Int) := c_eq c14
      have i15 : (0 : Int) ≤ x12.toInt ∧ x12.toInt ≤ 0 := nr_eql c14 i13 (show (0 : Int) ≤ (0 : Int32).toInt ∧ (0 : Int32).toInt ≤ 0 by decide) (by decide) (by decide)
      try unfold fNl_findReached_128
      refine tt_kv (P := fun z => ((1 : Int) ≤ z.toInt ∧ z.toInt ≤ 30) ∧ z = (v2 + 1) ∧ z.toInt = v2.toInt + 1) ⟨iv_add i7 (show (1 : Int) ≤ (1 : Int32).toInt ∧ (1 : Int32).toInt ≤ 1 by decide) (by decide) (by decide) (by decide) (by decide), rfl, iq_add i7 (show (1 : Int) ≤ (1 : Int32).toInt ∧ (1 : Int32).toInt ≤ 1 by decide) (by decide) (by decide)⟩ (fun x16 qi17 => ?_)
      obtain ⟨i17, ax16, ei17⟩ := qi17
      have p18 : Mid v1.toInt x16.toInt (o0.1 6).toInt (o0.2.1 8) (o0.2.1 13) (o0.2.1 15) := by exact Mid_n (i := v2.toNatClampNeg) x_0 (by assumption) (by rw [tn_n]; omega) ((bt_t (v := v1) (show _ = _ &&& 1 by assumption) (by assumption) (by omega) (by omega) (by omega)).resolve_right (fun h => h.1 (by omega))).2 (by omega)
      exact H.2.2.2 _ _ _ k_o0 r_o0 i_v1 (iv_w (a := 0) (b := 30) (by decide) (by decide) i17) f_o0_2 f_o0_6 p18 (show 0 ≤ v1.toInt by omega) (show v1.toInt < (o0.1 6).toInt by omega) (show 0 + (30 - v1.toInt - 1) * 64 + 1 + (30 - x16.toInt) * 2 < (n : Int) by omega)
    · have wc14 : ¬ x12.toInt = (0 : Int) := c_ne c14
      have i19 : (1 : Int) ≤ x12.toInt ∧ x12.toInt ≤ 1 := nr_nela c14 i13 (show (0 : Int) ≤ (0 : Int32).toInt ∧ (0 : Int32).toInt ≤ 0 by decide) (by decide) (by decide)
      refine tt_n (ix_ok i7 (by decide) (by decide)) ?_
      refine tt_kv (P := fun z => ((0 : Int) ≤ z.toInt ∧ z.toInt ≤ 1073741823) ∧ z = (o0.2.1 15 v2.toNatClampNeg) ∧ z.toInt = (o0.2.1 15 v2.toNatClampNeg).toInt) ⟨(k_o0.2 15 _), rfl, rfl⟩ (fun x20 qi21 => ?_)
      obtain ⟨i21, ax20, ei21⟩ := qi21
      refine tt_n (ix_ok i_v1 (by decide) (by decide)) ?_
      refine tt_kv (P := fun z => ((0 : Int) ≤ z.toInt ∧ z.toInt ≤ 1073741823) ∧ z = (o0.2.1 15 v1.toNatClampNeg) ∧ z.toInt = (o0.2.1 15 v1.toNatClampNeg).toInt) ⟨(k_o0.2 15 _), rfl, rfl⟩ (fun x22 qi23 => ?_)
      obtain ⟨i23, ax22, ei23⟩ := qi23
      refine tt_kv (P := fun z => ((0 : Int) ≤ z.toInt ∧ z.toInt ≤ 1073741823) ∧ z = (x20 ||| x22)) ⟨iv_or (w := 30) i21 i23 (by decide) (by decide) (by decide) (by decide) (by decide) (by decide) (by decide), rfl⟩ (fun x24 qi25 => ?_)
      obtain ⟨i25, ax24⟩ := qi25
      refine tt_n (ix_ok i7 (by decide) (by decide)) ?_
      refine tt_ko ?_
      have k26 := ok_xp (k := 15) (i := v2.toNatClampNeg) (v := x24) k_o0 i25
      have r27 := fr_xp (k := 15) (i := v2.toNatClampNeg) (v := x24) r_o0 rfl
      try unfold fNl_findReached_128
      refine tt_kv (P := fun z => ((1 : Int) ≤ z.toInt ∧ z.toInt ≤ 30) ∧ z = (v2 + 1) ∧ z.toInt = v2.toInt + 1) ⟨iv_add i7 (show (1 : Int) ≤ (1 : Int32).toInt ∧ (1 : Int32).toInt ≤ 1 by decide) (by decide) (by decide) (by decide) (by decide), rfl, iq_add i7 (show (1 : Int) ≤ (1 : Int32).toInt ∧ (1 : Int32).toInt ≤ 1 by decide) (by decide) (by decide)⟩ (fun x28 qi29 => ?_)
      obtain ⟨i29, ax28, ei29⟩ := qi29
      have p30 : Mid v1.toInt x28.toInt (o0.1 6).toInt (o0.2.1 8) (o0.2.1 13) (upd (o0.2.1 15) (v2.toNatClampNeg) x24) := by exact Mid_s (i := v2.toNatClampNeg) (j := v1.toNatClampNeg) x_0 ((bt_t (v := v1) (show _ = _ &&& 1 by assumption) (by assumption) (by omega) (by omega) (by omega)).resolve_left (fun h => absurd h.1 (by omega))).2 (show _ = _ ||| _ by assumption) (by assumption) (by assumption) (by assumption) (by rw [tn_n]; omega) (by rw [tn_n]; omega) (by omega)
      exact H.2.2.2 _ _ _ k26 r27 i_v1 (iv_w (a := 0) (b := 30) (by decide) (by decide) i29) f_o0_2 f_o0_6 p30 (show 0 ≤ v1.toInt by omega) (show v1.toInt < (o0.1 6).toInt by omega) (show 0 + (30 - v1.toInt - 1) * 64 + 1 + (30 - x28.toInt) * 2 < (n : Int) by omega)
set_option maxHeartbeats 4000000 in
set_option maxRecDepth 100000 in
theorem tNl_findReached_82 {yo0 : cf_O} {n : Nat} (H : HNl_findReached yo0 n) (v1 : Int32) (o0 : cf_O) (k_o0 : okO I_Nl o0) (r_o0 : Fr (fr_M [] [15] []) yo0 o0) (i_v1 : (0 : Int) ≤ v1.toInt ∧ v1.toInt ≤ 30) (f_o0_2 : ((-1) : Int) ≤ (o0.1 2).toInt ∧ (o0.1 2).toInt ≤ (-1)) (x_0 : Rea (o0.1 6).toInt (o0.2.1 8) (o0.2.1 13) (o0.2.1 15)) (x_1 : Trc v1.toInt (o0.1 6).toInt (o0.2.1 15)) (x_2 : 0 ≤ v1.toInt) (x_3 : v1.toInt ≤ (o0.1 6).toInt) (hm : 0 + (30 - v1.toInt) * 64 ≤ (n : Int)) : tt (fNl_findReached_82 (gNl_findReached n) v1 o0) (QNl_findReached yo0) := by
  unfold fNl_findReached_82
  have g_o0_6 : (0 : Int) ≤ (o0.1 6).toInt ∧ (o0.1 6).toInt ≤ 30 := k_o0.1 6
  have ey_o0_6 : (o0.1 6).toInt = (yo0.1 6).toInt := congrArg Int32.toInt (r_o0.1 6 rfl)
  refine tt_if (fun c1 => ?_) (fun c1 => ?_)
  · have wc1 : (o0.1 6).toInt ≤ v1.toInt := c_le c1
    have p2 : Trc (o0.1 6).toInt (o0.1 6).toInt (o0.2.1 15) := by exact (show v1.toInt = (o0.1 6).toInt by omega) ▸ x_1
    exact tt_some ⟨k_o0, r_o0, p2, x_0, trivial⟩
  · have wc1 : v1.toInt < (o0.1 6).toInt := c_nle c1
    have i3 : (0 : Int) ≤ v1.toInt ∧ v1.toInt ≤ 29 := nr_nlel c1 i_v1 (k_o0.1 6) (by decide) (by decide)
    have i4 : (1 : Int) ≤ (o0.1 6).toInt ∧ (o0.1 6).toInt ≤ 30 := nr_nler c1 i_v1 (k_o0.1 6) (by decide) (by decide)
    have p5 : Mid v1.toInt 0 (o0.1 6).toInt (o0.2.1 8) (o0.2.1 13) (o0.2.1 15) := by exact Mid_0 x_1 x_0
    exact H.2.2.2 _ _ _ k_o0 r_o0 i3 (iv_w (a := 0) (b := 30) (by decide) (by decide) (show (0 : Int) ≤ (0 : Int32).toInt ∧ (0 : Int32).toInt ≤ 0 by decide)) f_o0_2 i4 p5 (show 0 ≤ v1.toInt by omega) (show v1.toInt < (o0.1 6).toInt by omega) (show 0 + (30 - v1.toInt - 1) * 64 + 1 + (30 - 0) * 2 < (n : Int) by omega)
set_option maxHeartbeats 4000000 in
set_option maxRecDepth 100000 in
theorem tNl_findReached_22 {yo0 : cf_O} {n : Nat} (H : HNl_findReached yo0 n) (v1 : Int32) (v2 : Int32) (o0 : cf_O) (k_o0 : okO I_Nl o0) (r_o0 : Fr (fr_M [] [15] []) yo0 o0) (i_v1 : (0 : Int) ≤ v1.toInt ∧ v1.toInt ≤ 29) (i_v2 : (0 : Int) ≤ v2.toInt ∧ v2.toInt ≤ 179) (f_o0_2 : ((-1) : Int) ≤ (o0.1 2).toInt ∧ (o0.1 2).toInt ≤ (-1)) (f_o0_6 : (1 : Int) ≤ (o0.1 6).toInt ∧ (o0.1 6).toInt ≤ 30) (x_0 : Rea v1.toInt (o0.2.1 8) (o0.2.1 13) (o0.2.1 15)) (x_1 : Reb v1.toInt v2.toInt (o0.2.1 13) (o0.2.1 15)) (x_2 : 6 * v1.toInt ≤ v2.toInt) (x_3 : v1.toInt < (o0.1 6).toInt) (hm : 1922 + (30 - v1.toInt - 1) * 362 + 1 + (179 - v2.toInt) * 2 ≤ (n : Int)) : tt (fNl_findReached_22 (gNl_findReached n) v1 v2 o0) (QNl_findReached yo0) := by
  unfold fNl_findReached_22
  have ey_o0_6 : (o0.1 6).toInt = (yo0.1 6).toInt := congrArg Int32.toInt (r_o0.1 6 rfl)
  refine tt_kv (P := fun z => ((0 : Int) ≤ z.toInt ∧ z.toInt ≤ 174) ∧ z = (v1 * 6) ∧ z.toInt = v1.toInt * 6) ⟨iv_mul i_v1 (show (6 : Int) ≤ (6 : Int32).toInt ∧ (6 : Int32).toInt ≤ 6 by decide) (by decide) (by decide) (by decide) (by decide) (by decide), rfl, iq_mul i_v1 (show (6 : Int) ≤ (6 : Int32).toInt ∧ (6 : Int32).toInt ≤ 6 by decide) (by decide) (by decide) (by decide) (by decide)⟩ (fun x1 qi2 => ?_)
  obtain ⟨i2, ax1, ei2⟩ := qi2
  refine tt_n (ix_ok i_v1 (by decide) (by decide)) ?_
  refine tt_kv (P := fun z => ((0 : Int) ≤ z.toInt ∧ z.toInt ≤ 5) ∧ z = (o0.2.1 8 v1.toNatClampNeg) ∧ z.toInt = (o0.2.1 8 v1.toNatClampNeg).toInt) ⟨(k_o0.2 8 _), rfl, rfl⟩ (fun x3 qi4 => ?_)
  obtain ⟨i4, ax3, ei4⟩ := qi4
  refine tt_kv (P := fun z => ((0 : Int) ≤ z.toInt ∧ z.toInt ≤ 179) ∧ z = (x1 + x3) ∧ z.toInt = x1.toInt + x3.toInt) ⟨iv_add i2 i4 (by decide) (by decide) (by decide) (by decide), rfl, iq_add i2 i4 (by decide) (by decide)⟩ (fun x5 qi6 => ?_)
  obtain ⟨i6, ax5, ei6⟩ := qi6
  refine tt_if (fun c7 => ?_) (fun c7 => ?_)
  · have wc7 : x5.toInt ≤ v2.toInt := c_le c7
    refine tt_kv (P := fun z => ((1 : Int) ≤ z.toInt ∧ z.toInt ≤ 30) ∧ z = (v1 + 1) ∧ z.toInt = v1.toInt + 1) ⟨iv_add i_v1 (show (1 : Int) ≤ (1 : Int32).toInt ∧ (1 : Int32).toInt ≤ 1 by decide) (by decide) (by decide) (by decide) (by decide), rfl, iq_add i_v1 (show (1 : Int) ≤ (1 : Int32).toInt ∧ (1 : Int32).toInt ≤ 1 by decide) (by decide) (by decide)⟩ (fun x8 qi9 => ?_)
    obtain ⟨i9, ax8, ei9⟩ := qi9
    have p10 : Rea x8.toInt (o0.2.1 8) (o0.2.1 13) (o0.2.1 15) := by first | exact x_0 | exact Rea_n x_0 x_1 (show _ = o0.2.1 8 v1.toNatClampNeg by assumption) (by rw [tn_n]; omega) (by omega) (by omega)
    exact H.1 _ _ k_o0 r_o0 (iv_w (a := 0) (b := 30) (by decide) (by decide) i9) f_o0_2 p10 (show x8.toInt ≤ (o0.1 6).toInt by omega) (show 1922 + (30 - x8.toInt) * 362 < (n : Int) by omega)
  · have wc7 : v2.toInt < x5.toInt := c_nle c7
    have i11 : (0 : Int) ≤ v2.toInt ∧ v2.toInt ≤ 178 := nr_nlel c7 i_v2 i6 (by decide) (by decide)
    have i12 : (1 : Int) ≤ x5.toInt ∧ x5.toInt ≤ 179 := nr_nler c7 i_v2 i6 (by decide) (by decide)
    refine tt_n (ix_ok i11 (by decide) (by decide)) ?_
    refine tt_kv (P := fun z => (((-1) : Int) ≤ z.toInt ∧ z.toInt ≤ 37) ∧ z = (o0.2.1 13 v2.toNatClampNeg) ∧ z.toInt = (o0.2.1 13 v2.toNatClampNeg).toInt) ⟨(k_o0.2 13 _), rfl, rfl⟩ (fun x13 qi14 => ?_)
    obtain ⟨i14, ax13, ei14⟩ := qi14
    refine tt_if (fun c15 => ?_) (fun c15 => ?_)
    · have wc15 : x13.toInt < (8 : Int) := c_lt c15
      have i16 : ((-1) : Int) ≤ x13.toInt ∧ x13.toInt ≤ 7 := nr_ltl c15 i14 (show (8 : Int) ≤ (8 : Int32).toInt ∧ (8 : Int32).toInt ≤ 8 by decide) (by decide) (by decide)
      try unfold fNl_findReached_68
      refine tt_kv (P := fun z => ((1 : Int) ≤ z.toInt ∧ z.toInt ≤ 179) ∧ z = (v2 + 1) ∧ z.toInt = v2.toInt + 1) ⟨iv_add i11 (show (1 : Int) ≤ (1 : Int32).toInt ∧ (1 : Int32).toInt ≤ 1 by decide) (by decide) (by decide) (by decide) (by decide), rfl, iq_add i11 (show (1 : Int) ≤ (1 : Int32).toInt ∧ (1 : Int32).toInt ≤ 1 by decide) (by decide) (by decide)⟩ (fun x17 qi18 => ?_)
      obtain ⟨i18, ax17, ei18⟩ := qi18
      have p19 : Reb v1.toInt x17.toInt (o0.2.1 13) (o0.2.1 15) := by exact Reb_n (i := v2.toNatClampNeg) x_1 (by assumption) (by rw [tn_n]; omega) (by omega) (by omega)
      exact H.2.1 _ _ _ k_o0 r_o0 i_v1 (iv_w (a := 0) (b := 179) (by decide) (by decide) i18) f_o0_2 f_o0_6 x_0 p19 (show 6 * v1.toInt ≤ x17.toInt by omega) (show v1.toInt < (o0.1 6).toInt by omega) (show 1922 + (30 - v1.toInt - 1) * 362 + 1 + (179 - x17.toInt) * 2 < (n : Int) by omega)
    · have wc15 : (8 : Int) ≤ x13.toInt := c_nlt c15
      have i20 : (8 : Int) ≤ x13.toInt ∧ x13.toInt ≤ 37 := nr_nltr c15 (show (8 : Int) ≤ (8 : Int32).toInt ∧ (8 : Int32).toInt ≤ 8 by decide) i14 (by decide) (by decide)
      refine tt_n (ix_ok i_v1 (by decide) (by decide)) ?_
      refine tt_kv (P := fun z => ((0 : Int) ≤ z.toInt ∧ z.toInt ≤ 1073741823) ∧ z = (o0.2.1 15 v1.toNatClampNeg) ∧ z.toInt = (o0.2.1 15 v1.toNatClampNeg).toInt) ⟨(k_o0.2 15 _), rfl, rfl⟩ (fun x21 qi22 => ?_)
      obtain ⟨i22, ax21, ei22⟩ := qi22
      refine tt_n (ix_ok i11 (by decide) (by decide)) ?_
      refine tt_kv (P := fun z => (((-1) : Int) ≤ z.toInt ∧ z.toInt ≤ 37) ∧ z = (o0.2.1 13 v2.toNatClampNeg) ∧ z.toInt = (o0.2.1 13 v2.toNatClampNeg).toInt) ⟨(k_o0.2 13 _), rfl, rfl⟩ (fun x23 qi24 => ?_)
      obtain ⟨i24, ax23, ei24⟩ := qi24
      refine tt_kv (P := fun z => (((-9) : Int) ≤ z.toInt ∧ z.toInt ≤ 29) ∧ z = (x23 - 8) ∧ z.toInt = x23.toInt - 8) ⟨iv_sub i24 (show (8 : Int) ≤ (8 : Int32).toInt ∧ (8 : Int32).toInt ≤ 8 by decide) (by decide) (by decide) (by decide) (by decide), rfl, iq_sub i24 (show (8 : Int) ≤ (8 : Int32).toInt ∧ (8 : Int32).toInt ≤ 8 by decide) (by decide) (by decide)⟩ (fun x25 qi26 => ?_)
      obtain ⟨i26, ax25, ei26⟩ := qi26
      refine tt_kv (P := fun z => (((-2147483648) : Int) ≤ z.toInt ∧ z.toInt ≤ 2147483647) ∧ z = ((1 : Int32) <<< (x25 &&& 31)) ∧ z.toInt = ((1 : Int32) <<< (x25 &&& (31 : Int32))).toInt) ⟨iv_top _, rfl, rfl⟩ (fun x27 qi28 => ?_)
      obtain ⟨i28, ax27, ei28⟩ := qi28
      have t29 := sh1_b ax27 (by omega) (by omega)
      refine tt_kv (P := fun z => (((-2147483648) : Int) ≤ z.toInt ∧ z.toInt ≤ 2147483647) ∧ z = (x21 ||| x27)) ⟨iv_top _, rfl⟩ (fun x30 qi31 => ?_)
      obtain ⟨i31, ax30⟩ := qi31
      have t32 := or_b ax30 (by omega) (by omega) (by omega) (by omega)
      refine tt_n (ix_ok i_v1 (by decide) (by decide)) ?_
      refine tt_ko ?_
      have k33 := ok_xp (k := 15) (i := v1.toNatClampNeg) (v := x30) k_o0 (show (0 : Int) ≤ _ ∧ _ ≤ (1073741823 : Int) by omega)
      have r34 := fr_xp (k := 15) (i := v1.toNatClampNeg) (v := x30) r_o0 rfl
      try unfold fNl_findReached_68
      refine tt_kv (P := fun z => ((1 : Int) ≤ z.toInt ∧ z.toInt ≤ 179) ∧ z = (v2 + 1) ∧ z.toInt = v2.toInt + 1) ⟨iv_add i11 (show (1 : Int) ≤ (1 : Int32).toInt ∧ (1 : Int32).toInt ≤ 1 by decide) (by decide) (by decide) (by decide) (by decide), rfl, iq_add i11 (show (1 : Int) ≤ (1 : Int32).toInt ∧ (1 : Int32).toInt ≤ 1 by decide) (by decide) (by decide)⟩ (fun x35 qi36 => ?_)
      obtain ⟨i36, ax35, ei36⟩ := qi36
      have p37 : Rea v1.toInt (o0.2.1 8) (o0.2.1 13) (upd (o0.2.1 15) (v1.toNatClampNeg) x30) := by exact Rea_u x_0 (by rw [tn_n]; omega)
      have p38 : Reb v1.toInt x35.toInt (o0.2.1 13) (upd (o0.2.1 15) (v1.toNatClampNeg) x30) := by exact Reb_s (i := v2.toNatClampNeg) x_1 (show _ = _ ||| _ by assumption) (by assumption) (by assumption) (by omega) (by assumption) (by rw [tn_n]; omega) (by rw [tn_n]; omega) (by omega) (by omega) (by omega)
      exact H.2.1 _ _ _ k33 r34 i_v1 (iv_w (a := 0) (b := 179) (by decide) (by decide) i36) f_o0_2 f_o0_6 p37 p38 (show 6 * v1.toInt ≤ x35.toInt by omega) (show v1.toInt < (o0.1 6).toInt by omega) (show 1922 + (30 - v1.toInt - 1) * 362 + 1 + (179 - x35.toInt) * 2 < (n : Int) by omega)
set_option maxHeartbeats 4000000 in
set_option maxRecDepth 100000 in
theorem tNl_findReached_2 {yo0 : cf_O} {n : Nat} (H : HNl_findReached yo0 n) (v1 : Int32) (o0 : cf_O) (k_o0 : okO I_Nl o0) (r_o0 : Fr (fr_M [] [15] []) yo0 o0) (i_v1 : (0 : Int) ≤ v1.toInt ∧ v1.toInt ≤ 30) (f_o0_2 : ((-1) : Int) ≤ (o0.1 2).toInt ∧ (o0.1 2).toInt ≤ (-1)) (x_0 : Rea v1.toInt (o0.2.1 8) (o0.2.1 13) (o0.2.1 15)) (x_1 : v1.toInt ≤ (o0.1 6).toInt) (hm : 1922 + (30 - v1.toInt) * 362 ≤ (n : Int)) : tt (fNl_findReached_2 (gNl_findReached n) v1 o0) (QNl_findReached yo0) := by
  unfold fNl_findReached_2
  have g_o0_6 : (0 : Int) ≤ (o0.1 6).toInt ∧ (o0.1 6).toInt ≤ 30 := k_o0.1 6
  have ey_o0_6 : (o0.1 6).toInt = (yo0.1 6).toInt := congrArg Int32.toInt (r_o0.1 6 rfl)
  refine tt_if (fun c1 => ?_) (fun c1 => ?_)
  · have wc1 : (o0.1 6).toInt ≤ v1.toInt := c_le c1
    have p2 : Rea (o0.1 6).toInt (o0.2.1 8) (o0.2.1 13) (o0.2.1 15) := by exact (show (o0.1 6).toInt = v1.toInt by omega) ▸ x_0
    have p3 : Trc 0 (o0.1 6).toInt (o0.2.1 15) := by exact Trc_0
    exact H.2.2.1 _ _ k_o0 r_o0 (iv_w (a := 0) (b := 30) (by decide) (by decide) (show (0 : Int) ≤ (0 : Int32).toInt ∧ (0 : Int32).toInt ≤ 0 by decide)) f_o0_2 p2 p3 (show 0 ≤ 0 by omega) (show 0 ≤ (o0.1 6).toInt by omega) (show 0 + (30 - 0) * 64 < (n : Int) by omega)
  · have wc1 : v1.toInt < (o0.1 6).toInt := c_nle c1
    have i4 : (0 : Int) ≤ v1.toInt ∧ v1.toInt ≤ 29 := nr_nlel c1 i_v1 (k_o0.1 6) (by decide) (by decide)
    have i5 : (1 : Int) ≤ (o0.1 6).toInt ∧ (o0.1 6).toInt ≤ 30 := nr_nler c1 i_v1 (k_o0.1 6) (by decide) (by decide)
    refine tt_n (ix_ok i4 (by decide) (by decide)) ?_
    refine tt_ko ?_
    have k6 := ok_xp (k := 15) (i := v1.toNatClampNeg) (v := 0) k_o0 (iv_w (a := 0) (b := 1073741823) (by decide) (by decide) (show (0 : Int) ≤ (0 : Int32).toInt ∧ (0 : Int32).toInt ≤ 0 by decide))
    have r7 := fr_xp (k := 15) (i := v1.toNatClampNeg) (v := 0) r_o0 rfl
    refine tt_kv (P := fun z => ((0 : Int) ≤ z.toInt ∧ z.toInt ≤ 174) ∧ z = (v1 * 6) ∧ z.toInt = v1.toInt * 6) ⟨iv_mul i4 (show (6 : Int) ≤ (6 : Int32).toInt ∧ (6 : Int32).toInt ≤ 6 by decide) (by decide) (by decide) (by decide) (by decide) (by decide), rfl, iq_mul i4 (show (6 : Int) ≤ (6 : Int32).toInt ∧ (6 : Int32).toInt ≤ 6 by decide) (by decide) (by decide) (by decide) (by decide)⟩ (fun x8 qi9 => ?_)
    obtain ⟨i9, ax8, ei9⟩ := qi9
    have p10 : Rea v1.toInt (o0.2.1 8) (o0.2.1 13) (upd (o0.2.1 15) (v1.toNatClampNeg) 0) := by exact Rea_u x_0 (by rw [tn_n]; omega)
    have p11 : Reb v1.toInt x8.toInt (o0.2.1 13) (upd (o0.2.1 15) (v1.toNatClampNeg) 0) := by exact Reb_0 (by omega)
    exact H.2.1 _ _ _ k6 r7 i4 (iv_w (a := 0) (b := 179) (by decide) (by decide) i9) f_o0_2 i5 p10 p11 (show 6 * v1.toInt ≤ x8.toInt by omega) (show v1.toInt < (o0.1 6).toInt by omega) (show 1922 + (30 - v1.toInt - 1) * 362 + 1 + (179 - x8.toInt) * 2 < (n : Int) by omega)
set_option maxHeartbeats 4000000 in
set_option maxRecDepth 100000 in
theorem hNl_findReached (yo0 : cf_O) : ∀ n, HNl_findReached yo0 n := by
  intro n
  induction n with
  | zero => exact ⟨(fun v1 o0 k_o0 r_o0 i_v1 f_o0_2 x_0 x_1 hm => by exact absurd (show 1922 + (30 - v1.toInt) * 362 < (0 : Int) from hm) (by omega)), (fun v1 v2 o0 k_o0 r_o0 i_v1 i_v2 f_o0_2 f_o0_6 x_0 x_1 x_2 x_3 hm => by exact absurd (show 1922 + (30 - v1.toInt - 1) * 362 + 1 + (179 - v2.toInt) * 2 < (0 : Int) from hm) (by omega)), (fun v1 o0 k_o0 r_o0 i_v1 f_o0_2 x_0 x_1 x_2 x_3 hm => by exact absurd (show 0 + (30 - v1.toInt) * 64 < (0 : Int) from hm) (by omega)), (fun v1 v2 o0 k_o0 r_o0 i_v1 i_v2 f_o0_2 f_o0_6 x_0 x_1 x_2 hm => by exact absurd (show 0 + (30 - v1.toInt - 1) * 64 + 1 + (30 - v2.toInt) * 2 < (0 : Int) from hm) (by omega))⟩
  | succ n ih => exact ⟨(fun v1 o0 k_o0 r_o0 i_v1 f_o0_2 x_0 x_1 hm => tNl_findReached_2 ih v1 o0 k_o0 r_o0 i_v1 f_o0_2 x_0 x_1 (by omega)), (fun v1 v2 o0 k_o0 r_o0 i_v1 i_v2 f_o0_2 f_o0_6 x_0 x_1 x_2 x_3 hm => tNl_findReached_22 ih v1 v2 o0 k_o0 r_o0 i_v1 i_v2 f_o0_2 f_o0_6 x_0 x_1 x_2 x_3 (by omega)), (fun v1 o0 k_o0 r_o0 i_v1 f_o0_2 x_0 x_1 x_2 x_3 hm => tNl_findReached_82 ih v1 o0 k_o0 r_o0 i_v1 f_o0_2 x_0 x_1 x_2 x_3 (by omega)), (fun v1 v2 o0 k_o0 r_o0 i_v1 i_v2 f_o0_2 f_o0_6 x_0 x_1 x_2 hm => tNl_findReached_92 ih v1 v2 o0 k_o0 r_o0 i_v1 i_v2 f_o0_2 f_o0_6 x_0 x_1 x_2 (by omega))⟩
set_option maxHeartbeats 4000000 in
set_option maxRecDepth 100000 in
theorem sNl_findReached (o0 : cf_O) (k_o0 : okO I_Nl o0) (f_o0_2 : ((-1) : Int) ≤ (o0.1 2).toInt ∧ (o0.1 2).toInt ≤ (-1)) : tt (fNl_findReached o0) (QNl_findReached o0) := by
  have H := hNl_findReached o0 cfFU
  have hm : (12785 : Int) ≤ (cfFU : Nat) := by decide
  have r_o0 : Fr (fr_M [] [15] []) o0 o0 := fr_rfl
  unfold fNl_findReached fNl_findReached_0
  have g_o0_6 : (0 : Int) ≤ (o0.1 6).toInt ∧ (o0.1 6).toInt ≤ 30 := k_o0.1 6
  have p1 : Rea 0 (o0.2.1 8) (o0.2.1 13) (o0.2.1 15) := by exact Rea_0
  exact H.1 _ _ k_o0 r_o0 (iv_w (a := 0) (b := 30) (by decide) (by decide) (show (0 : Int) ≤ (0 : Int32).toInt ∧ (0 : Int32).toInt ≤ 0 by decide)) f_o0_2 p1 (show 0 ≤ (o0.1 6).toInt by omega) (show 1922 + (30 - 0) * 362 < ((cfFU : Nat) : Int) by omega)
def QNl_lineOfRing (o0 : cf_O) (r : (Int32 × cf_O)) : Prop := (((-1) : Int) ≤ r.1.toInt ∧ r.1.toInt ≤ 2147483647) ∧ (okO I_Nl r.2) ∧ (Fr (fr_M [] [15] []) o0 r.2) ∧ (Lor r.1.toInt (r.2.1 6).toInt (r.2.2.1 8) (r.2.2.1 13) (r.2.2.1 15)) ∧ True
def HNl_lineOfRing (yo0 : cf_O) (n : Nat) : Prop := (∀ (v1 : Int32) (o0 : cf_O), (okO I_Nl o0) → (Fr (fr_M [] [15] []) yo0 o0) → ((0 : Int) ≤ v1.toInt ∧ v1.toInt ≤ 30) → (((-1) : Int) ≤ (o0.1 2).toInt ∧ (o0.1 2).toInt ≤ (-1)) → (Trc (o0.1 6).toInt (o0.1 6).toInt (o0.2.1 15)) → (Rea (o0.1 6).toInt (o0.2.1 8) (o0.2.1 13) (o0.2.1 15)) → (Nrg v1.toInt (o0.2.1 15)) → (v1.toInt ≤ (o0.1 6).toInt) → 0 + (30 - v1.toInt) * 2 < (n : Int) → tt (gNl_lineOfRing n 0 v1 o0) (QNl_lineOfRing yo0))
set_option maxHeartbeats 4000000 in
set_option maxRecDepth 100000 in
theorem tNl_lineOfRing_6 {yo0 : cf_O} {n : Nat} (H : HNl_lineOfRing yo0 n) (v1 : Int32) (o0 : cf_O) (k_o0 : okO I_Nl o0) (r_o0 : Fr (fr_M [] [15] []) yo0 o0) (i_v1 : (0 : Int) ≤ v1.toInt ∧ v1.toInt ≤ 30) (f_o0_2 : ((-1) : Int) ≤ (o0.1 2).toInt ∧ (o0.1 2).toInt ≤ (-1)) (x_0 : Trc (o0.1 6).toInt (o0.1 6).toInt (o0.2.1 15)) (x_1 : Rea (o0.1 6).toInt (o0.2.1 8) (o0.2.1 13) (o0.2.1 15)) (x_2 : Nrg v1.toInt (o0.2.1 15)) (x_3 : v1.toInt ≤ (o0.1 6).toInt) (hm : 0 + (30 - v1.toInt) * 2 ≤ (n : Int)) : tt (fNl_lineOfRing_6 (gNl_lineOfRing n) v1 o0) (QNl_lineOfRing yo0) := by
  unfold fNl_lineOfRing_6
  have g_o0_6 : (0 : Int) ≤ (o0.1 6).toInt ∧ (o0.1 6).toInt ≤ 30 := k_o0.1 6
  have ey_o0_6 : (o0.1 6).toInt = (yo0.1 6).toInt := congrArg Int32.toInt (r_o0.1 6 rfl)
  refine tt_if (fun c1 => ?_) (fun c1 => ?_)
  · have wc1 : (o0.1 6).toInt ≤ v1.toInt := c_le c1
    have p2 : Lor (-1) (o0.1 6).toInt (o0.2.1 8) (o0.2.1 13) (o0.2.1 15) := by first | exact Or.inl (by omega) | exact Or.inr ⟨x_0, x_1, (show (o0.1 6).toInt = v1.toInt by omega) ▸ x_2⟩
    exact tt_some ⟨(iv_w (a := (-1)) (b := 2147483647) (by decide) (by decide) (show ((-1) : Int) ≤ ((-1) : Int32).toInt ∧ ((-1) : Int32).toInt ≤ (-1) by decide)), k_o0, r_o0, p2, trivial⟩
  · have wc1 : v1.toInt < (o0.1 6).toInt := c_nle c1
    have i3 : (0 : Int) ≤ v1.toInt ∧ v1.toInt ≤ 29 := nr_nlel c1 i_v1 (k_o0.1 6) (by decide) (by decide)
    have i4 : (1 : Int) ≤ (o0.1 6).toInt ∧ (o0.1 6).toInt ≤ 30 := nr_nler c1 i_v1 (k_o0.1 6) (by decide) (by decide)
    refine tt_n (ix_ok i3 (by decide) (by decide)) ?_
    refine tt_kv (P := fun z => ((0 : Int) ≤ z.toInt ∧ z.toInt ≤ 1073741823) ∧ z = (o0.2.1 15 v1.toNatClampNeg) ∧ z.toInt = (o0.2.1 15 v1.toNatClampNeg).toInt) ⟨(k_o0.2 15 _), rfl, rfl⟩ (fun x5 qi6 => ?_)
    obtain ⟨i6, ax5, ei6⟩ := qi6
    refine tt_kv (P := fun z => ((0 : Int) ≤ z.toInt ∧ z.toInt ≤ 1073741823) ∧ z = (x5 >>> (v1 &&& 31))) ⟨iv_shr (p := 0) (q := 29) i6 i3 (by decide) (by decide) (by decide) (by decide), rfl⟩ (fun x7 qi8 => ?_)
    obtain ⟨i8, ax7⟩ := qi8
    refine tt_kv (P := fun z => ((0 : Int) ≤ z.toInt ∧ z.toInt ≤ 1) ∧ z = (x7 &&& 1) ∧ z.toInt = x7.toInt % 2) ⟨iv_and (show (1 : Int) ≤ (1 : Int32).toInt ∧ (1 : Int32).toInt ≤ 1 by decide) (by decide) (by decide) (by decide), rfl, i_a1 (Int.le_trans (by decide) i8.1)⟩ (fun x9 qi10 => ?_)
    obtain ⟨i10, ax9, ei10⟩ := qi10
    refine tt_if (fun c11 => ?_) (fun c11 => ?_)
    · have wc11 : x9.toInt = (0 : Int) := c_eq c11
      have i12 : (0 : Int) ≤ x9.toInt ∧ x9.toInt ≤ 0 := nr_eql c11 i10 (show (0 : Int) ≤ (0 : Int32).toInt ∧ (0 : Int32).toInt ≤ 0 by decide) (by decide) (by decide)
      refine tt_kv (P := fun z => ((1 : Int) ≤ z.toInt ∧ z.toInt ≤ 30) ∧ z = (v1 + 1) ∧ z.toInt = v1.toInt + 1) ⟨iv_add i3 (show (1 : Int) ≤ (1 : Int32).toInt ∧ (1 : Int32).toInt ≤ 1 by decide) (by decide) (by decide) (by decide) (by decide), rfl, iq_add i3 (show (1 : Int) ≤ (1 : Int32).toInt ∧ (1 : Int32).toInt ≤ 1 by decide) (by decide) (by decide)⟩ (fun x13 qi14 => ?_)
      obtain ⟨i14, ax13, ei14⟩ := qi14
      have p15 : Nrg x13.toInt (o0.2.1 15) := by exact Nrg_s (i := v1.toNatClampNeg) x_2 (by assumption) (by rw [tn_n]; omega) ((bt_t (v := v1) (show _ = _ &&& 1 by assumption) (by assumption) (by omega) (by omega) (by omega)).resolve_right (fun h => h.1 (by omega))).2 (by omega)
      exact H _ _ k_o0 r_o0 (iv_w (a := 0) (b := 30) (by decide) (by decide) i14) f_o0_2 x_0 x_1 p15 (show x13.toInt ≤ (o0.1 6).toInt by omega) (show 0 + (30 - x13.toInt) * 2 < (n : Int) by omega)
    · have wc11 : ¬ x9.toInt = (0 : Int) := c_ne c11
      have i16 : (1 : Int) ≤ x9.toInt ∧ x9.toInt ≤ 1 := nr_nela c11 i10 (show (0 : Int) ≤ (0 : Int32).toInt ∧ (0 : Int32).toInt ≤ 0 by decide) (by decide) (by decide)
      refine tt_n (ix_ok i3 (by decide) (by decide)) ?_
      refine tt_kv (P := fun z => ((0 : Int) ≤ z.toInt ∧ z.toInt ≤ 2147483647) ∧ z = (o0.2.1 9 v1.toNatClampNeg) ∧ z.toInt = (o0.2.1 9 v1.toNatClampNeg).toInt) ⟨(k_o0.2 9 _), rfl, rfl⟩ (fun x17 qi18 => ?_)
      obtain ⟨i18, ax17, ei18⟩ := qi18
      have p19 : Lor x17.toInt (o0.1 6).toInt (o0.2.1 8) (o0.2.1 13) (o0.2.1 15) := by first | exact Or.inl (by omega) | exact Or.inr ⟨x_0, x_1, (show (o0.1 6).toInt = v1.toInt by omega) ▸ x_2⟩
      exact tt_some ⟨(iv_w (a := (-1)) (b := 2147483647) (by decide) (by decide) i18), k_o0, r_o0, p19, trivial⟩
set_option maxHeartbeats 4000000 in
set_option maxRecDepth 100000 in
theorem hNl_lineOfRing (yo0 : cf_O) : ∀ n, HNl_lineOfRing yo0 n := by
  intro n
  induction n with
  | zero => exact (fun v1 o0 k_o0 r_o0 i_v1 f_o0_2 x_0 x_1 x_2 x_3 hm => by exact absurd (show 0 + (30 - v1.toInt) * 2 < (0 : Int) from hm) (by omega))
  | succ n ih => exact (fun v1 o0 k_o0 r_o0 i_v1 f_o0_2 x_0 x_1 x_2 x_3 hm => tNl_lineOfRing_6 ih v1 o0 k_o0 r_o0 i_v1 f_o0_2 x_0 x_1 x_2 x_3 (by omega))
set_option maxHeartbeats 4000000 in
set_option maxRecDepth 100000 in
theorem sNl_lineOfRing (o0 : cf_O) (k_o0 : okO I_Nl o0) (f_o0_2 : ((-1) : Int) ≤ (o0.1 2).toInt ∧ (o0.1 2).toInt ≤ (-1)) : tt (fNl_lineOfRing o0) (QNl_lineOfRing o0) := by
  have H := hNl_lineOfRing o0 cfFU
  have hm : (63 : Int) ≤ (cfFU : Nat) := by decide
  have r_o0 : Fr (fr_M [] [15] []) o0 o0 := fr_rfl
  unfold fNl_lineOfRing fNl_lineOfRing_0
  have g_o0_6 : (0 : Int) ≤ (o0.1 6).toInt ∧ (o0.1 6).toInt ≤ 30 := k_o0.1 6
  refine tt_b (sNl_findReached _ k_o0 f_o0_2) (fun q1 hq1 => ?_)
  obtain ⟨k_q1, n_q1, zq1_0, zq1_1, -⟩ := hq1
  have r_q1 := fr_tr r_o0 n_q1 rfl rfl rfl
  have f_q1_2 : ((-1) : Int) ≤ (q1.1 2).toInt ∧ (q1.1 2).toInt ≤ (-1) := by rw [n_q1.1 2 rfl]; exact f_o0_2
  have e_q1_6 : (q1.1 6).toInt = (o0.1 6).toInt := congrArg Int32.toInt (n_q1.1 6 rfl)
  have g_q1_6 : (0 : Int) ≤ (q1.1 6).toInt ∧ (q1.1 6).toInt ≤ 30 := k_q1.1 6
  have p2 : Nrg 0 (q1.2.1 15) := by exact Nrg_0
  exact H _ _ k_q1 r_q1 (iv_w (a := 0) (b := 30) (by decide) (by decide) (show (0 : Int) ≤ (0 : Int32).toInt ∧ (0 : Int32).toInt ≤ 0 by decide)) f_q1_2 zq1_0 zq1_1 p2 (show 0 ≤ (q1.1 6).toInt by omega) (show 0 + (30 - 0) * 2 < ((cfFU : Nat) : Int) by omega)
def QNl_scan (o0 : cf_O) (o1 : cf_O) (r : (Int32 × cf_O × cf_O)) : Prop := ((0 : Int) ≤ r.1.toInt ∧ r.1.toInt ≤ 4) ∧ (okO I_Nl r.2.1) ∧ (Fr (fr_M [0, 1, 2, 5, 6] [8, 9, 10, 11, 12, 13, 14, 15] [3, 4, 7]) o0 r.2.1) ∧ (((-1) : Int) ≤ (r.2.1.1 2).toInt ∧ (r.2.1.1 2).toInt ≤ 2147483647) ∧ (okO I_Tx r.2.2) ∧ (Fr (fr_M [4, 5, 6] [1, 2] []) o1 r.2.2) ∧ (Rwo (r.2.1.2.1 12)) ∧ (Nks r.1.toInt (r.2.1.1 1).toInt (r.2.1.1 0).toInt (r.2.1.1 6).toInt (r.2.1.2.1 8) (r.2.1.2.1 13) (r.2.1.2.1 14)) ∧ True
set_option maxHeartbeats 4000000 in
set_option maxRecDepth 100000 in
theorem sNl_scan (o0 : cf_O) (o1 : cf_O) (k_o0 : okO I_Nl o0) (k_o1 : okO I_Tx o1) (x_0 : Rwo (o0.2.1 12)) : tt (fNl_scan o0 o1) (QNl_scan o0 o1) := by
  have r_o0 : Fr (fr_M [0, 1, 2, 5, 6] [8, 9, 10, 11, 12, 13, 14, 15] [3, 4, 7]) o0 o0 := fr_rfl
  have r_o1 : Fr (fr_M [4, 5, 6] [1, 2] []) o1 o1 := fr_rfl
  unfold fNl_scan fNl_scan_0
  have g_o0_0 : (0 : Int) ≤ (o0.1 0).toInt ∧ (o0.1 0).toInt ≤ 8 := k_o0.1 0
  have g_o0_1 : (0 : Int) ≤ (o0.1 1).toInt ∧ (o0.1 1).toInt ≤ 6 := k_o0.1 1
  have g_o0_2 : ((-2147483648) : Int) ≤ (o0.1 2).toInt ∧ (o0.1 2).toInt ≤ 2147483647 := k_o0.1 2
  have g_o0_6 : (0 : Int) ≤ (o0.1 6).toInt ∧ (o0.1 6).toInt ≤ 30 := k_o0.1 6
  have g_o1_0 : (0 : Int) ≤ (o1.1 0).toInt ∧ (o1.1 0).toInt ≤ 0 := k_o1.1 0
  have g_o1_1 : (0 : Int) ≤ (o1.1 1).toInt ∧ (o1.1 1).toInt ≤ 0 := k_o1.1 1
  have g_o1_2 : (0 : Int) ≤ (o1.1 2).toInt ∧ (o1.1 2).toInt ≤ 0 := k_o1.1 2
  have g_o1_6 : (0 : Int) ≤ (o1.1 6).toInt ∧ (o1.1 6).toInt ≤ 1601 := k_o1.1 6
  refine tt_b (sNl_scanLines _ _ k_o0 k_o1 x_0) (fun q1 hq1 => ?_)
  obtain ⟨i_q1, k_q1_2_1, n_q1_2_1, k_q1_2_2, n_q1_2_2, zq1_0, -⟩ := hq1
  have r_q1_2_1 := fr_tr r_o0 n_q1_2_1 rfl rfl rfl
  have g_q1_2_1_0 : (0 : Int) ≤ (q1.2.1.1 0).toInt ∧ (q1.2.1.1 0).toInt ≤ 8 := k_q1_2_1.1 0
  have g_q1_2_1_1 : (0 : Int) ≤ (q1.2.1.1 1).toInt ∧ (q1.2.1.1 1).toInt ≤ 6 := k_q1_2_1.1 1
  have e_q1_2_1_2 : (q1.2.1.1 2).toInt = (o0.1 2).toInt := congrArg Int32.toInt (n_q1_2_1.1 2 rfl)
  have g_q1_2_1_2 : ((-2147483648) : Int) ≤ (q1.2.1.1 2).toInt ∧ (q1.2.1.1 2).toInt ≤ 2147483647 := k_q1_2_1.1 2
  have g_q1_2_1_6 : (0 : Int) ≤ (q1.2.1.1 6).toInt ∧ (q1.2.1.1 6).toInt ≤ 30 := k_q1_2_1.1 6
  have r_q1_2_2 := fr_tr r_o1 n_q1_2_2 rfl rfl rfl
  have e_q1_2_2_0 : (q1.2.2.1 0).toInt = (o1.1 0).toInt := congrArg Int32.toInt (n_q1_2_2.1 0 rfl)
  have g_q1_2_2_0 : (0 : Int) ≤ (q1.2.2.1 0).toInt ∧ (q1.2.2.1 0).toInt ≤ 0 := k_q1_2_2.1 0
  have e_q1_2_2_1 : (q1.2.2.1 1).toInt = (o1.1 1).toInt := congrArg Int32.toInt (n_q1_2_2.1 1 rfl)
  have g_q1_2_2_1 : (0 : Int) ≤ (q1.2.2.1 1).toInt ∧ (q1.2.2.1 1).toInt ≤ 0 := k_q1_2_2.1 1
  have e_q1_2_2_2 : (q1.2.2.1 2).toInt = (o1.1 2).toInt := congrArg Int32.toInt (n_q1_2_2.1 2 rfl)
  have g_q1_2_2_2 : (0 : Int) ≤ (q1.2.2.1 2).toInt ∧ (q1.2.2.1 2).toInt ≤ 0 := k_q1_2_2.1 2
  have g_q1_2_2_6 : (0 : Int) ≤ (q1.2.2.1 6).toInt ∧ (q1.2.2.1 6).toInt ≤ 1601 := k_q1_2_2.1 6
  refine tt_if (fun c2 => ?_) (fun c2 => ?_)
  · have wc2 : q1.1.toInt = (0 : Int) := c_eq c2
    have i3 : (0 : Int) ≤ q1.1.toInt ∧ q1.1.toInt ≤ 0 := nr_eql c2 i_q1 (show (0 : Int) ≤ (0 : Int32).toInt ∧ (0 : Int32).toInt ≤ 0 by decide) (by decide) (by decide)
    refine tt_b (sNl_lineWithoutSource _ k_q1_2_1) (fun q4 hq4 => ?_)
    obtain ⟨i_q4, k_q4_2, n_q4_2, zq4_0, -⟩ := hq4
    have r_q4_2 := fr_tr r_q1_2_1 n_q4_2 rfl rfl rfl
    have e_q4_2_0 : (q4.2.1 0).toInt = (q1.2.1.1 0).toInt := congrArg Int32.toInt (n_q4_2.1 0 rfl)
    have g_q4_2_0 : (0 : Int) ≤ (q4.2.1 0).toInt ∧ (q4.2.1 0).toInt ≤ 8 := k_q4_2.1 0
    have e_q4_2_1 : (q4.2.1 1).toInt = (q1.2.1.1 1).toInt := congrArg Int32.toInt (n_q4_2.1 1 rfl)
    have g_q4_2_1 : (0 : Int) ≤ (q4.2.1 1).toInt ∧ (q4.2.1 1).toInt ≤ 6 := k_q4_2.1 1
    have e_q4_2_2 : (q4.2.1 2).toInt = (q1.2.1.1 2).toInt := congrArg Int32.toInt (n_q4_2.1 2 rfl)
    have g_q4_2_2 : ((-2147483648) : Int) ≤ (q4.2.1 2).toInt ∧ (q4.2.1 2).toInt ≤ 2147483647 := k_q4_2.1 2
    have e_q4_2_6 : (q4.2.1 6).toInt = (q1.2.1.1 6).toInt := congrArg Int32.toInt (n_q4_2.1 6 rfl)
    have g_q4_2_6 : (0 : Int) ≤ (q4.2.1 6).toInt ∧ (q4.2.1 6).toInt ≤ 30 := k_q4_2.1 6
    have u5 : Rwo (q4.2.2.1 12) := by rw [n_q4_2.2.1 12 rfl]; exact zq1_0
    refine tt_ko ?_
    have k6 := ok_fp (k := 2) (v := q4.1) k_q4_2 (iv_w (a := (-2147483648)) (b := 2147483647) (by decide) (by decide) i_q4)
    have r7 := fr_fp (k := 2) (v := q4.1) r_q4_2 rfl
    refine tt_if (fun c8 => ?_) (fun c8 => ?_)
    · have wc8 : q4.1.toInt = ((-1) : Int) := c_eq c8
      have i9 : ((-1) : Int) ≤ q4.1.toInt ∧ q4.1.toInt ≤ (-1) := nr_eql c8 i_q4 (show ((-1) : Int) ≤ ((-1) : Int32).toInt ∧ ((-1) : Int32).toInt ≤ (-1) by decide) (by decide) (by decide)
      refine tt_b (sNl_lineOfRing _ k6 i9) (fun q10 hq10 => ?_)
      obtain ⟨i_q10, k_q10_2, n_q10_2, zq10_0, -⟩ := hq10
      have r_q10_2 := fr_tr r7 n_q10_2 rfl rfl rfl
      have f_q10_2_2 : ((-1) : Int) ≤ (q10.2.1 2).toInt ∧ (q10.2.1 2).toInt ≤ (-1) := by rw [n_q10_2.1 2 rfl]; exact i9
      have e_q10_2_0 : (q10.2.1 0).toInt = (q4.2.1 0).toInt := congrArg Int32.toInt (n_q10_2.1 0 rfl)
      have g_q10_2_0 : (0 : Int) ≤ (q10.2.1 0).toInt ∧ (q10.2.1 0).toInt ≤ 8 := k_q10_2.1 0
      have e_q10_2_1 : (q10.2.1 1).toInt = (q4.2.1 1).toInt := congrArg Int32.toInt (n_q10_2.1 1 rfl)
      have g_q10_2_1 : (0 : Int) ≤ (q10.2.1 1).toInt ∧ (q10.2.1 1).toInt ≤ 6 := k_q10_2.1 1
      have e_q10_2_2 : (q10.2.1 2).toInt = q4.1.toInt := congrArg Int32.toInt (n_q10_2.1 2 rfl)
      have e_q10_2_6 : (q10.2.1 6).toInt = (q4.2.1 6).toInt := congrArg Int32.toInt (n_q10_2.1 6 rfl)
      have g_q10_2_6 : (0 : Int) ≤ (q10.2.1 6).toInt ∧ (q10.2.1 6).toInt ≤ 30 := k_q10_2.1 6
      have zq10_0 : Lor q10.1.toInt (q10.2.1 6).toInt (q10.2.2.1 8) (q10.2.2.1 13) (q10.2.2.1 15) := zq10_0
      have u11 : Lws q4.1.toInt (q10.2.1 1).toInt (q10.2.1 6).toInt (q10.2.1 0).toInt (q10.2.2.1 8) (q10.2.2.1 13) (q10.2.2.1 14) := by rw [n_q10_2.1 0 rfl, n_q10_2.1 1 rfl, n_q10_2.1 6 rfl, n_q10_2.2.1 8 rfl, n_q10_2.2.1 13 rfl, n_q10_2.2.1 14 rfl]; exact zq4_0
      have u12 : Rwo (q10.2.2.1 12) := by rw [n_q10_2.2.1 12 rfl]; exact u5
      refine tt_ko ?_
      have k13 := ok_fp (k := 2) (v := q10.1) k_q10_2 (iv_w (a := (-2147483648)) (b := 2147483647) (by decide) (by decide) i_q10)
      have r14 := fr_fp (k := 2) (v := q10.1) r_q10_2 rfl
      refine tt_if (fun c15 => ?_) (fun c15 => ?_)
      · have wc15 : q10.1.toInt = ((-1) : Int) := c_eq c15
        have i16 : ((-1) : Int) ≤ q10.1.toInt ∧ q10.1.toInt ≤ (-1) := nr_eql c15 i_q10 (show ((-1) : Int) ≤ ((-1) : Int32).toInt ∧ ((-1) : Int32).toInt ≤ (-1) by decide) (by decide) (by decide)
        try unfold fNl_scan_59
        have p17 : Nks 0 (q10.2.1 1).toInt (q10.2.1 0).toInt (q10.2.1 6).toInt (q10.2.2.1 8) (q10.2.2.1 13) (q10.2.2.1 14) := by first | exact Or.inl (by decide) | exact Or.inl (by omega) | (have lo := zq10_0.resolve_left (fun h => h (by omega)); have lw := u11.resolve_left (fun h => h (by omega)); exact Or.inr (Nok_i lw.1 lw.2 lo.1 lo.2.1 lo.2.2 (by omega)))
        exact tt_some ⟨(iv_w (a := 0) (b := 4) (by decide) (by decide) (show (0 : Int) ≤ (0 : Int32).toInt ∧ (0 : Int32).toInt ≤ 0 by decide)), k13, r14, (iv_w (a := (-1)) (b := 2147483647) (by decide) (by decide) i16), k_q1_2_2, r_q1_2_2, u12, p17, trivial⟩
      · have wc15 : ¬ q10.1.toInt = ((-1) : Int) := c_ne c15
        have i18 : (0 : Int) ≤ q10.1.toInt ∧ q10.1.toInt ≤ 2147483647 := nr_nela c15 i_q10 (show ((-1) : Int) ≤ ((-1) : Int32).toInt ∧ ((-1) : Int32).toInt ≤ (-1) by decide) (by decide) (by decide)
        try unfold fNl_scan_59
        have p19 : Nks 4 (q10.2.1 1).toInt (q10.2.1 0).toInt (q10.2.1 6).toInt (q10.2.2.1 8) (q10.2.2.1 13) (q10.2.2.1 14) := by first | exact Or.inl (by decide) | exact Or.inl (by omega) | (have lo := zq10_0.resolve_left (fun h => h (by omega)); have lw := u11.resolve_left (fun h => h (by omega)); exact Or.inr (Nok_i lw.1 lw.2 lo.1 lo.2.1 lo.2.2 (by omega)))
        exact tt_some ⟨(iv_w (a := 0) (b := 4) (by decide) (by decide) (show (4 : Int) ≤ (4 : Int32).toInt ∧ (4 : Int32).toInt ≤ 4 by decide)), k13, r14, (iv_w (a := (-1)) (b := 2147483647) (by decide) (by decide) i18), k_q1_2_2, r_q1_2_2, u12, p19, trivial⟩
    · have wc8 : ¬ q4.1.toInt = ((-1) : Int) := c_ne c8
      have i20 : (0 : Int) ≤ q4.1.toInt ∧ q4.1.toInt ≤ 2147483647 := nr_nela c8 i_q4 (show ((-1) : Int) ≤ ((-1) : Int32).toInt ∧ ((-1) : Int32).toInt ≤ (-1) by decide) (by decide) (by decide)
      have p21 : Nks 3 (q4.2.1 1).toInt (q4.2.1 0).toInt (q4.2.1 6).toInt (q4.2.2.1 8) (q4.2.2.1 13) (q4.2.2.1 14) := by first | exact Or.inl (by decide) | exact Or.inl (by omega)
      exact tt_some ⟨(iv_w (a := 0) (b := 4) (by decide) (by decide) (show (3 : Int) ≤ (3 : Int32).toInt ∧ (3 : Int32).toInt ≤ 3 by decide)), k6, r7, (iv_w (a := (-1)) (b := 2147483647) (by decide) (by decide) i20), k_q1_2_2, r_q1_2_2, u5, p21, trivial⟩
  · have wc2 : ¬ q1.1.toInt = (0 : Int) := c_ne c2
    have i22 : (1 : Int) ≤ q1.1.toInt ∧ q1.1.toInt ≤ 2 := nr_nela c2 i_q1 (show (0 : Int) ≤ (0 : Int32).toInt ∧ (0 : Int32).toInt ≤ 0 by decide) (by decide) (by decide)
    refine tt_ko ?_
    have k23 := ok_fp (k := 2) (v := (q1.2.2.1 4)) k_q1_2_1 (iv_w (a := (-2147483648)) (b := 2147483647) (by decide) (by decide) (k_q1_2_2.1 4))
    have r24 := fr_fp (k := 2) (v := (q1.2.2.1 4)) r_q1_2_1 rfl
    have p25 : Nks q1.1.toInt (q1.2.1.1 1).toInt (q1.2.1.1 0).toInt (q1.2.1.1 6).toInt (q1.2.1.2.1 8) (q1.2.1.2.1 13) (q1.2.1.2.1 14) := by first | exact Or.inl (by decide) | exact Or.inl (by omega)
    exact tt_some ⟨(iv_w (a := 0) (b := 4) (by decide) (by decide) i22), k23, r24, (iv_w (a := (-1)) (b := 2147483647) (by decide) (by decide) (k_q1_2_2.1 4)), k_q1_2_2, r_q1_2_2, zq1_0, p25, trivial⟩
