def QJArrays_fill_AII_Nl16 (v1 : Int32) (o0 : cf_O) (r : (cf_O)) : Prop := (okO I_Nl r) ∧ (Fr (fr_M [] [16] []) o0 r) ∧ (Fmo 30 (r.2.1 16)) ∧ True
def HJArrays_fill_AII_Nl16 (yv1 : Int32) (yo0 : cf_O) (n : Nat) : Prop := (∀ (v1 : Int32) (v2 : Int32) (v3 : Int32) (o0 : cf_O), (okO I_Nl o0) → (Fr (fr_M [] [16] []) yo0 o0) → (((-1) : Int) ≤ v1.toInt ∧ v1.toInt ≤ (-1)) → ((0 : Int) ≤ v2.toInt ∧ v2.toInt ≤ 30) → ((30 : Int) ≤ v3.toInt ∧ v3.toInt ≤ 30) → (((-1) : Int) ≤ (o0.1 2).toInt ∧ (o0.1 2).toInt ≤ 2147483647) → (Fmo v2.toInt (o0.2.1 16)) → 0 + (30 - v2.toInt) * 2 < (n : Int) → tt (gJArrays_fill_AII_Nl16 n 0 v1 v2 v3 o0) (QJArrays_fill_AII_Nl16 yv1 yo0))
set_option maxHeartbeats 4000000 in
set_option maxRecDepth 100000 in
theorem tJArrays_fill_AII_Nl16_5 {yv1 : Int32} {yo0 : cf_O} {n : Nat} (H : HJArrays_fill_AII_Nl16 yv1 yo0 n) (v1 : Int32) (v2 : Int32) (v3 : Int32) (o0 : cf_O) (k_o0 : okO I_Nl o0) (r_o0 : Fr (fr_M [] [16] []) yo0 o0) (i_v1 : ((-1) : Int) ≤ v1.toInt ∧ v1.toInt ≤ (-1)) (i_v2 : (0 : Int) ≤ v2.toInt ∧ v2.toInt ≤ 30) (i_v3 : (30 : Int) ≤ v3.toInt ∧ v3.toInt ≤ 30) (f_o0_2 : ((-1) : Int) ≤ (o0.1 2).toInt ∧ (o0.1 2).toInt ≤ 2147483647) (x_0 : Fmo v2.toInt (o0.2.1 16)) (hm : 0 + (30 - v2.toInt) * 2 ≤ (n : Int)) : tt (fJArrays_fill_AII_Nl16_5 (gJArrays_fill_AII_Nl16 n) v1 v2 v3 o0) (QJArrays_fill_AII_Nl16 yv1 yo0) := by
  unfold fJArrays_fill_AII_Nl16_5
  refine tt_if (fun c1 => ?_) (fun c1 => ?_)
  · have wc1 : v3.toInt ≤ v2.toInt := c_le c1
    have i2 : (30 : Int) ≤ v2.toInt ∧ v2.toInt ≤ 30 := nr_ler c1 i_v3 i_v2 (by decide) (by decide)
    have p3 : Fmo 30 (o0.2.1 16) := by exact Fmo_e x_0 (by omega)
    exact tt_some ⟨k_o0, r_o0, p3, trivial⟩
  · have wc1 : v2.toInt < v3.toInt := c_nle c1
    have i4 : (0 : Int) ≤ v2.toInt ∧ v2.toInt ≤ 29 := nr_nlel c1 i_v2 i_v3 (by decide) (by decide)
    refine tt_n (ix_ok i4 (by decide) (by decide)) ?_
    refine tt_ko ?_
    have k5 := ok_xp (k := 16) (i := v2.toNatClampNeg) (v := v1) k_o0 (iv_w (a := (-1)) (b := 417) (by decide) (by decide) i_v1)
    have r6 := fr_xp (k := 16) (i := v2.toNatClampNeg) (v := v1) r_o0 rfl
    refine tt_kv (P := fun z => ((1 : Int) ≤ z.toInt ∧ z.toInt ≤ 30) ∧ z.toInt = v2.toInt + 1) ⟨iv_add i4 (show (1 : Int) ≤ (1 : Int32).toInt ∧ (1 : Int32).toInt ≤ 1 by decide) (by decide) (by decide) (by decide) (by decide), iq_add i4 (show (1 : Int) ≤ (1 : Int32).toInt ∧ (1 : Int32).toInt ≤ 1 by decide) (by decide) (by decide)⟩ (fun x7 qi8 => ?_)
    obtain ⟨i8, ei8⟩ := qi8
    have p9 : Fmo x7.toInt (upd (o0.2.1 16) (v2.toNatClampNeg) v1) := by exact Fmo_s x_0 (by omega) (by rw [tn_n]; omega) (by omega)
    exact H _ _ _ _ k5 r6 i_v1 (iv_w (a := 0) (b := 30) (by decide) (by decide) i8) i_v3 f_o0_2 p9 (show 0 + (30 - x7.toInt) * 2 < (n : Int) by omega)
set_option maxHeartbeats 4000000 in
set_option maxRecDepth 100000 in
theorem hJArrays_fill_AII_Nl16 (yv1 : Int32) (yo0 : cf_O) : ∀ n, HJArrays_fill_AII_Nl16 yv1 yo0 n := by
  intro n
  induction n with
  | zero => exact (fun v1 v2 v3 o0 k_o0 r_o0 i_v1 i_v2 i_v3 f_o0_2 x_0 hm => by exact absurd (show 0 + (30 - v2.toInt) * 2 < (0 : Int) from hm) (by omega))
  | succ n ih => exact (fun v1 v2 v3 o0 k_o0 r_o0 i_v1 i_v2 i_v3 f_o0_2 x_0 hm => tJArrays_fill_AII_Nl16_5 ih v1 v2 v3 o0 k_o0 r_o0 i_v1 i_v2 i_v3 f_o0_2 x_0 (by omega))
set_option maxHeartbeats 4000000 in
set_option maxRecDepth 100000 in
theorem sJArrays_fill_AII_Nl16 (v1 : Int32) (o0 : cf_O) (k_o0 : okO I_Nl o0) (i_v1 : ((-1) : Int) ≤ v1.toInt ∧ v1.toInt ≤ (-1)) (f_o0_2 : ((-1) : Int) ≤ (o0.1 2).toInt ∧ (o0.1 2).toInt ≤ 2147483647) : tt (fJArrays_fill_AII_Nl16 v1 o0) (QJArrays_fill_AII_Nl16 v1 o0) := by
  have H := hJArrays_fill_AII_Nl16 v1 o0 cfFU
  have hm : (63 : Int) ≤ (cfFU : Nat) := by decide
  have r_o0 : Fr (fr_M [] [16] []) o0 o0 := fr_rfl
  unfold fJArrays_fill_AII_Nl16 fJArrays_fill_AII_Nl16_0
  have p1 : Fmo 0 (o0.2.1 16) := by exact Fmo_0 _
  exact H _ _ _ _ k_o0 r_o0 i_v1 (iv_w (a := 0) (b := 30) (by decide) (by decide) (show (0 : Int) ≤ (0 : Int32).toInt ∧ (0 : Int32).toInt ≤ 0 by decide)) (show (30 : Int) ≤ (30 : Int32).toInt ∧ (30 : Int32).toInt ≤ 30 by decide) f_o0_2 p1 (show 0 + (30 - 0) * 2 < ((cfFU : Nat) : Int) by omega)
def QNl_productOf (v1 : Int32) (v2 : Int32) (o0 : cf_O) (o1 : cf_O) (r : (Int32 × cf_O)) : Prop := ((0 : Int) ≤ r.1.toInt ∧ r.1.toInt ≤ 417) ∧ (okO I_Gr r.2) ∧ (Fr (fr_M [2, 3] [4, 5, 6, 8, 9] []) o1 r.2) ∧ (GI ((r.2.1 0).toInt + 1) (r.2.1 2).toInt (r.2.2.1 4) (r.2.2.1 5) (r.2.2.1 8) (r.2.2.1 9)) ∧ (r.1.toInt < 2 * (((r.2.1 0).toInt + 1) + (r.2.1 2).toInt)) ∧ (0 ≤ r.1.toInt) ∧ ((o1.1 2).toInt ≤ (r.2.1 2).toInt) ∧ ((r.2.1 0).toInt = (o1.1 0).toInt) ∧ True
def HNl_productOf (yv1 : Int32) (yv2 : Int32) (yo0 : cf_O) (yo1 : cf_O) (n : Nat) : Prop := (∀ (v1 : Int32) (v2 : Int32) (v4 : Int32) (v5 : Int32) (o0 : cf_O) (o1 : cf_O), (okO I_Nl o0) → (Fr (fr_M [] [] []) yo0 o0) → (okO I_Gr o1) → (Fr (fr_M [2, 3] [4, 5, 6, 8, 9] []) yo1 o1) → ((0 : Int) ≤ v1.toInt ∧ v1.toInt ≤ 29) → ((0 : Int) ≤ v4.toInt ∧ v4.toInt ≤ 417) → ((0 : Int) ≤ v5.toInt ∧ v5.toInt ≤ 5) → ((1 : Int) ≤ (o0.1 1).toInt ∧ (o0.1 1).toInt ≤ 6) → (((-1) : Int) ≤ (o0.1 2).toInt ∧ (o0.1 2).toInt ≤ 2147483647) → (GI ((o1.1 0).toInt + 1) (o1.1 2).toInt (o1.2.1 4) (o1.2.1 5) (o1.2.1 8) (o1.2.1 9)) → (Lto (((o1.1 0).toInt + 1) + (o1.1 2).toInt) (o0.2.1 16)) → (Srd v1.toInt (o0.1 0).toInt (o0.2.1 8) (o0.2.1 13) (o0.2.1 16)) → (Rok v2) → ((o1.1 0).toInt = (o0.1 0).toInt) → ((yo1.1 2).toInt ≤ (o1.1 2).toInt) → ((o1.1 0).toInt = (yo1.1 0).toInt) → (v4.toInt < 2 * (((o1.1 0).toInt + 1) + (o1.1 2).toInt)) → 0 + (5 - v5.toInt) * 2 < (n : Int) → tt (gNl_productOf n 0 v1 v2 v4 v5 o0 o1) (QNl_productOf yv1 yv2 yo0 yo1))
set_option maxHeartbeats 4000000 in
set_option maxRecDepth 100000 in
theorem tNl_productOf_6 {yv1 : Int32} {yv2 : Int32} {yo0 : cf_O} {yo1 : cf_O} {n : Nat} (H : HNl_productOf yv1 yv2 yo0 yo1 n) (v1 : Int32) (v2 : Int32) (v4 : Int32) (v5 : Int32) (o0 : cf_O) (o1 : cf_O) (k_o0 : okO I_Nl o0) (r_o0 : Fr (fr_M [] [] []) yo0 o0) (k_o1 : okO I_Gr o1) (r_o1 : Fr (fr_M [2, 3] [4, 5, 6, 8, 9] []) yo1 o1) (i_v1 : (0 : Int) ≤ v1.toInt ∧ v1.toInt ≤ 29) (i_v4 : (0 : Int) ≤ v4.toInt ∧ v4.toInt ≤ 417) (i_v5 : (0 : Int) ≤ v5.toInt ∧ v5.toInt ≤ 5) (f_o0_1 : (1 : Int) ≤ (o0.1 1).toInt ∧ (o0.1 1).toInt ≤ 6) (f_o0_2 : ((-1) : Int) ≤ (o0.1 2).toInt ∧ (o0.1 2).toInt ≤ 2147483647) (x_0 : GI ((o1.1 0).toInt + 1) (o1.1 2).toInt (o1.2.1 4) (o1.2.1 5) (o1.2.1 8) (o1.2.1 9)) (x_1 : Lto (((o1.1 0).toInt + 1) + (o1.1 2).toInt) (o0.2.1 16)) (x_2 : Srd v1.toInt (o0.1 0).toInt (o0.2.1 8) (o0.2.1 13) (o0.2.1 16)) (x_3 : Rok v2) (x_4 : (o1.1 0).toInt = (o0.1 0).toInt) (x_5 : (yo1.1 2).toInt ≤ (o1.1 2).toInt) (x_6 : (o1.1 0).toInt = (yo1.1 0).toInt) (x_7 : v4.toInt < 2 * (((o1.1 0).toInt + 1) + (o1.1 2).toInt)) (hm : 0 + (5 - v5.toInt) * 2 ≤ (n : Int)) : tt (fNl_productOf_6 (gNl_productOf n) v1 v2 v4 v5 o0 o1) (QNl_productOf yv1 yv2 yo0 yo1) := by
  unfold fNl_productOf_6
  have i_v2 := iv_top v2
  have g_o0_0 : (0 : Int) ≤ (o0.1 0).toInt ∧ (o0.1 0).toInt ≤ 8 := k_o0.1 0
  have ey_o0_0 : (o0.1 0).toInt = (yo0.1 0).toInt := congrArg Int32.toInt (r_o0.1 0 rfl)
  have ey_o0_2 : (o0.1 2).toInt = (yo0.1 2).toInt := congrArg Int32.toInt (r_o0.1 2 rfl)
  have g_o1_0 : (0 : Int) ≤ (o1.1 0).toInt ∧ (o1.1 0).toInt ≤ 8 := k_o1.1 0
  have ey_o1_0 : (o1.1 0).toInt = (yo1.1 0).toInt := congrArg Int32.toInt (r_o1.1 0 rfl)
  have g_o1_2 : (0 : Int) ≤ (o1.1 2).toInt ∧ (o1.1 2).toInt ≤ 200 := k_o1.1 2
  refine tt_n (ix_ok i_v1 (by decide) (by decide)) ?_
  refine tt_kv (P := fun z => ((0 : Int) ≤ z.toInt ∧ z.toInt ≤ 5) ∧ z = (o0.2.1 8 v1.toNatClampNeg) ∧ z.toInt = (o0.2.1 8 v1.toNatClampNeg).toInt) ⟨(k_o0.2 8 _), rfl, rfl⟩ (fun x1 qi2 => ?_)
  obtain ⟨i2, ax1, ei2⟩ := qi2
  refine tt_if (fun c3 => ?_) (fun c3 => ?_)
  · have wc3 : x1.toInt ≤ v5.toInt := c_le c3
    exact tt_some ⟨i_v4, k_o1, r_o1, x_0, (show v4.toInt < 2 * (((o1.1 0).toInt + 1) + (o1.1 2).toInt) by omega), (show 0 ≤ v4.toInt by omega), (show (yo1.1 2).toInt ≤ (o1.1 2).toInt by omega), (show (o1.1 0).toInt = (yo1.1 0).toInt by omega), trivial⟩
  · have wc3 : v5.toInt < x1.toInt := c_nle c3
    have i4 : (0 : Int) ≤ v5.toInt ∧ v5.toInt ≤ 4 := nr_nlel c3 i_v5 i2 (by decide) (by decide)
    have i5 : (1 : Int) ≤ x1.toInt ∧ x1.toInt ≤ 5 := nr_nler c3 i_v5 i2 (by decide) (by decide)
    refine tt_kv (P := fun z => ((0 : Int) ≤ z.toInt ∧ z.toInt ≤ 8) ∧ z = (2 * v5) ∧ z.toInt = 2 * v5.toInt) ⟨iv_mul (show (2 : Int) ≤ (2 : Int32).toInt ∧ (2 : Int32).toInt ≤ 2 by decide) i4 (by decide) (by decide) (by decide) (by decide) (by decide), rfl, iq_mul (show (2 : Int) ≤ (2 : Int32).toInt ∧ (2 : Int32).toInt ≤ 2 by decide) i4 (by decide) (by decide) (by decide) (by decide)⟩ (fun x6 qi7 => ?_)
    obtain ⟨i7, ax6, ei7⟩ := qi7
    refine tt_kv (P := fun z => (((-2147483648) : Int) ≤ z.toInt ∧ z.toInt ≤ 2147483647) ∧ z = (v2 >>> (x6 &&& 31))) ⟨iv_top _, rfl⟩ (fun x8 qi9 => ?_)
    obtain ⟨i9, ax8⟩ := qi9
    refine tt_kv (P := fun z => ((0 : Int) ≤ z.toInt ∧ z.toInt ≤ 3) ∧ z = (x8 &&& 3)) ⟨iv_and (show (3 : Int) ≤ (3 : Int32).toInt ∧ (3 : Int32).toInt ≤ 3 by decide) (by decide) (by decide) (by decide), rfl⟩ (fun x10 qi11 => ?_)
    obtain ⟨i11, ax10⟩ := qi11
    have t12 := Rok_at (k := v5) x_3 ax10 (by assumption) (by assumption) (by omega) (by omega)
    refine tt_if (fun c13 => ?_) (fun c13 => ?_)
    · have wc13 : x10.toInt = (2 : Int) := c_eq c13
      have i14 : (2 : Int) ≤ x10.toInt ∧ x10.toInt ≤ 2 := nr_eql c13 i11 (show (2 : Int) ≤ (2 : Int32).toInt ∧ (2 : Int32).toInt ≤ 2 by decide) (by decide) (by decide)
      try unfold fNl_productOf_90
      refine tt_kv (P := fun z => ((1 : Int) ≤ z.toInt ∧ z.toInt ≤ 5) ∧ z = (v5 + 1) ∧ z.toInt = v5.toInt + 1) ⟨iv_add i4 (show (1 : Int) ≤ (1 : Int32).toInt ∧ (1 : Int32).toInt ≤ 1 by decide) (by decide) (by decide) (by decide) (by decide), rfl, iq_add i4 (show (1 : Int) ≤ (1 : Int32).toInt ∧ (1 : Int32).toInt ≤ 1 by decide) (by decide) (by decide)⟩ (fun x15 qi16 => ?_)
      obtain ⟨i16, ax15, ei16⟩ := qi16
      exact H _ _ _ _ _ _ k_o0 r_o0 k_o1 r_o1 i_v1 i_v4 (iv_w (a := 0) (b := 5) (by decide) (by decide) i16) f_o0_1 f_o0_2 x_0 x_1 x_2 x_3 (show (o1.1 0).toInt = (o0.1 0).toInt by omega) (show (yo1.1 2).toInt ≤ (o1.1 2).toInt by omega) (show (o1.1 0).toInt = (yo1.1 0).toInt by omega) (show v4.toInt < 2 * (((o1.1 0).toInt + 1) + (o1.1 2).toInt) by omega) (show 0 + (5 - x15.toInt) * 2 < (n : Int) by omega)
    · have wc13 : ¬ x10.toInt = (2 : Int) := c_ne c13
      refine tt_kv (P := fun z => ((0 : Int) ≤ z.toInt ∧ z.toInt ≤ 174) ∧ z = (v1 * 6) ∧ z.toInt = v1.toInt * 6) ⟨iv_mul i_v1 (show (6 : Int) ≤ (6 : Int32).toInt ∧ (6 : Int32).toInt ≤ 6 by decide) (by decide) (by decide) (by decide) (by decide) (by decide), rfl, iq_mul i_v1 (show (6 : Int) ≤ (6 : Int32).toInt ∧ (6 : Int32).toInt ≤ 6 by decide) (by decide) (by decide) (by decide) (by decide)⟩ (fun x17 qi18 => ?_)
      obtain ⟨i18, ax17, ei18⟩ := qi18
      refine tt_kv (P := fun z => ((0 : Int) ≤ z.toInt ∧ z.toInt ≤ 178) ∧ z = (x17 + v5) ∧ z.toInt = x17.toInt + v5.toInt) ⟨iv_add i18 i4 (by decide) (by decide) (by decide) (by decide), rfl, iq_add i18 i4 (by decide) (by decide)⟩ (fun x19 qi20 => ?_)
      obtain ⟨i20, ax19, ei20⟩ := qi20
      refine tt_n (ix_ok i20 (by decide) (by decide)) ?_
      refine tt_kv (P := fun z => (((-1) : Int) ≤ z.toInt ∧ z.toInt ≤ 37) ∧ z = (o0.2.1 13 x19.toNatClampNeg) ∧ z.toInt = (o0.2.1 13 x19.toNatClampNeg).toInt) ⟨(k_o0.2 13 _), rfl, rfl⟩ (fun x21 qi22 => ?_)
      obtain ⟨i22, ax21, ei22⟩ := qi22
      have t23 := Srd_at (k := v5.toInt) x_2 ax21 (show _ = o0.2.1 8 v1.toNatClampNeg by assumption) (by rw [tn_n]; omega) (by rw [tn_n]; omega) (by omega) (by omega)
      refine tt_if (fun c24 => ?_) (fun c24 => ?_)
      · have wc24 : (8 : Int) ≤ x21.toInt := c_le c24
        have i25 : (8 : Int) ≤ x21.toInt ∧ x21.toInt ≤ 37 := nr_ler c24 (show (8 : Int) ≤ (8 : Int32).toInt ∧ (8 : Int32).toInt ≤ 8 by decide) i22 (by decide) (by decide)
        refine tt_kv (P := fun z => ((0 : Int) ≤ z.toInt ∧ z.toInt ≤ 29) ∧ z = (x21 - 8) ∧ z.toInt = x21.toInt - 8) ⟨iv_sub i25 (show (8 : Int) ≤ (8 : Int32).toInt ∧ (8 : Int32).toInt ≤ 8 by decide) (by decide) (by decide) (by decide) (by decide), rfl, iq_sub i25 (show (8 : Int) ≤ (8 : Int32).toInt ∧ (8 : Int32).toInt ≤ 8 by decide) (by decide) (by decide)⟩ (fun x26 qi27 => ?_)
        obtain ⟨i27, ax26, ei27⟩ := qi27
        refine tt_n (ix_ok i27 (by decide) (by decide)) ?_
        refine tt_kv (P := fun z => (((-1) : Int) ≤ z.toInt ∧ z.toInt ≤ 417) ∧ z = (o0.2.1 16 x26.toNatClampNeg) ∧ z.toInt = (o0.2.1 16 x26.toNatClampNeg).toInt) ⟨(k_o0.2 16 _), rfl, rfl⟩ (fun x28 qi29 => ?_)
        obtain ⟨i29, ax28, ei29⟩ := qi29
        have t30 := Lto_at x_1 ax28 (by omega)
        have t31 := li_at (s := x21) ax28 (by omega)
        try unfold fNl_productOf_73
        refine tt_kv (P := fun z => (((-2) : Int) ≤ z.toInt ∧ z.toInt ≤ 1) ∧ z = (1 - x10) ∧ z.toInt = 1 - x10.toInt) ⟨iv_sub (show (1 : Int) ≤ (1 : Int32).toInt ∧ (1 : Int32).toInt ≤ 1 by decide) i11 (by decide) (by decide) (by decide) (by decide), rfl, iq_sub (show (1 : Int) ≤ (1 : Int32).toInt ∧ (1 : Int32).toInt ≤ 1 by decide) i11 (by decide) (by decide)⟩ (fun x32 qi33 => ?_)
        obtain ⟨i33, ax32, ei33⟩ := qi33
        refine tt_kv (P := fun z => (((-2147483648) : Int) ≤ z.toInt ∧ z.toInt ≤ 2147483647) ∧ z = (x28 ^^^ x32)) ⟨iv_top _, rfl⟩ (fun x34 qi35 => ?_)
        obtain ⟨i35, ax34⟩ := qi35
        have t36 := xb_2 ax34 (by omega) (by omega) (by omega)
        refine tt_b (sGr_and _ _ _ k_o1 i_v4 (show (0 : Int) ≤ _ ∧ _ ≤ (417 : Int) by omega)) (fun q37 hq37 => ?_)
        obtain ⟨i_q37, k_q37_2, n_q37_2, zq37_0, -⟩ := hq37
        have r_q37_2 := fr_tr r_o1 n_q37_2 rfl rfl rfl
        have e_q37_2_0 : (q37.2.1 0).toInt = (o1.1 0).toInt := congrArg Int32.toInt (n_q37_2.1 0 rfl)
        have g_q37_2_0 : (0 : Int) ≤ (q37.2.1 0).toInt ∧ (q37.2.1 0).toInt ≤ 8 := k_q37_2.1 0
        have g_q37_2_2 : (0 : Int) ≤ (q37.2.1 2).toInt ∧ (q37.2.1 2).toInt ≤ 200 := k_q37_2.1 2
        have t38 := ((show Anc _ _ _ _ _ _ _ _ _ _ _ _ _ _ by assumption) x_0 (by omega) (by omega))
        try unfold fNl_productOf_90
        refine tt_kv (P := fun z => ((1 : Int) ≤ z.toInt ∧ z.toInt ≤ 5) ∧ z = (v5 + 1) ∧ z.toInt = v5.toInt + 1) ⟨iv_add i4 (show (1 : Int) ≤ (1 : Int32).toInt ∧ (1 : Int32).toInt ≤ 1 by decide) (by decide) (by decide) (by decide) (by decide), rfl, iq_add i4 (show (1 : Int) ≤ (1 : Int32).toInt ∧ (1 : Int32).toInt ≤ 1 by decide) (by decide) (by decide)⟩ (fun x39 qi40 => ?_)
        obtain ⟨i40, ax39, ei40⟩ := qi40
        have p41 : GI ((q37.2.1 0).toInt + 1) (q37.2.1 2).toInt (q37.2.2.1 4) (q37.2.2.1 5) (q37.2.2.1 8) (q37.2.2.1 9) := by exact GI_b ((show Anc _ _ _ _ _ _ _ _ _ _ _ _ _ _ by assumption) x_0 (by omega) (by omega)).1 (by omega)
        have p42 : Lto (((q37.2.1 0).toInt + 1) + (q37.2.1 2).toInt) (o0.2.1 16) := by first | exact x_1 | exact Lto_w x_1 (by omega)
        exact H _ _ _ _ _ _ k_o0 r_o0 k_q37_2 r_q37_2 i_v1 i_q37 (iv_w (a := 0) (b := 5) (by decide) (by decide) i40) f_o0_1 f_o0_2 p41 p42 x_2 x_3 (show (q37.2.1 0).toInt = (o0.1 0).toInt by omega) (show (yo1.1 2).toInt ≤ (q37.2.1 2).toInt by omega) (show (q37.2.1 0).toInt = (yo1.1 0).toInt by omega) (show q37.1.toInt < 2 * (((q37.2.1 0).toInt + 1) + (q37.2.1 2).toInt) by omega) (show 0 + (5 - x39.toInt) * 2 < (n : Int) by omega)
      · have wc24 : x21.toInt < (8 : Int) := c_nle c24
        have i43 : ((-1) : Int) ≤ x21.toInt ∧ x21.toInt ≤ 7 := nr_nlel c24 i22 (show (8 : Int) ≤ (8 : Int32).toInt ∧ (8 : Int32).toInt ≤ 8 by decide) (by decide) (by decide)
        refine tt_kv (P := fun z => ((0 : Int) ≤ z.toInt ∧ z.toInt ≤ 8) ∧ z = (x21 + 1) ∧ z.toInt = x21.toInt + 1) ⟨iv_add i43 (show (1 : Int) ≤ (1 : Int32).toInt ∧ (1 : Int32).toInt ≤ 1 by decide) (by decide) (by decide) (by decide) (by decide), rfl, iq_add i43 (show (1 : Int) ≤ (1 : Int32).toInt ∧ (1 : Int32).toInt ≤ 1 by decide) (by decide) (by decide)⟩ (fun x44 qi45 => ?_)
        obtain ⟨i45, ax44, ei45⟩ := qi45
        refine tt_kv (P := fun z => ((0 : Int) ≤ z.toInt ∧ z.toInt ≤ 16) ∧ z = (2 * x44) ∧ z.toInt = 2 * x44.toInt) ⟨iv_mul (show (2 : Int) ≤ (2 : Int32).toInt ∧ (2 : Int32).toInt ≤ 2 by decide) i45 (by decide) (by decide) (by decide) (by decide) (by decide), rfl, iq_mul (show (2 : Int) ≤ (2 : Int32).toInt ∧ (2 : Int32).toInt ≤ 2 by decide) i45 (by decide) (by decide) (by decide) (by decide)⟩ (fun x46 qi47 => ?_)
        obtain ⟨i47, ax46, ei47⟩ := qi47
        try unfold fNl_productOf_73
        refine tt_kv (P := fun z => (((-2) : Int) ≤ z.toInt ∧ z.toInt ≤ 1) ∧ z = (1 - x10) ∧ z.toInt = 1 - x10.toInt) ⟨iv_sub (show (1 : Int) ≤ (1 : Int32).toInt ∧ (1 : Int32).toInt ≤ 1 by decide) i11 (by decide) (by decide) (by decide) (by decide), rfl, iq_sub (show (1 : Int) ≤ (1 : Int32).toInt ∧ (1 : Int32).toInt ≤ 1 by decide) i11 (by decide) (by decide)⟩ (fun x48 qi49 => ?_)
        obtain ⟨i49, ax48, ei49⟩ := qi49
        refine tt_kv (P := fun z => (((-2147483648) : Int) ≤ z.toInt ∧ z.toInt ≤ 2147483647) ∧ z = (x46 ^^^ x48)) ⟨iv_top _, rfl⟩ (fun x50 qi51 => ?_)
        obtain ⟨i51, ax50⟩ := qi51
        have t52 := xb_2 ax50 (by omega) (by omega) (by omega)
        refine tt_b (sGr_and _ _ _ k_o1 i_v4 (show (0 : Int) ≤ _ ∧ _ ≤ (417 : Int) by omega)) (fun q53 hq53 => ?_)
        obtain ⟨i_q53, k_q53_2, n_q53_2, zq53_0, -⟩ := hq53
        have r_q53_2 := fr_tr r_o1 n_q53_2 rfl rfl rfl
        have e_q53_2_0 : (q53.2.1 0).toInt = (o1.1 0).toInt := congrArg Int32.toInt (n_q53_2.1 0 rfl)
        have g_q53_2_0 : (0 : Int) ≤ (q53.2.1 0).toInt ∧ (q53.2.1 0).toInt ≤ 8 := k_q53_2.1 0
        have g_q53_2_2 : (0 : Int) ≤ (q53.2.1 2).toInt ∧ (q53.2.1 2).toInt ≤ 200 := k_q53_2.1 2
        have t54 := ((show Anc _ _ _ _ _ _ _ _ _ _ _ _ _ _ by assumption) x_0 (by omega) (by omega))
        try unfold fNl_productOf_90
        refine tt_kv (P := fun z => ((1 : Int) ≤ z.toInt ∧ z.toInt ≤ 5) ∧ z = (v5 + 1) ∧ z.toInt = v5.toInt + 1) ⟨iv_add i4 (show (1 : Int) ≤ (1 : Int32).toInt ∧ (1 : Int32).toInt ≤ 1 by decide) (by decide) (by decide) (by decide) (by decide), rfl, iq_add i4 (show (1 : Int) ≤ (1 : Int32).toInt ∧ (1 : Int32).toInt ≤ 1 by decide) (by decide) (by decide)⟩ (fun x55 qi56 => ?_)
        obtain ⟨i56, ax55, ei56⟩ := qi56
        have p57 : GI ((q53.2.1 0).toInt + 1) (q53.2.1 2).toInt (q53.2.2.1 4) (q53.2.2.1 5) (q53.2.2.1 8) (q53.2.2.1 9) := by exact GI_b ((show Anc _ _ _ _ _ _ _ _ _ _ _ _ _ _ by assumption) x_0 (by omega) (by omega)).1 (by omega)
        have p58 : Lto (((q53.2.1 0).toInt + 1) + (q53.2.1 2).toInt) (o0.2.1 16) := by first | exact x_1 | exact Lto_w x_1 (by omega)
        exact H _ _ _ _ _ _ k_o0 r_o0 k_q53_2 r_q53_2 i_v1 i_q53 (iv_w (a := 0) (b := 5) (by decide) (by decide) i56) f_o0_1 f_o0_2 p57 p58 x_2 x_3 (show (q53.2.1 0).toInt = (o0.1 0).toInt by omega) (show (yo1.1 2).toInt ≤ (q53.2.1 2).toInt by omega) (show (q53.2.1 0).toInt = (yo1.1 0).toInt by omega) (show q53.1.toInt < 2 * (((q53.2.1 0).toInt + 1) + (q53.2.1 2).toInt) by omega) (show 0 + (5 - x55.toInt) * 2 < (n : Int) by omega)
set_option maxHeartbeats 4000000 in
set_option maxRecDepth 100000 in
theorem hNl_productOf (yv1 : Int32) (yv2 : Int32) (yo0 : cf_O) (yo1 : cf_O) : ∀ n, HNl_productOf yv1 yv2 yo0 yo1 n := by
  intro n
  induction n with
  | zero => exact (fun v1 v2 v4 v5 o0 o1 k_o0 r_o0 k_o1 r_o1 i_v1 i_v4 i_v5 f_o0_1 f_o0_2 x_0 x_1 x_2 x_3 x_4 x_5 x_6 x_7 hm => by exact absurd (show 0 + (5 - v5.toInt) * 2 < (0 : Int) from hm) (by omega))
  | succ n ih => exact (fun v1 v2 v4 v5 o0 o1 k_o0 r_o0 k_o1 r_o1 i_v1 i_v4 i_v5 f_o0_1 f_o0_2 x_0 x_1 x_2 x_3 x_4 x_5 x_6 x_7 hm => tNl_productOf_6 ih v1 v2 v4 v5 o0 o1 k_o0 r_o0 k_o1 r_o1 i_v1 i_v4 i_v5 f_o0_1 f_o0_2 x_0 x_1 x_2 x_3 x_4 x_5 x_6 x_7 (by omega))
set_option maxHeartbeats 4000000 in
set_option maxRecDepth 100000 in
theorem sNl_productOf (v1 : Int32) (v2 : Int32) (o0 : cf_O) (o1 : cf_O) (k_o0 : okO I_Nl o0) (k_o1 : okO I_Gr o1) (i_v1 : (0 : Int) ≤ v1.toInt ∧ v1.toInt ≤ 29) (f_o0_1 : (1 : Int) ≤ (o0.1 1).toInt ∧ (o0.1 1).toInt ≤ 6) (f_o0_2 : ((-1) : Int) ≤ (o0.1 2).toInt ∧ (o0.1 2).toInt ≤ 2147483647) (x_0 : GI ((o1.1 0).toInt + 1) (o1.1 2).toInt (o1.2.1 4) (o1.2.1 5) (o1.2.1 8) (o1.2.1 9)) (x_1 : Lto (((o1.1 0).toInt + 1) + (o1.1 2).toInt) (o0.2.1 16)) (x_2 : Srd v1.toInt (o0.1 0).toInt (o0.2.1 8) (o0.2.1 13) (o0.2.1 16)) (x_3 : Rok v2) (x_4 : (o1.1 0).toInt = (o0.1 0).toInt) : tt (fNl_productOf v1 v2 o0 o1) (QNl_productOf v1 v2 o0 o1) := by
  have H := hNl_productOf v1 v2 o0 o1 cfFU
  have hm : (13 : Int) ≤ (cfFU : Nat) := by decide
  have r_o0 : Fr (fr_M [] [] []) o0 o0 := fr_rfl
  have r_o1 : Fr (fr_M [2, 3] [4, 5, 6, 8, 9] []) o1 o1 := fr_rfl
  unfold fNl_productOf fNl_productOf_0
  have i_v2 := iv_top v2
  have g_o0_0 : (0 : Int) ≤ (o0.1 0).toInt ∧ (o0.1 0).toInt ≤ 8 := k_o0.1 0
  have g_o1_0 : (0 : Int) ≤ (o1.1 0).toInt ∧ (o1.1 0).toInt ≤ 8 := k_o1.1 0
  have g_o1_2 : (0 : Int) ≤ (o1.1 2).toInt ∧ (o1.1 2).toInt ≤ 200 := k_o1.1 2
  exact H _ _ _ _ _ _ k_o0 r_o0 k_o1 r_o1 i_v1 (iv_w (a := 0) (b := 417) (by decide) (by decide) (show (1 : Int) ≤ (1 : Int32).toInt ∧ (1 : Int32).toInt ≤ 1 by decide)) (iv_w (a := 0) (b := 5) (by decide) (by decide) (show (0 : Int) ≤ (0 : Int32).toInt ∧ (0 : Int32).toInt ≤ 0 by decide)) f_o0_1 f_o0_2 x_0 x_1 x_2 x_3 (show (o1.1 0).toInt = (o0.1 0).toInt by omega) (show (o1.1 2).toInt ≤ (o1.1 2).toInt by omega) (show (o1.1 0).toInt = (o1.1 0).toInt by omega) (show 1 < 2 * (((o1.1 0).toInt + 1) + (o1.1 2).toInt) by omega) (show 0 + (5 - 0) * 2 < ((cfFU : Nat) : Int) by omega)
def QNl_sumOf (v1 : Int32) (o0 : cf_O) (o1 : cf_O) (r : (Int32 × cf_O)) : Prop := ((0 : Int) ≤ r.1.toInt ∧ r.1.toInt ≤ 417) ∧ (okO I_Gr r.2) ∧ (Fr (fr_M [2, 3] [4, 5, 6, 8, 9] []) o1 r.2) ∧ (GI ((r.2.1 0).toInt + 1) (r.2.1 2).toInt (r.2.2.1 4) (r.2.2.1 5) (r.2.2.1 8) (r.2.2.1 9)) ∧ (r.1.toInt < 2 * (((r.2.1 0).toInt + 1) + (r.2.1 2).toInt)) ∧ (0 ≤ r.1.toInt) ∧ ((o1.1 2).toInt ≤ (r.2.1 2).toInt) ∧ ((r.2.1 0).toInt = (o1.1 0).toInt) ∧ True
def HNl_sumOf (yv1 : Int32) (yo0 : cf_O) (yo1 : cf_O) (n : Nat) : Prop := (∀ (v1 : Int32) (v3 : Int32) (v4 : Int32) (o0 : cf_O) (o1 : cf_O), (okO I_Nl o0) → (Fr (fr_M [] [] []) yo0 o0) → (okO I_Gr o1) → (Fr (fr_M [2, 3] [4, 5, 6, 8, 9] []) yo1 o1) → ((0 : Int) ≤ v1.toInt ∧ v1.toInt ≤ 29) → ((0 : Int) ≤ v3.toInt ∧ v3.toInt ≤ 417) → ((0 : Int) ≤ v4.toInt ∧ v4.toInt ≤ 16) → ((1 : Int) ≤ (o0.1 1).toInt ∧ (o0.1 1).toInt ≤ 6) → (((-1) : Int) ≤ (o0.1 2).toInt ∧ (o0.1 2).toInt ≤ 2147483647) → (GI ((o1.1 0).toInt + 1) (o1.1 2).toInt (o1.2.1 4) (o1.2.1 5) (o1.2.1 8) (o1.2.1 9)) → (Lto (((o1.1 0).toInt + 1) + (o1.1 2).toInt) (o0.2.1 16)) → (Srd v1.toInt (o0.1 0).toInt (o0.2.1 8) (o0.2.1 13) (o0.2.1 16)) → (Rwo (o0.2.1 12)) → ((o1.1 0).toInt = (o0.1 0).toInt) → ((yo1.1 2).toInt ≤ (o1.1 2).toInt) → ((o1.1 0).toInt = (yo1.1 0).toInt) → (v3.toInt < 2 * (((o1.1 0).toInt + 1) + (o1.1 2).toInt)) → 0 + (16 - v4.toInt) * 2 < (n : Int) → tt (gNl_sumOf n 0 v1 v3 v4 o0 o1) (QNl_sumOf yv1 yo0 yo1))
set_option maxHeartbeats 4000000 in
set_option maxRecDepth 100000 in
theorem tNl_sumOf_5 {yv1 : Int32} {yo0 : cf_O} {yo1 : cf_O} {n : Nat} (H : HNl_sumOf yv1 yo0 yo1 n) (v1 : Int32) (v3 : Int32) (v4 : Int32) (o0 : cf_O) (o1 : cf_O) (k_o0 : okO I_Nl o0) (r_o0 : Fr (fr_M [] [] []) yo0 o0) (k_o1 : okO I_Gr o1) (r_o1 : Fr (fr_M [2, 3] [4, 5, 6, 8, 9] []) yo1 o1) (i_v1 : (0 : Int) ≤ v1.toInt ∧ v1.toInt ≤ 29) (i_v3 : (0 : Int) ≤ v3.toInt ∧ v3.toInt ≤ 417) (i_v4 : (0 : Int) ≤ v4.toInt ∧ v4.toInt ≤ 16) (f_o0_1 : (1 : Int) ≤ (o0.1 1).toInt ∧ (o0.1 1).toInt ≤ 6) (f_o0_2 : ((-1) : Int) ≤ (o0.1 2).toInt ∧ (o0.1 2).toInt ≤ 2147483647) (x_0 : GI ((o1.1 0).toInt + 1) (o1.1 2).toInt (o1.2.1 4) (o1.2.1 5) (o1.2.1 8) (o1.2.1 9)) (x_1 : Lto (((o1.1 0).toInt + 1) + (o1.1 2).toInt) (o0.2.1 16)) (x_2 : Srd v1.toInt (o0.1 0).toInt (o0.2.1 8) (o0.2.1 13) (o0.2.1 16)) (x_3 : Rwo (o0.2.1 12)) (x_4 : (o1.1 0).toInt = (o0.1 0).toInt) (x_5 : (yo1.1 2).toInt ≤ (o1.1 2).toInt) (x_6 : (o1.1 0).toInt = (yo1.1 0).toInt) (x_7 : v3.toInt < 2 * (((o1.1 0).toInt + 1) + (o1.1 2).toInt)) (hm : 0 + (16 - v4.toInt) * 2 ≤ (n : Int)) : tt (fNl_sumOf_5 (gNl_sumOf n) v1 v3 v4 o0 o1) (QNl_sumOf yv1 yo0 yo1) := by
  unfold fNl_sumOf_5
  have g_o0_0 : (0 : Int) ≤ (o0.1 0).toInt ∧ (o0.1 0).toInt ≤ 8 := k_o0.1 0
  have ey_o0_0 : (o0.1 0).toInt = (yo0.1 0).toInt := congrArg Int32.toInt (r_o0.1 0 rfl)
  have ey_o0_2 : (o0.1 2).toInt = (yo0.1 2).toInt := congrArg Int32.toInt (r_o0.1 2 rfl)
  have g_o1_0 : (0 : Int) ≤ (o1.1 0).toInt ∧ (o1.1 0).toInt ≤ 8 := k_o1.1 0
  have ey_o1_0 : (o1.1 0).toInt = (yo1.1 0).toInt := congrArg Int32.toInt (r_o1.1 0 rfl)
  have g_o1_2 : (0 : Int) ≤ (o1.1 2).toInt ∧ (o1.1 2).toInt ≤ 200 := k_o1.1 2
  refine tt_n (ix_ok i_v1 (by decide) (by decide)) ?_
  refine tt_kv (P := fun z => ((0 : Int) ≤ z.toInt ∧ z.toInt ≤ 16) ∧ z = (o0.2.1 10 v1.toNatClampNeg) ∧ z.toInt = (o0.2.1 10 v1.toNatClampNeg).toInt) ⟨(k_o0.2 10 _), rfl, rfl⟩ (fun x1 qi2 => ?_)
  obtain ⟨i2, ax1, ei2⟩ := qi2
  refine tt_if (fun c3 => ?_) (fun c3 => ?_)
  · have wc3 : x1.toInt ≤ v4.toInt := c_le c3
    refine tt_n (ix_ok i_v1 (by decide) (by decide)) ?_
    refine tt_kv (P := fun z => (((-2147483648) : Int) ≤ z.toInt ∧ z.toInt ≤ 2147483647) ∧ z = (o0.2.1 11 v1.toNatClampNeg) ∧ z.toInt = (o0.2.1 11 v1.toNatClampNeg).toInt) ⟨(k_o0.2 11 _), rfl, rfl⟩ (fun x4 qi5 => ?_)
    obtain ⟨i5, ax4, ei5⟩ := qi5
    refine tt_if (fun c6 => ?_) (fun c6 => ?_)
    · have wc6 : x4.toInt = (0 : Int) := c_eq c6
      have i7 : (0 : Int) ≤ x4.toInt ∧ x4.toInt ≤ 0 := nr_eql c6 i5 (show (0 : Int) ≤ (0 : Int32).toInt ∧ (0 : Int32).toInt ≤ 0 by decide) (by decide) (by decide)
      refine tt_kv (P := fun z => ((0 : Int) ≤ z.toInt ∧ z.toInt ≤ 417) ∧ z = (v3 ^^^ 1) ∧ z.toInt = v3.toInt + 1 - 2 * (v3.toInt % 2)) ⟨iv_x1 i_v3 (show (1 : Int) ≤ (1 : Int32).toInt ∧ (1 : Int32).toInt ≤ 1 by decide) (by decide) (by decide) (by decide) (by decide) (by decide), rfl, i_x1 (Int.le_trans (by decide) i_v3.1)⟩ (fun x8 qi9 => ?_)
      obtain ⟨i9, ax8, ei9⟩ := qi9
      try unfold fNl_sumOf_62
      exact tt_some ⟨i9, k_o1, r_o1, x_0, (show x8.toInt < 2 * (((o1.1 0).toInt + 1) + (o1.1 2).toInt) by omega), (show 0 ≤ x8.toInt by omega), (show (yo1.1 2).toInt ≤ (o1.1 2).toInt by omega), (show (o1.1 0).toInt = (yo1.1 0).toInt by omega), trivial⟩
    · have wc6 : ¬ x4.toInt = (0 : Int) := c_ne c6
      try unfold fNl_sumOf_62
      exact tt_some ⟨i_v3, k_o1, r_o1, x_0, (show v3.toInt < 2 * (((o1.1 0).toInt + 1) + (o1.1 2).toInt) by omega), (show 0 ≤ v3.toInt by omega), (show (yo1.1 2).toInt ≤ (o1.1 2).toInt by omega), (show (o1.1 0).toInt = (yo1.1 0).toInt by omega), trivial⟩
  · have wc3 : v4.toInt < x1.toInt := c_nle c3
    have i10 : (0 : Int) ≤ v4.toInt ∧ v4.toInt ≤ 15 := nr_nlel c3 i_v4 i2 (by decide) (by decide)
    have i11 : (1 : Int) ≤ x1.toInt ∧ x1.toInt ≤ 16 := nr_nler c3 i_v4 i2 (by decide) (by decide)
    refine tt_kv (P := fun z => ((0 : Int) ≤ z.toInt ∧ z.toInt ≤ 464) ∧ z = (v1 * 16) ∧ z.toInt = v1.toInt * 16) ⟨iv_mul i_v1 (show (16 : Int) ≤ (16 : Int32).toInt ∧ (16 : Int32).toInt ≤ 16 by decide) (by decide) (by decide) (by decide) (by decide) (by decide), rfl, iq_mul i_v1 (show (16 : Int) ≤ (16 : Int32).toInt ∧ (16 : Int32).toInt ≤ 16 by decide) (by decide) (by decide) (by decide) (by decide)⟩ (fun x12 qi13 => ?_)
    obtain ⟨i13, ax12, ei13⟩ := qi13
    refine tt_kv (P := fun z => ((0 : Int) ≤ z.toInt ∧ z.toInt ≤ 479) ∧ z = (x12 + v4) ∧ z.toInt = x12.toInt + v4.toInt) ⟨iv_add i13 i10 (by decide) (by decide) (by decide) (by decide), rfl, iq_add i13 i10 (by decide) (by decide)⟩ (fun x14 qi15 => ?_)
    obtain ⟨i15, ax14, ei15⟩ := qi15
    refine tt_n (ix_ok i15 (by decide) (by decide)) ?_
    refine tt_kv (P := fun z => (((-2147483648) : Int) ≤ z.toInt ∧ z.toInt ≤ 2147483647) ∧ z = (o0.2.1 12 x14.toNatClampNeg) ∧ z.toInt = (o0.2.1 12 x14.toNatClampNeg).toInt) ⟨(k_o0.2 12 _), rfl, rfl⟩ (fun x16 qi17 => ?_)
    obtain ⟨i17, ax16, ei17⟩ := qi17
    have p18 : Rok x16 := by exact Rok_w x_3 (by assumption)
    refine tt_b (sNl_productOf _ _ _ _ k_o0 k_o1 i_v1 f_o0_1 f_o0_2 x_0 x_1 x_2 p18 (show (o1.1 0).toInt = (o0.1 0).toInt by omega)) (fun q19 hq19 => ?_)
    obtain ⟨i_q19, k_q19_2, n_q19_2, zq19_0, zq19_1, zq19_2, zq19_3, zq19_4, -⟩ := hq19
    have r_q19_2 := fr_tr r_o1 n_q19_2 rfl rfl rfl
    have e_q19_2_0 : (q19.2.1 0).toInt = (o1.1 0).toInt := congrArg Int32.toInt (n_q19_2.1 0 rfl)
    have g_q19_2_0 : (0 : Int) ≤ (q19.2.1 0).toInt ∧ (q19.2.1 0).toInt ≤ 8 := k_q19_2.1 0
    have g_q19_2_2 : (0 : Int) ≤ (q19.2.1 2).toInt ∧ (q19.2.1 2).toInt ≤ 200 := k_q19_2.1 2
    have zq19_1 : q19.1.toInt < 2 * (((q19.2.1 0).toInt + 1) + (q19.2.1 2).toInt) := zq19_1
    have zq19_2 : 0 ≤ q19.1.toInt := zq19_2
    have zq19_3 : (o1.1 2).toInt ≤ (q19.2.1 2).toInt := zq19_3
    have zq19_4 : (q19.2.1 0).toInt = (o1.1 0).toInt := zq19_4
    refine tt_b (sGr_or _ _ _ k_q19_2 i_v3 i_q19) (fun q20 hq20 => ?_)
    obtain ⟨i_q20, k_q20_2, n_q20_2, zq20_0, -⟩ := hq20
    have r_q20_2 := fr_tr r_q19_2 n_q20_2 rfl rfl rfl
    have e_q20_2_0 : (q20.2.1 0).toInt = (q19.2.1 0).toInt := congrArg Int32.toInt (n_q20_2.1 0 rfl)
    have g_q20_2_0 : (0 : Int) ≤ (q20.2.1 0).toInt ∧ (q20.2.1 0).toInt ≤ 8 := k_q20_2.1 0
    have g_q20_2_2 : (0 : Int) ≤ (q20.2.1 2).toInt ∧ (q20.2.1 2).toInt ≤ 200 := k_q20_2.1 2
    have t21 := ((show Anc _ _ _ _ _ _ _ _ _ _ _ _ _ _ by assumption) (show GI _ _ _ _ _ _ by assumption) (by omega) (by omega))
    refine tt_kv (P := fun z => ((1 : Int) ≤ z.toInt ∧ z.toInt ≤ 16) ∧ z = (v4 + 1) ∧ z.toInt = v4.toInt + 1) ⟨iv_add i10 (show (1 : Int) ≤ (1 : Int32).toInt ∧ (1 : Int32).toInt ≤ 1 by decide) (by decide) (by decide) (by decide) (by decide), rfl, iq_add i10 (show (1 : Int) ≤ (1 : Int32).toInt ∧ (1 : Int32).toInt ≤ 1 by decide) (by decide) (by decide)⟩ (fun x22 qi23 => ?_)
    obtain ⟨i23, ax22, ei23⟩ := qi23
    have p24 : GI ((q20.2.1 0).toInt + 1) (q20.2.1 2).toInt (q20.2.2.1 4) (q20.2.2.1 5) (q20.2.2.1 8) (q20.2.2.1 9) := by exact GI_b ((show Anc _ _ _ _ _ _ _ _ _ _ _ _ _ _ by assumption) (show GI _ _ _ _ _ _ by assumption) (by omega) (by omega)).1 (by omega)
    have p25 : Lto (((q20.2.1 0).toInt + 1) + (q20.2.1 2).toInt) (o0.2.1 16) := by first | exact x_1 | exact Lto_w x_1 (by omega)
    exact H _ _ _ _ _ k_o0 r_o0 k_q20_2 r_q20_2 i_v1 i_q20 (iv_w (a := 0) (b := 16) (by decide) (by decide) i23) f_o0_1 f_o0_2 p24 p25 x_2 x_3 (show (q20.2.1 0).toInt = (o0.1 0).toInt by omega) (show (yo1.1 2).toInt ≤ (q20.2.1 2).toInt by omega) (show (q20.2.1 0).toInt = (yo1.1 0).toInt by omega) (show q20.1.toInt < 2 * (((q20.2.1 0).toInt + 1) + (q20.2.1 2).toInt) by omega) (show 0 + (16 - x22.toInt) * 2 < (n : Int) by omega)
set_option maxHeartbeats 4000000 in
set_option maxRecDepth 100000 in
theorem hNl_sumOf (yv1 : Int32) (yo0 : cf_O) (yo1 : cf_O) : ∀ n, HNl_sumOf yv1 yo0 yo1 n := by
  intro n
  induction n with
  | zero => exact (fun v1 v3 v4 o0 o1 k_o0 r_o0 k_o1 r_o1 i_v1 i_v3 i_v4 f_o0_1 f_o0_2 x_0 x_1 x_2 x_3 x_4 x_5 x_6 x_7 hm => by exact absurd (show 0 + (16 - v4.toInt) * 2 < (0 : Int) from hm) (by omega))
  | succ n ih => exact (fun v1 v3 v4 o0 o1 k_o0 r_o0 k_o1 r_o1 i_v1 i_v3 i_v4 f_o0_1 f_o0_2 x_0 x_1 x_2 x_3 x_4 x_5 x_6 x_7 hm => tNl_sumOf_5 ih v1 v3 v4 o0 o1 k_o0 r_o0 k_o1 r_o1 i_v1 i_v3 i_v4 f_o0_1 f_o0_2 x_0 x_1 x_2 x_3 x_4 x_5 x_6 x_7 (by omega))
set_option maxHeartbeats 4000000 in
set_option maxRecDepth 100000 in
theorem sNl_sumOf (v1 : Int32) (o0 : cf_O) (o1 : cf_O) (k_o0 : okO I_Nl o0) (k_o1 : okO I_Gr o1) (i_v1 : (0 : Int) ≤ v1.toInt ∧ v1.toInt ≤ 29) (f_o0_1 : (1 : Int) ≤ (o0.1 1).toInt ∧ (o0.1 1).toInt ≤ 6) (f_o0_2 : ((-1) : Int) ≤ (o0.1 2).toInt ∧ (o0.1 2).toInt ≤ 2147483647) (x_0 : GI ((o1.1 0).toInt + 1) (o1.1 2).toInt (o1.2.1 4) (o1.2.1 5) (o1.2.1 8) (o1.2.1 9)) (x_1 : Lto (((o1.1 0).toInt + 1) + (o1.1 2).toInt) (o0.2.1 16)) (x_2 : Srd v1.toInt (o0.1 0).toInt (o0.2.1 8) (o0.2.1 13) (o0.2.1 16)) (x_3 : Rwo (o0.2.1 12)) (x_4 : (o1.1 0).toInt = (o0.1 0).toInt) : tt (fNl_sumOf v1 o0 o1) (QNl_sumOf v1 o0 o1) := by
  have H := hNl_sumOf v1 o0 o1 cfFU
  have hm : (35 : Int) ≤ (cfFU : Nat) := by decide
  have r_o0 : Fr (fr_M [] [] []) o0 o0 := fr_rfl
  have r_o1 : Fr (fr_M [2, 3] [4, 5, 6, 8, 9] []) o1 o1 := fr_rfl
  unfold fNl_sumOf fNl_sumOf_0
  have g_o0_0 : (0 : Int) ≤ (o0.1 0).toInt ∧ (o0.1 0).toInt ≤ 8 := k_o0.1 0
  have g_o1_0 : (0 : Int) ≤ (o1.1 0).toInt ∧ (o1.1 0).toInt ≤ 8 := k_o1.1 0
  have g_o1_2 : (0 : Int) ≤ (o1.1 2).toInt ∧ (o1.1 2).toInt ≤ 200 := k_o1.1 2
  exact H _ _ _ _ _ k_o0 r_o0 k_o1 r_o1 i_v1 (iv_w (a := 0) (b := 417) (by decide) (by decide) (show (0 : Int) ≤ (0 : Int32).toInt ∧ (0 : Int32).toInt ≤ 0 by decide)) (iv_w (a := 0) (b := 16) (by decide) (by decide) (show (0 : Int) ≤ (0 : Int32).toInt ∧ (0 : Int32).toInt ≤ 0 by decide)) f_o0_1 f_o0_2 x_0 x_1 x_2 x_3 (show (o1.1 0).toInt = (o0.1 0).toInt by omega) (show (o1.1 2).toInt ≤ (o1.1 2).toInt by omega) (show (o1.1 0).toInt = (o1.1 0).toInt by omega) (show 0 < 2 * (((o1.1 0).toInt + 1) + (o1.1 2).toInt) by omega) (show 0 + (16 - 0) * 2 < ((cfFU : Nat) : Int) by omega)
def QNl_self (v1 : Int32) (v3 : Int32) (o0 : cf_O) (o1 : cf_O) (r : (Int32 × cf_O × cf_O)) : Prop := ((0 : Int) ≤ r.1.toInt ∧ r.1.toInt ≤ 417) ∧ (okO I_Nl r.2.1) ∧ (Fr (fr_M [] [16] []) o0 r.2.1) ∧ (okO I_Gr r.2.2) ∧ (Fr (fr_M [2, 3] [4, 5, 6, 8, 9] []) o1 r.2.2) ∧ (GI ((r.2.2.1 0).toInt + 1) (r.2.2.1 2).toInt (r.2.2.2.1 4) (r.2.2.2.1 5) (r.2.2.2.1 8) (r.2.2.2.1 9)) ∧ (Lto (((r.2.2.1 0).toInt + 1) + (r.2.2.1 2).toInt) (r.2.1.2.1 16)) ∧ (Lmn v1.toInt (o0.2.1 16) (r.2.1.2.1 16)) ∧ (r.1.toInt < 2 * (((r.2.2.1 0).toInt + 1) + (r.2.2.1 2).toInt)) ∧ (0 ≤ r.1.toInt) ∧ ((o1.1 2).toInt ≤ (r.2.2.1 2).toInt) ∧ ((r.2.2.1 0).toInt = (o1.1 0).toInt) ∧ True
def SNl (d : Nat) (self : Int32 → Int32 → cf_O → cf_O → Option (Int32 × cf_O × cf_O)) : Prop := ∀ (v1 : Int32) (v3 : Int32) (o0 : cf_O) (o1 : cf_O) (k_o0 : okO I_Nl o0) (k_o1 : okO I_Gr o1) (i_v1 : (0 : Int) ≤ v1.toInt ∧ v1.toInt ≤ 37) (i_v3 : (0 : Int) ≤ v3.toInt ∧ v3.toInt ≤ 30) (f_o0_1 : (1 : Int) ≤ (o0.1 1).toInt ∧ (o0.1 1).toInt ≤ 6) (f_o0_2 : ((-1) : Int) ≤ (o0.1 2).toInt ∧ (o0.1 2).toInt ≤ 2147483647) (x_0 : GI ((o1.1 0).toInt + 1) (o1.1 2).toInt (o1.2.1 4) (o1.2.1 5) (o1.2.1 8) (o1.2.1 9)) (x_1 : Lto (((o1.1 0).toInt + 1) + (o1.1 2).toInt) (o0.2.1 16)) (x_2 : Rwo (o0.2.1 12)) (x_3 : Dpt (o0.1 0).toInt (o0.1 6).toInt (o0.2.1 8) (o0.2.1 13) (Int.toNat (30 - v3.toInt)) v1.toInt) (x_4 : (o1.1 0).toInt = (o0.1 0).toInt) (x_5 : 31 ≤ (d : Int) + v3.toInt), tt (self v1 v3 o0 o1) (QNl_self v1 v3 o0 o1)
def QNl_literalOf (v1 : Int32) (v3 : Int32) (o0 : cf_O) (o1 : cf_O) (r : (Int32 × cf_O × cf_O)) : Prop := ((0 : Int) ≤ r.1.toInt ∧ r.1.toInt ≤ 417) ∧ (okO I_Nl r.2.1) ∧ (Fr (fr_M [] [16] []) o0 r.2.1) ∧ (okO I_Gr r.2.2) ∧ (Fr (fr_M [2, 3] [4, 5, 6, 8, 9] []) o1 r.2.2) ∧ (GI ((r.2.2.1 0).toInt + 1) (r.2.2.1 2).toInt (r.2.2.2.1 4) (r.2.2.2.1 5) (r.2.2.2.1 8) (r.2.2.2.1 9)) ∧ (Lto (((r.2.2.1 0).toInt + 1) + (r.2.2.1 2).toInt) (r.2.1.2.1 16)) ∧ (Lmn v1.toInt (o0.2.1 16) (r.2.1.2.1 16)) ∧ (r.1.toInt < 2 * (((r.2.2.1 0).toInt + 1) + (r.2.2.1 2).toInt)) ∧ (0 ≤ r.1.toInt) ∧ ((o1.1 2).toInt ≤ (r.2.2.1 2).toInt) ∧ ((r.2.2.1 0).toInt = (o1.1 0).toInt) ∧ True
def HNl_literalOf (self : Int32 → Int32 → cf_O → cf_O → Option (Int32 × cf_O × cf_O)) (d : Nat) (yv1 : Int32) (yv3 : Int32) (yo0 : cf_O) (yo1 : cf_O) (n : Nat) : Prop := (∀ (v3 : Int32) (v4 : Int32) (v5 : Int32) (o0 : cf_O) (o1 : cf_O), (okO I_Nl o0) → (Fr (fr_M [] [16] []) yo0 o0) → (okO I_Gr o1) → (Fr (fr_M [2, 3] [4, 5, 6, 8, 9] []) yo1 o1) → ((0 : Int) ≤ v3.toInt ∧ v3.toInt ≤ 29) → ((0 : Int) ≤ v4.toInt ∧ v4.toInt ≤ 29) → ((0 : Int) ≤ v5.toInt ∧ v5.toInt ≤ 5) → ((1 : Int) ≤ (o0.1 1).toInt ∧ (o0.1 1).toInt ≤ 6) → (((-1) : Int) ≤ (o0.1 2).toInt ∧ (o0.1 2).toInt ≤ 2147483647) → (GI ((o1.1 0).toInt + 1) (o1.1 2).toInt (o1.2.1 4) (o1.2.1 5) (o1.2.1 8) (o1.2.1 9)) → (Lto (((o1.1 0).toInt + 1) + (o1.1 2).toInt) (o0.2.1 16)) → (Rwo (o0.2.1 12)) → (Dpc (o0.1 0).toInt (o0.1 6).toInt (o0.2.1 8) (o0.2.1 13) (Int.toNat (29 - v3.toInt)) v4.toInt) → (Srv v5.toInt v4.toInt (o0.1 0).toInt (o0.2.1 13) (o0.2.1 16)) → (Lmm (yo0.2.1 16) (o0.2.1 16)) → ((o1.1 0).toInt = (o0.1 0).toInt) → (v4.toInt = yv1.toInt - 8) → (8 ≤ yv1.toInt) → (v4.toInt < (o0.1 6).toInt) → (v3.toInt ≤ 29) → ((yo1.1 2).toInt ≤ (o1.1 2).toInt) → ((o1.1 0).toInt = (yo1.1 0).toInt) → (31 ≤ ((d : Int) + 1) + v3.toInt) → 0 + (5 - v5.toInt) * 2 < (n : Int) → tt (gNl_literalOf self n 0 v3 v4 v5 o0 o1) (QNl_literalOf yv1 yv3 yo0 yo1))
set_option maxHeartbeats 4000000 in
set_option maxRecDepth 100000 in
theorem tNl_literalOf_38 {self : Int32 → Int32 → cf_O → cf_O → Option (Int32 × cf_O × cf_O)} {d : Nat} (S : SNl d self) {yv1 : Int32} {yv3 : Int32} {yo0 : cf_O} {yo1 : cf_O} {n : Nat} (H : HNl_literalOf self d yv1 yv3 yo0 yo1 n) (v3 : Int32) (v4 : Int32) (v5 : Int32) (o0 : cf_O) (o1 : cf_O) (k_o0 : okO I_Nl o0) (r_o0 : Fr (fr_M [] [16] []) yo0 o0) (k_o1 : okO I_Gr o1) (r_o1 : Fr (fr_M [2, 3] [4, 5, 6, 8, 9] []) yo1 o1) (i_v3 : (0 : Int) ≤ v3.toInt ∧ v3.toInt ≤ 29) (i_v4 : (0 : Int) ≤ v4.toInt ∧ v4.toInt ≤ 29) (i_v5 : (0 : Int) ≤ v5.toInt ∧ v5.toInt ≤ 5) (f_o0_1 : (1 : Int) ≤ (o0.1 1).toInt ∧ (o0.1 1).toInt ≤ 6) (f_o0_2 : ((-1) : Int) ≤ (o0.1 2).toInt ∧ (o0.1 2).toInt ≤ 2147483647) (x_0 : GI ((o1.1 0).toInt + 1) (o1.1 2).toInt (o1.2.1 4) (o1.2.1 5) (o1.2.1 8) (o1.2.1 9)) (x_1 : Lto (((o1.1 0).toInt + 1) + (o1.1 2).toInt) (o0.2.1 16)) (x_2 : Rwo (o0.2.1 12)) (x_3 : Dpc (o0.1 0).toInt (o0.1 6).toInt (o0.2.1 8) (o0.2.1 13) (Int.toNat (29 - v3.toInt)) v4.toInt) (x_4 : Srv v5.toInt v4.toInt (o0.1 0).toInt (o0.2.1 13) (o0.2.1 16)) (x_5 : Lmm (yo0.2.1 16) (o0.2.1 16)) (x_6 : (o1.1 0).toInt = (o0.1 0).toInt) (x_7 : v4.toInt = yv1.toInt - 8) (x_8 : 8 ≤ yv1.toInt) (x_9 : v4.toInt < (o0.1 6).toInt) (x_10 : v3.toInt ≤ 29) (x_11 : (yo1.1 2).toInt ≤ (o1.1 2).toInt) (x_12 : (o1.1 0).toInt = (yo1.1 0).toInt) (x_13 : 31 ≤ ((d : Int) + 1) + v3.toInt) (hm : 0 + (5 - v5.toInt) * 2 ≤ (n : Int)) : tt (fNl_literalOf_38 self (gNl_literalOf self n) v3 v4 v5 o0 o1) (QNl_literalOf yv1 yv3 yo0 yo1) := by
  unfold fNl_literalOf_38
  have g_o0_0 : (0 : Int) ≤ (o0.1 0).toInt ∧ (o0.1 0).toInt ≤ 8 := k_o0.1 0
  have ey_o0_0 : (o0.1 0).toInt = (yo0.1 0).toInt := congrArg Int32.toInt (r_o0.1 0 rfl)
  have ey_o0_2 : (o0.1 2).toInt = (yo0.1 2).toInt := congrArg Int32.toInt (r_o0.1 2 rfl)
  have g_o0_6 : (0 : Int) ≤ (o0.1 6).toInt ∧ (o0.1 6).toInt ≤ 30 := k_o0.1 6
  have ey_o0_6 : (o0.1 6).toInt = (yo0.1 6).toInt := congrArg Int32.toInt (r_o0.1 6 rfl)
  have g_o1_0 : (0 : Int) ≤ (o1.1 0).toInt ∧ (o1.1 0).toInt ≤ 8 := k_o1.1 0
  have ey_o1_0 : (o1.1 0).toInt = (yo1.1 0).toInt := congrArg Int32.toInt (r_o1.1 0 rfl)
  have g_o1_2 : (0 : Int) ≤ (o1.1 2).toInt ∧ (o1.1 2).toInt ≤ 200 := k_o1.1 2
  have g_o1_6 : (0 : Int) ≤ (o1.1 6).toInt ∧ (o1.1 6).toInt ≤ 0 := k_o1.1 6
  have ey_o1_6 : (o1.1 6).toInt = (yo1.1 6).toInt := congrArg Int32.toInt (r_o1.1 6 rfl)
  refine tt_n (ix_ok i_v4 (by decide) (by decide)) ?_
  refine tt_kv (P := fun z => ((0 : Int) ≤ z.toInt ∧ z.toInt ≤ 5) ∧ z = (o0.2.1 8 v4.toNatClampNeg) ∧ z.toInt = (o0.2.1 8 v4.toNatClampNeg).toInt) ⟨(k_o0.2 8 _), rfl, rfl⟩ (fun x1 qi2 => ?_)
  obtain ⟨i2, ax1, ei2⟩ := qi2
  refine tt_if (fun c3 => ?_) (fun c3 => ?_)
  · have wc3 : x1.toInt ≤ v5.toInt := c_le c3
    have p4 : Srd v4.toInt (o0.1 0).toInt (o0.2.1 8) (o0.2.1 13) (o0.2.1 16) := by exact Srd_i (j := v4.toNatClampNeg) x_4 (by assumption) (by rw [tn_n]; omega) (by omega)
    refine tt_b (sNl_sumOf _ _ _ k_o0 k_o1 i_v4 f_o0_1 f_o0_2 x_0 x_1 p4 x_2 (show (o1.1 0).toInt = (o0.1 0).toInt by omega)) (fun q5 hq5 => ?_)
    obtain ⟨i_q5, k_q5_2, n_q5_2, zq5_0, zq5_1, zq5_2, zq5_3, zq5_4, -⟩ := hq5
    have r_q5_2 := fr_tr r_o1 n_q5_2 rfl rfl rfl
    have e_q5_2_0 : (q5.2.1 0).toInt = (o1.1 0).toInt := congrArg Int32.toInt (n_q5_2.1 0 rfl)
    have g_q5_2_0 : (0 : Int) ≤ (q5.2.1 0).toInt ∧ (q5.2.1 0).toInt ≤ 8 := k_q5_2.1 0
    have g_q5_2_2 : (0 : Int) ≤ (q5.2.1 2).toInt ∧ (q5.2.1 2).toInt ≤ 200 := k_q5_2.1 2
    have e_q5_2_6 : (q5.2.1 6).toInt = (o1.1 6).toInt := congrArg Int32.toInt (n_q5_2.1 6 rfl)
    have g_q5_2_6 : (0 : Int) ≤ (q5.2.1 6).toInt ∧ (q5.2.1 6).toInt ≤ 0 := k_q5_2.1 6
    have zq5_1 : q5.1.toInt < 2 * (((q5.2.1 0).toInt + 1) + (q5.2.1 2).toInt) := zq5_1
    have zq5_2 : 0 ≤ q5.1.toInt := zq5_2
    have zq5_3 : (o1.1 2).toInt ≤ (q5.2.1 2).toInt := zq5_3
    have zq5_4 : (q5.2.1 0).toInt = (o1.1 0).toInt := zq5_4
    refine tt_n (ix_ok i_v4 (by decide) (by decide)) ?_
    refine tt_ko ?_
    have k6 := ok_xp (k := 16) (i := v4.toNatClampNeg) (v := q5.1) k_o0 (iv_w (a := (-1)) (b := 417) (by decide) (by decide) i_q5)
    have r7 := fr_xp (k := 16) (i := v4.toNatClampNeg) (v := q5.1) r_o0 rfl
    try unfold fNl_literalOf_92
    refine tt_n (ix_ok i_v4 (by decide) (by decide)) ?_
    refine tt_kv (P := fun z => (((-1) : Int) ≤ z.toInt ∧ z.toInt ≤ 417) ∧ z = (upd (o0.2.1 16) (v4.toNatClampNeg) q5.1 v4.toNatClampNeg) ∧ z.toInt = (upd (o0.2.1 16) (v4.toNatClampNeg) q5.1 v4.toNatClampNeg).toInt) ⟨(k6.2 16 _), rfl, rfl⟩ (fun x8 qi9 => ?_)
    obtain ⟨i9, ax8, ei9⟩ := qi9
    have t10 := congrArg Int32.toInt (ax8.trans (up_s _ _ _))
    refine tt_kv (P := fun z => ((0 : Int) ≤ z.toInt ∧ z.toInt ≤ 417) ∧ z = (op_mx x8 0)) ⟨iv_mx i9 (show (0 : Int) ≤ (0 : Int32).toInt ∧ (0 : Int32).toInt ≤ 0 by decide) (by decide) (by decide) (by decide) (by decide), rfl⟩ (fun x11 qi12 => ?_)
    obtain ⟨i12, ax11⟩ := qi12
    have t13 := mx_0 ax11
    have p14 : Lto (((q5.2.1 0).toInt + 1) + (q5.2.1 2).toInt) (upd (o0.2.1 16) (v4.toNatClampNeg) q5.1) := by exact Lto_s x_1 (by omega) (by omega)
    have p15 : Lmn yv1.toInt (yo0.2.1 16) (upd (o0.2.1 16) (v4.toNatClampNeg) q5.1) := by exact Lmn_u x_5 (by omega) (by rw [tn_n]; omega)
    exact tt_some ⟨i12, k6, r7, k_q5_2, r_q5_2, zq5_0, p14, p15, (show x11.toInt < 2 * (((q5.2.1 0).toInt + 1) + (q5.2.1 2).toInt) by omega), (show 0 ≤ x11.toInt by omega), (show (yo1.1 2).toInt ≤ (q5.2.1 2).toInt by omega), (show (q5.2.1 0).toInt = (yo1.1 0).toInt by omega), trivial⟩
  · have wc3 : v5.toInt < x1.toInt := c_nle c3
    have i16 : (0 : Int) ≤ v5.toInt ∧ v5.toInt ≤ 4 := nr_nlel c3 i_v5 i2 (by decide) (by decide)
    have i17 : (1 : Int) ≤ x1.toInt ∧ x1.toInt ≤ 5 := nr_nler c3 i_v5 i2 (by decide) (by decide)
    refine tt_kv (P := fun z => ((0 : Int) ≤ z.toInt ∧ z.toInt ≤ 174) ∧ z = (v4 * 6) ∧ z.toInt = v4.toInt * 6) ⟨iv_mul i_v4 (show (6 : Int) ≤ (6 : Int32).toInt ∧ (6 : Int32).toInt ≤ 6 by decide) (by decide) (by decide) (by decide) (by decide) (by decide), rfl, iq_mul i_v4 (show (6 : Int) ≤ (6 : Int32).toInt ∧ (6 : Int32).toInt ≤ 6 by decide) (by decide) (by decide) (by decide) (by decide)⟩ (fun x18 qi19 => ?_)
    obtain ⟨i19, ax18, ei19⟩ := qi19
    refine tt_kv (P := fun z => ((0 : Int) ≤ z.toInt ∧ z.toInt ≤ 178) ∧ z = (x18 + v5) ∧ z.toInt = x18.toInt + v5.toInt) ⟨iv_add i19 i16 (by decide) (by decide) (by decide) (by decide), rfl, iq_add i19 i16 (by decide) (by decide)⟩ (fun x20 qi21 => ?_)
    obtain ⟨i21, ax20, ei21⟩ := qi21
    refine tt_n (ix_ok i21 (by decide) (by decide)) ?_
    refine tt_kv (P := fun z => (((-1) : Int) ≤ z.toInt ∧ z.toInt ≤ 37) ∧ z = (o0.2.1 13 x20.toNatClampNeg) ∧ z.toInt = (o0.2.1 13 x20.toNatClampNeg).toInt) ⟨(k_o0.2 13 _), rfl, rfl⟩ (fun x22 qi23 => ?_)
    obtain ⟨i23, ax22, ei23⟩ := qi23
    have t24 := Dpc_at (k := v5.toInt) (v2 := v3.toInt + 1) x_3 ax22 (show _ = o0.2.1 8 v4.toNatClampNeg by assumption) (by rw [tn_n]; omega) (by rw [tn_n]; omega) (by omega) (by omega) rfl
    have t25 := Dpt_z t24 (by omega) (by omega)
    refine tt_kv (P := fun z => ((1 : Int) ≤ z.toInt ∧ z.toInt ≤ 30) ∧ z = (v3 + 1) ∧ z.toInt = v3.toInt + 1) ⟨iv_add i_v3 (show (1 : Int) ≤ (1 : Int32).toInt ∧ (1 : Int32).toInt ≤ 1 by decide) (by decide) (by decide) (by decide) (by decide), rfl, iq_add i_v3 (show (1 : Int) ≤ (1 : Int32).toInt ∧ (1 : Int32).toInt ≤ 1 by decide) (by decide) (by decide)⟩ (fun x26 qi27 => ?_)
    obtain ⟨i27, ax26, ei27⟩ := qi27
    have p28 : Dpt (o0.1 0).toInt (o0.1 6).toInt (o0.2.1 8) (o0.2.1 13) (Int.toNat (30 - x26.toInt)) x22.toInt := by exact Dpt_e (show Dpt _ _ _ _ _ _ by assumption) (by omega)
    refine tt_b (S _ _ _ _ k_o0 k_o1 (show (0 : Int) ≤ _ ∧ _ ≤ (37 : Int) by omega) (iv_w (a := 0) (b := 30) (by decide) (by decide) i27) f_o0_1 f_o0_2 x_0 x_1 x_2 p28 (show (o1.1 0).toInt = (o0.1 0).toInt by omega) (show 31 ≤ (d : Int) + x26.toInt by omega)) (fun q29 hq29 => ?_)
    obtain ⟨i_q29, k_q29_2_1, n_q29_2_1, k_q29_2_2, n_q29_2_2, zq29_0, zq29_1, zq29_2, zq29_3, zq29_4, zq29_5, zq29_6, -⟩ := hq29
    have r_q29_2_1 := fr_tr r_o0 n_q29_2_1 rfl rfl rfl
    have f_q29_2_1_1 : (1 : Int) ≤ (q29.2.1.1 1).toInt ∧ (q29.2.1.1 1).toInt ≤ 6 := by rw [n_q29_2_1.1 1 rfl]; exact f_o0_1
    have f_q29_2_1_2 : ((-1) : Int) ≤ (q29.2.1.1 2).toInt ∧ (q29.2.1.1 2).toInt ≤ 2147483647 := by rw [n_q29_2_1.1 2 rfl]; exact f_o0_2
    have e_q29_2_1_0 : (q29.2.1.1 0).toInt = (o0.1 0).toInt := congrArg Int32.toInt (n_q29_2_1.1 0 rfl)
    have g_q29_2_1_0 : (0 : Int) ≤ (q29.2.1.1 0).toInt ∧ (q29.2.1.1 0).toInt ≤ 8 := k_q29_2_1.1 0
    have e_q29_2_1_2 : (q29.2.1.1 2).toInt = (o0.1 2).toInt := congrArg Int32.toInt (n_q29_2_1.1 2 rfl)
    have e_q29_2_1_6 : (q29.2.1.1 6).toInt = (o0.1 6).toInt := congrArg Int32.toInt (n_q29_2_1.1 6 rfl)
    have g_q29_2_1_6 : (0 : Int) ≤ (q29.2.1.1 6).toInt ∧ (q29.2.1.1 6).toInt ≤ 30 := k_q29_2_1.1 6
    have r_q29_2_2 := fr_tr r_o1 n_q29_2_2 rfl rfl rfl
    have e_q29_2_2_0 : (q29.2.2.1 0).toInt = (o1.1 0).toInt := congrArg Int32.toInt (n_q29_2_2.1 0 rfl)
    have g_q29_2_2_0 : (0 : Int) ≤ (q29.2.2.1 0).toInt ∧ (q29.2.2.1 0).toInt ≤ 8 := k_q29_2_2.1 0
    have g_q29_2_2_2 : (0 : Int) ≤ (q29.2.2.1 2).toInt ∧ (q29.2.2.1 2).toInt ≤ 200 := k_q29_2_2.1 2
    have e_q29_2_2_6 : (q29.2.2.1 6).toInt = (o1.1 6).toInt := congrArg Int32.toInt (n_q29_2_2.1 6 rfl)
    have g_q29_2_2_6 : (0 : Int) ≤ (q29.2.2.1 6).toInt ∧ (q29.2.2.1 6).toInt ≤ 0 := k_q29_2_2.1 6
    have zq29_3 : q29.1.toInt < 2 * (((q29.2.2.1 0).toInt + 1) + (q29.2.2.1 2).toInt) := zq29_3
    have zq29_4 : 0 ≤ q29.1.toInt := zq29_4
    have zq29_5 : (o1.1 2).toInt ≤ (q29.2.2.1 2).toInt := zq29_5
    have zq29_6 : (q29.2.2.1 0).toInt = (o1.1 0).toInt := zq29_6
    have u30 : Rwo (q29.2.1.2.1 12) := by rw [n_q29_2_1.2.1 12 rfl]; exact x_2
    have u31 : Dpc (q29.2.1.1 0).toInt (q29.2.1.1 6).toInt (q29.2.1.2.1 8) (q29.2.1.2.1 13) (Int.toNat (29 - v3.toInt)) v4.toInt := by rw [n_q29_2_1.1 0 rfl, n_q29_2_1.1 6 rfl, n_q29_2_1.2.1 8 rfl, n_q29_2_1.2.1 13 rfl]; exact x_3
    refine tt_kv (P := fun z => ((1 : Int) ≤ z.toInt ∧ z.toInt ≤ 5) ∧ z = (v5 + 1) ∧ z.toInt = v5.toInt + 1) ⟨iv_add i16 (show (1 : Int) ≤ (1 : Int32).toInt ∧ (1 : Int32).toInt ≤ 1 by decide) (by decide) (by decide) (by decide) (by decide), rfl, iq_add i16 (show (1 : Int) ≤ (1 : Int32).toInt ∧ (1 : Int32).toInt ≤ 1 by decide) (by decide) (by decide)⟩ (fun x32 qi33 => ?_)
    obtain ⟨i33, ax32, ei33⟩ := qi33
    have p34 : Srv x32.toInt v4.toInt (q29.2.1.1 0).toInt (q29.2.1.2.1 13) (q29.2.1.2.1 16) := by exact Srv_s x_4 (n_q29_2_1.2.1 13 rfl) (by omega) (show Lmn _ _ _ by assumption) (by assumption) (by rw [tn_n]; omega) (by omega) (by omega) (by omega)
    have p35 : Lmm (yo0.2.1 16) (q29.2.1.2.1 16) := by exact Lmm_t x_5 (show Lmn _ _ _ by assumption).1
    exact H _ _ _ _ _ k_q29_2_1 r_q29_2_1 k_q29_2_2 r_q29_2_2 i_v3 i_v4 (iv_w (a := 0) (b := 5) (by decide) (by decide) i33) f_q29_2_1_1 f_q29_2_1_2 zq29_0 zq29_1 u30 u31 p34 p35 (show (q29.2.2.1 0).toInt = (q29.2.1.1 0).toInt by omega) (show v4.toInt = yv1.toInt - 8 by omega) (show 8 ≤ yv1.toInt by omega) (show v4.toInt < (q29.2.1.1 6).toInt by omega) (show v3.toInt ≤ 29 by omega) (show (yo1.1 2).toInt ≤ (q29.2.2.1 2).toInt by omega) (show (q29.2.2.1 0).toInt = (yo1.1 0).toInt by omega) (show 31 ≤ ((d : Int) + 1) + v3.toInt by omega) (show 0 + (5 - x32.toInt) * 2 < (n : Int) by omega)
set_option maxHeartbeats 4000000 in
set_option maxRecDepth 100000 in
theorem hNl_literalOf {self : Int32 → Int32 → cf_O → cf_O → Option (Int32 × cf_O × cf_O)} {d : Nat} (S : SNl d self) (yv1 : Int32) (yv3 : Int32) (yo0 : cf_O) (yo1 : cf_O) : ∀ n, HNl_literalOf self d yv1 yv3 yo0 yo1 n := by
  intro n
  induction n with
  | zero => exact (fun v3 v4 v5 o0 o1 k_o0 r_o0 k_o1 r_o1 i_v3 i_v4 i_v5 f_o0_1 f_o0_2 x_0 x_1 x_2 x_3 x_4 x_5 x_6 x_7 x_8 x_9 x_10 x_11 x_12 x_13 hm => by exact absurd (show 0 + (5 - v5.toInt) * 2 < (0 : Int) from hm) (by omega))
  | succ n ih => exact (fun v3 v4 v5 o0 o1 k_o0 r_o0 k_o1 r_o1 i_v3 i_v4 i_v5 f_o0_1 f_o0_2 x_0 x_1 x_2 x_3 x_4 x_5 x_6 x_7 x_8 x_9 x_10 x_11 x_12 x_13 hm => tNl_literalOf_38 S ih v3 v4 v5 o0 o1 k_o0 r_o0 k_o1 r_o1 i_v3 i_v4 i_v5 f_o0_1 f_o0_2 x_0 x_1 x_2 x_3 x_4 x_5 x_6 x_7 x_8 x_9 x_10 x_11 x_12 x_13 (by omega))
set_option maxHeartbeats 4000000 in
set_option maxRecDepth 100000 in
theorem bNl_literalOf {self : Int32 → Int32 → cf_O → cf_O → Option (Int32 × cf_O × cf_O)} {d : Nat} (S : SNl d self) (v1 : Int32) (v3 : Int32) (o0 : cf_O) (o1 : cf_O) (k_o0 : okO I_Nl o0) (k_o1 : okO I_Gr o1) (i_v1 : (0 : Int) ≤ v1.toInt ∧ v1.toInt ≤ 37) (i_v3 : (0 : Int) ≤ v3.toInt ∧ v3.toInt ≤ 30) (f_o0_1 : (1 : Int) ≤ (o0.1 1).toInt ∧ (o0.1 1).toInt ≤ 6) (f_o0_2 : ((-1) : Int) ≤ (o0.1 2).toInt ∧ (o0.1 2).toInt ≤ 2147483647) (x_0 : GI ((o1.1 0).toInt + 1) (o1.1 2).toInt (o1.2.1 4) (o1.2.1 5) (o1.2.1 8) (o1.2.1 9)) (x_1 : Lto (((o1.1 0).toInt + 1) + (o1.1 2).toInt) (o0.2.1 16)) (x_2 : Rwo (o0.2.1 12)) (x_3 : Dpt (o0.1 0).toInt (o0.1 6).toInt (o0.2.1 8) (o0.2.1 13) (Int.toNat (30 - v3.toInt)) v1.toInt) (x_4 : (o1.1 0).toInt = (o0.1 0).toInt) (x_5 : 31 ≤ ((d : Int) + 1) + v3.toInt) : tt (fNl_literalOfB self v1 v3 o0 o1) (QNl_literalOf v1 v3 o0 o1) := by
  have H := hNl_literalOf S v1 v3 o0 o1 cfFU
  have hm : (13 : Int) ≤ (cfFU : Nat) := by decide
  have r_o0 : Fr (fr_M [] [16] []) o0 o0 := fr_rfl
  have r_o1 : Fr (fr_M [2, 3] [4, 5, 6, 8, 9] []) o1 o1 := fr_rfl
  unfold fNl_literalOfB fNl_literalOf_0
  have g_o0_0 : (0 : Int) ≤ (o0.1 0).toInt ∧ (o0.1 0).toInt ≤ 8 := k_o0.1 0
  have g_o0_6 : (0 : Int) ≤ (o0.1 6).toInt ∧ (o0.1 6).toInt ≤ 30 := k_o0.1 6
  have g_o1_0 : (0 : Int) ≤ (o1.1 0).toInt ∧ (o1.1 0).toInt ≤ 8 := k_o1.1 0
  have g_o1_2 : (0 : Int) ≤ (o1.1 2).toInt ∧ (o1.1 2).toInt ≤ 200 := k_o1.1 2
  have g_o1_6 : (0 : Int) ≤ (o1.1 6).toInt ∧ (o1.1 6).toInt ≤ 0 := k_o1.1 6
  have t1 := Dpt_z x_3 (by omega) (by omega)
  refine tt_if (fun c2 => ?_) (fun c2 => ?_)
  · have wc2 : (8 : Int) ≤ v1.toInt := c_le c2
    have i3 : (8 : Int) ≤ v1.toInt ∧ v1.toInt ≤ 37 := nr_ler c2 (show (8 : Int) ≤ (8 : Int32).toInt ∧ (8 : Int32).toInt ≤ 8 by decide) i_v1 (by decide) (by decide)
    refine tt_kv (P := fun z => ((0 : Int) ≤ z.toInt ∧ z.toInt ≤ 29) ∧ z = (v1 - 8) ∧ z.toInt = v1.toInt - 8) ⟨iv_sub i3 (show (8 : Int) ≤ (8 : Int32).toInt ∧ (8 : Int32).toInt ≤ 8 by decide) (by decide) (by decide) (by decide) (by decide), rfl, iq_sub i3 (show (8 : Int) ≤ (8 : Int32).toInt ∧ (8 : Int32).toInt ≤ 8 by decide) (by decide) (by decide)⟩ (fun x4 qi5 => ?_)
    obtain ⟨i5, ax4, ei5⟩ := qi5
    refine tt_n (ix_ok i5 (by decide) (by decide)) ?_
    refine tt_kv (P := fun z => (((-1) : Int) ≤ z.toInt ∧ z.toInt ≤ 417) ∧ z = (o0.2.1 16 x4.toNatClampNeg) ∧ z.toInt = (o0.2.1 16 x4.toNatClampNeg).toInt) ⟨(k_o0.2 16 _), rfl, rfl⟩ (fun x6 qi7 => ?_)
    obtain ⟨i7, ax6, ei7⟩ := qi7
    have t8 := Lto_at x_1 ax6 (by omega)
    refine tt_if (fun c9 => ?_) (fun c9 => ?_)
    · have wc9 : x6.toInt = ((-1) : Int) := c_eq c9
      have i10 : ((-1) : Int) ≤ x6.toInt ∧ x6.toInt ≤ (-1) := nr_eql c9 i7 (show ((-1) : Int) ≤ ((-1) : Int32).toInt ∧ ((-1) : Int32).toInt ≤ (-1) by decide) (by decide) (by decide)
      refine tt_if (fun c11 => ?_) (fun c11 => ?_)
      · have wc11 : (30 : Int) ≤ v3.toInt := c_le c11
        have i12 : (30 : Int) ≤ v3.toInt ∧ v3.toInt ≤ 30 := nr_ler c11 (show (30 : Int) ≤ (30 : Int32).toInt ∧ (30 : Int32).toInt ≤ 30 by decide) i_v3 (by decide) (by decide)
        try unfold fNl_literalOf_92
        refine tt_n (ix_ok i5 (by decide) (by decide)) ?_
        refine tt_kv (P := fun z => (((-1) : Int) ≤ z.toInt ∧ z.toInt ≤ 417) ∧ z = (o0.2.1 16 x4.toNatClampNeg) ∧ z.toInt = (o0.2.1 16 x4.toNatClampNeg).toInt) ⟨(k_o0.2 16 _), rfl, rfl⟩ (fun x13 qi14 => ?_)
        obtain ⟨i14, ax13, ei14⟩ := qi14
        have t15 := Lto_at x_1 ax13 (by omega)
        refine tt_kv (P := fun z => ((0 : Int) ≤ z.toInt ∧ z.toInt ≤ 417) ∧ z = (op_mx x13 0)) ⟨iv_mx i14 (show (0 : Int) ≤ (0 : Int32).toInt ∧ (0 : Int32).toInt ≤ 0 by decide) (by decide) (by decide) (by decide) (by decide), rfl⟩ (fun x16 qi17 => ?_)
        obtain ⟨i17, ax16⟩ := qi17
        have t18 := mx_0 ax16
        have p19 : Lmn v1.toInt (o0.2.1 16) (o0.2.1 16) := by first | exact Lmn_0 (by omega) | exact Lmn_1 (show _ = o0.2.1 16 _ by assumption) (by rw [tn_n]; omega) (by omega) | (exfalso; omega)
        exact tt_some ⟨i17, k_o0, r_o0, k_o1, r_o1, x_0, x_1, p19, (show x16.toInt < 2 * (((o1.1 0).toInt + 1) + (o1.1 2).toInt) by omega), (show 0 ≤ x16.toInt by omega), (show (o1.1 2).toInt ≤ (o1.1 2).toInt by omega), (show (o1.1 0).toInt = (o1.1 0).toInt by omega), trivial⟩
      · have wc11 : v3.toInt < (30 : Int) := c_nle c11
        have i20 : (0 : Int) ≤ v3.toInt ∧ v3.toInt ≤ 29 := nr_nlel c11 i_v3 (show (30 : Int) ≤ (30 : Int32).toInt ∧ (30 : Int32).toInt ≤ 30 by decide) (by decide) (by decide)
        have p21 : Dpc (o0.1 0).toInt (o0.1 6).toInt (o0.2.1 8) (o0.2.1 13) (Int.toNat (29 - v3.toInt)) x4.toInt := by exact Dpc_i x_3 (by omega) (by omega) (by omega) (by omega)
        have p22 : Srv 0 x4.toInt (o0.1 0).toInt (o0.2.1 13) (o0.2.1 16) := by exact Srv_0
        have p23 : Lmm (o0.2.1 16) (o0.2.1 16) := by exact Lmm_0
        exact H _ _ _ _ _ k_o0 r_o0 k_o1 r_o1 i20 i5 (iv_w (a := 0) (b := 5) (by decide) (by decide) (show (0 : Int) ≤ (0 : Int32).toInt ∧ (0 : Int32).toInt ≤ 0 by decide)) f_o0_1 f_o0_2 x_0 x_1 x_2 p21 p22 p23 (show (o1.1 0).toInt = (o0.1 0).toInt by omega) (show x4.toInt = v1.toInt - 8 by omega) (show 8 ≤ v1.toInt by omega) (show x4.toInt < (o0.1 6).toInt by omega) (show v3.toInt ≤ 29 by omega) (show (o1.1 2).toInt ≤ (o1.1 2).toInt by omega) (show (o1.1 0).toInt = (o1.1 0).toInt by omega) (show 31 ≤ ((d : Int) + 1) + v3.toInt by omega) (show 0 + (5 - 0) * 2 < ((cfFU : Nat) : Int) by omega)
    · have wc9 : ¬ x6.toInt = ((-1) : Int) := c_ne c9
      have i24 : (0 : Int) ≤ x6.toInt ∧ x6.toInt ≤ 417 := nr_nela c9 i7 (show ((-1) : Int) ≤ ((-1) : Int32).toInt ∧ ((-1) : Int32).toInt ≤ (-1) by decide) (by decide) (by decide)
      try unfold fNl_literalOf_92
      refine tt_n (ix_ok i5 (by decide) (by decide)) ?_
      refine tt_kv (P := fun z => (((-1) : Int) ≤ z.toInt ∧ z.toInt ≤ 417) ∧ z = (o0.2.1 16 x4.toNatClampNeg) ∧ z.toInt = (o0.2.1 16 x4.toNatClampNeg).toInt) ⟨(k_o0.2 16 _), rfl, rfl⟩ (fun x25 qi26 => ?_)
      obtain ⟨i26, ax25, ei26⟩ := qi26
      have t27 := Lto_at x_1 ax25 (by omega)
      refine tt_kv (P := fun z => ((0 : Int) ≤ z.toInt ∧ z.toInt ≤ 417) ∧ z = (op_mx x25 0)) ⟨iv_mx i26 (show (0 : Int) ≤ (0 : Int32).toInt ∧ (0 : Int32).toInt ≤ 0 by decide) (by decide) (by decide) (by decide) (by decide), rfl⟩ (fun x28 qi29 => ?_)
      obtain ⟨i29, ax28⟩ := qi29
      have t30 := mx_0 ax28
      have p31 : Lmn v1.toInt (o0.2.1 16) (o0.2.1 16) := by first | exact Lmn_0 (by omega) | exact Lmn_1 (show _ = o0.2.1 16 _ by assumption) (by rw [tn_n]; omega) (by omega) | (exfalso; omega)
      exact tt_some ⟨i29, k_o0, r_o0, k_o1, r_o1, x_0, x_1, p31, (show x28.toInt < 2 * (((o1.1 0).toInt + 1) + (o1.1 2).toInt) by omega), (show 0 ≤ x28.toInt by omega), (show (o1.1 2).toInt ≤ (o1.1 2).toInt by omega), (show (o1.1 0).toInt = (o1.1 0).toInt by omega), trivial⟩
  · have wc2 : v1.toInt < (8 : Int) := c_nle c2
    have i32 : (0 : Int) ≤ v1.toInt ∧ v1.toInt ≤ 7 := nr_nlel c2 i_v1 (show (8 : Int) ≤ (8 : Int32).toInt ∧ (8 : Int32).toInt ≤ 8 by decide) (by decide) (by decide)
    refine tt_kv (P := fun z => ((1 : Int) ≤ z.toInt ∧ z.toInt ≤ 8) ∧ z = (v1 + 1) ∧ z.toInt = v1.toInt + 1) ⟨iv_add i32 (show (1 : Int) ≤ (1 : Int32).toInt ∧ (1 : Int32).toInt ≤ 1 by decide) (by decide) (by decide) (by decide) (by decide), rfl, iq_add i32 (show (1 : Int) ≤ (1 : Int32).toInt ∧ (1 : Int32).toInt ≤ 1 by decide) (by decide) (by decide)⟩ (fun x33 qi34 => ?_)
    obtain ⟨i34, ax33, ei34⟩ := qi34
    refine tt_kv (P := fun z => ((2 : Int) ≤ z.toInt ∧ z.toInt ≤ 16) ∧ z = (2 * x33) ∧ z.toInt = 2 * x33.toInt) ⟨iv_mul (show (2 : Int) ≤ (2 : Int32).toInt ∧ (2 : Int32).toInt ≤ 2 by decide) i34 (by decide) (by decide) (by decide) (by decide) (by decide), rfl, iq_mul (show (2 : Int) ≤ (2 : Int32).toInt ∧ (2 : Int32).toInt ≤ 2 by decide) i34 (by decide) (by decide) (by decide) (by decide)⟩ (fun x35 qi36 => ?_)
    obtain ⟨i36, ax35, ei36⟩ := qi36
    have p37 : Lmn v1.toInt (o0.2.1 16) (o0.2.1 16) := by first | exact Lmn_0 (by omega) | exact Lmn_1 (show _ = o0.2.1 16 _ by assumption) (by rw [tn_n]; omega) (by omega) | (exfalso; omega)
    exact tt_some ⟨(iv_w (a := 0) (b := 417) (by decide) (by decide) i36), k_o0, r_o0, k_o1, r_o1, x_0, x_1, p37, (show x35.toInt < 2 * (((o1.1 0).toInt + 1) + (o1.1 2).toInt) by omega), (show 0 ≤ x35.toInt by omega), (show (o1.1 2).toInt ≤ (o1.1 2).toInt by omega), (show (o1.1 0).toInt = (o1.1 0).toInt by omega), trivial⟩
theorem dNl_literalOf : ∀ d : Nat, SNl d (fNl_literalOfD d)
  | 0 => fun v1 v3 o0 o1 k_o0 k_o1 i_v1 i_v3 f_o0_1 f_o0_2 x_0 x_1 x_2 x_3 x_4 x_5 => by exfalso; omega
  | d + 1 => fun v1 v3 o0 o1 k_o0 k_o1 i_v1 i_v3 f_o0_1 f_o0_2 x_0 x_1 x_2 x_3 x_4 x_5 => bNl_literalOf (d := d) (dNl_literalOf d) v1 v3 o0 o1 k_o0 k_o1 i_v1 i_v3 f_o0_1 f_o0_2 x_0 x_1 x_2 x_3 x_4 (by omega)
theorem sNl_literalOf (v1 : Int32) (v3 : Int32) (o0 : cf_O) (o1 : cf_O) (k_o0 : okO I_Nl o0) (k_o1 : okO I_Gr o1) (i_v1 : (0 : Int) ≤ v1.toInt ∧ v1.toInt ≤ 37) (i_v3 : (0 : Int) ≤ v3.toInt ∧ v3.toInt ≤ 30) (f_o0_1 : (1 : Int) ≤ (o0.1 1).toInt ∧ (o0.1 1).toInt ≤ 6) (f_o0_2 : ((-1) : Int) ≤ (o0.1 2).toInt ∧ (o0.1 2).toInt ≤ 2147483647) (x_0 : GI ((o1.1 0).toInt + 1) (o1.1 2).toInt (o1.2.1 4) (o1.2.1 5) (o1.2.1 8) (o1.2.1 9)) (x_1 : Lto (((o1.1 0).toInt + 1) + (o1.1 2).toInt) (o0.2.1 16)) (x_2 : Rwo (o0.2.1 12)) (x_3 : Dpt (o0.1 0).toInt (o0.1 6).toInt (o0.2.1 8) (o0.2.1 13) (Int.toNat (30 - v3.toInt)) v1.toInt) (x_4 : (o1.1 0).toInt = (o0.1 0).toInt) : tt (fNl_literalOf v1 v3 o0 o1) (QNl_literalOf v1 v3 o0 o1) := dNl_literalOf 31 v1 v3 o0 o1 k_o0 k_o1 i_v1 i_v3 f_o0_1 f_o0_2 x_0 x_1 x_2 x_3 x_4 (by omega)
def QNl_buildInto (o0 : cf_O) (o1 : cf_O) (r : (cf_O × cf_O)) : Prop := (okO I_Nl r.1) ∧ (Fr (fr_M [] [16] []) o0 r.1) ∧ (okO I_Gr r.2) ∧ (Fr (fr_M [0, 1, 2, 3] [4, 5, 6, 7, 8, 9] []) o1 r.2) ∧ (GI ((r.2.1 0).toInt + 1) (r.2.1 2).toInt (r.2.2.1 4) (r.2.2.1 5) (r.2.2.1 8) (r.2.2.1 9)) ∧ (No (r.2.1 1).toInt (((r.2.1 0).toInt + 1) + (r.2.1 2).toInt) (r.2.2.1 7)) ∧ ((r.2.1 0).toInt = (r.1.1 0).toInt) ∧ ((r.2.1 1).toInt = (r.1.1 1).toInt) ∧ True
def HNl_buildInto (yo0 : cf_O) (yo1 : cf_O) (n : Nat) : Prop := (∀ (v2 : Int32) (o0 : cf_O) (o1 : cf_O), (okO I_Nl o0) → (Fr (fr_M [] [16] []) yo0 o0) → (okO I_Gr o1) → (Fr (fr_M [0, 1, 2, 3] [4, 5, 6, 7, 8, 9] []) yo1 o1) → ((0 : Int) ≤ v2.toInt ∧ v2.toInt ≤ 6) → (((-1) : Int) ≤ (o0.1 2).toInt ∧ (o0.1 2).toInt ≤ 2147483647) → (Nok (o0.1 1).toInt (o0.1 0).toInt (o0.1 6).toInt (o0.2.1 8) (o0.2.1 13) (o0.2.1 14)) → (Rwo (o0.2.1 12)) → (GI ((o1.1 0).toInt + 1) (o1.1 2).toInt (o1.2.1 4) (o1.2.1 5) (o1.2.1 8) (o1.2.1 9)) → (Lto (((o1.1 0).toInt + 1) + (o1.1 2).toInt) (o0.2.1 16)) → (No v2.toInt (((o1.1 0).toInt + 1) + (o1.1 2).toInt) (o1.2.1 7)) → ((o1.1 0).toInt = (o0.1 0).toInt) → ((o1.1 1).toInt = (o0.1 1).toInt) → 0 + (6 - v2.toInt) * 2 < (n : Int) → tt (gNl_buildInto n 0 v2 o0 o1) (QNl_buildInto yo0 yo1))
set_option maxHeartbeats 4000000 in
set_option maxRecDepth 100000 in
theorem tNl_buildInto_22 {yo0 : cf_O} {yo1 : cf_O} {n : Nat} (H : HNl_buildInto yo0 yo1 n) (v2 : Int32) (o0 : cf_O) (o1 : cf_O) (k_o0 : okO I_Nl o0) (r_o0 : Fr (fr_M [] [16] []) yo0 o0) (k_o1 : okO I_Gr o1) (r_o1 : Fr (fr_M [0, 1, 2, 3] [4, 5, 6, 7, 8, 9] []) yo1 o1) (i_v2 : (0 : Int) ≤ v2.toInt ∧ v2.toInt ≤ 6) (f_o0_2 : ((-1) : Int) ≤ (o0.1 2).toInt ∧ (o0.1 2).toInt ≤ 2147483647) (x_0 : Nok (o0.1 1).toInt (o0.1 0).toInt (o0.1 6).toInt (o0.2.1 8) (o0.2.1 13) (o0.2.1 14)) (x_1 : Rwo (o0.2.1 12)) (x_2 : GI ((o1.1 0).toInt + 1) (o1.1 2).toInt (o1.2.1 4) (o1.2.1 5) (o1.2.1 8) (o1.2.1 9)) (x_3 : Lto (((o1.1 0).toInt + 1) + (o1.1 2).toInt) (o0.2.1 16)) (x_4 : No v2.toInt (((o1.1 0).toInt + 1) + (o1.1 2).toInt) (o1.2.1 7)) (x_5 : (o1.1 0).toInt = (o0.1 0).toInt) (x_6 : (o1.1 1).toInt = (o0.1 1).toInt) (hm : 0 + (6 - v2.toInt) * 2 ≤ (n : Int)) : tt (fNl_buildInto_22 (gNl_buildInto n) v2 o0 o1) (QNl_buildInto yo0 yo1) := by
  unfold fNl_buildInto_22
  have g_o0_0 : (0 : Int) ≤ (o0.1 0).toInt ∧ (o0.1 0).toInt ≤ 8 := k_o0.1 0
  have ey_o0_0 : (o0.1 0).toInt = (yo0.1 0).toInt := congrArg Int32.toInt (r_o0.1 0 rfl)
  have g_o0_1 : (0 : Int) ≤ (o0.1 1).toInt ∧ (o0.1 1).toInt ≤ 6 := k_o0.1 1
  have ey_o0_1 : (o0.1 1).toInt = (yo0.1 1).toInt := congrArg Int32.toInt (r_o0.1 1 rfl)
  have ey_o0_2 : (o0.1 2).toInt = (yo0.1 2).toInt := congrArg Int32.toInt (r_o0.1 2 rfl)
  have g_o0_6 : (0 : Int) ≤ (o0.1 6).toInt ∧ (o0.1 6).toInt ≤ 30 := k_o0.1 6
  have ey_o0_6 : (o0.1 6).toInt = (yo0.1 6).toInt := congrArg Int32.toInt (r_o0.1 6 rfl)
  have g_o1_0 : (0 : Int) ≤ (o1.1 0).toInt ∧ (o1.1 0).toInt ≤ 8 := k_o1.1 0
  have g_o1_1 : (0 : Int) ≤ (o1.1 1).toInt ∧ (o1.1 1).toInt ≤ 6 := k_o1.1 1
  have g_o1_2 : (0 : Int) ≤ (o1.1 2).toInt ∧ (o1.1 2).toInt ≤ 200 := k_o1.1 2
  have g_o1_6 : (0 : Int) ≤ (o1.1 6).toInt ∧ (o1.1 6).toInt ≤ 0 := k_o1.1 6
  have ey_o1_6 : (o1.1 6).toInt = (yo1.1 6).toInt := congrArg Int32.toInt (r_o1.1 6 rfl)
  refine tt_if (fun c1 => ?_) (fun c1 => ?_)
  · have wc1 : (o0.1 1).toInt ≤ v2.toInt := c_le c1
    have p2 : No (o1.1 1).toInt (((o1.1 0).toInt + 1) + (o1.1 2).toInt) (o1.2.1 7) := by exact No_w x_4 (by omega) (by omega)
    exact tt_some ⟨k_o0, r_o0, k_o1, r_o1, x_2, p2, (show (o1.1 0).toInt = (o0.1 0).toInt by omega), (show (o1.1 1).toInt = (o0.1 1).toInt by omega), trivial⟩
  · have wc1 : v2.toInt < (o0.1 1).toInt := c_nle c1
    have i3 : (0 : Int) ≤ v2.toInt ∧ v2.toInt ≤ 5 := nr_nlel c1 i_v2 (k_o0.1 1) (by decide) (by decide)
    have i4 : (1 : Int) ≤ (o0.1 1).toInt ∧ (o0.1 1).toInt ≤ 6 := nr_nler c1 i_v2 (k_o0.1 1) (by decide) (by decide)
    refine tt_n (ix_ok i3 (by decide) (by decide)) ?_
    refine tt_kv (P := fun z => (((-1) : Int) ≤ z.toInt ∧ z.toInt ≤ 37) ∧ z = (o0.2.1 14 v2.toNatClampNeg) ∧ z.toInt = (o0.2.1 14 v2.toNatClampNeg).toInt) ⟨(k_o0.2 14 _), rfl, rfl⟩ (fun x5 qi6 => ?_)
    obtain ⟨i6, ax5, ei6⟩ := qi6
    have t7 := Nok_p x_0 ax5 (by rw [tn_n]; omega)
    have p8 : Dpt (o0.1 0).toInt (o0.1 6).toInt (o0.2.1 8) (o0.2.1 13) (Int.toNat (30 - 0)) x5.toInt := by exact Nok_at x_0 (by assumption) (by rw [tn_n]; omega)
    refine tt_b (sNl_literalOf _ _ _ _ k_o0 k_o1 (show (0 : Int) ≤ _ ∧ _ ≤ (37 : Int) by omega) (iv_w (a := 0) (b := 30) (by decide) (by decide) (show (0 : Int) ≤ (0 : Int32).toInt ∧ (0 : Int32).toInt ≤ 0 by decide)) i4 f_o0_2 x_2 x_3 x_1 p8 (show (o1.1 0).toInt = (o0.1 0).toInt by omega)) (fun q9 hq9 => ?_)
    obtain ⟨i_q9, k_q9_2_1, n_q9_2_1, k_q9_2_2, n_q9_2_2, zq9_0, zq9_1, zq9_2, zq9_3, zq9_4, zq9_5, zq9_6, -⟩ := hq9
    have r_q9_2_1 := fr_tr r_o0 n_q9_2_1 rfl rfl rfl
    have f_q9_2_1_1 : (1 : Int) ≤ (q9.2.1.1 1).toInt ∧ (q9.2.1.1 1).toInt ≤ 6 := by rw [n_q9_2_1.1 1 rfl]; exact i4
    have f_q9_2_1_2 : ((-1) : Int) ≤ (q9.2.1.1 2).toInt ∧ (q9.2.1.1 2).toInt ≤ 2147483647 := by rw [n_q9_2_1.1 2 rfl]; exact f_o0_2
    have e_q9_2_1_0 : (q9.2.1.1 0).toInt = (o0.1 0).toInt := congrArg Int32.toInt (n_q9_2_1.1 0 rfl)
    have g_q9_2_1_0 : (0 : Int) ≤ (q9.2.1.1 0).toInt ∧ (q9.2.1.1 0).toInt ≤ 8 := k_q9_2_1.1 0
    have e_q9_2_1_1 : (q9.2.1.1 1).toInt = (o0.1 1).toInt := congrArg Int32.toInt (n_q9_2_1.1 1 rfl)
    have e_q9_2_1_2 : (q9.2.1.1 2).toInt = (o0.1 2).toInt := congrArg Int32.toInt (n_q9_2_1.1 2 rfl)
    have e_q9_2_1_6 : (q9.2.1.1 6).toInt = (o0.1 6).toInt := congrArg Int32.toInt (n_q9_2_1.1 6 rfl)
    have g_q9_2_1_6 : (0 : Int) ≤ (q9.2.1.1 6).toInt ∧ (q9.2.1.1 6).toInt ≤ 30 := k_q9_2_1.1 6
    have r_q9_2_2 := fr_tr r_o1 n_q9_2_2 rfl rfl rfl
    have e_q9_2_2_0 : (q9.2.2.1 0).toInt = (o1.1 0).toInt := congrArg Int32.toInt (n_q9_2_2.1 0 rfl)
    have g_q9_2_2_0 : (0 : Int) ≤ (q9.2.2.1 0).toInt ∧ (q9.2.2.1 0).toInt ≤ 8 := k_q9_2_2.1 0
    have e_q9_2_2_1 : (q9.2.2.1 1).toInt = (o1.1 1).toInt := congrArg Int32.toInt (n_q9_2_2.1 1 rfl)
    have g_q9_2_2_1 : (0 : Int) ≤ (q9.2.2.1 1).toInt ∧ (q9.2.2.1 1).toInt ≤ 6 := k_q9_2_2.1 1
    have g_q9_2_2_2 : (0 : Int) ≤ (q9.2.2.1 2).toInt ∧ (q9.2.2.1 2).toInt ≤ 200 := k_q9_2_2.1 2
    have e_q9_2_2_6 : (q9.2.2.1 6).toInt = (o1.1 6).toInt := congrArg Int32.toInt (n_q9_2_2.1 6 rfl)
    have g_q9_2_2_6 : (0 : Int) ≤ (q9.2.2.1 6).toInt ∧ (q9.2.2.1 6).toInt ≤ 0 := k_q9_2_2.1 6
    have zq9_3 : q9.1.toInt < 2 * (((q9.2.2.1 0).toInt + 1) + (q9.2.2.1 2).toInt) := zq9_3
    have zq9_4 : 0 ≤ q9.1.toInt := zq9_4
    have zq9_5 : (o1.1 2).toInt ≤ (q9.2.2.1 2).toInt := zq9_5
    have zq9_6 : (q9.2.2.1 0).toInt = (o1.1 0).toInt := zq9_6
    have u10 : Nok (q9.2.1.1 1).toInt (q9.2.1.1 0).toInt (q9.2.1.1 6).toInt (q9.2.1.2.1 8) (q9.2.1.2.1 13) (q9.2.1.2.1 14) := by rw [n_q9_2_1.1 0 rfl, n_q9_2_1.1 1 rfl, n_q9_2_1.1 6 rfl, n_q9_2_1.2.1 8 rfl, n_q9_2_1.2.1 13 rfl, n_q9_2_1.2.1 14 rfl]; exact x_0
    have u11 : Rwo (q9.2.1.2.1 12) := by rw [n_q9_2_1.2.1 12 rfl]; exact x_1
    refine tt_n (ix_ok i3 (by decide) (by decide)) ?_
    refine tt_ko ?_
    have k12 := ok_xp (k := 7) (i := v2.toNatClampNeg) (v := q9.1) k_q9_2_2 i_q9
    have r13 := fr_xp (k := 7) (i := v2.toNatClampNeg) (v := q9.1) r_q9_2_2 rfl
    refine tt_kv (P := fun z => ((1 : Int) ≤ z.toInt ∧ z.toInt ≤ 6) ∧ z = (v2 + 1) ∧ z.toInt = v2.toInt + 1) ⟨iv_add i3 (show (1 : Int) ≤ (1 : Int32).toInt ∧ (1 : Int32).toInt ≤ 1 by decide) (by decide) (by decide) (by decide) (by decide), rfl, iq_add i3 (show (1 : Int) ≤ (1 : Int32).toInt ∧ (1 : Int32).toInt ≤ 1 by decide) (by decide) (by decide)⟩ (fun x14 qi15 => ?_)
    obtain ⟨i15, ax14, ei15⟩ := qi15
    have p16 : No x14.toInt (((q9.2.2.1 0).toInt + 1) + (q9.2.2.1 2).toInt) (upd (q9.2.2.2.1 7) (v2.toNatClampNeg) q9.1) := by rw [n_q9_2_2.2.1 7 rfl]; exact No_s (No_w x_4 (Int.le_refl _) (by omega)) (by omega) (by rw [tn_n]; omega) (by omega)
    exact H _ _ _ k_q9_2_1 r_q9_2_1 k12 r13 (iv_w (a := 0) (b := 6) (by decide) (by decide) i15) f_q9_2_1_2 u10 u11 zq9_0 zq9_1 p16 (show (q9.2.2.1 0).toInt = (q9.2.1.1 0).toInt by omega) (show (q9.2.2.1 1).toInt = (q9.2.1.1 1).toInt by omega) (show 0 + (6 - x14.toInt) * 2 < (n : Int) by omega)
set_option maxHeartbeats 4000000 in
set_option maxRecDepth 100000 in
theorem hNl_buildInto (yo0 : cf_O) (yo1 : cf_O) : ∀ n, HNl_buildInto yo0 yo1 n := by
  intro n
  induction n with
  | zero => exact (fun v2 o0 o1 k_o0 r_o0 k_o1 r_o1 i_v2 f_o0_2 x_0 x_1 x_2 x_3 x_4 x_5 x_6 hm => by exact absurd (show 0 + (6 - v2.toInt) * 2 < (0 : Int) from hm) (by omega))
  | succ n ih => exact (fun v2 o0 o1 k_o0 r_o0 k_o1 r_o1 i_v2 f_o0_2 x_0 x_1 x_2 x_3 x_4 x_5 x_6 hm => tNl_buildInto_22 ih v2 o0 o1 k_o0 r_o0 k_o1 r_o1 i_v2 f_o0_2 x_0 x_1 x_2 x_3 x_4 x_5 x_6 (by omega))
set_option maxHeartbeats 4000000 in
set_option maxRecDepth 100000 in
theorem sNl_buildInto (o0 : cf_O) (o1 : cf_O) (k_o0 : okO I_Nl o0) (k_o1 : okO I_Gr o1) (f_o0_2 : ((-1) : Int) ≤ (o0.1 2).toInt ∧ (o0.1 2).toInt ≤ 2147483647) (x_0 : Nok (o0.1 1).toInt (o0.1 0).toInt (o0.1 6).toInt (o0.2.1 8) (o0.2.1 13) (o0.2.1 14)) (x_1 : Rwo (o0.2.1 12)) : tt (fNl_buildInto o0 o1) (QNl_buildInto o0 o1) := by
  have H := hNl_buildInto o0 o1 cfFU
  have hm : (15 : Int) ≤ (cfFU : Nat) := by decide
  have r_o0 : Fr (fr_M [] [16] []) o0 o0 := fr_rfl
  have r_o1 : Fr (fr_M [0, 1, 2, 3] [4, 5, 6, 7, 8, 9] []) o1 o1 := fr_rfl
  unfold fNl_buildInto fNl_buildInto_0
  have g_o0_0 : (0 : Int) ≤ (o0.1 0).toInt ∧ (o0.1 0).toInt ≤ 8 := k_o0.1 0
  have g_o0_1 : (0 : Int) ≤ (o0.1 1).toInt ∧ (o0.1 1).toInt ≤ 6 := k_o0.1 1
  have g_o0_6 : (0 : Int) ≤ (o0.1 6).toInt ∧ (o0.1 6).toInt ≤ 30 := k_o0.1 6
  have g_o1_0 : (0 : Int) ≤ (o1.1 0).toInt ∧ (o1.1 0).toInt ≤ 8 := k_o1.1 0
  have g_o1_1 : (0 : Int) ≤ (o1.1 1).toInt ∧ (o1.1 1).toInt ≤ 6 := k_o1.1 1
  have g_o1_2 : (0 : Int) ≤ (o1.1 2).toInt ∧ (o1.1 2).toInt ≤ 200 := k_o1.1 2
  have g_o1_6 : (0 : Int) ≤ (o1.1 6).toInt ∧ (o1.1 6).toInt ≤ 0 := k_o1.1 6
  refine tt_b (sGr_restart _ _ _ k_o1 (k_o0.1 0) (k_o0.1 1)) (fun q1 hq1 => ?_)
  obtain ⟨k_q1, n_q1, f_q1_2, f_q1_3, zq1_0, zq1_1, zq1_2, zq1_3, -⟩ := hq1
  have r_q1 := fr_tr r_o1 n_q1 rfl rfl rfl
  have g_q1_0 : (0 : Int) ≤ (q1.1 0).toInt ∧ (q1.1 0).toInt ≤ 8 := k_q1.1 0
  have g_q1_1 : (0 : Int) ≤ (q1.1 1).toInt ∧ (q1.1 1).toInt ≤ 6 := k_q1.1 1
  have e_q1_6 : (q1.1 6).toInt = (o1.1 6).toInt := congrArg Int32.toInt (n_q1.1 6 rfl)
  have g_q1_6 : (0 : Int) ≤ (q1.1 6).toInt ∧ (q1.1 6).toInt ≤ 0 := k_q1.1 6
  have zq1_1 : (q1.1 0).toInt = (o0.1 0).toInt := zq1_1
  have zq1_2 : (q1.1 1).toInt = (o0.1 1).toInt := zq1_2
  have zq1_3 : (q1.1 2).toInt = 0 := zq1_3
  refine tt_b (sJArrays_fill_AII_Nl16 _ _ k_o0 (show ((-1) : Int) ≤ ((-1) : Int32).toInt ∧ ((-1) : Int32).toInt ≤ (-1) by decide) f_o0_2) (fun q2 hq2 => ?_)
  obtain ⟨k_q2, n_q2, zq2_0, -⟩ := hq2
  have r_q2 := fr_tr r_o0 n_q2 rfl rfl rfl
  have f_q2_2 : ((-1) : Int) ≤ (q2.1 2).toInt ∧ (q2.1 2).toInt ≤ 2147483647 := by rw [n_q2.1 2 rfl]; exact f_o0_2
  have e_q2_0 : (q2.1 0).toInt = (o0.1 0).toInt := congrArg Int32.toInt (n_q2.1 0 rfl)
  have g_q2_0 : (0 : Int) ≤ (q2.1 0).toInt ∧ (q2.1 0).toInt ≤ 8 := k_q2.1 0
  have e_q2_1 : (q2.1 1).toInt = (o0.1 1).toInt := congrArg Int32.toInt (n_q2.1 1 rfl)
  have g_q2_1 : (0 : Int) ≤ (q2.1 1).toInt ∧ (q2.1 1).toInt ≤ 6 := k_q2.1 1
  have e_q2_2 : (q2.1 2).toInt = (o0.1 2).toInt := congrArg Int32.toInt (n_q2.1 2 rfl)
  have e_q2_6 : (q2.1 6).toInt = (o0.1 6).toInt := congrArg Int32.toInt (n_q2.1 6 rfl)
  have g_q2_6 : (0 : Int) ≤ (q2.1 6).toInt ∧ (q2.1 6).toInt ≤ 30 := k_q2.1 6
  have u3 : Nok (q2.1 1).toInt (q2.1 0).toInt (q2.1 6).toInt (q2.2.1 8) (q2.2.1 13) (q2.2.1 14) := by rw [n_q2.1 0 rfl, n_q2.1 1 rfl, n_q2.1 6 rfl, n_q2.2.1 8 rfl, n_q2.2.1 13 rfl, n_q2.2.1 14 rfl]; exact x_0
  have u4 : Rwo (q2.2.1 12) := by rw [n_q2.2.1 12 rfl]; exact x_1
  have p5 : GI ((q1.1 0).toInt + 1) (q1.1 2).toInt (q1.2.1 4) (q1.2.1 5) (q1.2.1 8) (q1.2.1 9) := by exact GI_e (show GI _ _ _ _ _ _ by assumption) (by omega) (by omega)
  have p6 : Lto (((q1.1 0).toInt + 1) + (q1.1 2).toInt) (q2.2.1 16) := by exact Lto_0 (show Fmo _ _ by assumption)
  have p7 : No 0 (((q1.1 0).toInt + 1) + (q1.1 2).toInt) (q1.2.1 7) := by exact fun k hk => by omega
  exact H _ _ _ k_q2 r_q2 k_q1 r_q1 (iv_w (a := 0) (b := 6) (by decide) (by decide) (show (0 : Int) ≤ (0 : Int32).toInt ∧ (0 : Int32).toInt ≤ 0 by decide)) f_q2_2 u3 u4 p5 p6 p7 (show (q1.1 0).toInt = (q2.1 0).toInt by omega) (show (q1.1 1).toInt = (q2.1 1).toInt by omega) (show 0 + (6 - 0) * 2 < ((cfFU : Nat) : Int) by omega)
def QRe_use (v1 : Int32) (o0 : cf_O) (r : (cf_O)) : Prop := (okO I_Re r) ∧ (Fr (fr_M [] [0, 1] []) o0 r) ∧ (Us v1.toInt (o0.2.1 0) (r.2.1 0) (o0.2.1 1) (r.2.1 1)) ∧ True
set_option maxHeartbeats 4000000 in
set_option maxRecDepth 100000 in
theorem sRe_use (v1 : Int32) (o0 : cf_O) (k_o0 : okO I_Re o0) (i_v1 : (0 : Int) ≤ v1.toInt ∧ v1.toInt ≤ 417) : tt (fRe_use v1 o0) (QRe_use v1 o0) := by
  have r_o0 : Fr (fr_M [] [0, 1] []) o0 o0 := fr_rfl
  unfold fRe_use fRe_use_0
  refine tt_kv (P := fun z => ((0 : Int) ≤ z.toInt ∧ z.toInt ≤ 208) ∧ z = (v1 >>> (1 &&& 31)) ∧ z.toInt = v1.toInt / 2) ⟨iv_shr (p := 1) (q := 1) i_v1 (show (1 : Int) ≤ (1 : Int32).toInt ∧ (1 : Int32).toInt ≤ 1 by decide) (by decide) (by decide) (by decide) (by decide), rfl, i_s1 (Int.le_trans (by decide) i_v1.1)⟩ (fun x1 qi2 => ?_)
  obtain ⟨i2, ax1, ei2⟩ := qi2
  refine tt_n (ix_ok i2 (by decide) (by decide)) ?_
  refine tt_ko ?_
  have k3 := ok_xp (k := 0) (i := x1.toNatClampNeg) (v := (vp_nar .boolean 1)) k_o0 (iv_nz _)
  have r4 := fr_xp (k := 0) (i := x1.toNatClampNeg) (v := (vp_nar .boolean 1)) r_o0 rfl
  refine tt_kv (P := fun z => ((0 : Int) ≤ z.toInt ∧ z.toInt ≤ 208) ∧ z = (v1 >>> (1 &&& 31)) ∧ z.toInt = v1.toInt / 2) ⟨iv_shr (p := 1) (q := 1) i_v1 (show (1 : Int) ≤ (1 : Int32).toInt ∧ (1 : Int32).toInt ≤ 1 by decide) (by decide) (by decide) (by decide) (by decide), rfl, i_s1 (Int.le_trans (by decide) i_v1.1)⟩ (fun x5 qi6 => ?_)
  obtain ⟨i6, ax5, ei6⟩ := qi6
  refine tt_n (ix_ok i6 (by decide) (by decide)) ?_
  refine tt_kv (P := fun z => (((-2147483648) : Int) ≤ z.toInt ∧ z.toInt ≤ 2147483647) ∧ z = (o0.2.1 1 x5.toNatClampNeg) ∧ z.toInt = (o0.2.1 1 x5.toNatClampNeg).toInt) ⟨(k3.2 1 _), rfl, rfl⟩ (fun x7 qi8 => ?_)
  obtain ⟨i8, ax7, ei8⟩ := qi8
  refine tt_kv (P := fun z => (((-2147483648) : Int) ≤ z.toInt ∧ z.toInt ≤ 2147483647) ∧ z = (x7 + 1)) ⟨iv_top _, rfl⟩ (fun x9 qi10 => ?_)
  obtain ⟨i10, ax9⟩ := qi10
  refine tt_n (ix_ok i6 (by decide) (by decide)) ?_
  refine tt_ko ?_
  have k11 := ok_xp (k := 1) (i := x5.toNatClampNeg) (v := x9) k3 i10
  have r12 := fr_xp (k := 1) (i := x5.toNatClampNeg) (v := x9) r4 rfl
  have p13 : Us v1.toInt (o0.2.1 0) (upd (o0.2.1 0) (x1.toNatClampNeg) (vp_nar .boolean 1)) (o0.2.1 1) (upd (o0.2.1 1) (x5.toNatClampNeg) x9) := by exact Us_i (by rw [tn_n]; omega) (by rw [tn_n]; omega) (by decide) (show _ = o0.2.1 1 _ by assumption) (by assumption)
  exact tt_some ⟨k11, r12, p13, trivial⟩
def QRe_begin (o0 : cf_O) (o1 : cf_O) (o2 : cf_O) (r : (cf_O × cf_O)) : Prop := (okO I_Re r.1) ∧ (Fr (fr_M [] [0, 1, 4] []) o0 r.1) ∧ (okO I_Gr r.2) ∧ (Fr (fr_M [0, 1, 2, 3] [6, 8] []) o2 r.2) ∧ ((0 : Int) ≤ (r.2.1 2).toInt ∧ (r.2.1 2).toInt ≤ 0) ∧ ((0 : Int) ≤ (r.2.1 3).toInt ∧ (r.2.1 3).toInt ≤ 0) ∧ (Lk (-1) ((o1.1 0).toInt + 1) (o1.1 2).toInt (o1.1 1).toInt (o1.2.1 7) (sh ((o1.1 0).toInt + 1) (o1.2.1 4)) (sh ((o1.1 0).toInt + 1) (o1.2.1 5)) (cu (((o1.1 0).toInt + 1) + (o1.1 2).toInt) (r.1.2.1 0)) (cu (((o1.1 0).toInt + 1) + (o1.1 2).toInt) (r.1.2.1 1))) ∧ (Od ((o1.1 0).toInt + 1) (r.1.2.1 4)) ∧ (GI ((r.2.1 0).toInt + 1) (r.2.1 2).toInt (r.2.2.1 4) (r.2.2.1 5) (r.2.2.1 8) (r.2.2.1 9)) ∧ ((r.2.1 0).toInt = (o1.1 0).toInt) ∧ ((r.2.1 2).toInt = 0) ∧ ((r.2.1 1).toInt = (o1.1 1).toInt) ∧ True
def HRe_begin (yo0 : cf_O) (yo1 : cf_O) (yo2 : cf_O) (n : Nat) : Prop := (∀ (v3 : Int32) (o0 : cf_O) (o1 : cf_O) (o2 : cf_O), (okO I_Re o0) → (Fr (fr_M [] [0, 1, 4] []) yo0 o0) → (okO I_Gr o1) → (Fr (fr_M [] [] []) yo1 o1) → (okO I_Gr o2) → (Fr (fr_M [0, 1, 2, 3] [6, 8] []) yo2 o2) → ((0 : Int) ≤ v3.toInt ∧ v3.toInt ≤ 209) → ((0 : Int) ≤ (o2.1 2).toInt ∧ (o2.1 2).toInt ≤ 0) → ((0 : Int) ≤ (o2.1 3).toInt ∧ (o2.1 3).toInt ≤ 0) → (Gx ((o1.1 0).toInt + 1) (o1.1 2).toInt (sh ((o1.1 0).toInt + 1) (o1.2.1 4)) (sh ((o1.1 0).toInt + 1) (o1.2.1 5))) → (No (o1.1 1).toInt (((o1.1 0).toInt + 1) + (o1.1 2).toInt) (o1.2.1 7)) → (Fc v3.toInt (o0.2.1 1)) → (v3.toInt ≤ 1 + (o1.1 0).toInt + (o1.1 2).toInt) → (Od v3.toInt (o0.2.1 4)) → (GI ((o2.1 0).toInt + 1) (o2.1 2).toInt (o2.2.1 4) (o2.2.1 5) (o2.2.1 8) (o2.2.1 9)) → ((o2.1 0).toInt = (o1.1 0).toInt) → ((o2.1 2).toInt = 0) → ((o2.1 1).toInt = (o1.1 1).toInt) → 432 + (209 - v3.toInt) * 2 < (n : Int) → tt (gRe_begin n 0 v3 o0 o1 o2) (QRe_begin yo0 yo1 yo2)) ∧ (∀ (v3 : Int32) (o0 : cf_O) (o1 : cf_O) (o2 : cf_O), (okO I_Re o0) → (Fr (fr_M [] [0, 1, 4] []) yo0 o0) → (okO I_Gr o1) → (Fr (fr_M [] [] []) yo1 o1) → (okO I_Gr o2) → (Fr (fr_M [0, 1, 2, 3] [6, 8] []) yo2 o2) → ((0 : Int) ≤ v3.toInt ∧ v3.toInt ≤ 6) → ((0 : Int) ≤ (o2.1 2).toInt ∧ (o2.1 2).toInt ≤ 0) → ((0 : Int) ≤ (o2.1 3).toInt ∧ (o2.1 3).toInt ≤ 0) → (Gx ((o1.1 0).toInt + 1) (o1.1 2).toInt (sh ((o1.1 0).toInt + 1) (o1.2.1 4)) (sh ((o1.1 0).toInt + 1) (o1.2.1 5))) → (No (o1.1 1).toInt (((o1.1 0).toInt + 1) + (o1.1 2).toInt) (o1.2.1 7)) → (Uo v3.toInt (o1.2.1 7) (cu (((o1.1 0).toInt + 1) + (o1.1 2).toInt) (o0.2.1 1))) → (Nk v3.toInt (o1.2.1 7) (cu (((o1.1 0).toInt + 1) + (o1.1 2).toInt) (o0.2.1 0))) → (v3.toInt ≤ (o1.1 1).toInt) → (Od ((o1.1 0).toInt + 1) (o0.2.1 4)) → (GI ((o2.1 0).toInt + 1) (o2.1 2).toInt (o2.2.1 4) (o2.2.1 5) (o2.2.1 8) (o2.2.1 9)) → ((o2.1 0).toInt = (o1.1 0).toInt) → ((o2.1 2).toInt = 0) → ((o2.1 1).toInt = (o1.1 1).toInt) → 418 + (6 - v3.toInt) * 2 < (n : Int) → tt (gRe_begin n 1 v3 o0 o1 o2) (QRe_begin yo0 yo1 yo2)) ∧ (∀ (v3 : Int32) (o0 : cf_O) (o1 : cf_O) (o2 : cf_O), (okO I_Re o0) → (Fr (fr_M [] [0, 1, 4] []) yo0 o0) → (okO I_Gr o1) → (Fr (fr_M [] [] []) yo1 o1) → (okO I_Gr o2) → (Fr (fr_M [0, 1, 2, 3] [6, 8] []) yo2 o2) → ((0 : Int) ≤ v3.toInt ∧ v3.toInt ≤ 208) → ((0 : Int) ≤ (o2.1 2).toInt ∧ (o2.1 2).toInt ≤ 0) → ((0 : Int) ≤ (o2.1 3).toInt ∧ (o2.1 3).toInt ≤ 0) → (Gx ((o1.1 0).toInt + 1) (o1.1 2).toInt (sh ((o1.1 0).toInt + 1) (o1.2.1 4)) (sh ((o1.1 0).toInt + 1) (o1.2.1 5))) → (Lk (v3.toInt - ((o1.1 0).toInt + 1)) ((o1.1 0).toInt + 1) (o1.1 2).toInt (o1.1 1).toInt (o1.2.1 7) (sh ((o1.1 0).toInt + 1) (o1.2.1 4)) (sh ((o1.1 0).toInt + 1) (o1.2.1 5)) (cu (((o1.1 0).toInt + 1) + (o1.1 2).toInt) (o0.2.1 0)) (cu (((o1.1 0).toInt + 1) + (o1.1 2).toInt) (o0.2.1 1))) → ((o1.1 0).toInt ≤ v3.toInt) → (v3.toInt < 1 + (o1.1 0).toInt + (o1.1 2).toInt) → (Od ((o1.1 0).toInt + 1) (o0.2.1 4)) → (GI ((o2.1 0).toInt + 1) (o2.1 2).toInt (o2.2.1 4) (o2.2.1 5) (o2.2.1 8) (o2.2.1 9)) → ((o2.1 0).toInt = (o1.1 0).toInt) → ((o2.1 2).toInt = 0) → ((o2.1 1).toInt = (o1.1 1).toInt) → 0 + (v3.toInt - 0) * 2 < (n : Int) → tt (gRe_begin n 2 v3 o0 o1 o2) (QRe_begin yo0 yo1 yo2))
set_option maxHeartbeats 4000000 in
set_option maxRecDepth 100000 in
theorem tRe_begin_84 {yo0 : cf_O} {yo1 : cf_O} {yo2 : cf_O} {n : Nat} (H : HRe_begin yo0 yo1 yo2 n) (v3 : Int32) (o0 : cf_O) (o1 : cf_O) (o2 : cf_O) (k_o0 : okO I_Re o0) (r_o0 : Fr (fr_M [] [0, 1, 4] []) yo0 o0) (k_o1 : okO I_Gr o1) (r_o1 : Fr (fr_M [] [] []) yo1 o1) (k_o2 : okO I_Gr o2) (r_o2 : Fr (fr_M [0, 1, 2, 3] [6, 8] []) yo2 o2) (i_v3 : (0 : Int) ≤ v3.toInt ∧ v3.toInt ≤ 208) (f_o2_2 : (0 : Int) ≤ (o2.1 2).toInt ∧ (o2.1 2).toInt ≤ 0) (f_o2_3 : (0 : Int) ≤ (o2.1 3).toInt ∧ (o2.1 3).toInt ≤ 0) (x_0 : Gx ((o1.1 0).toInt + 1) (o1.1 2).toInt (sh ((o1.1 0).toInt + 1) (o1.2.1 4)) (sh ((o1.1 0).toInt + 1) (o1.2.1 5))) (x_1 : Lk (v3.toInt - ((o1.1 0).toInt + 1)) ((o1.1 0).toInt + 1) (o1.1 2).toInt (o1.1 1).toInt (o1.2.1 7) (sh ((o1.1 0).toInt + 1) (o1.2.1 4)) (sh ((o1.1 0).toInt + 1) (o1.2.1 5)) (cu (((o1.1 0).toInt + 1) + (o1.1 2).toInt) (o0.2.1 0)) (cu (((o1.1 0).toInt + 1) + (o1.1 2).toInt) (o0.2.1 1))) (x_2 : (o1.1 0).toInt ≤ v3.toInt) (x_3 : v3.toInt < 1 + (o1.1 0).toInt + (o1.1 2).toInt) (x_4 : Od ((o1.1 0).toInt + 1) (o0.2.1 4)) (x_5 : GI ((o2.1 0).toInt + 1) (o2.1 2).toInt (o2.2.1 4) (o2.2.1 5) (o2.2.1 8) (o2.2.1 9)) (x_6 : (o2.1 0).toInt = (o1.1 0).toInt) (x_7 : (o2.1 2).toInt = 0) (x_8 : (o2.1 1).toInt = (o1.1 1).toInt) (hm : 0 + (v3.toInt - 0) * 2 ≤ (n : Int)) : tt (fRe_begin_84 (gRe_begin n) v3 o0 o1 o2) (QRe_begin yo0 yo1 yo2) := by
  unfold fRe_begin_84
  have g_o0_0 : (0 : Int) ≤ (o0.1 0).toInt ∧ (o0.1 0).toInt ≤ 0 := k_o0.1 0
  have ey_o0_0 : (o0.1 0).toInt = (yo0.1 0).toInt := congrArg Int32.toInt (r_o0.1 0 rfl)
  have g_o0_1 : (0 : Int) ≤ (o0.1 1).toInt ∧ (o0.1 1).toInt ≤ 0 := k_o0.1 1
  have ey_o0_1 : (o0.1 1).toInt = (yo0.1 1).toInt := congrArg Int32.toInt (r_o0.1 1 rfl)
  have g_o0_2 : (0 : Int) ≤ (o0.1 2).toInt ∧ (o0.1 2).toInt ≤ 0 := k_o0.1 2
  have ey_o0_2 : (o0.1 2).toInt = (yo0.1 2).toInt := congrArg Int32.toInt (r_o0.1 2 rfl)
  have g_o1_0 : (0 : Int) ≤ (o1.1 0).toInt ∧ (o1.1 0).toInt ≤ 8 := k_o1.1 0
  have ey_o1_0 : (o1.1 0).toInt = (yo1.1 0).toInt := congrArg Int32.toInt (r_o1.1 0 rfl)
  have g_o1_1 : (0 : Int) ≤ (o1.1 1).toInt ∧ (o1.1 1).toInt ≤ 6 := k_o1.1 1
  have ey_o1_1 : (o1.1 1).toInt = (yo1.1 1).toInt := congrArg Int32.toInt (r_o1.1 1 rfl)
  have g_o1_2 : (0 : Int) ≤ (o1.1 2).toInt ∧ (o1.1 2).toInt ≤ 200 := k_o1.1 2
  have ey_o1_2 : (o1.1 2).toInt = (yo1.1 2).toInt := congrArg Int32.toInt (r_o1.1 2 rfl)
  have g_o2_0 : (0 : Int) ≤ (o2.1 0).toInt ∧ (o2.1 0).toInt ≤ 8 := k_o2.1 0
  have g_o2_1 : (0 : Int) ≤ (o2.1 1).toInt ∧ (o2.1 1).toInt ≤ 6 := k_o2.1 1
  refine tt_if (fun c1 => ?_) (fun c1 => ?_)
  · have wc1 : v3.toInt ≤ (o1.1 0).toInt := c_le c1
    have i2 : (0 : Int) ≤ v3.toInt ∧ v3.toInt ≤ 8 := nr_lel c1 i_v3 (k_o1.1 0) (by decide) (by decide)
    have p3 : Lk (-1) ((yo1.1 0).toInt + 1) (yo1.1 2).toInt (yo1.1 1).toInt (yo1.2.1 7) (sh ((yo1.1 0).toInt + 1) (yo1.2.1 4)) (sh ((yo1.1 0).toInt + 1) (yo1.2.1 5)) (cu (((yo1.1 0).toInt + 1) + (yo1.1 2).toInt) (o0.2.1 0)) (cu (((yo1.1 0).toInt + 1) + (yo1.1 2).toInt) (o0.2.1 1)) := by rw [← r_o1.1 0 rfl, ← r_o1.1 1 rfl, ← r_o1.1 2 rfl, ← r_o1.2.1 4 rfl, ← r_o1.2.1 5 rfl, ← r_o1.2.1 7 rfl]; exact Lk_e x_1 (by omega)
    have p4 : Od ((yo1.1 0).toInt + 1) (o0.2.1 4) := by rw [← r_o1.1 0 rfl]; exact x_4
    exact tt_some ⟨k_o0, r_o0, k_o2, r_o2, f_o2_2, f_o2_3, p3, p4, x_5, (show (o2.1 0).toInt = (yo1.1 0).toInt by omega), (show (o2.1 2).toInt = 0 by omega), (show (o2.1 1).toInt = (yo1.1 1).toInt by omega), trivial⟩
  · have wc1 : (o1.1 0).toInt < v3.toInt := c_nle c1
    have i5 : (1 : Int) ≤ v3.toInt ∧ v3.toInt ≤ 208 := nr_nler c1 (k_o1.1 0) i_v3 (by decide) (by decide)
    refine tt_n (ix_ok i5 (by decide) (by decide)) ?_
    refine tt_kv (P := fun z => ((0 : Int) ≤ z.toInt ∧ z.toInt ≤ 1) ∧ z.toInt = (o0.2.1 0 v3.toNatClampNeg).toInt) ⟨(k_o0.2 0 _), rfl⟩ (fun x6 qi7 => ?_)
    obtain ⟨i7, ei7⟩ := qi7
    refine tt_if (fun c8 => ?_) (fun c8 => ?_)
    · have wc8 : x6.toInt = (0 : Int) := c_eq c8
      have i9 : (0 : Int) ≤ x6.toInt ∧ x6.toInt ≤ 0 := nr_eql c8 i7 (show (0 : Int) ≤ (0 : Int32).toInt ∧ (0 : Int32).toInt ≤ 0 by decide) (by decide) (by decide)
      try unfold fRe_begin_121
      refine tt_kv (P := fun z => ((0 : Int) ≤ z.toInt ∧ z.toInt ≤ 207) ∧ z.toInt = v3.toInt + (-1)) ⟨iv_add i5 (show ((-1) : Int) ≤ ((-1) : Int32).toInt ∧ ((-1) : Int32).toInt ≤ (-1) by decide) (by decide) (by decide) (by decide) (by decide), iq_add i5 (show ((-1) : Int) ≤ ((-1) : Int32).toInt ∧ ((-1) : Int32).toInt ≤ (-1) by decide) (by decide) (by decide)⟩ (fun x10 qi11 => ?_)
      obtain ⟨i11, ei11⟩ := qi11
      have p12 : Lk (x10.toInt - ((o1.1 0).toInt + 1)) ((o1.1 0).toInt + 1) (o1.1 2).toInt (o1.1 1).toInt (o1.2.1 7) (sh ((o1.1 0).toInt + 1) (o1.2.1 4)) (sh ((o1.1 0).toInt + 1) (o1.2.1 5)) (cu (((o1.1 0).toInt + 1) + (o1.1 2).toInt) (o0.2.1 0)) (cu (((o1.1 0).toInt + 1) + (o1.1 2).toInt) (o0.2.1 1)) := by exact Lk_n (j := v3.toNatClampNeg) x_1 (by omega) (by omega) (by rw [tn_n]; omega) (by rw [cu_e (by rw [tn_n]; omega)]; omega) (by omega)
      exact H.2.2 _ _ _ _ k_o0 r_o0 k_o1 r_o1 k_o2 r_o2 (iv_w (a := 0) (b := 208) (by decide) (by decide) i11) f_o2_2 f_o2_3 x_0 p12 (show (o1.1 0).toInt ≤ x10.toInt by omega) (show x10.toInt < 1 + (o1.1 0).toInt + (o1.1 2).toInt by omega) x_4 x_5 (show (o2.1 0).toInt = (o1.1 0).toInt by omega) (show (o2.1 2).toInt = 0 by omega) (show (o2.1 1).toInt = (o1.1 1).toInt by omega) (show 0 + (x10.toInt - 0) * 2 < (n : Int) by omega)
    · have wc8 : ¬ x6.toInt = (0 : Int) := c_ne c8
      have i13 : (1 : Int) ≤ x6.toInt ∧ x6.toInt ≤ 1 := nr_nela c8 i7 (show (0 : Int) ≤ (0 : Int32).toInt ∧ (0 : Int32).toInt ≤ 0 by decide) (by decide) (by decide)
      refine tt_n (ix_ok i5 (by decide) (by decide)) ?_
      refine tt_kv (P := fun z => ((0 : Int) ≤ z.toInt ∧ z.toInt ≤ 417) ∧ z.toInt = (o1.2.1 4 v3.toNatClampNeg).toInt) ⟨(k_o1.2 4 _), rfl⟩ (fun x14 qi15 => ?_)
      obtain ⟨i15, ei15⟩ := qi15
      refine tt_b (sRe_use _ _ k_o0 i15) (fun q16 hq16 => ?_)
      obtain ⟨k_q16, n_q16, zq16_0, -⟩ := hq16
      have r_q16 := fr_tr r_o0 n_q16 rfl rfl rfl
      have e_q16_0 : (q16.1 0).toInt = (o0.1 0).toInt := congrArg Int32.toInt (n_q16.1 0 rfl)
      have g_q16_0 : (0 : Int) ≤ (q16.1 0).toInt ∧ (q16.1 0).toInt ≤ 0 := k_q16.1 0
      have e_q16_1 : (q16.1 1).toInt = (o0.1 1).toInt := congrArg Int32.toInt (n_q16.1 1 rfl)
      have g_q16_1 : (0 : Int) ≤ (q16.1 1).toInt ∧ (q16.1 1).toInt ≤ 0 := k_q16.1 1
      have e_q16_2 : (q16.1 2).toInt = (o0.1 2).toInt := congrArg Int32.toInt (n_q16.1 2 rfl)
      have g_q16_2 : (0 : Int) ≤ (q16.1 2).toInt ∧ (q16.1 2).toInt ≤ 0 := k_q16.1 2
      have u17 : Od ((o1.1 0).toInt + 1) (q16.2.1 4) := by rw [n_q16.2.1 4 rfl]; exact x_4
      refine tt_n (ix_ok i5 (by decide) (by decide)) ?_
      refine tt_kv (P := fun z => ((0 : Int) ≤ z.toInt ∧ z.toInt ≤ 417) ∧ z.toInt = (o1.2.1 5 v3.toNatClampNeg).toInt) ⟨(k_o1.2 5 _), rfl⟩ (fun x18 qi19 => ?_)
      obtain ⟨i19, ei19⟩ := qi19
      refine tt_b (sRe_use _ _ k_q16 i19) (fun q20 hq20 => ?_)
      obtain ⟨k_q20, n_q20, zq20_0, -⟩ := hq20
      have r_q20 := fr_tr r_q16 n_q20 rfl rfl rfl
      have e_q20_0 : (q20.1 0).toInt = (q16.1 0).toInt := congrArg Int32.toInt (n_q20.1 0 rfl)
      have g_q20_0 : (0 : Int) ≤ (q20.1 0).toInt ∧ (q20.1 0).toInt ≤ 0 := k_q20.1 0
      have e_q20_1 : (q20.1 1).toInt = (q16.1 1).toInt := congrArg Int32.toInt (n_q20.1 1 rfl)
      have g_q20_1 : (0 : Int) ≤ (q20.1 1).toInt ∧ (q20.1 1).toInt ≤ 0 := k_q20.1 1
      have e_q20_2 : (q20.1 2).toInt = (q16.1 2).toInt := congrArg Int32.toInt (n_q20.1 2 rfl)
      have g_q20_2 : (0 : Int) ≤ (q20.1 2).toInt ∧ (q20.1 2).toInt ≤ 0 := k_q20.1 2
      have u21 : Od ((o1.1 0).toInt + 1) (q20.2.1 4) := by rw [n_q20.2.1 4 rfl]; exact u17
      try unfold fRe_begin_121
      refine tt_kv (P := fun z => ((0 : Int) ≤ z.toInt ∧ z.toInt ≤ 207) ∧ z.toInt = v3.toInt + (-1)) ⟨iv_add i5 (show ((-1) : Int) ≤ ((-1) : Int32).toInt ∧ ((-1) : Int32).toInt ≤ (-1) by decide) (by decide) (by decide) (by decide) (by decide), iq_add i5 (show ((-1) : Int) ≤ ((-1) : Int32).toInt ∧ ((-1) : Int32).toInt ≤ (-1) by decide) (by decide) (by decide)⟩ (fun x22 qi23 => ?_)
      obtain ⟨i23, ei23⟩ := qi23
      have p24 : Lk (x22.toInt - ((o1.1 0).toInt + 1)) ((o1.1 0).toInt + 1) (o1.1 2).toInt (o1.1 1).toInt (o1.2.1 7) (sh ((o1.1 0).toInt + 1) (o1.2.1 4)) (sh ((o1.1 0).toInt + 1) (o1.2.1 5)) (cu (((o1.1 0).toInt + 1) + (o1.1 2).toInt) (q20.2.1 0)) (cu (((o1.1 0).toInt + 1) + (o1.1 2).toInt) (q20.2.1 1)) := by exact Lk_u (g := (v3.toInt - ((o1.1 0).toInt + 1)).toNat) (j := v3.toNatClampNeg) (p := x14) (q := x18) x_1 x_0 (by omega) (by omega) (by omega) (by omega) (by omega) rfl (by omega) (by omega) (by rw [tn_n]; omega) (by rw [cu_e (by rw [tn_n]; omega)]; omega) (by rw [sh_e (j := v3.toNatClampNeg) (by rw [tn_n]; omega)]; assumption) (by rw [sh_e (j := v3.toNatClampNeg) (by rw [tn_n]; omega)]; assumption) zq16_0 zq20_0 (by omega)
      exact H.2.2 _ _ _ _ k_q20 r_q20 k_o1 r_o1 k_o2 r_o2 (iv_w (a := 0) (b := 208) (by decide) (by decide) i23) f_o2_2 f_o2_3 x_0 p24 (show (o1.1 0).toInt ≤ x22.toInt by omega) (show x22.toInt < 1 + (o1.1 0).toInt + (o1.1 2).toInt by omega) u21 x_5 (show (o2.1 0).toInt = (o1.1 0).toInt by omega) (show (o2.1 2).toInt = 0 by omega) (show (o2.1 1).toInt = (o1.1 1).toInt by omega) (show 0 + (x22.toInt - 0) * 2 < (n : Int) by omega)
set_option maxHeartbeats 4000000 in
set_option maxRecDepth 100000 in
theorem tRe_begin_53 {yo0 : cf_O} {yo1 : cf_O} {yo2 : cf_O} {n : Nat} (H : HRe_begin yo0 yo1 yo2 n) (v3 : Int32) (o0 : cf_O) (o1 : cf_O) (o2 : cf_O) (k_o0 : okO I_Re o0) (r_o0 : Fr (fr_M [] [0, 1, 4] []) yo0 o0) (k_o1 : okO I_Gr o1) (r_o1 : Fr (fr_M [] [] []) yo1 o1) (k_o2 : okO I_Gr o2) (r_o2 : Fr (fr_M [0, 1, 2, 3] [6, 8] []) yo2 o2) (i_v3 : (0 : Int) ≤ v3.toInt ∧ v3.toInt ≤ 6) (f_o2_2 : (0 : Int) ≤ (o2.1 2).toInt ∧ (o2.1 2).toInt ≤ 0) (f_o2_3 : (0 : Int) ≤ (o2.1 3).toInt ∧ (o2.1 3).toInt ≤ 0) (x_0 : Gx ((o1.1 0).toInt + 1) (o1.1 2).toInt (sh ((o1.1 0).toInt + 1) (o1.2.1 4)) (sh ((o1.1 0).toInt + 1) (o1.2.1 5))) (x_1 : No (o1.1 1).toInt (((o1.1 0).toInt + 1) + (o1.1 2).toInt) (o1.2.1 7)) (x_2 : Uo v3.toInt (o1.2.1 7) (cu (((o1.1 0).toInt + 1) + (o1.1 2).toInt) (o0.2.1 1))) (x_3 : Nk v3.toInt (o1.2.1 7) (cu (((o1.1 0).toInt + 1) + (o1.1 2).toInt) (o0.2.1 0))) (x_4 : v3.toInt ≤ (o1.1 1).toInt) (x_5 : Od ((o1.1 0).toInt + 1) (o0.2.1 4)) (x_6 : GI ((o2.1 0).toInt + 1) (o2.1 2).toInt (o2.2.1 4) (o2.2.1 5) (o2.2.1 8) (o2.2.1 9)) (x_7 : (o2.1 0).toInt = (o1.1 0).toInt) (x_8 : (o2.1 2).toInt = 0) (x_9 : (o2.1 1).toInt = (o1.1 1).toInt) (hm : 418 + (6 - v3.toInt) * 2 ≤ (n : Int)) : tt (fRe_begin_53 (gRe_begin n) v3 o0 o1 o2) (QRe_begin yo0 yo1 yo2) := by
  unfold fRe_begin_53
  have g_o0_0 : (0 : Int) ≤ (o0.1 0).toInt ∧ (o0.1 0).toInt ≤ 0 := k_o0.1 0
  have ey_o0_0 : (o0.1 0).toInt = (yo0.1 0).toInt := congrArg Int32.toInt (r_o0.1 0 rfl)
  have g_o0_1 : (0 : Int) ≤ (o0.1 1).toInt ∧ (o0.1 1).toInt ≤ 0 := k_o0.1 1
  have ey_o0_1 : (o0.1 1).toInt = (yo0.1 1).toInt := congrArg Int32.toInt (r_o0.1 1 rfl)
  have g_o0_2 : (0 : Int) ≤ (o0.1 2).toInt ∧ (o0.1 2).toInt ≤ 0 := k_o0.1 2
  have ey_o0_2 : (o0.1 2).toInt = (yo0.1 2).toInt := congrArg Int32.toInt (r_o0.1 2 rfl)
  have g_o1_0 : (0 : Int) ≤ (o1.1 0).toInt ∧ (o1.1 0).toInt ≤ 8 := k_o1.1 0
  have ey_o1_0 : (o1.1 0).toInt = (yo1.1 0).toInt := congrArg Int32.toInt (r_o1.1 0 rfl)
  have g_o1_1 : (0 : Int) ≤ (o1.1 1).toInt ∧ (o1.1 1).toInt ≤ 6 := k_o1.1 1
  have ey_o1_1 : (o1.1 1).toInt = (yo1.1 1).toInt := congrArg Int32.toInt (r_o1.1 1 rfl)
  have g_o1_2 : (0 : Int) ≤ (o1.1 2).toInt ∧ (o1.1 2).toInt ≤ 200 := k_o1.1 2
  have ey_o1_2 : (o1.1 2).toInt = (yo1.1 2).toInt := congrArg Int32.toInt (r_o1.1 2 rfl)
  have g_o2_0 : (0 : Int) ≤ (o2.1 0).toInt ∧ (o2.1 0).toInt ≤ 8 := k_o2.1 0
  have g_o2_1 : (0 : Int) ≤ (o2.1 1).toInt ∧ (o2.1 1).toInt ≤ 6 := k_o2.1 1
  refine tt_if (fun c1 => ?_) (fun c1 => ?_)
  · have wc1 : (o1.1 1).toInt ≤ v3.toInt := c_le c1
    try unfold fGr_size
    try unfold fGr_size_0
    refine tt_bkv (P := fun z => ((1 : Int) ≤ z.toInt ∧ z.toInt ≤ 9) ∧ z.toInt = 1 + (o1.1 0).toInt) ⟨iv_add (show (1 : Int) ≤ (1 : Int32).toInt ∧ (1 : Int32).toInt ≤ 1 by decide) (k_o1.1 0) (by decide) (by decide) (by decide) (by decide), iq_add (show (1 : Int) ≤ (1 : Int32).toInt ∧ (1 : Int32).toInt ≤ 1 by decide) (k_o1.1 0) (by decide) (by decide)⟩ (fun x2 qi3 => ?_)
    obtain ⟨i3, ei3⟩ := qi3
    refine tt_bkv (P := fun z => ((1 : Int) ≤ z.toInt ∧ z.toInt ≤ 209) ∧ z.toInt = x2.toInt + (o1.1 2).toInt) ⟨iv_add i3 (k_o1.1 2) (by decide) (by decide) (by decide) (by decide), iq_add i3 (k_o1.1 2) (by decide) (by decide)⟩ (fun x4 qi5 => ?_)
    obtain ⟨i5, ei5⟩ := qi5
    refine tt_bs ?_
    refine tt_kv (P := fun z => ((0 : Int) ≤ z.toInt ∧ z.toInt ≤ 208) ∧ z.toInt = x4.toInt - 1) ⟨iv_sub i5 (show (1 : Int) ≤ (1 : Int32).toInt ∧ (1 : Int32).toInt ≤ 1 by decide) (by decide) (by decide) (by decide) (by decide), iq_sub i5 (show (1 : Int) ≤ (1 : Int32).toInt ∧ (1 : Int32).toInt ≤ 1 by decide) (by decide) (by decide)⟩ (fun x6 qi7 => ?_)
    obtain ⟨i7, ei7⟩ := qi7
    have p8 : Lk (x6.toInt - ((o1.1 0).toInt + 1)) ((o1.1 0).toInt + 1) (o1.1 2).toInt (o1.1 1).toInt (o1.2.1 7) (sh ((o1.1 0).toInt + 1) (o1.2.1 4)) (sh ((o1.1 0).toInt + 1) (o1.2.1 5)) (cu (((o1.1 0).toInt + 1) + (o1.1 2).toInt) (o0.2.1 0)) (cu (((o1.1 0).toInt + 1) + (o1.1 2).toInt) (o0.2.1 1)) := by exact Lk_0 x_2 x_3 (by omega) (by omega) (by omega)
    exact H.2.2 _ _ _ _ k_o0 r_o0 k_o1 r_o1 k_o2 r_o2 i7 f_o2_2 f_o2_3 x_0 p8 (show (o1.1 0).toInt ≤ x6.toInt by omega) (show x6.toInt < 1 + (o1.1 0).toInt + (o1.1 2).toInt by omega) x_5 x_6 (show (o2.1 0).toInt = (o1.1 0).toInt by omega) (show (o2.1 2).toInt = 0 by omega) (show (o2.1 1).toInt = (o1.1 1).toInt by omega) (show 0 + (x6.toInt - 0) * 2 < (n : Int) by omega)
  · have wc1 : v3.toInt < (o1.1 1).toInt := c_nle c1
    have i9 : (0 : Int) ≤ v3.toInt ∧ v3.toInt ≤ 5 := nr_nlel c1 i_v3 (k_o1.1 1) (by decide) (by decide)
    have i10 : (1 : Int) ≤ (o1.1 1).toInt ∧ (o1.1 1).toInt ≤ 6 := nr_nler c1 i_v3 (k_o1.1 1) (by decide) (by decide)
    refine tt_n (ix_ok i9 (by decide) (by decide)) ?_
    refine tt_kv (P := fun z => ((0 : Int) ≤ z.toInt ∧ z.toInt ≤ 417) ∧ z.toInt = (o1.2.1 7 v3.toNatClampNeg).toInt) ⟨(k_o1.2 7 _), rfl⟩ (fun x11 qi12 => ?_)
    obtain ⟨i12, ei12⟩ := qi12
    refine tt_b (sRe_use _ _ k_o0 i12) (fun q13 hq13 => ?_)
    obtain ⟨k_q13, n_q13, zq13_0, -⟩ := hq13
    have r_q13 := fr_tr r_o0 n_q13 rfl rfl rfl
    have e_q13_0 : (q13.1 0).toInt = (o0.1 0).toInt := congrArg Int32.toInt (n_q13.1 0 rfl)
    have g_q13_0 : (0 : Int) ≤ (q13.1 0).toInt ∧ (q13.1 0).toInt ≤ 0 := k_q13.1 0
    have e_q13_1 : (q13.1 1).toInt = (o0.1 1).toInt := congrArg Int32.toInt (n_q13.1 1 rfl)
    have g_q13_1 : (0 : Int) ≤ (q13.1 1).toInt ∧ (q13.1 1).toInt ≤ 0 := k_q13.1 1
    have e_q13_2 : (q13.1 2).toInt = (o0.1 2).toInt := congrArg Int32.toInt (n_q13.1 2 rfl)
    have g_q13_2 : (0 : Int) ≤ (q13.1 2).toInt ∧ (q13.1 2).toInt ≤ 0 := k_q13.1 2
    have u14 : Od ((o1.1 0).toInt + 1) (q13.2.1 4) := by rw [n_q13.2.1 4 rfl]; exact x_5
    refine tt_kv (P := fun z => ((1 : Int) ≤ z.toInt ∧ z.toInt ≤ 6) ∧ z.toInt = v3.toInt + 1) ⟨iv_add i9 (show (1 : Int) ≤ (1 : Int32).toInt ∧ (1 : Int32).toInt ≤ 1 by decide) (by decide) (by decide) (by decide) (by decide), iq_add i9 (show (1 : Int) ≤ (1 : Int32).toInt ∧ (1 : Int32).toInt ≤ 1 by decide) (by decide) (by decide)⟩ (fun x15 qi16 => ?_)
    obtain ⟨i16, ei16⟩ := qi16
    have p17 : Uo x15.toInt (o1.2.1 7) (cu (((o1.1 0).toInt + 1) + (o1.1 2).toInt) (q13.2.1 1)) := by have no := x_1 v3.toNatClampNeg (by rw [tn_n]; omega); exact Uo_u (k := v3.toNatClampNeg) (l := x11) x_2 zq13_0 (by omega) (by omega) (by rw [tn_n]; omega) (by assumption) (by omega) (by omega) (by omega) (by omega)
    have p18 : Nk x15.toInt (o1.2.1 7) (cu (((o1.1 0).toInt + 1) + (o1.1 2).toInt) (q13.2.1 0)) := by have no := x_1 v3.toNatClampNeg (by rw [tn_n]; omega); exact Nk_u (k := v3.toNatClampNeg) (l := x11) x_3 zq13_0 (by omega) (by rw [tn_n]; omega) (by assumption) (by omega) (by omega)
    exact H.2.1 _ _ _ _ k_q13 r_q13 k_o1 r_o1 k_o2 r_o2 (iv_w (a := 0) (b := 6) (by decide) (by decide) i16) f_o2_2 f_o2_3 x_0 x_1 p17 p18 (show x15.toInt ≤ (o1.1 1).toInt by omega) u14 x_6 (show (o2.1 0).toInt = (o1.1 0).toInt by omega) (show (o2.1 2).toInt = 0 by omega) (show (o2.1 1).toInt = (o1.1 1).toInt by omega) (show 418 + (6 - x15.toInt) * 2 < (n : Int) by omega)
set_option maxHeartbeats 4000000 in
set_option maxRecDepth 100000 in
theorem tRe_begin_14 {yo0 : cf_O} {yo1 : cf_O} {yo2 : cf_O} {n : Nat} (H : HRe_begin yo0 yo1 yo2 n) (v3 : Int32) (o0 : cf_O) (o1 : cf_O) (o2 : cf_O) (k_o0 : okO I_Re o0) (r_o0 : Fr (fr_M [] [0, 1, 4] []) yo0 o0) (k_o1 : okO I_Gr o1) (r_o1 : Fr (fr_M [] [] []) yo1 o1) (k_o2 : okO I_Gr o2) (r_o2 : Fr (fr_M [0, 1, 2, 3] [6, 8] []) yo2 o2) (i_v3 : (0 : Int) ≤ v3.toInt ∧ v3.toInt ≤ 209) (f_o2_2 : (0 : Int) ≤ (o2.1 2).toInt ∧ (o2.1 2).toInt ≤ 0) (f_o2_3 : (0 : Int) ≤ (o2.1 3).toInt ∧ (o2.1 3).toInt ≤ 0) (x_0 : Gx ((o1.1 0).toInt + 1) (o1.1 2).toInt (sh ((o1.1 0).toInt + 1) (o1.2.1 4)) (sh ((o1.1 0).toInt + 1) (o1.2.1 5))) (x_1 : No (o1.1 1).toInt (((o1.1 0).toInt + 1) + (o1.1 2).toInt) (o1.2.1 7)) (x_2 : Fc v3.toInt (o0.2.1 1)) (x_3 : v3.toInt ≤ 1 + (o1.1 0).toInt + (o1.1 2).toInt) (x_4 : Od v3.toInt (o0.2.1 4)) (x_5 : GI ((o2.1 0).toInt + 1) (o2.1 2).toInt (o2.2.1 4) (o2.2.1 5) (o2.2.1 8) (o2.2.1 9)) (x_6 : (o2.1 0).toInt = (o1.1 0).toInt) (x_7 : (o2.1 2).toInt = 0) (x_8 : (o2.1 1).toInt = (o1.1 1).toInt) (hm : 432 + (209 - v3.toInt) * 2 ≤ (n : Int)) : tt (fRe_begin_14 (gRe_begin n) v3 o0 o1 o2) (QRe_begin yo0 yo1 yo2) := by
  unfold fRe_begin_14
  have g_o0_0 : (0 : Int) ≤ (o0.1 0).toInt ∧ (o0.1 0).toInt ≤ 0 := k_o0.1 0
  have ey_o0_0 : (o0.1 0).toInt = (yo0.1 0).toInt := congrArg Int32.toInt (r_o0.1 0 rfl)
  have g_o0_1 : (0 : Int) ≤ (o0.1 1).toInt ∧ (o0.1 1).toInt ≤ 0 := k_o0.1 1
  have ey_o0_1 : (o0.1 1).toInt = (yo0.1 1).toInt := congrArg Int32.toInt (r_o0.1 1 rfl)
  have g_o0_2 : (0 : Int) ≤ (o0.1 2).toInt ∧ (o0.1 2).toInt ≤ 0 := k_o0.1 2
  have ey_o0_2 : (o0.1 2).toInt = (yo0.1 2).toInt := congrArg Int32.toInt (r_o0.1 2 rfl)
  have g_o1_0 : (0 : Int) ≤ (o1.1 0).toInt ∧ (o1.1 0).toInt ≤ 8 := k_o1.1 0
  have ey_o1_0 : (o1.1 0).toInt = (yo1.1 0).toInt := congrArg Int32.toInt (r_o1.1 0 rfl)
  have g_o1_1 : (0 : Int) ≤ (o1.1 1).toInt ∧ (o1.1 1).toInt ≤ 6 := k_o1.1 1
  have ey_o1_1 : (o1.1 1).toInt = (yo1.1 1).toInt := congrArg Int32.toInt (r_o1.1 1 rfl)
  have g_o1_2 : (0 : Int) ≤ (o1.1 2).toInt ∧ (o1.1 2).toInt ≤ 200 := k_o1.1 2
  have ey_o1_2 : (o1.1 2).toInt = (yo1.1 2).toInt := congrArg Int32.toInt (r_o1.1 2 rfl)
  have g_o2_0 : (0 : Int) ≤ (o2.1 0).toInt ∧ (o2.1 0).toInt ≤ 8 := k_o2.1 0
  have g_o2_1 : (0 : Int) ≤ (o2.1 1).toInt ∧ (o2.1 1).toInt ≤ 6 := k_o2.1 1
  try unfold fGr_size
  try unfold fGr_size_0
  refine tt_bkv (P := fun z => ((1 : Int) ≤ z.toInt ∧ z.toInt ≤ 9) ∧ z.toInt = 1 + (o1.1 0).toInt) ⟨iv_add (show (1 : Int) ≤ (1 : Int32).toInt ∧ (1 : Int32).toInt ≤ 1 by decide) (k_o1.1 0) (by decide) (by decide) (by decide) (by decide), iq_add (show (1 : Int) ≤ (1 : Int32).toInt ∧ (1 : Int32).toInt ≤ 1 by decide) (k_o1.1 0) (by decide) (by decide)⟩ (fun x1 qi2 => ?_)
  obtain ⟨i2, ei2⟩ := qi2
  refine tt_bkv (P := fun z => ((1 : Int) ≤ z.toInt ∧ z.toInt ≤ 209) ∧ z.toInt = x1.toInt + (o1.1 2).toInt) ⟨iv_add i2 (k_o1.1 2) (by decide) (by decide) (by decide) (by decide), iq_add i2 (k_o1.1 2) (by decide) (by decide)⟩ (fun x3 qi4 => ?_)
  obtain ⟨i4, ei4⟩ := qi4
  refine tt_bs ?_
  refine tt_if (fun c5 => ?_) (fun c5 => ?_)
  · have wc5 : x3.toInt ≤ v3.toInt := c_le c5
    have i6 : (1 : Int) ≤ v3.toInt ∧ v3.toInt ≤ 209 := nr_ler c5 i4 i_v3 (by decide) (by decide)
    have p7 : Uo 0 (o1.2.1 7) (cu (((o1.1 0).toInt + 1) + (o1.1 2).toInt) (o0.2.1 1)) := by exact Uo_0 (Fc_c x_2 (by omega)) (by decide)
    have p8 : Nk 0 (o1.2.1 7) (cu (((o1.1 0).toInt + 1) + (o1.1 2).toInt) (o0.2.1 0)) := by exact Nk_0 _ _
    have p9 : Od ((o1.1 0).toInt + 1) (o0.2.1 4) := by exact Od_w x_4 (by omega)
    exact H.2.1 _ _ _ _ k_o0 r_o0 k_o1 r_o1 k_o2 r_o2 (iv_w (a := 0) (b := 6) (by decide) (by decide) (show (0 : Int) ≤ (0 : Int32).toInt ∧ (0 : Int32).toInt ≤ 0 by decide)) f_o2_2 f_o2_3 x_0 x_1 p7 p8 (show 0 ≤ (o1.1 1).toInt by omega) p9 x_5 (show (o2.1 0).toInt = (o1.1 0).toInt by omega) (show (o2.1 2).toInt = 0 by omega) (show (o2.1 1).toInt = (o1.1 1).toInt by omega) (show 418 + (6 - 0) * 2 < (n : Int) by omega)
  · have wc5 : v3.toInt < x3.toInt := c_nle c5
    have i10 : (0 : Int) ≤ v3.toInt ∧ v3.toInt ≤ 208 := nr_nlel c5 i_v3 i4 (by decide) (by decide)
    refine tt_n (ix_ok i10 (by decide) (by decide)) ?_
    refine tt_ko ?_
    have k11 := ok_xp (k := 0) (i := v3.toNatClampNeg) (v := (vp_nar .boolean 0)) k_o0 (iv_nz _)
    have r12 := fr_xp (k := 0) (i := v3.toNatClampNeg) (v := (vp_nar .boolean 0)) r_o0 rfl
    refine tt_n (ix_ok i10 (by decide) (by decide)) ?_
    refine tt_ko ?_
    have k13 := ok_xp (k := 1) (i := v3.toNatClampNeg) (v := 0) k11 (iv_w (a := (-2147483648)) (b := 2147483647) (by decide) (by decide) (show (0 : Int) ≤ (0 : Int32).toInt ∧ (0 : Int32).toInt ≤ 0 by decide))
    have r14 := fr_xp (k := 1) (i := v3.toNatClampNeg) (v := 0) r12 rfl
    refine tt_kv (P := fun z => ((0 : Int) ≤ z.toInt ∧ z.toInt ≤ 416) ∧ z.toInt = 2 * v3.toInt) ⟨iv_mul (show (2 : Int) ≤ (2 : Int32).toInt ∧ (2 : Int32).toInt ≤ 2 by decide) i10 (by decide) (by decide) (by decide) (by decide) (by decide), iq_mul (show (2 : Int) ≤ (2 : Int32).toInt ∧ (2 : Int32).toInt ≤ 2 by decide) i10 (by decide) (by decide) (by decide) (by decide)⟩ (fun x15 qi16 => ?_)
    obtain ⟨i16, ei16⟩ := qi16
    refine tt_n (ix_ok i10 (by decide) (by decide)) ?_
    refine tt_ko ?_
    have k17 := ok_xp (k := 4) (i := v3.toNatClampNeg) (v := x15) k13 (iv_w (a := 0) (b := 417) (by decide) (by decide) i16)
    have r18 := fr_xp (k := 4) (i := v3.toNatClampNeg) (v := x15) r14 rfl
    refine tt_kv (P := fun z => ((1 : Int) ≤ z.toInt ∧ z.toInt ≤ 209) ∧ z.toInt = v3.toInt + 1) ⟨iv_add i10 (show (1 : Int) ≤ (1 : Int32).toInt ∧ (1 : Int32).toInt ≤ 1 by decide) (by decide) (by decide) (by decide) (by decide), iq_add i10 (show (1 : Int) ≤ (1 : Int32).toInt ∧ (1 : Int32).toInt ≤ 1 by decide) (by decide) (by decide)⟩ (fun x19 qi20 => ?_)
    obtain ⟨i20, ei20⟩ := qi20
    have p21 : Fc x19.toInt (upd (o0.2.1 1) (v3.toNatClampNeg) 0) := by exact Fc_s x_2 (by omega) (by rw [tn_n]; omega) (by decide)
    have p22 : Od x19.toInt (upd (o0.2.1 4) (v3.toNatClampNeg) x15) := by exact Od_s x_4 (by omega) (by rw [tn_n]; omega) (by omega)
    exact H.1 _ _ _ _ k17 r18 k_o1 r_o1 k_o2 r_o2 (iv_w (a := 0) (b := 209) (by decide) (by decide) i20) f_o2_2 f_o2_3 x_0 x_1 p21 (show x19.toInt ≤ 1 + (o1.1 0).toInt + (o1.1 2).toInt by omega) p22 x_5 (show (o2.1 0).toInt = (o1.1 0).toInt by omega) (show (o2.1 2).toInt = 0 by omega) (show (o2.1 1).toInt = (o1.1 1).toInt by omega) (show 432 + (209 - x19.toInt) * 2 < (n : Int) by omega)
set_option maxHeartbeats 4000000 in
set_option maxRecDepth 100000 in
theorem hRe_begin (yo0 : cf_O) (yo1 : cf_O) (yo2 : cf_O) : ∀ n, HRe_begin yo0 yo1 yo2 n := by
  intro n
  induction n with
  | zero => exact ⟨(fun v3 o0 o1 o2 k_o0 r_o0 k_o1 r_o1 k_o2 r_o2 i_v3 f_o2_2 f_o2_3 x_0 x_1 x_2 x_3 x_4 x_5 x_6 x_7 x_8 hm => by exact absurd (show 432 + (209 - v3.toInt) * 2 < (0 : Int) from hm) (by omega)), (fun v3 o0 o1 o2 k_o0 r_o0 k_o1 r_o1 k_o2 r_o2 i_v3 f_o2_2 f_o2_3 x_0 x_1 x_2 x_3 x_4 x_5 x_6 x_7 x_8 x_9 hm => by exact absurd (show 418 + (6 - v3.toInt) * 2 < (0 : Int) from hm) (by omega)), (fun v3 o0 o1 o2 k_o0 r_o0 k_o1 r_o1 k_o2 r_o2 i_v3 f_o2_2 f_o2_3 x_0 x_1 x_2 x_3 x_4 x_5 x_6 x_7 x_8 hm => by exact absurd (show 0 + (v3.toInt - 0) * 2 < (0 : Int) from hm) (by omega))⟩
  | succ n ih => exact ⟨(fun v3 o0 o1 o2 k_o0 r_o0 k_o1 r_o1 k_o2 r_o2 i_v3 f_o2_2 f_o2_3 x_0 x_1 x_2 x_3 x_4 x_5 x_6 x_7 x_8 hm => tRe_begin_14 ih v3 o0 o1 o2 k_o0 r_o0 k_o1 r_o1 k_o2 r_o2 i_v3 f_o2_2 f_o2_3 x_0 x_1 x_2 x_3 x_4 x_5 x_6 x_7 x_8 (by omega)), (fun v3 o0 o1 o2 k_o0 r_o0 k_o1 r_o1 k_o2 r_o2 i_v3 f_o2_2 f_o2_3 x_0 x_1 x_2 x_3 x_4 x_5 x_6 x_7 x_8 x_9 hm => tRe_begin_53 ih v3 o0 o1 o2 k_o0 r_o0 k_o1 r_o1 k_o2 r_o2 i_v3 f_o2_2 f_o2_3 x_0 x_1 x_2 x_3 x_4 x_5 x_6 x_7 x_8 x_9 (by omega)), (fun v3 o0 o1 o2 k_o0 r_o0 k_o1 r_o1 k_o2 r_o2 i_v3 f_o2_2 f_o2_3 x_0 x_1 x_2 x_3 x_4 x_5 x_6 x_7 x_8 hm => tRe_begin_84 ih v3 o0 o1 o2 k_o0 r_o0 k_o1 r_o1 k_o2 r_o2 i_v3 f_o2_2 f_o2_3 x_0 x_1 x_2 x_3 x_4 x_5 x_6 x_7 x_8 (by omega))⟩
set_option maxHeartbeats 4000000 in
set_option maxRecDepth 100000 in
theorem sRe_begin (o0 : cf_O) (o1 : cf_O) (o2 : cf_O) (k_o0 : okO I_Re o0) (k_o1 : okO I_Gr o1) (k_o2 : okO I_Gr o2) (x_0 : Gx ((o1.1 0).toInt + 1) (o1.1 2).toInt (sh ((o1.1 0).toInt + 1) (o1.2.1 4)) (sh ((o1.1 0).toInt + 1) (o1.2.1 5))) (x_1 : No (o1.1 1).toInt (((o1.1 0).toInt + 1) + (o1.1 2).toInt) (o1.2.1 7)) : tt (fRe_begin o0 o1 o2) (QRe_begin o0 o1 o2) := by
  have H := hRe_begin o0 o1 o2 cfFU
  have hm : (853 : Int) ≤ (cfFU : Nat) := by decide
  have r_o0 : Fr (fr_M [] [0, 1, 4] []) o0 o0 := fr_rfl
  have r_o1 : Fr (fr_M [] [] []) o1 o1 := fr_rfl
  have r_o2 : Fr (fr_M [0, 1, 2, 3] [6, 8] []) o2 o2 := fr_rfl
  unfold fRe_begin fRe_begin_0
  have g_o0_0 : (0 : Int) ≤ (o0.1 0).toInt ∧ (o0.1 0).toInt ≤ 0 := k_o0.1 0
  have g_o0_1 : (0 : Int) ≤ (o0.1 1).toInt ∧ (o0.1 1).toInt ≤ 0 := k_o0.1 1
  have g_o0_2 : (0 : Int) ≤ (o0.1 2).toInt ∧ (o0.1 2).toInt ≤ 0 := k_o0.1 2
  have g_o1_0 : (0 : Int) ≤ (o1.1 0).toInt ∧ (o1.1 0).toInt ≤ 8 := k_o1.1 0
  have g_o1_1 : (0 : Int) ≤ (o1.1 1).toInt ∧ (o1.1 1).toInt ≤ 6 := k_o1.1 1
  have g_o1_2 : (0 : Int) ≤ (o1.1 2).toInt ∧ (o1.1 2).toInt ≤ 200 := k_o1.1 2
  have g_o2_0 : (0 : Int) ≤ (o2.1 0).toInt ∧ (o2.1 0).toInt ≤ 8 := k_o2.1 0
  have g_o2_1 : (0 : Int) ≤ (o2.1 1).toInt ∧ (o2.1 1).toInt ≤ 6 := k_o2.1 1
  have g_o2_2 : (0 : Int) ≤ (o2.1 2).toInt ∧ (o2.1 2).toInt ≤ 200 := k_o2.1 2
  refine tt_b (sGr_restart _ _ _ k_o2 (k_o1.1 0) (k_o1.1 1)) (fun q1 hq1 => ?_)
  obtain ⟨k_q1, n_q1, f_q1_2, f_q1_3, zq1_0, zq1_1, zq1_2, zq1_3, -⟩ := hq1
  have r_q1 := fr_tr r_o2 n_q1 rfl rfl rfl
  have g_q1_0 : (0 : Int) ≤ (q1.1 0).toInt ∧ (q1.1 0).toInt ≤ 8 := k_q1.1 0
  have g_q1_1 : (0 : Int) ≤ (q1.1 1).toInt ∧ (q1.1 1).toInt ≤ 6 := k_q1.1 1
  have zq1_1 : (q1.1 0).toInt = (o1.1 0).toInt := zq1_1
  have zq1_2 : (q1.1 1).toInt = (o1.1 1).toInt := zq1_2
  have zq1_3 : (q1.1 2).toInt = 0 := zq1_3
  have p2 : Fc 0 (o0.2.1 1) := by exact Fc_0 _
  have p3 : Od 0 (o0.2.1 4) := by exact Od_0 _
  have p4 : GI ((q1.1 0).toInt + 1) (q1.1 2).toInt (q1.2.1 4) (q1.2.1 5) (q1.2.1 8) (q1.2.1 9) := by exact GI_e (show GI _ _ _ _ _ _ by assumption) (by omega) (by omega)
  exact H.1 _ _ _ _ k_o0 r_o0 k_o1 r_o1 k_q1 r_q1 (iv_w (a := 0) (b := 209) (by decide) (by decide) (show (0 : Int) ≤ (0 : Int32).toInt ∧ (0 : Int32).toInt ≤ 0 by decide)) f_q1_2 f_q1_3 x_0 x_1 p2 (show 0 ≤ 1 + (o1.1 0).toInt + (o1.1 2).toInt by omega) p3 p4 (show (q1.1 0).toInt = (o1.1 0).toInt by omega) (show (q1.1 2).toInt = 0 by omega) (show (q1.1 1).toInt = (o1.1 1).toInt by omega) (show 432 + (209 - 0) * 2 < ((cfFU : Nat) : Int) by omega)
def QRe_markApart (v2 : Int32) (o0 : cf_O) (o1 : cf_O) (r : (cf_O)) : Prop := (okO I_Re r) ∧ (Fr (fr_M [] [3] []) o0 r) ∧ (Mk v2.toInt ((o1.1 0).toInt + 1) (((o1.1 0).toInt + 1) + (o1.1 2).toInt) (o0.2.1 1) (o0.2.1 3) (r.2.1 3)) ∧ True
set_option maxHeartbeats 4000000 in
set_option maxRecDepth 100000 in
theorem sRe_markApart (v2 : Int32) (o0 : cf_O) (o1 : cf_O) (k_o0 : okO I_Re o0) (k_o1 : okO I_Gr o1) (i_v2 : (0 : Int) ≤ v2.toInt ∧ v2.toInt ≤ 417) : tt (fRe_markApart v2 o0 o1) (QRe_markApart v2 o0 o1) := by
  have r_o0 : Fr (fr_M [] [3] []) o0 o0 := fr_rfl
  have r_o1 : Fr (fr_M [] [] []) o1 o1 := fr_rfl
  unfold fRe_markApart fRe_markApart_0
  have g_o0_0 : (0 : Int) ≤ (o0.1 0).toInt ∧ (o0.1 0).toInt ≤ 0 := k_o0.1 0
  have g_o0_2 : (0 : Int) ≤ (o0.1 2).toInt ∧ (o0.1 2).toInt ≤ 0 := k_o0.1 2
  have g_o1_0 : (0 : Int) ≤ (o1.1 0).toInt ∧ (o1.1 0).toInt ≤ 8 := k_o1.1 0
  have g_o1_2 : (0 : Int) ≤ (o1.1 2).toInt ∧ (o1.1 2).toInt ≤ 200 := k_o1.1 2
  refine tt_kv (P := fun z => ((0 : Int) ≤ z.toInt ∧ z.toInt ≤ 208) ∧ z.toInt = v2.toInt / 2) ⟨iv_shr (p := 1) (q := 1) i_v2 (show (1 : Int) ≤ (1 : Int32).toInt ∧ (1 : Int32).toInt ≤ 1 by decide) (by decide) (by decide) (by decide) (by decide), i_s1 (Int.le_trans (by decide) i_v2.1)⟩ (fun x1 qi2 => ?_)
  obtain ⟨i2, ei2⟩ := qi2
  refine tt_kv (P := fun z => ((0 : Int) ≤ z.toInt ∧ z.toInt ≤ 1) ∧ z.toInt = v2.toInt % 2) ⟨iv_and (show (1 : Int) ≤ (1 : Int32).toInt ∧ (1 : Int32).toInt ≤ 1 by decide) (by decide) (by decide) (by decide), i_a1 (Int.le_trans (by decide) i_v2.1)⟩ (fun x3 qi4 => ?_)
  obtain ⟨i4, ei4⟩ := qi4
  refine tt_if (fun c5 => ?_) (fun c5 => ?_)
  · have wc5 : x3.toInt = (0 : Int) := c_eq c5
    have i6 : (0 : Int) ≤ x3.toInt ∧ x3.toInt ≤ 0 := nr_eql c5 i4 (show (0 : Int) ≤ (0 : Int32).toInt ∧ (0 : Int32).toInt ≤ 0 by decide) (by decide) (by decide)
    refine tt_b (sGr_isGate _ _ k_o1) (fun q7 hq7 => ?_)
    obtain ⟨i_q7, zq7_0, zq7_1, -⟩ := hq7
    have zq7_0 : q7.toInt = 0 ∨ ((o1.1 0).toInt < x1.toInt ∧ x1.toInt < 1 + (o1.1 0).toInt + (o1.1 2).toInt) := zq7_0
    refine tt_if (fun c8 => ?_) (fun c8 => ?_)
    · have wc8 : q7.toInt = (0 : Int) := c_eq c8
      have i9 : (0 : Int) ≤ q7.toInt ∧ q7.toInt ≤ 0 := nr_eql c8 i_q7 (show (0 : Int) ≤ (0 : Int32).toInt ∧ (0 : Int32).toInt ≤ 0 by decide) (by decide) (by decide)
      try unfold fRe_markApart_37
      try unfold fRe_markApart_38
      refine tt_n (ix_ok i2 (by decide) (by decide)) ?_
      refine tt_ko ?_
      have k10 := ok_xp (k := 3) (i := x1.toNatClampNeg) (v := (vp_nar .boolean 0)) k_o0 (iv_nz _)
      have r11 := fr_xp (k := 3) (i := x1.toNatClampNeg) (v := (vp_nar .boolean 0)) r_o0 rfl
      have p12 : Mk v2.toInt ((o1.1 0).toInt + 1) (((o1.1 0).toInt + 1) + (o1.1 2).toInt) (o0.2.1 1) (o0.2.1 3) (upd (o0.2.1 3) (x1.toNatClampNeg) (vp_nar .boolean 0)) := by first | exact Mk_0 (by rw [tn_n]; omega) (by decide) | exact Mk_1 (by rw [tn_n]; omega) (by omega) (by omega) (by omega) (by omega)
      exact tt_some ⟨k10, r11, p12, trivial⟩
    · have wc8 : ¬ q7.toInt = (0 : Int) := c_ne c8
      have i13 : (1 : Int) ≤ q7.toInt ∧ q7.toInt ≤ 1 := nr_nela c8 i_q7 (show (0 : Int) ≤ (0 : Int32).toInt ∧ (0 : Int32).toInt ≤ 0 by decide) (by decide) (by decide)
      refine tt_n (ix_ok i2 (by decide) (by decide)) ?_
      refine tt_kv (P := fun z => (((-2147483648) : Int) ≤ z.toInt ∧ z.toInt ≤ 2147483647) ∧ z.toInt = (o0.2.1 1 x1.toNatClampNeg).toInt) ⟨(k_o0.2 1 _), rfl⟩ (fun x14 qi15 => ?_)
      obtain ⟨i15, ei15⟩ := qi15
      refine tt_if (fun c16 => ?_) (fun c16 => ?_)
      · have wc16 : x14.toInt = (1 : Int) := c_eq c16
        have i17 : (1 : Int) ≤ x14.toInt ∧ x14.toInt ≤ 1 := nr_eql c16 i15 (show (1 : Int) ≤ (1 : Int32).toInt ∧ (1 : Int32).toInt ≤ 1 by decide) (by decide) (by decide)
        try unfold fRe_markApart_38
        refine tt_n (ix_ok i2 (by decide) (by decide)) ?_
        refine tt_ko ?_
        have k18 := ok_xp (k := 3) (i := x1.toNatClampNeg) (v := (vp_nar .boolean 1)) k_o0 (iv_nz _)
        have r19 := fr_xp (k := 3) (i := x1.toNatClampNeg) (v := (vp_nar .boolean 1)) r_o0 rfl
        have p20 : Mk v2.toInt ((o1.1 0).toInt + 1) (((o1.1 0).toInt + 1) + (o1.1 2).toInt) (o0.2.1 1) (o0.2.1 3) (upd (o0.2.1 3) (x1.toNatClampNeg) (vp_nar .boolean 1)) := by first | exact Mk_0 (by rw [tn_n]; omega) (by decide) | exact Mk_1 (by rw [tn_n]; omega) (by omega) (by omega) (by omega) (by omega)
        exact tt_some ⟨k18, r19, p20, trivial⟩
      · have wc16 : ¬ x14.toInt = (1 : Int) := c_ne c16
        try unfold fRe_markApart_37
        try unfold fRe_markApart_38
        refine tt_n (ix_ok i2 (by decide) (by decide)) ?_
        refine tt_ko ?_
        have k21 := ok_xp (k := 3) (i := x1.toNatClampNeg) (v := (vp_nar .boolean 0)) k_o0 (iv_nz _)
        have r22 := fr_xp (k := 3) (i := x1.toNatClampNeg) (v := (vp_nar .boolean 0)) r_o0 rfl
        have p23 : Mk v2.toInt ((o1.1 0).toInt + 1) (((o1.1 0).toInt + 1) + (o1.1 2).toInt) (o0.2.1 1) (o0.2.1 3) (upd (o0.2.1 3) (x1.toNatClampNeg) (vp_nar .boolean 0)) := by first | exact Mk_0 (by rw [tn_n]; omega) (by decide) | exact Mk_1 (by rw [tn_n]; omega) (by omega) (by omega) (by omega) (by omega)
        exact tt_some ⟨k21, r22, p23, trivial⟩
  · have wc5 : ¬ x3.toInt = (0 : Int) := c_ne c5
    have i24 : (1 : Int) ≤ x3.toInt ∧ x3.toInt ≤ 1 := nr_nela c5 i4 (show (0 : Int) ≤ (0 : Int32).toInt ∧ (0 : Int32).toInt ≤ 0 by decide) (by decide) (by decide)
    try unfold fRe_markApart_37
    try unfold fRe_markApart_38
    refine tt_n (ix_ok i2 (by decide) (by decide)) ?_
    refine tt_ko ?_
    have k25 := ok_xp (k := 3) (i := x1.toNatClampNeg) (v := (vp_nar .boolean 0)) k_o0 (iv_nz _)
    have r26 := fr_xp (k := 3) (i := x1.toNatClampNeg) (v := (vp_nar .boolean 0)) r_o0 rfl
    have p27 : Mk v2.toInt ((o1.1 0).toInt + 1) (((o1.1 0).toInt + 1) + (o1.1 2).toInt) (o0.2.1 1) (o0.2.1 3) (upd (o0.2.1 3) (x1.toNatClampNeg) (vp_nar .boolean 0)) := by first | exact Mk_0 (by rw [tn_n]; omega) (by decide) | exact Mk_1 (by rw [tn_n]; omega) (by omega) (by omega) (by omega) (by omega)
    exact tt_some ⟨k25, r26, p27, trivial⟩
def QRe_findApart (o0 : cf_O) (o1 : cf_O) (r : (cf_O)) : Prop := (okO I_Re r) ∧ (Fr (fr_M [] [3] []) o0 r) ∧ (Aq (o1.1 2).toInt ((o1.1 0).toInt + 1) (o1.1 2).toInt (sh ((o1.1 0).toInt + 1) (o1.2.1 4)) (sh ((o1.1 0).toInt + 1) (o1.2.1 5)) (cu (((o1.1 0).toInt + 1) + (o1.1 2).toInt) (r.2.1 0)) (cu (((o1.1 0).toInt + 1) + (o1.1 2).toInt) (r.2.1 1)) (r.2.1 3)) ∧ True
def HRe_findApart (yo0 : cf_O) (yo1 : cf_O) (n : Nat) : Prop := (∀ (v2 : Int32) (o0 : cf_O) (o1 : cf_O), (okO I_Re o0) → (Fr (fr_M [] [3] []) yo0 o0) → (okO I_Gr o1) → (Fr (fr_M [] [] []) yo1 o1) → ((1 : Int) ≤ v2.toInt ∧ v2.toInt ≤ 209) → (Gx ((o1.1 0).toInt + 1) (o1.1 2).toInt (sh ((o1.1 0).toInt + 1) (o1.2.1 4)) (sh ((o1.1 0).toInt + 1) (o1.2.1 5))) → (Aq (v2.toInt - ((o1.1 0).toInt + 1)) ((o1.1 0).toInt + 1) (o1.1 2).toInt (sh ((o1.1 0).toInt + 1) (o1.2.1 4)) (sh ((o1.1 0).toInt + 1) (o1.2.1 5)) (cu (((o1.1 0).toInt + 1) + (o1.1 2).toInt) (o0.2.1 0)) (cu (((o1.1 0).toInt + 1) + (o1.1 2).toInt) (o0.2.1 1)) (o0.2.1 3)) → ((o1.1 0).toInt < v2.toInt) → (v2.toInt ≤ 1 + (o1.1 0).toInt + (o1.1 2).toInt) → 0 + (209 - v2.toInt) * 2 < (n : Int) → tt (gRe_findApart n 0 v2 o0 o1) (QRe_findApart yo0 yo1))
set_option maxHeartbeats 4000000 in
set_option maxRecDepth 100000 in
theorem tRe_findApart_7 {yo0 : cf_O} {yo1 : cf_O} {n : Nat} (H : HRe_findApart yo0 yo1 n) (v2 : Int32) (o0 : cf_O) (o1 : cf_O) (k_o0 : okO I_Re o0) (r_o0 : Fr (fr_M [] [3] []) yo0 o0) (k_o1 : okO I_Gr o1) (r_o1 : Fr (fr_M [] [] []) yo1 o1) (i_v2 : (1 : Int) ≤ v2.toInt ∧ v2.toInt ≤ 209) (x_0 : Gx ((o1.1 0).toInt + 1) (o1.1 2).toInt (sh ((o1.1 0).toInt + 1) (o1.2.1 4)) (sh ((o1.1 0).toInt + 1) (o1.2.1 5))) (x_1 : Aq (v2.toInt - ((o1.1 0).toInt + 1)) ((o1.1 0).toInt + 1) (o1.1 2).toInt (sh ((o1.1 0).toInt + 1) (o1.2.1 4)) (sh ((o1.1 0).toInt + 1) (o1.2.1 5)) (cu (((o1.1 0).toInt + 1) + (o1.1 2).toInt) (o0.2.1 0)) (cu (((o1.1 0).toInt + 1) + (o1.1 2).toInt) (o0.2.1 1)) (o0.2.1 3)) (x_2 : (o1.1 0).toInt < v2.toInt) (x_3 : v2.toInt ≤ 1 + (o1.1 0).toInt + (o1.1 2).toInt) (hm : 0 + (209 - v2.toInt) * 2 ≤ (n : Int)) : tt (fRe_findApart_7 (gRe_findApart n) v2 o0 o1) (QRe_findApart yo0 yo1) := by
  unfold fRe_findApart_7
  have g_o0_0 : (0 : Int) ≤ (o0.1 0).toInt ∧ (o0.1 0).toInt ≤ 0 := k_o0.1 0
  have ey_o0_0 : (o0.1 0).toInt = (yo0.1 0).toInt := congrArg Int32.toInt (r_o0.1 0 rfl)
  have g_o0_2 : (0 : Int) ≤ (o0.1 2).toInt ∧ (o0.1 2).toInt ≤ 0 := k_o0.1 2
  have ey_o0_2 : (o0.1 2).toInt = (yo0.1 2).toInt := congrArg Int32.toInt (r_o0.1 2 rfl)
  have g_o1_0 : (0 : Int) ≤ (o1.1 0).toInt ∧ (o1.1 0).toInt ≤ 8 := k_o1.1 0
  have ey_o1_0 : (o1.1 0).toInt = (yo1.1 0).toInt := congrArg Int32.toInt (r_o1.1 0 rfl)
  have g_o1_2 : (0 : Int) ≤ (o1.1 2).toInt ∧ (o1.1 2).toInt ≤ 200 := k_o1.1 2
  have ey_o1_2 : (o1.1 2).toInt = (yo1.1 2).toInt := congrArg Int32.toInt (r_o1.1 2 rfl)
  try unfold fGr_size
  try unfold fGr_size_0
  refine tt_bkv (P := fun z => ((1 : Int) ≤ z.toInt ∧ z.toInt ≤ 9) ∧ z.toInt = 1 + (o1.1 0).toInt) ⟨iv_add (show (1 : Int) ≤ (1 : Int32).toInt ∧ (1 : Int32).toInt ≤ 1 by decide) (k_o1.1 0) (by decide) (by decide) (by decide) (by decide), iq_add (show (1 : Int) ≤ (1 : Int32).toInt ∧ (1 : Int32).toInt ≤ 1 by decide) (k_o1.1 0) (by decide) (by decide)⟩ (fun x1 qi2 => ?_)
  obtain ⟨i2, ei2⟩ := qi2
  refine tt_bkv (P := fun z => ((1 : Int) ≤ z.toInt ∧ z.toInt ≤ 209) ∧ z.toInt = x1.toInt + (o1.1 2).toInt) ⟨iv_add i2 (k_o1.1 2) (by decide) (by decide) (by decide) (by decide), iq_add i2 (k_o1.1 2) (by decide) (by decide)⟩ (fun x3 qi4 => ?_)
  obtain ⟨i4, ei4⟩ := qi4
  refine tt_bs ?_
  refine tt_if (fun c5 => ?_) (fun c5 => ?_)
  · have wc5 : x3.toInt ≤ v2.toInt := c_le c5
    have p6 : Aq (yo1.1 2).toInt ((yo1.1 0).toInt + 1) (yo1.1 2).toInt (sh ((yo1.1 0).toInt + 1) (yo1.2.1 4)) (sh ((yo1.1 0).toInt + 1) (yo1.2.1 5)) (cu (((yo1.1 0).toInt + 1) + (yo1.1 2).toInt) (o0.2.1 0)) (cu (((yo1.1 0).toInt + 1) + (yo1.1 2).toInt) (o0.2.1 1)) (o0.2.1 3) := by rw [← r_o1.1 0 rfl, ← r_o1.1 2 rfl, ← r_o1.2.1 4 rfl, ← r_o1.2.1 5 rfl]; exact Aq_e x_1 (by omega)
    exact tt_some ⟨k_o0, r_o0, p6, trivial⟩
  · have wc5 : v2.toInt < x3.toInt := c_nle c5
    have i7 : (1 : Int) ≤ v2.toInt ∧ v2.toInt ≤ 208 := nr_nlel c5 i_v2 i4 (by decide) (by decide)
    have i8 : (2 : Int) ≤ x3.toInt ∧ x3.toInt ≤ 209 := nr_nler c5 i_v2 i4 (by decide) (by decide)
    refine tt_n (ix_ok i7 (by decide) (by decide)) ?_
    refine tt_ko ?_
    have k9 := ok_xp (k := 3) (i := v2.toNatClampNeg) (v := (vp_nar .boolean 0)) k_o0 (iv_nz _)
    have r10 := fr_xp (k := 3) (i := v2.toNatClampNeg) (v := (vp_nar .boolean 0)) r_o0 rfl
    refine tt_n (ix_ok i7 (by decide) (by decide)) ?_
    refine tt_kv (P := fun z => ((0 : Int) ≤ z.toInt ∧ z.toInt ≤ 1) ∧ z.toInt = (o0.2.1 0 v2.toNatClampNeg).toInt) ⟨(k9.2 0 _), rfl⟩ (fun x11 qi12 => ?_)
    obtain ⟨i12, ei12⟩ := qi12
    refine tt_if (fun c13 => ?_) (fun c13 => ?_)
    · have wc13 : x11.toInt = (0 : Int) := c_eq c13
      have i14 : (0 : Int) ≤ x11.toInt ∧ x11.toInt ≤ 0 := nr_eql c13 i12 (show (0 : Int) ≤ (0 : Int32).toInt ∧ (0 : Int32).toInt ≤ 0 by decide) (by decide) (by decide)
      try unfold fRe_findApart_53
      refine tt_kv (P := fun z => ((2 : Int) ≤ z.toInt ∧ z.toInt ≤ 209) ∧ z.toInt = v2.toInt + 1) ⟨iv_add i7 (show (1 : Int) ≤ (1 : Int32).toInt ∧ (1 : Int32).toInt ≤ 1 by decide) (by decide) (by decide) (by decide) (by decide), iq_add i7 (show (1 : Int) ≤ (1 : Int32).toInt ∧ (1 : Int32).toInt ≤ 1 by decide) (by decide) (by decide)⟩ (fun x15 qi16 => ?_)
      obtain ⟨i16, ei16⟩ := qi16
      have p17 : Aq (x15.toInt - ((o1.1 0).toInt + 1)) ((o1.1 0).toInt + 1) (o1.1 2).toInt (sh ((o1.1 0).toInt + 1) (o1.2.1 4)) (sh ((o1.1 0).toInt + 1) (o1.2.1 5)) (cu (((o1.1 0).toInt + 1) + (o1.1 2).toInt) (o0.2.1 0)) (cu (((o1.1 0).toInt + 1) + (o1.1 2).toInt) (o0.2.1 1)) (upd (o0.2.1 3) (v2.toNatClampNeg) (vp_nar .boolean 0)) := by exact Aq_n x_1 (by rw [tn_n]; omega) (by omega) (by omega) (by decide) (by rw [cu_e (by rw [tn_n]; omega)]; omega)
      exact H _ _ _ k9 r10 k_o1 r_o1 (iv_w (a := 1) (b := 209) (by decide) (by decide) i16) x_0 p17 (show (o1.1 0).toInt < x15.toInt by omega) (show x15.toInt ≤ 1 + (o1.1 0).toInt + (o1.1 2).toInt by omega) (show 0 + (209 - x15.toInt) * 2 < (n : Int) by omega)
    · have wc13 : ¬ x11.toInt = (0 : Int) := c_ne c13
      have i18 : (1 : Int) ≤ x11.toInt ∧ x11.toInt ≤ 1 := nr_nela c13 i12 (show (0 : Int) ≤ (0 : Int32).toInt ∧ (0 : Int32).toInt ≤ 0 by decide) (by decide) (by decide)
      refine tt_n (ix_ok i7 (by decide) (by decide)) ?_
      refine tt_kv (P := fun z => ((0 : Int) ≤ z.toInt ∧ z.toInt ≤ 417) ∧ z.toInt = (o1.2.1 4 v2.toNatClampNeg).toInt) ⟨(k_o1.2 4 _), rfl⟩ (fun x19 qi20 => ?_)
      obtain ⟨i20, ei20⟩ := qi20
      refine tt_b (sRe_markApart _ _ _ k9 k_o1 i20) (fun q21 hq21 => ?_)
      obtain ⟨k_q21, n_q21, zq21_0, -⟩ := hq21
      have r_q21 := fr_tr r10 n_q21 rfl rfl rfl
      have e_q21_0 : (q21.1 0).toInt = (o0.1 0).toInt := congrArg Int32.toInt (n_q21.1 0 rfl)
      have g_q21_0 : (0 : Int) ≤ (q21.1 0).toInt ∧ (q21.1 0).toInt ≤ 0 := k_q21.1 0
      have e_q21_2 : (q21.1 2).toInt = (o0.1 2).toInt := congrArg Int32.toInt (n_q21.1 2 rfl)
      have g_q21_2 : (0 : Int) ≤ (q21.1 2).toInt ∧ (q21.1 2).toInt ≤ 0 := k_q21.1 2
      have zq21_0 : Mk x19.toInt ((o1.1 0).toInt + 1) (((o1.1 0).toInt + 1) + (o1.1 2).toInt) (o0.2.1 1) (upd (o0.2.1 3) (v2.toNatClampNeg) (vp_nar .boolean 0)) (q21.2.1 3) := zq21_0
      refine tt_n (ix_ok i7 (by decide) (by decide)) ?_
      refine tt_kv (P := fun z => ((0 : Int) ≤ z.toInt ∧ z.toInt ≤ 417) ∧ z.toInt = (o1.2.1 5 v2.toNatClampNeg).toInt) ⟨(k_o1.2 5 _), rfl⟩ (fun x22 qi23 => ?_)
      obtain ⟨i23, ei23⟩ := qi23
      refine tt_b (sRe_markApart _ _ _ k_q21 k_o1 i23) (fun q24 hq24 => ?_)
      obtain ⟨k_q24, n_q24, zq24_0, -⟩ := hq24
      have r_q24 := fr_tr r_q21 n_q24 rfl rfl rfl
      have e_q24_0 : (q24.1 0).toInt = (q21.1 0).toInt := congrArg Int32.toInt (n_q24.1 0 rfl)
      have g_q24_0 : (0 : Int) ≤ (q24.1 0).toInt ∧ (q24.1 0).toInt ≤ 0 := k_q24.1 0
      have e_q24_2 : (q24.1 2).toInt = (q21.1 2).toInt := congrArg Int32.toInt (n_q24.1 2 rfl)
      have g_q24_2 : (0 : Int) ≤ (q24.1 2).toInt ∧ (q24.1 2).toInt ≤ 0 := k_q24.1 2
      try unfold fRe_findApart_53
      refine tt_kv (P := fun z => ((2 : Int) ≤ z.toInt ∧ z.toInt ≤ 209) ∧ z.toInt = v2.toInt + 1) ⟨iv_add i7 (show (1 : Int) ≤ (1 : Int32).toInt ∧ (1 : Int32).toInt ≤ 1 by decide) (by decide) (by decide) (by decide) (by decide), iq_add i7 (show (1 : Int) ≤ (1 : Int32).toInt ∧ (1 : Int32).toInt ≤ 1 by decide) (by decide) (by decide)⟩ (fun x25 qi26 => ?_)
      obtain ⟨i26, ei26⟩ := qi26
      have p27 : Aq (x25.toInt - ((o1.1 0).toInt + 1)) ((o1.1 0).toInt + 1) (o1.1 2).toInt (sh ((o1.1 0).toInt + 1) (o1.2.1 4)) (sh ((o1.1 0).toInt + 1) (o1.2.1 5)) (cu (((o1.1 0).toInt + 1) + (o1.1 2).toInt) (q24.2.1 0)) (cu (((o1.1 0).toInt + 1) + (o1.1 2).toInt) (q24.2.1 1)) (q24.2.1 3) := by rw [n_q24.2.1 0 rfl, n_q24.2.1 1 rfl, show q21.2.1 0 = o0.2.1 0 from n_q21.2.1 0 rfl, show q21.2.1 1 = o0.2.1 1 from n_q21.2.1 1 rfl]; exact Aq_s (g := (v2.toInt - ((o1.1 0).toInt + 1)).toNat) (p := x19) (q := x22) x_1 x_0 (by rw [tn_n]; omega) (by omega) (by omega) (by omega) (by decide) (by rw [cu_e (by rw [tn_n]; omega)]; omega) (by rw [sh_e (j := v2.toNatClampNeg) (by rw [tn_n]; omega)]; assumption) (by rw [sh_e (j := v2.toNatClampNeg) (by rw [tn_n]; omega)]; assumption) zq21_0 (by rw [← show q21.2.1 1 = o0.2.1 1 from n_q21.2.1 1 rfl]; exact zq24_0)
      exact H _ _ _ k_q24 r_q24 k_o1 r_o1 (iv_w (a := 1) (b := 209) (by decide) (by decide) i26) x_0 p27 (show (o1.1 0).toInt < x25.toInt by omega) (show x25.toInt ≤ 1 + (o1.1 0).toInt + (o1.1 2).toInt by omega) (show 0 + (209 - x25.toInt) * 2 < (n : Int) by omega)
set_option maxHeartbeats 4000000 in
set_option maxRecDepth 100000 in
theorem hRe_findApart (yo0 : cf_O) (yo1 : cf_O) : ∀ n, HRe_findApart yo0 yo1 n := by
  intro n
  induction n with
  | zero => exact (fun v2 o0 o1 k_o0 r_o0 k_o1 r_o1 i_v2 x_0 x_1 x_2 x_3 hm => by exact absurd (show 0 + (209 - v2.toInt) * 2 < (0 : Int) from hm) (by omega))
  | succ n ih => exact (fun v2 o0 o1 k_o0 r_o0 k_o1 r_o1 i_v2 x_0 x_1 x_2 x_3 hm => tRe_findApart_7 ih v2 o0 o1 k_o0 r_o0 k_o1 r_o1 i_v2 x_0 x_1 x_2 x_3 (by omega))
set_option maxHeartbeats 4000000 in
set_option maxRecDepth 100000 in
theorem sRe_findApart (o0 : cf_O) (o1 : cf_O) (k_o0 : okO I_Re o0) (k_o1 : okO I_Gr o1) (x_0 : Gx ((o1.1 0).toInt + 1) (o1.1 2).toInt (sh ((o1.1 0).toInt + 1) (o1.2.1 4)) (sh ((o1.1 0).toInt + 1) (o1.2.1 5))) : tt (fRe_findApart o0 o1) (QRe_findApart o0 o1) := by
  have H := hRe_findApart o0 o1 cfFU
  have hm : (419 : Int) ≤ (cfFU : Nat) := by decide
  have r_o0 : Fr (fr_M [] [3] []) o0 o0 := fr_rfl
  have r_o1 : Fr (fr_M [] [] []) o1 o1 := fr_rfl
  unfold fRe_findApart fRe_findApart_0
  have g_o0_0 : (0 : Int) ≤ (o0.1 0).toInt ∧ (o0.1 0).toInt ≤ 0 := k_o0.1 0
  have g_o0_2 : (0 : Int) ≤ (o0.1 2).toInt ∧ (o0.1 2).toInt ≤ 0 := k_o0.1 2
  have g_o1_0 : (0 : Int) ≤ (o1.1 0).toInt ∧ (o1.1 0).toInt ≤ 8 := k_o1.1 0
  have g_o1_2 : (0 : Int) ≤ (o1.1 2).toInt ∧ (o1.1 2).toInt ≤ 200 := k_o1.1 2
  refine tt_kv (P := fun z => ((1 : Int) ≤ z.toInt ∧ z.toInt ≤ 9) ∧ z.toInt = (o1.1 0).toInt + 1) ⟨iv_add (k_o1.1 0) (show (1 : Int) ≤ (1 : Int32).toInt ∧ (1 : Int32).toInt ≤ 1 by decide) (by decide) (by decide) (by decide) (by decide), iq_add (k_o1.1 0) (show (1 : Int) ≤ (1 : Int32).toInt ∧ (1 : Int32).toInt ≤ 1 by decide) (by decide) (by decide)⟩ (fun x1 qi2 => ?_)
  obtain ⟨i2, ei2⟩ := qi2
  have p3 : Aq (x1.toInt - ((o1.1 0).toInt + 1)) ((o1.1 0).toInt + 1) (o1.1 2).toInt (sh ((o1.1 0).toInt + 1) (o1.2.1 4)) (sh ((o1.1 0).toInt + 1) (o1.2.1 5)) (cu (((o1.1 0).toInt + 1) + (o1.1 2).toInt) (o0.2.1 0)) (cu (((o1.1 0).toInt + 1) + (o1.1 2).toInt) (o0.2.1 1)) (o0.2.1 3) := by exact Aq_0 (by omega)
  exact H _ _ _ k_o0 r_o0 k_o1 r_o1 (iv_w (a := 1) (b := 209) (by decide) (by decide) i2) x_0 p3 (show (o1.1 0).toInt < x1.toInt by omega) (show x1.toInt ≤ 1 + (o1.1 0).toInt + (o1.1 2).toInt by omega) (show 0 + (209 - x1.toInt) * 2 < ((cfFU : Nat) : Int) by omega)
def QRe_freshOf (v1 : Int32) (o0 : cf_O) (r : (Int32)) : Prop := ((0 : Int) ≤ r.toInt ∧ r.toInt ≤ 417) ∧ (Fo r.toInt v1.toInt (o0.2.1 4)) ∧ True
set_option maxHeartbeats 4000000 in
set_option maxRecDepth 100000 in
theorem sRe_freshOf (v1 : Int32) (o0 : cf_O) (k_o0 : okO I_Re o0) (i_v1 : (0 : Int) ≤ v1.toInt ∧ v1.toInt ≤ 417) : tt (fRe_freshOf v1 o0) (QRe_freshOf v1 o0) := by
  have r_o0 : Fr (fr_M [] [] []) o0 o0 := fr_rfl
  unfold fRe_freshOf fRe_freshOf_0
  refine tt_kv (P := fun z => ((0 : Int) ≤ z.toInt ∧ z.toInt ≤ 208) ∧ z.toInt = v1.toInt / 2) ⟨iv_shr (p := 1) (q := 1) i_v1 (show (1 : Int) ≤ (1 : Int32).toInt ∧ (1 : Int32).toInt ≤ 1 by decide) (by decide) (by decide) (by decide) (by decide), i_s1 (Int.le_trans (by decide) i_v1.1)⟩ (fun x1 qi2 => ?_)
  obtain ⟨i2, ei2⟩ := qi2
  refine tt_n (ix_ok i2 (by decide) (by decide)) ?_
  refine tt_kv (P := fun z => ((0 : Int) ≤ z.toInt ∧ z.toInt ≤ 417) ∧ z.toInt = (o0.2.1 4 x1.toNatClampNeg).toInt) ⟨(k_o0.2 4 _), rfl⟩ (fun x3 qi4 => ?_)
  obtain ⟨i4, ei4⟩ := qi4
  refine tt_kv (P := fun z => ((0 : Int) ≤ z.toInt ∧ z.toInt ≤ 1) ∧ z.toInt = v1.toInt % 2) ⟨iv_and (show (1 : Int) ≤ (1 : Int32).toInt ∧ (1 : Int32).toInt ≤ 1 by decide) (by decide) (by decide) (by decide), i_a1 (Int.le_trans (by decide) i_v1.1)⟩ (fun x5 qi6 => ?_)
  obtain ⟨i6, ei6⟩ := qi6
  refine tt_kv (P := fun z => ((0 : Int) ≤ z.toInt ∧ z.toInt ≤ 417) ∧ z.toInt = x3.toInt - x3.toInt % 2 + (x3.toInt + x5.toInt) % 2) ⟨iv_x1 i4 i6 (by decide) (by decide) (by decide) (by decide) (by decide), i_xb (Int.le_trans (by decide) i4.1) (Int.le_trans (by decide) i6.1) (Int.le_trans i6.2 (by decide))⟩ (fun x7 qi8 => ?_)
  obtain ⟨i8, ei8⟩ := qi8
  have p9 : Fo x7.toInt v1.toInt (o0.2.1 4) := by exact Fo_i (show Int32.toInt _ = (o0.2.1 4 _).toInt by assumption) (by rw [tn_n]; omega) (by omega)
  exact tt_some ⟨i8, p9, trivial⟩
def QRe_findLeaves (v2 : Int32) (o0 : cf_O) (o1 : cf_O) (r : (cf_O)) : Prop := (okO I_Re r) ∧ (Fr (fr_M [7] [5, 6] []) o0 r) ∧ (Rr v2.toInt ((o1.1 0).toInt + 1) (cu (((o1.1 0).toInt + 1) + (o1.1 2).toInt) (r.2.1 0)) (r.2.1 3) (r.2.1 4) (r.1 7).toInt (r.2.1 6)) ∧ (1 ≤ (r.1 7).toInt) ∧ True
def HRe_findLeaves (yv2 : Int32) (yo0 : cf_O) (yo1 : cf_O) (n : Nat) : Prop := (∀ (v2 : Int32) (v3 : Int32) (v4 : Int32) (o0 : cf_O) (o1 : cf_O), (okO I_Re o0) → (Fr (fr_M [7] [5, 6] []) yo0 o0) → (okO I_Gr o1) → (Fr (fr_M [] [] []) yo1 o1) → ((1 : Int) ≤ v2.toInt ∧ v2.toInt ≤ 208) → ((0 : Int) ≤ v3.toInt ∧ v3.toInt ≤ 210) → ((0 : Int) ≤ v4.toInt ∧ v4.toInt ≤ 418) → (Gx ((o1.1 0).toInt + 1) (o1.1 2).toInt (sh ((o1.1 0).toInt + 1) (o1.2.1 4)) (sh ((o1.1 0).toInt + 1) (o1.2.1 5))) → (Lk (-1) ((o1.1 0).toInt + 1) (o1.1 2).toInt (o1.1 1).toInt (o1.2.1 7) (sh ((o1.1 0).toInt + 1) (o1.2.1 4)) (sh ((o1.1 0).toInt + 1) (o1.2.1 5)) (cu (((o1.1 0).toInt + 1) + (o1.1 2).toInt) (o0.2.1 0)) (cu (((o1.1 0).toInt + 1) + (o1.1 2).toInt) (o0.2.1 1))) → (Aq (o1.1 2).toInt ((o1.1 0).toInt + 1) (o1.1 2).toInt (sh ((o1.1 0).toInt + 1) (o1.2.1 4)) (sh ((o1.1 0).toInt + 1) (o1.2.1 5)) (cu (((o1.1 0).toInt + 1) + (o1.1 2).toInt) (o0.2.1 0)) (cu (((o1.1 0).toInt + 1) + (o1.1 2).toInt) (o0.2.1 1)) (o0.2.1 3)) → ((¬ ((o0.2.1 0) v2.toNatClampNeg).toInt = 0)) → (Lw v3.toInt (o0.1 7).toInt ((o1.1 0).toInt + 1) (o1.1 2).toInt (v2.toInt - ((o1.1 0).toInt + 1)).toNat (o0.2.1 5) (sh ((o1.1 0).toInt + 1) (o1.2.1 4)) (sh ((o1.1 0).toInt + 1) (o1.2.1 5)) (cu (((o1.1 0).toInt + 1) + (o1.1 2).toInt) (o0.2.1 0))) → ((o1.1 0).toInt < v2.toInt) → (v2.toInt < 1 + (o1.1 0).toInt + (o1.1 2).toInt) → (Rr v2.toInt ((o1.1 0).toInt + 1) (cu (((o1.1 0).toInt + 1) + (o1.1 2).toInt) (o0.2.1 0)) (o0.2.1 3) (o0.2.1 4) (o0.1 7).toInt (o0.2.1 6)) → ((v2 = yv2)) → (v4.toInt = v3.toInt + 2 * (o0.1 7).toInt - 1) → 0 + (418 - v4.toInt) * 2 < (n : Int) → tt (gRe_findLeaves n 0 v2 v3 v4 o0 o1) (QRe_findLeaves yv2 yo0 yo1))
set_option maxHeartbeats 4000000 in
set_option maxRecDepth 100000 in
theorem tRe_findLeaves_19 {yv2 : Int32} {yo0 : cf_O} {yo1 : cf_O} {n : Nat} (H : HRe_findLeaves yv2 yo0 yo1 n) (v2 : Int32) (v3 : Int32) (v4 : Int32) (o0 : cf_O) (o1 : cf_O) (k_o0 : okO I_Re o0) (r_o0 : Fr (fr_M [7] [5, 6] []) yo0 o0) (k_o1 : okO I_Gr o1) (r_o1 : Fr (fr_M [] [] []) yo1 o1) (i_v2 : (1 : Int) ≤ v2.toInt ∧ v2.toInt ≤ 208) (i_v3 : (0 : Int) ≤ v3.toInt ∧ v3.toInt ≤ 210) (i_v4 : (0 : Int) ≤ v4.toInt ∧ v4.toInt ≤ 418) (x_0 : Gx ((o1.1 0).toInt + 1) (o1.1 2).toInt (sh ((o1.1 0).toInt + 1) (o1.2.1 4)) (sh ((o1.1 0).toInt + 1) (o1.2.1 5))) (x_1 : Lk (-1) ((o1.1 0).toInt + 1) (o1.1 2).toInt (o1.1 1).toInt (o1.2.1 7) (sh ((o1.1 0).toInt + 1) (o1.2.1 4)) (sh ((o1.1 0).toInt + 1) (o1.2.1 5)) (cu (((o1.1 0).toInt + 1) + (o1.1 2).toInt) (o0.2.1 0)) (cu (((o1.1 0).toInt + 1) + (o1.1 2).toInt) (o0.2.1 1))) (x_2 : Aq (o1.1 2).toInt ((o1.1 0).toInt + 1) (o1.1 2).toInt (sh ((o1.1 0).toInt + 1) (o1.2.1 4)) (sh ((o1.1 0).toInt + 1) (o1.2.1 5)) (cu (((o1.1 0).toInt + 1) + (o1.1 2).toInt) (o0.2.1 0)) (cu (((o1.1 0).toInt + 1) + (o1.1 2).toInt) (o0.2.1 1)) (o0.2.1 3)) (x_3 : (¬ ((o0.2.1 0) v2.toNatClampNeg).toInt = 0)) (x_4 : Lw v3.toInt (o0.1 7).toInt ((o1.1 0).toInt + 1) (o1.1 2).toInt (v2.toInt - ((o1.1 0).toInt + 1)).toNat (o0.2.1 5) (sh ((o1.1 0).toInt + 1) (o1.2.1 4)) (sh ((o1.1 0).toInt + 1) (o1.2.1 5)) (cu (((o1.1 0).toInt + 1) + (o1.1 2).toInt) (o0.2.1 0))) (x_5 : (o1.1 0).toInt < v2.toInt) (x_6 : v2.toInt < 1 + (o1.1 0).toInt + (o1.1 2).toInt) (x_7 : Rr v2.toInt ((o1.1 0).toInt + 1) (cu (((o1.1 0).toInt + 1) + (o1.1 2).toInt) (o0.2.1 0)) (o0.2.1 3) (o0.2.1 4) (o0.1 7).toInt (o0.2.1 6)) (x_8 : (v2 = yv2)) (x_9 : v4.toInt = v3.toInt + 2 * (o0.1 7).toInt - 1) (hm : 0 + (418 - v4.toInt) * 2 ≤ (n : Int)) : tt (fRe_findLeaves_19 (gRe_findLeaves n) v2 v3 v4 o0 o1) (QRe_findLeaves yv2 yo0 yo1) := by
  unfold fRe_findLeaves_19
  have g_o0_0 : (0 : Int) ≤ (o0.1 0).toInt ∧ (o0.1 0).toInt ≤ 0 := k_o0.1 0
  have ey_o0_0 : (o0.1 0).toInt = (yo0.1 0).toInt := congrArg Int32.toInt (r_o0.1 0 rfl)
  have g_o0_2 : (0 : Int) ≤ (o0.1 2).toInt ∧ (o0.1 2).toInt ≤ 0 := k_o0.1 2
  have ey_o0_2 : (o0.1 2).toInt = (yo0.1 2).toInt := congrArg Int32.toInt (r_o0.1 2 rfl)
  have g_o0_7 : (0 : Int) ≤ (o0.1 7).toInt ∧ (o0.1 7).toInt ≤ 210 := k_o0.1 7
  have g_o1_0 : (0 : Int) ≤ (o1.1 0).toInt ∧ (o1.1 0).toInt ≤ 8 := k_o1.1 0
  have ey_o1_0 : (o1.1 0).toInt = (yo1.1 0).toInt := congrArg Int32.toInt (r_o1.1 0 rfl)
  have g_o1_2 : (0 : Int) ≤ (o1.1 2).toInt ∧ (o1.1 2).toInt ≤ 200 := k_o1.1 2
  have ey_o1_2 : (o1.1 2).toInt = (yo1.1 2).toInt := congrArg Int32.toInt (r_o1.1 2 rfl)
  have g_o1_7 : (0 : Int) ≤ (o1.1 7).toInt ∧ (o1.1 7).toInt ≤ 0 := k_o1.1 7
  have ey_o1_7 : (o1.1 7).toInt = (yo1.1 7).toInt := congrArg Int32.toInt (r_o1.1 7 rfl)
  have t1 := Lw_b x_4 (by omega)
  refine tt_if (fun c2 => ?_) (fun c2 => ?_)
  · have wc2 : (418 : Int) ≤ v4.toInt := c_le c2
    have i3 : (418 : Int) ≤ v4.toInt ∧ v4.toInt ≤ 418 := nr_ler c2 (show (418 : Int) ≤ (418 : Int32).toInt ∧ (418 : Int32).toInt ≤ 418 by decide) i_v4 (by decide) (by decide)
    try unfold fRe_findLeaves_129
    have p4 : Rr yv2.toInt ((yo1.1 0).toInt + 1) (cu (((yo1.1 0).toInt + 1) + (yo1.1 2).toInt) (o0.2.1 0)) (o0.2.1 3) (o0.2.1 4) (o0.1 7).toInt (o0.2.1 6) := by rw [← x_8, ← r_o1.1 0 rfl, ← r_o1.1 2 rfl]; exact x_7
    exact tt_some ⟨k_o0, r_o0, p4, (show 1 ≤ (o0.1 7).toInt by omega), trivial⟩
  · have wc2 : v4.toInt < (418 : Int) := c_nle c2
    have i5 : (0 : Int) ≤ v4.toInt ∧ v4.toInt ≤ 417 := nr_nlel c2 i_v4 (show (418 : Int) ≤ (418 : Int32).toInt ∧ (418 : Int32).toInt ≤ 418 by decide) (by decide) (by decide)
    refine tt_if (fun c6 => ?_) (fun c6 => ?_)
    · have wc6 : v3.toInt ≤ (0 : Int) := c_le c6
      have i7 : (0 : Int) ≤ v3.toInt ∧ v3.toInt ≤ 0 := nr_lel c6 i_v3 (show (0 : Int) ≤ (0 : Int32).toInt ∧ (0 : Int32).toInt ≤ 0 by decide) (by decide) (by decide)
      try unfold fRe_findLeaves_129
      have p8 : Rr yv2.toInt ((yo1.1 0).toInt + 1) (cu (((yo1.1 0).toInt + 1) + (yo1.1 2).toInt) (o0.2.1 0)) (o0.2.1 3) (o0.2.1 4) (o0.1 7).toInt (o0.2.1 6) := by rw [← x_8, ← r_o1.1 0 rfl, ← r_o1.1 2 rfl]; exact x_7
      exact tt_some ⟨k_o0, r_o0, p8, (show 1 ≤ (o0.1 7).toInt by omega), trivial⟩
    · have wc6 : (0 : Int) < v3.toInt := c_nle c6
      have i9 : (1 : Int) ≤ v3.toInt ∧ v3.toInt ≤ 210 := nr_nler c6 (show (0 : Int) ≤ (0 : Int32).toInt ∧ (0 : Int32).toInt ≤ 0 by decide) i_v3 (by decide) (by decide)
      refine tt_kv (P := fun z => ((0 : Int) ≤ z.toInt ∧ z.toInt ≤ 209) ∧ z.toInt = v3.toInt + (-1)) ⟨iv_add i9 (show ((-1) : Int) ≤ ((-1) : Int32).toInt ∧ ((-1) : Int32).toInt ≤ (-1) by decide) (by decide) (by decide) (by decide) (by decide), iq_add i9 (show ((-1) : Int) ≤ ((-1) : Int32).toInt ∧ ((-1) : Int32).toInt ≤ (-1) by decide) (by decide) (by decide)⟩ (fun x10 qi11 => ?_)
      obtain ⟨i11, ei11⟩ := qi11
      refine tt_n (ix_ok i11 (by decide) (by decide)) ?_
      refine tt_kv (P := fun z => ((0 : Int) ≤ z.toInt ∧ z.toInt ≤ 417) ∧ z.toInt = (o0.2.1 5 x10.toNatClampNeg).toInt) ⟨(k_o0.2 5 _), rfl⟩ (fun x12 qi13 => ?_)
      obtain ⟨i13, ei13⟩ := qi13
      refine tt_kv (P := fun z => ((0 : Int) ≤ z.toInt ∧ z.toInt ≤ 208) ∧ z.toInt = x12.toInt / 2) ⟨iv_shr (p := 1) (q := 1) i13 (show (1 : Int) ≤ (1 : Int32).toInt ∧ (1 : Int32).toInt ≤ 1 by decide) (by decide) (by decide) (by decide) (by decide), i_s1 (Int.le_trans (by decide) i13.1)⟩ (fun x14 qi15 => ?_)
      obtain ⟨i15, ei15⟩ := qi15
      refine tt_if (fun c16 => ?_) (fun c16 => ?_)
      · have wc16 : x14.toInt = v2.toInt := c_eq c16
        have i17 : (1 : Int) ≤ x14.toInt ∧ x14.toInt ≤ 208 := nr_eql c16 i15 i_v2 (by decide) (by decide)
        try unfold fRe_findLeaves_64
        refine tt_n (ix_ok i17 (by decide) (by decide)) ?_
        refine tt_kv (P := fun z => ((0 : Int) ≤ z.toInt ∧ z.toInt ≤ 417) ∧ z.toInt = (o1.2.1 5 x14.toNatClampNeg).toInt) ⟨(k_o1.2 5 _), rfl⟩ (fun x18 qi19 => ?_)
        obtain ⟨i19, ei19⟩ := qi19
        refine tt_n (ix_ok i11 (by decide) (by decide)) ?_
        refine tt_ko ?_
        have k20 := ok_xp (k := 5) (i := x10.toNatClampNeg) (v := x18) k_o0 i19
        have r21 := fr_xp (k := 5) (i := x10.toNatClampNeg) (v := x18) r_o0 rfl
        refine tt_kv (P := fun z => ((1 : Int) ≤ z.toInt ∧ z.toInt ≤ 210) ∧ z.toInt = x10.toInt + 1) ⟨iv_add i11 (show (1 : Int) ≤ (1 : Int32).toInt ∧ (1 : Int32).toInt ≤ 1 by decide) (by decide) (by decide) (by decide) (by decide), iq_add i11 (show (1 : Int) ≤ (1 : Int32).toInt ∧ (1 : Int32).toInt ≤ 1 by decide) (by decide) (by decide)⟩ (fun x22 qi23 => ?_)
        obtain ⟨i23, ei23⟩ := qi23
        refine tt_n (ix_ok i17 (by decide) (by decide)) ?_
        refine tt_kv (P := fun z => ((0 : Int) ≤ z.toInt ∧ z.toInt ≤ 417) ∧ z.toInt = (o1.2.1 4 x14.toNatClampNeg).toInt) ⟨(k_o1.2 4 _), rfl⟩ (fun x24 qi25 => ?_)
        obtain ⟨i25, ei25⟩ := qi25
        refine tt_n (ix_rel (by omega) (by omega)) ?_
        have i26 : (1 : Int) ≤ x22.toInt ∧ x22.toInt ≤ 209 := (by omega)
        have i27 : (0 : Int) ≤ x10.toInt ∧ x10.toInt ≤ 208 := by omega
        have i28 : (1 : Int) ≤ v3.toInt ∧ v3.toInt ≤ 209 := by omega
        refine tt_ko ?_
        have k29 := ok_xp (k := 5) (i := x22.toNatClampNeg) (v := x24) k20 i25
        have r30 := fr_xp (k := 5) (i := x22.toNatClampNeg) (v := x24) r21 rfl
        refine tt_kv (P := fun z => ((2 : Int) ≤ z.toInt ∧ z.toInt ≤ 210) ∧ z.toInt = x10.toInt + 2) ⟨iv_add i27 (show (2 : Int) ≤ (2 : Int32).toInt ∧ (2 : Int32).toInt ≤ 2 by decide) (by decide) (by decide) (by decide) (by decide), iq_add i27 (show (2 : Int) ≤ (2 : Int32).toInt ∧ (2 : Int32).toInt ≤ 2 by decide) (by decide) (by decide)⟩ (fun x31 qi32 => ?_)
        obtain ⟨i32, ei32⟩ := qi32
        try unfold fRe_findLeaves_123
        refine tt_kv (P := fun z => ((1 : Int) ≤ z.toInt ∧ z.toInt ≤ 418) ∧ z.toInt = v4.toInt + 1) ⟨iv_add i5 (show (1 : Int) ≤ (1 : Int32).toInt ∧ (1 : Int32).toInt ≤ 1 by decide) (by decide) (by decide) (by decide) (by decide), iq_add i5 (show (1 : Int) ≤ (1 : Int32).toInt ∧ (1 : Int32).toInt ≤ 1 by decide) (by decide) (by decide)⟩ (fun x33 qi34 => ?_)
        obtain ⟨i34, ei34⟩ := qi34
        have p35 : Lw x31.toInt (o0.1 7).toInt ((o1.1 0).toInt + 1) (o1.1 2).toInt (v2.toInt - ((o1.1 0).toInt + 1)).toNat (upd (upd (o0.2.1 5) (x10.toNatClampNeg) x18) (x22.toNatClampNeg) x24) (sh ((o1.1 0).toInt + 1) (o1.2.1 4)) (sh ((o1.1 0).toInt + 1) (o1.2.1 5)) (cu (((o1.1 0).toInt + 1) + (o1.1 2).toInt) (o0.2.1 0)) := by exact Lw_g (l := x12) (k := v2.toNatClampNeg) x_4 x_0 (by omega) (by omega) (by rw [tn_n]; omega) (by rw [tn_n]; omega) (by assumption) (by omega) (by omega) (by omega) (by rw [cu_e (by rw [tn_n]; omega)]; exact x_3) (by rw [tn_n]; omega) (by rw [sh_e (j := x14.toNatClampNeg) (by rw [tn_n]; omega)]; assumption) (by rw [sh_e (j := x14.toNatClampNeg) (by rw [tn_n]; omega)]; assumption)
        exact H _ _ _ _ _ k29 r30 k_o1 r_o1 i_v2 (iv_w (a := 0) (b := 210) (by decide) (by decide) i32) (iv_w (a := 0) (b := 418) (by decide) (by decide) i34) x_0 x_1 x_2 x_3 p35 (show (o1.1 0).toInt < v2.toInt by omega) (show v2.toInt < 1 + (o1.1 0).toInt + (o1.1 2).toInt by omega) x_7 x_8 (show x33.toInt = x31.toInt + 2 * (o0.1 7).toInt - 1 by omega) (show 0 + (418 - x33.toInt) * 2 < (n : Int) by omega)
      · have wc16 : ¬ x14.toInt = v2.toInt := c_ne c16
        refine tt_n (ix_ok i15 (by decide) (by decide)) ?_
        refine tt_kv (P := fun z => ((0 : Int) ≤ z.toInt ∧ z.toInt ≤ 1) ∧ z.toInt = (o0.2.1 3 x14.toNatClampNeg).toInt) ⟨(k_o0.2 3 _), rfl⟩ (fun x36 qi37 => ?_)
        obtain ⟨i37, ei37⟩ := qi37
        refine tt_if (fun c38 => ?_) (fun c38 => ?_)
        · have wc38 : x36.toInt = (0 : Int) := c_eq c38
          have i39 : (0 : Int) ≤ x36.toInt ∧ x36.toInt ≤ 0 := nr_eql c38 i37 (show (0 : Int) ≤ (0 : Int32).toInt ∧ (0 : Int32).toInt ≤ 0 by decide) (by decide) (by decide)
          refine tt_b (sRe_freshOf _ _ k_o0 i13) (fun q40 hq40 => ?_)
          obtain ⟨i_q40, zq40_0, -⟩ := hq40
          refine tt_n (ix_rel (x := (o0.1 7)) (by omega) (by omega)) ?_
          have i41 : (0 : Int) ≤ (o0.1 7).toInt ∧ (o0.1 7).toInt ≤ 209 := (by omega)
          refine tt_ko ?_
          have k42 := ok_xp (k := 6) (i := (o0.1 7).toNatClampNeg) (v := q40) k_o0 i_q40
          have r43 := fr_xp (k := 6) (i := (o0.1 7).toNatClampNeg) (v := q40) r_o0 rfl
          refine tt_kv (P := fun z => ((1 : Int) ≤ z.toInt ∧ z.toInt ≤ 210) ∧ z.toInt = (o0.1 7).toInt + 1) ⟨iv_add i41 (show (1 : Int) ≤ (1 : Int32).toInt ∧ (1 : Int32).toInt ≤ 1 by decide) (by decide) (by decide) (by decide) (by decide), iq_add i41 (show (1 : Int) ≤ (1 : Int32).toInt ∧ (1 : Int32).toInt ≤ 1 by decide) (by decide) (by decide)⟩ (fun x44 qi45 => ?_)
          obtain ⟨i45, ei45⟩ := qi45
          refine tt_ko ?_
          have k46 := ok_fp (k := 7) (v := x44) k42 (iv_w (a := 0) (b := 210) (by decide) (by decide) i45)
          have r47 := fr_fp (k := 7) (v := x44) r43 rfl
          try unfold fRe_findLeaves_123
          refine tt_kv (P := fun z => ((1 : Int) ≤ z.toInt ∧ z.toInt ≤ 418) ∧ z.toInt = v4.toInt + 1) ⟨iv_add i5 (show (1 : Int) ≤ (1 : Int32).toInt ∧ (1 : Int32).toInt ≤ 1 by decide) (by decide) (by decide) (by decide) (by decide), iq_add i5 (show (1 : Int) ≤ (1 : Int32).toInt ∧ (1 : Int32).toInt ≤ 1 by decide) (by decide) (by decide)⟩ (fun x48 qi49 => ?_)
          obtain ⟨i49, ei49⟩ := qi49
          have p50 : Lw x10.toInt x44.toInt ((o1.1 0).toInt + 1) (o1.1 2).toInt (v2.toInt - ((o1.1 0).toInt + 1)).toNat (o0.2.1 5) (sh ((o1.1 0).toInt + 1) (o1.2.1 4)) (sh ((o1.1 0).toInt + 1) (o1.2.1 5)) (cu (((o1.1 0).toInt + 1) + (o1.1 2).toInt) (o0.2.1 0)) := by exact Lw_l (i := x10.toNatClampNeg) (l := x12) x_4 (by omega) (by omega) (by omega) (by rw [tn_n]; omega) (by assumption) (by omega)
          have p51 : Rr v2.toInt ((o1.1 0).toInt + 1) (cu (((o1.1 0).toInt + 1) + (o1.1 2).toInt) (o0.2.1 0)) (o0.2.1 3) (o0.2.1 4) x44.toInt (upd (o0.2.1 6) ((o0.1 7).toNatClampNeg) q40) := by exact Rr_s (i := x10.toNatClampNeg) (m := x14.toNatClampNeg) (l := x12) x_7 x_4 x_0 x_1 (by omega) (by omega) (by rw [tn_n]; omega) (by assumption) (by omega) (by rw [tn_n]; omega) (by omega) (by omega) (by assumption) (by rw [tn_n]; omega) (by omega)
          exact H _ _ _ _ _ k46 r47 k_o1 r_o1 i_v2 (iv_w (a := 0) (b := 210) (by decide) (by decide) i11) (iv_w (a := 0) (b := 418) (by decide) (by decide) i49) x_0 x_1 x_2 x_3 p50 (show (o1.1 0).toInt < v2.toInt by omega) (show v2.toInt < 1 + (o1.1 0).toInt + (o1.1 2).toInt by omega) p51 x_8 (show x48.toInt = x10.toInt + 2 * x44.toInt - 1 by omega) (show 0 + (418 - x48.toInt) * 2 < (n : Int) by omega)
        · have wc38 : ¬ x36.toInt = (0 : Int) := c_ne c38
          have i52 : (1 : Int) ≤ x36.toInt ∧ x36.toInt ≤ 1 := nr_nela c38 i37 (show (0 : Int) ≤ (0 : Int32).toInt ∧ (0 : Int32).toInt ≤ 0 by decide) (by decide) (by decide)
          try unfold fRe_findLeaves_64
          refine tt_n (ix_ok i15 (by decide) (by decide)) ?_
          refine tt_kv (P := fun z => ((0 : Int) ≤ z.toInt ∧ z.toInt ≤ 417) ∧ z.toInt = (o1.2.1 5 x14.toNatClampNeg).toInt) ⟨(k_o1.2 5 _), rfl⟩ (fun x53 qi54 => ?_)
          obtain ⟨i54, ei54⟩ := qi54
          refine tt_n (ix_ok i11 (by decide) (by decide)) ?_
          refine tt_ko ?_
          have k55 := ok_xp (k := 5) (i := x10.toNatClampNeg) (v := x53) k_o0 i54
          have r56 := fr_xp (k := 5) (i := x10.toNatClampNeg) (v := x53) r_o0 rfl
          refine tt_kv (P := fun z => ((1 : Int) ≤ z.toInt ∧ z.toInt ≤ 210) ∧ z.toInt = x10.toInt + 1) ⟨iv_add i11 (show (1 : Int) ≤ (1 : Int32).toInt ∧ (1 : Int32).toInt ≤ 1 by decide) (by decide) (by decide) (by decide) (by decide), iq_add i11 (show (1 : Int) ≤ (1 : Int32).toInt ∧ (1 : Int32).toInt ≤ 1 by decide) (by decide) (by decide)⟩ (fun x57 qi58 => ?_)
          obtain ⟨i58, ei58⟩ := qi58
          refine tt_n (ix_ok i15 (by decide) (by decide)) ?_
          refine tt_kv (P := fun z => ((0 : Int) ≤ z.toInt ∧ z.toInt ≤ 417) ∧ z.toInt = (o1.2.1 4 x14.toNatClampNeg).toInt) ⟨(k_o1.2 4 _), rfl⟩ (fun x59 qi60 => ?_)
          obtain ⟨i60, ei60⟩ := qi60
          refine tt_n (ix_rel (by omega) (by omega)) ?_
          have i61 : (1 : Int) ≤ x57.toInt ∧ x57.toInt ≤ 209 := (by omega)
          have i62 : (0 : Int) ≤ x10.toInt ∧ x10.toInt ≤ 208 := by omega
          have i63 : (1 : Int) ≤ v3.toInt ∧ v3.toInt ≤ 209 := by omega
          refine tt_ko ?_
          have k64 := ok_xp (k := 5) (i := x57.toNatClampNeg) (v := x59) k55 i60
          have r65 := fr_xp (k := 5) (i := x57.toNatClampNeg) (v := x59) r56 rfl
          refine tt_kv (P := fun z => ((2 : Int) ≤ z.toInt ∧ z.toInt ≤ 210) ∧ z.toInt = x10.toInt + 2) ⟨iv_add i62 (show (2 : Int) ≤ (2 : Int32).toInt ∧ (2 : Int32).toInt ≤ 2 by decide) (by decide) (by decide) (by decide) (by decide), iq_add i62 (show (2 : Int) ≤ (2 : Int32).toInt ∧ (2 : Int32).toInt ≤ 2 by decide) (by decide) (by decide)⟩ (fun x66 qi67 => ?_)
          obtain ⟨i67, ei67⟩ := qi67
          try unfold fRe_findLeaves_123
          refine tt_kv (P := fun z => ((1 : Int) ≤ z.toInt ∧ z.toInt ≤ 418) ∧ z.toInt = v4.toInt + 1) ⟨iv_add i5 (show (1 : Int) ≤ (1 : Int32).toInt ∧ (1 : Int32).toInt ≤ 1 by decide) (by decide) (by decide) (by decide) (by decide), iq_add i5 (show (1 : Int) ≤ (1 : Int32).toInt ∧ (1 : Int32).toInt ≤ 1 by decide) (by decide) (by decide)⟩ (fun x68 qi69 => ?_)
          obtain ⟨i69, ei69⟩ := qi69
          have p70 : Lw x66.toInt (o0.1 7).toInt ((o1.1 0).toInt + 1) (o1.1 2).toInt (v2.toInt - ((o1.1 0).toInt + 1)).toNat (upd (upd (o0.2.1 5) (x10.toNatClampNeg) x53) (x57.toNatClampNeg) x59) (sh ((o1.1 0).toInt + 1) (o1.2.1 4)) (sh ((o1.1 0).toInt + 1) (o1.2.1 5)) (cu (((o1.1 0).toInt + 1) + (o1.1 2).toInt) (o0.2.1 0)) := by exact Lw_p (l := x12) (m := x14.toNatClampNeg) x_4 x_0 x_1 x_2 (by omega) (by omega) (by rw [tn_n]; omega) (by rw [tn_n]; omega) (by assumption) (by omega) (by rw [tn_n]; omega) (by omega) (by omega) (by omega) (fun g e => by rw [sh_e e]; assumption) (fun g e => by rw [sh_e e]; assumption)
          exact H _ _ _ _ _ k64 r65 k_o1 r_o1 i_v2 (iv_w (a := 0) (b := 210) (by decide) (by decide) i67) (iv_w (a := 0) (b := 418) (by decide) (by decide) i69) x_0 x_1 x_2 x_3 p70 (show (o1.1 0).toInt < v2.toInt by omega) (show v2.toInt < 1 + (o1.1 0).toInt + (o1.1 2).toInt by omega) x_7 x_8 (show x68.toInt = x66.toInt + 2 * (o0.1 7).toInt - 1 by omega) (show 0 + (418 - x68.toInt) * 2 < (n : Int) by omega)
set_option maxHeartbeats 4000000 in
set_option maxRecDepth 100000 in
theorem hRe_findLeaves (yv2 : Int32) (yo0 : cf_O) (yo1 : cf_O) : ∀ n, HRe_findLeaves yv2 yo0 yo1 n := by
  intro n
  induction n with
  | zero => exact (fun v2 v3 v4 o0 o1 k_o0 r_o0 k_o1 r_o1 i_v2 i_v3 i_v4 x_0 x_1 x_2 x_3 x_4 x_5 x_6 x_7 x_8 x_9 hm => by exact absurd (show 0 + (418 - v4.toInt) * 2 < (0 : Int) from hm) (by omega))
  | succ n ih => exact (fun v2 v3 v4 o0 o1 k_o0 r_o0 k_o1 r_o1 i_v2 i_v3 i_v4 x_0 x_1 x_2 x_3 x_4 x_5 x_6 x_7 x_8 x_9 hm => tRe_findLeaves_19 ih v2 v3 v4 o0 o1 k_o0 r_o0 k_o1 r_o1 i_v2 i_v3 i_v4 x_0 x_1 x_2 x_3 x_4 x_5 x_6 x_7 x_8 x_9 (by omega))
set_option maxHeartbeats 4000000 in
set_option maxRecDepth 100000 in
theorem sRe_findLeaves (v2 : Int32) (o0 : cf_O) (o1 : cf_O) (k_o0 : okO I_Re o0) (k_o1 : okO I_Gr o1) (i_v2 : (1 : Int) ≤ v2.toInt ∧ v2.toInt ≤ 208) (x_0 : Gx ((o1.1 0).toInt + 1) (o1.1 2).toInt (sh ((o1.1 0).toInt + 1) (o1.2.1 4)) (sh ((o1.1 0).toInt + 1) (o1.2.1 5))) (x_1 : Lk (-1) ((o1.1 0).toInt + 1) (o1.1 2).toInt (o1.1 1).toInt (o1.2.1 7) (sh ((o1.1 0).toInt + 1) (o1.2.1 4)) (sh ((o1.1 0).toInt + 1) (o1.2.1 5)) (cu (((o1.1 0).toInt + 1) + (o1.1 2).toInt) (o0.2.1 0)) (cu (((o1.1 0).toInt + 1) + (o1.1 2).toInt) (o0.2.1 1))) (x_2 : Aq (o1.1 2).toInt ((o1.1 0).toInt + 1) (o1.1 2).toInt (sh ((o1.1 0).toInt + 1) (o1.2.1 4)) (sh ((o1.1 0).toInt + 1) (o1.2.1 5)) (cu (((o1.1 0).toInt + 1) + (o1.1 2).toInt) (o0.2.1 0)) (cu (((o1.1 0).toInt + 1) + (o1.1 2).toInt) (o0.2.1 1)) (o0.2.1 3)) (x_3 : (¬ ((o0.2.1 0) v2.toNatClampNeg).toInt = 0)) (x_4 : (o1.1 0).toInt < v2.toInt) (x_5 : v2.toInt < 1 + (o1.1 0).toInt + (o1.1 2).toInt) : tt (fRe_findLeaves v2 o0 o1) (QRe_findLeaves v2 o0 o1) := by
  have H := hRe_findLeaves v2 o0 o1 cfFU
  have hm : (839 : Int) ≤ (cfFU : Nat) := by decide
  have r_o0 : Fr (fr_M [7] [5, 6] []) o0 o0 := fr_rfl
  have r_o1 : Fr (fr_M [] [] []) o1 o1 := fr_rfl
  unfold fRe_findLeaves fRe_findLeaves_0
  have g_o0_0 : (0 : Int) ≤ (o0.1 0).toInt ∧ (o0.1 0).toInt ≤ 0 := k_o0.1 0
  have g_o0_2 : (0 : Int) ≤ (o0.1 2).toInt ∧ (o0.1 2).toInt ≤ 0 := k_o0.1 2
  have g_o0_7 : (0 : Int) ≤ (o0.1 7).toInt ∧ (o0.1 7).toInt ≤ 210 := k_o0.1 7
  have g_o1_0 : (0 : Int) ≤ (o1.1 0).toInt ∧ (o1.1 0).toInt ≤ 8 := k_o1.1 0
  have g_o1_2 : (0 : Int) ≤ (o1.1 2).toInt ∧ (o1.1 2).toInt ≤ 200 := k_o1.1 2
  have g_o1_7 : (0 : Int) ≤ (o1.1 7).toInt ∧ (o1.1 7).toInt ≤ 0 := k_o1.1 7
  refine tt_ko ?_
  have k1 := ok_fp (k := 7) (v := 0) k_o0 (iv_w (a := 0) (b := 210) (by decide) (by decide) (show (0 : Int) ≤ (0 : Int32).toInt ∧ (0 : Int32).toInt ≤ 0 by decide))
  have r2 := fr_fp (k := 7) (v := 0) r_o0 rfl
  refine tt_kv (P := fun z => ((2 : Int) ≤ z.toInt ∧ z.toInt ≤ 416) ∧ z.toInt = 2 * v2.toInt) ⟨iv_mul (show (2 : Int) ≤ (2 : Int32).toInt ∧ (2 : Int32).toInt ≤ 2 by decide) i_v2 (by decide) (by decide) (by decide) (by decide) (by decide), iq_mul (show (2 : Int) ≤ (2 : Int32).toInt ∧ (2 : Int32).toInt ≤ 2 by decide) i_v2 (by decide) (by decide) (by decide) (by decide)⟩ (fun x3 qi4 => ?_)
  obtain ⟨i4, ei4⟩ := qi4
  refine tt_n (ix_ok (show (0 : Int) ≤ (0 : Int32).toInt ∧ (0 : Int32).toInt ≤ 0 by decide) (by decide) (by decide)) ?_
  refine tt_ko ?_
  have k5 := ok_xp (k := 5) (i := (0 : Int32).toNatClampNeg) (v := x3) k1 (iv_w (a := 0) (b := 417) (by decide) (by decide) i4)
  have r6 := fr_xp (k := 5) (i := (0 : Int32).toNatClampNeg) (v := x3) r2 rfl
  have p7 : Lw 1 0 ((o1.1 0).toInt + 1) (o1.1 2).toInt (v2.toInt - ((o1.1 0).toInt + 1)).toNat (upd (o0.2.1 5) ((0 : Int32).toNatClampNeg) x3) (sh ((o1.1 0).toInt + 1) (o1.2.1 4)) (sh ((o1.1 0).toInt + 1) (o1.2.1 5)) (cu (((o1.1 0).toInt + 1) + (o1.1 2).toInt) (o0.2.1 0)) := by exact Lw_0 rfl rfl (by decide) (by omega)
  have p8 : Rr v2.toInt ((o1.1 0).toInt + 1) (cu (((o1.1 0).toInt + 1) + (o1.1 2).toInt) (o0.2.1 0)) (o0.2.1 3) (o0.2.1 4) 0 (o0.2.1 6) := by exact Rr_0 (by omega)
  have p9 : (v2 = v2) := by exact rfl
  exact H _ _ _ _ _ k5 r6 k_o1 r_o1 i_v2 (iv_w (a := 0) (b := 210) (by decide) (by decide) (show (1 : Int) ≤ (1 : Int32).toInt ∧ (1 : Int32).toInt ≤ 1 by decide)) (iv_w (a := 0) (b := 418) (by decide) (by decide) (show (0 : Int) ≤ (0 : Int32).toInt ∧ (0 : Int32).toInt ≤ 0 by decide)) x_0 x_1 x_2 x_3 p7 (show (o1.1 0).toInt < v2.toInt by omega) (show v2.toInt < 1 + (o1.1 0).toInt + (o1.1 2).toInt by omega) p8 p9 (show 0 = 1 + 2 * 0 - 1 by omega) (show 0 + (418 - 0) * 2 < ((cfFU : Nat) : Int) by omega)
def QRe_takeLeast (o0 : cf_O) (o1 : cf_O) (r : (Int32 × cf_O)) : Prop := ((0 : Int) ≤ r.1.toInt ∧ r.1.toInt ≤ 417) ∧ (okO I_Re r.2) ∧ (Fr (fr_M [7] [6] []) o0 r.2) ∧ ((0 : Int) ≤ (r.2.1 7).toInt ∧ (r.2.1 7).toInt ≤ 209) ∧ ((r.2.1 7).toInt = (o0.1 7).toInt - 1) ∧ (Tlr (o0.1 7).toInt r.1.toInt (r.2.1 7).toInt (o0.2.1 6) (r.2.2.1 6)) ∧ True
def HRe_takeLeast (yo0 : cf_O) (yo1 : cf_O) (n : Nat) : Prop := (∀ (v2 : Int32) (v3 : Int32) (o0 : cf_O) (o1 : cf_O), (okO I_Re o0) → (Fr (fr_M [7] [6] []) yo0 o0) → (okO I_Gr o1) → (Fr (fr_M [] [] []) yo1 o1) → ((0 : Int) ≤ v2.toInt ∧ v2.toInt ≤ 209) → ((1 : Int) ≤ v3.toInt ∧ v3.toInt ≤ 210) → (1 ≤ (o0.1 7).toInt) → ((o0.1 7).toInt = (yo0.1 7).toInt) → (v2.toInt < (o0.1 7).toInt) → (((o0.2.1 6) = (yo0.2.1 6))) → 420 + (210 - v3.toInt) * 2 < (n : Int) → tt (gRe_takeLeast n 0 v2 v3 0 o0 o1) (QRe_takeLeast yo0 yo1)) ∧ (∀ (v3 : Int32) (v4 : Int32) (o0 : cf_O) (o1 : cf_O), (okO I_Re o0) → (Fr (fr_M [7] [6] []) yo0 o0) → (okO I_Gr o1) → (Fr (fr_M [] [] []) yo1 o1) → ((0 : Int) ≤ v3.toInt ∧ v3.toInt ≤ 417) → ((0 : Int) ≤ v4.toInt ∧ v4.toInt ≤ 209) → ((0 : Int) ≤ (o0.1 7).toInt ∧ (o0.1 7).toInt ≤ 209) → ((o0.1 7).toInt = (yo0.1 7).toInt - 1) → (Tmr (yo0.1 7).toInt v3.toInt (yo0.2.1 6) (o0.2.1 6)) → 0 + (209 - v4.toInt) * 2 < (n : Int) → tt (gRe_takeLeast n 1 0 v3 v4 o0 o1) (QRe_takeLeast yo0 yo1))
set_option maxHeartbeats 4000000 in
set_option maxRecDepth 100000 in
theorem tRe_takeLeast_69 {yo0 : cf_O} {yo1 : cf_O} {n : Nat} (H : HRe_takeLeast yo0 yo1 n) (v3 : Int32) (v4 : Int32) (o0 : cf_O) (o1 : cf_O) (k_o0 : okO I_Re o0) (r_o0 : Fr (fr_M [7] [6] []) yo0 o0) (k_o1 : okO I_Gr o1) (r_o1 : Fr (fr_M [] [] []) yo1 o1) (i_v3 : (0 : Int) ≤ v3.toInt ∧ v3.toInt ≤ 417) (i_v4 : (0 : Int) ≤ v4.toInt ∧ v4.toInt ≤ 209) (f_o0_7 : (0 : Int) ≤ (o0.1 7).toInt ∧ (o0.1 7).toInt ≤ 209) (x_0 : (o0.1 7).toInt = (yo0.1 7).toInt - 1) (x_1 : Tmr (yo0.1 7).toInt v3.toInt (yo0.2.1 6) (o0.2.1 6)) (hm : 0 + (209 - v4.toInt) * 2 ≤ (n : Int)) : tt (fRe_takeLeast_69 (gRe_takeLeast n) v3 v4 o0 o1) (QRe_takeLeast yo0 yo1) := by
  unfold fRe_takeLeast_69
  have g_o1_7 : (0 : Int) ≤ (o1.1 7).toInt ∧ (o1.1 7).toInt ≤ 0 := k_o1.1 7
  have ey_o1_7 : (o1.1 7).toInt = (yo1.1 7).toInt := congrArg Int32.toInt (r_o1.1 7 rfl)
  refine tt_if (fun c1 => ?_) (fun c1 => ?_)
  · have wc1 : (o0.1 7).toInt ≤ v4.toInt := c_le c1
    have p2 : Tlr (yo0.1 7).toInt v3.toInt (o0.1 7).toInt (yo0.2.1 6) (o0.2.1 6) := by exact Tlr_i x_1 (by omega)
    exact tt_some ⟨i_v3, k_o0, r_o0, f_o0_7, (show (o0.1 7).toInt = (yo0.1 7).toInt - 1 by omega), p2, trivial⟩
  · have wc1 : v4.toInt < (o0.1 7).toInt := c_nle c1
    have i3 : (0 : Int) ≤ v4.toInt ∧ v4.toInt ≤ 208 := nr_nlel c1 i_v4 f_o0_7 (by decide) (by decide)
    have i4 : (1 : Int) ≤ (o0.1 7).toInt ∧ (o0.1 7).toInt ≤ 209 := nr_nler c1 i_v4 f_o0_7 (by decide) (by decide)
    refine tt_kv (P := fun z => ((1 : Int) ≤ z.toInt ∧ z.toInt ≤ 209) ∧ z.toInt = v4.toInt + 1) ⟨iv_add i3 (show (1 : Int) ≤ (1 : Int32).toInt ∧ (1 : Int32).toInt ≤ 1 by decide) (by decide) (by decide) (by decide) (by decide), iq_add i3 (show (1 : Int) ≤ (1 : Int32).toInt ∧ (1 : Int32).toInt ≤ 1 by decide) (by decide) (by decide)⟩ (fun x5 qi6 => ?_)
    obtain ⟨i6, ei6⟩ := qi6
    refine tt_n (ix_ok i6 (by decide) (by decide)) ?_
    refine tt_kv (P := fun z => ((0 : Int) ≤ z.toInt ∧ z.toInt ≤ 417) ∧ z.toInt = (o0.2.1 6 x5.toNatClampNeg).toInt) ⟨(k_o0.2 6 _), rfl⟩ (fun x7 qi8 => ?_)
    obtain ⟨i8, ei8⟩ := qi8
    refine tt_n (ix_ok i3 (by decide) (by decide)) ?_
    refine tt_ko ?_
    have k9 := ok_xp (k := 6) (i := v4.toNatClampNeg) (v := x7) k_o0 i8
    have r10 := fr_xp (k := 6) (i := v4.toNatClampNeg) (v := x7) r_o0 rfl
    refine tt_kv (P := fun z => ((1 : Int) ≤ z.toInt ∧ z.toInt ≤ 209) ∧ z.toInt = v4.toInt + 1) ⟨iv_add i3 (show (1 : Int) ≤ (1 : Int32).toInt ∧ (1 : Int32).toInt ≤ 1 by decide) (by decide) (by decide) (by decide) (by decide), iq_add i3 (show (1 : Int) ≤ (1 : Int32).toInt ∧ (1 : Int32).toInt ≤ 1 by decide) (by decide) (by decide)⟩ (fun x11 qi12 => ?_)
    obtain ⟨i12, ei12⟩ := qi12
    have p13 : Tmr (yo0.1 7).toInt v3.toInt (yo0.2.1 6) (upd (o0.2.1 6) (v4.toNatClampNeg) x7) := by exact Tmr_s x_1 (by assumption) (by rw [tn_n]; omega)
    exact H.2 _ _ _ _ k9 r10 k_o1 r_o1 i_v3 (iv_w (a := 0) (b := 209) (by decide) (by decide) i12) (iv_w (a := 0) (b := 209) (by decide) (by decide) i4) (show (o0.1 7).toInt = (yo0.1 7).toInt - 1 by omega) p13 (show 0 + (209 - x11.toInt) * 2 < (n : Int) by omega)
set_option maxHeartbeats 4000000 in
set_option maxRecDepth 100000 in
theorem tRe_takeLeast_4 {yo0 : cf_O} {yo1 : cf_O} {n : Nat} (H : HRe_takeLeast yo0 yo1 n) (v2 : Int32) (v3 : Int32) (o0 : cf_O) (o1 : cf_O) (k_o0 : okO I_Re o0) (r_o0 : Fr (fr_M [7] [6] []) yo0 o0) (k_o1 : okO I_Gr o1) (r_o1 : Fr (fr_M [] [] []) yo1 o1) (i_v2 : (0 : Int) ≤ v2.toInt ∧ v2.toInt ≤ 209) (i_v3 : (1 : Int) ≤ v3.toInt ∧ v3.toInt ≤ 210) (x_0 : 1 ≤ (o0.1 7).toInt) (x_1 : (o0.1 7).toInt = (yo0.1 7).toInt) (x_2 : v2.toInt < (o0.1 7).toInt) (x_3 : ((o0.2.1 6) = (yo0.2.1 6))) (hm : 420 + (210 - v3.toInt) * 2 ≤ (n : Int)) : tt (fRe_takeLeast_4 (gRe_takeLeast n) v2 v3 o0 o1) (QRe_takeLeast yo0 yo1) := by
  unfold fRe_takeLeast_4
  have g_o0_7 : (0 : Int) ≤ (o0.1 7).toInt ∧ (o0.1 7).toInt ≤ 210 := k_o0.1 7
  have g_o1_7 : (0 : Int) ≤ (o1.1 7).toInt ∧ (o1.1 7).toInt ≤ 0 := k_o1.1 7
  have ey_o1_7 : (o1.1 7).toInt = (yo1.1 7).toInt := congrArg Int32.toInt (r_o1.1 7 rfl)
  refine tt_if (fun c1 => ?_) (fun c1 => ?_)
  · have wc1 : (o0.1 7).toInt ≤ v3.toInt := c_le c1
    refine tt_n (ix_ok i_v2 (by decide) (by decide)) ?_
    refine tt_kv (P := fun z => ((0 : Int) ≤ z.toInt ∧ z.toInt ≤ 417) ∧ z.toInt = (o0.2.1 6 v2.toNatClampNeg).toInt) ⟨(k_o0.2 6 _), rfl⟩ (fun x2 qi3 => ?_)
    obtain ⟨i3, ei3⟩ := qi3
    refine tt_kv (P := fun z => (((-1) : Int) ≤ z.toInt ∧ z.toInt ≤ 209) ∧ z.toInt = (o0.1 7).toInt - 1) ⟨iv_sub (k_o0.1 7) (show (1 : Int) ≤ (1 : Int32).toInt ∧ (1 : Int32).toInt ≤ 1 by decide) (by decide) (by decide) (by decide) (by decide), iq_sub (k_o0.1 7) (show (1 : Int) ≤ (1 : Int32).toInt ∧ (1 : Int32).toInt ≤ 1 by decide) (by decide) (by decide)⟩ (fun x4 qi5 => ?_)
    obtain ⟨i5, ei5⟩ := qi5
    refine tt_ko ?_
    have k6 := ok_fp (k := 7) (v := x4) k_o0 (show (0 : Int) ≤ _ ∧ _ ≤ (210 : Int) by omega)
    have i7 : (0 : Int) ≤ x4.toInt ∧ x4.toInt ≤ 209 := (by omega)
    have i8 : (1 : Int) ≤ (o0.1 7).toInt ∧ (o0.1 7).toInt ≤ 210 := by omega
    have r9 := fr_fp (k := 7) (v := x4) r_o0 rfl
    have p10 : Tmr (yo0.1 7).toInt x2.toInt (yo0.2.1 6) (o0.2.1 6) := by exact Tmr_0 x_3 (by assumption) (by rw [tn_n]; omega)
    exact H.2 _ _ _ _ k6 r9 k_o1 r_o1 i3 i_v2 i7 (show x4.toInt = (yo0.1 7).toInt - 1 by omega) p10 (show 0 + (209 - v2.toInt) * 2 < (n : Int) by omega)
  · have wc1 : v3.toInt < (o0.1 7).toInt := c_nle c1
    have i11 : (1 : Int) ≤ v3.toInt ∧ v3.toInt ≤ 209 := nr_nlel c1 i_v3 (k_o0.1 7) (by decide) (by decide)
    have i12 : (2 : Int) ≤ (o0.1 7).toInt ∧ (o0.1 7).toInt ≤ 210 := nr_nler c1 i_v3 (k_o0.1 7) (by decide) (by decide)
    refine tt_n (ix_ok i11 (by decide) (by decide)) ?_
    refine tt_kv (P := fun z => ((0 : Int) ≤ z.toInt ∧ z.toInt ≤ 417) ∧ z.toInt = (o0.2.1 6 v3.toNatClampNeg).toInt) ⟨(k_o0.2 6 _), rfl⟩ (fun x13 qi14 => ?_)
    obtain ⟨i14, ei14⟩ := qi14
    refine tt_kv (P := fun z => ((0 : Int) ≤ z.toInt ∧ z.toInt ≤ 208) ∧ z.toInt = x13.toInt / 2) ⟨iv_shr (p := 1) (q := 1) i14 (show (1 : Int) ≤ (1 : Int32).toInt ∧ (1 : Int32).toInt ≤ 1 by decide) (by decide) (by decide) (by decide) (by decide), i_s1 (Int.le_trans (by decide) i14.1)⟩ (fun x15 qi16 => ?_)
    obtain ⟨i16, ei16⟩ := qi16
    refine tt_n (ix_ok i16 (by decide) (by decide)) ?_
    refine tt_kv (P := fun z => (((-2147483648) : Int) ≤ z.toInt ∧ z.toInt ≤ 2147483647) ∧ z.toInt = (o1.2.1 6 x15.toNatClampNeg).toInt) ⟨(k_o1.2 6 _), rfl⟩ (fun x17 qi18 => ?_)
    obtain ⟨i18, ei18⟩ := qi18
    refine tt_n (ix_ok i_v2 (by decide) (by decide)) ?_
    refine tt_kv (P := fun z => ((0 : Int) ≤ z.toInt ∧ z.toInt ≤ 417) ∧ z.toInt = (o0.2.1 6 v2.toNatClampNeg).toInt) ⟨(k_o0.2 6 _), rfl⟩ (fun x19 qi20 => ?_)
    obtain ⟨i20, ei20⟩ := qi20
    refine tt_kv (P := fun z => ((0 : Int) ≤ z.toInt ∧ z.toInt ≤ 208) ∧ z.toInt = x19.toInt / 2) ⟨iv_shr (p := 1) (q := 1) i20 (show (1 : Int) ≤ (1 : Int32).toInt ∧ (1 : Int32).toInt ≤ 1 by decide) (by decide) (by decide) (by decide) (by decide), i_s1 (Int.le_trans (by decide) i20.1)⟩ (fun x21 qi22 => ?_)
    obtain ⟨i22, ei22⟩ := qi22
    refine tt_n (ix_ok i22 (by decide) (by decide)) ?_
    refine tt_kv (P := fun z => (((-2147483648) : Int) ≤ z.toInt ∧ z.toInt ≤ 2147483647) ∧ z.toInt = (o1.2.1 6 x21.toNatClampNeg).toInt) ⟨(k_o1.2 6 _), rfl⟩ (fun x23 qi24 => ?_)
    obtain ⟨i24, ei24⟩ := qi24
    refine tt_if (fun c25 => ?_) (fun c25 => ?_)
    · have wc25 : x23.toInt ≤ x17.toInt := c_le c25
      try unfold fRe_takeLeast_43
      refine tt_kv (P := fun z => ((2 : Int) ≤ z.toInt ∧ z.toInt ≤ 210) ∧ z.toInt = v3.toInt + 1) ⟨iv_add i11 (show (1 : Int) ≤ (1 : Int32).toInt ∧ (1 : Int32).toInt ≤ 1 by decide) (by decide) (by decide) (by decide) (by decide), iq_add i11 (show (1 : Int) ≤ (1 : Int32).toInt ∧ (1 : Int32).toInt ≤ 1 by decide) (by decide) (by decide)⟩ (fun x26 qi27 => ?_)
      obtain ⟨i27, ei27⟩ := qi27
      exact H.1 _ _ _ _ k_o0 r_o0 k_o1 r_o1 i_v2 (iv_w (a := 1) (b := 210) (by decide) (by decide) i27) (show 1 ≤ (o0.1 7).toInt by omega) (show (o0.1 7).toInt = (yo0.1 7).toInt by omega) (show v2.toInt < (o0.1 7).toInt by omega) x_3 (show 420 + (210 - x26.toInt) * 2 < (n : Int) by omega)
    · have wc25 : x17.toInt < x23.toInt := c_nle c25
      have i28 : ((-2147483648) : Int) ≤ x17.toInt ∧ x17.toInt ≤ 2147483646 := nr_nlel c25 i18 i24 (by decide) (by decide)
      have i29 : ((-2147483647) : Int) ≤ x23.toInt ∧ x23.toInt ≤ 2147483647 := nr_nler c25 i18 i24 (by decide) (by decide)
      try unfold fRe_takeLeast_43
      refine tt_kv (P := fun z => ((2 : Int) ≤ z.toInt ∧ z.toInt ≤ 210) ∧ z.toInt = v3.toInt + 1) ⟨iv_add i11 (show (1 : Int) ≤ (1 : Int32).toInt ∧ (1 : Int32).toInt ≤ 1 by decide) (by decide) (by decide) (by decide) (by decide), iq_add i11 (show (1 : Int) ≤ (1 : Int32).toInt ∧ (1 : Int32).toInt ≤ 1 by decide) (by decide) (by decide)⟩ (fun x30 qi31 => ?_)
      obtain ⟨i31, ei31⟩ := qi31
      exact H.1 _ _ _ _ k_o0 r_o0 k_o1 r_o1 (iv_w (a := 0) (b := 209) (by decide) (by decide) i11) (iv_w (a := 1) (b := 210) (by decide) (by decide) i31) (show 1 ≤ (o0.1 7).toInt by omega) (show (o0.1 7).toInt = (yo0.1 7).toInt by omega) (show v3.toInt < (o0.1 7).toInt by omega) x_3 (show 420 + (210 - x30.toInt) * 2 < (n : Int) by omega)
set_option maxHeartbeats 4000000 in
set_option maxRecDepth 100000 in
theorem hRe_takeLeast (yo0 : cf_O) (yo1 : cf_O) : ∀ n, HRe_takeLeast yo0 yo1 n := by
  intro n
  induction n with
  | zero => exact ⟨(fun v2 v3 o0 o1 k_o0 r_o0 k_o1 r_o1 i_v2 i_v3 x_0 x_1 x_2 x_3 hm => by exact absurd (show 420 + (210 - v3.toInt) * 2 < (0 : Int) from hm) (by omega)), (fun v3 v4 o0 o1 k_o0 r_o0 k_o1 r_o1 i_v3 i_v4 f_o0_7 x_0 x_1 hm => by exact absurd (show 0 + (209 - v4.toInt) * 2 < (0 : Int) from hm) (by omega))⟩
  | succ n ih => exact ⟨(fun v2 v3 o0 o1 k_o0 r_o0 k_o1 r_o1 i_v2 i_v3 x_0 x_1 x_2 x_3 hm => tRe_takeLeast_4 ih v2 v3 o0 o1 k_o0 r_o0 k_o1 r_o1 i_v2 i_v3 x_0 x_1 x_2 x_3 (by omega)), (fun v3 v4 o0 o1 k_o0 r_o0 k_o1 r_o1 i_v3 i_v4 f_o0_7 x_0 x_1 hm => tRe_takeLeast_69 ih v3 v4 o0 o1 k_o0 r_o0 k_o1 r_o1 i_v3 i_v4 f_o0_7 x_0 x_1 (by omega))⟩
set_option maxHeartbeats 4000000 in
set_option maxRecDepth 100000 in
theorem sRe_takeLeast (o0 : cf_O) (o1 : cf_O) (k_o0 : okO I_Re o0) (k_o1 : okO I_Gr o1) (x_0 : 1 ≤ (o0.1 7).toInt) : tt (fRe_takeLeast o0 o1) (QRe_takeLeast o0 o1) := by
  have H := hRe_takeLeast o0 o1 cfFU
  have hm : (841 : Int) ≤ (cfFU : Nat) := by decide
  have r_o0 : Fr (fr_M [7] [6] []) o0 o0 := fr_rfl
  have r_o1 : Fr (fr_M [] [] []) o1 o1 := fr_rfl
  unfold fRe_takeLeast fRe_takeLeast_0
  have g_o0_7 : (0 : Int) ≤ (o0.1 7).toInt ∧ (o0.1 7).toInt ≤ 210 := k_o0.1 7
  have g_o1_7 : (0 : Int) ≤ (o1.1 7).toInt ∧ (o1.1 7).toInt ≤ 0 := k_o1.1 7
  have p1 : ((o0.2.1 6) = (o0.2.1 6)) := by exact rfl
  exact H.1 _ _ _ _ k_o0 r_o0 k_o1 r_o1 (iv_w (a := 0) (b := 209) (by decide) (by decide) (show (0 : Int) ≤ (0 : Int32).toInt ∧ (0 : Int32).toInt ≤ 0 by decide)) (iv_w (a := 1) (b := 210) (by decide) (by decide) (show (1 : Int) ≤ (1 : Int32).toInt ∧ (1 : Int32).toInt ≤ 1 by decide)) (show 1 ≤ (o0.1 7).toInt by omega) (show (o0.1 7).toInt = (o0.1 7).toInt by omega) (show 0 < (o0.1 7).toInt by omega) p1 (show 420 + (210 - 1) * 2 < ((cfFU : Nat) : Int) by omega)
def QRe_joinRow (o0 : cf_O) (o1 : cf_O) (r : (Int32 × cf_O × cf_O)) : Prop := ((0 : Int) ≤ r.1.toInt ∧ r.1.toInt ≤ 417) ∧ (okO I_Re r.2.1) ∧ (Fr (fr_M [7] [6] []) o0 r.2.1) ∧ (okO I_Gr r.2.2) ∧ (Fr (fr_M [2, 3] [4, 5, 6, 8, 9] []) o1 r.2.2) ∧ (GI ((r.2.2.1 0).toInt + 1) (r.2.2.1 2).toInt (r.2.2.2.1 4) (r.2.2.2.1 5) (r.2.2.2.1 8) (r.2.2.2.1 9)) ∧ (r.1.toInt < 2 * (((r.2.2.1 0).toInt + 1) + (r.2.2.1 2).toInt)) ∧ ((o1.1 2).toInt ≤ (r.2.2.1 2).toInt) ∧ ((r.2.2.1 0).toInt = (o1.1 0).toInt) ∧ True
def HRe_joinRow (yo0 : cf_O) (yo1 : cf_O) (n : Nat) : Prop := (∀ (v2 : Int32) (o0 : cf_O) (o1 : cf_O), (okO I_Re o0) → (Fr (fr_M [7] [6] []) yo0 o0) → (okO I_Gr o1) → (Fr (fr_M [2, 3] [4, 5, 6, 8, 9] []) yo1 o1) → ((0 : Int) ≤ v2.toInt ∧ v2.toInt ≤ 210) → (GI ((o1.1 0).toInt + 1) (o1.1 2).toInt (o1.2.1 4) (o1.2.1 5) (o1.2.1 8) (o1.2.1 9)) → (No (o0.1 7).toInt (((o1.1 0).toInt + 1) + (o1.1 2).toInt) (o0.2.1 6)) → (1 ≤ (o0.1 7).toInt) → ((yo1.1 2).toInt ≤ (o1.1 2).toInt) → ((o1.1 0).toInt = (yo1.1 0).toInt) → 0 + (210 - v2.toInt) * 2 < (n : Int) → tt (gRe_joinRow n 0 v2 o0 o1) (QRe_joinRow yo0 yo1))
set_option maxHeartbeats 4000000 in
set_option maxRecDepth 100000 in
theorem tRe_joinRow_2 {yo0 : cf_O} {yo1 : cf_O} {n : Nat} (H : HRe_joinRow yo0 yo1 n) (v2 : Int32) (o0 : cf_O) (o1 : cf_O) (k_o0 : okO I_Re o0) (r_o0 : Fr (fr_M [7] [6] []) yo0 o0) (k_o1 : okO I_Gr o1) (r_o1 : Fr (fr_M [2, 3] [4, 5, 6, 8, 9] []) yo1 o1) (i_v2 : (0 : Int) ≤ v2.toInt ∧ v2.toInt ≤ 210) (x_0 : GI ((o1.1 0).toInt + 1) (o1.1 2).toInt (o1.2.1 4) (o1.2.1 5) (o1.2.1 8) (o1.2.1 9)) (x_1 : No (o0.1 7).toInt (((o1.1 0).toInt + 1) + (o1.1 2).toInt) (o0.2.1 6)) (x_2 : 1 ≤ (o0.1 7).toInt) (x_3 : (yo1.1 2).toInt ≤ (o1.1 2).toInt) (x_4 : (o1.1 0).toInt = (yo1.1 0).toInt) (hm : 0 + (210 - v2.toInt) * 2 ≤ (n : Int)) : tt (fRe_joinRow_2 (gRe_joinRow n) v2 o0 o1) (QRe_joinRow yo0 yo1) := by
  unfold fRe_joinRow_2
  have g_o0_0 : (0 : Int) ≤ (o0.1 0).toInt ∧ (o0.1 0).toInt ≤ 0 := k_o0.1 0
  have ey_o0_0 : (o0.1 0).toInt = (yo0.1 0).toInt := congrArg Int32.toInt (r_o0.1 0 rfl)
  have g_o0_2 : (0 : Int) ≤ (o0.1 2).toInt ∧ (o0.1 2).toInt ≤ 0 := k_o0.1 2
  have ey_o0_2 : (o0.1 2).toInt = (yo0.1 2).toInt := congrArg Int32.toInt (r_o0.1 2 rfl)
  have g_o0_7 : (0 : Int) ≤ (o0.1 7).toInt ∧ (o0.1 7).toInt ≤ 210 := k_o0.1 7
  have g_o1_0 : (0 : Int) ≤ (o1.1 0).toInt ∧ (o1.1 0).toInt ≤ 8 := k_o1.1 0
  have ey_o1_0 : (o1.1 0).toInt = (yo1.1 0).toInt := congrArg Int32.toInt (r_o1.1 0 rfl)
  have g_o1_2 : (0 : Int) ≤ (o1.1 2).toInt ∧ (o1.1 2).toInt ≤ 200 := k_o1.1 2
  have g_o1_7 : (0 : Int) ≤ (o1.1 7).toInt ∧ (o1.1 7).toInt ≤ 0 := k_o1.1 7
  have ey_o1_7 : (o1.1 7).toInt = (yo1.1 7).toInt := congrArg Int32.toInt (r_o1.1 7 rfl)
  refine tt_if (fun c1 => ?_) (fun c1 => ?_)
  · have wc1 : (209 : Int) < v2.toInt := c_lt c1
    have i2 : (210 : Int) ≤ v2.toInt ∧ v2.toInt ≤ 210 := nr_ltr c1 (show (209 : Int) ≤ (209 : Int32).toInt ∧ (209 : Int32).toInt ≤ 209 by decide) i_v2 (by decide) (by decide)
    try unfold fRe_joinRow_62
    refine tt_n (ix_ok (show (0 : Int) ≤ (0 : Int32).toInt ∧ (0 : Int32).toInt ≤ 0 by decide) (by decide) (by decide)) ?_
    refine tt_kv (P := fun z => ((0 : Int) ≤ z.toInt ∧ z.toInt ≤ 417) ∧ z.toInt = (o0.2.1 6 (0 : Int32).toNatClampNeg).toInt) ⟨(k_o0.2 6 _), rfl⟩ (fun x3 qi4 => ?_)
    obtain ⟨i4, ei4⟩ := qi4
    have t5 := x_1 ((0 : Int32).toNatClampNeg) (by rw [tn_n]; have z0 : (0 : Int32).toInt = 0 := rfl; omega)
    exact tt_some ⟨i4, k_o0, r_o0, k_o1, r_o1, x_0, (show x3.toInt < 2 * (((o1.1 0).toInt + 1) + (o1.1 2).toInt) by omega), (show (yo1.1 2).toInt ≤ (o1.1 2).toInt by omega), (show (o1.1 0).toInt = (yo1.1 0).toInt by omega), trivial⟩
  · have wc1 : v2.toInt ≤ (209 : Int) := c_nlt c1
    have i6 : (0 : Int) ≤ v2.toInt ∧ v2.toInt ≤ 209 := nr_nltl c1 i_v2 (show (209 : Int) ≤ (209 : Int32).toInt ∧ (209 : Int32).toInt ≤ 209 by decide) (by decide) (by decide)
    refine tt_if (fun c7 => ?_) (fun c7 => ?_)
    · have wc7 : (o0.1 7).toInt ≤ (1 : Int) := c_le c7
      have i8 : (0 : Int) ≤ (o0.1 7).toInt ∧ (o0.1 7).toInt ≤ 1 := nr_lel c7 (k_o0.1 7) (show (1 : Int) ≤ (1 : Int32).toInt ∧ (1 : Int32).toInt ≤ 1 by decide) (by decide) (by decide)
      try unfold fRe_joinRow_62
      refine tt_n (ix_ok (show (0 : Int) ≤ (0 : Int32).toInt ∧ (0 : Int32).toInt ≤ 0 by decide) (by decide) (by decide)) ?_
      refine tt_kv (P := fun z => ((0 : Int) ≤ z.toInt ∧ z.toInt ≤ 417) ∧ z.toInt = (o0.2.1 6 (0 : Int32).toNatClampNeg).toInt) ⟨(k_o0.2 6 _), rfl⟩ (fun x9 qi10 => ?_)
      obtain ⟨i10, ei10⟩ := qi10
      have t11 := x_1 ((0 : Int32).toNatClampNeg) (by rw [tn_n]; have z0 : (0 : Int32).toInt = 0 := rfl; omega)
      exact tt_some ⟨i10, k_o0, r_o0, k_o1, r_o1, x_0, (show x9.toInt < 2 * (((o1.1 0).toInt + 1) + (o1.1 2).toInt) by omega), (show (yo1.1 2).toInt ≤ (o1.1 2).toInt by omega), (show (o1.1 0).toInt = (yo1.1 0).toInt by omega), trivial⟩
    · have wc7 : (1 : Int) < (o0.1 7).toInt := c_nle c7
      have i12 : (2 : Int) ≤ (o0.1 7).toInt ∧ (o0.1 7).toInt ≤ 210 := nr_nler c7 (show (1 : Int) ≤ (1 : Int32).toInt ∧ (1 : Int32).toInt ≤ 1 by decide) (k_o0.1 7) (by decide) (by decide)
      refine tt_b (sRe_takeLeast _ _ k_o0 k_o1 (show 1 ≤ (o0.1 7).toInt by omega)) (fun q13 hq13 => ?_)
      obtain ⟨i_q13, k_q13_2, n_q13_2, f_q13_2_7, zq13_0, zq13_1, -⟩ := hq13
      have r_q13_2 := fr_tr r_o0 n_q13_2 rfl rfl rfl
      have e_q13_2_0 : (q13.2.1 0).toInt = (o0.1 0).toInt := congrArg Int32.toInt (n_q13_2.1 0 rfl)
      have g_q13_2_0 : (0 : Int) ≤ (q13.2.1 0).toInt ∧ (q13.2.1 0).toInt ≤ 0 := k_q13_2.1 0
      have e_q13_2_2 : (q13.2.1 2).toInt = (o0.1 2).toInt := congrArg Int32.toInt (n_q13_2.1 2 rfl)
      have g_q13_2_2 : (0 : Int) ≤ (q13.2.1 2).toInt ∧ (q13.2.1 2).toInt ≤ 0 := k_q13_2.1 2
      have zq13_0 : (q13.2.1 7).toInt = (o0.1 7).toInt - 1 := zq13_0
      refine tt_b (sRe_takeLeast _ _ k_q13_2 k_o1 (show 1 ≤ (q13.2.1 7).toInt by omega)) (fun q14 hq14 => ?_)
      obtain ⟨i_q14, k_q14_2, n_q14_2, f_q14_2_7, zq14_0, zq14_1, -⟩ := hq14
      have r_q14_2 := fr_tr r_q13_2 n_q14_2 rfl rfl rfl
      have e_q14_2_0 : (q14.2.1 0).toInt = (q13.2.1 0).toInt := congrArg Int32.toInt (n_q14_2.1 0 rfl)
      have g_q14_2_0 : (0 : Int) ≤ (q14.2.1 0).toInt ∧ (q14.2.1 0).toInt ≤ 0 := k_q14_2.1 0
      have e_q14_2_2 : (q14.2.1 2).toInt = (q13.2.1 2).toInt := congrArg Int32.toInt (n_q14_2.1 2 rfl)
      have g_q14_2_2 : (0 : Int) ≤ (q14.2.1 2).toInt ∧ (q14.2.1 2).toInt ≤ 0 := k_q14_2.1 2
      have zq14_0 : (q14.2.1 7).toInt = (q13.2.1 7).toInt - 1 := zq14_0
      refine tt_b (sGr_and _ _ _ k_o1 i_q13 i_q14) (fun q15 hq15 => ?_)
      obtain ⟨i_q15, k_q15_2, n_q15_2, zq15_0, -⟩ := hq15
      have r_q15_2 := fr_tr r_o1 n_q15_2 rfl rfl rfl
      have e_q15_2_0 : (q15.2.1 0).toInt = (o1.1 0).toInt := congrArg Int32.toInt (n_q15_2.1 0 rfl)
      have g_q15_2_0 : (0 : Int) ≤ (q15.2.1 0).toInt ∧ (q15.2.1 0).toInt ≤ 8 := k_q15_2.1 0
      have g_q15_2_2 : (0 : Int) ≤ (q15.2.1 2).toInt ∧ (q15.2.1 2).toInt ≤ 200 := k_q15_2.1 2
      have e_q15_2_7 : (q15.2.1 7).toInt = (o1.1 7).toInt := congrArg Int32.toInt (n_q15_2.1 7 rfl)
      have g_q15_2_7 : (0 : Int) ≤ (q15.2.1 7).toInt ∧ (q15.2.1 7).toInt ≤ 0 := k_q15_2.1 7
      have t16 := Jr_s (show Anc _ _ _ _ _ _ _ _ _ _ _ _ _ _ by assumption) x_0 x_1 (show Tlr (o0.1 7).toInt _ _ _ _ by assumption) (by assumption)
      refine tt_n (ix_ok f_q14_2_7 (by decide) (by decide)) ?_
      refine tt_ko ?_
      have k17 := ok_xp (k := 6) (i := (q14.2.1 7).toNatClampNeg) (v := q15.1) k_q14_2 i_q15
      have r18 := fr_xp (k := 6) (i := (q14.2.1 7).toNatClampNeg) (v := q15.1) r_q14_2 rfl
      refine tt_kv (P := fun z => ((1 : Int) ≤ z.toInt ∧ z.toInt ≤ 210) ∧ z.toInt = (q14.2.1 7).toInt + 1) ⟨iv_add f_q14_2_7 (show (1 : Int) ≤ (1 : Int32).toInt ∧ (1 : Int32).toInt ≤ 1 by decide) (by decide) (by decide) (by decide) (by decide), iq_add f_q14_2_7 (show (1 : Int) ≤ (1 : Int32).toInt ∧ (1 : Int32).toInt ≤ 1 by decide) (by decide) (by decide)⟩ (fun x19 qi20 => ?_)
      obtain ⟨i20, ei20⟩ := qi20
      refine tt_ko ?_
      have k21 := ok_fp (k := 7) (v := x19) k17 (iv_w (a := 0) (b := 210) (by decide) (by decide) i20)
      have r22 := fr_fp (k := 7) (v := x19) r18 rfl
      refine tt_kv (P := fun z => ((1 : Int) ≤ z.toInt ∧ z.toInt ≤ 210) ∧ z.toInt = v2.toInt + 1) ⟨iv_add i6 (show (1 : Int) ≤ (1 : Int32).toInt ∧ (1 : Int32).toInt ≤ 1 by decide) (by decide) (by decide) (by decide) (by decide), iq_add i6 (show (1 : Int) ≤ (1 : Int32).toInt ∧ (1 : Int32).toInt ≤ 1 by decide) (by decide) (by decide)⟩ (fun x23 qi24 => ?_)
      obtain ⟨i24, ei24⟩ := qi24
      have p25 : GI ((q15.2.1 0).toInt + 1) (q15.2.1 2).toInt (q15.2.2.1 4) (q15.2.2.1 5) (q15.2.2.1 8) (q15.2.2.1 9) := by exact GI_b (Jr_s (show Anc _ _ _ _ _ _ _ _ _ _ _ _ _ _ by assumption) x_0 x_1 (show Tlr (o0.1 7).toInt _ _ _ _ by assumption) (by assumption)).1 (by omega)
      have p26 : No x19.toInt (((q15.2.1 0).toInt + 1) + (q15.2.1 2).toInt) (upd (q14.2.2.1 6) ((q14.2.1 7).toNatClampNeg) q15.1) := by have jr := Jr_s (show Anc _ _ _ _ _ _ _ _ _ _ _ _ _ _ by assumption) x_0 x_1 (show Tlr (o0.1 7).toInt _ _ _ _ by assumption) (by assumption); exact No_s (No_w jr.2.2.2 (Int.le_refl _) (by omega)) (by omega) (by rw [tn_n]; omega) (by omega)
      exact H _ _ _ k21 r22 k_q15_2 r_q15_2 (iv_w (a := 0) (b := 210) (by decide) (by decide) i24) p25 p26 (show 1 ≤ x19.toInt by omega) (show (yo1.1 2).toInt ≤ (q15.2.1 2).toInt by omega) (show (q15.2.1 0).toInt = (yo1.1 0).toInt by omega) (show 0 + (210 - x23.toInt) * 2 < (n : Int) by omega)
set_option maxHeartbeats 4000000 in
set_option maxRecDepth 100000 in
theorem hRe_joinRow (yo0 : cf_O) (yo1 : cf_O) : ∀ n, HRe_joinRow yo0 yo1 n := by
  intro n
  induction n with
  | zero => exact (fun v2 o0 o1 k_o0 r_o0 k_o1 r_o1 i_v2 x_0 x_1 x_2 x_3 x_4 hm => by exact absurd (show 0 + (210 - v2.toInt) * 2 < (0 : Int) from hm) (by omega))
  | succ n ih => exact (fun v2 o0 o1 k_o0 r_o0 k_o1 r_o1 i_v2 x_0 x_1 x_2 x_3 x_4 hm => tRe_joinRow_2 ih v2 o0 o1 k_o0 r_o0 k_o1 r_o1 i_v2 x_0 x_1 x_2 x_3 x_4 (by omega))
set_option maxHeartbeats 4000000 in
set_option maxRecDepth 100000 in
theorem sRe_joinRow (o0 : cf_O) (o1 : cf_O) (k_o0 : okO I_Re o0) (k_o1 : okO I_Gr o1) (x_0 : GI ((o1.1 0).toInt + 1) (o1.1 2).toInt (o1.2.1 4) (o1.2.1 5) (o1.2.1 8) (o1.2.1 9)) (x_1 : No (o0.1 7).toInt (((o1.1 0).toInt + 1) + (o1.1 2).toInt) (o0.2.1 6)) (x_2 : 1 ≤ (o0.1 7).toInt) : tt (fRe_joinRow o0 o1) (QRe_joinRow o0 o1) := by
  have H := hRe_joinRow o0 o1 cfFU
  have hm : (423 : Int) ≤ (cfFU : Nat) := by decide
  have r_o0 : Fr (fr_M [7] [6] []) o0 o0 := fr_rfl
  have r_o1 : Fr (fr_M [2, 3] [4, 5, 6, 8, 9] []) o1 o1 := fr_rfl
  unfold fRe_joinRow fRe_joinRow_0
  have g_o0_0 : (0 : Int) ≤ (o0.1 0).toInt ∧ (o0.1 0).toInt ≤ 0 := k_o0.1 0
  have g_o0_2 : (0 : Int) ≤ (o0.1 2).toInt ∧ (o0.1 2).toInt ≤ 0 := k_o0.1 2
  have g_o0_7 : (0 : Int) ≤ (o0.1 7).toInt ∧ (o0.1 7).toInt ≤ 210 := k_o0.1 7
  have g_o1_0 : (0 : Int) ≤ (o1.1 0).toInt ∧ (o1.1 0).toInt ≤ 8 := k_o1.1 0
  have g_o1_2 : (0 : Int) ≤ (o1.1 2).toInt ∧ (o1.1 2).toInt ≤ 200 := k_o1.1 2
  have g_o1_7 : (0 : Int) ≤ (o1.1 7).toInt ∧ (o1.1 7).toInt ≤ 0 := k_o1.1 7
  exact H _ _ _ k_o0 r_o0 k_o1 r_o1 (iv_w (a := 0) (b := 210) (by decide) (by decide) (show (0 : Int) ≤ (0 : Int32).toInt ∧ (0 : Int32).toInt ≤ 0 by decide)) x_0 x_1 (show 1 ≤ (o0.1 7).toInt by omega) (show (o1.1 2).toInt ≤ (o1.1 2).toInt by omega) (show (o1.1 0).toInt = (o1.1 0).toInt by omega) (show 0 + (210 - 0) * 2 < ((cfFU : Nat) : Int) by omega)
def QRe_takeResults (o0 : cf_O) (o1 : cf_O) (o2 : cf_O) (r : (cf_O)) : Prop := (okO I_Gr r) ∧ (Fr (fr_M [] [7] []) o2 r) ∧ (Trs (o1.1 1).toInt (o1.1 1).toInt (o1.2.1 7) (o0.2.1 4) (r.2.1 7)) ∧ True
def HRe_takeResults (yo0 : cf_O) (yo1 : cf_O) (yo2 : cf_O) (n : Nat) : Prop := (∀ (v3 : Int32) (o0 : cf_O) (o1 : cf_O) (o2 : cf_O), (okO I_Re o0) → (Fr (fr_M [] [] []) yo0 o0) → (okO I_Gr o1) → (Fr (fr_M [] [] []) yo1 o1) → (okO I_Gr o2) → (Fr (fr_M [] [7] []) yo2 o2) → ((0 : Int) ≤ v3.toInt ∧ v3.toInt ≤ 6) → (Trs v3.toInt (o1.1 1).toInt (o1.2.1 7) (o0.2.1 4) (o2.2.1 7)) → 0 + (6 - v3.toInt) * 2 < (n : Int) → tt (gRe_takeResults n 0 v3 o0 o1 o2) (QRe_takeResults yo0 yo1 yo2))
set_option maxHeartbeats 4000000 in
set_option maxRecDepth 100000 in
theorem tRe_takeResults_2 {yo0 : cf_O} {yo1 : cf_O} {yo2 : cf_O} {n : Nat} (H : HRe_takeResults yo0 yo1 yo2 n) (v3 : Int32) (o0 : cf_O) (o1 : cf_O) (o2 : cf_O) (k_o0 : okO I_Re o0) (r_o0 : Fr (fr_M [] [] []) yo0 o0) (k_o1 : okO I_Gr o1) (r_o1 : Fr (fr_M [] [] []) yo1 o1) (k_o2 : okO I_Gr o2) (r_o2 : Fr (fr_M [] [7] []) yo2 o2) (i_v3 : (0 : Int) ≤ v3.toInt ∧ v3.toInt ≤ 6) (x_0 : Trs v3.toInt (o1.1 1).toInt (o1.2.1 7) (o0.2.1 4) (o2.2.1 7)) (hm : 0 + (6 - v3.toInt) * 2 ≤ (n : Int)) : tt (fRe_takeResults_2 (gRe_takeResults n) v3 o0 o1 o2) (QRe_takeResults yo0 yo1 yo2) := by
  unfold fRe_takeResults_2
  have g_o0_0 : (0 : Int) ≤ (o0.1 0).toInt ∧ (o0.1 0).toInt ≤ 0 := k_o0.1 0
  have ey_o0_0 : (o0.1 0).toInt = (yo0.1 0).toInt := congrArg Int32.toInt (r_o0.1 0 rfl)
  have g_o0_1 : (0 : Int) ≤ (o0.1 1).toInt ∧ (o0.1 1).toInt ≤ 0 := k_o0.1 1
  have ey_o0_1 : (o0.1 1).toInt = (yo0.1 1).toInt := congrArg Int32.toInt (r_o0.1 1 rfl)
  have g_o0_2 : (0 : Int) ≤ (o0.1 2).toInt ∧ (o0.1 2).toInt ≤ 0 := k_o0.1 2
  have ey_o0_2 : (o0.1 2).toInt = (yo0.1 2).toInt := congrArg Int32.toInt (r_o0.1 2 rfl)
  have g_o1_0 : (0 : Int) ≤ (o1.1 0).toInt ∧ (o1.1 0).toInt ≤ 8 := k_o1.1 0
  have ey_o1_0 : (o1.1 0).toInt = (yo1.1 0).toInt := congrArg Int32.toInt (r_o1.1 0 rfl)
  have g_o1_1 : (0 : Int) ≤ (o1.1 1).toInt ∧ (o1.1 1).toInt ≤ 6 := k_o1.1 1
  have ey_o1_1 : (o1.1 1).toInt = (yo1.1 1).toInt := congrArg Int32.toInt (r_o1.1 1 rfl)
  have g_o1_2 : (0 : Int) ≤ (o1.1 2).toInt ∧ (o1.1 2).toInt ≤ 200 := k_o1.1 2
  have ey_o1_2 : (o1.1 2).toInt = (yo1.1 2).toInt := congrArg Int32.toInt (r_o1.1 2 rfl)
  have g_o2_0 : (0 : Int) ≤ (o2.1 0).toInt ∧ (o2.1 0).toInt ≤ 8 := k_o2.1 0
  have ey_o2_0 : (o2.1 0).toInt = (yo2.1 0).toInt := congrArg Int32.toInt (r_o2.1 0 rfl)
  have g_o2_1 : (0 : Int) ≤ (o2.1 1).toInt ∧ (o2.1 1).toInt ≤ 6 := k_o2.1 1
  have ey_o2_1 : (o2.1 1).toInt = (yo2.1 1).toInt := congrArg Int32.toInt (r_o2.1 1 rfl)
  have g_o2_2 : (0 : Int) ≤ (o2.1 2).toInt ∧ (o2.1 2).toInt ≤ 200 := k_o2.1 2
  have ey_o2_2 : (o2.1 2).toInt = (yo2.1 2).toInt := congrArg Int32.toInt (r_o2.1 2 rfl)
  refine tt_if (fun c1 => ?_) (fun c1 => ?_)
  · have wc1 : (o1.1 1).toInt ≤ v3.toInt := c_le c1
    have p2 : Trs (yo1.1 1).toInt (yo1.1 1).toInt (yo1.2.1 7) (yo0.2.1 4) (o2.2.1 7) := by rw [← r_o1.1 1 rfl, ← r_o1.2.1 7 rfl, ← r_o0.2.1 4 rfl]; exact Trs_e x_0 (by omega)
    exact tt_some ⟨k_o2, r_o2, p2, trivial⟩
  · have wc1 : v3.toInt < (o1.1 1).toInt := c_nle c1
    have i3 : (0 : Int) ≤ v3.toInt ∧ v3.toInt ≤ 5 := nr_nlel c1 i_v3 (k_o1.1 1) (by decide) (by decide)
    have i4 : (1 : Int) ≤ (o1.1 1).toInt ∧ (o1.1 1).toInt ≤ 6 := nr_nler c1 i_v3 (k_o1.1 1) (by decide) (by decide)
    refine tt_n (ix_ok i3 (by decide) (by decide)) ?_
    refine tt_kv (P := fun z => ((0 : Int) ≤ z.toInt ∧ z.toInt ≤ 417) ∧ z.toInt = (o1.2.1 7 v3.toNatClampNeg).toInt) ⟨(k_o1.2 7 _), rfl⟩ (fun x5 qi6 => ?_)
    obtain ⟨i6, ei6⟩ := qi6
    refine tt_b (sRe_freshOf _ _ k_o0 i6) (fun q7 hq7 => ?_)
    obtain ⟨i_q7, zq7_0, -⟩ := hq7
    refine tt_n (ix_ok i3 (by decide) (by decide)) ?_
    refine tt_ko ?_
    have k8 := ok_xp (k := 7) (i := v3.toNatClampNeg) (v := q7) k_o2 i_q7
    have r9 := fr_xp (k := 7) (i := v3.toNatClampNeg) (v := q7) r_o2 rfl
    refine tt_kv (P := fun z => ((1 : Int) ≤ z.toInt ∧ z.toInt ≤ 6) ∧ z.toInt = v3.toInt + 1) ⟨iv_add i3 (show (1 : Int) ≤ (1 : Int32).toInt ∧ (1 : Int32).toInt ≤ 1 by decide) (by decide) (by decide) (by decide) (by decide), iq_add i3 (show (1 : Int) ≤ (1 : Int32).toInt ∧ (1 : Int32).toInt ≤ 1 by decide) (by decide) (by decide)⟩ (fun x10 qi11 => ?_)
    obtain ⟨i11, ei11⟩ := qi11
    have p12 : Trs x10.toInt (o1.1 1).toInt (o1.2.1 7) (o0.2.1 4) (upd (o2.2.1 7) (v3.toNatClampNeg) q7) := by exact Trs_s (l := x5) (k := v3.toNatClampNeg) x_0 (by omega) (by rw [tn_n]; omega) (by omega) (by rw [tn_n]; omega) (by assumption) (by assumption)
    exact H _ _ _ _ k_o0 r_o0 k_o1 r_o1 k8 r9 (iv_w (a := 0) (b := 6) (by decide) (by decide) i11) p12 (show 0 + (6 - x10.toInt) * 2 < (n : Int) by omega)
set_option maxHeartbeats 4000000 in
set_option maxRecDepth 100000 in
theorem hRe_takeResults (yo0 : cf_O) (yo1 : cf_O) (yo2 : cf_O) : ∀ n, HRe_takeResults yo0 yo1 yo2 n := by
  intro n
  induction n with
  | zero => exact (fun v3 o0 o1 o2 k_o0 r_o0 k_o1 r_o1 k_o2 r_o2 i_v3 x_0 hm => by exact absurd (show 0 + (6 - v3.toInt) * 2 < (0 : Int) from hm) (by omega))
  | succ n ih => exact (fun v3 o0 o1 o2 k_o0 r_o0 k_o1 r_o1 k_o2 r_o2 i_v3 x_0 hm => tRe_takeResults_2 ih v3 o0 o1 o2 k_o0 r_o0 k_o1 r_o1 k_o2 r_o2 i_v3 x_0 (by omega))
set_option maxHeartbeats 4000000 in
set_option maxRecDepth 100000 in
theorem sRe_takeResults (o0 : cf_O) (o1 : cf_O) (o2 : cf_O) (k_o0 : okO I_Re o0) (k_o1 : okO I_Gr o1) (k_o2 : okO I_Gr o2) : tt (fRe_takeResults o0 o1 o2) (QRe_takeResults o0 o1 o2) := by
  have H := hRe_takeResults o0 o1 o2 cfFU
  have hm : (15 : Int) ≤ (cfFU : Nat) := by decide
  have r_o0 : Fr (fr_M [] [] []) o0 o0 := fr_rfl
  have r_o1 : Fr (fr_M [] [] []) o1 o1 := fr_rfl
  have r_o2 : Fr (fr_M [] [7] []) o2 o2 := fr_rfl
  unfold fRe_takeResults fRe_takeResults_0
  have g_o0_0 : (0 : Int) ≤ (o0.1 0).toInt ∧ (o0.1 0).toInt ≤ 0 := k_o0.1 0
  have g_o0_1 : (0 : Int) ≤ (o0.1 1).toInt ∧ (o0.1 1).toInt ≤ 0 := k_o0.1 1
  have g_o0_2 : (0 : Int) ≤ (o0.1 2).toInt ∧ (o0.1 2).toInt ≤ 0 := k_o0.1 2
  have g_o1_0 : (0 : Int) ≤ (o1.1 0).toInt ∧ (o1.1 0).toInt ≤ 8 := k_o1.1 0
  have g_o1_1 : (0 : Int) ≤ (o1.1 1).toInt ∧ (o1.1 1).toInt ≤ 6 := k_o1.1 1
  have g_o1_2 : (0 : Int) ≤ (o1.1 2).toInt ∧ (o1.1 2).toInt ≤ 200 := k_o1.1 2
  have g_o2_0 : (0 : Int) ≤ (o2.1 0).toInt ∧ (o2.1 0).toInt ≤ 8 := k_o2.1 0
  have g_o2_1 : (0 : Int) ≤ (o2.1 1).toInt ∧ (o2.1 1).toInt ≤ 6 := k_o2.1 1
  have g_o2_2 : (0 : Int) ≤ (o2.1 2).toInt ∧ (o2.1 2).toInt ≤ 200 := k_o2.1 2
  have p1 : Trs 0 (o1.1 1).toInt (o1.2.1 7) (o0.2.1 4) (o2.2.1 7) := by exact Trs_0 (by omega)
  exact H _ _ _ _ k_o0 r_o0 k_o1 r_o1 k_o2 r_o2 (iv_w (a := 0) (b := 6) (by decide) (by decide) (show (0 : Int) ≤ (0 : Int32).toInt ∧ (0 : Int32).toInt ≤ 0 by decide)) p1 (show 0 + (6 - 0) * 2 < ((cfFU : Nat) : Int) by omega)
def QRe_makeBalanced (o0 : cf_O) (o1 : cf_O) (o2 : cf_O) (r : (cf_O × cf_O)) : Prop := (okO I_Re r.1) ∧ (Fr (fr_M [7] [0, 1, 3, 4, 5, 6] []) o0 r.1) ∧ (okO I_Gr r.2) ∧ (Fr (fr_M [0, 1, 2, 3] [4, 5, 6, 7, 8, 9] []) o2 r.2) ∧ (GI ((r.2.1 0).toInt + 1) (r.2.1 2).toInt (r.2.2.1 4) (r.2.2.1 5) (r.2.2.1 8) (r.2.2.1 9)) ∧ (No (o1.1 1).toInt (((r.2.1 0).toInt + 1) + (r.2.1 2).toInt) (r.2.2.1 7)) ∧ ((r.2.1 0).toInt = (o1.1 0).toInt) ∧ ((r.2.1 1).toInt = (o1.1 1).toInt) ∧ True
def HRe_makeBalanced (yo0 : cf_O) (yo1 : cf_O) (yo2 : cf_O) (n : Nat) : Prop := (∀ (v3 : Int32) (o0 : cf_O) (o1 : cf_O) (o2 : cf_O), (okO I_Re o0) → (Fr (fr_M [7] [0, 1, 3, 4, 5, 6] []) yo0 o0) → (okO I_Gr o1) → (Fr (fr_M [] [] []) yo1 o1) → (okO I_Gr o2) → (Fr (fr_M [0, 1, 2, 3] [4, 5, 6, 7, 8, 9] []) yo2 o2) → ((1 : Int) ≤ v3.toInt ∧ v3.toInt ≤ 209) → (Gx ((o1.1 0).toInt + 1) (o1.1 2).toInt (sh ((o1.1 0).toInt + 1) (o1.2.1 4)) (sh ((o1.1 0).toInt + 1) (o1.2.1 5))) → (Lk (-1) ((o1.1 0).toInt + 1) (o1.1 2).toInt (o1.1 1).toInt (o1.2.1 7) (sh ((o1.1 0).toInt + 1) (o1.2.1 4)) (sh ((o1.1 0).toInt + 1) (o1.2.1 5)) (cu (((o1.1 0).toInt + 1) + (o1.1 2).toInt) (o0.2.1 0)) (cu (((o1.1 0).toInt + 1) + (o1.1 2).toInt) (o0.2.1 1))) → (Aq (o1.1 2).toInt ((o1.1 0).toInt + 1) (o1.1 2).toInt (sh ((o1.1 0).toInt + 1) (o1.2.1 4)) (sh ((o1.1 0).toInt + 1) (o1.2.1 5)) (cu (((o1.1 0).toInt + 1) + (o1.1 2).toInt) (o0.2.1 0)) (cu (((o1.1 0).toInt + 1) + (o1.1 2).toInt) (o0.2.1 1)) (o0.2.1 3)) → ((o1.1 0).toInt < v3.toInt) → (GI ((o2.1 0).toInt + 1) (o2.1 2).toInt (o2.2.1 4) (o2.2.1 5) (o2.2.1 8) (o2.2.1 9)) → (Rq v3.toInt ((o1.1 0).toInt + 1) (((o2.1 0).toInt + 1) + (o2.1 2).toInt) (cu (((o1.1 0).toInt + 1) + (o1.1 2).toInt) (o0.2.1 0)) (o0.2.1 3) (o0.2.1 4)) → ((o2.1 0).toInt = (o1.1 0).toInt) → (No (o1.1 1).toInt (((o1.1 0).toInt + 1) + (o1.1 2).toInt) (o1.2.1 7)) → ((o2.1 1).toInt = (o1.1 1).toInt) → 0 + (209 - v3.toInt) * 2 < (n : Int) → tt (gRe_makeBalanced n 0 v3 o0 o1 o2) (QRe_makeBalanced yo0 yo1 yo2))
set_option maxHeartbeats 4000000 in
set_option maxRecDepth 100000 in
theorem tRe_makeBalanced_18 {yo0 : cf_O} {yo1 : cf_O} {yo2 : cf_O} {n : Nat} (H : HRe_makeBalanced yo0 yo1 yo2 n) (v3 : Int32) (o0 : cf_O) (o1 : cf_O) (o2 : cf_O) (k_o0 : okO I_Re o0) (r_o0 : Fr (fr_M [7] [0, 1, 3, 4, 5, 6] []) yo0 o0) (k_o1 : okO I_Gr o1) (r_o1 : Fr (fr_M [] [] []) yo1 o1) (k_o2 : okO I_Gr o2) (r_o2 : Fr (fr_M [0, 1, 2, 3] [4, 5, 6, 7, 8, 9] []) yo2 o2) (i_v3 : (1 : Int) ≤ v3.toInt ∧ v3.toInt ≤ 209) (x_0 : Gx ((o1.1 0).toInt + 1) (o1.1 2).toInt (sh ((o1.1 0).toInt + 1) (o1.2.1 4)) (sh ((o1.1 0).toInt + 1) (o1.2.1 5))) (x_1 : Lk (-1) ((o1.1 0).toInt + 1) (o1.1 2).toInt (o1.1 1).toInt (o1.2.1 7) (sh ((o1.1 0).toInt + 1) (o1.2.1 4)) (sh ((o1.1 0).toInt + 1) (o1.2.1 5)) (cu (((o1.1 0).toInt + 1) + (o1.1 2).toInt) (o0.2.1 0)) (cu (((o1.1 0).toInt + 1) + (o1.1 2).toInt) (o0.2.1 1))) (x_2 : Aq (o1.1 2).toInt ((o1.1 0).toInt + 1) (o1.1 2).toInt (sh ((o1.1 0).toInt + 1) (o1.2.1 4)) (sh ((o1.1 0).toInt + 1) (o1.2.1 5)) (cu (((o1.1 0).toInt + 1) + (o1.1 2).toInt) (o0.2.1 0)) (cu (((o1.1 0).toInt + 1) + (o1.1 2).toInt) (o0.2.1 1)) (o0.2.1 3)) (x_3 : (o1.1 0).toInt < v3.toInt) (x_4 : GI ((o2.1 0).toInt + 1) (o2.1 2).toInt (o2.2.1 4) (o2.2.1 5) (o2.2.1 8) (o2.2.1 9)) (x_5 : Rq v3.toInt ((o1.1 0).toInt + 1) (((o2.1 0).toInt + 1) + (o2.1 2).toInt) (cu (((o1.1 0).toInt + 1) + (o1.1 2).toInt) (o0.2.1 0)) (o0.2.1 3) (o0.2.1 4)) (x_6 : (o2.1 0).toInt = (o1.1 0).toInt) (x_7 : No (o1.1 1).toInt (((o1.1 0).toInt + 1) + (o1.1 2).toInt) (o1.2.1 7)) (x_8 : (o2.1 1).toInt = (o1.1 1).toInt) (hm : 0 + (209 - v3.toInt) * 2 ≤ (n : Int)) : tt (fRe_makeBalanced_18 (gRe_makeBalanced n) v3 o0 o1 o2) (QRe_makeBalanced yo0 yo1 yo2) := by
  unfold fRe_makeBalanced_18
  have g_o0_0 : (0 : Int) ≤ (o0.1 0).toInt ∧ (o0.1 0).toInt ≤ 0 := k_o0.1 0
  have ey_o0_0 : (o0.1 0).toInt = (yo0.1 0).toInt := congrArg Int32.toInt (r_o0.1 0 rfl)
  have g_o0_1 : (0 : Int) ≤ (o0.1 1).toInt ∧ (o0.1 1).toInt ≤ 0 := k_o0.1 1
  have ey_o0_1 : (o0.1 1).toInt = (yo0.1 1).toInt := congrArg Int32.toInt (r_o0.1 1 rfl)
  have g_o0_2 : (0 : Int) ≤ (o0.1 2).toInt ∧ (o0.1 2).toInt ≤ 0 := k_o0.1 2
  have ey_o0_2 : (o0.1 2).toInt = (yo0.1 2).toInt := congrArg Int32.toInt (r_o0.1 2 rfl)
  have g_o0_7 : (0 : Int) ≤ (o0.1 7).toInt ∧ (o0.1 7).toInt ≤ 210 := k_o0.1 7
  have g_o1_0 : (0 : Int) ≤ (o1.1 0).toInt ∧ (o1.1 0).toInt ≤ 8 := k_o1.1 0
  have ey_o1_0 : (o1.1 0).toInt = (yo1.1 0).toInt := congrArg Int32.toInt (r_o1.1 0 rfl)
  have g_o1_1 : (0 : Int) ≤ (o1.1 1).toInt ∧ (o1.1 1).toInt ≤ 6 := k_o1.1 1
  have ey_o1_1 : (o1.1 1).toInt = (yo1.1 1).toInt := congrArg Int32.toInt (r_o1.1 1 rfl)
  have g_o1_2 : (0 : Int) ≤ (o1.1 2).toInt ∧ (o1.1 2).toInt ≤ 200 := k_o1.1 2
  have ey_o1_2 : (o1.1 2).toInt = (yo1.1 2).toInt := congrArg Int32.toInt (r_o1.1 2 rfl)
  have g_o1_7 : (0 : Int) ≤ (o1.1 7).toInt ∧ (o1.1 7).toInt ≤ 0 := k_o1.1 7
  have ey_o1_7 : (o1.1 7).toInt = (yo1.1 7).toInt := congrArg Int32.toInt (r_o1.1 7 rfl)
  have g_o2_0 : (0 : Int) ≤ (o2.1 0).toInt ∧ (o2.1 0).toInt ≤ 8 := k_o2.1 0
  have g_o2_1 : (0 : Int) ≤ (o2.1 1).toInt ∧ (o2.1 1).toInt ≤ 6 := k_o2.1 1
  have g_o2_2 : (0 : Int) ≤ (o2.1 2).toInt ∧ (o2.1 2).toInt ≤ 200 := k_o2.1 2
  have g_o2_7 : (0 : Int) ≤ (o2.1 7).toInt ∧ (o2.1 7).toInt ≤ 0 := k_o2.1 7
  have ey_o2_7 : (o2.1 7).toInt = (yo2.1 7).toInt := congrArg Int32.toInt (r_o2.1 7 rfl)
  try unfold fGr_size
  try unfold fGr_size_0
  refine tt_bkv (P := fun z => ((1 : Int) ≤ z.toInt ∧ z.toInt ≤ 9) ∧ z.toInt = 1 + (o1.1 0).toInt) ⟨iv_add (show (1 : Int) ≤ (1 : Int32).toInt ∧ (1 : Int32).toInt ≤ 1 by decide) (k_o1.1 0) (by decide) (by decide) (by decide) (by decide), iq_add (show (1 : Int) ≤ (1 : Int32).toInt ∧ (1 : Int32).toInt ≤ 1 by decide) (k_o1.1 0) (by decide) (by decide)⟩ (fun x1 qi2 => ?_)
  obtain ⟨i2, ei2⟩ := qi2
  refine tt_bkv (P := fun z => ((1 : Int) ≤ z.toInt ∧ z.toInt ≤ 209) ∧ z.toInt = x1.toInt + (o1.1 2).toInt) ⟨iv_add i2 (k_o1.1 2) (by decide) (by decide) (by decide) (by decide), iq_add i2 (k_o1.1 2) (by decide) (by decide)⟩ (fun x3 qi4 => ?_)
  obtain ⟨i4, ei4⟩ := qi4
  refine tt_bs ?_
  refine tt_if (fun c5 => ?_) (fun c5 => ?_)
  · have wc5 : x3.toInt ≤ v3.toInt := c_le c5
    refine tt_b (sRe_takeResults _ _ _ k_o0 k_o1 k_o2) (fun q6 hq6 => ?_)
    obtain ⟨k_q6, n_q6, zq6_0, -⟩ := hq6
    have r_q6 := fr_tr r_o2 n_q6 rfl rfl rfl
    have e_q6_0 : (q6.1 0).toInt = (o2.1 0).toInt := congrArg Int32.toInt (n_q6.1 0 rfl)
    have g_q6_0 : (0 : Int) ≤ (q6.1 0).toInt ∧ (q6.1 0).toInt ≤ 8 := k_q6.1 0
    have e_q6_1 : (q6.1 1).toInt = (o2.1 1).toInt := congrArg Int32.toInt (n_q6.1 1 rfl)
    have g_q6_1 : (0 : Int) ≤ (q6.1 1).toInt ∧ (q6.1 1).toInt ≤ 6 := k_q6.1 1
    have e_q6_2 : (q6.1 2).toInt = (o2.1 2).toInt := congrArg Int32.toInt (n_q6.1 2 rfl)
    have g_q6_2 : (0 : Int) ≤ (q6.1 2).toInt ∧ (q6.1 2).toInt ≤ 200 := k_q6.1 2
    have e_q6_7 : (q6.1 7).toInt = (o2.1 7).toInt := congrArg Int32.toInt (n_q6.1 7 rfl)
    have g_q6_7 : (0 : Int) ≤ (q6.1 7).toInt ∧ (q6.1 7).toInt ≤ 0 := k_q6.1 7
    have u7 : GI ((q6.1 0).toInt + 1) (q6.1 2).toInt (q6.2.1 4) (q6.2.1 5) (q6.2.1 8) (q6.2.1 9) := by rw [n_q6.1 0 rfl, n_q6.1 2 rfl, n_q6.2.1 4 rfl, n_q6.2.1 5 rfl, n_q6.2.1 8 rfl, n_q6.2.1 9 rfl]; exact x_4
    have u8 : Rq v3.toInt ((o1.1 0).toInt + 1) (((q6.1 0).toInt + 1) + (q6.1 2).toInt) (cu (((o1.1 0).toInt + 1) + (o1.1 2).toInt) (o0.2.1 0)) (o0.2.1 3) (o0.2.1 4) := by rw [n_q6.1 0 rfl, n_q6.1 2 rfl]; exact x_5
    have p9 : No (yo1.1 1).toInt (((q6.1 0).toInt + 1) + (q6.1 2).toInt) (q6.2.1 7) := by rw [← r_o1.1 1 rfl]; have tr := (show Trs _ _ _ _ _ by assumption) (((o2.1 0).toInt + 1) + (o2.1 2).toInt) (Fn_c x_1 x_2 x_5 (by omega) x_7 (fun k => (k_o1.2 7 k).1) (by omega) (by omega)); exact No_w tr (by omega) (by omega)
    exact tt_some ⟨k_o0, r_o0, k_q6, r_q6, u7, p9, (show (q6.1 0).toInt = (yo1.1 0).toInt by omega), (show (q6.1 1).toInt = (yo1.1 1).toInt by omega), trivial⟩
  · have wc5 : v3.toInt < x3.toInt := c_nle c5
    have i10 : (1 : Int) ≤ v3.toInt ∧ v3.toInt ≤ 208 := nr_nlel c5 i_v3 i4 (by decide) (by decide)
    have i11 : (2 : Int) ≤ x3.toInt ∧ x3.toInt ≤ 209 := nr_nler c5 i_v3 i4 (by decide) (by decide)
    refine tt_n (ix_ok i10 (by decide) (by decide)) ?_
    refine tt_kv (P := fun z => ((0 : Int) ≤ z.toInt ∧ z.toInt ≤ 1) ∧ z.toInt = (o0.2.1 0 v3.toNatClampNeg).toInt) ⟨(k_o0.2 0 _), rfl⟩ (fun x12 qi13 => ?_)
    obtain ⟨i13, ei13⟩ := qi13
    refine tt_if (fun c14 => ?_) (fun c14 => ?_)
    · have wc14 : x12.toInt = (0 : Int) := c_eq c14
      have i15 : (0 : Int) ≤ x12.toInt ∧ x12.toInt ≤ 0 := nr_eql c14 i13 (show (0 : Int) ≤ (0 : Int32).toInt ∧ (0 : Int32).toInt ≤ 0 by decide) (by decide) (by decide)
      try unfold fRe_makeBalanced_61
      refine tt_kv (P := fun z => ((2 : Int) ≤ z.toInt ∧ z.toInt ≤ 209) ∧ z.toInt = v3.toInt + 1) ⟨iv_add i10 (show (1 : Int) ≤ (1 : Int32).toInt ∧ (1 : Int32).toInt ≤ 1 by decide) (by decide) (by decide) (by decide) (by decide), iq_add i10 (show (1 : Int) ≤ (1 : Int32).toInt ∧ (1 : Int32).toInt ≤ 1 by decide) (by decide) (by decide)⟩ (fun x16 qi17 => ?_)
      obtain ⟨i17, ei17⟩ := qi17
      have p18 : Rq x16.toInt ((o1.1 0).toInt + 1) (((o2.1 0).toInt + 1) + (o2.1 2).toInt) (cu (((o1.1 0).toInt + 1) + (o1.1 2).toInt) (o0.2.1 0)) (o0.2.1 3) (o0.2.1 4) := by exact Rq_k (i := v3.toNatClampNeg) x_5 (by omega) (by rw [tn_n]; omega) (by omega) (by first | exact Or.inl (by rw [cu_e (by rw [tn_n]; omega)]; omega) | exact Or.inr (by omega))
      exact H _ _ _ _ k_o0 r_o0 k_o1 r_o1 k_o2 r_o2 (iv_w (a := 1) (b := 209) (by decide) (by decide) i17) x_0 x_1 x_2 (show (o1.1 0).toInt < x16.toInt by omega) x_4 p18 (show (o2.1 0).toInt = (o1.1 0).toInt by omega) x_7 (show (o2.1 1).toInt = (o1.1 1).toInt by omega) (show 0 + (209 - x16.toInt) * 2 < (n : Int) by omega)
    · have wc14 : ¬ x12.toInt = (0 : Int) := c_ne c14
      have i19 : (1 : Int) ≤ x12.toInt ∧ x12.toInt ≤ 1 := nr_nela c14 i13 (show (0 : Int) ≤ (0 : Int32).toInt ∧ (0 : Int32).toInt ≤ 0 by decide) (by decide) (by decide)
      refine tt_n (ix_ok i10 (by decide) (by decide)) ?_
      refine tt_kv (P := fun z => ((0 : Int) ≤ z.toInt ∧ z.toInt ≤ 1) ∧ z.toInt = (o0.2.1 3 v3.toNatClampNeg).toInt) ⟨(k_o0.2 3 _), rfl⟩ (fun x20 qi21 => ?_)
      obtain ⟨i21, ei21⟩ := qi21
      refine tt_if (fun c22 => ?_) (fun c22 => ?_)
      · have wc22 : x20.toInt = (0 : Int) := c_eq c22
        have i23 : (0 : Int) ≤ x20.toInt ∧ x20.toInt ≤ 0 := nr_eql c22 i21 (show (0 : Int) ≤ (0 : Int32).toInt ∧ (0 : Int32).toInt ≤ 0 by decide) (by decide) (by decide)
        have p24 : (¬ ((o0.2.1 0) v3.toNatClampNeg).toInt = 0) := by omega
        refine tt_b (sRe_findLeaves _ _ _ k_o0 k_o1 i10 x_0 x_1 x_2 p24 (show (o1.1 0).toInt < v3.toInt by omega) (show v3.toInt < 1 + (o1.1 0).toInt + (o1.1 2).toInt by omega)) (fun q25 hq25 => ?_)
        obtain ⟨k_q25, n_q25, zq25_0, zq25_1, -⟩ := hq25
        have r_q25 := fr_tr r_o0 n_q25 rfl rfl rfl
        have e_q25_0 : (q25.1 0).toInt = (o0.1 0).toInt := congrArg Int32.toInt (n_q25.1 0 rfl)
        have g_q25_0 : (0 : Int) ≤ (q25.1 0).toInt ∧ (q25.1 0).toInt ≤ 0 := k_q25.1 0
        have e_q25_1 : (q25.1 1).toInt = (o0.1 1).toInt := congrArg Int32.toInt (n_q25.1 1 rfl)
        have g_q25_1 : (0 : Int) ≤ (q25.1 1).toInt ∧ (q25.1 1).toInt ≤ 0 := k_q25.1 1
        have e_q25_2 : (q25.1 2).toInt = (o0.1 2).toInt := congrArg Int32.toInt (n_q25.1 2 rfl)
        have g_q25_2 : (0 : Int) ≤ (q25.1 2).toInt ∧ (q25.1 2).toInt ≤ 0 := k_q25.1 2
        have g_q25_7 : (0 : Int) ≤ (q25.1 7).toInt ∧ (q25.1 7).toInt ≤ 210 := k_q25.1 7
        have zq25_1 : 1 ≤ (q25.1 7).toInt := zq25_1
        have u26 : Lk (-1) ((o1.1 0).toInt + 1) (o1.1 2).toInt (o1.1 1).toInt (o1.2.1 7) (sh ((o1.1 0).toInt + 1) (o1.2.1 4)) (sh ((o1.1 0).toInt + 1) (o1.2.1 5)) (cu (((o1.1 0).toInt + 1) + (o1.1 2).toInt) (q25.2.1 0)) (cu (((o1.1 0).toInt + 1) + (o1.1 2).toInt) (q25.2.1 1)) := by rw [n_q25.2.1 0 rfl, n_q25.2.1 1 rfl]; exact x_1
        have u27 : Aq (o1.1 2).toInt ((o1.1 0).toInt + 1) (o1.1 2).toInt (sh ((o1.1 0).toInt + 1) (o1.2.1 4)) (sh ((o1.1 0).toInt + 1) (o1.2.1 5)) (cu (((o1.1 0).toInt + 1) + (o1.1 2).toInt) (q25.2.1 0)) (cu (((o1.1 0).toInt + 1) + (o1.1 2).toInt) (q25.2.1 1)) (q25.2.1 3) := by rw [n_q25.2.1 0 rfl, n_q25.2.1 1 rfl, n_q25.2.1 3 rfl]; exact x_2
        have u28 : Rq v3.toInt ((o1.1 0).toInt + 1) (((o2.1 0).toInt + 1) + (o2.1 2).toInt) (cu (((o1.1 0).toInt + 1) + (o1.1 2).toInt) (q25.2.1 0)) (q25.2.1 3) (q25.2.1 4) := by rw [n_q25.2.1 0 rfl, n_q25.2.1 3 rfl, n_q25.2.1 4 rfl]; exact x_5
        have p29 : No (q25.1 7).toInt (((o2.1 0).toInt + 1) + (o2.1 2).toInt) (q25.2.1 6) := by exact (show Rr _ _ _ _ _ _ _ by assumption) _ (by assumption)
        refine tt_b (sRe_joinRow _ _ k_q25 k_o2 x_4 p29 (show 1 ≤ (q25.1 7).toInt by omega)) (fun q30 hq30 => ?_)
        obtain ⟨i_q30, k_q30_2_1, n_q30_2_1, k_q30_2_2, n_q30_2_2, zq30_0, zq30_1, zq30_2, zq30_3, -⟩ := hq30
        have r_q30_2_1 := fr_tr r_q25 n_q30_2_1 rfl rfl rfl
        have e_q30_2_1_0 : (q30.2.1.1 0).toInt = (q25.1 0).toInt := congrArg Int32.toInt (n_q30_2_1.1 0 rfl)
        have g_q30_2_1_0 : (0 : Int) ≤ (q30.2.1.1 0).toInt ∧ (q30.2.1.1 0).toInt ≤ 0 := k_q30_2_1.1 0
        have e_q30_2_1_1 : (q30.2.1.1 1).toInt = (q25.1 1).toInt := congrArg Int32.toInt (n_q30_2_1.1 1 rfl)
        have g_q30_2_1_1 : (0 : Int) ≤ (q30.2.1.1 1).toInt ∧ (q30.2.1.1 1).toInt ≤ 0 := k_q30_2_1.1 1
        have e_q30_2_1_2 : (q30.2.1.1 2).toInt = (q25.1 2).toInt := congrArg Int32.toInt (n_q30_2_1.1 2 rfl)
        have g_q30_2_1_2 : (0 : Int) ≤ (q30.2.1.1 2).toInt ∧ (q30.2.1.1 2).toInt ≤ 0 := k_q30_2_1.1 2
        have g_q30_2_1_7 : (0 : Int) ≤ (q30.2.1.1 7).toInt ∧ (q30.2.1.1 7).toInt ≤ 210 := k_q30_2_1.1 7
        have r_q30_2_2 := fr_tr r_o2 n_q30_2_2 rfl rfl rfl
        have e_q30_2_2_0 : (q30.2.2.1 0).toInt = (o2.1 0).toInt := congrArg Int32.toInt (n_q30_2_2.1 0 rfl)
        have g_q30_2_2_0 : (0 : Int) ≤ (q30.2.2.1 0).toInt ∧ (q30.2.2.1 0).toInt ≤ 8 := k_q30_2_2.1 0
        have e_q30_2_2_1 : (q30.2.2.1 1).toInt = (o2.1 1).toInt := congrArg Int32.toInt (n_q30_2_2.1 1 rfl)
        have g_q30_2_2_1 : (0 : Int) ≤ (q30.2.2.1 1).toInt ∧ (q30.2.2.1 1).toInt ≤ 6 := k_q30_2_2.1 1
        have g_q30_2_2_2 : (0 : Int) ≤ (q30.2.2.1 2).toInt ∧ (q30.2.2.1 2).toInt ≤ 200 := k_q30_2_2.1 2
        have e_q30_2_2_7 : (q30.2.2.1 7).toInt = (o2.1 7).toInt := congrArg Int32.toInt (n_q30_2_2.1 7 rfl)
        have g_q30_2_2_7 : (0 : Int) ≤ (q30.2.2.1 7).toInt ∧ (q30.2.2.1 7).toInt ≤ 0 := k_q30_2_2.1 7
        have zq30_1 : q30.1.toInt < 2 * (((q30.2.2.1 0).toInt + 1) + (q30.2.2.1 2).toInt) := zq30_1
        have zq30_2 : (o2.1 2).toInt ≤ (q30.2.2.1 2).toInt := zq30_2
        have zq30_3 : (q30.2.2.1 0).toInt = (o2.1 0).toInt := zq30_3
        have u31 : Lk (-1) ((o1.1 0).toInt + 1) (o1.1 2).toInt (o1.1 1).toInt (o1.2.1 7) (sh ((o1.1 0).toInt + 1) (o1.2.1 4)) (sh ((o1.1 0).toInt + 1) (o1.2.1 5)) (cu (((o1.1 0).toInt + 1) + (o1.1 2).toInt) (q30.2.1.2.1 0)) (cu (((o1.1 0).toInt + 1) + (o1.1 2).toInt) (q30.2.1.2.1 1)) := by rw [n_q30_2_1.2.1 0 rfl, n_q30_2_1.2.1 1 rfl]; exact u26
        have u32 : Aq (o1.1 2).toInt ((o1.1 0).toInt + 1) (o1.1 2).toInt (sh ((o1.1 0).toInt + 1) (o1.2.1 4)) (sh ((o1.1 0).toInt + 1) (o1.2.1 5)) (cu (((o1.1 0).toInt + 1) + (o1.1 2).toInt) (q30.2.1.2.1 0)) (cu (((o1.1 0).toInt + 1) + (o1.1 2).toInt) (q30.2.1.2.1 1)) (q30.2.1.2.1 3) := by rw [n_q30_2_1.2.1 0 rfl, n_q30_2_1.2.1 1 rfl, n_q30_2_1.2.1 3 rfl]; exact u27
        have u33 : Rq v3.toInt ((o1.1 0).toInt + 1) (((o2.1 0).toInt + 1) + (o2.1 2).toInt) (cu (((o1.1 0).toInt + 1) + (o1.1 2).toInt) (q30.2.1.2.1 0)) (q30.2.1.2.1 3) (q30.2.1.2.1 4) := by rw [n_q30_2_1.2.1 0 rfl, n_q30_2_1.2.1 3 rfl, n_q30_2_1.2.1 4 rfl]; exact u28
        refine tt_n (ix_ok i10 (by decide) (by decide)) ?_
        refine tt_ko ?_
        have k34 := ok_xp (k := 4) (i := v3.toNatClampNeg) (v := q30.1) k_q30_2_1 i_q30
        have r35 := fr_xp (k := 4) (i := v3.toNatClampNeg) (v := q30.1) r_q30_2_1 rfl
        try unfold fRe_makeBalanced_61
        refine tt_kv (P := fun z => ((2 : Int) ≤ z.toInt ∧ z.toInt ≤ 209) ∧ z.toInt = v3.toInt + 1) ⟨iv_add i10 (show (1 : Int) ≤ (1 : Int32).toInt ∧ (1 : Int32).toInt ≤ 1 by decide) (by decide) (by decide) (by decide) (by decide), iq_add i10 (show (1 : Int) ≤ (1 : Int32).toInt ∧ (1 : Int32).toInt ≤ 1 by decide) (by decide) (by decide)⟩ (fun x36 qi37 => ?_)
        obtain ⟨i37, ei37⟩ := qi37
        have p38 : Rq x36.toInt ((o1.1 0).toInt + 1) (((q30.2.2.1 0).toInt + 1) + (q30.2.2.1 2).toInt) (cu (((o1.1 0).toInt + 1) + (o1.1 2).toInt) (q30.2.1.2.1 0)) (q30.2.1.2.1 3) (upd (q30.2.1.2.1 4) (v3.toNatClampNeg) q30.1) := by rw [n_q30_2_1.2.1 0 rfl, n_q30_2_1.2.1 3 rfl, n_q30_2_1.2.1 4 rfl, n_q25.2.1 0 rfl, n_q25.2.1 3 rfl, n_q25.2.1 4 rfl]; exact Rq_s (Rq_w x_5 (by omega)) (by omega) (by rw [tn_n]; omega) (by omega)
        exact H _ _ _ _ k34 r35 k_o1 r_o1 k_q30_2_2 r_q30_2_2 (iv_w (a := 1) (b := 209) (by decide) (by decide) i37) x_0 u31 u32 (show (o1.1 0).toInt < x36.toInt by omega) zq30_0 p38 (show (q30.2.2.1 0).toInt = (o1.1 0).toInt by omega) x_7 (show (q30.2.2.1 1).toInt = (o1.1 1).toInt by omega) (show 0 + (209 - x36.toInt) * 2 < (n : Int) by omega)
      · have wc22 : ¬ x20.toInt = (0 : Int) := c_ne c22
        have i39 : (1 : Int) ≤ x20.toInt ∧ x20.toInt ≤ 1 := nr_nela c22 i21 (show (0 : Int) ≤ (0 : Int32).toInt ∧ (0 : Int32).toInt ≤ 0 by decide) (by decide) (by decide)
        try unfold fRe_makeBalanced_61
        refine tt_kv (P := fun z => ((2 : Int) ≤ z.toInt ∧ z.toInt ≤ 209) ∧ z.toInt = v3.toInt + 1) ⟨iv_add i10 (show (1 : Int) ≤ (1 : Int32).toInt ∧ (1 : Int32).toInt ≤ 1 by decide) (by decide) (by decide) (by decide) (by decide), iq_add i10 (show (1 : Int) ≤ (1 : Int32).toInt ∧ (1 : Int32).toInt ≤ 1 by decide) (by decide) (by decide)⟩ (fun x40 qi41 => ?_)
        obtain ⟨i41, ei41⟩ := qi41
        have p42 : Rq x40.toInt ((o1.1 0).toInt + 1) (((o2.1 0).toInt + 1) + (o2.1 2).toInt) (cu (((o1.1 0).toInt + 1) + (o1.1 2).toInt) (o0.2.1 0)) (o0.2.1 3) (o0.2.1 4) := by exact Rq_k (i := v3.toNatClampNeg) x_5 (by omega) (by rw [tn_n]; omega) (by omega) (by first | exact Or.inl (by rw [cu_e (by rw [tn_n]; omega)]; omega) | exact Or.inr (by omega))
        exact H _ _ _ _ k_o0 r_o0 k_o1 r_o1 k_o2 r_o2 (iv_w (a := 1) (b := 209) (by decide) (by decide) i41) x_0 x_1 x_2 (show (o1.1 0).toInt < x40.toInt by omega) x_4 p42 (show (o2.1 0).toInt = (o1.1 0).toInt by omega) x_7 (show (o2.1 1).toInt = (o1.1 1).toInt by omega) (show 0 + (209 - x40.toInt) * 2 < (n : Int) by omega)
set_option maxHeartbeats 4000000 in
set_option maxRecDepth 100000 in
theorem hRe_makeBalanced (yo0 : cf_O) (yo1 : cf_O) (yo2 : cf_O) : ∀ n, HRe_makeBalanced yo0 yo1 yo2 n := by
  intro n
  induction n with
  | zero => exact (fun v3 o0 o1 o2 k_o0 r_o0 k_o1 r_o1 k_o2 r_o2 i_v3 x_0 x_1 x_2 x_3 x_4 x_5 x_6 x_7 x_8 hm => by exact absurd (show 0 + (209 - v3.toInt) * 2 < (0 : Int) from hm) (by omega))
  | succ n ih => exact (fun v3 o0 o1 o2 k_o0 r_o0 k_o1 r_o1 k_o2 r_o2 i_v3 x_0 x_1 x_2 x_3 x_4 x_5 x_6 x_7 x_8 hm => tRe_makeBalanced_18 ih v3 o0 o1 o2 k_o0 r_o0 k_o1 r_o1 k_o2 r_o2 i_v3 x_0 x_1 x_2 x_3 x_4 x_5 x_6 x_7 x_8 (by omega))
set_option maxHeartbeats 4000000 in
set_option maxRecDepth 100000 in
theorem sRe_makeBalanced (o0 : cf_O) (o1 : cf_O) (o2 : cf_O) (k_o0 : okO I_Re o0) (k_o1 : okO I_Gr o1) (k_o2 : okO I_Gr o2) (x_0 : Gx ((o1.1 0).toInt + 1) (o1.1 2).toInt (sh ((o1.1 0).toInt + 1) (o1.2.1 4)) (sh ((o1.1 0).toInt + 1) (o1.2.1 5))) (x_1 : No (o1.1 1).toInt (((o1.1 0).toInt + 1) + (o1.1 2).toInt) (o1.2.1 7)) : tt (fRe_makeBalanced o0 o1 o2) (QRe_makeBalanced o0 o1 o2) := by
  have H := hRe_makeBalanced o0 o1 o2 cfFU
  have hm : (419 : Int) ≤ (cfFU : Nat) := by decide
  have r_o0 : Fr (fr_M [7] [0, 1, 3, 4, 5, 6] []) o0 o0 := fr_rfl
  have r_o1 : Fr (fr_M [] [] []) o1 o1 := fr_rfl
  have r_o2 : Fr (fr_M [0, 1, 2, 3] [4, 5, 6, 7, 8, 9] []) o2 o2 := fr_rfl
  unfold fRe_makeBalanced fRe_makeBalanced_0
  have g_o0_0 : (0 : Int) ≤ (o0.1 0).toInt ∧ (o0.1 0).toInt ≤ 0 := k_o0.1 0
  have g_o0_1 : (0 : Int) ≤ (o0.1 1).toInt ∧ (o0.1 1).toInt ≤ 0 := k_o0.1 1
  have g_o0_2 : (0 : Int) ≤ (o0.1 2).toInt ∧ (o0.1 2).toInt ≤ 0 := k_o0.1 2
  have g_o0_7 : (0 : Int) ≤ (o0.1 7).toInt ∧ (o0.1 7).toInt ≤ 210 := k_o0.1 7
  have g_o1_0 : (0 : Int) ≤ (o1.1 0).toInt ∧ (o1.1 0).toInt ≤ 8 := k_o1.1 0
  have g_o1_1 : (0 : Int) ≤ (o1.1 1).toInt ∧ (o1.1 1).toInt ≤ 6 := k_o1.1 1
  have g_o1_2 : (0 : Int) ≤ (o1.1 2).toInt ∧ (o1.1 2).toInt ≤ 200 := k_o1.1 2
  have g_o1_7 : (0 : Int) ≤ (o1.1 7).toInt ∧ (o1.1 7).toInt ≤ 0 := k_o1.1 7
  have g_o2_0 : (0 : Int) ≤ (o2.1 0).toInt ∧ (o2.1 0).toInt ≤ 8 := k_o2.1 0
  have g_o2_1 : (0 : Int) ≤ (o2.1 1).toInt ∧ (o2.1 1).toInt ≤ 6 := k_o2.1 1
  have g_o2_2 : (0 : Int) ≤ (o2.1 2).toInt ∧ (o2.1 2).toInt ≤ 200 := k_o2.1 2
  have g_o2_7 : (0 : Int) ≤ (o2.1 7).toInt ∧ (o2.1 7).toInt ≤ 0 := k_o2.1 7
  refine tt_b (sRe_begin _ _ _ k_o0 k_o1 k_o2 x_0 x_1) (fun q1 hq1 => ?_)
  obtain ⟨k_q1_1, n_q1_1, k_q1_2, n_q1_2, f_q1_2_2, f_q1_2_3, zq1_0, zq1_1, zq1_2, zq1_3, zq1_4, zq1_5, -⟩ := hq1
  have r_q1_1 := fr_tr r_o0 n_q1_1 rfl rfl rfl
  have e_q1_1_0 : (q1.1.1 0).toInt = (o0.1 0).toInt := congrArg Int32.toInt (n_q1_1.1 0 rfl)
  have g_q1_1_0 : (0 : Int) ≤ (q1.1.1 0).toInt ∧ (q1.1.1 0).toInt ≤ 0 := k_q1_1.1 0
  have e_q1_1_1 : (q1.1.1 1).toInt = (o0.1 1).toInt := congrArg Int32.toInt (n_q1_1.1 1 rfl)
  have g_q1_1_1 : (0 : Int) ≤ (q1.1.1 1).toInt ∧ (q1.1.1 1).toInt ≤ 0 := k_q1_1.1 1
  have e_q1_1_2 : (q1.1.1 2).toInt = (o0.1 2).toInt := congrArg Int32.toInt (n_q1_1.1 2 rfl)
  have g_q1_1_2 : (0 : Int) ≤ (q1.1.1 2).toInt ∧ (q1.1.1 2).toInt ≤ 0 := k_q1_1.1 2
  have e_q1_1_7 : (q1.1.1 7).toInt = (o0.1 7).toInt := congrArg Int32.toInt (n_q1_1.1 7 rfl)
  have g_q1_1_7 : (0 : Int) ≤ (q1.1.1 7).toInt ∧ (q1.1.1 7).toInt ≤ 210 := k_q1_1.1 7
  have r_q1_2 := fr_tr r_o2 n_q1_2 rfl rfl rfl
  have g_q1_2_0 : (0 : Int) ≤ (q1.2.1 0).toInt ∧ (q1.2.1 0).toInt ≤ 8 := k_q1_2.1 0
  have g_q1_2_1 : (0 : Int) ≤ (q1.2.1 1).toInt ∧ (q1.2.1 1).toInt ≤ 6 := k_q1_2.1 1
  have e_q1_2_7 : (q1.2.1 7).toInt = (o2.1 7).toInt := congrArg Int32.toInt (n_q1_2.1 7 rfl)
  have g_q1_2_7 : (0 : Int) ≤ (q1.2.1 7).toInt ∧ (q1.2.1 7).toInt ≤ 0 := k_q1_2.1 7
  have zq1_3 : (q1.2.1 0).toInt = (o1.1 0).toInt := zq1_3
  have zq1_4 : (q1.2.1 2).toInt = 0 := zq1_4
  have zq1_5 : (q1.2.1 1).toInt = (o1.1 1).toInt := zq1_5
  refine tt_b (sRe_findApart _ _ k_q1_1 k_o1 x_0) (fun q2 hq2 => ?_)
  obtain ⟨k_q2, n_q2, zq2_0, -⟩ := hq2
  have r_q2 := fr_tr r_q1_1 n_q2 rfl rfl rfl
  have e_q2_0 : (q2.1 0).toInt = (q1.1.1 0).toInt := congrArg Int32.toInt (n_q2.1 0 rfl)
  have g_q2_0 : (0 : Int) ≤ (q2.1 0).toInt ∧ (q2.1 0).toInt ≤ 0 := k_q2.1 0
  have e_q2_1 : (q2.1 1).toInt = (q1.1.1 1).toInt := congrArg Int32.toInt (n_q2.1 1 rfl)
  have g_q2_1 : (0 : Int) ≤ (q2.1 1).toInt ∧ (q2.1 1).toInt ≤ 0 := k_q2.1 1
  have e_q2_2 : (q2.1 2).toInt = (q1.1.1 2).toInt := congrArg Int32.toInt (n_q2.1 2 rfl)
  have g_q2_2 : (0 : Int) ≤ (q2.1 2).toInt ∧ (q2.1 2).toInt ≤ 0 := k_q2.1 2
  have e_q2_7 : (q2.1 7).toInt = (q1.1.1 7).toInt := congrArg Int32.toInt (n_q2.1 7 rfl)
  have g_q2_7 : (0 : Int) ≤ (q2.1 7).toInt ∧ (q2.1 7).toInt ≤ 210 := k_q2.1 7
  have u3 : Lk (-1) ((o1.1 0).toInt + 1) (o1.1 2).toInt (o1.1 1).toInt (o1.2.1 7) (sh ((o1.1 0).toInt + 1) (o1.2.1 4)) (sh ((o1.1 0).toInt + 1) (o1.2.1 5)) (cu (((o1.1 0).toInt + 1) + (o1.1 2).toInt) (q2.2.1 0)) (cu (((o1.1 0).toInt + 1) + (o1.1 2).toInt) (q2.2.1 1)) := by rw [n_q2.2.1 0 rfl, n_q2.2.1 1 rfl]; exact zq1_0
  have u4 : Od ((o1.1 0).toInt + 1) (q2.2.1 4) := by rw [n_q2.2.1 4 rfl]; exact zq1_1
  refine tt_kv (P := fun z => ((1 : Int) ≤ z.toInt ∧ z.toInt ≤ 9) ∧ z.toInt = (o1.1 0).toInt + 1) ⟨iv_add (k_o1.1 0) (show (1 : Int) ≤ (1 : Int32).toInt ∧ (1 : Int32).toInt ≤ 1 by decide) (by decide) (by decide) (by decide) (by decide), iq_add (k_o1.1 0) (show (1 : Int) ≤ (1 : Int32).toInt ∧ (1 : Int32).toInt ≤ 1 by decide) (by decide) (by decide)⟩ (fun x5 qi6 => ?_)
  obtain ⟨i6, ei6⟩ := qi6
  have p7 : Rq x5.toInt ((o1.1 0).toInt + 1) (((q1.2.1 0).toInt + 1) + (q1.2.1 2).toInt) (cu (((o1.1 0).toInt + 1) + (o1.1 2).toInt) (q2.2.1 0)) (q2.2.1 3) (q2.2.1 4) := by exact Rq_0 (show Od _ _ by assumption) (by omega) (by omega)
  exact H _ _ _ _ k_q2 r_q2 k_o1 r_o1 k_q1_2 r_q1_2 (iv_w (a := 1) (b := 209) (by decide) (by decide) i6) x_0 u3 zq2_0 (show (o1.1 0).toInt < x5.toInt by omega) zq1_2 p7 (show (q1.2.1 0).toInt = (o1.1 0).toInt by omega) x_1 (show (q1.2.1 1).toInt = (o1.1 1).toInt by omega) (show 0 + (209 - x5.toInt) * 2 < ((cfFU : Nat) : Int) by omega)
def QRe_literalAlike (v2 : Int32) (o0 : cf_O) (o1 : cf_O) (o2 : cf_O) (r : (Int32)) : Prop := (((-1) : Int) ≤ r.toInt ∧ r.toInt ≤ 415) ∧ (Lrc r.toInt v2.toInt (o1.1 0).toInt (o0.2.1 0)) ∧ True
def HRe_literalAlike (yv2 : Int32) (yo0 : cf_O) (yo1 : cf_O) (yo2 : cf_O) (n : Nat) : Prop := (∀ (v2 : Int32) (v4 : Int32) (o0 : cf_O) (o1 : cf_O) (o2 : cf_O), (okO I_Re o0) → (Fr (fr_M [] [] []) yo0 o0) → (okO I_Gr o1) → (Fr (fr_M [] [] []) yo1 o1) → (okO I_Fu o2) → (Fr (fr_M [] [] []) yo2 o2) → ((1 : Int) ≤ v2.toInt ∧ v2.toInt ≤ 208) → ((0 : Int) ≤ v4.toInt ∧ v4.toInt ≤ 208) → ((1 : Int) ≤ (o2.1 0).toInt ∧ (o2.1 0).toInt ≤ 1) → (v2.toInt < 1 + (o1.1 0).toInt + (o1.1 2).toInt) → (0 ≤ v4.toInt) → (v2.toInt = yv2.toInt) → 0 + (208 - v4.toInt) * 2 < (n : Int) → tt (gRe_literalAlike n 0 v2 v4 o0 o1 o2) (QRe_literalAlike yv2 yo0 yo1 yo2))
set_option maxHeartbeats 4000000 in
set_option maxRecDepth 100000 in
theorem tRe_literalAlike_3 {yv2 : Int32} {yo0 : cf_O} {yo1 : cf_O} {yo2 : cf_O} {n : Nat} (H : HRe_literalAlike yv2 yo0 yo1 yo2 n) (v2 : Int32) (v4 : Int32) (o0 : cf_O) (o1 : cf_O) (o2 : cf_O) (k_o0 : okO I_Re o0) (r_o0 : Fr (fr_M [] [] []) yo0 o0) (k_o1 : okO I_Gr o1) (r_o1 : Fr (fr_M [] [] []) yo1 o1) (k_o2 : okO I_Fu o2) (r_o2 : Fr (fr_M [] [] []) yo2 o2) (i_v2 : (1 : Int) ≤ v2.toInt ∧ v2.toInt ≤ 208) (i_v4 : (0 : Int) ≤ v4.toInt ∧ v4.toInt ≤ 208) (f_o2_0 : (1 : Int) ≤ (o2.1 0).toInt ∧ (o2.1 0).toInt ≤ 1) (x_0 : v2.toInt < 1 + (o1.1 0).toInt + (o1.1 2).toInt) (x_1 : 0 ≤ v4.toInt) (x_2 : v2.toInt = yv2.toInt) (hm : 0 + (208 - v4.toInt) * 2 ≤ (n : Int)) : tt (fRe_literalAlike_3 (gRe_literalAlike n) v2 v4 o0 o1 o2) (QRe_literalAlike yv2 yo0 yo1 yo2) := by
  unfold fRe_literalAlike_3
  have g_o0_0 : (0 : Int) ≤ (o0.1 0).toInt ∧ (o0.1 0).toInt ≤ 0 := k_o0.1 0
  have ey_o0_0 : (o0.1 0).toInt = (yo0.1 0).toInt := congrArg Int32.toInt (r_o0.1 0 rfl)
  have g_o0_2 : (0 : Int) ≤ (o0.1 2).toInt ∧ (o0.1 2).toInt ≤ 0 := k_o0.1 2
  have ey_o0_2 : (o0.1 2).toInt = (yo0.1 2).toInt := congrArg Int32.toInt (r_o0.1 2 rfl)
  have g_o1_0 : (0 : Int) ≤ (o1.1 0).toInt ∧ (o1.1 0).toInt ≤ 8 := k_o1.1 0
  have ey_o1_0 : (o1.1 0).toInt = (yo1.1 0).toInt := congrArg Int32.toInt (r_o1.1 0 rfl)
  have g_o1_2 : (0 : Int) ≤ (o1.1 2).toInt ∧ (o1.1 2).toInt ≤ 200 := k_o1.1 2
  have ey_o1_2 : (o1.1 2).toInt = (yo1.1 2).toInt := congrArg Int32.toInt (r_o1.1 2 rfl)
  have ey_o2_0 : (o2.1 0).toInt = (yo2.1 0).toInt := congrArg Int32.toInt (r_o2.1 0 rfl)
  have g_o2_2 : (0 : Int) ≤ (o2.1 2).toInt ∧ (o2.1 2).toInt ≤ 0 := k_o2.1 2
  have ey_o2_2 : (o2.1 2).toInt = (yo2.1 2).toInt := congrArg Int32.toInt (r_o2.1 2 rfl)
  refine tt_if (fun c1 => ?_) (fun c1 => ?_)
  · have wc1 : v2.toInt ≤ v4.toInt := c_le c1
    have i2 : (1 : Int) ≤ v4.toInt ∧ v4.toInt ≤ 208 := nr_ler c1 i_v2 i_v4 (by decide) (by decide)
    have p3 : Lrc (-1) yv2.toInt (yo1.1 0).toInt (yo0.2.1 0) := by exact Lrc_n (by decide)
    exact tt_some ⟨(iv_w (a := (-1)) (b := 415) (by decide) (by decide) (show ((-1) : Int) ≤ ((-1) : Int32).toInt ∧ ((-1) : Int32).toInt ≤ (-1) by decide)), p3, trivial⟩
  · have wc1 : v4.toInt < v2.toInt := c_nle c1
    have i4 : (0 : Int) ≤ v4.toInt ∧ v4.toInt ≤ 207 := nr_nlel c1 i_v4 i_v2 (by decide) (by decide)
    refine tt_b (sGr_isGate _ _ k_o1) (fun q5 hq5 => ?_)
    obtain ⟨i_q5, zq5_0, zq5_1, -⟩ := hq5
    have zq5_0 : q5.toInt = 0 ∨ ((o1.1 0).toInt < v4.toInt ∧ v4.toInt < 1 + (o1.1 0).toInt + (o1.1 2).toInt) := zq5_0
    refine tt_if (fun c6 => ?_) (fun c6 => ?_)
    · have wc6 : q5.toInt = (0 : Int) := c_eq c6
      have i7 : (0 : Int) ≤ q5.toInt ∧ q5.toInt ≤ 0 := nr_eql c6 i_q5 (show (0 : Int) ≤ (0 : Int32).toInt ∧ (0 : Int32).toInt ≤ 0 by decide) (by decide) (by decide)
      try unfold fRe_literalAlike_31
      refine tt_kv (P := fun z => ((0 : Int) ≤ z.toInt ∧ z.toInt ≤ 414) ∧ z.toInt = 2 * v4.toInt) ⟨iv_mul (show (2 : Int) ≤ (2 : Int32).toInt ∧ (2 : Int32).toInt ≤ 2 by decide) i4 (by decide) (by decide) (by decide) (by decide) (by decide), iq_mul (show (2 : Int) ≤ (2 : Int32).toInt ∧ (2 : Int32).toInt ≤ 2 by decide) i4 (by decide) (by decide) (by decide) (by decide)⟩ (fun x8 qi9 => ?_)
      obtain ⟨i9, ei9⟩ := qi9
      refine tt_kv (P := fun z => ((2 : Int) ≤ z.toInt ∧ z.toInt ≤ 416) ∧ z.toInt = 2 * v2.toInt) ⟨iv_mul (show (2 : Int) ≤ (2 : Int32).toInt ∧ (2 : Int32).toInt ≤ 2 by decide) i_v2 (by decide) (by decide) (by decide) (by decide) (by decide), iq_mul (show (2 : Int) ≤ (2 : Int32).toInt ∧ (2 : Int32).toInt ≤ 2 by decide) i_v2 (by decide) (by decide) (by decide) (by decide)⟩ (fun x10 qi11 => ?_)
      obtain ⟨i11, ei11⟩ := qi11
      refine tt_b (sFu_areSame _ _ _ k_o2 (iv_w (a := 0) (b := 417) (by decide) (by decide) i9) (iv_w (a := 0) (b := 417) (by decide) (by decide) i11) f_o2_0) (fun q12 hq12 => ?_)
      obtain ⟨i_q12, -⟩ := hq12
      refine tt_if (fun c13 => ?_) (fun c13 => ?_)
      · have wc13 : q12.toInt = (0 : Int) := c_eq c13
        have i14 : (0 : Int) ≤ q12.toInt ∧ q12.toInt ≤ 0 := nr_eql c13 i_q12 (show (0 : Int) ≤ (0 : Int32).toInt ∧ (0 : Int32).toInt ≤ 0 by decide) (by decide) (by decide)
        refine tt_kv (P := fun z => ((0 : Int) ≤ z.toInt ∧ z.toInt ≤ 414) ∧ z.toInt = 2 * v4.toInt) ⟨iv_mul (show (2 : Int) ≤ (2 : Int32).toInt ∧ (2 : Int32).toInt ≤ 2 by decide) i4 (by decide) (by decide) (by decide) (by decide) (by decide), iq_mul (show (2 : Int) ≤ (2 : Int32).toInt ∧ (2 : Int32).toInt ≤ 2 by decide) i4 (by decide) (by decide) (by decide) (by decide)⟩ (fun x15 qi16 => ?_)
        obtain ⟨i16, ei16⟩ := qi16
        refine tt_kv (P := fun z => ((1 : Int) ≤ z.toInt ∧ z.toInt ≤ 415) ∧ z.toInt = x15.toInt + 1) ⟨iv_add i16 (show (1 : Int) ≤ (1 : Int32).toInt ∧ (1 : Int32).toInt ≤ 1 by decide) (by decide) (by decide) (by decide) (by decide), iq_add i16 (show (1 : Int) ≤ (1 : Int32).toInt ∧ (1 : Int32).toInt ≤ 1 by decide) (by decide) (by decide)⟩ (fun x17 qi18 => ?_)
        obtain ⟨i18, ei18⟩ := qi18
        refine tt_kv (P := fun z => ((2 : Int) ≤ z.toInt ∧ z.toInt ≤ 416) ∧ z.toInt = 2 * v2.toInt) ⟨iv_mul (show (2 : Int) ≤ (2 : Int32).toInt ∧ (2 : Int32).toInt ≤ 2 by decide) i_v2 (by decide) (by decide) (by decide) (by decide) (by decide), iq_mul (show (2 : Int) ≤ (2 : Int32).toInt ∧ (2 : Int32).toInt ≤ 2 by decide) i_v2 (by decide) (by decide) (by decide) (by decide)⟩ (fun x19 qi20 => ?_)
        obtain ⟨i20, ei20⟩ := qi20
        refine tt_b (sFu_areSame _ _ _ k_o2 (iv_w (a := 0) (b := 417) (by decide) (by decide) i18) (iv_w (a := 0) (b := 417) (by decide) (by decide) i20) f_o2_0) (fun q21 hq21 => ?_)
        obtain ⟨i_q21, -⟩ := hq21
        refine tt_if (fun c22 => ?_) (fun c22 => ?_)
        · have wc22 : q21.toInt = (0 : Int) := c_eq c22
          have i23 : (0 : Int) ≤ q21.toInt ∧ q21.toInt ≤ 0 := nr_eql c22 i_q21 (show (0 : Int) ≤ (0 : Int32).toInt ∧ (0 : Int32).toInt ≤ 0 by decide) (by decide) (by decide)
          try unfold fRe_literalAlike_73
          refine tt_kv (P := fun z => ((1 : Int) ≤ z.toInt ∧ z.toInt ≤ 208) ∧ z.toInt = v4.toInt + 1) ⟨iv_add i4 (show (1 : Int) ≤ (1 : Int32).toInt ∧ (1 : Int32).toInt ≤ 1 by decide) (by decide) (by decide) (by decide) (by decide), iq_add i4 (show (1 : Int) ≤ (1 : Int32).toInt ∧ (1 : Int32).toInt ≤ 1 by decide) (by decide) (by decide)⟩ (fun x24 qi25 => ?_)
          obtain ⟨i25, ei25⟩ := qi25
          exact H _ _ _ _ _ k_o0 r_o0 k_o1 r_o1 k_o2 r_o2 i_v2 (iv_w (a := 0) (b := 208) (by decide) (by decide) i25) f_o2_0 (show v2.toInt < 1 + (o1.1 0).toInt + (o1.1 2).toInt by omega) (show 0 ≤ x24.toInt by omega) (show v2.toInt = yv2.toInt by omega) (show 0 + (208 - x24.toInt) * 2 < (n : Int) by omega)
        · have wc22 : ¬ q21.toInt = (0 : Int) := c_ne c22
          have i26 : (1 : Int) ≤ q21.toInt ∧ q21.toInt ≤ 1 := nr_nela c22 i_q21 (show (0 : Int) ≤ (0 : Int32).toInt ∧ (0 : Int32).toInt ≤ 0 by decide) (by decide) (by decide)
          refine tt_kv (P := fun z => ((0 : Int) ≤ z.toInt ∧ z.toInt ≤ 414) ∧ z.toInt = 2 * v4.toInt) ⟨iv_mul (show (2 : Int) ≤ (2 : Int32).toInt ∧ (2 : Int32).toInt ≤ 2 by decide) i4 (by decide) (by decide) (by decide) (by decide) (by decide), iq_mul (show (2 : Int) ≤ (2 : Int32).toInt ∧ (2 : Int32).toInt ≤ 2 by decide) i4 (by decide) (by decide) (by decide) (by decide)⟩ (fun x27 qi28 => ?_)
          obtain ⟨i28, ei28⟩ := qi28
          refine tt_kv (P := fun z => ((1 : Int) ≤ z.toInt ∧ z.toInt ≤ 415) ∧ z.toInt = x27.toInt + 1) ⟨iv_add i28 (show (1 : Int) ≤ (1 : Int32).toInt ∧ (1 : Int32).toInt ≤ 1 by decide) (by decide) (by decide) (by decide) (by decide), iq_add i28 (show (1 : Int) ≤ (1 : Int32).toInt ∧ (1 : Int32).toInt ≤ 1 by decide) (by decide) (by decide)⟩ (fun x29 qi30 => ?_)
          obtain ⟨i30, ei30⟩ := qi30
          have p31 : Lrc x29.toInt yv2.toInt (yo1.1 0).toInt (yo0.2.1 0) := by rw [← r_o0.2.1 0 rfl, ← r_o1.1 0 rfl]; first | exact Lrc_i (L := v2.toInt) (i := v4.toNatClampNeg) (by rw [tn_n]; omega) (by omega) (by omega) (Or.inl (by have zz := Ig_e zq5_1 (by omega) (by omega); omega)) | exact Lrc_i (L := v2.toInt) (i := v4.toNatClampNeg) (by rw [tn_n]; omega) (by omega) (by omega) (Or.inr (by omega))
          exact tt_some ⟨(iv_w (a := (-1)) (b := 415) (by decide) (by decide) i30), p31, trivial⟩
      · have wc13 : ¬ q12.toInt = (0 : Int) := c_ne c13
        have i32 : (1 : Int) ≤ q12.toInt ∧ q12.toInt ≤ 1 := nr_nela c13 i_q12 (show (0 : Int) ≤ (0 : Int32).toInt ∧ (0 : Int32).toInt ≤ 0 by decide) (by decide) (by decide)
        refine tt_kv (P := fun z => ((0 : Int) ≤ z.toInt ∧ z.toInt ≤ 414) ∧ z.toInt = 2 * v4.toInt) ⟨iv_mul (show (2 : Int) ≤ (2 : Int32).toInt ∧ (2 : Int32).toInt ≤ 2 by decide) i4 (by decide) (by decide) (by decide) (by decide) (by decide), iq_mul (show (2 : Int) ≤ (2 : Int32).toInt ∧ (2 : Int32).toInt ≤ 2 by decide) i4 (by decide) (by decide) (by decide) (by decide)⟩ (fun x33 qi34 => ?_)
        obtain ⟨i34, ei34⟩ := qi34
        have p35 : Lrc x33.toInt yv2.toInt (yo1.1 0).toInt (yo0.2.1 0) := by rw [← r_o0.2.1 0 rfl, ← r_o1.1 0 rfl]; first | exact Lrc_i (L := v2.toInt) (i := v4.toNatClampNeg) (by rw [tn_n]; omega) (by omega) (by omega) (Or.inl (by have zz := Ig_e zq5_1 (by omega) (by omega); omega)) | exact Lrc_i (L := v2.toInt) (i := v4.toNatClampNeg) (by rw [tn_n]; omega) (by omega) (by omega) (Or.inr (by omega))
        exact tt_some ⟨(iv_w (a := (-1)) (b := 415) (by decide) (by decide) i34), p35, trivial⟩
    · have wc6 : ¬ q5.toInt = (0 : Int) := c_ne c6
      have i36 : (1 : Int) ≤ q5.toInt ∧ q5.toInt ≤ 1 := nr_nela c6 i_q5 (show (0 : Int) ≤ (0 : Int32).toInt ∧ (0 : Int32).toInt ≤ 0 by decide) (by decide) (by decide)
      refine tt_n (ix_ok i4 (by decide) (by decide)) ?_
      refine tt_kv (P := fun z => ((0 : Int) ≤ z.toInt ∧ z.toInt ≤ 1) ∧ z.toInt = (o0.2.1 0 v4.toNatClampNeg).toInt) ⟨(k_o0.2 0 _), rfl⟩ (fun x37 qi38 => ?_)
      obtain ⟨i38, ei38⟩ := qi38
      refine tt_if (fun c39 => ?_) (fun c39 => ?_)
      · have wc39 : x37.toInt = (0 : Int) := c_eq c39
        have i40 : (0 : Int) ≤ x37.toInt ∧ x37.toInt ≤ 0 := nr_eql c39 i38 (show (0 : Int) ≤ (0 : Int32).toInt ∧ (0 : Int32).toInt ≤ 0 by decide) (by decide) (by decide)
        try unfold fRe_literalAlike_73
        refine tt_kv (P := fun z => ((1 : Int) ≤ z.toInt ∧ z.toInt ≤ 208) ∧ z.toInt = v4.toInt + 1) ⟨iv_add i4 (show (1 : Int) ≤ (1 : Int32).toInt ∧ (1 : Int32).toInt ≤ 1 by decide) (by decide) (by decide) (by decide) (by decide), iq_add i4 (show (1 : Int) ≤ (1 : Int32).toInt ∧ (1 : Int32).toInt ≤ 1 by decide) (by decide) (by decide)⟩ (fun x41 qi42 => ?_)
        obtain ⟨i42, ei42⟩ := qi42
        exact H _ _ _ _ _ k_o0 r_o0 k_o1 r_o1 k_o2 r_o2 i_v2 (iv_w (a := 0) (b := 208) (by decide) (by decide) i42) f_o2_0 (show v2.toInt < 1 + (o1.1 0).toInt + (o1.1 2).toInt by omega) (show 0 ≤ x41.toInt by omega) (show v2.toInt = yv2.toInt by omega) (show 0 + (208 - x41.toInt) * 2 < (n : Int) by omega)
      · have wc39 : ¬ x37.toInt = (0 : Int) := c_ne c39
        have i43 : (1 : Int) ≤ x37.toInt ∧ x37.toInt ≤ 1 := nr_nela c39 i38 (show (0 : Int) ≤ (0 : Int32).toInt ∧ (0 : Int32).toInt ≤ 0 by decide) (by decide) (by decide)
        try unfold fRe_literalAlike_31
        refine tt_kv (P := fun z => ((0 : Int) ≤ z.toInt ∧ z.toInt ≤ 414) ∧ z.toInt = 2 * v4.toInt) ⟨iv_mul (show (2 : Int) ≤ (2 : Int32).toInt ∧ (2 : Int32).toInt ≤ 2 by decide) i4 (by decide) (by decide) (by decide) (by decide) (by decide), iq_mul (show (2 : Int) ≤ (2 : Int32).toInt ∧ (2 : Int32).toInt ≤ 2 by decide) i4 (by decide) (by decide) (by decide) (by decide)⟩ (fun x44 qi45 => ?_)
        obtain ⟨i45, ei45⟩ := qi45
        refine tt_kv (P := fun z => ((2 : Int) ≤ z.toInt ∧ z.toInt ≤ 416) ∧ z.toInt = 2 * v2.toInt) ⟨iv_mul (show (2 : Int) ≤ (2 : Int32).toInt ∧ (2 : Int32).toInt ≤ 2 by decide) i_v2 (by decide) (by decide) (by decide) (by decide) (by decide), iq_mul (show (2 : Int) ≤ (2 : Int32).toInt ∧ (2 : Int32).toInt ≤ 2 by decide) i_v2 (by decide) (by decide) (by decide) (by decide)⟩ (fun x46 qi47 => ?_)
        obtain ⟨i47, ei47⟩ := qi47
        refine tt_b (sFu_areSame _ _ _ k_o2 (iv_w (a := 0) (b := 417) (by decide) (by decide) i45) (iv_w (a := 0) (b := 417) (by decide) (by decide) i47) f_o2_0) (fun q48 hq48 => ?_)
        obtain ⟨i_q48, -⟩ := hq48
        refine tt_if (fun c49 => ?_) (fun c49 => ?_)
        · have wc49 : q48.toInt = (0 : Int) := c_eq c49
          have i50 : (0 : Int) ≤ q48.toInt ∧ q48.toInt ≤ 0 := nr_eql c49 i_q48 (show (0 : Int) ≤ (0 : Int32).toInt ∧ (0 : Int32).toInt ≤ 0 by decide) (by decide) (by decide)
          refine tt_kv (P := fun z => ((0 : Int) ≤ z.toInt ∧ z.toInt ≤ 414) ∧ z.toInt = 2 * v4.toInt) ⟨iv_mul (show (2 : Int) ≤ (2 : Int32).toInt ∧ (2 : Int32).toInt ≤ 2 by decide) i4 (by decide) (by decide) (by decide) (by decide) (by decide), iq_mul (show (2 : Int) ≤ (2 : Int32).toInt ∧ (2 : Int32).toInt ≤ 2 by decide) i4 (by decide) (by decide) (by decide) (by decide)⟩ (fun x51 qi52 => ?_)
          obtain ⟨i52, ei52⟩ := qi52
          refine tt_kv (P := fun z => ((1 : Int) ≤ z.toInt ∧ z.toInt ≤ 415) ∧ z.toInt = x51.toInt + 1) ⟨iv_add i52 (show (1 : Int) ≤ (1 : Int32).toInt ∧ (1 : Int32).toInt ≤ 1 by decide) (by decide) (by decide) (by decide) (by decide), iq_add i52 (show (1 : Int) ≤ (1 : Int32).toInt ∧ (1 : Int32).toInt ≤ 1 by decide) (by decide) (by decide)⟩ (fun x53 qi54 => ?_)
          obtain ⟨i54, ei54⟩ := qi54
          refine tt_kv (P := fun z => ((2 : Int) ≤ z.toInt ∧ z.toInt ≤ 416) ∧ z.toInt = 2 * v2.toInt) ⟨iv_mul (show (2 : Int) ≤ (2 : Int32).toInt ∧ (2 : Int32).toInt ≤ 2 by decide) i_v2 (by decide) (by decide) (by decide) (by decide) (by decide), iq_mul (show (2 : Int) ≤ (2 : Int32).toInt ∧ (2 : Int32).toInt ≤ 2 by decide) i_v2 (by decide) (by decide) (by decide) (by decide)⟩ (fun x55 qi56 => ?_)
          obtain ⟨i56, ei56⟩ := qi56
          refine tt_b (sFu_areSame _ _ _ k_o2 (iv_w (a := 0) (b := 417) (by decide) (by decide) i54) (iv_w (a := 0) (b := 417) (by decide) (by decide) i56) f_o2_0) (fun q57 hq57 => ?_)
          obtain ⟨i_q57, -⟩ := hq57
          refine tt_if (fun c58 => ?_) (fun c58 => ?_)
          · have wc58 : q57.toInt = (0 : Int) := c_eq c58
            have i59 : (0 : Int) ≤ q57.toInt ∧ q57.toInt ≤ 0 := nr_eql c58 i_q57 (show (0 : Int) ≤ (0 : Int32).toInt ∧ (0 : Int32).toInt ≤ 0 by decide) (by decide) (by decide)
            try unfold fRe_literalAlike_73
            refine tt_kv (P := fun z => ((1 : Int) ≤ z.toInt ∧ z.toInt ≤ 208) ∧ z.toInt = v4.toInt + 1) ⟨iv_add i4 (show (1 : Int) ≤ (1 : Int32).toInt ∧ (1 : Int32).toInt ≤ 1 by decide) (by decide) (by decide) (by decide) (by decide), iq_add i4 (show (1 : Int) ≤ (1 : Int32).toInt ∧ (1 : Int32).toInt ≤ 1 by decide) (by decide) (by decide)⟩ (fun x60 qi61 => ?_)
            obtain ⟨i61, ei61⟩ := qi61
            exact H _ _ _ _ _ k_o0 r_o0 k_o1 r_o1 k_o2 r_o2 i_v2 (iv_w (a := 0) (b := 208) (by decide) (by decide) i61) f_o2_0 (show v2.toInt < 1 + (o1.1 0).toInt + (o1.1 2).toInt by omega) (show 0 ≤ x60.toInt by omega) (show v2.toInt = yv2.toInt by omega) (show 0 + (208 - x60.toInt) * 2 < (n : Int) by omega)
          · have wc58 : ¬ q57.toInt = (0 : Int) := c_ne c58
            have i62 : (1 : Int) ≤ q57.toInt ∧ q57.toInt ≤ 1 := nr_nela c58 i_q57 (show (0 : Int) ≤ (0 : Int32).toInt ∧ (0 : Int32).toInt ≤ 0 by decide) (by decide) (by decide)
            refine tt_kv (P := fun z => ((0 : Int) ≤ z.toInt ∧ z.toInt ≤ 414) ∧ z.toInt = 2 * v4.toInt) ⟨iv_mul (show (2 : Int) ≤ (2 : Int32).toInt ∧ (2 : Int32).toInt ≤ 2 by decide) i4 (by decide) (by decide) (by decide) (by decide) (by decide), iq_mul (show (2 : Int) ≤ (2 : Int32).toInt ∧ (2 : Int32).toInt ≤ 2 by decide) i4 (by decide) (by decide) (by decide) (by decide)⟩ (fun x63 qi64 => ?_)
            obtain ⟨i64, ei64⟩ := qi64
            refine tt_kv (P := fun z => ((1 : Int) ≤ z.toInt ∧ z.toInt ≤ 415) ∧ z.toInt = x63.toInt + 1) ⟨iv_add i64 (show (1 : Int) ≤ (1 : Int32).toInt ∧ (1 : Int32).toInt ≤ 1 by decide) (by decide) (by decide) (by decide) (by decide), iq_add i64 (show (1 : Int) ≤ (1 : Int32).toInt ∧ (1 : Int32).toInt ≤ 1 by decide) (by decide) (by decide)⟩ (fun x65 qi66 => ?_)
            obtain ⟨i66, ei66⟩ := qi66
            have p67 : Lrc x65.toInt yv2.toInt (yo1.1 0).toInt (yo0.2.1 0) := by rw [← r_o0.2.1 0 rfl, ← r_o1.1 0 rfl]; first | exact Lrc_i (L := v2.toInt) (i := v4.toNatClampNeg) (by rw [tn_n]; omega) (by omega) (by omega) (Or.inl (by have zz := Ig_e zq5_1 (by omega) (by omega); omega)) | exact Lrc_i (L := v2.toInt) (i := v4.toNatClampNeg) (by rw [tn_n]; omega) (by omega) (by omega) (Or.inr (by omega))
            exact tt_some ⟨(iv_w (a := (-1)) (b := 415) (by decide) (by decide) i66), p67, trivial⟩
        · have wc49 : ¬ q48.toInt = (0 : Int) := c_ne c49
          have i68 : (1 : Int) ≤ q48.toInt ∧ q48.toInt ≤ 1 := nr_nela c49 i_q48 (show (0 : Int) ≤ (0 : Int32).toInt ∧ (0 : Int32).toInt ≤ 0 by decide) (by decide) (by decide)
          refine tt_kv (P := fun z => ((0 : Int) ≤ z.toInt ∧ z.toInt ≤ 414) ∧ z.toInt = 2 * v4.toInt) ⟨iv_mul (show (2 : Int) ≤ (2 : Int32).toInt ∧ (2 : Int32).toInt ≤ 2 by decide) i4 (by decide) (by decide) (by decide) (by decide) (by decide), iq_mul (show (2 : Int) ≤ (2 : Int32).toInt ∧ (2 : Int32).toInt ≤ 2 by decide) i4 (by decide) (by decide) (by decide) (by decide)⟩ (fun x69 qi70 => ?_)
          obtain ⟨i70, ei70⟩ := qi70
          have p71 : Lrc x69.toInt yv2.toInt (yo1.1 0).toInt (yo0.2.1 0) := by rw [← r_o0.2.1 0 rfl, ← r_o1.1 0 rfl]; first | exact Lrc_i (L := v2.toInt) (i := v4.toNatClampNeg) (by rw [tn_n]; omega) (by omega) (by omega) (Or.inl (by have zz := Ig_e zq5_1 (by omega) (by omega); omega)) | exact Lrc_i (L := v2.toInt) (i := v4.toNatClampNeg) (by rw [tn_n]; omega) (by omega) (by omega) (Or.inr (by omega))
          exact tt_some ⟨(iv_w (a := (-1)) (b := 415) (by decide) (by decide) i70), p71, trivial⟩
set_option maxHeartbeats 4000000 in
set_option maxRecDepth 100000 in
theorem hRe_literalAlike (yv2 : Int32) (yo0 : cf_O) (yo1 : cf_O) (yo2 : cf_O) : ∀ n, HRe_literalAlike yv2 yo0 yo1 yo2 n := by
  intro n
  induction n with
  | zero => exact (fun v2 v4 o0 o1 o2 k_o0 r_o0 k_o1 r_o1 k_o2 r_o2 i_v2 i_v4 f_o2_0 x_0 x_1 x_2 hm => by exact absurd (show 0 + (208 - v4.toInt) * 2 < (0 : Int) from hm) (by omega))
  | succ n ih => exact (fun v2 v4 o0 o1 o2 k_o0 r_o0 k_o1 r_o1 k_o2 r_o2 i_v2 i_v4 f_o2_0 x_0 x_1 x_2 hm => tRe_literalAlike_3 ih v2 v4 o0 o1 o2 k_o0 r_o0 k_o1 r_o1 k_o2 r_o2 i_v2 i_v4 f_o2_0 x_0 x_1 x_2 (by omega))
set_option maxHeartbeats 4000000 in
set_option maxRecDepth 100000 in
theorem sRe_literalAlike (v2 : Int32) (o0 : cf_O) (o1 : cf_O) (o2 : cf_O) (k_o0 : okO I_Re o0) (k_o1 : okO I_Gr o1) (k_o2 : okO I_Fu o2) (i_v2 : (1 : Int) ≤ v2.toInt ∧ v2.toInt ≤ 208) (f_o2_0 : (1 : Int) ≤ (o2.1 0).toInt ∧ (o2.1 0).toInt ≤ 1) (x_0 : v2.toInt < 1 + (o1.1 0).toInt + (o1.1 2).toInt) : tt (fRe_literalAlike v2 o0 o1 o2) (QRe_literalAlike v2 o0 o1 o2) := by
  have H := hRe_literalAlike v2 o0 o1 o2 cfFU
  have hm : (419 : Int) ≤ (cfFU : Nat) := by decide
  have r_o0 : Fr (fr_M [] [] []) o0 o0 := fr_rfl
  have r_o1 : Fr (fr_M [] [] []) o1 o1 := fr_rfl
  have r_o2 : Fr (fr_M [] [] []) o2 o2 := fr_rfl
  unfold fRe_literalAlike fRe_literalAlike_0
  have g_o0_0 : (0 : Int) ≤ (o0.1 0).toInt ∧ (o0.1 0).toInt ≤ 0 := k_o0.1 0
  have g_o0_2 : (0 : Int) ≤ (o0.1 2).toInt ∧ (o0.1 2).toInt ≤ 0 := k_o0.1 2
  have g_o1_0 : (0 : Int) ≤ (o1.1 0).toInt ∧ (o1.1 0).toInt ≤ 8 := k_o1.1 0
  have g_o1_2 : (0 : Int) ≤ (o1.1 2).toInt ∧ (o1.1 2).toInt ≤ 200 := k_o1.1 2
  have g_o2_2 : (0 : Int) ≤ (o2.1 2).toInt ∧ (o2.1 2).toInt ≤ 0 := k_o2.1 2
  exact H _ _ _ _ _ k_o0 r_o0 k_o1 r_o1 k_o2 r_o2 i_v2 (iv_w (a := 0) (b := 208) (by decide) (by decide) (show (0 : Int) ≤ (0 : Int32).toInt ∧ (0 : Int32).toInt ≤ 0 by decide)) f_o2_0 (show v2.toInt < 1 + (o1.1 0).toInt + (o1.1 2).toInt by omega) (show 0 ≤ 0 by omega) (show v2.toInt = v2.toInt by omega) (show 0 + (208 - 0) * 2 < ((cfFU : Nat) : Int) by omega)
def QRe_freshAnd (v3 : Int32) (o0 : cf_O) (o1 : cf_O) (o2 : cf_O) (r : (Int32 × cf_O)) : Prop := ((0 : Int) ≤ r.1.toInt ∧ r.1.toInt ≤ 417) ∧ (okO I_Gr r.2) ∧ (Fr (fr_M [2, 3] [4, 5, 6, 8, 9] []) o2 r.2) ∧ (Fan (o1.2.1 4 v3.toNatClampNeg).toInt (o1.2.1 5 v3.toNatClampNeg).toInt r.1.toInt ((o2.1 0).toInt + 1) (o2.1 2).toInt (r.2.1 2).toInt (o0.2.1 4) (o2.2.1 4) (o2.2.1 5) (o2.2.1 8) (o2.2.1 9) (r.2.2.1 4) (r.2.2.1 5) (r.2.2.1 8) (r.2.2.1 9)) ∧ True
set_option maxHeartbeats 4000000 in
set_option maxRecDepth 100000 in
theorem sRe_freshAnd (v3 : Int32) (o0 : cf_O) (o1 : cf_O) (o2 : cf_O) (k_o0 : okO I_Re o0) (k_o1 : okO I_Gr o1) (k_o2 : okO I_Gr o2) (i_v3 : (1 : Int) ≤ v3.toInt ∧ v3.toInt ≤ 208) : tt (fRe_freshAnd v3 o0 o1 o2) (QRe_freshAnd v3 o0 o1 o2) := by
  have r_o0 : Fr (fr_M [] [] []) o0 o0 := fr_rfl
  have r_o1 : Fr (fr_M [] [] []) o1 o1 := fr_rfl
  have r_o2 : Fr (fr_M [2, 3] [4, 5, 6, 8, 9] []) o2 o2 := fr_rfl
  unfold fRe_freshAnd fRe_freshAnd_0
  have g_o0_0 : (0 : Int) ≤ (o0.1 0).toInt ∧ (o0.1 0).toInt ≤ 0 := k_o0.1 0
  have g_o0_2 : (0 : Int) ≤ (o0.1 2).toInt ∧ (o0.1 2).toInt ≤ 0 := k_o0.1 2
  have g_o1_0 : (0 : Int) ≤ (o1.1 0).toInt ∧ (o1.1 0).toInt ≤ 8 := k_o1.1 0
  have g_o1_2 : (0 : Int) ≤ (o1.1 2).toInt ∧ (o1.1 2).toInt ≤ 200 := k_o1.1 2
  have g_o2_0 : (0 : Int) ≤ (o2.1 0).toInt ∧ (o2.1 0).toInt ≤ 8 := k_o2.1 0
  have g_o2_2 : (0 : Int) ≤ (o2.1 2).toInt ∧ (o2.1 2).toInt ≤ 200 := k_o2.1 2
  refine tt_n (ix_ok i_v3 (by decide) (by decide)) ?_
  refine tt_kv (P := fun z => ((0 : Int) ≤ z.toInt ∧ z.toInt ≤ 417) ∧ z.toInt = (o1.2.1 4 v3.toNatClampNeg).toInt) ⟨(k_o1.2 4 _), rfl⟩ (fun x1 qi2 => ?_)
  obtain ⟨i2, ei2⟩ := qi2
  refine tt_b (sRe_freshOf _ _ k_o0 i2) (fun q3 hq3 => ?_)
  obtain ⟨i_q3, zq3_0, -⟩ := hq3
  refine tt_n (ix_ok i_v3 (by decide) (by decide)) ?_
  refine tt_kv (P := fun z => ((0 : Int) ≤ z.toInt ∧ z.toInt ≤ 417) ∧ z.toInt = (o1.2.1 5 v3.toNatClampNeg).toInt) ⟨(k_o1.2 5 _), rfl⟩ (fun x4 qi5 => ?_)
  obtain ⟨i5, ei5⟩ := qi5
  refine tt_b (sRe_freshOf _ _ k_o0 i5) (fun q6 hq6 => ?_)
  obtain ⟨i_q6, zq6_0, -⟩ := hq6
  refine tt_b (sGr_and _ _ _ k_o2 i_q3 i_q6) (fun q7 hq7 => ?_)
  obtain ⟨i_q7, k_q7_2, n_q7_2, zq7_0, -⟩ := hq7
  have r_q7_2 := fr_tr r_o2 n_q7_2 rfl rfl rfl
  have e_q7_2_0 : (q7.2.1 0).toInt = (o2.1 0).toInt := congrArg Int32.toInt (n_q7_2.1 0 rfl)
  have g_q7_2_0 : (0 : Int) ≤ (q7.2.1 0).toInt ∧ (q7.2.1 0).toInt ≤ 8 := k_q7_2.1 0
  have g_q7_2_2 : (0 : Int) ≤ (q7.2.1 2).toInt ∧ (q7.2.1 2).toInt ≤ 200 := k_q7_2.1 2
  have p8 : Fan (o1.2.1 4 v3.toNatClampNeg).toInt (o1.2.1 5 v3.toNatClampNeg).toInt q7.1.toInt ((o2.1 0).toInt + 1) (o2.1 2).toInt (q7.2.1 2).toInt (o0.2.1 4) (o2.2.1 4) (o2.2.1 5) (o2.2.1 8) (o2.2.1 9) (q7.2.2.1 4) (q7.2.2.1 5) (q7.2.2.1 8) (q7.2.2.1 9) := by exact Fan_i zq3_0 zq6_0 (show Anc _ _ _ _ _ _ _ _ _ _ _ _ _ _ by assumption) (by omega) (by omega)
  exact tt_some ⟨i_q7, k_q7_2, r_q7_2, p8, trivial⟩
def QRe_makeReduced (o0 : cf_O) (o1 : cf_O) (o2 : cf_O) (o3 : cf_O) (r : (cf_O × cf_O)) : Prop := (okO I_Re r.1) ∧ (Fr (fr_M [] [0, 1, 4] []) o0 r.1) ∧ (okO I_Gr r.2) ∧ (Fr (fr_M [0, 1, 2, 3] [4, 5, 6, 7, 8, 9] []) o2 r.2) ∧ (GI ((r.2.1 0).toInt + 1) (r.2.1 2).toInt (r.2.2.1 4) (r.2.2.1 5) (r.2.2.1 8) (r.2.2.1 9)) ∧ (No (o1.1 1).toInt (((r.2.1 0).toInt + 1) + (r.2.1 2).toInt) (r.2.2.1 7)) ∧ ((r.2.1 0).toInt = (o1.1 0).toInt) ∧ ((r.2.1 1).toInt = (o1.1 1).toInt) ∧ True
def HRe_makeReduced (yo0 : cf_O) (yo1 : cf_O) (yo2 : cf_O) (yo3 : cf_O) (n : Nat) : Prop := (∀ (v4 : Int32) (o0 : cf_O) (o1 : cf_O) (o2 : cf_O) (o3 : cf_O), (okO I_Re o0) → (Fr (fr_M [] [0, 1, 4] []) yo0 o0) → (okO I_Gr o1) → (Fr (fr_M [] [] []) yo1 o1) → (okO I_Gr o2) → (Fr (fr_M [0, 1, 2, 3] [4, 5, 6, 7, 8, 9] []) yo2 o2) → (okO I_Fu o3) → (Fr (fr_M [] [] []) yo3 o3) → ((1 : Int) ≤ v4.toInt ∧ v4.toInt ≤ 209) → ((1 : Int) ≤ (o3.1 0).toInt ∧ (o3.1 0).toInt ≤ 1) → (Gx ((o1.1 0).toInt + 1) (o1.1 2).toInt (sh ((o1.1 0).toInt + 1) (o1.2.1 4)) (sh ((o1.1 0).toInt + 1) (o1.2.1 5))) → (Lk (-1) ((o1.1 0).toInt + 1) (o1.1 2).toInt (o1.1 1).toInt (o1.2.1 7) (sh ((o1.1 0).toInt + 1) (o1.2.1 4)) (sh ((o1.1 0).toInt + 1) (o1.2.1 5)) (cu (((o1.1 0).toInt + 1) + (o1.1 2).toInt) (o0.2.1 0)) (cu (((o1.1 0).toInt + 1) + (o1.1 2).toInt) (o0.2.1 1))) → (GI ((o2.1 0).toInt + 1) (o2.1 2).toInt (o2.2.1 4) (o2.2.1 5) (o2.2.1 8) (o2.2.1 9)) → (Rn v4.toInt ((o1.1 0).toInt + 1) (((o2.1 0).toInt + 1) + (o2.1 2).toInt) (cu (((o1.1 0).toInt + 1) + (o1.1 2).toInt) (o0.2.1 0)) (o0.2.1 4)) → (No (o1.1 1).toInt (((o1.1 0).toInt + 1) + (o1.1 2).toInt) (o1.2.1 7)) → ((o1.1 0).toInt < v4.toInt) → (v4.toInt ≤ 1 + (o1.1 0).toInt + (o1.1 2).toInt) → ((o2.1 0).toInt = (o1.1 0).toInt) → ((o2.1 1).toInt = (o1.1 1).toInt) → 0 + (209 - v4.toInt) * 2 < (n : Int) → tt (gRe_makeReduced n 0 v4 o0 o1 o2 o3) (QRe_makeReduced yo0 yo1 yo2 yo3))
set_option maxHeartbeats 4000000 in
set_option maxRecDepth 100000 in
theorem tRe_makeReduced_14 {yo0 : cf_O} {yo1 : cf_O} {yo2 : cf_O} {yo3 : cf_O} {n : Nat} (H : HRe_makeReduced yo0 yo1 yo2 yo3 n) (v4 : Int32) (o0 : cf_O) (o1 : cf_O) (o2 : cf_O) (o3 : cf_O) (k_o0 : okO I_Re o0) (r_o0 : Fr (fr_M [] [0, 1, 4] []) yo0 o0) (k_o1 : okO I_Gr o1) (r_o1 : Fr (fr_M [] [] []) yo1 o1) (k_o2 : okO I_Gr o2) (r_o2 : Fr (fr_M [0, 1, 2, 3] [4, 5, 6, 7, 8, 9] []) yo2 o2) (k_o3 : okO I_Fu o3) (r_o3 : Fr (fr_M [] [] []) yo3 o3) (i_v4 : (1 : Int) ≤ v4.toInt ∧ v4.toInt ≤ 209) (f_o3_0 : (1 : Int) ≤ (o3.1 0).toInt ∧ (o3.1 0).toInt ≤ 1) (x_0 : Gx ((o1.1 0).toInt + 1) (o1.1 2).toInt (sh ((o1.1 0).toInt + 1) (o1.2.1 4)) (sh ((o1.1 0).toInt + 1) (o1.2.1 5))) (x_1 : Lk (-1) ((o1.1 0).toInt + 1) (o1.1 2).toInt (o1.1 1).toInt (o1.2.1 7) (sh ((o1.1 0).toInt + 1) (o1.2.1 4)) (sh ((o1.1 0).toInt + 1) (o1.2.1 5)) (cu (((o1.1 0).toInt + 1) + (o1.1 2).toInt) (o0.2.1 0)) (cu (((o1.1 0).toInt + 1) + (o1.1 2).toInt) (o0.2.1 1))) (x_2 : GI ((o2.1 0).toInt + 1) (o2.1 2).toInt (o2.2.1 4) (o2.2.1 5) (o2.2.1 8) (o2.2.1 9)) (x_3 : Rn v4.toInt ((o1.1 0).toInt + 1) (((o2.1 0).toInt + 1) + (o2.1 2).toInt) (cu (((o1.1 0).toInt + 1) + (o1.1 2).toInt) (o0.2.1 0)) (o0.2.1 4)) (x_4 : No (o1.1 1).toInt (((o1.1 0).toInt + 1) + (o1.1 2).toInt) (o1.2.1 7)) (x_5 : (o1.1 0).toInt < v4.toInt) (x_6 : v4.toInt ≤ 1 + (o1.1 0).toInt + (o1.1 2).toInt) (x_7 : (o2.1 0).toInt = (o1.1 0).toInt) (x_8 : (o2.1 1).toInt = (o1.1 1).toInt) (hm : 0 + (209 - v4.toInt) * 2 ≤ (n : Int)) : tt (fRe_makeReduced_14 (gRe_makeReduced n) v4 o0 o1 o2 o3) (QRe_makeReduced yo0 yo1 yo2 yo3) := by
  unfold fRe_makeReduced_14
  have g_o0_0 : (0 : Int) ≤ (o0.1 0).toInt ∧ (o0.1 0).toInt ≤ 0 := k_o0.1 0
  have ey_o0_0 : (o0.1 0).toInt = (yo0.1 0).toInt := congrArg Int32.toInt (r_o0.1 0 rfl)
  have g_o0_1 : (0 : Int) ≤ (o0.1 1).toInt ∧ (o0.1 1).toInt ≤ 0 := k_o0.1 1
  have ey_o0_1 : (o0.1 1).toInt = (yo0.1 1).toInt := congrArg Int32.toInt (r_o0.1 1 rfl)
  have g_o0_2 : (0 : Int) ≤ (o0.1 2).toInt ∧ (o0.1 2).toInt ≤ 0 := k_o0.1 2
  have ey_o0_2 : (o0.1 2).toInt = (yo0.1 2).toInt := congrArg Int32.toInt (r_o0.1 2 rfl)
  have g_o0_7 : (0 : Int) ≤ (o0.1 7).toInt ∧ (o0.1 7).toInt ≤ 210 := k_o0.1 7
  have ey_o0_7 : (o0.1 7).toInt = (yo0.1 7).toInt := congrArg Int32.toInt (r_o0.1 7 rfl)
  have g_o1_0 : (0 : Int) ≤ (o1.1 0).toInt ∧ (o1.1 0).toInt ≤ 8 := k_o1.1 0
  have ey_o1_0 : (o1.1 0).toInt = (yo1.1 0).toInt := congrArg Int32.toInt (r_o1.1 0 rfl)
  have g_o1_1 : (0 : Int) ≤ (o1.1 1).toInt ∧ (o1.1 1).toInt ≤ 6 := k_o1.1 1
  have ey_o1_1 : (o1.1 1).toInt = (yo1.1 1).toInt := congrArg Int32.toInt (r_o1.1 1 rfl)
  have g_o1_2 : (0 : Int) ≤ (o1.1 2).toInt ∧ (o1.1 2).toInt ≤ 200 := k_o1.1 2
  have ey_o1_2 : (o1.1 2).toInt = (yo1.1 2).toInt := congrArg Int32.toInt (r_o1.1 2 rfl)
  have g_o1_7 : (0 : Int) ≤ (o1.1 7).toInt ∧ (o1.1 7).toInt ≤ 0 := k_o1.1 7
  have ey_o1_7 : (o1.1 7).toInt = (yo1.1 7).toInt := congrArg Int32.toInt (r_o1.1 7 rfl)
  have g_o2_0 : (0 : Int) ≤ (o2.1 0).toInt ∧ (o2.1 0).toInt ≤ 8 := k_o2.1 0
  have g_o2_1 : (0 : Int) ≤ (o2.1 1).toInt ∧ (o2.1 1).toInt ≤ 6 := k_o2.1 1
  have g_o2_2 : (0 : Int) ≤ (o2.1 2).toInt ∧ (o2.1 2).toInt ≤ 200 := k_o2.1 2
  have g_o2_7 : (0 : Int) ≤ (o2.1 7).toInt ∧ (o2.1 7).toInt ≤ 0 := k_o2.1 7
  have ey_o2_7 : (o2.1 7).toInt = (yo2.1 7).toInt := congrArg Int32.toInt (r_o2.1 7 rfl)
  have ey_o3_0 : (o3.1 0).toInt = (yo3.1 0).toInt := congrArg Int32.toInt (r_o3.1 0 rfl)
  have g_o3_1 : (0 : Int) ≤ (o3.1 1).toInt ∧ (o3.1 1).toInt ≤ 0 := k_o3.1 1
  have ey_o3_1 : (o3.1 1).toInt = (yo3.1 1).toInt := congrArg Int32.toInt (r_o3.1 1 rfl)
  have g_o3_2 : (0 : Int) ≤ (o3.1 2).toInt ∧ (o3.1 2).toInt ≤ 0 := k_o3.1 2
  have ey_o3_2 : (o3.1 2).toInt = (yo3.1 2).toInt := congrArg Int32.toInt (r_o3.1 2 rfl)
  have g_o3_7 : (0 : Int) ≤ (o3.1 7).toInt ∧ (o3.1 7).toInt ≤ 0 := k_o3.1 7
  have ey_o3_7 : (o3.1 7).toInt = (yo3.1 7).toInt := congrArg Int32.toInt (r_o3.1 7 rfl)
  try unfold fGr_size
  try unfold fGr_size_0
  refine tt_bkv (P := fun z => ((1 : Int) ≤ z.toInt ∧ z.toInt ≤ 9) ∧ z.toInt = 1 + (o1.1 0).toInt) ⟨iv_add (show (1 : Int) ≤ (1 : Int32).toInt ∧ (1 : Int32).toInt ≤ 1 by decide) (k_o1.1 0) (by decide) (by decide) (by decide) (by decide), iq_add (show (1 : Int) ≤ (1 : Int32).toInt ∧ (1 : Int32).toInt ≤ 1 by decide) (k_o1.1 0) (by decide) (by decide)⟩ (fun x1 qi2 => ?_)
  obtain ⟨i2, ei2⟩ := qi2
  refine tt_bkv (P := fun z => ((1 : Int) ≤ z.toInt ∧ z.toInt ≤ 209) ∧ z.toInt = x1.toInt + (o1.1 2).toInt) ⟨iv_add i2 (k_o1.1 2) (by decide) (by decide) (by decide) (by decide), iq_add i2 (k_o1.1 2) (by decide) (by decide)⟩ (fun x3 qi4 => ?_)
  obtain ⟨i4, ei4⟩ := qi4
  refine tt_bs ?_
  refine tt_if (fun c5 => ?_) (fun c5 => ?_)
  · have wc5 : x3.toInt ≤ v4.toInt := c_le c5
    refine tt_b (sRe_takeResults _ _ _ k_o0 k_o1 k_o2) (fun q6 hq6 => ?_)
    obtain ⟨k_q6, n_q6, zq6_0, -⟩ := hq6
    have r_q6 := fr_tr r_o2 n_q6 rfl rfl rfl
    have e_q6_0 : (q6.1 0).toInt = (o2.1 0).toInt := congrArg Int32.toInt (n_q6.1 0 rfl)
    have g_q6_0 : (0 : Int) ≤ (q6.1 0).toInt ∧ (q6.1 0).toInt ≤ 8 := k_q6.1 0
    have e_q6_1 : (q6.1 1).toInt = (o2.1 1).toInt := congrArg Int32.toInt (n_q6.1 1 rfl)
    have g_q6_1 : (0 : Int) ≤ (q6.1 1).toInt ∧ (q6.1 1).toInt ≤ 6 := k_q6.1 1
    have e_q6_2 : (q6.1 2).toInt = (o2.1 2).toInt := congrArg Int32.toInt (n_q6.1 2 rfl)
    have g_q6_2 : (0 : Int) ≤ (q6.1 2).toInt ∧ (q6.1 2).toInt ≤ 200 := k_q6.1 2
    have e_q6_7 : (q6.1 7).toInt = (o2.1 7).toInt := congrArg Int32.toInt (n_q6.1 7 rfl)
    have g_q6_7 : (0 : Int) ≤ (q6.1 7).toInt ∧ (q6.1 7).toInt ≤ 0 := k_q6.1 7
    have u7 : GI ((q6.1 0).toInt + 1) (q6.1 2).toInt (q6.2.1 4) (q6.2.1 5) (q6.2.1 8) (q6.2.1 9) := by rw [n_q6.1 0 rfl, n_q6.1 2 rfl, n_q6.2.1 4 rfl, n_q6.2.1 5 rfl, n_q6.2.1 8 rfl, n_q6.2.1 9 rfl]; exact x_2
    have u8 : Rn v4.toInt ((o1.1 0).toInt + 1) (((q6.1 0).toInt + 1) + (q6.1 2).toInt) (cu (((o1.1 0).toInt + 1) + (o1.1 2).toInt) (o0.2.1 0)) (o0.2.1 4) := by rw [n_q6.1 0 rfl, n_q6.1 2 rfl]; exact x_3
    have p9 : No (yo1.1 1).toInt (((q6.1 0).toInt + 1) + (q6.1 2).toInt) (q6.2.1 7) := by rw [← r_o1.1 1 rfl]; have tr := (show Trs _ _ _ _ _ by assumption) (((o2.1 0).toInt + 1) + (o2.1 2).toInt) (Fn_i x_1 x_3 (No_i x_4 (by omega)) (fun k => (k_o1.2 7 k).1)); exact No_w tr (by omega) (by omega)
    exact tt_some ⟨k_o0, r_o0, k_q6, r_q6, u7, p9, (show (q6.1 0).toInt = (yo1.1 0).toInt by omega), (show (q6.1 1).toInt = (yo1.1 1).toInt by omega), trivial⟩
  · have wc5 : v4.toInt < x3.toInt := c_nle c5
    have i10 : (1 : Int) ≤ v4.toInt ∧ v4.toInt ≤ 208 := nr_nlel c5 i_v4 i4 (by decide) (by decide)
    have i11 : (2 : Int) ≤ x3.toInt ∧ x3.toInt ≤ 209 := nr_nler c5 i_v4 i4 (by decide) (by decide)
    refine tt_n (ix_ok i10 (by decide) (by decide)) ?_
    refine tt_kv (P := fun z => ((0 : Int) ≤ z.toInt ∧ z.toInt ≤ 1) ∧ z.toInt = (o0.2.1 0 v4.toNatClampNeg).toInt) ⟨(k_o0.2 0 _), rfl⟩ (fun x12 qi13 => ?_)
    obtain ⟨i13, ei13⟩ := qi13
    refine tt_if (fun c14 => ?_) (fun c14 => ?_)
    · have wc14 : x12.toInt = (0 : Int) := c_eq c14
      have i15 : (0 : Int) ≤ x12.toInt ∧ x12.toInt ≤ 0 := nr_eql c14 i13 (show (0 : Int) ≤ (0 : Int32).toInt ∧ (0 : Int32).toInt ≤ 0 by decide) (by decide) (by decide)
      try unfold fRe_makeReduced_73
      refine tt_kv (P := fun z => ((2 : Int) ≤ z.toInt ∧ z.toInt ≤ 209) ∧ z.toInt = v4.toInt + 1) ⟨iv_add i10 (show (1 : Int) ≤ (1 : Int32).toInt ∧ (1 : Int32).toInt ≤ 1 by decide) (by decide) (by decide) (by decide) (by decide), iq_add i10 (show (1 : Int) ≤ (1 : Int32).toInt ∧ (1 : Int32).toInt ≤ 1 by decide) (by decide) (by decide)⟩ (fun x16 qi17 => ?_)
      obtain ⟨i17, ei17⟩ := qi17
      have p18 : Rn x16.toInt ((o1.1 0).toInt + 1) (((o2.1 0).toInt + 1) + (o2.1 2).toInt) (cu (((o1.1 0).toInt + 1) + (o1.1 2).toInt) (o0.2.1 0)) (o0.2.1 4) := by exact Rn_k (i := v4.toNatClampNeg) x_3 (by omega) (by rw [tn_n]; omega) (by omega) (by rw [cu_e (by rw [tn_n]; omega)]; omega)
      exact H _ _ _ _ _ k_o0 r_o0 k_o1 r_o1 k_o2 r_o2 k_o3 r_o3 (iv_w (a := 1) (b := 209) (by decide) (by decide) i17) f_o3_0 x_0 x_1 x_2 p18 x_4 (show (o1.1 0).toInt < x16.toInt by omega) (show x16.toInt ≤ 1 + (o1.1 0).toInt + (o1.1 2).toInt by omega) (show (o2.1 0).toInt = (o1.1 0).toInt by omega) (show (o2.1 1).toInt = (o1.1 1).toInt by omega) (show 0 + (209 - x16.toInt) * 2 < (n : Int) by omega)
    · have wc14 : ¬ x12.toInt = (0 : Int) := c_ne c14
      have i19 : (1 : Int) ≤ x12.toInt ∧ x12.toInt ≤ 1 := nr_nela c14 i13 (show (0 : Int) ≤ (0 : Int32).toInt ∧ (0 : Int32).toInt ≤ 0 by decide) (by decide) (by decide)
      refine tt_b (sRe_literalAlike _ _ _ _ k_o0 k_o1 k_o3 i10 f_o3_0 (show v4.toInt < 1 + (o1.1 0).toInt + (o1.1 2).toInt by omega)) (fun q20 hq20 => ?_)
      obtain ⟨i_q20, zq20_0, -⟩ := hq20
      refine tt_if (fun c21 => ?_) (fun c21 => ?_)
      · have wc21 : q20.toInt = ((-1) : Int) := c_eq c21
        have i22 : ((-1) : Int) ≤ q20.toInt ∧ q20.toInt ≤ (-1) := nr_eql c21 i_q20 (show ((-1) : Int) ≤ ((-1) : Int32).toInt ∧ ((-1) : Int32).toInt ≤ (-1) by decide) (by decide) (by decide)
        refine tt_b (sRe_freshAnd _ _ _ _ k_o0 k_o1 k_o2 i10) (fun q23 hq23 => ?_)
        obtain ⟨i_q23, k_q23_2, n_q23_2, zq23_0, -⟩ := hq23
        have r_q23_2 := fr_tr r_o2 n_q23_2 rfl rfl rfl
        have e_q23_2_0 : (q23.2.1 0).toInt = (o2.1 0).toInt := congrArg Int32.toInt (n_q23_2.1 0 rfl)
        have g_q23_2_0 : (0 : Int) ≤ (q23.2.1 0).toInt ∧ (q23.2.1 0).toInt ≤ 8 := k_q23_2.1 0
        have e_q23_2_1 : (q23.2.1 1).toInt = (o2.1 1).toInt := congrArg Int32.toInt (n_q23_2.1 1 rfl)
        have g_q23_2_1 : (0 : Int) ≤ (q23.2.1 1).toInt ∧ (q23.2.1 1).toInt ≤ 6 := k_q23_2.1 1
        have g_q23_2_2 : (0 : Int) ≤ (q23.2.1 2).toInt ∧ (q23.2.1 2).toInt ≤ 200 := k_q23_2.1 2
        have e_q23_2_7 : (q23.2.1 7).toInt = (o2.1 7).toInt := congrArg Int32.toInt (n_q23_2.1 7 rfl)
        have g_q23_2_7 : (0 : Int) ≤ (q23.2.1 7).toInt ∧ (q23.2.1 7).toInt ≤ 0 := k_q23_2.1 7
        have t24 := (Fan_s (g := (v4.toInt - ((o1.1 0).toInt + 1)).toNat) (j := v4.toNatClampNeg) (show Fan _ _ _ _ _ _ _ _ _ _ _ _ _ _ _ by assumption) x_2 x_3 x_1 x_0 (by omega) (by rw [tn_n]; omega) (by omega) (by rw [sh_e (j := v4.toNatClampNeg) (by rw [tn_n]; omega)]) (by rw [sh_e (j := v4.toNatClampNeg) (by rw [tn_n]; omega)]) (by rw [cu_e (by rw [tn_n]; omega)]; omega) (by omega))
        try unfold fRe_makeReduced_72
        refine tt_n (ix_ok i10 (by decide) (by decide)) ?_
        refine tt_ko ?_
        have k25 := ok_xp (k := 4) (i := v4.toNatClampNeg) (v := q23.1) k_o0 i_q23
        have r26 := fr_xp (k := 4) (i := v4.toNatClampNeg) (v := q23.1) r_o0 rfl
        try unfold fRe_makeReduced_73
        refine tt_kv (P := fun z => ((2 : Int) ≤ z.toInt ∧ z.toInt ≤ 209) ∧ z.toInt = v4.toInt + 1) ⟨iv_add i10 (show (1 : Int) ≤ (1 : Int32).toInt ∧ (1 : Int32).toInt ≤ 1 by decide) (by decide) (by decide) (by decide) (by decide), iq_add i10 (show (1 : Int) ≤ (1 : Int32).toInt ∧ (1 : Int32).toInt ≤ 1 by decide) (by decide) (by decide)⟩ (fun x27 qi28 => ?_)
        obtain ⟨i28, ei28⟩ := qi28
        have p29 : GI ((q23.2.1 0).toInt + 1) (q23.2.1 2).toInt (q23.2.2.1 4) (q23.2.2.1 5) (q23.2.2.1 8) (q23.2.2.1 9) := by exact GI_b ((Fan_s (g := (v4.toInt - ((o1.1 0).toInt + 1)).toNat) (j := v4.toNatClampNeg) (show Fan _ _ _ _ _ _ _ _ _ _ _ _ _ _ _ by assumption) x_2 x_3 x_1 x_0 (by omega) (by rw [tn_n]; omega) (by omega) (by rw [sh_e (j := v4.toNatClampNeg) (by rw [tn_n]; omega)]) (by rw [sh_e (j := v4.toNatClampNeg) (by rw [tn_n]; omega)]) (by rw [cu_e (by rw [tn_n]; omega)]; omega) (by omega))).1 (by omega)
        have p30 : Rn x27.toInt ((o1.1 0).toInt + 1) (((q23.2.1 0).toInt + 1) + (q23.2.1 2).toInt) (cu (((o1.1 0).toInt + 1) + (o1.1 2).toInt) (o0.2.1 0)) (upd (o0.2.1 4) (v4.toNatClampNeg) q23.1) := by exact Rn_s (Rn_w x_3 (by omega)) (by omega) (by rw [tn_n]; omega) (by omega)
        exact H _ _ _ _ _ k25 r26 k_o1 r_o1 k_q23_2 r_q23_2 k_o3 r_o3 (iv_w (a := 1) (b := 209) (by decide) (by decide) i28) f_o3_0 x_0 x_1 p29 p30 x_4 (show (o1.1 0).toInt < x27.toInt by omega) (show x27.toInt ≤ 1 + (o1.1 0).toInt + (o1.1 2).toInt by omega) (show (q23.2.1 0).toInt = (o1.1 0).toInt by omega) (show (q23.2.1 1).toInt = (o1.1 1).toInt by omega) (show 0 + (209 - x27.toInt) * 2 < (n : Int) by omega)
      · have wc21 : ¬ q20.toInt = ((-1) : Int) := c_ne c21
        have i31 : (0 : Int) ≤ q20.toInt ∧ q20.toInt ≤ 415 := nr_nela c21 i_q20 (show ((-1) : Int) ≤ ((-1) : Int32).toInt ∧ ((-1) : Int32).toInt ≤ (-1) by decide) (by decide) (by decide)
        refine tt_b (sRe_freshOf _ _ k_o0 (iv_w (a := 0) (b := 417) (by decide) (by decide) i31)) (fun q32 hq32 => ?_)
        obtain ⟨i_q32, zq32_0, -⟩ := hq32
        try unfold fRe_makeReduced_72
        refine tt_n (ix_ok i10 (by decide) (by decide)) ?_
        refine tt_ko ?_
        have k33 := ok_xp (k := 4) (i := v4.toNatClampNeg) (v := q32) k_o0 i_q32
        have r34 := fr_xp (k := 4) (i := v4.toNatClampNeg) (v := q32) r_o0 rfl
        try unfold fRe_makeReduced_73
        refine tt_kv (P := fun z => ((2 : Int) ≤ z.toInt ∧ z.toInt ≤ 209) ∧ z.toInt = v4.toInt + 1) ⟨iv_add i10 (show (1 : Int) ≤ (1 : Int32).toInt ∧ (1 : Int32).toInt ≤ 1 by decide) (by decide) (by decide) (by decide) (by decide), iq_add i10 (show (1 : Int) ≤ (1 : Int32).toInt ∧ (1 : Int32).toInt ≤ 1 by decide) (by decide) (by decide)⟩ (fun x35 qi36 => ?_)
        obtain ⟨i36, ei36⟩ := qi36
        have p37 : Rn x35.toInt ((o1.1 0).toInt + 1) (((o2.1 0).toInt + 1) + (o2.1 2).toInt) (cu (((o1.1 0).toInt + 1) + (o1.1 2).toInt) (o0.2.1 0)) (upd (o0.2.1 4) (v4.toNatClampNeg) q32) := by exact Rn_s x_3 (by omega) (by rw [tn_n]; omega) (Rn_lik x_3 (show Lrc _ _ _ _ by assumption) rfl (by omega) (show Fo _ _ _ by assumption) (by omega) (by omega))
        exact H _ _ _ _ _ k33 r34 k_o1 r_o1 k_o2 r_o2 k_o3 r_o3 (iv_w (a := 1) (b := 209) (by decide) (by decide) i36) f_o3_0 x_0 x_1 x_2 p37 x_4 (show (o1.1 0).toInt < x35.toInt by omega) (show x35.toInt ≤ 1 + (o1.1 0).toInt + (o1.1 2).toInt by omega) (show (o2.1 0).toInt = (o1.1 0).toInt by omega) (show (o2.1 1).toInt = (o1.1 1).toInt by omega) (show 0 + (209 - x35.toInt) * 2 < (n : Int) by omega)
set_option maxHeartbeats 4000000 in
set_option maxRecDepth 100000 in
theorem hRe_makeReduced (yo0 : cf_O) (yo1 : cf_O) (yo2 : cf_O) (yo3 : cf_O) : ∀ n, HRe_makeReduced yo0 yo1 yo2 yo3 n := by
  intro n
  induction n with
  | zero => exact (fun v4 o0 o1 o2 o3 k_o0 r_o0 k_o1 r_o1 k_o2 r_o2 k_o3 r_o3 i_v4 f_o3_0 x_0 x_1 x_2 x_3 x_4 x_5 x_6 x_7 x_8 hm => by exact absurd (show 0 + (209 - v4.toInt) * 2 < (0 : Int) from hm) (by omega))
  | succ n ih => exact (fun v4 o0 o1 o2 o3 k_o0 r_o0 k_o1 r_o1 k_o2 r_o2 k_o3 r_o3 i_v4 f_o3_0 x_0 x_1 x_2 x_3 x_4 x_5 x_6 x_7 x_8 hm => tRe_makeReduced_14 ih v4 o0 o1 o2 o3 k_o0 r_o0 k_o1 r_o1 k_o2 r_o2 k_o3 r_o3 i_v4 f_o3_0 x_0 x_1 x_2 x_3 x_4 x_5 x_6 x_7 x_8 (by omega))
set_option maxHeartbeats 4000000 in
set_option maxRecDepth 100000 in
theorem sRe_makeReduced (o0 : cf_O) (o1 : cf_O) (o2 : cf_O) (o3 : cf_O) (k_o0 : okO I_Re o0) (k_o1 : okO I_Gr o1) (k_o2 : okO I_Gr o2) (k_o3 : okO I_Fu o3) (f_o3_0 : (1 : Int) ≤ (o3.1 0).toInt ∧ (o3.1 0).toInt ≤ 1) (x_0 : Gx ((o1.1 0).toInt + 1) (o1.1 2).toInt (sh ((o1.1 0).toInt + 1) (o1.2.1 4)) (sh ((o1.1 0).toInt + 1) (o1.2.1 5))) (x_1 : No (o1.1 1).toInt (((o1.1 0).toInt + 1) + (o1.1 2).toInt) (o1.2.1 7)) : tt (fRe_makeReduced o0 o1 o2 o3) (QRe_makeReduced o0 o1 o2 o3) := by
  have H := hRe_makeReduced o0 o1 o2 o3 cfFU
  have hm : (419 : Int) ≤ (cfFU : Nat) := by decide
  have r_o0 : Fr (fr_M [] [0, 1, 4] []) o0 o0 := fr_rfl
  have r_o1 : Fr (fr_M [] [] []) o1 o1 := fr_rfl
  have r_o2 : Fr (fr_M [0, 1, 2, 3] [4, 5, 6, 7, 8, 9] []) o2 o2 := fr_rfl
  have r_o3 : Fr (fr_M [] [] []) o3 o3 := fr_rfl
  unfold fRe_makeReduced fRe_makeReduced_0
  have g_o0_0 : (0 : Int) ≤ (o0.1 0).toInt ∧ (o0.1 0).toInt ≤ 0 := k_o0.1 0
  have g_o0_1 : (0 : Int) ≤ (o0.1 1).toInt ∧ (o0.1 1).toInt ≤ 0 := k_o0.1 1
  have g_o0_2 : (0 : Int) ≤ (o0.1 2).toInt ∧ (o0.1 2).toInt ≤ 0 := k_o0.1 2
  have g_o0_7 : (0 : Int) ≤ (o0.1 7).toInt ∧ (o0.1 7).toInt ≤ 210 := k_o0.1 7
  have g_o1_0 : (0 : Int) ≤ (o1.1 0).toInt ∧ (o1.1 0).toInt ≤ 8 := k_o1.1 0
  have g_o1_1 : (0 : Int) ≤ (o1.1 1).toInt ∧ (o1.1 1).toInt ≤ 6 := k_o1.1 1
  have g_o1_2 : (0 : Int) ≤ (o1.1 2).toInt ∧ (o1.1 2).toInt ≤ 200 := k_o1.1 2
  have g_o1_7 : (0 : Int) ≤ (o1.1 7).toInt ∧ (o1.1 7).toInt ≤ 0 := k_o1.1 7
  have g_o2_0 : (0 : Int) ≤ (o2.1 0).toInt ∧ (o2.1 0).toInt ≤ 8 := k_o2.1 0
  have g_o2_1 : (0 : Int) ≤ (o2.1 1).toInt ∧ (o2.1 1).toInt ≤ 6 := k_o2.1 1
  have g_o2_2 : (0 : Int) ≤ (o2.1 2).toInt ∧ (o2.1 2).toInt ≤ 200 := k_o2.1 2
  have g_o2_7 : (0 : Int) ≤ (o2.1 7).toInt ∧ (o2.1 7).toInt ≤ 0 := k_o2.1 7
  have g_o3_1 : (0 : Int) ≤ (o3.1 1).toInt ∧ (o3.1 1).toInt ≤ 0 := k_o3.1 1
  have g_o3_2 : (0 : Int) ≤ (o3.1 2).toInt ∧ (o3.1 2).toInt ≤ 0 := k_o3.1 2
  have g_o3_7 : (0 : Int) ≤ (o3.1 7).toInt ∧ (o3.1 7).toInt ≤ 0 := k_o3.1 7
  refine tt_b (sRe_begin _ _ _ k_o0 k_o1 k_o2 x_0 x_1) (fun q1 hq1 => ?_)
  obtain ⟨k_q1_1, n_q1_1, k_q1_2, n_q1_2, f_q1_2_2, f_q1_2_3, zq1_0, zq1_1, zq1_2, zq1_3, zq1_4, zq1_5, -⟩ := hq1
  have r_q1_1 := fr_tr r_o0 n_q1_1 rfl rfl rfl
  have e_q1_1_0 : (q1.1.1 0).toInt = (o0.1 0).toInt := congrArg Int32.toInt (n_q1_1.1 0 rfl)
  have g_q1_1_0 : (0 : Int) ≤ (q1.1.1 0).toInt ∧ (q1.1.1 0).toInt ≤ 0 := k_q1_1.1 0
  have e_q1_1_1 : (q1.1.1 1).toInt = (o0.1 1).toInt := congrArg Int32.toInt (n_q1_1.1 1 rfl)
  have g_q1_1_1 : (0 : Int) ≤ (q1.1.1 1).toInt ∧ (q1.1.1 1).toInt ≤ 0 := k_q1_1.1 1
  have e_q1_1_2 : (q1.1.1 2).toInt = (o0.1 2).toInt := congrArg Int32.toInt (n_q1_1.1 2 rfl)
  have g_q1_1_2 : (0 : Int) ≤ (q1.1.1 2).toInt ∧ (q1.1.1 2).toInt ≤ 0 := k_q1_1.1 2
  have e_q1_1_7 : (q1.1.1 7).toInt = (o0.1 7).toInt := congrArg Int32.toInt (n_q1_1.1 7 rfl)
  have g_q1_1_7 : (0 : Int) ≤ (q1.1.1 7).toInt ∧ (q1.1.1 7).toInt ≤ 210 := k_q1_1.1 7
  have r_q1_2 := fr_tr r_o2 n_q1_2 rfl rfl rfl
  have g_q1_2_0 : (0 : Int) ≤ (q1.2.1 0).toInt ∧ (q1.2.1 0).toInt ≤ 8 := k_q1_2.1 0
  have g_q1_2_1 : (0 : Int) ≤ (q1.2.1 1).toInt ∧ (q1.2.1 1).toInt ≤ 6 := k_q1_2.1 1
  have e_q1_2_7 : (q1.2.1 7).toInt = (o2.1 7).toInt := congrArg Int32.toInt (n_q1_2.1 7 rfl)
  have g_q1_2_7 : (0 : Int) ≤ (q1.2.1 7).toInt ∧ (q1.2.1 7).toInt ≤ 0 := k_q1_2.1 7
  have zq1_3 : (q1.2.1 0).toInt = (o1.1 0).toInt := zq1_3
  have zq1_4 : (q1.2.1 2).toInt = 0 := zq1_4
  have zq1_5 : (q1.2.1 1).toInt = (o1.1 1).toInt := zq1_5
  refine tt_kv (P := fun z => ((1 : Int) ≤ z.toInt ∧ z.toInt ≤ 9) ∧ z.toInt = (o1.1 0).toInt + 1) ⟨iv_add (k_o1.1 0) (show (1 : Int) ≤ (1 : Int32).toInt ∧ (1 : Int32).toInt ≤ 1 by decide) (by decide) (by decide) (by decide) (by decide), iq_add (k_o1.1 0) (show (1 : Int) ≤ (1 : Int32).toInt ∧ (1 : Int32).toInt ≤ 1 by decide) (by decide) (by decide)⟩ (fun x2 qi3 => ?_)
  obtain ⟨i3, ei3⟩ := qi3
  have p4 : Rn x2.toInt ((o1.1 0).toInt + 1) (((q1.2.1 0).toInt + 1) + (q1.2.1 2).toInt) (cu (((o1.1 0).toInt + 1) + (o1.1 2).toInt) (q1.1.2.1 0)) (q1.1.2.1 4) := by exact Rn_0 (show Od _ _ by assumption) (by omega) (by omega)
  exact H _ _ _ _ _ k_q1_1 r_q1_1 k_o1 r_o1 k_q1_2 r_q1_2 k_o3 r_o3 (iv_w (a := 1) (b := 209) (by decide) (by decide) i3) f_o3_0 x_0 zq1_0 zq1_2 p4 x_1 (show (o1.1 0).toInt < x2.toInt by omega) (show x2.toInt ≤ 1 + (o1.1 0).toInt + (o1.1 2).toInt by omega) (show (q1.2.1 0).toInt = (o1.1 0).toInt by omega) (show (q1.2.1 1).toInt = (o1.1 1).toInt by omega) (show 0 + (209 - x2.toInt) * 2 < ((cfFU : Nat) : Int) by omega)
def QRe_productAt (v1 : Int32) (v2 : Int32) (v3 : Int32) (o0 : cf_O) (r : (Int32)) : Prop := ((0 : Int) ≤ r.toInt ∧ r.toInt ≤ 80) ∧ True
def HRe_productAt (yv1 : Int32) (yv2 : Int32) (yv3 : Int32) (yo0 : cf_O) (n : Nat) : Prop := (∀ (v1 : Int32) (v3 : Int32) (v4 : Int32) (v5 : Int32) (v6 : Int32) (o0 : cf_O), (okO I_Re o0) → (Fr (fr_M [] [] []) yo0 o0) → ((0 : Int) ≤ v1.toInt ∧ v1.toInt ≤ 37) → ((0 : Int) ≤ v3.toInt ∧ v3.toInt ≤ 4) → (((-1) : Int) ≤ v5.toInt ∧ v5.toInt ≤ 80) → ((0 : Int) ≤ v6.toInt ∧ v6.toInt ≤ 81) → 0 + (81 - v6.toInt) * 2 < (n : Int) → tt (gRe_productAt n 0 v1 v3 v4 v5 v6 o0) (QRe_productAt yv1 yv2 yv3 yo0))
set_option maxHeartbeats 4000000 in
set_option maxRecDepth 100000 in
theorem tRe_productAt_16 {yv1 : Int32} {yv2 : Int32} {yv3 : Int32} {yo0 : cf_O} {n : Nat} (H : HRe_productAt yv1 yv2 yv3 yo0 n) (v1 : Int32) (v3 : Int32) (v4 : Int32) (v5 : Int32) (v6 : Int32) (o0 : cf_O) (k_o0 : okO I_Re o0) (r_o0 : Fr (fr_M [] [] []) yo0 o0) (i_v1 : (0 : Int) ≤ v1.toInt ∧ v1.toInt ≤ 37) (i_v3 : (0 : Int) ≤ v3.toInt ∧ v3.toInt ≤ 4) (i_v5 : ((-1) : Int) ≤ v5.toInt ∧ v5.toInt ≤ 80) (i_v6 : (0 : Int) ≤ v6.toInt ∧ v6.toInt ≤ 81) (hm : 0 + (81 - v6.toInt) * 2 ≤ (n : Int)) : tt (fRe_productAt_16 (gRe_productAt n) v1 v3 v4 v5 v6 o0) (QRe_productAt yv1 yv2 yv3 yo0) := by
  unfold fRe_productAt_16
  refine tt_n (ix_ok i_v3 (by decide) (by decide)) ?_
  refine tt_kv (P := fun z => (1 : Int) ≤ z.toInt ∧ z.toInt ≤ 81) (iv_pow1 i_v3 (by decide) (by decide)) (fun x1 i2 => ?_)
  refine tt_if (fun c3 => ?_) (fun c3 => ?_)
  · have i4 : (1 : Int) ≤ v6.toInt ∧ v6.toInt ≤ 81 := nr_ler c3 i2 i_v6 (by decide) (by decide)
    refine tt_kv (P := fun z => (0 : Int) ≤ z.toInt ∧ z.toInt ≤ 80) (iv_mx i_v5 (show (0 : Int) ≤ (0 : Int32).toInt ∧ (0 : Int32).toInt ≤ 0 by decide) (by decide) (by decide) (by decide) (by decide)) (fun x5 i6 => ?_)
    exact tt_some ⟨i6, trivial⟩
  · have i7 : (0 : Int) ≤ v6.toInt ∧ v6.toInt ≤ 80 := nr_nlel c3 i_v6 i2 (by decide) (by decide)
    refine tt_n (ix_ok i7 (by decide) (by decide)) ?_
    refine tt_kv (P := fun z => ((-2147483648) : Int) ≤ z.toInt ∧ z.toInt ≤ 2147483647) (k_o0.2 8 _) (fun x8 i9 => ?_)
    refine tt_kv (P := fun z => ((-2147483648) : Int) ≤ z.toInt ∧ z.toInt ≤ 2147483647) (iv_top _) (fun x10 i11 => ?_)
    refine tt_kv (P := fun z => (0 : Int) ≤ z.toInt ∧ z.toInt ≤ 1) (iv_and (show (1 : Int) ≤ (1 : Int32).toInt ∧ (1 : Int32).toInt ≤ 1 by decide) (by decide) (by decide) (by decide)) (fun x12 i13 => ?_)
    refine tt_if (fun c14 => ?_) (fun c14 => ?_)
    · have i15 : (0 : Int) ≤ x12.toInt ∧ x12.toInt ≤ 0 := nr_eql c14 i13 (show (0 : Int) ≤ (0 : Int32).toInt ∧ (0 : Int32).toInt ≤ 0 by decide) (by decide) (by decide)
      try unfold fRe_productAt_57
      try unfold fRe_productAt_58
      refine tt_if (fun c16 => ?_) (fun c16 => ?_)
      · try unfold fRe_productAt_92
        refine tt_kv (P := fun z => ((1 : Int) ≤ z.toInt ∧ z.toInt ≤ 81) ∧ z.toInt = v6.toInt + 1) ⟨iv_add i7 (show (1 : Int) ≤ (1 : Int32).toInt ∧ (1 : Int32).toInt ≤ 1 by decide) (by decide) (by decide) (by decide) (by decide), iq_add i7 (show (1 : Int) ≤ (1 : Int32).toInt ∧ (1 : Int32).toInt ≤ 1 by decide) (by decide) (by decide)⟩ (fun x17 qi18 => ?_)
        obtain ⟨i18, ei18⟩ := qi18
        exact H _ _ _ _ _ _ k_o0 r_o0 i_v1 i_v3 i_v5 (iv_w (a := 0) (b := 81) (by decide) (by decide) i18) (show 0 + (81 - x17.toInt) * 2 < (n : Int) by omega)
      · exact (dd_ne c16 (show (0 : Int) ≤ (0 : Int32).toInt ∧ (0 : Int32).toInt ≤ 0 by decide) (show (0 : Int) ≤ (0 : Int32).toInt ∧ (0 : Int32).toInt ≤ 0 by decide)).elim
    · have i19 : (1 : Int) ≤ x12.toInt ∧ x12.toInt ≤ 1 := nr_nela c14 i13 (show (0 : Int) ≤ (0 : Int32).toInt ∧ (0 : Int32).toInt ≤ 0 by decide) (by decide) (by decide)
      refine tt_n (ix_ok i7 (by decide) (by decide)) ?_
      refine tt_kv (P := fun z => ((-2147483648) : Int) ≤ z.toInt ∧ z.toInt ≤ 2147483647) (k_o0.2 8 _) (fun x20 i21 => ?_)
      refine tt_kv (P := fun z => ((-2147483648) : Int) ≤ z.toInt ∧ z.toInt ≤ 2147483647) (iv_top _) (fun x22 i23 => ?_)
      refine tt_if (fun c24 => ?_) (fun c24 => ?_)
      · have i25 : (0 : Int) ≤ x22.toInt ∧ x22.toInt ≤ 0 := nr_eql c24 i23 (show (0 : Int) ≤ (0 : Int32).toInt ∧ (0 : Int32).toInt ≤ 0 by decide) (by decide) (by decide)
        try unfold fRe_productAt_58
        refine tt_if (fun c26 => ?_) (fun c26 => ?_)
        · exact (dd_eq c26 (show (1 : Int) ≤ (1 : Int32).toInt ∧ (1 : Int32).toInt ≤ 1 by decide) (show (0 : Int) ≤ (0 : Int32).toInt ∧ (0 : Int32).toInt ≤ 0 by decide) (by decide)).elim
        · refine tt_if (fun c27 => ?_) (fun c27 => ?_)
          · have i28 : ((-1) : Int) ≤ v5.toInt ∧ v5.toInt ≤ (-1) := nr_eql c27 i_v5 (show ((-1) : Int) ≤ ((-1) : Int32).toInt ∧ ((-1) : Int32).toInt ≤ (-1) by decide) (by decide) (by decide)
            try unfold fRe_productAt_88
            try unfold fRe_productAt_92
            refine tt_kv (P := fun z => ((1 : Int) ≤ z.toInt ∧ z.toInt ≤ 81) ∧ z.toInt = v6.toInt + 1) ⟨iv_add i7 (show (1 : Int) ≤ (1 : Int32).toInt ∧ (1 : Int32).toInt ≤ 1 by decide) (by decide) (by decide) (by decide) (by decide), iq_add i7 (show (1 : Int) ≤ (1 : Int32).toInt ∧ (1 : Int32).toInt ≤ 1 by decide) (by decide) (by decide)⟩ (fun x29 qi30 => ?_)
            obtain ⟨i30, ei30⟩ := qi30
            exact H _ _ _ _ _ _ k_o0 r_o0 i_v1 i_v3 (iv_w (a := (-1)) (b := 80) (by decide) (by decide) i7) (iv_w (a := 0) (b := 81) (by decide) (by decide) i30) (show 0 + (81 - x29.toInt) * 2 < (n : Int) by omega)
          · have i31 : (0 : Int) ≤ v5.toInt ∧ v5.toInt ≤ 80 := nr_nela c27 i_v5 (show ((-1) : Int) ≤ ((-1) : Int32).toInt ∧ ((-1) : Int32).toInt ≤ (-1) by decide) (by decide) (by decide)
            refine tt_n (ix_ok i7 (by decide) (by decide)) ?_
            refine tt_kv (P := fun z => (0 : Int) ≤ z.toInt ∧ z.toInt ≤ 4) (k_o0.2 9 _) (fun x32 i33 => ?_)
            refine tt_n (ix_ok i31 (by decide) (by decide)) ?_
            refine tt_kv (P := fun z => (0 : Int) ≤ z.toInt ∧ z.toInt ≤ 4) (k_o0.2 9 _) (fun x34 i35 => ?_)
            refine tt_if (fun c36 => ?_) (fun c36 => ?_)
            · try unfold fRe_productAt_92
              refine tt_kv (P := fun z => ((1 : Int) ≤ z.toInt ∧ z.toInt ≤ 81) ∧ z.toInt = v6.toInt + 1) ⟨iv_add i7 (show (1 : Int) ≤ (1 : Int32).toInt ∧ (1 : Int32).toInt ≤ 1 by decide) (by decide) (by decide) (by decide) (by decide), iq_add i7 (show (1 : Int) ≤ (1 : Int32).toInt ∧ (1 : Int32).toInt ≤ 1 by decide) (by decide) (by decide)⟩ (fun x37 qi38 => ?_)
              obtain ⟨i38, ei38⟩ := qi38
              exact H _ _ _ _ _ _ k_o0 r_o0 i_v1 i_v3 (iv_w (a := (-1)) (b := 80) (by decide) (by decide) i31) (iv_w (a := 0) (b := 81) (by decide) (by decide) i38) (show 0 + (81 - x37.toInt) * 2 < (n : Int) by omega)
            · have i39 : (0 : Int) ≤ x32.toInt ∧ x32.toInt ≤ 3 := nr_nlel c36 i33 i35 (by decide) (by decide)
              have i40 : (1 : Int) ≤ x34.toInt ∧ x34.toInt ≤ 4 := nr_nler c36 i33 i35 (by decide) (by decide)
              try unfold fRe_productAt_88
              try unfold fRe_productAt_92
              refine tt_kv (P := fun z => ((1 : Int) ≤ z.toInt ∧ z.toInt ≤ 81) ∧ z.toInt = v6.toInt + 1) ⟨iv_add i7 (show (1 : Int) ≤ (1 : Int32).toInt ∧ (1 : Int32).toInt ≤ 1 by decide) (by decide) (by decide) (by decide) (by decide), iq_add i7 (show (1 : Int) ≤ (1 : Int32).toInt ∧ (1 : Int32).toInt ≤ 1 by decide) (by decide) (by decide)⟩ (fun x41 qi42 => ?_)
              obtain ⟨i42, ei42⟩ := qi42
              exact H _ _ _ _ _ _ k_o0 r_o0 i_v1 i_v3 (iv_w (a := (-1)) (b := 80) (by decide) (by decide) i7) (iv_w (a := 0) (b := 81) (by decide) (by decide) i42) (show 0 + (81 - x41.toInt) * 2 < (n : Int) by omega)
      · try unfold fRe_productAt_57
        try unfold fRe_productAt_58
        refine tt_if (fun c43 => ?_) (fun c43 => ?_)
        · try unfold fRe_productAt_92
          refine tt_kv (P := fun z => ((1 : Int) ≤ z.toInt ∧ z.toInt ≤ 81) ∧ z.toInt = v6.toInt + 1) ⟨iv_add i7 (show (1 : Int) ≤ (1 : Int32).toInt ∧ (1 : Int32).toInt ≤ 1 by decide) (by decide) (by decide) (by decide) (by decide), iq_add i7 (show (1 : Int) ≤ (1 : Int32).toInt ∧ (1 : Int32).toInt ≤ 1 by decide) (by decide) (by decide)⟩ (fun x44 qi45 => ?_)
          obtain ⟨i45, ei45⟩ := qi45
          exact H _ _ _ _ _ _ k_o0 r_o0 i_v1 i_v3 i_v5 (iv_w (a := 0) (b := 81) (by decide) (by decide) i45) (show 0 + (81 - x44.toInt) * 2 < (n : Int) by omega)
        · exact (dd_ne c43 (show (0 : Int) ≤ (0 : Int32).toInt ∧ (0 : Int32).toInt ≤ 0 by decide) (show (0 : Int) ≤ (0 : Int32).toInt ∧ (0 : Int32).toInt ≤ 0 by decide)).elim
set_option maxHeartbeats 4000000 in
set_option maxRecDepth 100000 in
theorem hRe_productAt (yv1 : Int32) (yv2 : Int32) (yv3 : Int32) (yo0 : cf_O) : ∀ n, HRe_productAt yv1 yv2 yv3 yo0 n := by
  intro n
  induction n with
  | zero => exact (fun v1 v3 v4 v5 v6 o0 k_o0 r_o0 i_v1 i_v3 i_v5 i_v6 hm => by exact absurd (show 0 + (81 - v6.toInt) * 2 < (0 : Int) from hm) (by omega))
  | succ n ih => exact (fun v1 v3 v4 v5 v6 o0 k_o0 r_o0 i_v1 i_v3 i_v5 i_v6 hm => tRe_productAt_16 ih v1 v3 v4 v5 v6 o0 k_o0 r_o0 i_v1 i_v3 i_v5 i_v6 (by omega))
set_option maxHeartbeats 4000000 in
set_option maxRecDepth 100000 in
theorem sRe_productAt (v1 : Int32) (v2 : Int32) (v3 : Int32) (o0 : cf_O) (k_o0 : okO I_Re o0) (i_v1 : (0 : Int) ≤ v1.toInt ∧ v1.toInt ≤ 32) (i_v3 : (0 : Int) ≤ v3.toInt ∧ v3.toInt ≤ 4) : tt (fRe_productAt v1 v2 v3 o0) (QRe_productAt v1 v2 v3 o0) := by
  have H := hRe_productAt v1 v2 v3 o0 cfFU
  have hm : (165 : Int) ≤ (cfFU : Nat) := by decide
  have r_o0 : Fr (fr_M [] [] []) o0 o0 := fr_rfl
  unfold fRe_productAt fRe_productAt_0
  refine tt_b (sCo_full _ (iv_w (a := 0) (b := 5) (by decide) (by decide) i_v3)) (fun q1 hq1 => ?_)
  obtain ⟨i_q1, zq1_0, -⟩ := hq1
  refine tt_kv (P := fun z => ((-2147483648) : Int) ≤ z.toInt ∧ z.toInt ≤ 2147483647) (iv_top _) (fun x2 i3 => ?_)
  refine tt_kv (P := fun z => ((-2147483648) : Int) ≤ z.toInt ∧ z.toInt ≤ 2147483647) (iv_top _) (fun x4 i5 => ?_)
  exact H _ _ _ _ _ _ k_o0 r_o0 (iv_w (a := 0) (b := 37) (by decide) (by decide) i_v1) i_v3 (iv_w (a := (-1)) (b := 80) (by decide) (by decide) (show ((-1) : Int) ≤ ((-1) : Int32).toInt ∧ ((-1) : Int32).toInt ≤ (-1) by decide)) (iv_w (a := 0) (b := 81) (by decide) (by decide) (show (0 : Int) ≤ (0 : Int32).toInt ∧ (0 : Int32).toInt ≤ 0 by decide)) (show 0 + (81 - 0) * 2 < ((cfFU : Nat) : Int) by omega)
def QRe_findSum (v1 : Int32) (v2 : Int32) (o0 : cf_O) (r : (cf_O)) : Prop := (okO I_Re r) ∧ (Fr (fr_M [11] [10] []) o0 r) ∧ True
def HRe_findSum (yv1 : Int32) (yv2 : Int32) (yo0 : cf_O) (n : Nat) : Prop := (∀ (v1 : Int32) (v2 : Int32) (v3 : Int32) (v4 : Int32) (o0 : cf_O), (okO I_Re o0) → (Fr (fr_M [11] [10] []) yo0 o0) → ((0 : Int) ≤ v2.toInt ∧ v2.toInt ≤ 4) → ((0 : Int) ≤ v4.toInt ∧ v4.toInt ≤ 16) → ((o0.1 11).toInt = v4.toInt) → 0 + (16 - v4.toInt) * 2 < (n : Int) → tt (gRe_findSum n 0 v1 v2 v3 v4 o0) (QRe_findSum yv1 yv2 yo0))
set_option maxHeartbeats 4000000 in
set_option maxRecDepth 100000 in
theorem tRe_findSum_10 {yv1 : Int32} {yv2 : Int32} {yo0 : cf_O} {n : Nat} (H : HRe_findSum yv1 yv2 yo0 n) (v1 : Int32) (v2 : Int32) (v3 : Int32) (v4 : Int32) (o0 : cf_O) (k_o0 : okO I_Re o0) (r_o0 : Fr (fr_M [11] [10] []) yo0 o0) (i_v2 : (0 : Int) ≤ v2.toInt ∧ v2.toInt ≤ 4) (i_v4 : (0 : Int) ≤ v4.toInt ∧ v4.toInt ≤ 16) (x_0 : (o0.1 11).toInt = v4.toInt) (hm : 0 + (16 - v4.toInt) * 2 ≤ (n : Int)) : tt (fRe_findSum_10 (gRe_findSum n) v1 v2 v3 v4 o0) (QRe_findSum yv1 yv2 yo0) := by
  unfold fRe_findSum_10
  have i_v1 := iv_top v1
  have i_v3 := iv_top v3
  have g_o0_11 : (0 : Int) ≤ (o0.1 11).toInt ∧ (o0.1 11).toInt ≤ 16 := k_o0.1 11
  refine tt_if (fun c1 => ?_) (fun c1 => ?_)
  · have wc1 : (16 : Int) ≤ v4.toInt := c_le c1
    have i2 : (16 : Int) ≤ v4.toInt ∧ v4.toInt ≤ 16 := nr_ler c1 (show (16 : Int) ≤ (16 : Int32).toInt ∧ (16 : Int32).toInt ≤ 16 by decide) i_v4 (by decide) (by decide)
    try unfold fRe_findSum_75
    exact tt_some ⟨k_o0, r_o0, trivial⟩
  · have wc1 : v4.toInt < (16 : Int) := c_nle c1
    have i3 : (0 : Int) ≤ v4.toInt ∧ v4.toInt ≤ 15 := nr_nlel c1 i_v4 (show (16 : Int) ≤ (16 : Int32).toInt ∧ (16 : Int32).toInt ≤ 16 by decide) (by decide) (by decide)
    refine tt_if (fun c4 => ?_) (fun c4 => ?_)
    · have wc4 : v3.toInt = (0 : Int) := c_eq c4
      have i5 : (0 : Int) ≤ v3.toInt ∧ v3.toInt ≤ 0 := nr_eql c4 (iv_top v3) (show (0 : Int) ≤ (0 : Int32).toInt ∧ (0 : Int32).toInt ≤ 0 by decide) (by decide) (by decide)
      try unfold fRe_findSum_75
      exact tt_some ⟨k_o0, r_o0, trivial⟩
    · have wc4 : ¬ v3.toInt = (0 : Int) := c_ne c4
      refine tt_b (sJInteger_numberOfTrailingZeros_I _ ) (fun q6 hq6 => ?_)
      obtain ⟨i_q6, -⟩ := hq6
      refine tt_b (sRe_productAt _ _ _ _ k_o0 i_q6 i_v2) (fun q7 hq7 => ?_)
      obtain ⟨i_q7, -⟩ := hq7
      refine tt_n (ix_rel (x := (o0.1 11)) (by omega) (by omega)) ?_
      have i8 : (0 : Int) ≤ (o0.1 11).toInt ∧ (o0.1 11).toInt ≤ 15 := (by omega)
      refine tt_ko ?_
      have k9 := ok_xp (k := 10) (i := (o0.1 11).toNatClampNeg) (v := q7) k_o0 i_q7
      have r10 := fr_xp (k := 10) (i := (o0.1 11).toNatClampNeg) (v := q7) r_o0 rfl
      refine tt_n (ix_ok i8 (by decide) (by decide)) ?_
      refine tt_kv (P := fun z => ((0 : Int) ≤ z.toInt ∧ z.toInt ≤ 80) ∧ z.toInt = (upd (o0.2.1 10) ((o0.1 11).toNatClampNeg) q7 (o0.1 11).toNatClampNeg).toInt) ⟨(k9.2 10 _), rfl⟩ (fun x11 qi12 => ?_)
      obtain ⟨i12, ei12⟩ := qi12
      refine tt_n (ix_ok i12 (by decide) (by decide)) ?_
      refine tt_kv (P := fun z => (((-2147483648) : Int) ≤ z.toInt ∧ z.toInt ≤ 2147483647) ∧ z.toInt = (o0.2.1 8 x11.toNatClampNeg).toInt) ⟨(k9.2 8 _), rfl⟩ (fun x13 qi14 => ?_)
      obtain ⟨i14, ei14⟩ := qi14
      refine tt_kv (P := fun z => ((-2147483648) : Int) ≤ z.toInt ∧ z.toInt ≤ 2147483647) (iv_top _) (fun x15 i16 => ?_)
      refine tt_kv (P := fun z => ((-2147483648) : Int) ≤ z.toInt ∧ z.toInt ≤ 2147483647) (iv_top _) (fun x17 i18 => ?_)
      refine tt_kv (P := fun z => ((1 : Int) ≤ z.toInt ∧ z.toInt ≤ 16) ∧ z.toInt = (o0.1 11).toInt + 1) ⟨iv_add i8 (show (1 : Int) ≤ (1 : Int32).toInt ∧ (1 : Int32).toInt ≤ 1 by decide) (by decide) (by decide) (by decide) (by decide), iq_add i8 (show (1 : Int) ≤ (1 : Int32).toInt ∧ (1 : Int32).toInt ≤ 1 by decide) (by decide) (by decide)⟩ (fun x19 qi20 => ?_)
      obtain ⟨i20, ei20⟩ := qi20
      refine tt_ko ?_
      have k21 := ok_fp (k := 11) (v := x19) k9 (iv_w (a := 0) (b := 16) (by decide) (by decide) i20)
      have r22 := fr_fp (k := 11) (v := x19) r10 rfl
      refine tt_kv (P := fun z => ((1 : Int) ≤ z.toInt ∧ z.toInt ≤ 16) ∧ z.toInt = v4.toInt + 1) ⟨iv_add i3 (show (1 : Int) ≤ (1 : Int32).toInt ∧ (1 : Int32).toInt ≤ 1 by decide) (by decide) (by decide) (by decide) (by decide), iq_add i3 (show (1 : Int) ≤ (1 : Int32).toInt ∧ (1 : Int32).toInt ≤ 1 by decide) (by decide) (by decide)⟩ (fun x23 qi24 => ?_)
      obtain ⟨i24, ei24⟩ := qi24
      exact H _ _ _ _ _ k21 r22 i_v2 (iv_w (a := 0) (b := 16) (by decide) (by decide) i24) (show x19.toInt = x23.toInt by omega) (show 0 + (16 - x23.toInt) * 2 < (n : Int) by omega)
set_option maxHeartbeats 4000000 in
set_option maxRecDepth 100000 in
theorem hRe_findSum (yv1 : Int32) (yv2 : Int32) (yo0 : cf_O) : ∀ n, HRe_findSum yv1 yv2 yo0 n := by
  intro n
  induction n with
  | zero => exact (fun v1 v2 v3 v4 o0 k_o0 r_o0 i_v2 i_v4 x_0 hm => by exact absurd (show 0 + (16 - v4.toInt) * 2 < (0 : Int) from hm) (by omega))
  | succ n ih => exact (fun v1 v2 v3 v4 o0 k_o0 r_o0 i_v2 i_v4 x_0 hm => tRe_findSum_10 ih v1 v2 v3 v4 o0 k_o0 r_o0 i_v2 i_v4 x_0 (by omega))
set_option maxHeartbeats 4000000 in
set_option maxRecDepth 100000 in
theorem sRe_findSum (v1 : Int32) (v2 : Int32) (o0 : cf_O) (k_o0 : okO I_Re o0) (i_v2 : (0 : Int) ≤ v2.toInt ∧ v2.toInt ≤ 4) : tt (fRe_findSum v1 v2 o0) (QRe_findSum v1 v2 o0) := by
  have H := hRe_findSum v1 v2 o0 cfFU
  have hm : (35 : Int) ≤ (cfFU : Nat) := by decide
  have r_o0 : Fr (fr_M [11] [10] []) o0 o0 := fr_rfl
  unfold fRe_findSum fRe_findSum_0
  have i_v1 := iv_top v1
  have g_o0_11 : (0 : Int) ≤ (o0.1 11).toInt ∧ (o0.1 11).toInt ≤ 16 := k_o0.1 11
  refine tt_ko ?_
  have k1 := ok_fp (k := 11) (v := 0) k_o0 (iv_w (a := 0) (b := 16) (by decide) (by decide) (show (0 : Int) ≤ (0 : Int32).toInt ∧ (0 : Int32).toInt ≤ 0 by decide))
  have r2 := fr_fp (k := 11) (v := 0) r_o0 rfl
  exact H _ _ _ _ _ k1 r2 i_v2 (iv_w (a := 0) (b := 16) (by decide) (by decide) (show (0 : Int) ≤ (0 : Int32).toInt ∧ (0 : Int32).toInt ≤ 0 by decide)) (show 0 = 0 by omega) (show 0 + (16 - 0) * 2 < ((cfFU : Nat) : Int) by omega)
def QRe_sumCost (o0 : cf_O) (r : (Int32)) : Prop := True
def HRe_sumCost (yo0 : cf_O) (n : Nat) : Prop := (∀ (v1 : Int32) (v2 : Int32) (o0 : cf_O), (okO I_Re o0) → (Fr (fr_M [] [] []) yo0 o0) → ((0 : Int) ≤ v2.toInt ∧ v2.toInt ≤ 16) → 0 + (16 - v2.toInt) * 2 < (n : Int) → tt (gRe_sumCost n 0 v1 v2 o0) (QRe_sumCost yo0))
set_option maxHeartbeats 4000000 in
set_option maxRecDepth 100000 in
theorem tRe_sumCost_13 {yo0 : cf_O} {n : Nat} (H : HRe_sumCost yo0 n) (v1 : Int32) (v2 : Int32) (o0 : cf_O) (k_o0 : okO I_Re o0) (r_o0 : Fr (fr_M [] [] []) yo0 o0) (i_v2 : (0 : Int) ≤ v2.toInt ∧ v2.toInt ≤ 16) (hm : 0 + (16 - v2.toInt) * 2 ≤ (n : Int)) : tt (fRe_sumCost_13 (gRe_sumCost n) v1 v2 o0) (QRe_sumCost yo0) := by
  unfold fRe_sumCost_13
  refine tt_if (fun c1 => ?_) (fun c1 => ?_)
  · exact tt_some trivial
  · have i2 : (0 : Int) ≤ v2.toInt ∧ v2.toInt ≤ 15 := nr_nlel c1 i_v2 (k_o0.1 11) (by decide) (by decide)
    have i3 : (1 : Int) ≤ (o0.1 11).toInt ∧ (o0.1 11).toInt ≤ 16 := nr_nler c1 i_v2 (k_o0.1 11) (by decide) (by decide)
    refine tt_n (ix_ok i2 (by decide) (by decide)) ?_
    refine tt_kv (P := fun z => (0 : Int) ≤ z.toInt ∧ z.toInt ≤ 80) (k_o0.2 10 _) (fun x4 i5 => ?_)
    refine tt_n (ix_ok i5 (by decide) (by decide)) ?_
    refine tt_kv (P := fun z => (0 : Int) ≤ z.toInt ∧ z.toInt ≤ 4) (k_o0.2 9 _) (fun x6 i7 => ?_)
    refine tt_kv (P := fun z => (((-1) : Int) ≤ z.toInt ∧ z.toInt ≤ 3) ∧ z.toInt = x6.toInt - 1) ⟨iv_sub i7 (show (1 : Int) ≤ (1 : Int32).toInt ∧ (1 : Int32).toInt ≤ 1 by decide) (by decide) (by decide) (by decide) (by decide), iq_sub i7 (show (1 : Int) ≤ (1 : Int32).toInt ∧ (1 : Int32).toInt ≤ 1 by decide) (by decide) (by decide)⟩ (fun x8 qi9 => ?_)
    obtain ⟨i9, ei9⟩ := qi9
    refine tt_kv (P := fun z => (0 : Int) ≤ z.toInt ∧ z.toInt ≤ 3) (iv_mx i9 (show (0 : Int) ≤ (0 : Int32).toInt ∧ (0 : Int32).toInt ≤ 0 by decide) (by decide) (by decide) (by decide) (by decide)) (fun x10 i11 => ?_)
    refine tt_kv (P := fun z => ((-2147483648) : Int) ≤ z.toInt ∧ z.toInt ≤ 2147483647) (iv_top _) (fun x12 i13 => ?_)
    refine tt_kv (P := fun z => ((1 : Int) ≤ z.toInt ∧ z.toInt ≤ 16) ∧ z.toInt = v2.toInt + 1) ⟨iv_add i2 (show (1 : Int) ≤ (1 : Int32).toInt ∧ (1 : Int32).toInt ≤ 1 by decide) (by decide) (by decide) (by decide) (by decide), iq_add i2 (show (1 : Int) ≤ (1 : Int32).toInt ∧ (1 : Int32).toInt ≤ 1 by decide) (by decide) (by decide)⟩ (fun x14 qi15 => ?_)
    obtain ⟨i15, ei15⟩ := qi15
    exact H _ _ _ k_o0 r_o0 (iv_w (a := 0) (b := 16) (by decide) (by decide) i15) (show 0 + (16 - x14.toInt) * 2 < (n : Int) by omega)
set_option maxHeartbeats 4000000 in
set_option maxRecDepth 100000 in
theorem hRe_sumCost (yo0 : cf_O) : ∀ n, HRe_sumCost yo0 n := by
  intro n
  induction n with
  | zero => exact (fun v1 v2 o0 k_o0 r_o0 i_v2 hm => by exact absurd (show 0 + (16 - v2.toInt) * 2 < (0 : Int) from hm) (by omega))
  | succ n ih => exact (fun v1 v2 o0 k_o0 r_o0 i_v2 hm => tRe_sumCost_13 ih v1 v2 o0 k_o0 r_o0 i_v2 (by omega))
set_option maxHeartbeats 4000000 in
set_option maxRecDepth 100000 in
theorem sRe_sumCost (o0 : cf_O) (k_o0 : okO I_Re o0) : tt (fRe_sumCost o0) (QRe_sumCost o0) := by
  have H := hRe_sumCost o0 cfFU
  have hm : (35 : Int) ≤ (cfFU : Nat) := by decide
  have r_o0 : Fr (fr_M [] [] []) o0 o0 := fr_rfl
  unfold fRe_sumCost fRe_sumCost_0
  refine tt_kv (P := fun z => (((-1) : Int) ≤ z.toInt ∧ z.toInt ≤ 15) ∧ z.toInt = (o0.1 11).toInt - 1) ⟨iv_sub (k_o0.1 11) (show (1 : Int) ≤ (1 : Int32).toInt ∧ (1 : Int32).toInt ≤ 1 by decide) (by decide) (by decide) (by decide) (by decide), iq_sub (k_o0.1 11) (show (1 : Int) ≤ (1 : Int32).toInt ∧ (1 : Int32).toInt ≤ 1 by decide) (by decide) (by decide)⟩ (fun x1 qi2 => ?_)
  obtain ⟨i2, ei2⟩ := qi2
  refine tt_kv (P := fun z => (0 : Int) ≤ z.toInt ∧ z.toInt ≤ 15) (iv_mx i2 (show (0 : Int) ≤ (0 : Int32).toInt ∧ (0 : Int32).toInt ≤ 0 by decide) (by decide) (by decide) (by decide) (by decide)) (fun x3 i4 => ?_)
  exact H _ _ _ k_o0 r_o0 (iv_w (a := 0) (b := 16) (by decide) (by decide) (show (0 : Int) ≤ (0 : Int32).toInt ∧ (0 : Int32).toInt ≤ 0 by decide)) (show 0 + (16 - 0) * 2 < ((cfFU : Nat) : Int) by omega)
def QRe_freedBy (v2 : Int32) (o0 : cf_O) (o1 : cf_O) (o2 : cf_O) (r : (Int32 × cf_O)) : Prop := (okO I_Re r.2) ∧ (Fr (fr_M [] [2] []) o0 r.2) ∧ True
def HRe_freedBy (yv2 : Int32) (yo0 : cf_O) (yo1 : cf_O) (yo2 : cf_O) (n : Nat) : Prop := (∀ (v2 : Int32) (v4 : Int32) (o0 : cf_O) (o1 : cf_O) (o2 : cf_O), (okO I_Re o0) → (Fr (fr_M [] [2] []) yo0 o0) → (okO I_Gr o1) → (Fr (fr_M [] [] []) yo1 o1) → (okO I_Co o2) → (Fr (fr_M [] [] []) yo2 o2) → ((1 : Int) ≤ v2.toInt ∧ v2.toInt ≤ 208) → ((0 : Int) ≤ v4.toInt ∧ v4.toInt ≤ 209) → 418 + (209 - v4.toInt) * 2 < (n : Int) → tt (gRe_freedBy n 0 v2 v4 0 o0 o1 o2) (QRe_freedBy yv2 yo0 yo1 yo2)) ∧ (∀ (v2 : Int32) (v4 : Int32) (v5 : Int32) (o0 : cf_O) (o1 : cf_O) (o2 : cf_O), (okO I_Re o0) → (Fr (fr_M [] [2] []) yo0 o0) → (okO I_Gr o1) → (Fr (fr_M [] [] []) yo1 o1) → (okO I_Co o2) → (Fr (fr_M [] [] []) yo2 o2) → ((1 : Int) ≤ v2.toInt ∧ v2.toInt ≤ 208) → ((0 : Int) ≤ v5.toInt ∧ v5.toInt ≤ 208) → 0 + (v5.toInt - 0) * 2 < (n : Int) → tt (gRe_freedBy n 1 v2 v4 v5 o0 o1 o2) (QRe_freedBy yv2 yo0 yo1 yo2))
set_option maxHeartbeats 4000000 in
set_option maxRecDepth 100000 in
theorem tRe_freedBy_34 {yv2 : Int32} {yo0 : cf_O} {yo1 : cf_O} {yo2 : cf_O} {n : Nat} (H : HRe_freedBy yv2 yo0 yo1 yo2 n) (v2 : Int32) (v4 : Int32) (v5 : Int32) (o0 : cf_O) (o1 : cf_O) (o2 : cf_O) (k_o0 : okO I_Re o0) (r_o0 : Fr (fr_M [] [2] []) yo0 o0) (k_o1 : okO I_Gr o1) (r_o1 : Fr (fr_M [] [] []) yo1 o1) (k_o2 : okO I_Co o2) (r_o2 : Fr (fr_M [] [] []) yo2 o2) (i_v2 : (1 : Int) ≤ v2.toInt ∧ v2.toInt ≤ 208) (i_v5 : (0 : Int) ≤ v5.toInt ∧ v5.toInt ≤ 208) (hm : 0 + (v5.toInt - 0) * 2 ≤ (n : Int)) : tt (fRe_freedBy_34 (gRe_freedBy n) v2 v4 v5 o0 o1 o2) (QRe_freedBy yv2 yo0 yo1 yo2) := by
  unfold fRe_freedBy_34
  refine tt_n (ix_ok (show (0 : Int) ≤ (0 : Int32).toInt ∧ (0 : Int32).toInt ≤ 0 by decide) (by decide) (by decide)) ?_
  refine tt_kv (P := fun z => (0 : Int) ≤ z.toInt ∧ z.toInt ≤ 208) (k_o2.2 2 _) (fun x1 i2 => ?_)
  refine tt_if (fun c3 => ?_) (fun c3 => ?_)
  · exact tt_some ⟨k_o0, r_o0, trivial⟩
  · have i4 : (0 : Int) ≤ x1.toInt ∧ x1.toInt ≤ 207 := nr_nlel c3 i2 i_v5 (by decide) (by decide)
    have i5 : (1 : Int) ≤ v5.toInt ∧ v5.toInt ≤ 208 := nr_nler c3 i2 i_v5 (by decide) (by decide)
    refine tt_b (sCo_isBetween _ _ k_o2 i5) (fun q6 hq6 => ?_)
    obtain ⟨i_q6, -⟩ := hq6
    refine tt_if (fun c7 => ?_) (fun c7 => ?_)
    · have i8 : (0 : Int) ≤ q6.toInt ∧ q6.toInt ≤ 0 := nr_eql c7 i_q6 (show (0 : Int) ≤ (0 : Int32).toInt ∧ (0 : Int32).toInt ≤ 0 by decide) (by decide) (by decide)
      try unfold fRe_freedBy_123
      refine tt_kv (P := fun z => ((0 : Int) ≤ z.toInt ∧ z.toInt ≤ 207) ∧ z.toInt = v5.toInt + (-1)) ⟨iv_add i5 (show ((-1) : Int) ≤ ((-1) : Int32).toInt ∧ ((-1) : Int32).toInt ≤ (-1) by decide) (by decide) (by decide) (by decide) (by decide), iq_add i5 (show ((-1) : Int) ≤ ((-1) : Int32).toInt ∧ ((-1) : Int32).toInt ≤ (-1) by decide) (by decide) (by decide)⟩ (fun x9 qi10 => ?_)
      obtain ⟨i10, ei10⟩ := qi10
      exact H.2 _ _ _ _ _ _ k_o0 r_o0 k_o1 r_o1 k_o2 r_o2 i_v2 (iv_w (a := 0) (b := 208) (by decide) (by decide) i10) (show 0 + (x9.toInt - 0) * 2 < (n : Int) by omega)
    · have i11 : (1 : Int) ≤ q6.toInt ∧ q6.toInt ≤ 1 := nr_nela c7 i_q6 (show (0 : Int) ≤ (0 : Int32).toInt ∧ (0 : Int32).toInt ≤ 0 by decide) (by decide) (by decide)
      refine tt_n (ix_ok i5 (by decide) (by decide)) ?_
      refine tt_kv (P := fun z => (0 : Int) ≤ z.toInt ∧ z.toInt ≤ 417) (k_o1.2 4 _) (fun x12 i13 => ?_)
      refine tt_kv (P := fun z => (0 : Int) ≤ z.toInt ∧ z.toInt ≤ 208) (iv_shr (p := 1) (q := 1) i13 (show (1 : Int) ≤ (1 : Int32).toInt ∧ (1 : Int32).toInt ≤ 1 by decide) (by decide) (by decide) (by decide) (by decide)) (fun x14 i15 => ?_)
      refine tt_n (ix_ok i15 (by decide) (by decide)) ?_
      refine tt_kv (P := fun z => ((-2147483648) : Int) ≤ z.toInt ∧ z.toInt ≤ 2147483647) (k_o0.2 2 _) (fun x16 i17 => ?_)
      refine tt_kv (P := fun z => ((-2147483648) : Int) ≤ z.toInt ∧ z.toInt ≤ 2147483647) (iv_top _) (fun x18 i19 => ?_)
      refine tt_n (ix_ok i15 (by decide) (by decide)) ?_
      refine tt_ko ?_
      have k20 := ok_xp (k := 2) (i := x14.toNatClampNeg) (v := x18) k_o0 i19
      have r21 := fr_xp (k := 2) (i := x14.toNatClampNeg) (v := x18) r_o0 rfl
      refine tt_n (ix_ok i5 (by decide) (by decide)) ?_
      refine tt_kv (P := fun z => (0 : Int) ≤ z.toInt ∧ z.toInt ≤ 417) (k_o1.2 5 _) (fun x22 i23 => ?_)
      refine tt_kv (P := fun z => (0 : Int) ≤ z.toInt ∧ z.toInt ≤ 208) (iv_shr (p := 1) (q := 1) i23 (show (1 : Int) ≤ (1 : Int32).toInt ∧ (1 : Int32).toInt ≤ 1 by decide) (by decide) (by decide) (by decide) (by decide)) (fun x24 i25 => ?_)
      refine tt_n (ix_ok i25 (by decide) (by decide)) ?_
      refine tt_kv (P := fun z => ((-2147483648) : Int) ≤ z.toInt ∧ z.toInt ≤ 2147483647) (k20.2 2 _) (fun x26 i27 => ?_)
      refine tt_kv (P := fun z => ((-2147483648) : Int) ≤ z.toInt ∧ z.toInt ≤ 2147483647) (iv_top _) (fun x28 i29 => ?_)
      refine tt_n (ix_ok i25 (by decide) (by decide)) ?_
      refine tt_ko ?_
      have k30 := ok_xp (k := 2) (i := x24.toNatClampNeg) (v := x28) k20 i29
      have r31 := fr_xp (k := 2) (i := x24.toNatClampNeg) (v := x28) r21 rfl
      refine tt_if (fun c32 => ?_) (fun c32 => ?_)
      · try unfold fRe_freedBy_119
        try unfold fRe_freedBy_120
        refine tt_kv (P := fun z => ((-2147483648) : Int) ≤ z.toInt ∧ z.toInt ≤ 2147483647) (iv_add (iv_top v4) (show (0 : Int) ≤ (0 : Int32).toInt ∧ (0 : Int32).toInt ≤ 0 by decide) (by decide) (by decide) (by decide) (by decide)) (fun x33 i34 => ?_)
        try unfold fRe_freedBy_123
        refine tt_kv (P := fun z => ((0 : Int) ≤ z.toInt ∧ z.toInt ≤ 207) ∧ z.toInt = v5.toInt + (-1)) ⟨iv_add i5 (show ((-1) : Int) ≤ ((-1) : Int32).toInt ∧ ((-1) : Int32).toInt ≤ (-1) by decide) (by decide) (by decide) (by decide) (by decide), iq_add i5 (show ((-1) : Int) ≤ ((-1) : Int32).toInt ∧ ((-1) : Int32).toInt ≤ (-1) by decide) (by decide) (by decide)⟩ (fun x35 qi36 => ?_)
        obtain ⟨i36, ei36⟩ := qi36
        exact H.2 _ _ _ _ _ _ k30 r31 k_o1 r_o1 k_o2 r_o2 i_v2 (iv_w (a := 0) (b := 208) (by decide) (by decide) i36) (show 0 + (x35.toInt - 0) * 2 < (n : Int) by omega)
      · refine tt_n (ix_ok i5 (by decide) (by decide)) ?_
        refine tt_kv (P := fun z => ((-2147483648) : Int) ≤ z.toInt ∧ z.toInt ≤ 2147483647) (k30.2 2 _) (fun x37 i38 => ?_)
        refine tt_n (ix_ok i5 (by decide) (by decide)) ?_
        refine tt_kv (P := fun z => ((-2147483648) : Int) ≤ z.toInt ∧ z.toInt ≤ 2147483647) (k30.2 1 _) (fun x39 i40 => ?_)
        refine tt_if (fun c41 => ?_) (fun c41 => ?_)
        · try unfold fRe_freedBy_120
          refine tt_kv (P := fun z => ((-2147483648) : Int) ≤ z.toInt ∧ z.toInt ≤ 2147483647) (iv_top _) (fun x42 i43 => ?_)
          try unfold fRe_freedBy_123
          refine tt_kv (P := fun z => ((0 : Int) ≤ z.toInt ∧ z.toInt ≤ 207) ∧ z.toInt = v5.toInt + (-1)) ⟨iv_add i5 (show ((-1) : Int) ≤ ((-1) : Int32).toInt ∧ ((-1) : Int32).toInt ≤ (-1) by decide) (by decide) (by decide) (by decide) (by decide), iq_add i5 (show ((-1) : Int) ≤ ((-1) : Int32).toInt ∧ ((-1) : Int32).toInt ≤ (-1) by decide) (by decide) (by decide)⟩ (fun x44 qi45 => ?_)
          obtain ⟨i45, ei45⟩ := qi45
          exact H.2 _ _ _ _ _ _ k30 r31 k_o1 r_o1 k_o2 r_o2 i_v2 (iv_w (a := 0) (b := 208) (by decide) (by decide) i45) (show 0 + (x44.toInt - 0) * 2 < (n : Int) by omega)
        · try unfold fRe_freedBy_119
          try unfold fRe_freedBy_120
          refine tt_kv (P := fun z => ((-2147483648) : Int) ≤ z.toInt ∧ z.toInt ≤ 2147483647) (iv_add (iv_top v4) (show (0 : Int) ≤ (0 : Int32).toInt ∧ (0 : Int32).toInt ≤ 0 by decide) (by decide) (by decide) (by decide) (by decide)) (fun x46 i47 => ?_)
          try unfold fRe_freedBy_123
          refine tt_kv (P := fun z => ((0 : Int) ≤ z.toInt ∧ z.toInt ≤ 207) ∧ z.toInt = v5.toInt + (-1)) ⟨iv_add i5 (show ((-1) : Int) ≤ ((-1) : Int32).toInt ∧ ((-1) : Int32).toInt ≤ (-1) by decide) (by decide) (by decide) (by decide) (by decide), iq_add i5 (show ((-1) : Int) ≤ ((-1) : Int32).toInt ∧ ((-1) : Int32).toInt ≤ (-1) by decide) (by decide) (by decide)⟩ (fun x48 qi49 => ?_)
          obtain ⟨i49, ei49⟩ := qi49
          exact H.2 _ _ _ _ _ _ k30 r31 k_o1 r_o1 k_o2 r_o2 i_v2 (iv_w (a := 0) (b := 208) (by decide) (by decide) i49) (show 0 + (x48.toInt - 0) * 2 < (n : Int) by omega)
set_option maxHeartbeats 4000000 in
set_option maxRecDepth 100000 in
theorem tRe_freedBy_8 {yv2 : Int32} {yo0 : cf_O} {yo1 : cf_O} {yo2 : cf_O} {n : Nat} (H : HRe_freedBy yv2 yo0 yo1 yo2 n) (v2 : Int32) (v4 : Int32) (o0 : cf_O) (o1 : cf_O) (o2 : cf_O) (k_o0 : okO I_Re o0) (r_o0 : Fr (fr_M [] [2] []) yo0 o0) (k_o1 : okO I_Gr o1) (r_o1 : Fr (fr_M [] [] []) yo1 o1) (k_o2 : okO I_Co o2) (r_o2 : Fr (fr_M [] [] []) yo2 o2) (i_v2 : (1 : Int) ≤ v2.toInt ∧ v2.toInt ≤ 208) (i_v4 : (0 : Int) ≤ v4.toInt ∧ v4.toInt ≤ 209) (hm : 418 + (209 - v4.toInt) * 2 ≤ (n : Int)) : tt (fRe_freedBy_8 (gRe_freedBy n) v2 v4 o0 o1 o2) (QRe_freedBy yv2 yo0 yo1 yo2) := by
  unfold fRe_freedBy_8
  refine tt_if (fun c1 => ?_) (fun c1 => ?_)
  · have i2 : (2 : Int) ≤ v4.toInt ∧ v4.toInt ≤ 209 := nr_ltr c1 i_v2 i_v4 (by decide) (by decide)
    exact H.2 _ _ _ _ _ _ k_o0 r_o0 k_o1 r_o1 k_o2 r_o2 i_v2 (iv_w (a := 0) (b := 208) (by decide) (by decide) i_v2) (show 0 + (v2.toInt - 0) * 2 < (n : Int) by omega)
  · have i3 : (0 : Int) ≤ v4.toInt ∧ v4.toInt ≤ 208 := nr_nltl c1 i_v4 i_v2 (by decide) (by decide)
    refine tt_n (ix_ok i3 (by decide) (by decide)) ?_
    refine tt_ko ?_
    have k4 := ok_xp (k := 2) (i := v4.toNatClampNeg) (v := 0) k_o0 (iv_w (a := (-2147483648)) (b := 2147483647) (by decide) (by decide) (show (0 : Int) ≤ (0 : Int32).toInt ∧ (0 : Int32).toInt ≤ 0 by decide))
    have r5 := fr_xp (k := 2) (i := v4.toNatClampNeg) (v := 0) r_o0 rfl
    refine tt_kv (P := fun z => ((1 : Int) ≤ z.toInt ∧ z.toInt ≤ 209) ∧ z.toInt = v4.toInt + 1) ⟨iv_add i3 (show (1 : Int) ≤ (1 : Int32).toInt ∧ (1 : Int32).toInt ≤ 1 by decide) (by decide) (by decide) (by decide) (by decide), iq_add i3 (show (1 : Int) ≤ (1 : Int32).toInt ∧ (1 : Int32).toInt ≤ 1 by decide) (by decide) (by decide)⟩ (fun x6 qi7 => ?_)
    obtain ⟨i7, ei7⟩ := qi7
    exact H.1 _ _ _ _ _ k4 r5 k_o1 r_o1 k_o2 r_o2 i_v2 (iv_w (a := 0) (b := 209) (by decide) (by decide) i7) (show 418 + (209 - x6.toInt) * 2 < (n : Int) by omega)
set_option maxHeartbeats 4000000 in
set_option maxRecDepth 100000 in
theorem hRe_freedBy (yv2 : Int32) (yo0 : cf_O) (yo1 : cf_O) (yo2 : cf_O) : ∀ n, HRe_freedBy yv2 yo0 yo1 yo2 n := by
  intro n
  induction n with
  | zero => exact ⟨(fun v2 v4 o0 o1 o2 k_o0 r_o0 k_o1 r_o1 k_o2 r_o2 i_v2 i_v4 hm => by exact absurd (show 418 + (209 - v4.toInt) * 2 < (0 : Int) from hm) (by omega)), (fun v2 v4 v5 o0 o1 o2 k_o0 r_o0 k_o1 r_o1 k_o2 r_o2 i_v2 i_v5 hm => by exact absurd (show 0 + (v5.toInt - 0) * 2 < (0 : Int) from hm) (by omega))⟩
  | succ n ih => exact ⟨(fun v2 v4 o0 o1 o2 k_o0 r_o0 k_o1 r_o1 k_o2 r_o2 i_v2 i_v4 hm => tRe_freedBy_8 ih v2 v4 o0 o1 o2 k_o0 r_o0 k_o1 r_o1 k_o2 r_o2 i_v2 i_v4 (by omega)), (fun v2 v4 v5 o0 o1 o2 k_o0 r_o0 k_o1 r_o1 k_o2 r_o2 i_v2 i_v5 hm => tRe_freedBy_34 ih v2 v4 v5 o0 o1 o2 k_o0 r_o0 k_o1 r_o1 k_o2 r_o2 i_v2 i_v5 (by omega))⟩
set_option maxHeartbeats 4000000 in
set_option maxRecDepth 100000 in
theorem sRe_freedBy (v2 : Int32) (o0 : cf_O) (o1 : cf_O) (o2 : cf_O) (k_o0 : okO I_Re o0) (k_o1 : okO I_Gr o1) (k_o2 : okO I_Co o2) (i_v2 : (1 : Int) ≤ v2.toInt ∧ v2.toInt ≤ 208) (f_o2_1 : ((-2147483648) : Int) ≤ (o2.1 1).toInt ∧ (o2.1 1).toInt ≤ 2147483647) : tt (fRe_freedBy v2 o0 o1 o2) (QRe_freedBy v2 o0 o1 o2) := by
  have H := hRe_freedBy v2 o0 o1 o2 cfFU
  have hm : (839 : Int) ≤ (cfFU : Nat) := by decide
  have r_o0 : Fr (fr_M [] [2] []) o0 o0 := fr_rfl
  have r_o1 : Fr (fr_M [] [] []) o1 o1 := fr_rfl
  have r_o2 : Fr (fr_M [] [] []) o2 o2 := fr_rfl
  unfold fRe_freedBy fRe_freedBy_0
  refine tt_n (ix_ok (show (0 : Int) ≤ (0 : Int32).toInt ∧ (0 : Int32).toInt ≤ 0 by decide) (by decide) (by decide)) ?_
  refine tt_kv (P := fun z => (0 : Int) ≤ z.toInt ∧ z.toInt ≤ 208) (k_o2.2 2 _) (fun x1 i2 => ?_)
  exact H.1 _ _ _ _ _ k_o0 r_o0 k_o1 r_o1 k_o2 r_o2 i_v2 (iv_w (a := 0) (b := 209) (by decide) (by decide) i2) (show 418 + (209 - x1.toInt) * 2 < ((cfFU : Nat) : Int) by omega)
def QRe_freshSum (o0 : cf_O) (o1 : cf_O) (o2 : cf_O) (r : (Int32 × cf_O)) : Prop := ((0 : Int) ≤ r.1.toInt ∧ r.1.toInt ≤ 417) ∧ (okO I_Gr r.2) ∧ (Fr (fr_M [2, 3] [4, 5, 6, 8, 9] []) o1 r.2) ∧ (GI ((r.2.1 0).toInt + 1) (r.2.1 2).toInt (r.2.2.1 4) (r.2.2.1 5) (r.2.2.1 8) (r.2.2.1 9)) ∧ (r.1.toInt < 2 * (((r.2.1 0).toInt + 1) + (r.2.1 2).toInt)) ∧ ((o1.1 2).toInt ≤ (r.2.1 2).toInt) ∧ ((r.2.1 0).toInt = (o1.1 0).toInt) ∧ True
def HRe_freshSum (yo0 : cf_O) (yo1 : cf_O) (yo2 : cf_O) (n : Nat) : Prop := (∀ (v3 : Int32) (v4 : Int32) (o0 : cf_O) (o1 : cf_O) (o2 : cf_O), (okO I_Re o0) → (Fr (fr_M [] [] []) yo0 o0) → (okO I_Gr o1) → (Fr (fr_M [2, 3] [4, 5, 6, 8, 9] []) yo1 o1) → (okO I_Co o2) → (Fr (fr_M [] [] []) yo2 o2) → ((0 : Int) ≤ v3.toInt ∧ v3.toInt ≤ 417) → ((0 : Int) ≤ v4.toInt ∧ v4.toInt ≤ 16) → (GI ((o1.1 0).toInt + 1) (o1.1 2).toInt (o1.2.1 4) (o1.2.1 5) (o1.2.1 8) (o1.2.1 9)) → (Fcn (o2.1 0).toInt (o2.2.1 2) (o0.2.1 4) (((o1.1 0).toInt + 1) + (o1.1 2).toInt)) → ((yo1.1 2).toInt ≤ (o1.1 2).toInt) → ((o1.1 0).toInt = (yo1.1 0).toInt) → (v3.toInt < 2 * (((o1.1 0).toInt + 1) + (o1.1 2).toInt)) → 0 + (16 - v4.toInt) * 14 < (n : Int) → tt (gRe_freshSum n 0 v3 v4 0 0 o0 o1 o2) (QRe_freshSum yo0 yo1 yo2)) ∧ (∀ (v3 : Int32) (v4 : Int32) (v5 : Int32) (v6 : Int32) (o0 : cf_O) (o1 : cf_O) (o2 : cf_O), (okO I_Re o0) → (Fr (fr_M [] [] []) yo0 o0) → (okO I_Gr o1) → (Fr (fr_M [2, 3] [4, 5, 6, 8, 9] []) yo1 o1) → (okO I_Co o2) → (Fr (fr_M [] [] []) yo2 o2) → ((0 : Int) ≤ v3.toInt ∧ v3.toInt ≤ 417) → ((0 : Int) ≤ v4.toInt ∧ v4.toInt ≤ 15) → ((0 : Int) ≤ v5.toInt ∧ v5.toInt ≤ 417) → ((0 : Int) ≤ v6.toInt ∧ v6.toInt ≤ 5) → ((1 : Int) ≤ (o0.1 11).toInt ∧ (o0.1 11).toInt ≤ 16) → (GI ((o1.1 0).toInt + 1) (o1.1 2).toInt (o1.2.1 4) (o1.2.1 5) (o1.2.1 8) (o1.2.1 9)) → (Fcn (o2.1 0).toInt (o2.2.1 2) (o0.2.1 4) (((o1.1 0).toInt + 1) + (o1.1 2).toInt)) → ((yo1.1 2).toInt ≤ (o1.1 2).toInt) → ((o1.1 0).toInt = (yo1.1 0).toInt) → (v3.toInt < 2 * (((o1.1 0).toInt + 1) + (o1.1 2).toInt)) → (v5.toInt < 2 * (((o1.1 0).toInt + 1) + (o1.1 2).toInt)) → 0 + (16 - v4.toInt - 1) * 14 + 1 + (5 - v6.toInt) * 2 < (n : Int) → tt (gRe_freshSum n 1 v3 v4 v5 v6 o0 o1 o2) (QRe_freshSum yo0 yo1 yo2))
set_option maxHeartbeats 4000000 in
set_option maxRecDepth 100000 in
theorem tRe_freshSum_20 {yo0 : cf_O} {yo1 : cf_O} {yo2 : cf_O} {n : Nat} (H : HRe_freshSum yo0 yo1 yo2 n) (v3 : Int32) (v4 : Int32) (v5 : Int32) (v6 : Int32) (o0 : cf_O) (o1 : cf_O) (o2 : cf_O) (k_o0 : okO I_Re o0) (r_o0 : Fr (fr_M [] [] []) yo0 o0) (k_o1 : okO I_Gr o1) (r_o1 : Fr (fr_M [2, 3] [4, 5, 6, 8, 9] []) yo1 o1) (k_o2 : okO I_Co o2) (r_o2 : Fr (fr_M [] [] []) yo2 o2) (i_v3 : (0 : Int) ≤ v3.toInt ∧ v3.toInt ≤ 417) (i_v4 : (0 : Int) ≤ v4.toInt ∧ v4.toInt ≤ 15) (i_v5 : (0 : Int) ≤ v5.toInt ∧ v5.toInt ≤ 417) (i_v6 : (0 : Int) ≤ v6.toInt ∧ v6.toInt ≤ 5) (f_o0_11 : (1 : Int) ≤ (o0.1 11).toInt ∧ (o0.1 11).toInt ≤ 16) (x_0 : GI ((o1.1 0).toInt + 1) (o1.1 2).toInt (o1.2.1 4) (o1.2.1 5) (o1.2.1 8) (o1.2.1 9)) (x_1 : Fcn (o2.1 0).toInt (o2.2.1 2) (o0.2.1 4) (((o1.1 0).toInt + 1) + (o1.1 2).toInt)) (x_2 : (yo1.1 2).toInt ≤ (o1.1 2).toInt) (x_3 : (o1.1 0).toInt = (yo1.1 0).toInt) (x_4 : v3.toInt < 2 * (((o1.1 0).toInt + 1) + (o1.1 2).toInt)) (x_5 : v5.toInt < 2 * (((o1.1 0).toInt + 1) + (o1.1 2).toInt)) (hm : 0 + (16 - v4.toInt - 1) * 14 + 1 + (5 - v6.toInt) * 2 ≤ (n : Int)) : tt (fRe_freshSum_20 (gRe_freshSum n) v3 v4 v5 v6 o0 o1 o2) (QRe_freshSum yo0 yo1 yo2) := by
  unfold fRe_freshSum_20
  have g_o0_0 : (0 : Int) ≤ (o0.1 0).toInt ∧ (o0.1 0).toInt ≤ 0 := k_o0.1 0
  have ey_o0_0 : (o0.1 0).toInt = (yo0.1 0).toInt := congrArg Int32.toInt (r_o0.1 0 rfl)
  have g_o0_2 : (0 : Int) ≤ (o0.1 2).toInt ∧ (o0.1 2).toInt ≤ 0 := k_o0.1 2
  have ey_o0_2 : (o0.1 2).toInt = (yo0.1 2).toInt := congrArg Int32.toInt (r_o0.1 2 rfl)
  have g_o1_0 : (0 : Int) ≤ (o1.1 0).toInt ∧ (o1.1 0).toInt ≤ 8 := k_o1.1 0
  have ey_o1_0 : (o1.1 0).toInt = (yo1.1 0).toInt := congrArg Int32.toInt (r_o1.1 0 rfl)
  have g_o1_2 : (0 : Int) ≤ (o1.1 2).toInt ∧ (o1.1 2).toInt ≤ 200 := k_o1.1 2
  have g_o2_0 : (0 : Int) ≤ (o2.1 0).toInt ∧ (o2.1 0).toInt ≤ 5 := k_o2.1 0
  have ey_o2_0 : (o2.1 0).toInt = (yo2.1 0).toInt := congrArg Int32.toInt (r_o2.1 0 rfl)
  have g_o2_2 : (0 : Int) ≤ (o2.1 2).toInt ∧ (o2.1 2).toInt ≤ 0 := k_o2.1 2
  have ey_o2_2 : (o2.1 2).toInt = (yo2.1 2).toInt := congrArg Int32.toInt (r_o2.1 2 rfl)
  refine tt_if (fun c1 => ?_) (fun c1 => ?_)
  · have wc1 : (o2.1 0).toInt ≤ v6.toInt := c_le c1
    refine tt_b (sGr_or _ _ _ k_o1 i_v3 i_v5) (fun q2 hq2 => ?_)
    obtain ⟨i_q2, k_q2_2, n_q2_2, zq2_0, -⟩ := hq2
    have r_q2_2 := fr_tr r_o1 n_q2_2 rfl rfl rfl
    have e_q2_2_0 : (q2.2.1 0).toInt = (o1.1 0).toInt := congrArg Int32.toInt (n_q2_2.1 0 rfl)
    have g_q2_2_0 : (0 : Int) ≤ (q2.2.1 0).toInt ∧ (q2.2.1 0).toInt ≤ 8 := k_q2_2.1 0
    have g_q2_2_2 : (0 : Int) ≤ (q2.2.1 2).toInt ∧ (q2.2.1 2).toInt ≤ 200 := k_q2_2.1 2
    have t3 := ((show Anc _ _ _ _ _ _ _ _ _ _ _ _ _ _ by assumption) x_0 (by omega) (by omega))
    refine tt_kv (P := fun z => ((1 : Int) ≤ z.toInt ∧ z.toInt ≤ 16) ∧ z = (v4 + 1) ∧ z.toInt = v4.toInt + 1) ⟨iv_add i_v4 (show (1 : Int) ≤ (1 : Int32).toInt ∧ (1 : Int32).toInt ≤ 1 by decide) (by decide) (by decide) (by decide) (by decide), rfl, iq_add i_v4 (show (1 : Int) ≤ (1 : Int32).toInt ∧ (1 : Int32).toInt ≤ 1 by decide) (by decide) (by decide)⟩ (fun x4 qi5 => ?_)
    obtain ⟨i5, ax4, ei5⟩ := qi5
    have p6 : GI ((q2.2.1 0).toInt + 1) (q2.2.1 2).toInt (q2.2.2.1 4) (q2.2.2.1 5) (q2.2.2.1 8) (q2.2.2.1 9) := by exact GI_b ((show Anc _ _ _ _ _ _ _ _ _ _ _ _ _ _ by assumption) x_0 (by omega) (by omega)).1 (by omega)
    have p7 : Fcn (o2.1 0).toInt (o2.2.1 2) (o0.2.1 4) (((q2.2.1 0).toInt + 1) + (q2.2.1 2).toInt) := by first | exact x_1 | exact Fcn_w x_1 (by omega)
    exact H.1 _ _ _ _ _ k_o0 r_o0 k_q2_2 r_q2_2 k_o2 r_o2 i_q2 (iv_w (a := 0) (b := 16) (by decide) (by decide) i5) p6 p7 (show (yo1.1 2).toInt ≤ (q2.2.1 2).toInt by omega) (show (q2.2.1 0).toInt = (yo1.1 0).toInt by omega) (show q2.1.toInt < 2 * (((q2.2.1 0).toInt + 1) + (q2.2.1 2).toInt) by omega) (show 0 + (16 - x4.toInt) * 14 < (n : Int) by omega)
  · have wc1 : v6.toInt < (o2.1 0).toInt := c_nle c1
    have i8 : (0 : Int) ≤ v6.toInt ∧ v6.toInt ≤ 4 := nr_nlel c1 i_v6 (k_o2.1 0) (by decide) (by decide)
    have i9 : (1 : Int) ≤ (o2.1 0).toInt ∧ (o2.1 0).toInt ≤ 5 := nr_nler c1 i_v6 (k_o2.1 0) (by decide) (by decide)
    refine tt_n (ix_ok i_v4 (by decide) (by decide)) ?_
    refine tt_kv (P := fun z => ((0 : Int) ≤ z.toInt ∧ z.toInt ≤ 80) ∧ z = (o0.2.1 10 v4.toNatClampNeg) ∧ z.toInt = (o0.2.1 10 v4.toNatClampNeg).toInt) ⟨(k_o0.2 10 _), rfl, rfl⟩ (fun x10 qi11 => ?_)
    obtain ⟨i11, ax10, ei11⟩ := qi11
    refine tt_n (ix_ok i8 (by decide) (by decide)) ?_
    refine tt_kv (P := fun z => ((1 : Int) ≤ z.toInt ∧ z.toInt ≤ 81) ∧ z = (cf_powers v6.toNatClampNeg)) ⟨iv_pow1 i8 (by decide) (by decide), rfl⟩ (fun x12 qi13 => ?_)
    obtain ⟨i13, ax12⟩ := qi13
    refine tt_n (iv_nz0 i13 (by decide)) ?_
    refine tt_kv (P := fun z => ((0 : Int) ≤ z.toInt ∧ z.toInt ≤ 80) ∧ z = (x10 / x12)) ⟨iv_divv i11 i13 (by decide) (by decide) (by decide) (by decide), rfl⟩ (fun x14 qi15 => ?_)
    obtain ⟨i15, ax14⟩ := qi15
    refine tt_kv (P := fun z => ((0 : Int) ≤ z.toInt ∧ z.toInt ≤ 2) ∧ z = (x14 - ((x14 / 3) * 3)) ∧ z.toInt = x14.toInt % 3) ⟨iv_rem (k := 3) i15 (show (3 : Int) ≤ (3 : Int32).toInt ∧ (3 : Int32).toInt ≤ 3 by decide) (by decide) (by decide) (by decide) (by decide), rfl, i_rem (x := x14) (y := 3) (Int.le_trans (by decide) i15.1) (by decide)⟩ (fun x16 qi17 => ?_)
    obtain ⟨i17, ax16, ei17⟩ := qi17
    refine tt_if (fun c18 => ?_) (fun c18 => ?_)
    · have wc18 : x16.toInt = (0 : Int) := c_eq c18
      have i19 : (0 : Int) ≤ x16.toInt ∧ x16.toInt ≤ 0 := nr_eql c18 i17 (show (0 : Int) ≤ (0 : Int32).toInt ∧ (0 : Int32).toInt ≤ 0 by decide) (by decide) (by decide)
      try unfold fRe_freshSum_77
      refine tt_kv (P := fun z => ((1 : Int) ≤ z.toInt ∧ z.toInt ≤ 5) ∧ z = (v6 + 1) ∧ z.toInt = v6.toInt + 1) ⟨iv_add i8 (show (1 : Int) ≤ (1 : Int32).toInt ∧ (1 : Int32).toInt ≤ 1 by decide) (by decide) (by decide) (by decide) (by decide), rfl, iq_add i8 (show (1 : Int) ≤ (1 : Int32).toInt ∧ (1 : Int32).toInt ≤ 1 by decide) (by decide) (by decide)⟩ (fun x20 qi21 => ?_)
      obtain ⟨i21, ax20, ei21⟩ := qi21
      exact H.2 _ _ _ _ _ _ _ k_o0 r_o0 k_o1 r_o1 k_o2 r_o2 i_v3 i_v4 i_v5 (iv_w (a := 0) (b := 5) (by decide) (by decide) i21) f_o0_11 x_0 x_1 (show (yo1.1 2).toInt ≤ (o1.1 2).toInt by omega) (show (o1.1 0).toInt = (yo1.1 0).toInt by omega) (show v3.toInt < 2 * (((o1.1 0).toInt + 1) + (o1.1 2).toInt) by omega) (show v5.toInt < 2 * (((o1.1 0).toInt + 1) + (o1.1 2).toInt) by omega) (show 0 + (16 - v4.toInt - 1) * 14 + 1 + (5 - x20.toInt) * 2 < (n : Int) by omega)
    · have wc18 : ¬ x16.toInt = (0 : Int) := c_ne c18
      have i22 : (1 : Int) ≤ x16.toInt ∧ x16.toInt ≤ 2 := nr_nela c18 i17 (show (0 : Int) ≤ (0 : Int32).toInt ∧ (0 : Int32).toInt ≤ 0 by decide) (by decide) (by decide)
      refine tt_n (ix_ok i8 (by decide) (by decide)) ?_
      refine tt_kv (P := fun z => ((0 : Int) ≤ z.toInt ∧ z.toInt ≤ 208) ∧ z = (o2.2.1 2 v6.toNatClampNeg) ∧ z.toInt = (o2.2.1 2 v6.toNatClampNeg).toInt) ⟨(k_o2.2 2 _), rfl, rfl⟩ (fun x23 qi24 => ?_)
      obtain ⟨i24, ax23, ei24⟩ := qi24
      refine tt_n (ix_ok i24 (by decide) (by decide)) ?_
      refine tt_kv (P := fun z => ((0 : Int) ≤ z.toInt ∧ z.toInt ≤ 417) ∧ z = (o0.2.1 4 x23.toNatClampNeg) ∧ z.toInt = (o0.2.1 4 x23.toNatClampNeg).toInt) ⟨(k_o0.2 4 _), rfl, rfl⟩ (fun x25 qi26 => ?_)
      obtain ⟨i26, ax25, ei26⟩ := qi26
      have t27 := Fcn_at (j := v6.toNatClampNeg) x_1 ax25 (by assumption) (by rw [tn_n]; omega)
      refine tt_kv (P := fun z => ((0 : Int) ≤ z.toInt ∧ z.toInt ≤ 1) ∧ z = (x16 - 1) ∧ z.toInt = x16.toInt - 1) ⟨iv_sub i22 (show (1 : Int) ≤ (1 : Int32).toInt ∧ (1 : Int32).toInt ≤ 1 by decide) (by decide) (by decide) (by decide) (by decide), rfl, iq_sub i22 (show (1 : Int) ≤ (1 : Int32).toInt ∧ (1 : Int32).toInt ≤ 1 by decide) (by decide) (by decide)⟩ (fun x28 qi29 => ?_)
      obtain ⟨i29, ax28, ei29⟩ := qi29
      refine tt_kv (P := fun z => ((0 : Int) ≤ z.toInt ∧ z.toInt ≤ 417) ∧ z = (x25 ^^^ x28) ∧ z.toInt = x25.toInt - x25.toInt % 2 + (x25.toInt + x28.toInt) % 2) ⟨iv_x1 i26 i29 (by decide) (by decide) (by decide) (by decide) (by decide), rfl, i_xb (Int.le_trans (by decide) i26.1) (Int.le_trans (by decide) i29.1) (Int.le_trans i29.2 (by decide))⟩ (fun x30 qi31 => ?_)
      obtain ⟨i31, ax30, ei31⟩ := qi31
      refine tt_b (sGr_and _ _ _ k_o1 i_v5 i31) (fun q32 hq32 => ?_)
      obtain ⟨i_q32, k_q32_2, n_q32_2, zq32_0, -⟩ := hq32
      have r_q32_2 := fr_tr r_o1 n_q32_2 rfl rfl rfl
      have e_q32_2_0 : (q32.2.1 0).toInt = (o1.1 0).toInt := congrArg Int32.toInt (n_q32_2.1 0 rfl)
      have g_q32_2_0 : (0 : Int) ≤ (q32.2.1 0).toInt ∧ (q32.2.1 0).toInt ≤ 8 := k_q32_2.1 0
      have g_q32_2_2 : (0 : Int) ≤ (q32.2.1 2).toInt ∧ (q32.2.1 2).toInt ≤ 200 := k_q32_2.1 2
      have t33 := ((show Anc _ _ _ _ _ _ _ _ _ _ _ _ _ _ by assumption) x_0 (by omega) (by omega))
      try unfold fRe_freshSum_77
      refine tt_kv (P := fun z => ((1 : Int) ≤ z.toInt ∧ z.toInt ≤ 5) ∧ z = (v6 + 1) ∧ z.toInt = v6.toInt + 1) ⟨iv_add i8 (show (1 : Int) ≤ (1 : Int32).toInt ∧ (1 : Int32).toInt ≤ 1 by decide) (by decide) (by decide) (by decide) (by decide), rfl, iq_add i8 (show (1 : Int) ≤ (1 : Int32).toInt ∧ (1 : Int32).toInt ≤ 1 by decide) (by decide) (by decide)⟩ (fun x34 qi35 => ?_)
      obtain ⟨i35, ax34, ei35⟩ := qi35
      have p36 : GI ((q32.2.1 0).toInt + 1) (q32.2.1 2).toInt (q32.2.2.1 4) (q32.2.2.1 5) (q32.2.2.1 8) (q32.2.2.1 9) := by exact GI_b ((show Anc _ _ _ _ _ _ _ _ _ _ _ _ _ _ by assumption) x_0 (by omega) (by omega)).1 (by omega)
      have p37 : Fcn (o2.1 0).toInt (o2.2.1 2) (o0.2.1 4) (((q32.2.1 0).toInt + 1) + (q32.2.1 2).toInt) := by first | exact x_1 | exact Fcn_w x_1 (by omega)
      exact H.2 _ _ _ _ _ _ _ k_o0 r_o0 k_q32_2 r_q32_2 k_o2 r_o2 i_v3 i_v4 i_q32 (iv_w (a := 0) (b := 5) (by decide) (by decide) i35) f_o0_11 p36 p37 (show (yo1.1 2).toInt ≤ (q32.2.1 2).toInt by omega) (show (q32.2.1 0).toInt = (yo1.1 0).toInt by omega) (show v3.toInt < 2 * (((q32.2.1 0).toInt + 1) + (q32.2.1 2).toInt) by omega) (show q32.1.toInt < 2 * (((q32.2.1 0).toInt + 1) + (q32.2.1 2).toInt) by omega) (show 0 + (16 - v4.toInt - 1) * 14 + 1 + (5 - x34.toInt) * 2 < (n : Int) by omega)
set_option maxHeartbeats 4000000 in
set_option maxRecDepth 100000 in
theorem tRe_freshSum_5 {yo0 : cf_O} {yo1 : cf_O} {yo2 : cf_O} {n : Nat} (H : HRe_freshSum yo0 yo1 yo2 n) (v3 : Int32) (v4 : Int32) (o0 : cf_O) (o1 : cf_O) (o2 : cf_O) (k_o0 : okO I_Re o0) (r_o0 : Fr (fr_M [] [] []) yo0 o0) (k_o1 : okO I_Gr o1) (r_o1 : Fr (fr_M [2, 3] [4, 5, 6, 8, 9] []) yo1 o1) (k_o2 : okO I_Co o2) (r_o2 : Fr (fr_M [] [] []) yo2 o2) (i_v3 : (0 : Int) ≤ v3.toInt ∧ v3.toInt ≤ 417) (i_v4 : (0 : Int) ≤ v4.toInt ∧ v4.toInt ≤ 16) (x_0 : GI ((o1.1 0).toInt + 1) (o1.1 2).toInt (o1.2.1 4) (o1.2.1 5) (o1.2.1 8) (o1.2.1 9)) (x_1 : Fcn (o2.1 0).toInt (o2.2.1 2) (o0.2.1 4) (((o1.1 0).toInt + 1) + (o1.1 2).toInt)) (x_2 : (yo1.1 2).toInt ≤ (o1.1 2).toInt) (x_3 : (o1.1 0).toInt = (yo1.1 0).toInt) (x_4 : v3.toInt < 2 * (((o1.1 0).toInt + 1) + (o1.1 2).toInt)) (hm : 0 + (16 - v4.toInt) * 14 ≤ (n : Int)) : tt (fRe_freshSum_5 (gRe_freshSum n) v3 v4 o0 o1 o2) (QRe_freshSum yo0 yo1 yo2) := by
  unfold fRe_freshSum_5
  have g_o0_0 : (0 : Int) ≤ (o0.1 0).toInt ∧ (o0.1 0).toInt ≤ 0 := k_o0.1 0
  have ey_o0_0 : (o0.1 0).toInt = (yo0.1 0).toInt := congrArg Int32.toInt (r_o0.1 0 rfl)
  have g_o0_2 : (0 : Int) ≤ (o0.1 2).toInt ∧ (o0.1 2).toInt ≤ 0 := k_o0.1 2
  have ey_o0_2 : (o0.1 2).toInt = (yo0.1 2).toInt := congrArg Int32.toInt (r_o0.1 2 rfl)
  have g_o1_0 : (0 : Int) ≤ (o1.1 0).toInt ∧ (o1.1 0).toInt ≤ 8 := k_o1.1 0
  have ey_o1_0 : (o1.1 0).toInt = (yo1.1 0).toInt := congrArg Int32.toInt (r_o1.1 0 rfl)
  have g_o1_2 : (0 : Int) ≤ (o1.1 2).toInt ∧ (o1.1 2).toInt ≤ 200 := k_o1.1 2
  have g_o2_0 : (0 : Int) ≤ (o2.1 0).toInt ∧ (o2.1 0).toInt ≤ 5 := k_o2.1 0
  have ey_o2_0 : (o2.1 0).toInt = (yo2.1 0).toInt := congrArg Int32.toInt (r_o2.1 0 rfl)
  have g_o2_2 : (0 : Int) ≤ (o2.1 2).toInt ∧ (o2.1 2).toInt ≤ 0 := k_o2.1 2
  have ey_o2_2 : (o2.1 2).toInt = (yo2.1 2).toInt := congrArg Int32.toInt (r_o2.1 2 rfl)
  refine tt_if (fun c1 => ?_) (fun c1 => ?_)
  · have wc1 : (o0.1 11).toInt ≤ v4.toInt := c_le c1
    exact tt_some ⟨i_v3, k_o1, r_o1, x_0, (show v3.toInt < 2 * (((o1.1 0).toInt + 1) + (o1.1 2).toInt) by omega), (show (yo1.1 2).toInt ≤ (o1.1 2).toInt by omega), (show (o1.1 0).toInt = (yo1.1 0).toInt by omega), trivial⟩
  · have wc1 : v4.toInt < (o0.1 11).toInt := c_nle c1
    have i2 : (0 : Int) ≤ v4.toInt ∧ v4.toInt ≤ 15 := nr_nlel c1 i_v4 (k_o0.1 11) (by decide) (by decide)
    have i3 : (1 : Int) ≤ (o0.1 11).toInt ∧ (o0.1 11).toInt ≤ 16 := nr_nler c1 i_v4 (k_o0.1 11) (by decide) (by decide)
    exact H.2 _ _ _ _ _ _ _ k_o0 r_o0 k_o1 r_o1 k_o2 r_o2 i_v3 i2 (iv_w (a := 0) (b := 417) (by decide) (by decide) (show (1 : Int) ≤ (1 : Int32).toInt ∧ (1 : Int32).toInt ≤ 1 by decide)) (iv_w (a := 0) (b := 5) (by decide) (by decide) (show (0 : Int) ≤ (0 : Int32).toInt ∧ (0 : Int32).toInt ≤ 0 by decide)) i3 x_0 x_1 (show (yo1.1 2).toInt ≤ (o1.1 2).toInt by omega) (show (o1.1 0).toInt = (yo1.1 0).toInt by omega) (show v3.toInt < 2 * (((o1.1 0).toInt + 1) + (o1.1 2).toInt) by omega) (show 1 < 2 * (((o1.1 0).toInt + 1) + (o1.1 2).toInt) by omega) (show 0 + (16 - v4.toInt - 1) * 14 + 1 + (5 - 0) * 2 < (n : Int) by omega)
set_option maxHeartbeats 4000000 in
set_option maxRecDepth 100000 in
theorem hRe_freshSum (yo0 : cf_O) (yo1 : cf_O) (yo2 : cf_O) : ∀ n, HRe_freshSum yo0 yo1 yo2 n := by
  intro n
  induction n with
  | zero => exact ⟨(fun v3 v4 o0 o1 o2 k_o0 r_o0 k_o1 r_o1 k_o2 r_o2 i_v3 i_v4 x_0 x_1 x_2 x_3 x_4 hm => by exact absurd (show 0 + (16 - v4.toInt) * 14 < (0 : Int) from hm) (by omega)), (fun v3 v4 v5 v6 o0 o1 o2 k_o0 r_o0 k_o1 r_o1 k_o2 r_o2 i_v3 i_v4 i_v5 i_v6 f_o0_11 x_0 x_1 x_2 x_3 x_4 x_5 hm => by exact absurd (show 0 + (16 - v4.toInt - 1) * 14 + 1 + (5 - v6.toInt) * 2 < (0 : Int) from hm) (by omega))⟩
  | succ n ih => exact ⟨(fun v3 v4 o0 o1 o2 k_o0 r_o0 k_o1 r_o1 k_o2 r_o2 i_v3 i_v4 x_0 x_1 x_2 x_3 x_4 hm => tRe_freshSum_5 ih v3 v4 o0 o1 o2 k_o0 r_o0 k_o1 r_o1 k_o2 r_o2 i_v3 i_v4 x_0 x_1 x_2 x_3 x_4 (by omega)), (fun v3 v4 v5 v6 o0 o1 o2 k_o0 r_o0 k_o1 r_o1 k_o2 r_o2 i_v3 i_v4 i_v5 i_v6 f_o0_11 x_0 x_1 x_2 x_3 x_4 x_5 hm => tRe_freshSum_20 ih v3 v4 v5 v6 o0 o1 o2 k_o0 r_o0 k_o1 r_o1 k_o2 r_o2 i_v3 i_v4 i_v5 i_v6 f_o0_11 x_0 x_1 x_2 x_3 x_4 x_5 (by omega))⟩
set_option maxHeartbeats 4000000 in
set_option maxRecDepth 100000 in
theorem sRe_freshSum (o0 : cf_O) (o1 : cf_O) (o2 : cf_O) (k_o0 : okO I_Re o0) (k_o1 : okO I_Gr o1) (k_o2 : okO I_Co o2) (f_o2_1 : ((-2147483648) : Int) ≤ (o2.1 1).toInt ∧ (o2.1 1).toInt ≤ 2147483647) (x_0 : GI ((o1.1 0).toInt + 1) (o1.1 2).toInt (o1.2.1 4) (o1.2.1 5) (o1.2.1 8) (o1.2.1 9)) (x_1 : Fcn (o2.1 0).toInt (o2.2.1 2) (o0.2.1 4) (((o1.1 0).toInt + 1) + (o1.1 2).toInt)) : tt (fRe_freshSum o0 o1 o2) (QRe_freshSum o0 o1 o2) := by
  have H := hRe_freshSum o0 o1 o2 cfFU
  have hm : (227 : Int) ≤ (cfFU : Nat) := by decide
  have r_o0 : Fr (fr_M [] [] []) o0 o0 := fr_rfl
  have r_o1 : Fr (fr_M [2, 3] [4, 5, 6, 8, 9] []) o1 o1 := fr_rfl
  have r_o2 : Fr (fr_M [] [] []) o2 o2 := fr_rfl
  unfold fRe_freshSum fRe_freshSum_0
  have g_o0_0 : (0 : Int) ≤ (o0.1 0).toInt ∧ (o0.1 0).toInt ≤ 0 := k_o0.1 0
  have g_o0_2 : (0 : Int) ≤ (o0.1 2).toInt ∧ (o0.1 2).toInt ≤ 0 := k_o0.1 2
  have g_o1_0 : (0 : Int) ≤ (o1.1 0).toInt ∧ (o1.1 0).toInt ≤ 8 := k_o1.1 0
  have g_o1_2 : (0 : Int) ≤ (o1.1 2).toInt ∧ (o1.1 2).toInt ≤ 200 := k_o1.1 2
  have g_o2_0 : (0 : Int) ≤ (o2.1 0).toInt ∧ (o2.1 0).toInt ≤ 5 := k_o2.1 0
  have g_o2_2 : (0 : Int) ≤ (o2.1 2).toInt ∧ (o2.1 2).toInt ≤ 0 := k_o2.1 2
  exact H.1 _ _ _ _ _ k_o0 r_o0 k_o1 r_o1 k_o2 r_o2 (iv_w (a := 0) (b := 417) (by decide) (by decide) (show (0 : Int) ≤ (0 : Int32).toInt ∧ (0 : Int32).toInt ≤ 0 by decide)) (iv_w (a := 0) (b := 16) (by decide) (by decide) (show (0 : Int) ≤ (0 : Int32).toInt ∧ (0 : Int32).toInt ≤ 0 by decide)) x_0 x_1 (show (o1.1 2).toInt ≤ (o1.1 2).toInt by omega) (show (o1.1 0).toInt = (o1.1 0).toInt by omega) (show 0 < 2 * (((o1.1 0).toInt + 1) + (o1.1 2).toInt) by omega) (show 0 + (16 - 0) * 14 < ((cfFU : Nat) : Int) by omega)
def QRe_makeRewritten (o0 : cf_O) (o1 : cf_O) (o2 : cf_O) (o3 : cf_O) (o4 : cf_O) (r : (cf_O × cf_O × cf_O)) : Prop := (okO I_Re r.1) ∧ (Fr (fr_M [11] [0, 1, 2, 4, 10] []) o0 r.1) ∧ (okO I_Gr r.2.1) ∧ (Fr (fr_M [0, 1, 2, 3] [4, 5, 6, 7, 8, 9] []) o2 r.2.1) ∧ (okO I_Co r.2.2) ∧ (Fr (fr_M [0, 1] [2, 3, 4] []) o4 r.2.2) ∧ (GI ((r.2.1.1 0).toInt + 1) (r.2.1.1 2).toInt (r.2.1.2.1 4) (r.2.1.2.1 5) (r.2.1.2.1 8) (r.2.1.2.1 9)) ∧ (No (o1.1 1).toInt (((r.2.1.1 0).toInt + 1) + (r.2.1.1 2).toInt) (r.2.1.2.1 7)) ∧ ((r.2.1.1 0).toInt = (o1.1 0).toInt) ∧ ((r.2.1.1 1).toInt = (o1.1 1).toInt) ∧ True
def HRe_makeRewritten (yo0 : cf_O) (yo1 : cf_O) (yo2 : cf_O) (yo3 : cf_O) (yo4 : cf_O) (n : Nat) : Prop := (∀ (v5 : Int32) (o0 : cf_O) (o1 : cf_O) (o2 : cf_O) (o3 : cf_O) (o4 : cf_O), (okO I_Re o0) → (Fr (fr_M [11] [0, 1, 2, 4, 10] []) yo0 o0) → (okO I_Gr o1) → (Fr (fr_M [] [] []) yo1 o1) → (okO I_Gr o2) → (Fr (fr_M [0, 1, 2, 3] [4, 5, 6, 7, 8, 9] []) yo2 o2) → (okO I_Cu o3) → (Fr (fr_M [] [] []) yo3 o3) → (okO I_Co o4) → (Fr (fr_M [0, 1] [2, 3, 4] []) yo4 o4) → ((1 : Int) ≤ v5.toInt ∧ v5.toInt ≤ 209) → ((0 : Int) ≤ (o3.1 0).toInt ∧ (o3.1 0).toInt ≤ 5) → (Gx ((o1.1 0).toInt + 1) (o1.1 2).toInt (sh ((o1.1 0).toInt + 1) (o1.2.1 4)) (sh ((o1.1 0).toInt + 1) (o1.2.1 5))) → (Lk (-1) ((o1.1 0).toInt + 1) (o1.1 2).toInt (o1.1 1).toInt (o1.2.1 7) (sh ((o1.1 0).toInt + 1) (o1.2.1 4)) (sh ((o1.1 0).toInt + 1) (o1.2.1 5)) (cu (((o1.1 0).toInt + 1) + (o1.1 2).toInt) (o0.2.1 0)) (cu (((o1.1 0).toInt + 1) + (o1.1 2).toInt) (o0.2.1 1))) → (GI ((o2.1 0).toInt + 1) (o2.1 2).toInt (o2.2.1 4) (o2.2.1 5) (o2.2.1 8) (o2.2.1 9)) → (Rn v5.toInt ((o1.1 0).toInt + 1) (((o2.1 0).toInt + 1) + (o2.1 2).toInt) (cu (((o1.1 0).toInt + 1) + (o1.1 2).toInt) (o0.2.1 0)) (o0.2.1 4)) → (No (o1.1 1).toInt (((o1.1 0).toInt + 1) + (o1.1 2).toInt) (o1.2.1 7)) → (Fqs (o3.1 0).toInt (o1.1 0).toInt (((o1.1 0).toInt + 1) + (o1.1 2).toInt) (o3.1 3).toInt (o3.2.1 2) (o3.2.1 1) (o3.2.2 4)) → (Rcf (o3.1 0).toInt (o3.1 3).toInt (o1.1 0).toInt (((o1.1 0).toInt + 1) + (o1.1 2).toInt) (o1.2.1 4) (o1.2.1 5) (o3.2.1 2) (o3.2.2 4)) → ((o1.1 0).toInt < v5.toInt) → (v5.toInt ≤ 1 + (o1.1 0).toInt + (o1.1 2).toInt) → ((o2.1 0).toInt = (o1.1 0).toInt) → ((o3.1 0).toInt = 4) → ((o3.1 3).toInt ≤ (o3.1 4).toInt) → ((o2.1 1).toInt = (o1.1 1).toInt) → 0 + (209 - v5.toInt) * 2 < (n : Int) → tt (gRe_makeRewritten n 0 v5 o0 o1 o2 o3 o4) (QRe_makeRewritten yo0 yo1 yo2 yo3 yo4))
set_option maxHeartbeats 4000000 in
set_option maxRecDepth 100000 in
theorem tRe_makeRewritten_14 {yo0 : cf_O} {yo1 : cf_O} {yo2 : cf_O} {yo3 : cf_O} {yo4 : cf_O} {n : Nat} (H : HRe_makeRewritten yo0 yo1 yo2 yo3 yo4 n) (v5 : Int32) (o0 : cf_O) (o1 : cf_O) (o2 : cf_O) (o3 : cf_O) (o4 : cf_O) (k_o0 : okO I_Re o0) (r_o0 : Fr (fr_M [11] [0, 1, 2, 4, 10] []) yo0 o0) (k_o1 : okO I_Gr o1) (r_o1 : Fr (fr_M [] [] []) yo1 o1) (k_o2 : okO I_Gr o2) (r_o2 : Fr (fr_M [0, 1, 2, 3] [4, 5, 6, 7, 8, 9] []) yo2 o2) (k_o3 : okO I_Cu o3) (r_o3 : Fr (fr_M [] [] []) yo3 o3) (k_o4 : okO I_Co o4) (r_o4 : Fr (fr_M [0, 1] [2, 3, 4] []) yo4 o4) (i_v5 : (1 : Int) ≤ v5.toInt ∧ v5.toInt ≤ 209) (f_o3_0 : (0 : Int) ≤ (o3.1 0).toInt ∧ (o3.1 0).toInt ≤ 5) (x_0 : Gx ((o1.1 0).toInt + 1) (o1.1 2).toInt (sh ((o1.1 0).toInt + 1) (o1.2.1 4)) (sh ((o1.1 0).toInt + 1) (o1.2.1 5))) (x_1 : Lk (-1) ((o1.1 0).toInt + 1) (o1.1 2).toInt (o1.1 1).toInt (o1.2.1 7) (sh ((o1.1 0).toInt + 1) (o1.2.1 4)) (sh ((o1.1 0).toInt + 1) (o1.2.1 5)) (cu (((o1.1 0).toInt + 1) + (o1.1 2).toInt) (o0.2.1 0)) (cu (((o1.1 0).toInt + 1) + (o1.1 2).toInt) (o0.2.1 1))) (x_2 : GI ((o2.1 0).toInt + 1) (o2.1 2).toInt (o2.2.1 4) (o2.2.1 5) (o2.2.1 8) (o2.2.1 9)) (x_3 : Rn v5.toInt ((o1.1 0).toInt + 1) (((o2.1 0).toInt + 1) + (o2.1 2).toInt) (cu (((o1.1 0).toInt + 1) + (o1.1 2).toInt) (o0.2.1 0)) (o0.2.1 4)) (x_4 : No (o1.1 1).toInt (((o1.1 0).toInt + 1) + (o1.1 2).toInt) (o1.2.1 7)) (x_5 : Fqs (o3.1 0).toInt (o1.1 0).toInt (((o1.1 0).toInt + 1) + (o1.1 2).toInt) (o3.1 3).toInt (o3.2.1 2) (o3.2.1 1) (o3.2.2 4)) (x_6 : Rcf (o3.1 0).toInt (o3.1 3).toInt (o1.1 0).toInt (((o1.1 0).toInt + 1) + (o1.1 2).toInt) (o1.2.1 4) (o1.2.1 5) (o3.2.1 2) (o3.2.2 4)) (x_7 : (o1.1 0).toInt < v5.toInt) (x_8 : v5.toInt ≤ 1 + (o1.1 0).toInt + (o1.1 2).toInt) (x_9 : (o2.1 0).toInt = (o1.1 0).toInt) (x_10 : (o3.1 0).toInt = 4) (x_11 : (o3.1 3).toInt ≤ (o3.1 4).toInt) (x_12 : (o2.1 1).toInt = (o1.1 1).toInt) (hm : 0 + (209 - v5.toInt) * 2 ≤ (n : Int)) : tt (fRe_makeRewritten_14 (gRe_makeRewritten n) v5 o0 o1 o2 o3 o4) (QRe_makeRewritten yo0 yo1 yo2 yo3 yo4) := by
  unfold fRe_makeRewritten_14
  have g_o0_0 : (0 : Int) ≤ (o0.1 0).toInt ∧ (o0.1 0).toInt ≤ 0 := k_o0.1 0
  have ey_o0_0 : (o0.1 0).toInt = (yo0.1 0).toInt := congrArg Int32.toInt (r_o0.1 0 rfl)
  have g_o0_1 : (0 : Int) ≤ (o0.1 1).toInt ∧ (o0.1 1).toInt ≤ 0 := k_o0.1 1
  have ey_o0_1 : (o0.1 1).toInt = (yo0.1 1).toInt := congrArg Int32.toInt (r_o0.1 1 rfl)
  have g_o0_2 : (0 : Int) ≤ (o0.1 2).toInt ∧ (o0.1 2).toInt ≤ 0 := k_o0.1 2
  have ey_o0_2 : (o0.1 2).toInt = (yo0.1 2).toInt := congrArg Int32.toInt (r_o0.1 2 rfl)
  have g_o0_3 : (0 : Int) ≤ (o0.1 3).toInt ∧ (o0.1 3).toInt ≤ 0 := k_o0.1 3
  have ey_o0_3 : (o0.1 3).toInt = (yo0.1 3).toInt := congrArg Int32.toInt (r_o0.1 3 rfl)
  have g_o0_4 : (0 : Int) ≤ (o0.1 4).toInt ∧ (o0.1 4).toInt ≤ 0 := k_o0.1 4
  have ey_o0_4 : (o0.1 4).toInt = (yo0.1 4).toInt := congrArg Int32.toInt (r_o0.1 4 rfl)
  have g_o0_7 : (0 : Int) ≤ (o0.1 7).toInt ∧ (o0.1 7).toInt ≤ 210 := k_o0.1 7
  have ey_o0_7 : (o0.1 7).toInt = (yo0.1 7).toInt := congrArg Int32.toInt (r_o0.1 7 rfl)
  have g_o1_0 : (0 : Int) ≤ (o1.1 0).toInt ∧ (o1.1 0).toInt ≤ 8 := k_o1.1 0
  have ey_o1_0 : (o1.1 0).toInt = (yo1.1 0).toInt := congrArg Int32.toInt (r_o1.1 0 rfl)
  have g_o1_1 : (0 : Int) ≤ (o1.1 1).toInt ∧ (o1.1 1).toInt ≤ 6 := k_o1.1 1
  have ey_o1_1 : (o1.1 1).toInt = (yo1.1 1).toInt := congrArg Int32.toInt (r_o1.1 1 rfl)
  have g_o1_2 : (0 : Int) ≤ (o1.1 2).toInt ∧ (o1.1 2).toInt ≤ 200 := k_o1.1 2
  have ey_o1_2 : (o1.1 2).toInt = (yo1.1 2).toInt := congrArg Int32.toInt (r_o1.1 2 rfl)
  have g_o1_3 : (0 : Int) ≤ (o1.1 3).toInt ∧ (o1.1 3).toInt ≤ 1 := k_o1.1 3
  have ey_o1_3 : (o1.1 3).toInt = (yo1.1 3).toInt := congrArg Int32.toInt (r_o1.1 3 rfl)
  have g_o1_4 : (0 : Int) ≤ (o1.1 4).toInt ∧ (o1.1 4).toInt ≤ 0 := k_o1.1 4
  have ey_o1_4 : (o1.1 4).toInt = (yo1.1 4).toInt := congrArg Int32.toInt (r_o1.1 4 rfl)
  have g_o1_7 : (0 : Int) ≤ (o1.1 7).toInt ∧ (o1.1 7).toInt ≤ 0 := k_o1.1 7
  have ey_o1_7 : (o1.1 7).toInt = (yo1.1 7).toInt := congrArg Int32.toInt (r_o1.1 7 rfl)
  have g_o2_0 : (0 : Int) ≤ (o2.1 0).toInt ∧ (o2.1 0).toInt ≤ 8 := k_o2.1 0
  have g_o2_1 : (0 : Int) ≤ (o2.1 1).toInt ∧ (o2.1 1).toInt ≤ 6 := k_o2.1 1
  have g_o2_2 : (0 : Int) ≤ (o2.1 2).toInt ∧ (o2.1 2).toInt ≤ 200 := k_o2.1 2
  have g_o2_3 : (0 : Int) ≤ (o2.1 3).toInt ∧ (o2.1 3).toInt ≤ 1 := k_o2.1 3
  have g_o2_4 : (0 : Int) ≤ (o2.1 4).toInt ∧ (o2.1 4).toInt ≤ 0 := k_o2.1 4
  have ey_o2_4 : (o2.1 4).toInt = (yo2.1 4).toInt := congrArg Int32.toInt (r_o2.1 4 rfl)
  have g_o2_7 : (0 : Int) ≤ (o2.1 7).toInt ∧ (o2.1 7).toInt ≤ 0 := k_o2.1 7
  have ey_o2_7 : (o2.1 7).toInt = (yo2.1 7).toInt := congrArg Int32.toInt (r_o2.1 7 rfl)
  have ey_o3_0 : (o3.1 0).toInt = (yo3.1 0).toInt := congrArg Int32.toInt (r_o3.1 0 rfl)
  have g_o3_1 : (0 : Int) ≤ (o3.1 1).toInt ∧ (o3.1 1).toInt ≤ 0 := k_o3.1 1
  have ey_o3_1 : (o3.1 1).toInt = (yo3.1 1).toInt := congrArg Int32.toInt (r_o3.1 1 rfl)
  have g_o3_2 : (0 : Int) ≤ (o3.1 2).toInt ∧ (o3.1 2).toInt ≤ 0 := k_o3.1 2
  have ey_o3_2 : (o3.1 2).toInt = (yo3.1 2).toInt := congrArg Int32.toInt (r_o3.1 2 rfl)
  have g_o3_3 : (0 : Int) ≤ (o3.1 3).toInt ∧ (o3.1 3).toInt ≤ 62909 := k_o3.1 3
  have ey_o3_3 : (o3.1 3).toInt = (yo3.1 3).toInt := congrArg Int32.toInt (r_o3.1 3 rfl)
  have g_o3_4 : (1024 : Int) ≤ (o3.1 4).toInt ∧ (o3.1 4).toInt ≤ 131072 := k_o3.1 4
  have ey_o3_4 : (o3.1 4).toInt = (yo3.1 4).toInt := congrArg Int32.toInt (r_o3.1 4 rfl)
  have g_o3_7 : (0 : Int) ≤ (o3.1 7).toInt ∧ (o3.1 7).toInt ≤ 0 := k_o3.1 7
  have ey_o3_7 : (o3.1 7).toInt = (yo3.1 7).toInt := congrArg Int32.toInt (r_o3.1 7 rfl)
  have g_o4_0 : (0 : Int) ≤ (o4.1 0).toInt ∧ (o4.1 0).toInt ≤ 5 := k_o4.1 0
  have g_o4_1 : ((-2147483648) : Int) ≤ (o4.1 1).toInt ∧ (o4.1 1).toInt ≤ 2147483647 := k_o4.1 1
  have g_o4_2 : (0 : Int) ≤ (o4.1 2).toInt ∧ (o4.1 2).toInt ≤ 0 := k_o4.1 2
  have ey_o4_2 : (o4.1 2).toInt = (yo4.1 2).toInt := congrArg Int32.toInt (r_o4.1 2 rfl)
  have g_o4_3 : (0 : Int) ≤ (o4.1 3).toInt ∧ (o4.1 3).toInt ≤ 0 := k_o4.1 3
  have ey_o4_3 : (o4.1 3).toInt = (yo4.1 3).toInt := congrArg Int32.toInt (r_o4.1 3 rfl)
  have g_o4_4 : (0 : Int) ≤ (o4.1 4).toInt ∧ (o4.1 4).toInt ≤ 0 := k_o4.1 4
  have ey_o4_4 : (o4.1 4).toInt = (yo4.1 4).toInt := congrArg Int32.toInt (r_o4.1 4 rfl)
  have g_o4_7 : (0 : Int) ≤ (o4.1 7).toInt ∧ (o4.1 7).toInt ≤ 0 := k_o4.1 7
  have ey_o4_7 : (o4.1 7).toInt = (yo4.1 7).toInt := congrArg Int32.toInt (r_o4.1 7 rfl)
  try unfold fGr_size
  try unfold fGr_size_0
  refine tt_bkv (P := fun z => ((1 : Int) ≤ z.toInt ∧ z.toInt ≤ 9) ∧ z = (1 + (o1.1 0)) ∧ z.toInt = 1 + (o1.1 0).toInt) ⟨iv_add (show (1 : Int) ≤ (1 : Int32).toInt ∧ (1 : Int32).toInt ≤ 1 by decide) (k_o1.1 0) (by decide) (by decide) (by decide) (by decide), rfl, iq_add (show (1 : Int) ≤ (1 : Int32).toInt ∧ (1 : Int32).toInt ≤ 1 by decide) (k_o1.1 0) (by decide) (by decide)⟩ (fun x1 qi2 => ?_)
  obtain ⟨i2, ax1, ei2⟩ := qi2
  refine tt_bkv (P := fun z => ((1 : Int) ≤ z.toInt ∧ z.toInt ≤ 209) ∧ z = (x1 + (o1.1 2)) ∧ z.toInt = x1.toInt + (o1.1 2).toInt) ⟨iv_add i2 (k_o1.1 2) (by decide) (by decide) (by decide) (by decide), rfl, iq_add i2 (k_o1.1 2) (by decide) (by decide)⟩ (fun x3 qi4 => ?_)
  obtain ⟨i4, ax3, ei4⟩ := qi4
  refine tt_bs ?_
  refine tt_if (fun c5 => ?_) (fun c5 => ?_)
  · have wc5 : x3.toInt ≤ v5.toInt := c_le c5
    refine tt_b (sRe_takeResults _ _ _ k_o0 k_o1 k_o2) (fun q6 hq6 => ?_)
    obtain ⟨k_q6, n_q6, zq6_0, -⟩ := hq6
    have r_q6 := fr_tr r_o2 n_q6 rfl rfl rfl
    have e_q6_0 : (q6.1 0).toInt = (o2.1 0).toInt := congrArg Int32.toInt (n_q6.1 0 rfl)
    have g_q6_0 : (0 : Int) ≤ (q6.1 0).toInt ∧ (q6.1 0).toInt ≤ 8 := k_q6.1 0
    have e_q6_1 : (q6.1 1).toInt = (o2.1 1).toInt := congrArg Int32.toInt (n_q6.1 1 rfl)
    have g_q6_1 : (0 : Int) ≤ (q6.1 1).toInt ∧ (q6.1 1).toInt ≤ 6 := k_q6.1 1
    have e_q6_2 : (q6.1 2).toInt = (o2.1 2).toInt := congrArg Int32.toInt (n_q6.1 2 rfl)
    have g_q6_2 : (0 : Int) ≤ (q6.1 2).toInt ∧ (q6.1 2).toInt ≤ 200 := k_q6.1 2
    have e_q6_3 : (q6.1 3).toInt = (o2.1 3).toInt := congrArg Int32.toInt (n_q6.1 3 rfl)
    have g_q6_3 : (0 : Int) ≤ (q6.1 3).toInt ∧ (q6.1 3).toInt ≤ 1 := k_q6.1 3
    have e_q6_4 : (q6.1 4).toInt = (o2.1 4).toInt := congrArg Int32.toInt (n_q6.1 4 rfl)
    have g_q6_4 : (0 : Int) ≤ (q6.1 4).toInt ∧ (q6.1 4).toInt ≤ 0 := k_q6.1 4
    have e_q6_7 : (q6.1 7).toInt = (o2.1 7).toInt := congrArg Int32.toInt (n_q6.1 7 rfl)
    have g_q6_7 : (0 : Int) ≤ (q6.1 7).toInt ∧ (q6.1 7).toInt ≤ 0 := k_q6.1 7
    have u7 : GI ((q6.1 0).toInt + 1) (q6.1 2).toInt (q6.2.1 4) (q6.2.1 5) (q6.2.1 8) (q6.2.1 9) := by rw [n_q6.1 0 rfl, n_q6.1 2 rfl, n_q6.2.1 4 rfl, n_q6.2.1 5 rfl, n_q6.2.1 8 rfl, n_q6.2.1 9 rfl]; exact x_2
    have u8 : Rn v5.toInt ((o1.1 0).toInt + 1) (((q6.1 0).toInt + 1) + (q6.1 2).toInt) (cu (((o1.1 0).toInt + 1) + (o1.1 2).toInt) (o0.2.1 0)) (o0.2.1 4) := by rw [n_q6.1 0 rfl, n_q6.1 2 rfl]; exact x_3
    have p9 : No (yo1.1 1).toInt (((q6.1 0).toInt + 1) + (q6.1 2).toInt) (q6.2.1 7) := by rw [← r_o1.1 1 rfl]; have tr := (show Trs _ _ _ _ _ by assumption) (((o2.1 0).toInt + 1) + (o2.1 2).toInt) (Fn_i x_1 x_3 (No_i x_4 (by omega)) (fun k => (k_o1.2 7 k).1)); exact No_w tr (by omega) (by omega)
    exact tt_some ⟨k_o0, r_o0, k_q6, r_q6, k_o4, r_o4, u7, p9, (show (q6.1 0).toInt = (yo1.1 0).toInt by omega), (show (q6.1 1).toInt = (yo1.1 1).toInt by omega), trivial⟩
  · have wc5 : v5.toInt < x3.toInt := c_nle c5
    have i10 : (1 : Int) ≤ v5.toInt ∧ v5.toInt ≤ 208 := nr_nlel c5 i_v5 i4 (by decide) (by decide)
    have i11 : (2 : Int) ≤ x3.toInt ∧ x3.toInt ≤ 209 := nr_nler c5 i_v5 i4 (by decide) (by decide)
    refine tt_n (ix_ok i10 (by decide) (by decide)) ?_
    refine tt_kv (P := fun z => ((0 : Int) ≤ z.toInt ∧ z.toInt ≤ 1) ∧ z = (o0.2.1 0 v5.toNatClampNeg) ∧ z.toInt = (o0.2.1 0 v5.toNatClampNeg).toInt) ⟨(k_o0.2 0 _), rfl, rfl⟩ (fun x12 qi13 => ?_)
    obtain ⟨i13, ax12, ei13⟩ := qi13
    refine tt_if (fun c14 => ?_) (fun c14 => ?_)
    · have wc14 : x12.toInt = (0 : Int) := c_eq c14
      have i15 : (0 : Int) ≤ x12.toInt ∧ x12.toInt ≤ 0 := nr_eql c14 i13 (show (0 : Int) ≤ (0 : Int32).toInt ∧ (0 : Int32).toInt ≤ 0 by decide) (by decide) (by decide)
      try unfold fRe_makeRewritten_114
      refine tt_kv (P := fun z => ((2 : Int) ≤ z.toInt ∧ z.toInt ≤ 209) ∧ z = (v5 + 1) ∧ z.toInt = v5.toInt + 1) ⟨iv_add i10 (show (1 : Int) ≤ (1 : Int32).toInt ∧ (1 : Int32).toInt ≤ 1 by decide) (by decide) (by decide) (by decide) (by decide), rfl, iq_add i10 (show (1 : Int) ≤ (1 : Int32).toInt ∧ (1 : Int32).toInt ≤ 1 by decide) (by decide) (by decide)⟩ (fun x16 qi17 => ?_)
      obtain ⟨i17, ax16, ei17⟩ := qi17
      have p18 : Rn x16.toInt ((o1.1 0).toInt + 1) (((o2.1 0).toInt + 1) + (o2.1 2).toInt) (cu (((o1.1 0).toInt + 1) + (o1.1 2).toInt) (o0.2.1 0)) (o0.2.1 4) := by exact Rn_k (i := v5.toNatClampNeg) x_3 (by omega) (by rw [tn_n]; omega) (by omega) (by rw [cu_e (by rw [tn_n]; omega)]; omega)
      exact H _ _ _ _ _ _ k_o0 r_o0 k_o1 r_o1 k_o2 r_o2 k_o3 r_o3 k_o4 r_o4 (iv_w (a := 1) (b := 209) (by decide) (by decide) i17) f_o3_0 x_0 x_1 x_2 p18 x_4 x_5 x_6 (show (o1.1 0).toInt < x16.toInt by omega) (show x16.toInt ≤ 1 + (o1.1 0).toInt + (o1.1 2).toInt by omega) (show (o2.1 0).toInt = (o1.1 0).toInt by omega) (show (o3.1 0).toInt = 4 by omega) (show (o3.1 3).toInt ≤ (o3.1 4).toInt by omega) (show (o2.1 1).toInt = (o1.1 1).toInt by omega) (show 0 + (209 - x16.toInt) * 2 < (n : Int) by omega)
    · have wc14 : ¬ x12.toInt = (0 : Int) := c_ne c14
      have i19 : (1 : Int) ≤ x12.toInt ∧ x12.toInt ≤ 1 := nr_nela c14 i13 (show (0 : Int) ≤ (0 : Int32).toInt ∧ (0 : Int32).toInt ≤ 0 by decide) (by decide) (by decide)
      have p20 : Brw v5.toInt (o3.1 3).toInt (o3.2.1 2) (o3.2.1 1) (o3.2.2 4) := by exact (Brw_i x_5.1 (by omega) (by omega) (by omega) (by omega) (by omega))
      refine tt_b (sCu_bestOf _ _ k_o3 i10 f_o3_0 p20 (show (o3.1 3).toInt ≤ (o3.1 4).toInt by omega)) (fun q21 hq21 => ?_)
      obtain ⟨zq21_0, zq21_1, -⟩ := hq21
      have p22 : Bk q21 := by exact Ctg_k (show Cgg _ _ _ by assumption) (by omega)
      refine tt_b (sCo_find _ _ _ _ k_o4 k_o1 i10 p22) (fun q23 hq23 => ?_)
      obtain ⟨k_q23, n_q23, zq23_0, zq23_1, zq23_2, -⟩ := hq23
      have r_q23 := fr_tr r_o4 n_q23 rfl rfl rfl
      have g_q23_0 : (0 : Int) ≤ (q23.1 0).toInt ∧ (q23.1 0).toInt ≤ 5 := k_q23.1 0
      have g_q23_1 : ((-2147483648) : Int) ≤ (q23.1 1).toInt ∧ (q23.1 1).toInt ≤ 2147483647 := k_q23.1 1
      have e_q23_2 : (q23.1 2).toInt = (o4.1 2).toInt := congrArg Int32.toInt (n_q23.1 2 rfl)
      have g_q23_2 : (0 : Int) ≤ (q23.1 2).toInt ∧ (q23.1 2).toInt ≤ 0 := k_q23.1 2
      have e_q23_3 : (q23.1 3).toInt = (o4.1 3).toInt := congrArg Int32.toInt (n_q23.1 3 rfl)
      have g_q23_3 : (0 : Int) ≤ (q23.1 3).toInt ∧ (q23.1 3).toInt ≤ 0 := k_q23.1 3
      have e_q23_4 : (q23.1 4).toInt = (o4.1 4).toInt := congrArg Int32.toInt (n_q23.1 4 rfl)
      have g_q23_4 : (0 : Int) ≤ (q23.1 4).toInt ∧ (q23.1 4).toInt ≤ 0 := k_q23.1 4
      have e_q23_7 : (q23.1 7).toInt = (o4.1 7).toInt := congrArg Int32.toInt (n_q23.1 7 rfl)
      have g_q23_7 : (0 : Int) ≤ (q23.1 7).toInt ∧ (q23.1 7).toInt ≤ 0 := k_q23.1 7
      have t24 := Inr_4 (show Inr _ _ _ _ by assumption) (Brw_i x_5.1 (by omega) (by omega) (by omega) (by omega) (by omega)) (Fqs_l x_5 (by omega) rfl) (by omega) (show S34 (q23.1 0).toInt _ by assumption)
      refine tt_b (sRe_findSum _ _ _ k_o0 (show (0 : Int) ≤ _ ∧ _ ≤ (4 : Int) by omega)) (fun q25 hq25 => ?_)
      obtain ⟨k_q25, n_q25, -⟩ := hq25
      have r_q25 := fr_tr r_o0 n_q25 rfl rfl rfl
      have e_q25_0 : (q25.1 0).toInt = (o0.1 0).toInt := congrArg Int32.toInt (n_q25.1 0 rfl)
      have g_q25_0 : (0 : Int) ≤ (q25.1 0).toInt ∧ (q25.1 0).toInt ≤ 0 := k_q25.1 0
      have e_q25_1 : (q25.1 1).toInt = (o0.1 1).toInt := congrArg Int32.toInt (n_q25.1 1 rfl)
      have g_q25_1 : (0 : Int) ≤ (q25.1 1).toInt ∧ (q25.1 1).toInt ≤ 0 := k_q25.1 1
      have e_q25_2 : (q25.1 2).toInt = (o0.1 2).toInt := congrArg Int32.toInt (n_q25.1 2 rfl)
      have g_q25_2 : (0 : Int) ≤ (q25.1 2).toInt ∧ (q25.1 2).toInt ≤ 0 := k_q25.1 2
      have e_q25_3 : (q25.1 3).toInt = (o0.1 3).toInt := congrArg Int32.toInt (n_q25.1 3 rfl)
      have g_q25_3 : (0 : Int) ≤ (q25.1 3).toInt ∧ (q25.1 3).toInt ≤ 0 := k_q25.1 3
      have e_q25_4 : (q25.1 4).toInt = (o0.1 4).toInt := congrArg Int32.toInt (n_q25.1 4 rfl)
      have g_q25_4 : (0 : Int) ≤ (q25.1 4).toInt ∧ (q25.1 4).toInt ≤ 0 := k_q25.1 4
      have e_q25_7 : (q25.1 7).toInt = (o0.1 7).toInt := congrArg Int32.toInt (n_q25.1 7 rfl)
      have g_q25_7 : (0 : Int) ≤ (q25.1 7).toInt ∧ (q25.1 7).toInt ≤ 210 := k_q25.1 7
      have u26 : Lk (-1) ((o1.1 0).toInt + 1) (o1.1 2).toInt (o1.1 1).toInt (o1.2.1 7) (sh ((o1.1 0).toInt + 1) (o1.2.1 4)) (sh ((o1.1 0).toInt + 1) (o1.2.1 5)) (cu (((o1.1 0).toInt + 1) + (o1.1 2).toInt) (q25.2.1 0)) (cu (((o1.1 0).toInt + 1) + (o1.1 2).toInt) (q25.2.1 1)) := by rw [n_q25.2.1 0 rfl, n_q25.2.1 1 rfl]; exact x_1
      have u27 : Rn v5.toInt ((o1.1 0).toInt + 1) (((o2.1 0).toInt + 1) + (o2.1 2).toInt) (cu (((o1.1 0).toInt + 1) + (o1.1 2).toInt) (q25.2.1 0)) (q25.2.1 4) := by rw [n_q25.2.1 0 rfl, n_q25.2.1 4 rfl]; exact x_3
      have t28 := (congrArg Int32.toInt (congrFun (n_q25.2.1 0 rfl) v5.toNatClampNeg))
      refine tt_b (sRe_sumCost _ k_q25) (fun q29 hq29 => ?_)
      have i_q29 := iv_top q29
      refine tt_b (sRe_freedBy _ _ _ _ k_q25 k_o1 k_q23 i10 (k_q23.1 1)) (fun q30 hq30 => ?_)
      obtain ⟨k_q30_2, n_q30_2, -⟩ := hq30
      have r_q30_2 := fr_tr r_q25 n_q30_2 rfl rfl rfl
      have e_q30_2_0 : (q30.2.1 0).toInt = (q25.1 0).toInt := congrArg Int32.toInt (n_q30_2.1 0 rfl)
      have g_q30_2_0 : (0 : Int) ≤ (q30.2.1 0).toInt ∧ (q30.2.1 0).toInt ≤ 0 := k_q30_2.1 0
      have e_q30_2_1 : (q30.2.1 1).toInt = (q25.1 1).toInt := congrArg Int32.toInt (n_q30_2.1 1 rfl)
      have g_q30_2_1 : (0 : Int) ≤ (q30.2.1 1).toInt ∧ (q30.2.1 1).toInt ≤ 0 := k_q30_2.1 1
      have e_q30_2_2 : (q30.2.1 2).toInt = (q25.1 2).toInt := congrArg Int32.toInt (n_q30_2.1 2 rfl)
      have g_q30_2_2 : (0 : Int) ≤ (q30.2.1 2).toInt ∧ (q30.2.1 2).toInt ≤ 0 := k_q30_2.1 2
      have e_q30_2_3 : (q30.2.1 3).toInt = (q25.1 3).toInt := congrArg Int32.toInt (n_q30_2.1 3 rfl)
      have g_q30_2_3 : (0 : Int) ≤ (q30.2.1 3).toInt ∧ (q30.2.1 3).toInt ≤ 0 := k_q30_2.1 3
      have e_q30_2_4 : (q30.2.1 4).toInt = (q25.1 4).toInt := congrArg Int32.toInt (n_q30_2.1 4 rfl)
      have g_q30_2_4 : (0 : Int) ≤ (q30.2.1 4).toInt ∧ (q30.2.1 4).toInt ≤ 0 := k_q30_2.1 4
      have e_q30_2_7 : (q30.2.1 7).toInt = (q25.1 7).toInt := congrArg Int32.toInt (n_q30_2.1 7 rfl)
      have g_q30_2_7 : (0 : Int) ≤ (q30.2.1 7).toInt ∧ (q30.2.1 7).toInt ≤ 210 := k_q30_2.1 7
      have u31 : Lk (-1) ((o1.1 0).toInt + 1) (o1.1 2).toInt (o1.1 1).toInt (o1.2.1 7) (sh ((o1.1 0).toInt + 1) (o1.2.1 4)) (sh ((o1.1 0).toInt + 1) (o1.2.1 5)) (cu (((o1.1 0).toInt + 1) + (o1.1 2).toInt) (q30.2.2.1 0)) (cu (((o1.1 0).toInt + 1) + (o1.1 2).toInt) (q30.2.2.1 1)) := by rw [n_q30_2.2.1 0 rfl, n_q30_2.2.1 1 rfl]; exact u26
      have u32 : Rn v5.toInt ((o1.1 0).toInt + 1) (((o2.1 0).toInt + 1) + (o2.1 2).toInt) (cu (((o1.1 0).toInt + 1) + (o1.1 2).toInt) (q30.2.2.1 0)) (q30.2.2.1 4) := by rw [n_q30_2.2.1 0 rfl, n_q30_2.2.1 4 rfl]; exact u27
      have i_q30 := iv_top q30.1
      have t33 := (congrArg Int32.toInt (congrFun (n_q30_2.2.1 0 rfl) v5.toNatClampNeg))
      refine tt_if (fun c34 => ?_) (fun c34 => ?_)
      · have wc34 : q30.1.toInt ≤ q29.toInt := c_le c34
        try unfold fRe_makeRewritten_82
        refine tt_if (fun c35 => ?_) (fun c35 => ?_)
        · have wc35 : (0 : Int) = (0 : Int) := c_eq c35
          refine tt_b (sRe_freshAnd _ _ _ _ k_q30_2 k_o1 k_o2 i10) (fun q36 hq36 => ?_)
          obtain ⟨i_q36, k_q36_2, n_q36_2, zq36_0, -⟩ := hq36
          have r_q36_2 := fr_tr r_o2 n_q36_2 rfl rfl rfl
          have e_q36_2_0 : (q36.2.1 0).toInt = (o2.1 0).toInt := congrArg Int32.toInt (n_q36_2.1 0 rfl)
          have g_q36_2_0 : (0 : Int) ≤ (q36.2.1 0).toInt ∧ (q36.2.1 0).toInt ≤ 8 := k_q36_2.1 0
          have e_q36_2_1 : (q36.2.1 1).toInt = (o2.1 1).toInt := congrArg Int32.toInt (n_q36_2.1 1 rfl)
          have g_q36_2_1 : (0 : Int) ≤ (q36.2.1 1).toInt ∧ (q36.2.1 1).toInt ≤ 6 := k_q36_2.1 1
          have g_q36_2_2 : (0 : Int) ≤ (q36.2.1 2).toInt ∧ (q36.2.1 2).toInt ≤ 200 := k_q36_2.1 2
          have g_q36_2_3 : (0 : Int) ≤ (q36.2.1 3).toInt ∧ (q36.2.1 3).toInt ≤ 1 := k_q36_2.1 3
          have e_q36_2_4 : (q36.2.1 4).toInt = (o2.1 4).toInt := congrArg Int32.toInt (n_q36_2.1 4 rfl)
          have g_q36_2_4 : (0 : Int) ≤ (q36.2.1 4).toInt ∧ (q36.2.1 4).toInt ≤ 0 := k_q36_2.1 4
          have e_q36_2_7 : (q36.2.1 7).toInt = (o2.1 7).toInt := congrArg Int32.toInt (n_q36_2.1 7 rfl)
          have g_q36_2_7 : (0 : Int) ≤ (q36.2.1 7).toInt ∧ (q36.2.1 7).toInt ≤ 0 := k_q36_2.1 7
          have t37 := (Fan_s (g := (v5.toInt - ((o1.1 0).toInt + 1)).toNat) (j := v5.toNatClampNeg) (show Fan _ _ _ _ _ _ _ _ _ _ _ _ _ _ _ by assumption) x_2 (show Rn _ _ _ _ _ by assumption) (show Lk _ _ _ _ _ _ _ _ _ by assumption) x_0 (by omega) (by rw [tn_n]; omega) (by omega) (by rw [sh_e (j := v5.toNatClampNeg) (by rw [tn_n]; omega)]) (by rw [sh_e (j := v5.toNatClampNeg) (by rw [tn_n]; omega)]) (by rw [cu_e (by rw [tn_n]; omega)]; omega) (by omega))
          try unfold fRe_makeRewritten_113
          refine tt_n (ix_ok i10 (by decide) (by decide)) ?_
          refine tt_ko ?_
          have k38 := ok_xp (k := 4) (i := v5.toNatClampNeg) (v := q36.1) k_q30_2 i_q36
          have r39 := fr_xp (k := 4) (i := v5.toNatClampNeg) (v := q36.1) r_q30_2 rfl
          try unfold fRe_makeRewritten_114
          refine tt_kv (P := fun z => ((2 : Int) ≤ z.toInt ∧ z.toInt ≤ 209) ∧ z = (v5 + 1) ∧ z.toInt = v5.toInt + 1) ⟨iv_add i10 (show (1 : Int) ≤ (1 : Int32).toInt ∧ (1 : Int32).toInt ≤ 1 by decide) (by decide) (by decide) (by decide) (by decide), rfl, iq_add i10 (show (1 : Int) ≤ (1 : Int32).toInt ∧ (1 : Int32).toInt ≤ 1 by decide) (by decide) (by decide)⟩ (fun x40 qi41 => ?_)
          obtain ⟨i41, ax40, ei41⟩ := qi41
          have p42 : GI ((q36.2.1 0).toInt + 1) (q36.2.1 2).toInt (q36.2.2.1 4) (q36.2.2.1 5) (q36.2.2.1 8) (q36.2.2.1 9) := by first | exact GI_b ((Fan_s (g := (v5.toInt - ((o1.1 0).toInt + 1)).toNat) (j := v5.toNatClampNeg) (show Fan _ _ _ _ _ _ _ _ _ _ _ _ _ _ _ by assumption) x_2 (show Rn _ _ _ _ _ by assumption) (show Lk _ _ _ _ _ _ _ _ _ by assumption) x_0 (by omega) (by rw [tn_n]; omega) (by omega) (by rw [sh_e (j := v5.toNatClampNeg) (by rw [tn_n]; omega)]) (by rw [sh_e (j := v5.toNatClampNeg) (by rw [tn_n]; omega)]) (by rw [cu_e (by rw [tn_n]; omega)]; omega) (by omega))).1 (by omega) | exact GI_e (show GI _ _ _ _ _ _ by assumption) (by omega) (by omega)
          have p43 : Rn x40.toInt ((o1.1 0).toInt + 1) (((q36.2.1 0).toInt + 1) + (q36.2.1 2).toInt) (cu (((o1.1 0).toInt + 1) + (o1.1 2).toInt) (q30.2.2.1 0)) (upd (q30.2.2.1 4) (v5.toNatClampNeg) q36.1) := by exact Rn_s (Rn_w (show Rn _ _ _ _ _ by assumption) (by omega)) (by omega) (by rw [tn_n]; omega) (by omega)
          exact H _ _ _ _ _ _ k38 r39 k_o1 r_o1 k_q36_2 r_q36_2 k_o3 r_o3 k_q23 r_q23 (iv_w (a := 1) (b := 209) (by decide) (by decide) i41) f_o3_0 x_0 u31 p42 p43 x_4 x_5 x_6 (show (o1.1 0).toInt < x40.toInt by omega) (show x40.toInt ≤ 1 + (o1.1 0).toInt + (o1.1 2).toInt by omega) (show (q36.2.1 0).toInt = (o1.1 0).toInt by omega) (show (o3.1 0).toInt = 4 by omega) (show (o3.1 3).toInt ≤ (o3.1 4).toInt by omega) (show (q36.2.1 1).toInt = (o1.1 1).toInt by omega) (show 0 + (209 - x40.toInt) * 2 < (n : Int) by omega)
        · have wc35 : ¬ (0 : Int) = (0 : Int) := c_ne c35
          exact (dd_ne c35 (show (0 : Int) ≤ (0 : Int32).toInt ∧ (0 : Int32).toInt ≤ 0 by decide) (show (0 : Int) ≤ (0 : Int32).toInt ∧ (0 : Int32).toInt ≤ 0 by decide)).elim
      · have wc34 : q29.toInt < q30.1.toInt := c_nle c34
        have i44 : ((-2147483648) : Int) ≤ q29.toInt ∧ q29.toInt ≤ 2147483646 := nr_nlel c34 (iv_top q29) (iv_top q30.1) (by decide) (by decide)
        have i45 : ((-2147483647) : Int) ≤ q30.1.toInt ∧ q30.1.toInt ≤ 2147483647 := nr_nler c34 (iv_top q29) (iv_top q30.1) (by decide) (by decide)
        try unfold fRe_makeRewritten_82
        refine tt_if (fun c46 => ?_) (fun c46 => ?_)
        · have wc46 : (1 : Int) = (0 : Int) := c_eq c46
          exact (dd_eq c46 (show (1 : Int) ≤ (1 : Int32).toInt ∧ (1 : Int32).toInt ≤ 1 by decide) (show (0 : Int) ≤ (0 : Int32).toInt ∧ (0 : Int32).toInt ≤ 0 by decide) (by decide)).elim
        · have wc46 : ¬ (1 : Int) = (0 : Int) := c_ne c46
          have p47 : Fcn (q23.1 0).toInt (q23.2.1 2) (q30.2.2.1 4) (((o2.1 0).toInt + 1) + (o2.1 2).toInt) := by exact Fcn_i (g := v5.toInt) (show Rn _ _ _ _ _ by assumption) (show Cnd _ _ _ by assumption) (show Inr _ _ _ _ by assumption) (x_6.resolve_left (by omega)) (show Lk _ _ _ _ _ _ _ _ _ by assumption) x_0 (show Cgg _ _ _ by assumption) (show ¬ (cu _ _ v5.toNatClampNeg).toInt = 0 by rw [cu_e (by rw [tn_n]; omega)]; omega) (by omega) (by omega) (by omega) (by omega) (by omega) (by omega) (by omega) (fun j => (k_q23.2 2 j).1)
          refine tt_b (sRe_freshSum _ _ _ k_q30_2 k_o2 k_q23 (k_q23.1 1) x_2 p47) (fun q48 hq48 => ?_)
          obtain ⟨i_q48, k_q48_2, n_q48_2, zq48_0, zq48_1, zq48_2, zq48_3, -⟩ := hq48
          have r_q48_2 := fr_tr r_o2 n_q48_2 rfl rfl rfl
          have e_q48_2_0 : (q48.2.1 0).toInt = (o2.1 0).toInt := congrArg Int32.toInt (n_q48_2.1 0 rfl)
          have g_q48_2_0 : (0 : Int) ≤ (q48.2.1 0).toInt ∧ (q48.2.1 0).toInt ≤ 8 := k_q48_2.1 0
          have e_q48_2_1 : (q48.2.1 1).toInt = (o2.1 1).toInt := congrArg Int32.toInt (n_q48_2.1 1 rfl)
          have g_q48_2_1 : (0 : Int) ≤ (q48.2.1 1).toInt ∧ (q48.2.1 1).toInt ≤ 6 := k_q48_2.1 1
          have g_q48_2_2 : (0 : Int) ≤ (q48.2.1 2).toInt ∧ (q48.2.1 2).toInt ≤ 200 := k_q48_2.1 2
          have g_q48_2_3 : (0 : Int) ≤ (q48.2.1 3).toInt ∧ (q48.2.1 3).toInt ≤ 1 := k_q48_2.1 3
          have e_q48_2_4 : (q48.2.1 4).toInt = (o2.1 4).toInt := congrArg Int32.toInt (n_q48_2.1 4 rfl)
          have g_q48_2_4 : (0 : Int) ≤ (q48.2.1 4).toInt ∧ (q48.2.1 4).toInt ≤ 0 := k_q48_2.1 4
          have e_q48_2_7 : (q48.2.1 7).toInt = (o2.1 7).toInt := congrArg Int32.toInt (n_q48_2.1 7 rfl)
          have g_q48_2_7 : (0 : Int) ≤ (q48.2.1 7).toInt ∧ (q48.2.1 7).toInt ≤ 0 := k_q48_2.1 7
          have zq48_1 : q48.1.toInt < 2 * (((q48.2.1 0).toInt + 1) + (q48.2.1 2).toInt) := zq48_1
          have zq48_2 : (o2.1 2).toInt ≤ (q48.2.1 2).toInt := zq48_2
          have zq48_3 : (q48.2.1 0).toInt = (o2.1 0).toInt := zq48_3
          try unfold fRe_makeRewritten_113
          refine tt_n (ix_ok i10 (by decide) (by decide)) ?_
          refine tt_ko ?_
          have k49 := ok_xp (k := 4) (i := v5.toNatClampNeg) (v := q48.1) k_q30_2 i_q48
          have r50 := fr_xp (k := 4) (i := v5.toNatClampNeg) (v := q48.1) r_q30_2 rfl
          try unfold fRe_makeRewritten_114
          refine tt_kv (P := fun z => ((2 : Int) ≤ z.toInt ∧ z.toInt ≤ 209) ∧ z = (v5 + 1) ∧ z.toInt = v5.toInt + 1) ⟨iv_add i10 (show (1 : Int) ≤ (1 : Int32).toInt ∧ (1 : Int32).toInt ≤ 1 by decide) (by decide) (by decide) (by decide) (by decide), rfl, iq_add i10 (show (1 : Int) ≤ (1 : Int32).toInt ∧ (1 : Int32).toInt ≤ 1 by decide) (by decide) (by decide)⟩ (fun x51 qi52 => ?_)
          obtain ⟨i52, ax51, ei52⟩ := qi52
          have p53 : Rn x51.toInt ((o1.1 0).toInt + 1) (((q48.2.1 0).toInt + 1) + (q48.2.1 2).toInt) (cu (((o1.1 0).toInt + 1) + (o1.1 2).toInt) (q30.2.2.1 0)) (upd (q30.2.2.1 4) (v5.toNatClampNeg) q48.1) := by exact Rn_s (Rn_w (show Rn _ _ _ _ _ by assumption) (by omega)) (by omega) (by rw [tn_n]; omega) (by omega)
          exact H _ _ _ _ _ _ k49 r50 k_o1 r_o1 k_q48_2 r_q48_2 k_o3 r_o3 k_q23 r_q23 (iv_w (a := 1) (b := 209) (by decide) (by decide) i52) f_o3_0 x_0 u31 zq48_0 p53 x_4 x_5 x_6 (show (o1.1 0).toInt < x51.toInt by omega) (show x51.toInt ≤ 1 + (o1.1 0).toInt + (o1.1 2).toInt by omega) (show (q48.2.1 0).toInt = (o1.1 0).toInt by omega) (show (o3.1 0).toInt = 4 by omega) (show (o3.1 3).toInt ≤ (o3.1 4).toInt by omega) (show (q48.2.1 1).toInt = (o1.1 1).toInt by omega) (show 0 + (209 - x51.toInt) * 2 < (n : Int) by omega)
set_option maxHeartbeats 4000000 in
set_option maxRecDepth 100000 in
theorem hRe_makeRewritten (yo0 : cf_O) (yo1 : cf_O) (yo2 : cf_O) (yo3 : cf_O) (yo4 : cf_O) : ∀ n, HRe_makeRewritten yo0 yo1 yo2 yo3 yo4 n := by
  intro n
  induction n with
  | zero => exact (fun v5 o0 o1 o2 o3 o4 k_o0 r_o0 k_o1 r_o1 k_o2 r_o2 k_o3 r_o3 k_o4 r_o4 i_v5 f_o3_0 x_0 x_1 x_2 x_3 x_4 x_5 x_6 x_7 x_8 x_9 x_10 x_11 x_12 hm => by exact absurd (show 0 + (209 - v5.toInt) * 2 < (0 : Int) from hm) (by omega))
  | succ n ih => exact (fun v5 o0 o1 o2 o3 o4 k_o0 r_o0 k_o1 r_o1 k_o2 r_o2 k_o3 r_o3 k_o4 r_o4 i_v5 f_o3_0 x_0 x_1 x_2 x_3 x_4 x_5 x_6 x_7 x_8 x_9 x_10 x_11 x_12 hm => tRe_makeRewritten_14 ih v5 o0 o1 o2 o3 o4 k_o0 r_o0 k_o1 r_o1 k_o2 r_o2 k_o3 r_o3 k_o4 r_o4 i_v5 f_o3_0 x_0 x_1 x_2 x_3 x_4 x_5 x_6 x_7 x_8 x_9 x_10 x_11 x_12 (by omega))
set_option maxHeartbeats 4000000 in
set_option maxRecDepth 100000 in
theorem sRe_makeRewritten (o0 : cf_O) (o1 : cf_O) (o2 : cf_O) (o3 : cf_O) (o4 : cf_O) (k_o0 : okO I_Re o0) (k_o1 : okO I_Gr o1) (k_o2 : okO I_Gr o2) (k_o3 : okO I_Cu o3) (k_o4 : okO I_Co o4) (f_o3_0 : (0 : Int) ≤ (o3.1 0).toInt ∧ (o3.1 0).toInt ≤ 5) (x_0 : Gx ((o1.1 0).toInt + 1) (o1.1 2).toInt (sh ((o1.1 0).toInt + 1) (o1.2.1 4)) (sh ((o1.1 0).toInt + 1) (o1.2.1 5))) (x_1 : No (o1.1 1).toInt (((o1.1 0).toInt + 1) + (o1.1 2).toInt) (o1.2.1 7)) (x_2 : Fqs (o3.1 0).toInt (o1.1 0).toInt (((o1.1 0).toInt + 1) + (o1.1 2).toInt) (o3.1 3).toInt (o3.2.1 2) (o3.2.1 1) (o3.2.2 4)) (x_3 : Rcf (o3.1 0).toInt (o3.1 3).toInt (o1.1 0).toInt (((o1.1 0).toInt + 1) + (o1.1 2).toInt) (o1.2.1 4) (o1.2.1 5) (o3.2.1 2) (o3.2.2 4)) (x_4 : (o3.1 0).toInt = 4) (x_5 : (o3.1 3).toInt ≤ (o3.1 4).toInt) : tt (fRe_makeRewritten o0 o1 o2 o3 o4) (QRe_makeRewritten o0 o1 o2 o3 o4) := by
  have H := hRe_makeRewritten o0 o1 o2 o3 o4 cfFU
  have hm : (419 : Int) ≤ (cfFU : Nat) := by decide
  have r_o0 : Fr (fr_M [11] [0, 1, 2, 4, 10] []) o0 o0 := fr_rfl
  have r_o1 : Fr (fr_M [] [] []) o1 o1 := fr_rfl
  have r_o2 : Fr (fr_M [0, 1, 2, 3] [4, 5, 6, 7, 8, 9] []) o2 o2 := fr_rfl
  have r_o3 : Fr (fr_M [] [] []) o3 o3 := fr_rfl
  have r_o4 : Fr (fr_M [0, 1] [2, 3, 4] []) o4 o4 := fr_rfl
  unfold fRe_makeRewritten fRe_makeRewritten_0
  have g_o0_0 : (0 : Int) ≤ (o0.1 0).toInt ∧ (o0.1 0).toInt ≤ 0 := k_o0.1 0
  have g_o0_1 : (0 : Int) ≤ (o0.1 1).toInt ∧ (o0.1 1).toInt ≤ 0 := k_o0.1 1
  have g_o0_2 : (0 : Int) ≤ (o0.1 2).toInt ∧ (o0.1 2).toInt ≤ 0 := k_o0.1 2
  have g_o0_3 : (0 : Int) ≤ (o0.1 3).toInt ∧ (o0.1 3).toInt ≤ 0 := k_o0.1 3
  have g_o0_4 : (0 : Int) ≤ (o0.1 4).toInt ∧ (o0.1 4).toInt ≤ 0 := k_o0.1 4
  have g_o0_7 : (0 : Int) ≤ (o0.1 7).toInt ∧ (o0.1 7).toInt ≤ 210 := k_o0.1 7
  have g_o1_0 : (0 : Int) ≤ (o1.1 0).toInt ∧ (o1.1 0).toInt ≤ 8 := k_o1.1 0
  have g_o1_1 : (0 : Int) ≤ (o1.1 1).toInt ∧ (o1.1 1).toInt ≤ 6 := k_o1.1 1
  have g_o1_2 : (0 : Int) ≤ (o1.1 2).toInt ∧ (o1.1 2).toInt ≤ 200 := k_o1.1 2
  have g_o1_3 : (0 : Int) ≤ (o1.1 3).toInt ∧ (o1.1 3).toInt ≤ 1 := k_o1.1 3
  have g_o1_4 : (0 : Int) ≤ (o1.1 4).toInt ∧ (o1.1 4).toInt ≤ 0 := k_o1.1 4
  have g_o1_7 : (0 : Int) ≤ (o1.1 7).toInt ∧ (o1.1 7).toInt ≤ 0 := k_o1.1 7
  have g_o2_0 : (0 : Int) ≤ (o2.1 0).toInt ∧ (o2.1 0).toInt ≤ 8 := k_o2.1 0
  have g_o2_1 : (0 : Int) ≤ (o2.1 1).toInt ∧ (o2.1 1).toInt ≤ 6 := k_o2.1 1
  have g_o2_2 : (0 : Int) ≤ (o2.1 2).toInt ∧ (o2.1 2).toInt ≤ 200 := k_o2.1 2
  have g_o2_3 : (0 : Int) ≤ (o2.1 3).toInt ∧ (o2.1 3).toInt ≤ 1 := k_o2.1 3
  have g_o2_4 : (0 : Int) ≤ (o2.1 4).toInt ∧ (o2.1 4).toInt ≤ 0 := k_o2.1 4
  have g_o2_7 : (0 : Int) ≤ (o2.1 7).toInt ∧ (o2.1 7).toInt ≤ 0 := k_o2.1 7
  have g_o3_1 : (0 : Int) ≤ (o3.1 1).toInt ∧ (o3.1 1).toInt ≤ 0 := k_o3.1 1
  have g_o3_2 : (0 : Int) ≤ (o3.1 2).toInt ∧ (o3.1 2).toInt ≤ 0 := k_o3.1 2
  have g_o3_3 : (0 : Int) ≤ (o3.1 3).toInt ∧ (o3.1 3).toInt ≤ 62909 := k_o3.1 3
  have g_o3_4 : (1024 : Int) ≤ (o3.1 4).toInt ∧ (o3.1 4).toInt ≤ 131072 := k_o3.1 4
  have g_o3_7 : (0 : Int) ≤ (o3.1 7).toInt ∧ (o3.1 7).toInt ≤ 0 := k_o3.1 7
  have g_o4_0 : (0 : Int) ≤ (o4.1 0).toInt ∧ (o4.1 0).toInt ≤ 5 := k_o4.1 0
  have g_o4_1 : ((-2147483648) : Int) ≤ (o4.1 1).toInt ∧ (o4.1 1).toInt ≤ 2147483647 := k_o4.1 1
  have g_o4_2 : (0 : Int) ≤ (o4.1 2).toInt ∧ (o4.1 2).toInt ≤ 0 := k_o4.1 2
  have g_o4_3 : (0 : Int) ≤ (o4.1 3).toInt ∧ (o4.1 3).toInt ≤ 0 := k_o4.1 3
  have g_o4_4 : (0 : Int) ≤ (o4.1 4).toInt ∧ (o4.1 4).toInt ≤ 0 := k_o4.1 4
  have g_o4_7 : (0 : Int) ≤ (o4.1 7).toInt ∧ (o4.1 7).toInt ≤ 0 := k_o4.1 7
  refine tt_b (sRe_begin _ _ _ k_o0 k_o1 k_o2 x_0 x_1) (fun q1 hq1 => ?_)
  obtain ⟨k_q1_1, n_q1_1, k_q1_2, n_q1_2, f_q1_2_2, f_q1_2_3, zq1_0, zq1_1, zq1_2, zq1_3, zq1_4, zq1_5, -⟩ := hq1
  have r_q1_1 := fr_tr r_o0 n_q1_1 rfl rfl rfl
  have e_q1_1_0 : (q1.1.1 0).toInt = (o0.1 0).toInt := congrArg Int32.toInt (n_q1_1.1 0 rfl)
  have g_q1_1_0 : (0 : Int) ≤ (q1.1.1 0).toInt ∧ (q1.1.1 0).toInt ≤ 0 := k_q1_1.1 0
  have e_q1_1_1 : (q1.1.1 1).toInt = (o0.1 1).toInt := congrArg Int32.toInt (n_q1_1.1 1 rfl)
  have g_q1_1_1 : (0 : Int) ≤ (q1.1.1 1).toInt ∧ (q1.1.1 1).toInt ≤ 0 := k_q1_1.1 1
  have e_q1_1_2 : (q1.1.1 2).toInt = (o0.1 2).toInt := congrArg Int32.toInt (n_q1_1.1 2 rfl)
  have g_q1_1_2 : (0 : Int) ≤ (q1.1.1 2).toInt ∧ (q1.1.1 2).toInt ≤ 0 := k_q1_1.1 2
  have e_q1_1_3 : (q1.1.1 3).toInt = (o0.1 3).toInt := congrArg Int32.toInt (n_q1_1.1 3 rfl)
  have g_q1_1_3 : (0 : Int) ≤ (q1.1.1 3).toInt ∧ (q1.1.1 3).toInt ≤ 0 := k_q1_1.1 3
  have e_q1_1_4 : (q1.1.1 4).toInt = (o0.1 4).toInt := congrArg Int32.toInt (n_q1_1.1 4 rfl)
  have g_q1_1_4 : (0 : Int) ≤ (q1.1.1 4).toInt ∧ (q1.1.1 4).toInt ≤ 0 := k_q1_1.1 4
  have e_q1_1_7 : (q1.1.1 7).toInt = (o0.1 7).toInt := congrArg Int32.toInt (n_q1_1.1 7 rfl)
  have g_q1_1_7 : (0 : Int) ≤ (q1.1.1 7).toInt ∧ (q1.1.1 7).toInt ≤ 210 := k_q1_1.1 7
  have r_q1_2 := fr_tr r_o2 n_q1_2 rfl rfl rfl
  have g_q1_2_0 : (0 : Int) ≤ (q1.2.1 0).toInt ∧ (q1.2.1 0).toInt ≤ 8 := k_q1_2.1 0
  have g_q1_2_1 : (0 : Int) ≤ (q1.2.1 1).toInt ∧ (q1.2.1 1).toInt ≤ 6 := k_q1_2.1 1
  have e_q1_2_4 : (q1.2.1 4).toInt = (o2.1 4).toInt := congrArg Int32.toInt (n_q1_2.1 4 rfl)
  have g_q1_2_4 : (0 : Int) ≤ (q1.2.1 4).toInt ∧ (q1.2.1 4).toInt ≤ 0 := k_q1_2.1 4
  have e_q1_2_7 : (q1.2.1 7).toInt = (o2.1 7).toInt := congrArg Int32.toInt (n_q1_2.1 7 rfl)
  have g_q1_2_7 : (0 : Int) ≤ (q1.2.1 7).toInt ∧ (q1.2.1 7).toInt ≤ 0 := k_q1_2.1 7
  have zq1_3 : (q1.2.1 0).toInt = (o1.1 0).toInt := zq1_3
  have zq1_4 : (q1.2.1 2).toInt = 0 := zq1_4
  have zq1_5 : (q1.2.1 1).toInt = (o1.1 1).toInt := zq1_5
  refine tt_kv (P := fun z => ((1 : Int) ≤ z.toInt ∧ z.toInt ≤ 9) ∧ z = ((o1.1 0) + 1) ∧ z.toInt = (o1.1 0).toInt + 1) ⟨iv_add (k_o1.1 0) (show (1 : Int) ≤ (1 : Int32).toInt ∧ (1 : Int32).toInt ≤ 1 by decide) (by decide) (by decide) (by decide) (by decide), rfl, iq_add (k_o1.1 0) (show (1 : Int) ≤ (1 : Int32).toInt ∧ (1 : Int32).toInt ≤ 1 by decide) (by decide) (by decide)⟩ (fun x2 qi3 => ?_)
  obtain ⟨i3, ax2, ei3⟩ := qi3
  have p4 : Rn x2.toInt ((o1.1 0).toInt + 1) (((q1.2.1 0).toInt + 1) + (q1.2.1 2).toInt) (cu (((o1.1 0).toInt + 1) + (o1.1 2).toInt) (q1.1.2.1 0)) (q1.1.2.1 4) := by exact Rn_0 (show Od _ _ by assumption) (by omega) (by omega)
  exact H _ _ _ _ _ _ k_q1_1 r_q1_1 k_o1 r_o1 k_q1_2 r_q1_2 k_o3 r_o3 k_o4 r_o4 (iv_w (a := 1) (b := 209) (by decide) (by decide) i3) f_o3_0 x_0 zq1_0 zq1_2 p4 x_1 x_2 x_3 (show (o1.1 0).toInt < x2.toInt by omega) (show x2.toInt ≤ 1 + (o1.1 0).toInt + (o1.1 2).toInt by omega) (show (q1.2.1 0).toInt = (o1.1 0).toInt by omega) (show (o3.1 0).toInt = 4 by omega) (show (o3.1 3).toInt ≤ (o3.1 4).toInt by omega) (show (q1.2.1 1).toInt = (o1.1 1).toInt by omega) (show 0 + (209 - x2.toInt) * 2 < ((cfFU : Nat) : Int) by omega)
