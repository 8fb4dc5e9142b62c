def QM_questions (o0 : cf_O) (r : (Int32)) : Prop := True
def HM_questions (yo0 : cf_O) (n : Nat) : Prop := (∀ (v1 : Int32) (v2 : Int32) (o0 : cf_O), (okO I_M o0) → (Fr (fr_M [] [] []) yo0 o0) → ((0 : Int) ≤ v2.toInt ∧ v2.toInt ≤ 8) → ((0 : Int) ≤ (o0.1 0).toInt ∧ (o0.1 0).toInt ≤ 2) → ((1 : Int) ≤ (o0.1 38).toInt ∧ (o0.1 38).toInt ≤ 1) → ((1 : Int) ≤ (o0.1 40).toInt ∧ (o0.1 40).toInt ≤ 6) → ((0 : Int) ≤ (o0.1 95).toInt ∧ (o0.1 95).toInt ≤ 0) → 0 + (8 - v2.toInt) * 33028 < (n : Int) → tt (gM_questions n 0 v1 v2 0 0 0 o0) (QM_questions yo0)) ∧ (∀ (v1 : Int32) (v2 : Int32) (v3 : Int32) (o0 : cf_O), (okO I_M o0) → (Fr (fr_M [] [] []) yo0 o0) → ((0 : Int) ≤ v2.toInt ∧ v2.toInt ≤ 7) → ((0 : Int) ≤ v3.toInt ∧ v3.toInt ≤ 128) → ((0 : Int) ≤ (o0.1 0).toInt ∧ (o0.1 0).toInt ≤ 2) → ((1 : Int) ≤ (o0.1 38).toInt ∧ (o0.1 38).toInt ≤ 1) → ((1 : Int) ≤ (o0.1 39).toInt ∧ (o0.1 39).toInt ≤ 8) → ((1 : Int) ≤ (o0.1 40).toInt ∧ (o0.1 40).toInt ≤ 6) → ((0 : Int) ≤ (o0.1 95).toInt ∧ (o0.1 95).toInt ≤ 0) → (v2.toInt < (o0.1 39).toInt) → 0 + (8 - v2.toInt - 1) * 33028 + 1 + (128 - v3.toInt) * 258 < (n : Int) → tt (gM_questions n 1 v1 v2 v3 0 0 o0) (QM_questions yo0)) ∧ (∀ (v1 : Int32) (v2 : Int32) (v3 : Int32) (v4 : Int32) (v5 : Int32) (o0 : cf_O), (okO I_M o0) → (Fr (fr_M [] [] []) yo0 o0) → ((0 : Int) ≤ v2.toInt ∧ v2.toInt ≤ 7) → ((0 : Int) ≤ v3.toInt ∧ v3.toInt ≤ 127) → ((0 : Int) ≤ v4.toInt ∧ v4.toInt ≤ 1) → ((0 : Int) ≤ v5.toInt ∧ v5.toInt ≤ 127) → ((0 : Int) ≤ (o0.1 0).toInt ∧ (o0.1 0).toInt ≤ 2) → ((1 : Int) ≤ (o0.1 38).toInt ∧ (o0.1 38).toInt ≤ 1) → ((1 : Int) ≤ (o0.1 39).toInt ∧ (o0.1 39).toInt ≤ 8) → ((1 : Int) ≤ (o0.1 40).toInt ∧ (o0.1 40).toInt ≤ 6) → ((0 : Int) ≤ (o0.1 95).toInt ∧ (o0.1 95).toInt ≤ 0) → (v2.toInt < (o0.1 39).toInt) → (v3.toInt < ((1 : Int32) <<< (v2 &&& (31 : Int32))).toInt) → 0 + (8 - v2.toInt - 1) * 33028 + 1 + (128 - v3.toInt - 1) * 258 + 1 + (127 - v5.toInt) * 2 < (n : Int) → tt (gM_questions n 2 v1 v2 v3 v4 v5 o0) (QM_questions yo0))
set_option maxHeartbeats 4000000 in
set_option maxRecDepth 100000 in
theorem tM_questions_32 {yo0 : cf_O} {n : Nat} (H : HM_questions yo0 n) (v1 : Int32) (v2 : Int32) (v3 : Int32) (v4 : Int32) (v5 : Int32) (o0 : cf_O) (k_o0 : okO I_M o0) (r_o0 : Fr (fr_M [] [] []) yo0 o0) (i_v2 : (0 : Int) ≤ v2.toInt ∧ v2.toInt ≤ 7) (i_v3 : (0 : Int) ≤ v3.toInt ∧ v3.toInt ≤ 127) (i_v4 : (0 : Int) ≤ v4.toInt ∧ v4.toInt ≤ 1) (i_v5 : (0 : Int) ≤ v5.toInt ∧ v5.toInt ≤ 127) (f_o0_0 : (0 : Int) ≤ (o0.1 0).toInt ∧ (o0.1 0).toInt ≤ 2) (f_o0_38 : (1 : Int) ≤ (o0.1 38).toInt ∧ (o0.1 38).toInt ≤ 1) (f_o0_39 : (1 : Int) ≤ (o0.1 39).toInt ∧ (o0.1 39).toInt ≤ 8) (f_o0_40 : (1 : Int) ≤ (o0.1 40).toInt ∧ (o0.1 40).toInt ≤ 6) (f_o0_95 : (0 : Int) ≤ (o0.1 95).toInt ∧ (o0.1 95).toInt ≤ 0) (x_0 : v2.toInt < (o0.1 39).toInt) (x_1 : v3.toInt < ((1 : Int32) <<< (v2 &&& (31 : Int32))).toInt) (hm : 0 + (8 - v2.toInt - 1) * 33028 + 1 + (128 - v3.toInt - 1) * 258 + 1 + (127 - v5.toInt) * 2 ≤ (n : Int)) : tt (fM_questions_32 (gM_questions n) v1 v2 v3 v4 v5 o0) (QM_questions yo0) := by
  unfold fM_questions_32
  have i_v1 := iv_top v1
  have ey_o0_39 : (o0.1 39).toInt = (yo0.1 39).toInt := congrArg Int32.toInt (r_o0.1 39 rfl)
  refine tt_if (fun c1 => ?_) (fun c1 => ?_)
  · have wc1 : v3.toInt ≤ v5.toInt := c_le c1
    try unfold fM_questions_67
    refine tt_if (fun c2 => ?_) (fun c2 => ?_)
    · have wc2 : v4.toInt = (0 : Int) := c_eq c2
      have i3 : (0 : Int) ≤ v4.toInt ∧ v4.toInt ≤ 0 := nr_eql c2 i_v4 (show (0 : Int) ≤ (0 : Int32).toInt ∧ (0 : Int32).toInt ≤ 0 by decide) (by decide) (by decide)
      try unfold fM_questions_79
      refine tt_kv (P := fun z => ((1 : Int) ≤ z.toInt ∧ z.toInt ≤ 128) ∧ z = (v3 + 1) ∧ z.toInt = v3.toInt + 1) ⟨iv_add i_v3 (show (1 : Int) ≤ (1 : Int32).toInt ∧ (1 : Int32).toInt ≤ 1 by decide) (by decide) (by decide) (by decide) (by decide), rfl, iq_add i_v3 (show (1 : Int) ≤ (1 : Int32).toInt ∧ (1 : Int32).toInt ≤ 1 by decide) (by decide) (by decide)⟩ (fun x4 qi5 => ?_)
      obtain ⟨i5, ax4, ei5⟩ := qi5
      exact H.2.1 _ _ _ _ k_o0 r_o0 i_v2 (iv_w (a := 0) (b := 128) (by decide) (by decide) i5) f_o0_0 f_o0_38 f_o0_39 f_o0_40 f_o0_95 (show v2.toInt < (o0.1 39).toInt by omega) (show 0 + (8 - v2.toInt - 1) * 33028 + 1 + (128 - x4.toInt) * 258 < (n : Int) by omega)
    · have wc2 : ¬ v4.toInt = (0 : Int) := c_ne c2
      have i6 : (1 : Int) ≤ v4.toInt ∧ v4.toInt ≤ 1 := nr_nela c2 i_v4 (show (0 : Int) ≤ (0 : Int32).toInt ∧ (0 : Int32).toInt ≤ 0 by decide) (by decide) (by decide)
      refine tt_kv (P := fun z => (((-2147483648) : Int) ≤ z.toInt ∧ z.toInt ≤ 2147483647) ∧ z = (v1 + 1)) ⟨iv_top _, rfl⟩ (fun x7 qi8 => ?_)
      obtain ⟨i8, ax7⟩ := qi8
      try unfold fM_questions_79
      refine tt_kv (P := fun z => ((1 : Int) ≤ z.toInt ∧ z.toInt ≤ 128) ∧ z = (v3 + 1) ∧ z.toInt = v3.toInt + 1) ⟨iv_add i_v3 (show (1 : Int) ≤ (1 : Int32).toInt ∧ (1 : Int32).toInt ≤ 1 by decide) (by decide) (by decide) (by decide) (by decide), rfl, iq_add i_v3 (show (1 : Int) ≤ (1 : Int32).toInt ∧ (1 : Int32).toInt ≤ 1 by decide) (by decide) (by decide)⟩ (fun x9 qi10 => ?_)
      obtain ⟨i10, ax9, ei10⟩ := qi10
      exact H.2.1 _ _ _ _ k_o0 r_o0 i_v2 (iv_w (a := 0) (b := 128) (by decide) (by decide) i10) f_o0_0 f_o0_38 f_o0_39 f_o0_40 f_o0_95 (show v2.toInt < (o0.1 39).toInt by omega) (show 0 + (8 - v2.toInt - 1) * 33028 + 1 + (128 - x9.toInt) * 258 < (n : Int) by omega)
  · have wc1 : v5.toInt < v3.toInt := c_nle c1
    have i11 : (0 : Int) ≤ v5.toInt ∧ v5.toInt ≤ 126 := nr_nlel c1 i_v5 i_v3 (by decide) (by decide)
    have i12 : (1 : Int) ≤ v3.toInt ∧ v3.toInt ≤ 127 := nr_nler c1 i_v5 i_v3 (by decide) (by decide)
    refine tt_if (fun c13 => ?_) (fun c13 => ?_)
    · have wc13 : v4.toInt = (0 : Int) := c_eq c13
      have i14 : (0 : Int) ≤ v4.toInt ∧ v4.toInt ≤ 0 := nr_eql c13 i_v4 (show (0 : Int) ≤ (0 : Int32).toInt ∧ (0 : Int32).toInt ≤ 0 by decide) (by decide) (by decide)
      try unfold fM_questions_67
      refine tt_if (fun c15 => ?_) (fun c15 => ?_)
      · have wc15 : v4.toInt = (0 : Int) := c_eq c15
        try unfold fM_questions_79
        refine tt_kv (P := fun z => ((2 : Int) ≤ z.toInt ∧ z.toInt ≤ 128) ∧ z = (v3 + 1) ∧ z.toInt = v3.toInt + 1) ⟨iv_add i12 (show (1 : Int) ≤ (1 : Int32).toInt ∧ (1 : Int32).toInt ≤ 1 by decide) (by decide) (by decide) (by decide) (by decide), rfl, iq_add i12 (show (1 : Int) ≤ (1 : Int32).toInt ∧ (1 : Int32).toInt ≤ 1 by decide) (by decide) (by decide)⟩ (fun x16 qi17 => ?_)
        obtain ⟨i17, ax16, ei17⟩ := qi17
        exact H.2.1 _ _ _ _ k_o0 r_o0 i_v2 (iv_w (a := 0) (b := 128) (by decide) (by decide) i17) f_o0_0 f_o0_38 f_o0_39 f_o0_40 f_o0_95 (show v2.toInt < (o0.1 39).toInt by omega) (show 0 + (8 - v2.toInt - 1) * 33028 + 1 + (128 - x16.toInt) * 258 < (n : Int) by omega)
      · have wc15 : ¬ v4.toInt = (0 : Int) := c_ne c15
        exact (dd_ne c15 i14 (show (0 : Int) ≤ (0 : Int32).toInt ∧ (0 : Int32).toInt ≤ 0 by decide)).elim
    · have wc13 : ¬ v4.toInt = (0 : Int) := c_ne c13
      have i18 : (1 : Int) ≤ v4.toInt ∧ v4.toInt ≤ 1 := nr_nela c13 i_v4 (show (0 : Int) ≤ (0 : Int32).toInt ∧ (0 : Int32).toInt ≤ 0 by decide) (by decide) (by decide)
      refine tt_b (sM_isAlike _ _ _ _ k_o0 i_v2 i12 i11 f_o0_0 f_o0_38 f_o0_39 f_o0_40 f_o0_95 (show v2.toInt < (o0.1 39).toInt by omega) (show v3.toInt < ((1 : Int32) <<< (v2 &&& (31 : Int32))).toInt by omega) (show v5.toInt < ((1 : Int32) <<< (v2 &&& (31 : Int32))).toInt by omega)) (fun q19 hq19 => ?_)
      obtain ⟨i_q19, -⟩ := hq19
      refine tt_if (fun c20 => ?_) (fun c20 => ?_)
      · have wc20 : q19.toInt = (0 : Int) := c_eq c20
        have i21 : (0 : Int) ≤ q19.toInt ∧ q19.toInt ≤ 0 := nr_eql c20 i_q19 (show (0 : Int) ≤ (0 : Int32).toInt ∧ (0 : Int32).toInt ≤ 0 by decide) (by decide) (by decide)
        try unfold fM_questions_59
        refine tt_kv (P := fun z => ((1 : Int) ≤ z.toInt ∧ z.toInt ≤ 127) ∧ z = (v5 + 1) ∧ z.toInt = v5.toInt + 1) ⟨iv_add i11 (show (1 : Int) ≤ (1 : Int32).toInt ∧ (1 : Int32).toInt ≤ 1 by decide) (by decide) (by decide) (by decide) (by decide), rfl, iq_add i11 (show (1 : Int) ≤ (1 : Int32).toInt ∧ (1 : Int32).toInt ≤ 1 by decide) (by decide) (by decide)⟩ (fun x22 qi23 => ?_)
        obtain ⟨i23, ax22, ei23⟩ := qi23
        exact H.2.2 _ _ _ _ _ _ k_o0 r_o0 i_v2 (iv_w (a := 0) (b := 127) (by decide) (by decide) i12) (iv_w (a := 0) (b := 1) (by decide) (by decide) (show (1 : Int) ≤ (1 : Int32).toInt ∧ (1 : Int32).toInt ≤ 1 by decide)) (iv_w (a := 0) (b := 127) (by decide) (by decide) i23) f_o0_0 f_o0_38 f_o0_39 f_o0_40 f_o0_95 (show v2.toInt < (o0.1 39).toInt by omega) (show v3.toInt < ((1 : Int32) <<< (v2 &&& (31 : Int32))).toInt by omega) (show 0 + (8 - v2.toInt - 1) * 33028 + 1 + (128 - v3.toInt - 1) * 258 + 1 + (127 - x22.toInt) * 2 < (n : Int) by omega)
      · have wc20 : ¬ q19.toInt = (0 : Int) := c_ne c20
        have i24 : (1 : Int) ≤ q19.toInt ∧ q19.toInt ≤ 1 := nr_nela c20 i_q19 (show (0 : Int) ≤ (0 : Int32).toInt ∧ (0 : Int32).toInt ≤ 0 by decide) (by decide) (by decide)
        try unfold fM_questions_59
        refine tt_kv (P := fun z => ((1 : Int) ≤ z.toInt ∧ z.toInt ≤ 127) ∧ z = (v5 + 1) ∧ z.toInt = v5.toInt + 1) ⟨iv_add i11 (show (1 : Int) ≤ (1 : Int32).toInt ∧ (1 : Int32).toInt ≤ 1 by decide) (by decide) (by decide) (by decide) (by decide), rfl, iq_add i11 (show (1 : Int) ≤ (1 : Int32).toInt ∧ (1 : Int32).toInt ≤ 1 by decide) (by decide) (by decide)⟩ (fun x25 qi26 => ?_)
        obtain ⟨i26, ax25, ei26⟩ := qi26
        exact H.2.2 _ _ _ _ _ _ k_o0 r_o0 i_v2 (iv_w (a := 0) (b := 127) (by decide) (by decide) i12) (iv_w (a := 0) (b := 1) (by decide) (by decide) (show (0 : Int) ≤ (0 : Int32).toInt ∧ (0 : Int32).toInt ≤ 0 by decide)) (iv_w (a := 0) (b := 127) (by decide) (by decide) i26) f_o0_0 f_o0_38 f_o0_39 f_o0_40 f_o0_95 (show v2.toInt < (o0.1 39).toInt by omega) (show v3.toInt < ((1 : Int32) <<< (v2 &&& (31 : Int32))).toInt by omega) (show 0 + (8 - v2.toInt - 1) * 33028 + 1 + (128 - v3.toInt - 1) * 258 + 1 + (127 - x25.toInt) * 2 < (n : Int) by omega)
set_option maxHeartbeats 4000000 in
set_option maxRecDepth 100000 in
theorem tM_questions_14 {yo0 : cf_O} {n : Nat} (H : HM_questions yo0 n) (v1 : Int32) (v2 : Int32) (v3 : Int32) (o0 : cf_O) (k_o0 : okO I_M o0) (r_o0 : Fr (fr_M [] [] []) yo0 o0) (i_v2 : (0 : Int) ≤ v2.toInt ∧ v2.toInt ≤ 7) (i_v3 : (0 : Int) ≤ v3.toInt ∧ v3.toInt ≤ 128) (f_o0_0 : (0 : Int) ≤ (o0.1 0).toInt ∧ (o0.1 0).toInt ≤ 2) (f_o0_38 : (1 : Int) ≤ (o0.1 38).toInt ∧ (o0.1 38).toInt ≤ 1) (f_o0_39 : (1 : Int) ≤ (o0.1 39).toInt ∧ (o0.1 39).toInt ≤ 8) (f_o0_40 : (1 : Int) ≤ (o0.1 40).toInt ∧ (o0.1 40).toInt ≤ 6) (f_o0_95 : (0 : Int) ≤ (o0.1 95).toInt ∧ (o0.1 95).toInt ≤ 0) (x_0 : v2.toInt < (o0.1 39).toInt) (hm : 0 + (8 - v2.toInt - 1) * 33028 + 1 + (128 - v3.toInt) * 258 ≤ (n : Int)) : tt (fM_questions_14 (gM_questions n) v1 v2 v3 o0) (QM_questions yo0) := by
  unfold fM_questions_14
  have i_v1 := iv_top v1
  have ey_o0_39 : (o0.1 39).toInt = (yo0.1 39).toInt := congrArg Int32.toInt (r_o0.1 39 rfl)
  refine tt_kv (P := fun z => ((1 : Int) ≤ z.toInt ∧ z.toInt ≤ 128) ∧ z = (1 <<< (v2 &&& 31)) ∧ z.toInt = ((1 : Int32) <<< (v2 &&& (31 : Int32))).toInt) ⟨iv_shl (p := 0) (q := 7) (show (1 : Int) ≤ (1 : Int32).toInt ∧ (1 : Int32).toInt ≤ 1 by decide) i_v2 (by decide) (by decide) (by decide) (by decide) (by decide), rfl, rfl⟩ (fun x1 qi2 => ?_)
  obtain ⟨i2, ax1, ei2⟩ := qi2
  refine tt_if (fun c3 => ?_) (fun c3 => ?_)
  · have wc3 : x1.toInt ≤ v3.toInt := c_le c3
    have i4 : (1 : Int) ≤ v3.toInt ∧ v3.toInt ≤ 128 := nr_ler c3 i2 i_v3 (by decide) (by decide)
    refine tt_kv (P := fun z => ((1 : Int) ≤ z.toInt ∧ z.toInt ≤ 8) ∧ z = (v2 + 1) ∧ z.toInt = v2.toInt + 1) ⟨iv_add i_v2 (show (1 : Int) ≤ (1 : Int32).toInt ∧ (1 : Int32).toInt ≤ 1 by decide) (by decide) (by decide) (by decide) (by decide), rfl, iq_add i_v2 (show (1 : Int) ≤ (1 : Int32).toInt ∧ (1 : Int32).toInt ≤ 1 by decide) (by decide) (by decide)⟩ (fun x5 qi6 => ?_)
    obtain ⟨i6, ax5, ei6⟩ := qi6
    exact H.1 _ _ _ k_o0 r_o0 (iv_w (a := 0) (b := 8) (by decide) (by decide) i6) f_o0_0 f_o0_38 f_o0_40 f_o0_95 (show 0 + (8 - x5.toInt) * 33028 < (n : Int) by omega)
  · have wc3 : v3.toInt < x1.toInt := c_nle c3
    have i7 : (0 : Int) ≤ v3.toInt ∧ v3.toInt ≤ 127 := nr_nlel c3 i_v3 i2 (by decide) (by decide)
    refine tt_b (sM_depends _ _ _ k_o0 i_v2 i7 f_o0_0 f_o0_38 f_o0_39 f_o0_40 f_o0_95 (show v2.toInt < (o0.1 39).toInt by omega) (show v3.toInt < ((1 : Int32) <<< (v2 &&& (31 : Int32))).toInt by omega)) (fun q8 hq8 => ?_)
    obtain ⟨i_q8, -⟩ := hq8
    exact H.2.2 _ _ _ _ _ _ k_o0 r_o0 i_v2 i7 i_q8 (iv_w (a := 0) (b := 127) (by decide) (by decide) (show (0 : Int) ≤ (0 : Int32).toInt ∧ (0 : Int32).toInt ≤ 0 by decide)) f_o0_0 f_o0_38 f_o0_39 f_o0_40 f_o0_95 (show v2.toInt < (o0.1 39).toInt by omega) (show v3.toInt < ((1 : Int32) <<< (v2 &&& (31 : Int32))).toInt by omega) (show 0 + (8 - v2.toInt - 1) * 33028 + 1 + (128 - v3.toInt - 1) * 258 + 1 + (127 - 0) * 2 < (n : Int) by omega)
set_option maxHeartbeats 4000000 in
set_option maxRecDepth 100000 in
theorem tM_questions_4 {yo0 : cf_O} {n : Nat} (H : HM_questions yo0 n) (v1 : Int32) (v2 : Int32) (o0 : cf_O) (k_o0 : okO I_M o0) (r_o0 : Fr (fr_M [] [] []) yo0 o0) (i_v2 : (0 : Int) ≤ v2.toInt ∧ v2.toInt ≤ 8) (f_o0_0 : (0 : Int) ≤ (o0.1 0).toInt ∧ (o0.1 0).toInt ≤ 2) (f_o0_38 : (1 : Int) ≤ (o0.1 38).toInt ∧ (o0.1 38).toInt ≤ 1) (f_o0_40 : (1 : Int) ≤ (o0.1 40).toInt ∧ (o0.1 40).toInt ≤ 6) (f_o0_95 : (0 : Int) ≤ (o0.1 95).toInt ∧ (o0.1 95).toInt ≤ 0) (hm : 0 + (8 - v2.toInt) * 33028 ≤ (n : Int)) : tt (fM_questions_4 (gM_questions n) v1 v2 o0) (QM_questions yo0) := by
  unfold fM_questions_4
  have i_v1 := iv_top v1
  have g_o0_39 : (0 : Int) ≤ (o0.1 39).toInt ∧ (o0.1 39).toInt ≤ 8 := k_o0.1 39
  have ey_o0_39 : (o0.1 39).toInt = (yo0.1 39).toInt := congrArg Int32.toInt (r_o0.1 39 rfl)
  refine tt_if (fun c1 => ?_) (fun c1 => ?_)
  · have wc1 : (o0.1 39).toInt ≤ v2.toInt := c_le c1
    exact tt_some trivial
  · have wc1 : v2.toInt < (o0.1 39).toInt := c_nle c1
    have i2 : (0 : Int) ≤ v2.toInt ∧ v2.toInt ≤ 7 := nr_nlel c1 i_v2 (k_o0.1 39) (by decide) (by decide)
    have i3 : (1 : Int) ≤ (o0.1 39).toInt ∧ (o0.1 39).toInt ≤ 8 := nr_nler c1 i_v2 (k_o0.1 39) (by decide) (by decide)
    exact H.2.1 _ _ _ _ k_o0 r_o0 i2 (iv_w (a := 0) (b := 128) (by decide) (by decide) (show (0 : Int) ≤ (0 : Int32).toInt ∧ (0 : Int32).toInt ≤ 0 by decide)) f_o0_0 f_o0_38 i3 f_o0_40 f_o0_95 (show v2.toInt < (o0.1 39).toInt by omega) (show 0 + (8 - v2.toInt - 1) * 33028 + 1 + (128 - 0) * 258 < (n : Int) by omega)
set_option maxHeartbeats 4000000 in
set_option maxRecDepth 100000 in
theorem hM_questions (yo0 : cf_O) : ∀ n, HM_questions yo0 n := by
  intro n
  induction n with
  | zero => exact ⟨(fun v1 v2 o0 k_o0 r_o0 i_v2 f_o0_0 f_o0_38 f_o0_40 f_o0_95 hm => by exact absurd (show 0 + (8 - v2.toInt) * 33028 < (0 : Int) from hm) (by omega)), (fun v1 v2 v3 o0 k_o0 r_o0 i_v2 i_v3 f_o0_0 f_o0_38 f_o0_39 f_o0_40 f_o0_95 x_0 hm => by exact absurd (show 0 + (8 - v2.toInt - 1) * 33028 + 1 + (128 - v3.toInt) * 258 < (0 : Int) from hm) (by omega)), (fun v1 v2 v3 v4 v5 o0 k_o0 r_o0 i_v2 i_v3 i_v4 i_v5 f_o0_0 f_o0_38 f_o0_39 f_o0_40 f_o0_95 x_0 x_1 hm => by exact absurd (show 0 + (8 - v2.toInt - 1) * 33028 + 1 + (128 - v3.toInt - 1) * 258 + 1 + (127 - v5.toInt) * 2 < (0 : Int) from hm) (by omega))⟩
  | succ n ih => exact ⟨(fun v1 v2 o0 k_o0 r_o0 i_v2 f_o0_0 f_o0_38 f_o0_40 f_o0_95 hm => tM_questions_4 ih v1 v2 o0 k_o0 r_o0 i_v2 f_o0_0 f_o0_38 f_o0_40 f_o0_95 (by omega)), (fun v1 v2 v3 o0 k_o0 r_o0 i_v2 i_v3 f_o0_0 f_o0_38 f_o0_39 f_o0_40 f_o0_95 x_0 hm => tM_questions_14 ih v1 v2 v3 o0 k_o0 r_o0 i_v2 i_v3 f_o0_0 f_o0_38 f_o0_39 f_o0_40 f_o0_95 x_0 (by omega)), (fun v1 v2 v3 v4 v5 o0 k_o0 r_o0 i_v2 i_v3 i_v4 i_v5 f_o0_0 f_o0_38 f_o0_39 f_o0_40 f_o0_95 x_0 x_1 hm => tM_questions_32 ih v1 v2 v3 v4 v5 o0 k_o0 r_o0 i_v2 i_v3 i_v4 i_v5 f_o0_0 f_o0_38 f_o0_39 f_o0_40 f_o0_95 x_0 x_1 (by omega))⟩
set_option maxHeartbeats 4000000 in
set_option maxRecDepth 100000 in
theorem sM_questions (o0 : cf_O) (k_o0 : okO I_M o0) (f_o0_0 : (0 : Int) ≤ (o0.1 0).toInt ∧ (o0.1 0).toInt ≤ 2) (f_o0_38 : (1 : Int) ≤ (o0.1 38).toInt ∧ (o0.1 38).toInt ≤ 1) (f_o0_40 : (1 : Int) ≤ (o0.1 40).toInt ∧ (o0.1 40).toInt ≤ 6) (f_o0_95 : (0 : Int) ≤ (o0.1 95).toInt ∧ (o0.1 95).toInt ≤ 0) : tt (fM_questions o0) (QM_questions o0) := by
  have H := hM_questions o0 cfFU
  have hm : (264227 : Int) ≤ (cfFU : Nat) := by decide
  have r_o0 : Fr (fr_M [] [] []) o0 o0 := fr_rfl
  unfold fM_questions fM_questions_0
  have g_o0_39 : (0 : Int) ≤ (o0.1 39).toInt ∧ (o0.1 39).toInt ≤ 8 := k_o0.1 39
  exact H.1 _ _ _ k_o0 r_o0 (iv_w (a := 0) (b := 8) (by decide) (by decide) (show (0 : Int) ≤ (0 : Int32).toInt ∧ (0 : Int32).toInt ≤ 0 by decide)) f_o0_0 f_o0_38 f_o0_40 f_o0_95 (show 0 + (8 - 0) * 33028 < ((cfFU : Nat) : Int) by omega)
def QM_hangs (v1 : Int32) (o0 : cf_O) (r : (Int32)) : Prop := ((0 : Int) ≤ r.toInt ∧ r.toInt ≤ 1) ∧ True
def HM_hangs (yv1 : Int32) (yo0 : cf_O) (n : Nat) : Prop := (∀ (v1 : Int32) (v2 : Int32) (v3 : Int32) (o0 : cf_O), (okO I_M o0) → (Fr (fr_M [] [] []) yo0 o0) → ((0 : Int) ≤ v1.toInt ∧ v1.toInt ≤ 7) → ((0 : Int) ≤ v2.toInt ∧ v2.toInt ≤ 1) → ((0 : Int) ≤ v3.toInt ∧ v3.toInt ≤ 256) → ((0 : Int) ≤ (o0.1 0).toInt ∧ (o0.1 0).toInt ≤ 2) → ((1 : Int) ≤ (o0.1 38).toInt ∧ (o0.1 38).toInt ≤ 1) → ((1 : Int) ≤ (o0.1 40).toInt ∧ (o0.1 40).toInt ≤ 6) → ((0 : Int) ≤ (o0.1 95).toInt ∧ (o0.1 95).toInt ≤ 0) → 0 + (256 - v3.toInt) * 2 < (n : Int) → tt (gM_hangs n 0 v1 v2 v3 o0) (QM_hangs yv1 yo0))
set_option maxHeartbeats 4000000 in
set_option maxRecDepth 100000 in
theorem tM_hangs_4 {yv1 : Int32} {yo0 : cf_O} {n : Nat} (H : HM_hangs yv1 yo0 n) (v1 : Int32) (v2 : Int32) (v3 : Int32) (o0 : cf_O) (k_o0 : okO I_M o0) (r_o0 : Fr (fr_M [] [] []) yo0 o0) (i_v1 : (0 : Int) ≤ v1.toInt ∧ v1.toInt ≤ 7) (i_v2 : (0 : Int) ≤ v2.toInt ∧ v2.toInt ≤ 1) (i_v3 : (0 : Int) ≤ v3.toInt ∧ v3.toInt ≤ 256) (f_o0_0 : (0 : Int) ≤ (o0.1 0).toInt ∧ (o0.1 0).toInt ≤ 2) (f_o0_38 : (1 : Int) ≤ (o0.1 38).toInt ∧ (o0.1 38).toInt ≤ 1) (f_o0_40 : (1 : Int) ≤ (o0.1 40).toInt ∧ (o0.1 40).toInt ≤ 6) (f_o0_95 : (0 : Int) ≤ (o0.1 95).toInt ∧ (o0.1 95).toInt ≤ 0) (hm : 0 + (256 - v3.toInt) * 2 ≤ (n : Int)) : tt (fM_hangs_4 (gM_hangs n) v1 v2 v3 o0) (QM_hangs yv1 yo0) := by
  unfold fM_hangs_4
  refine tt_kv (P := fun z => (1 : Int) ≤ z.toInt ∧ z.toInt ≤ 256) (iv_shl (p := 0) (q := 8) (show (1 : Int) ≤ (1 : Int32).toInt ∧ (1 : Int32).toInt ≤ 1 by decide) (k_o0.1 39) (by decide) (by decide) (by decide) (by decide) (by decide)) (fun x1 i2 => ?_)
  refine tt_if (fun c3 => ?_) (fun c3 => ?_)
  · have i4 : (1 : Int) ≤ v3.toInt ∧ v3.toInt ≤ 256 := nr_ler c3 i2 i_v3 (by decide) (by decide)
    refine tt_w (iv_b i_v2 (by decide) (by decide)) ?_
    exact tt_some ⟨i_v2, trivial⟩
  · have i5 : (0 : Int) ≤ v3.toInt ∧ v3.toInt ≤ 255 := nr_nlel c3 i_v3 i2 (by decide) (by decide)
    refine tt_if (fun c6 => ?_) (fun c6 => ?_)
    · have i7 : (0 : Int) ≤ v2.toInt ∧ v2.toInt ≤ 0 := nr_eql c6 i_v2 (show (0 : Int) ≤ (0 : Int32).toInt ∧ (0 : Int32).toInt ≤ 0 by decide) (by decide) (by decide)
      refine tt_n (ix_ok i5 (by decide) (by decide)) ?_
      refine tt_kv (P := fun z => (0 : Int) ≤ z.toInt ∧ z.toInt ≤ 1) (k_o0.2 71 _) (fun x8 i9 => ?_)
      refine tt_kv (P := fun z => (1 : Int) ≤ z.toInt ∧ z.toInt ≤ 128) (iv_shl (p := 0) (q := 7) (show (1 : Int) ≤ (1 : Int32).toInt ∧ (1 : Int32).toInt ≤ 1 by decide) i_v1 (by decide) (by decide) (by decide) (by decide) (by decide)) (fun x10 i11 => ?_)
      refine tt_kv (P := fun z => (0 : Int) ≤ z.toInt ∧ z.toInt ≤ 255) (iv_xor (w := 8) i5 i11 (by decide) (by decide) (by decide) (by decide) (by decide) (by decide) (by decide)) (fun x12 i13 => ?_)
      refine tt_n (ix_ok i13 (by decide) (by decide)) ?_
      refine tt_kv (P := fun z => (0 : Int) ≤ z.toInt ∧ z.toInt ≤ 1) (k_o0.2 71 _) (fun x14 i15 => ?_)
      refine tt_if (fun c16 => ?_) (fun c16 => ?_)
      · try unfold fM_hangs_42
        refine tt_kv (P := fun z => ((1 : Int) ≤ z.toInt ∧ z.toInt ≤ 256) ∧ z.toInt = v3.toInt + 1) ⟨iv_add i5 (show (1 : Int) ≤ (1 : Int32).toInt ∧ (1 : Int32).toInt ≤ 1 by decide) (by decide) (by decide) (by decide) (by decide), iq_add i5 (show (1 : Int) ≤ (1 : Int32).toInt ∧ (1 : Int32).toInt ≤ 1 by decide) (by decide) (by decide)⟩ (fun x17 qi18 => ?_)
        obtain ⟨i18, ei18⟩ := qi18
        exact H _ _ _ _ k_o0 r_o0 i_v1 (iv_w (a := 0) (b := 1) (by decide) (by decide) (show (0 : Int) ≤ (0 : Int32).toInt ∧ (0 : Int32).toInt ≤ 0 by decide)) (iv_w (a := 0) (b := 256) (by decide) (by decide) i18) f_o0_0 f_o0_38 f_o0_40 f_o0_95 (show 0 + (256 - x17.toInt) * 2 < (n : Int) by omega)
      · try unfold fM_hangs_37
        try unfold fM_hangs_42
        refine tt_kv (P := fun z => ((1 : Int) ≤ z.toInt ∧ z.toInt ≤ 256) ∧ z.toInt = v3.toInt + 1) ⟨iv_add i5 (show (1 : Int) ≤ (1 : Int32).toInt ∧ (1 : Int32).toInt ≤ 1 by decide) (by decide) (by decide) (by decide) (by decide), iq_add i5 (show (1 : Int) ≤ (1 : Int32).toInt ∧ (1 : Int32).toInt ≤ 1 by decide) (by decide) (by decide)⟩ (fun x19 qi20 => ?_)
        obtain ⟨i20, ei20⟩ := qi20
        exact H _ _ _ _ k_o0 r_o0 i_v1 (iv_w (a := 0) (b := 1) (by decide) (by decide) (show (1 : Int) ≤ (1 : Int32).toInt ∧ (1 : Int32).toInt ≤ 1 by decide)) (iv_w (a := 0) (b := 256) (by decide) (by decide) i20) f_o0_0 f_o0_38 f_o0_40 f_o0_95 (show 0 + (256 - x19.toInt) * 2 < (n : Int) by omega)
    · have i21 : (1 : Int) ≤ v2.toInt ∧ v2.toInt ≤ 1 := nr_nela c6 i_v2 (show (0 : Int) ≤ (0 : Int32).toInt ∧ (0 : Int32).toInt ≤ 0 by decide) (by decide) (by decide)
      try unfold fM_hangs_37
      try unfold fM_hangs_42
      refine tt_kv (P := fun z => ((1 : Int) ≤ z.toInt ∧ z.toInt ≤ 256) ∧ z.toInt = v3.toInt + 1) ⟨iv_add i5 (show (1 : Int) ≤ (1 : Int32).toInt ∧ (1 : Int32).toInt ≤ 1 by decide) (by decide) (by decide) (by decide) (by decide), iq_add i5 (show (1 : Int) ≤ (1 : Int32).toInt ∧ (1 : Int32).toInt ≤ 1 by decide) (by decide) (by decide)⟩ (fun x22 qi23 => ?_)
      obtain ⟨i23, ei23⟩ := qi23
      exact H _ _ _ _ k_o0 r_o0 i_v1 (iv_w (a := 0) (b := 1) (by decide) (by decide) (show (1 : Int) ≤ (1 : Int32).toInt ∧ (1 : Int32).toInt ≤ 1 by decide)) (iv_w (a := 0) (b := 256) (by decide) (by decide) i23) f_o0_0 f_o0_38 f_o0_40 f_o0_95 (show 0 + (256 - x22.toInt) * 2 < (n : Int) by omega)
set_option maxHeartbeats 4000000 in
set_option maxRecDepth 100000 in
theorem hM_hangs (yv1 : Int32) (yo0 : cf_O) : ∀ n, HM_hangs yv1 yo0 n := by
  intro n
  induction n with
  | zero => exact (fun v1 v2 v3 o0 k_o0 r_o0 i_v1 i_v2 i_v3 f_o0_0 f_o0_38 f_o0_40 f_o0_95 hm => by exact absurd (show 0 + (256 - v3.toInt) * 2 < (0 : Int) from hm) (by omega))
  | succ n ih => exact (fun v1 v2 v3 o0 k_o0 r_o0 i_v1 i_v2 i_v3 f_o0_0 f_o0_38 f_o0_40 f_o0_95 hm => tM_hangs_4 ih v1 v2 v3 o0 k_o0 r_o0 i_v1 i_v2 i_v3 f_o0_0 f_o0_38 f_o0_40 f_o0_95 (by omega))
set_option maxHeartbeats 4000000 in
set_option maxRecDepth 100000 in
theorem sM_hangs (v1 : Int32) (o0 : cf_O) (k_o0 : okO I_M o0) (i_v1 : (0 : Int) ≤ v1.toInt ∧ v1.toInt ≤ 7) (f_o0_0 : (0 : Int) ≤ (o0.1 0).toInt ∧ (o0.1 0).toInt ≤ 2) (f_o0_38 : (1 : Int) ≤ (o0.1 38).toInt ∧ (o0.1 38).toInt ≤ 1) (f_o0_40 : (1 : Int) ≤ (o0.1 40).toInt ∧ (o0.1 40).toInt ≤ 6) (f_o0_95 : (0 : Int) ≤ (o0.1 95).toInt ∧ (o0.1 95).toInt ≤ 0) : tt (fM_hangs v1 o0) (QM_hangs v1 o0) := by
  have H := hM_hangs v1 o0 cfFU
  have hm : (515 : Int) ≤ (cfFU : Nat) := by decide
  have r_o0 : Fr (fr_M [] [] []) o0 o0 := fr_rfl
  unfold fM_hangs fM_hangs_0
  exact H _ _ _ _ k_o0 r_o0 i_v1 (iv_w (a := 0) (b := 1) (by decide) (by decide) (show (0 : Int) ≤ (0 : Int32).toInt ∧ (0 : Int32).toInt ≤ 0 by decide)) (iv_w (a := 0) (b := 256) (by decide) (by decide) (show (0 : Int) ≤ (0 : Int32).toInt ∧ (0 : Int32).toInt ≤ 0 by decide)) f_o0_0 f_o0_38 f_o0_40 f_o0_95 (show 0 + (256 - 0) * 2 < ((cfFU : Nat) : Int) by omega)
def QM_diagram (v1 : Int32) (v2 : Int32) (o0 : cf_O) (r : (Int32 × cf_O)) : Prop := (okO I_M r.2) ∧ (Fr (fr_M [0] [71, 75] []) o0 r.2) ∧ True
def HM_diagram (yv1 : Int32) (yv2 : Int32) (yo0 : cf_O) (n : Nat) : Prop := (∀ (v2 : Int32) (v4 : Int32) (v5 : Int32) (v6 : Int32) (v7 : Int32) (o0 : cf_O), (okO I_M o0) → (Fr (fr_M [0] [71, 75] []) yo0 o0) → ((0 : Int) ≤ v2.toInt ∧ v2.toInt ≤ 3) → (((-1) : Int) ≤ v5.toInt ∧ v5.toInt ≤ 255) → (((-1) : Int) ≤ v6.toInt ∧ v6.toInt ≤ (-1)) → (((-1) : Int) ≤ v7.toInt ∧ v7.toInt ≤ 255) → ((0 : Int) ≤ (o0.1 0).toInt ∧ (o0.1 0).toInt ≤ 2) → ((1 : Int) ≤ (o0.1 38).toInt ∧ (o0.1 38).toInt ≤ 1) → ((1 : Int) ≤ (o0.1 40).toInt ∧ (o0.1 40).toInt ≤ 6) → ((0 : Int) ≤ (o0.1 95).toInt ∧ (o0.1 95).toInt ≤ 0) → 18 + (v7.toInt - (-1)) * 2 < (n : Int) → tt (gM_diagram n 0 v2 v4 v5 v6 v7 o0) (QM_diagram yv1 yv2 yo0)) ∧ (∀ (v2 : Int32) (v4 : Int32) (v5 : Int32) (v6 : Int32) (v7 : Int32) (o0 : cf_O), (okO I_M o0) → (Fr (fr_M [0] [71, 75] []) yo0 o0) → ((0 : Int) ≤ v2.toInt ∧ v2.toInt ≤ 3) → (((-1) : Int) ≤ v5.toInt ∧ v5.toInt ≤ 255) → (((-1) : Int) ≤ v6.toInt ∧ v6.toInt ≤ 7) → (((-1) : Int) ≤ v7.toInt ∧ v7.toInt ≤ 7) → ((0 : Int) ≤ (o0.1 0).toInt ∧ (o0.1 0).toInt ≤ 2) → ((1 : Int) ≤ (o0.1 38).toInt ∧ (o0.1 38).toInt ≤ 1) → ((1 : Int) ≤ (o0.1 40).toInt ∧ (o0.1 40).toInt ≤ 6) → ((0 : Int) ≤ (o0.1 95).toInt ∧ (o0.1 95).toInt ≤ 0) → 0 + (v7.toInt - (-1)) * 2 < (n : Int) → tt (gM_diagram n 1 v2 v4 v5 v6 v7 o0) (QM_diagram yv1 yv2 yo0))
set_option maxHeartbeats 4000000 in
set_option maxRecDepth 100000 in
theorem tM_diagram_165 {yv1 : Int32} {yv2 : Int32} {yo0 : cf_O} {n : Nat} (H : HM_diagram yv1 yv2 yo0 n) (v2 : Int32) (v4 : Int32) (v5 : Int32) (v6 : Int32) (v7 : Int32) (o0 : cf_O) (k_o0 : okO I_M o0) (r_o0 : Fr (fr_M [0] [71, 75] []) yo0 o0) (i_v2 : (0 : Int) ≤ v2.toInt ∧ v2.toInt ≤ 3) (i_v5 : ((-1) : Int) ≤ v5.toInt ∧ v5.toInt ≤ 255) (i_v6 : ((-1) : Int) ≤ v6.toInt ∧ v6.toInt ≤ 7) (i_v7 : ((-1) : Int) ≤ v7.toInt ∧ v7.toInt ≤ 7) (f_o0_0 : (0 : Int) ≤ (o0.1 0).toInt ∧ (o0.1 0).toInt ≤ 2) (f_o0_38 : (1 : Int) ≤ (o0.1 38).toInt ∧ (o0.1 38).toInt ≤ 1) (f_o0_40 : (1 : Int) ≤ (o0.1 40).toInt ∧ (o0.1 40).toInt ≤ 6) (f_o0_95 : (0 : Int) ≤ (o0.1 95).toInt ∧ (o0.1 95).toInt ≤ 0) (hm : 0 + (v7.toInt - (-1)) * 2 ≤ (n : Int)) : tt (fM_diagram_165 (gM_diagram n) v2 v4 v5 v6 v7 o0) (QM_diagram yv1 yv2 yo0) := by
  unfold fM_diagram_165
  refine tt_if (fun c1 => ?_) (fun c1 => ?_)
  · have i2 : ((-1) : Int) ≤ v7.toInt ∧ v7.toInt ≤ (-1) := nr_ltl c1 i_v7 (show (0 : Int) ≤ (0 : Int32).toInt ∧ (0 : Int32).toInt ≤ 0 by decide) (by decide) (by decide)
    refine tt_if (fun c3 => ?_) (fun c3 => ?_)
    · have i4 : (0 : Int) ≤ v2.toInt ∧ v2.toInt ≤ 0 := nr_eql c3 i_v2 (show (0 : Int) ≤ (0 : Int32).toInt ∧ (0 : Int32).toInt ≤ 0 by decide) (by decide) (by decide)
      refine tt_b (sM_questions _ k_o0 f_o0_0 f_o0_38 f_o0_40 f_o0_95) (fun q5 hq5 => ?_)
      try unfold fM_diagram_227
      exact tt_some ⟨k_o0, r_o0, trivial⟩
    · have i6 : (1 : Int) ≤ v2.toInt ∧ v2.toInt ≤ 3 := nr_nela c3 i_v2 (show (0 : Int) ≤ (0 : Int32).toInt ∧ (0 : Int32).toInt ≤ 0 by decide) (by decide) (by decide)
      refine tt_if (fun c7 => ?_) (fun c7 => ?_)
      · have i8 : (1 : Int) ≤ v2.toInt ∧ v2.toInt ≤ 1 := nr_eql c7 i6 (show (1 : Int) ≤ (1 : Int32).toInt ∧ (1 : Int32).toInt ≤ 1 by decide) (by decide) (by decide)
        try unfold fM_diagram_227
        exact tt_some ⟨k_o0, r_o0, trivial⟩
      · have i9 : (2 : Int) ≤ v2.toInt ∧ v2.toInt ≤ 3 := nr_nela c7 i6 (show (1 : Int) ≤ (1 : Int32).toInt ∧ (1 : Int32).toInt ≤ 1 by decide) (by decide) (by decide)
        refine tt_if (fun c10 => ?_) (fun c10 => ?_)
        · have i11 : (2 : Int) ≤ v2.toInt ∧ v2.toInt ≤ 2 := nr_eql c10 i9 (show (2 : Int) ≤ (2 : Int32).toInt ∧ (2 : Int32).toInt ≤ 2 by decide) (by decide) (by decide)
          try unfold fM_diagram_227
          exact tt_some ⟨k_o0, r_o0, trivial⟩
        · have i12 : (3 : Int) ≤ v2.toInt ∧ v2.toInt ≤ 3 := nr_nela c10 i9 (show (2 : Int) ≤ (2 : Int32).toInt ∧ (2 : Int32).toInt ≤ 2 by decide) (by decide) (by decide)
          try unfold fM_diagram_227
          exact tt_some ⟨k_o0, r_o0, trivial⟩
  · have i13 : (0 : Int) ≤ v7.toInt ∧ v7.toInt ≤ 7 := nr_nltr c1 (show (0 : Int) ≤ (0 : Int32).toInt ∧ (0 : Int32).toInt ≤ 0 by decide) i_v7 (by decide) (by decide)
    refine tt_b (sM_hangs _ _ k_o0 i13 f_o0_0 f_o0_38 f_o0_40 f_o0_95) (fun q14 hq14 => ?_)
    obtain ⟨i_q14, -⟩ := hq14
    refine tt_if (fun c15 => ?_) (fun c15 => ?_)
    · have i16 : (0 : Int) ≤ q14.toInt ∧ q14.toInt ≤ 0 := nr_eql c15 i_q14 (show (0 : Int) ≤ (0 : Int32).toInt ∧ (0 : Int32).toInt ≤ 0 by decide) (by decide) (by decide)
      try unfold fM_diagram_186
      refine tt_kv (P := fun z => (((-1) : Int) ≤ z.toInt ∧ z.toInt ≤ 6) ∧ z.toInt = v7.toInt + (-1)) ⟨iv_add i13 (show ((-1) : Int) ≤ ((-1) : Int32).toInt ∧ ((-1) : Int32).toInt ≤ (-1) by decide) (by decide) (by decide) (by decide) (by decide), iq_add i13 (show ((-1) : Int) ≤ ((-1) : Int32).toInt ∧ ((-1) : Int32).toInt ≤ (-1) by decide) (by decide) (by decide)⟩ (fun x17 qi18 => ?_)
      obtain ⟨i18, ei18⟩ := qi18
      exact H.2 _ _ _ _ _ _ k_o0 r_o0 i_v2 i_v5 i_v6 (iv_w (a := (-1)) (b := 7) (by decide) (by decide) i18) f_o0_0 f_o0_38 f_o0_40 f_o0_95 (show 0 + (x17.toInt - (-1)) * 2 < (n : Int) by omega)
    · have i19 : (1 : Int) ≤ q14.toInt ∧ q14.toInt ≤ 1 := nr_nela c15 i_q14 (show (0 : Int) ≤ (0 : Int32).toInt ∧ (0 : Int32).toInt ≤ 0 by decide) (by decide) (by decide)
      try unfold fM_diagram_186
      refine tt_kv (P := fun z => (((-1) : Int) ≤ z.toInt ∧ z.toInt ≤ 6) ∧ z.toInt = v7.toInt + (-1)) ⟨iv_add i13 (show ((-1) : Int) ≤ ((-1) : Int32).toInt ∧ ((-1) : Int32).toInt ≤ (-1) by decide) (by decide) (by decide) (by decide) (by decide), iq_add i13 (show ((-1) : Int) ≤ ((-1) : Int32).toInt ∧ ((-1) : Int32).toInt ≤ (-1) by decide) (by decide) (by decide)⟩ (fun x20 qi21 => ?_)
      obtain ⟨i21, ei21⟩ := qi21
      exact H.2 _ _ _ _ _ _ k_o0 r_o0 i_v2 i_v5 (iv_w (a := (-1)) (b := 7) (by decide) (by decide) i13) (iv_w (a := (-1)) (b := 7) (by decide) (by decide) i21) f_o0_0 f_o0_38 f_o0_40 f_o0_95 (show 0 + (x20.toInt - (-1)) * 2 < (n : Int) by omega)
set_option maxHeartbeats 4000000 in
set_option maxRecDepth 100000 in
theorem tM_diagram_106 {yv1 : Int32} {yv2 : Int32} {yo0 : cf_O} {n : Nat} (H : HM_diagram yv1 yv2 yo0 n) (v2 : Int32) (v4 : Int32) (v5 : Int32) (v6 : Int32) (v7 : Int32) (o0 : cf_O) (k_o0 : okO I_M o0) (r_o0 : Fr (fr_M [0] [71, 75] []) yo0 o0) (i_v2 : (0 : Int) ≤ v2.toInt ∧ v2.toInt ≤ 3) (i_v5 : ((-1) : Int) ≤ v5.toInt ∧ v5.toInt ≤ 255) (i_v6 : ((-1) : Int) ≤ v6.toInt ∧ v6.toInt ≤ (-1)) (i_v7 : ((-1) : Int) ≤ v7.toInt ∧ v7.toInt ≤ 255) (f_o0_0 : (0 : Int) ≤ (o0.1 0).toInt ∧ (o0.1 0).toInt ≤ 2) (f_o0_38 : (1 : Int) ≤ (o0.1 38).toInt ∧ (o0.1 38).toInt ≤ 1) (f_o0_40 : (1 : Int) ≤ (o0.1 40).toInt ∧ (o0.1 40).toInt ≤ 6) (f_o0_95 : (0 : Int) ≤ (o0.1 95).toInt ∧ (o0.1 95).toInt ≤ 0) (hm : 18 + (v7.toInt - (-1)) * 2 ≤ (n : Int)) : tt (fM_diagram_106 (gM_diagram n) v2 v4 v5 v6 v7 o0) (QM_diagram yv1 yv2 yo0) := by
  unfold fM_diagram_106
  refine tt_if (fun c1 => ?_) (fun c1 => ?_)
  · have i2 : ((-1) : Int) ≤ v7.toInt ∧ v7.toInt ≤ (-1) := nr_ltl c1 i_v7 (show (0 : Int) ≤ (0 : Int32).toInt ∧ (0 : Int32).toInt ≤ 0 by decide) (by decide) (by decide)
    refine tt_kv (P := fun z => (((-1) : Int) ≤ z.toInt ∧ z.toInt ≤ 7) ∧ z.toInt = (o0.1 39).toInt - 1) ⟨iv_sub (k_o0.1 39) (show (1 : Int) ≤ (1 : Int32).toInt ∧ (1 : Int32).toInt ≤ 1 by decide) (by decide) (by decide) (by decide) (by decide), iq_sub (k_o0.1 39) (show (1 : Int) ≤ (1 : Int32).toInt ∧ (1 : Int32).toInt ≤ 1 by decide) (by decide) (by decide)⟩ (fun x3 qi4 => ?_)
    obtain ⟨i4, ei4⟩ := qi4
    exact H.2 _ _ _ _ _ _ k_o0 r_o0 i_v2 i_v5 (iv_w (a := (-1)) (b := 7) (by decide) (by decide) i_v6) i4 f_o0_0 f_o0_38 f_o0_40 f_o0_95 (show 0 + (x3.toInt - (-1)) * 2 < (n : Int) by omega)
  · have i5 : (0 : Int) ≤ v7.toInt ∧ v7.toInt ≤ 255 := nr_nltr c1 (show (0 : Int) ≤ (0 : Int32).toInt ∧ (0 : Int32).toInt ≤ 0 by decide) i_v7 (by decide) (by decide)
    refine tt_n (ix_ok i5 (by decide) (by decide)) ?_
    refine tt_kv (P := fun z => (0 : Int) ≤ z.toInt ∧ z.toInt ≤ 1) (k_o0.2 71 _) (fun x6 i7 => ?_)
    refine tt_if (fun c8 => ?_) (fun c8 => ?_)
    · have i9 : (0 : Int) ≤ x6.toInt ∧ x6.toInt ≤ 0 := nr_eql c8 i7 (show (0 : Int) ≤ (0 : Int32).toInt ∧ (0 : Int32).toInt ≤ 0 by decide) (by decide) (by decide)
      try unfold fM_diagram_130
      refine tt_n (ix_ok i5 (by decide) (by decide)) ?_
      refine tt_kv (P := fun z => (0 : Int) ≤ z.toInt ∧ z.toInt ≤ 1) (k_o0.2 71 _) (fun x10 i11 => ?_)
      refine tt_if (fun c12 => ?_) (fun c12 => ?_)
      · have i13 : (0 : Int) ≤ x10.toInt ∧ x10.toInt ≤ 0 := nr_eql c12 i11 (show (0 : Int) ≤ (0 : Int32).toInt ∧ (0 : Int32).toInt ≤ 0 by decide) (by decide) (by decide)
        try unfold fM_diagram_149
        refine tt_kv (P := fun z => (((-1) : Int) ≤ z.toInt ∧ z.toInt ≤ 254) ∧ z.toInt = v7.toInt + (-1)) ⟨iv_add i5 (show ((-1) : Int) ≤ ((-1) : Int32).toInt ∧ ((-1) : Int32).toInt ≤ (-1) by decide) (by decide) (by decide) (by decide) (by decide), iq_add i5 (show ((-1) : Int) ≤ ((-1) : Int32).toInt ∧ ((-1) : Int32).toInt ≤ (-1) by decide) (by decide) (by decide)⟩ (fun x14 qi15 => ?_)
        obtain ⟨i15, ei15⟩ := qi15
        exact H.1 _ _ _ _ _ _ k_o0 r_o0 i_v2 i_v5 i_v6 (iv_w (a := (-1)) (b := 255) (by decide) (by decide) i15) f_o0_0 f_o0_38 f_o0_40 f_o0_95 (show 18 + (x14.toInt - (-1)) * 2 < (n : Int) by omega)
      · have i16 : (1 : Int) ≤ x10.toInt ∧ x10.toInt ≤ 1 := nr_nela c12 i11 (show (0 : Int) ≤ (0 : Int32).toInt ∧ (0 : Int32).toInt ≤ 0 by decide) (by decide) (by decide)
        try unfold fM_diagram_149
        refine tt_kv (P := fun z => (((-1) : Int) ≤ z.toInt ∧ z.toInt ≤ 254) ∧ z.toInt = v7.toInt + (-1)) ⟨iv_add i5 (show ((-1) : Int) ≤ ((-1) : Int32).toInt ∧ ((-1) : Int32).toInt ≤ (-1) by decide) (by decide) (by decide) (by decide) (by decide), iq_add i5 (show ((-1) : Int) ≤ ((-1) : Int32).toInt ∧ ((-1) : Int32).toInt ≤ (-1) by decide) (by decide) (by decide)⟩ (fun x17 qi18 => ?_)
        obtain ⟨i18, ei18⟩ := qi18
        exact H.1 _ _ _ _ _ _ k_o0 r_o0 i_v2 (iv_w (a := (-1)) (b := 255) (by decide) (by decide) i5) i_v6 (iv_w (a := (-1)) (b := 255) (by decide) (by decide) i18) f_o0_0 f_o0_38 f_o0_40 f_o0_95 (show 18 + (x17.toInt - (-1)) * 2 < (n : Int) by omega)
    · have i19 : (1 : Int) ≤ x6.toInt ∧ x6.toInt ≤ 1 := nr_nela c8 i7 (show (0 : Int) ≤ (0 : Int32).toInt ∧ (0 : Int32).toInt ≤ 0 by decide) (by decide) (by decide)
      refine tt_kv (P := fun z => ((-2147483648) : Int) ≤ z.toInt ∧ z.toInt ≤ 2147483647) (iv_top _) (fun x20 i21 => ?_)
      try unfold fM_diagram_130
      refine tt_n (ix_ok i5 (by decide) (by decide)) ?_
      refine tt_kv (P := fun z => (0 : Int) ≤ z.toInt ∧ z.toInt ≤ 1) (k_o0.2 71 _) (fun x22 i23 => ?_)
      refine tt_if (fun c24 => ?_) (fun c24 => ?_)
      · have i25 : (0 : Int) ≤ x22.toInt ∧ x22.toInt ≤ 0 := nr_eql c24 i23 (show (0 : Int) ≤ (0 : Int32).toInt ∧ (0 : Int32).toInt ≤ 0 by decide) (by decide) (by decide)
        try unfold fM_diagram_149
        refine tt_kv (P := fun z => (((-1) : Int) ≤ z.toInt ∧ z.toInt ≤ 254) ∧ z.toInt = v7.toInt + (-1)) ⟨iv_add i5 (show ((-1) : Int) ≤ ((-1) : Int32).toInt ∧ ((-1) : Int32).toInt ≤ (-1) by decide) (by decide) (by decide) (by decide) (by decide), iq_add i5 (show ((-1) : Int) ≤ ((-1) : Int32).toInt ∧ ((-1) : Int32).toInt ≤ (-1) by decide) (by decide) (by decide)⟩ (fun x26 qi27 => ?_)
        obtain ⟨i27, ei27⟩ := qi27
        exact H.1 _ _ _ _ _ _ k_o0 r_o0 i_v2 i_v5 i_v6 (iv_w (a := (-1)) (b := 255) (by decide) (by decide) i27) f_o0_0 f_o0_38 f_o0_40 f_o0_95 (show 18 + (x26.toInt - (-1)) * 2 < (n : Int) by omega)
      · have i28 : (1 : Int) ≤ x22.toInt ∧ x22.toInt ≤ 1 := nr_nela c24 i23 (show (0 : Int) ≤ (0 : Int32).toInt ∧ (0 : Int32).toInt ≤ 0 by decide) (by decide) (by decide)
        try unfold fM_diagram_149
        refine tt_kv (P := fun z => (((-1) : Int) ≤ z.toInt ∧ z.toInt ≤ 254) ∧ z.toInt = v7.toInt + (-1)) ⟨iv_add i5 (show ((-1) : Int) ≤ ((-1) : Int32).toInt ∧ ((-1) : Int32).toInt ≤ (-1) by decide) (by decide) (by decide) (by decide) (by decide), iq_add i5 (show ((-1) : Int) ≤ ((-1) : Int32).toInt ∧ ((-1) : Int32).toInt ≤ (-1) by decide) (by decide) (by decide)⟩ (fun x29 qi30 => ?_)
        obtain ⟨i30, ei30⟩ := qi30
        exact H.1 _ _ _ _ _ _ k_o0 r_o0 i_v2 (iv_w (a := (-1)) (b := 255) (by decide) (by decide) i5) i_v6 (iv_w (a := (-1)) (b := 255) (by decide) (by decide) i30) f_o0_0 f_o0_38 f_o0_40 f_o0_95 (show 18 + (x29.toInt - (-1)) * 2 < (n : Int) by omega)
set_option maxHeartbeats 4000000 in
set_option maxRecDepth 100000 in
theorem hM_diagram (yv1 : Int32) (yv2 : Int32) (yo0 : cf_O) : ∀ n, HM_diagram yv1 yv2 yo0 n := by
  intro n
  induction n with
  | zero => exact ⟨(fun v2 v4 v5 v6 v7 o0 k_o0 r_o0 i_v2 i_v5 i_v6 i_v7 f_o0_0 f_o0_38 f_o0_40 f_o0_95 hm => by exact absurd (show 18 + (v7.toInt - (-1)) * 2 < (0 : Int) from hm) (by omega)), (fun v2 v4 v5 v6 v7 o0 k_o0 r_o0 i_v2 i_v5 i_v6 i_v7 f_o0_0 f_o0_38 f_o0_40 f_o0_95 hm => by exact absurd (show 0 + (v7.toInt - (-1)) * 2 < (0 : Int) from hm) (by omega))⟩
  | succ n ih => exact ⟨(fun v2 v4 v5 v6 v7 o0 k_o0 r_o0 i_v2 i_v5 i_v6 i_v7 f_o0_0 f_o0_38 f_o0_40 f_o0_95 hm => tM_diagram_106 ih v2 v4 v5 v6 v7 o0 k_o0 r_o0 i_v2 i_v5 i_v6 i_v7 f_o0_0 f_o0_38 f_o0_40 f_o0_95 (by omega)), (fun v2 v4 v5 v6 v7 o0 k_o0 r_o0 i_v2 i_v5 i_v6 i_v7 f_o0_0 f_o0_38 f_o0_40 f_o0_95 hm => tM_diagram_165 ih v2 v4 v5 v6 v7 o0 k_o0 r_o0 i_v2 i_v5 i_v6 i_v7 f_o0_0 f_o0_38 f_o0_40 f_o0_95 (by omega))⟩
set_option maxHeartbeats 4000000 in
set_option maxRecDepth 100000 in
theorem sM_diagram (v1 : Int32) (v2 : Int32) (o0 : cf_O) (k_o0 : okO I_M o0) (f_o0_95 : (0 : Int) ≤ (o0.1 95).toInt ∧ (o0.1 95).toInt ≤ 0) : tt (fM_diagram v1 v2 o0) (QM_diagram v1 v2 o0) := by
  have H := hM_diagram v1 v2 o0 cfFU
  have hm : (533 : Int) ≤ (cfFU : Nat) := by decide
  have r_o0 : Fr (fr_M [0] [71, 75] []) o0 o0 := fr_rfl
  unfold fM_diagram fM_diagram_0
  refine tt_if (fun c1 => ?_) (fun c1 => ?_)
  · have i2 : (0 : Int) ≤ (o0.1 38).toInt ∧ (o0.1 38).toInt ≤ 0 := nr_eql c1 (k_o0.1 38) (show (0 : Int) ≤ (0 : Int32).toInt ∧ (0 : Int32).toInt ≤ 0 by decide) (by decide) (by decide)
    try unfold fM_diagram_25
    try unfold fM_diagram_26
    refine tt_if (fun c3 => ?_) (fun c3 => ?_)
    · try unfold fM_diagram_40
      refine tt_if (fun c4 => ?_) (fun c4 => ?_)
      · try unfold fM_diagram_55
        try unfold fM_diagram_56
        refine tt_if (fun c5 => ?_) (fun c5 => ?_)
        · try unfold fM_diagram_73
          try unfold fM_diagram_74
          try unfold fM_refuse
          try unfold fM_refuse_0
          refine tt_bif (fun c6 => ?_) (fun c6 => ?_)
          · exact (dd_eq c6 (show (1 : Int) ≤ (1 : Int32).toInt ∧ (1 : Int32).toInt ≤ 1 by decide) (show (0 : Int) ≤ (0 : Int32).toInt ∧ (0 : Int32).toInt ≤ 0 by decide) (by decide)).elim
          · try unfold fM_refuse_26
            refine tt_bko ?_
            have k7 := ok_fp (k := 0) (v := 1) k_o0 (iv_w (a := 0) (b := 3) (by decide) (by decide) (show (1 : Int) ≤ (1 : Int32).toInt ∧ (1 : Int32).toInt ≤ 1 by decide))
            have r8 := fr_fp (k := 0) (v := 1) r_o0 rfl
            refine tt_bif (fun c9 => ?_) (fun c9 => ?_)
            · exact (dd_le c9 (show (1 : Int) ≤ (1 : Int32).toInt ∧ (1 : Int32).toInt ≤ 1 by decide) (show (0 : Int) ≤ (0 : Int32).toInt ∧ (0 : Int32).toInt ≤ 0 by decide) (by decide)).elim
            · try unfold fM_refuse_41
              refine tt_bw (iv_b (show (1 : Int) ≤ (1 : Int32).toInt ∧ (1 : Int32).toInt ≤ 1 by decide) (by decide) (by decide)) ?_
              refine tt_bs ?_
              refine tt_if (fun c10 => ?_) (fun c10 => ?_)
              · exact (dd_eq c10 (show (1 : Int) ≤ (1 : Int32).toInt ∧ (1 : Int32).toInt ≤ 1 by decide) (show (0 : Int) ≤ (0 : Int32).toInt ∧ (0 : Int32).toInt ≤ 0 by decide) (by decide)).elim
              · exact tt_some ⟨k7, r8, trivial⟩
        · exact (dd_ne c5 (show (0 : Int) ≤ (0 : Int32).toInt ∧ (0 : Int32).toInt ≤ 0 by decide) (show (0 : Int) ≤ (0 : Int32).toInt ∧ (0 : Int32).toInt ≤ 0 by decide)).elim
      · exact (dd_ne c4 i2 (show (0 : Int) ≤ (0 : Int32).toInt ∧ (0 : Int32).toInt ≤ 0 by decide)).elim
    · exact (dd_ne c3 i2 (show (0 : Int) ≤ (0 : Int32).toInt ∧ (0 : Int32).toInt ≤ 0 by decide)).elim
  · have i11 : (1 : Int) ≤ (o0.1 38).toInt ∧ (o0.1 38).toInt ≤ 1 := nr_nela c1 (k_o0.1 38) (show (0 : Int) ≤ (0 : Int32).toInt ∧ (0 : Int32).toInt ≤ 0 by decide) (by decide) (by decide)
    refine tt_kv (P := fun z => (((-1) : Int) ≤ z.toInt ∧ z.toInt ≤ 5) ∧ z.toInt = (o0.1 40).toInt - 1) ⟨iv_sub (k_o0.1 40) (show (1 : Int) ≤ (1 : Int32).toInt ∧ (1 : Int32).toInt ≤ 1 by decide) (by decide) (by decide) (by decide) (by decide), iq_sub (k_o0.1 40) (show (1 : Int) ≤ (1 : Int32).toInt ∧ (1 : Int32).toInt ≤ 1 by decide) (by decide) (by decide)⟩ (fun x12 qi13 => ?_)
    obtain ⟨i13, ei13⟩ := qi13
    try unfold fM_in
    try unfold fM_in_0
    refine tt_bif (fun c14 => ?_) (fun c14 => ?_)
    · have i15 : ((-2147483648) : Int) ≤ v1.toInt ∧ v1.toInt ≤ (-1) := nr_ltl c14 (iv_top v1) (show (0 : Int) ≤ (0 : Int32).toInt ∧ (0 : Int32).toInt ≤ 0 by decide) (by decide) (by decide)
      try unfold fM_in_14
      try unfold fM_in_15
      refine tt_bw (iv_b (show (0 : Int) ≤ (0 : Int32).toInt ∧ (0 : Int32).toInt ≤ 0 by decide) (by decide) (by decide)) ?_
      refine tt_bs ?_
      refine tt_if (fun c16 => ?_) (fun c16 => ?_)
      · try unfold fM_diagram_25
        try unfold fM_diagram_26
        refine tt_if (fun c17 => ?_) (fun c17 => ?_)
        · exact (dd_eq c17 i11 (show (0 : Int) ≤ (0 : Int32).toInt ∧ (0 : Int32).toInt ≤ 0 by decide) (by decide)).elim
        · try unfold fM_diagram_40
          refine tt_if (fun c18 => ?_) (fun c18 => ?_)
          · exact (dd_eq c18 i11 (show (0 : Int) ≤ (0 : Int32).toInt ∧ (0 : Int32).toInt ≤ 0 by decide) (by decide)).elim
          · refine tt_if (fun c19 => ?_) (fun c19 => ?_)
            · try unfold fM_diagram_56
              refine tt_if (fun c20 => ?_) (fun c20 => ?_)
              · try unfold fM_diagram_73
                try unfold fM_diagram_74
                try unfold fM_refuse
                try unfold fM_refuse_0
                refine tt_bif (fun c21 => ?_) (fun c21 => ?_)
                · refine tt_bif (fun c22 => ?_) (fun c22 => ?_)
                  · exact (dd_eq c22 (show (1 : Int) ≤ (1 : Int32).toInt ∧ (1 : Int32).toInt ≤ 1 by decide) (show (0 : Int) ≤ (0 : Int32).toInt ∧ (0 : Int32).toInt ≤ 0 by decide) (by decide)).elim
                  · try unfold fM_refuse_26
                    refine tt_bko ?_
                    have k23 := ok_fp (k := 0) (v := 2) k_o0 (iv_w (a := 0) (b := 3) (by decide) (by decide) (show (2 : Int) ≤ (2 : Int32).toInt ∧ (2 : Int32).toInt ≤ 2 by decide))
                    have r24 := fr_fp (k := 0) (v := 2) r_o0 rfl
                    refine tt_bif (fun c25 => ?_) (fun c25 => ?_)
                    · exact (dd_le c25 (show (2 : Int) ≤ (2 : Int32).toInt ∧ (2 : Int32).toInt ≤ 2 by decide) (show (0 : Int) ≤ (0 : Int32).toInt ∧ (0 : Int32).toInt ≤ 0 by decide) (by decide)).elim
                    · try unfold fM_refuse_41
                      refine tt_bw (iv_b (show (1 : Int) ≤ (1 : Int32).toInt ∧ (1 : Int32).toInt ≤ 1 by decide) (by decide) (by decide)) ?_
                      refine tt_bs ?_
                      refine tt_if (fun c26 => ?_) (fun c26 => ?_)
                      · exact (dd_eq c26 (show (1 : Int) ≤ (1 : Int32).toInt ∧ (1 : Int32).toInt ≤ 1 by decide) (show (0 : Int) ≤ (0 : Int32).toInt ∧ (0 : Int32).toInt ≤ 0 by decide) (by decide)).elim
                      · exact tt_some ⟨k23, r24, trivial⟩
                · exact (dd_ne c21 (show (0 : Int) ≤ (0 : Int32).toInt ∧ (0 : Int32).toInt ≤ 0 by decide) (show (0 : Int) ≤ (0 : Int32).toInt ∧ (0 : Int32).toInt ≤ 0 by decide)).elim
              · exact (dd_ne c20 (show (0 : Int) ≤ (0 : Int32).toInt ∧ (0 : Int32).toInt ≤ 0 by decide) (show (0 : Int) ≤ (0 : Int32).toInt ∧ (0 : Int32).toInt ≤ 0 by decide)).elim
            · exact (dd_ne c19 (show (0 : Int) ≤ (0 : Int32).toInt ∧ (0 : Int32).toInt ≤ 0 by decide) (show (0 : Int) ≤ (0 : Int32).toInt ∧ (0 : Int32).toInt ≤ 0 by decide)).elim
      · exact (dd_ne c16 (show (0 : Int) ≤ (0 : Int32).toInt ∧ (0 : Int32).toInt ≤ 0 by decide) (show (0 : Int) ≤ (0 : Int32).toInt ∧ (0 : Int32).toInt ≤ 0 by decide)).elim
    · have i27 : (0 : Int) ≤ v1.toInt ∧ v1.toInt ≤ 2147483647 := nr_nltr c14 (show (0 : Int) ≤ (0 : Int32).toInt ∧ (0 : Int32).toInt ≤ 0 by decide) (iv_top v1) (by decide) (by decide)
      refine tt_bif (fun c28 => ?_) (fun c28 => ?_)
      · try unfold fM_in_14
        try unfold fM_in_15
        refine tt_bw (iv_b (show (0 : Int) ≤ (0 : Int32).toInt ∧ (0 : Int32).toInt ≤ 0 by decide) (by decide) (by decide)) ?_
        refine tt_bs ?_
        refine tt_if (fun c29 => ?_) (fun c29 => ?_)
        · try unfold fM_diagram_25
          try unfold fM_diagram_26
          refine tt_if (fun c30 => ?_) (fun c30 => ?_)
          · exact (dd_eq c30 i11 (show (0 : Int) ≤ (0 : Int32).toInt ∧ (0 : Int32).toInt ≤ 0 by decide) (by decide)).elim
          · try unfold fM_diagram_40
            refine tt_if (fun c31 => ?_) (fun c31 => ?_)
            · exact (dd_eq c31 i11 (show (0 : Int) ≤ (0 : Int32).toInt ∧ (0 : Int32).toInt ≤ 0 by decide) (by decide)).elim
            · refine tt_if (fun c32 => ?_) (fun c32 => ?_)
              · try unfold fM_diagram_56
                refine tt_if (fun c33 => ?_) (fun c33 => ?_)
                · try unfold fM_diagram_73
                  try unfold fM_diagram_74
                  try unfold fM_refuse
                  try unfold fM_refuse_0
                  refine tt_bif (fun c34 => ?_) (fun c34 => ?_)
                  · refine tt_bif (fun c35 => ?_) (fun c35 => ?_)
                    · exact (dd_eq c35 (show (1 : Int) ≤ (1 : Int32).toInt ∧ (1 : Int32).toInt ≤ 1 by decide) (show (0 : Int) ≤ (0 : Int32).toInt ∧ (0 : Int32).toInt ≤ 0 by decide) (by decide)).elim
                    · try unfold fM_refuse_26
                      refine tt_bko ?_
                      have k36 := ok_fp (k := 0) (v := 2) k_o0 (iv_w (a := 0) (b := 3) (by decide) (by decide) (show (2 : Int) ≤ (2 : Int32).toInt ∧ (2 : Int32).toInt ≤ 2 by decide))
                      have r37 := fr_fp (k := 0) (v := 2) r_o0 rfl
                      refine tt_bif (fun c38 => ?_) (fun c38 => ?_)
                      · exact (dd_le c38 (show (2 : Int) ≤ (2 : Int32).toInt ∧ (2 : Int32).toInt ≤ 2 by decide) (show (0 : Int) ≤ (0 : Int32).toInt ∧ (0 : Int32).toInt ≤ 0 by decide) (by decide)).elim
                      · try unfold fM_refuse_41
                        refine tt_bw (iv_b (show (1 : Int) ≤ (1 : Int32).toInt ∧ (1 : Int32).toInt ≤ 1 by decide) (by decide) (by decide)) ?_
                        refine tt_bs ?_
                        refine tt_if (fun c39 => ?_) (fun c39 => ?_)
                        · exact (dd_eq c39 (show (1 : Int) ≤ (1 : Int32).toInt ∧ (1 : Int32).toInt ≤ 1 by decide) (show (0 : Int) ≤ (0 : Int32).toInt ∧ (0 : Int32).toInt ≤ 0 by decide) (by decide)).elim
                        · exact tt_some ⟨k36, r37, trivial⟩
                  · exact (dd_ne c34 (show (0 : Int) ≤ (0 : Int32).toInt ∧ (0 : Int32).toInt ≤ 0 by decide) (show (0 : Int) ≤ (0 : Int32).toInt ∧ (0 : Int32).toInt ≤ 0 by decide)).elim
                · exact (dd_ne c33 (show (0 : Int) ≤ (0 : Int32).toInt ∧ (0 : Int32).toInt ≤ 0 by decide) (show (0 : Int) ≤ (0 : Int32).toInt ∧ (0 : Int32).toInt ≤ 0 by decide)).elim
              · exact (dd_ne c32 (show (0 : Int) ≤ (0 : Int32).toInt ∧ (0 : Int32).toInt ≤ 0 by decide) (show (0 : Int) ≤ (0 : Int32).toInt ∧ (0 : Int32).toInt ≤ 0 by decide)).elim
        · exact (dd_ne c29 (show (0 : Int) ≤ (0 : Int32).toInt ∧ (0 : Int32).toInt ≤ 0 by decide) (show (0 : Int) ≤ (0 : Int32).toInt ∧ (0 : Int32).toInt ≤ 0 by decide)).elim
      · have i40 : (0 : Int) ≤ v1.toInt ∧ v1.toInt ≤ 5 := nr_nltl c28 i27 i13 (by decide) (by decide)
        have i41 : (0 : Int) ≤ x12.toInt ∧ x12.toInt ≤ 5 := nr_nltr c28 i27 i13 (by decide) (by decide)
        have i42 : (1 : Int) ≤ (o0.1 40).toInt ∧ (o0.1 40).toInt ≤ 6 := by omega
        try unfold fM_in_15
        refine tt_bw (iv_b (show (1 : Int) ≤ (1 : Int32).toInt ∧ (1 : Int32).toInt ≤ 1 by decide) (by decide) (by decide)) ?_
        refine tt_bs ?_
        refine tt_if (fun c43 => ?_) (fun c43 => ?_)
        · exact (dd_eq c43 (show (1 : Int) ≤ (1 : Int32).toInt ∧ (1 : Int32).toInt ≤ 1 by decide) (show (0 : Int) ≤ (0 : Int32).toInt ∧ (0 : Int32).toInt ≤ 0 by decide) (by decide)).elim
        · try unfold fM_diagram_26
          refine tt_if (fun c44 => ?_) (fun c44 => ?_)
          · exact (dd_eq c44 i11 (show (0 : Int) ≤ (0 : Int32).toInt ∧ (0 : Int32).toInt ≤ 0 by decide) (by decide)).elim
          · try unfold fM_diagram_40
            refine tt_if (fun c45 => ?_) (fun c45 => ?_)
            · exact (dd_eq c45 i11 (show (0 : Int) ≤ (0 : Int32).toInt ∧ (0 : Int32).toInt ≤ 0 by decide) (by decide)).elim
            · refine tt_if (fun c46 => ?_) (fun c46 => ?_)
              · exact (dd_eq c46 (show (1 : Int) ≤ (1 : Int32).toInt ∧ (1 : Int32).toInt ≤ 1 by decide) (show (0 : Int) ≤ (0 : Int32).toInt ∧ (0 : Int32).toInt ≤ 0 by decide) (by decide)).elim
              · try unfold fM_diagram_55
                try unfold fM_diagram_56
                refine tt_if (fun c47 => ?_) (fun c47 => ?_)
                · exact (dd_eq c47 (show (1 : Int) ≤ (1 : Int32).toInt ∧ (1 : Int32).toInt ≤ 1 by decide) (show (0 : Int) ≤ (0 : Int32).toInt ∧ (0 : Int32).toInt ≤ 0 by decide) (by decide)).elim
                · try unfold fM_in
                  try unfold fM_in_0
                  refine tt_bif (fun c48 => ?_) (fun c48 => ?_)
                  · have i49 : ((-2147483648) : Int) ≤ v2.toInt ∧ v2.toInt ≤ (-1) := nr_ltl c48 (iv_top v2) (show (0 : Int) ≤ (0 : Int32).toInt ∧ (0 : Int32).toInt ≤ 0 by decide) (by decide) (by decide)
                    try unfold fM_in_14
                    try unfold fM_in_15
                    refine tt_bw (iv_b (show (0 : Int) ≤ (0 : Int32).toInt ∧ (0 : Int32).toInt ≤ 0 by decide) (by decide) (by decide)) ?_
                    refine tt_bs ?_
                    refine tt_if (fun c50 => ?_) (fun c50 => ?_)
                    · try unfold fM_diagram_74
                      try unfold fM_refuse
                      try unfold fM_refuse_0
                      refine tt_bif (fun c51 => ?_) (fun c51 => ?_)
                      · refine tt_bif (fun c52 => ?_) (fun c52 => ?_)
                        · refine tt_bif (fun c53 => ?_) (fun c53 => ?_)
                          · exact (dd_eq c53 (show (1 : Int) ≤ (1 : Int32).toInt ∧ (1 : Int32).toInt ≤ 1 by decide) (show (0 : Int) ≤ (0 : Int32).toInt ∧ (0 : Int32).toInt ≤ 0 by decide) (by decide)).elim
                          · try unfold fM_refuse_26
                            refine tt_bko ?_
                            have k54 := ok_fp (k := 0) (v := 3) k_o0 (iv_w (a := 0) (b := 3) (by decide) (by decide) (show (3 : Int) ≤ (3 : Int32).toInt ∧ (3 : Int32).toInt ≤ 3 by decide))
                            have r55 := fr_fp (k := 0) (v := 3) r_o0 rfl
                            refine tt_bif (fun c56 => ?_) (fun c56 => ?_)
                            · exact (dd_le c56 (show (3 : Int) ≤ (3 : Int32).toInt ∧ (3 : Int32).toInt ≤ 3 by decide) (show (0 : Int) ≤ (0 : Int32).toInt ∧ (0 : Int32).toInt ≤ 0 by decide) (by decide)).elim
                            · try unfold fM_refuse_41
                              refine tt_bw (iv_b (show (1 : Int) ≤ (1 : Int32).toInt ∧ (1 : Int32).toInt ≤ 1 by decide) (by decide) (by decide)) ?_
                              refine tt_bs ?_
                              refine tt_if (fun c57 => ?_) (fun c57 => ?_)
                              · exact (dd_eq c57 (show (1 : Int) ≤ (1 : Int32).toInt ∧ (1 : Int32).toInt ≤ 1 by decide) (show (0 : Int) ≤ (0 : Int32).toInt ∧ (0 : Int32).toInt ≤ 0 by decide) (by decide)).elim
                              · exact tt_some ⟨k54, r55, trivial⟩
                        · exact (dd_ne c52 (show (0 : Int) ≤ (0 : Int32).toInt ∧ (0 : Int32).toInt ≤ 0 by decide) (show (0 : Int) ≤ (0 : Int32).toInt ∧ (0 : Int32).toInt ≤ 0 by decide)).elim
                      · exact (dd_ne c51 (show (0 : Int) ≤ (0 : Int32).toInt ∧ (0 : Int32).toInt ≤ 0 by decide) (show (0 : Int) ≤ (0 : Int32).toInt ∧ (0 : Int32).toInt ≤ 0 by decide)).elim
                    · exact (dd_ne c50 (show (0 : Int) ≤ (0 : Int32).toInt ∧ (0 : Int32).toInt ≤ 0 by decide) (show (0 : Int) ≤ (0 : Int32).toInt ∧ (0 : Int32).toInt ≤ 0 by decide)).elim
                  · have i58 : (0 : Int) ≤ v2.toInt ∧ v2.toInt ≤ 2147483647 := nr_nltr c48 (show (0 : Int) ≤ (0 : Int32).toInt ∧ (0 : Int32).toInt ≤ 0 by decide) (iv_top v2) (by decide) (by decide)
                    refine tt_bif (fun c59 => ?_) (fun c59 => ?_)
                    · have i60 : (4 : Int) ≤ v2.toInt ∧ v2.toInt ≤ 2147483647 := nr_ltr c59 (show (3 : Int) ≤ (3 : Int32).toInt ∧ (3 : Int32).toInt ≤ 3 by decide) i58 (by decide) (by decide)
                      try unfold fM_in_14
                      try unfold fM_in_15
                      refine tt_bw (iv_b (show (0 : Int) ≤ (0 : Int32).toInt ∧ (0 : Int32).toInt ≤ 0 by decide) (by decide) (by decide)) ?_
                      refine tt_bs ?_
                      refine tt_if (fun c61 => ?_) (fun c61 => ?_)
                      · try unfold fM_diagram_74
                        try unfold fM_refuse
                        try unfold fM_refuse_0
                        refine tt_bif (fun c62 => ?_) (fun c62 => ?_)
                        · refine tt_bif (fun c63 => ?_) (fun c63 => ?_)
                          · refine tt_bif (fun c64 => ?_) (fun c64 => ?_)
                            · exact (dd_eq c64 (show (1 : Int) ≤ (1 : Int32).toInt ∧ (1 : Int32).toInt ≤ 1 by decide) (show (0 : Int) ≤ (0 : Int32).toInt ∧ (0 : Int32).toInt ≤ 0 by decide) (by decide)).elim
                            · try unfold fM_refuse_26
                              refine tt_bko ?_
                              have k65 := ok_fp (k := 0) (v := 3) k_o0 (iv_w (a := 0) (b := 3) (by decide) (by decide) (show (3 : Int) ≤ (3 : Int32).toInt ∧ (3 : Int32).toInt ≤ 3 by decide))
                              have r66 := fr_fp (k := 0) (v := 3) r_o0 rfl
                              refine tt_bif (fun c67 => ?_) (fun c67 => ?_)
                              · exact (dd_le c67 (show (3 : Int) ≤ (3 : Int32).toInt ∧ (3 : Int32).toInt ≤ 3 by decide) (show (0 : Int) ≤ (0 : Int32).toInt ∧ (0 : Int32).toInt ≤ 0 by decide) (by decide)).elim
                              · try unfold fM_refuse_41
                                refine tt_bw (iv_b (show (1 : Int) ≤ (1 : Int32).toInt ∧ (1 : Int32).toInt ≤ 1 by decide) (by decide) (by decide)) ?_
                                refine tt_bs ?_
                                refine tt_if (fun c68 => ?_) (fun c68 => ?_)
                                · exact (dd_eq c68 (show (1 : Int) ≤ (1 : Int32).toInt ∧ (1 : Int32).toInt ≤ 1 by decide) (show (0 : Int) ≤ (0 : Int32).toInt ∧ (0 : Int32).toInt ≤ 0 by decide) (by decide)).elim
                                · exact tt_some ⟨k65, r66, trivial⟩
                          · exact (dd_ne c63 (show (0 : Int) ≤ (0 : Int32).toInt ∧ (0 : Int32).toInt ≤ 0 by decide) (show (0 : Int) ≤ (0 : Int32).toInt ∧ (0 : Int32).toInt ≤ 0 by decide)).elim
                        · exact (dd_ne c62 (show (0 : Int) ≤ (0 : Int32).toInt ∧ (0 : Int32).toInt ≤ 0 by decide) (show (0 : Int) ≤ (0 : Int32).toInt ∧ (0 : Int32).toInt ≤ 0 by decide)).elim
                      · exact (dd_ne c61 (show (0 : Int) ≤ (0 : Int32).toInt ∧ (0 : Int32).toInt ≤ 0 by decide) (show (0 : Int) ≤ (0 : Int32).toInt ∧ (0 : Int32).toInt ≤ 0 by decide)).elim
                    · have i69 : (0 : Int) ≤ v2.toInt ∧ v2.toInt ≤ 3 := nr_nltl c59 i58 (show (3 : Int) ≤ (3 : Int32).toInt ∧ (3 : Int32).toInt ≤ 3 by decide) (by decide) (by decide)
                      try unfold fM_in_15
                      refine tt_bw (iv_b (show (1 : Int) ≤ (1 : Int32).toInt ∧ (1 : Int32).toInt ≤ 1 by decide) (by decide) (by decide)) ?_
                      refine tt_bs ?_
                      refine tt_if (fun c70 => ?_) (fun c70 => ?_)
                      · exact (dd_eq c70 (show (1 : Int) ≤ (1 : Int32).toInt ∧ (1 : Int32).toInt ≤ 1 by decide) (show (0 : Int) ≤ (0 : Int32).toInt ∧ (0 : Int32).toInt ≤ 0 by decide) (by decide)).elim
                      · try unfold fM_diagram_73
                        try unfold fM_diagram_74
                        try unfold fM_refuse
                        try unfold fM_refuse_0
                        refine tt_bif (fun c71 => ?_) (fun c71 => ?_)
                        · refine tt_bif (fun c72 => ?_) (fun c72 => ?_)
                          · refine tt_bif (fun c73 => ?_) (fun c73 => ?_)
                            · try unfold fM_refuse_26
                              refine tt_bko ?_
                              have k74 := ok_fp (k := 0) (v := 0) k_o0 (iv_w (a := 0) (b := 3) (by decide) (by decide) (show (0 : Int) ≤ (0 : Int32).toInt ∧ (0 : Int32).toInt ≤ 0 by decide))
                              have r75 := fr_fp (k := 0) (v := 0) r_o0 rfl
                              refine tt_bif (fun c76 => ?_) (fun c76 => ?_)
                              · try unfold fM_refuse_41
                                refine tt_bw (iv_b (show (0 : Int) ≤ (0 : Int32).toInt ∧ (0 : Int32).toInt ≤ 0 by decide) (by decide) (by decide)) ?_
                                refine tt_bs ?_
                                refine tt_if (fun c77 => ?_) (fun c77 => ?_)
                                · refine tt_b (sM_reckonOutput _ _ k74 i40 (show (0 : Int) ≤ (0 : Int32).toInt ∧ (0 : Int32).toInt ≤ 0 by decide) i11 i42 f_o0_95) (fun q78 hq78 => ?_)
                                  obtain ⟨k_q78, n_q78, f_q78_0, -⟩ := hq78
                                  have r_q78 := fr_tr r75 n_q78 rfl rfl rfl
                                  have f_q78_40 : (1 : Int) ≤ (q78.1 40).toInt ∧ (q78.1 40).toInt ≤ 6 := by rw [n_q78.1 40 rfl]; exact i42
                                  have f_q78_38 : (1 : Int) ≤ (q78.1 38).toInt ∧ (q78.1 38).toInt ≤ 1 := by rw [n_q78.1 38 rfl]; exact i11
                                  have f_q78_95 : (0 : Int) ≤ (q78.1 95).toInt ∧ (q78.1 95).toInt ≤ 0 := by rw [n_q78.1 95 rfl]; exact f_o0_95
                                  refine tt_kv (P := fun z => (1 : Int) ≤ z.toInt ∧ z.toInt ≤ 256) (iv_shl (p := 0) (q := 8) (show (1 : Int) ≤ (1 : Int32).toInt ∧ (1 : Int32).toInt ≤ 1 by decide) (k_q78.1 39) (by decide) (by decide) (by decide) (by decide) (by decide)) (fun x79 i80 => ?_)
                                  refine tt_kv (P := fun z => ((0 : Int) ≤ z.toInt ∧ z.toInt ≤ 255) ∧ z.toInt = x79.toInt - 1) ⟨iv_sub i80 (show (1 : Int) ≤ (1 : Int32).toInt ∧ (1 : Int32).toInt ≤ 1 by decide) (by decide) (by decide) (by decide) (by decide), iq_sub i80 (show (1 : Int) ≤ (1 : Int32).toInt ∧ (1 : Int32).toInt ≤ 1 by decide) (by decide) (by decide)⟩ (fun x81 qi82 => ?_)
                                  obtain ⟨i82, ei82⟩ := qi82
                                  exact H.1 _ _ _ _ _ _ k_q78 r_q78 i69 (iv_w (a := (-1)) (b := 255) (by decide) (by decide) (show ((-1) : Int) ≤ ((-1) : Int32).toInt ∧ ((-1) : Int32).toInt ≤ (-1) by decide)) (show ((-1) : Int) ≤ ((-1) : Int32).toInt ∧ ((-1) : Int32).toInt ≤ (-1) by decide) (iv_w (a := (-1)) (b := 255) (by decide) (by decide) i82) f_q78_0 f_q78_38 f_q78_40 f_q78_95 (show 18 + (x81.toInt - (-1)) * 2 < ((cfFU : Nat) : Int) by omega)
                                · exact (dd_ne c77 (show (0 : Int) ≤ (0 : Int32).toInt ∧ (0 : Int32).toInt ≤ 0 by decide) (show (0 : Int) ≤ (0 : Int32).toInt ∧ (0 : Int32).toInt ≤ 0 by decide)).elim
                              · exact (dd_nle c76 (show (0 : Int) ≤ (0 : Int32).toInt ∧ (0 : Int32).toInt ≤ 0 by decide) (show (0 : Int) ≤ (0 : Int32).toInt ∧ (0 : Int32).toInt ≤ 0 by decide) (by decide)).elim
                            · exact (dd_ne c73 (show (0 : Int) ≤ (0 : Int32).toInt ∧ (0 : Int32).toInt ≤ 0 by decide) (show (0 : Int) ≤ (0 : Int32).toInt ∧ (0 : Int32).toInt ≤ 0 by decide)).elim
                          · exact (dd_ne c72 (show (0 : Int) ≤ (0 : Int32).toInt ∧ (0 : Int32).toInt ≤ 0 by decide) (show (0 : Int) ≤ (0 : Int32).toInt ∧ (0 : Int32).toInt ≤ 0 by decide)).elim
                        · exact (dd_ne c71 (show (0 : Int) ≤ (0 : Int32).toInt ∧ (0 : Int32).toInt ≤ 0 by decide) (show (0 : Int) ≤ (0 : Int32).toInt ∧ (0 : Int32).toInt ≤ 0 by decide)).elim
def QM_differ (v1 : Int32) (v2 : Int32) (o0 : cf_O) (r : (Int32 × cf_O)) : Prop := (((-1) : Int) ≤ r.1.toInt ∧ r.1.toInt ≤ 255) ∧ (okO I_M r.2) ∧ (Fr (fr_M [0] [75] []) o0 r.2) ∧ ((0 : Int) ≤ (r.2.1 0).toInt ∧ (r.2.1 0).toInt ≤ 2) ∧ True
def HM_differ (yv1 : Int32) (yv2 : Int32) (yo0 : cf_O) (n : Nat) : Prop := (∀ (v1 : Int32) (v2 : Int32) (v4 : Int32) (v5 : Int32) (o0 : cf_O), (okO I_M o0) → (Fr (fr_M [0] [75] []) yo0 o0) → ((0 : Int) ≤ v1.toInt ∧ v1.toInt ≤ 5) → ((0 : Int) ≤ v2.toInt ∧ v2.toInt ≤ 5) → (((-1) : Int) ≤ v4.toInt ∧ v4.toInt ≤ 255) → (((-1) : Int) ≤ v5.toInt ∧ v5.toInt ≤ 255) → ((0 : Int) ≤ (o0.1 0).toInt ∧ (o0.1 0).toInt ≤ 2) → ((1 : Int) ≤ (o0.1 38).toInt ∧ (o0.1 38).toInt ≤ 1) → ((1 : Int) ≤ (o0.1 40).toInt ∧ (o0.1 40).toInt ≤ 6) → ((0 : Int) ≤ (o0.1 95).toInt ∧ (o0.1 95).toInt ≤ 0) → 0 + (v5.toInt - (-1)) * 2 < (n : Int) → tt (gM_differ n 0 v1 v2 v4 v5 o0) (QM_differ yv1 yv2 yo0))
set_option maxHeartbeats 4000000 in
set_option maxRecDepth 100000 in
theorem tM_differ_92 {yv1 : Int32} {yv2 : Int32} {yo0 : cf_O} {n : Nat} (H : HM_differ yv1 yv2 yo0 n) (v1 : Int32) (v2 : Int32) (v4 : Int32) (v5 : Int32) (o0 : cf_O) (k_o0 : okO I_M o0) (r_o0 : Fr (fr_M [0] [75] []) yo0 o0) (i_v1 : (0 : Int) ≤ v1.toInt ∧ v1.toInt ≤ 5) (i_v2 : (0 : Int) ≤ v2.toInt ∧ v2.toInt ≤ 5) (i_v4 : ((-1) : Int) ≤ v4.toInt ∧ v4.toInt ≤ 255) (i_v5 : ((-1) : Int) ≤ v5.toInt ∧ v5.toInt ≤ 255) (f_o0_0 : (0 : Int) ≤ (o0.1 0).toInt ∧ (o0.1 0).toInt ≤ 2) (f_o0_38 : (1 : Int) ≤ (o0.1 38).toInt ∧ (o0.1 38).toInt ≤ 1) (f_o0_40 : (1 : Int) ≤ (o0.1 40).toInt ∧ (o0.1 40).toInt ≤ 6) (f_o0_95 : (0 : Int) ≤ (o0.1 95).toInt ∧ (o0.1 95).toInt ≤ 0) (hm : 0 + (v5.toInt - (-1)) * 2 ≤ (n : Int)) : tt (fM_differ_92 (gM_differ n) v1 v2 v4 v5 o0) (QM_differ yv1 yv2 yo0) := by
  unfold fM_differ_92
  refine tt_if (fun c1 => ?_) (fun c1 => ?_)
  · have i2 : ((-1) : Int) ≤ v5.toInt ∧ v5.toInt ≤ (-1) := nr_ltl c1 i_v5 (show (0 : Int) ≤ (0 : Int32).toInt ∧ (0 : Int32).toInt ≤ 0 by decide) (by decide) (by decide)
    exact tt_some ⟨i_v4, k_o0, r_o0, f_o0_0, trivial⟩
  · have i3 : (0 : Int) ≤ v5.toInt ∧ v5.toInt ≤ 255 := nr_nltr c1 (show (0 : Int) ≤ (0 : Int32).toInt ∧ (0 : Int32).toInt ≤ 0 by decide) i_v5 (by decide) (by decide)
    refine tt_b (sM_value _ _ k_o0 f_o0_95) (fun q4 hq4 => ?_)
    obtain ⟨i_q4, k_q4_2, n_q4_2, f_q4_2_0, -⟩ := hq4
    have r_q4_2 := fr_tr r_o0 n_q4_2 rfl rfl rfl
    have f_q4_2_40 : (1 : Int) ≤ (q4.2.1 40).toInt ∧ (q4.2.1 40).toInt ≤ 6 := by rw [n_q4_2.1 40 rfl]; exact f_o0_40
    have f_q4_2_38 : (1 : Int) ≤ (q4.2.1 38).toInt ∧ (q4.2.1 38).toInt ≤ 1 := by rw [n_q4_2.1 38 rfl]; exact f_o0_38
    have f_q4_2_95 : (0 : Int) ≤ (q4.2.1 95).toInt ∧ (q4.2.1 95).toInt ≤ 0 := by rw [n_q4_2.1 95 rfl]; exact f_o0_95
    refine tt_kv (P := fun z => (0 : Int) ≤ z.toInt ∧ z.toInt ≤ 127) (iv_shr (p := 0) (q := 5) i_q4 i_v1 (by decide) (by decide) (by decide) (by decide)) (fun x5 i6 => ?_)
    refine tt_kv (P := fun z => (0 : Int) ≤ z.toInt ∧ z.toInt ≤ 1) (iv_and (show (1 : Int) ≤ (1 : Int32).toInt ∧ (1 : Int32).toInt ≤ 1 by decide) (by decide) (by decide) (by decide)) (fun x7 i8 => ?_)
    refine tt_kv (P := fun z => (0 : Int) ≤ z.toInt ∧ z.toInt ≤ 127) (iv_shr (p := 0) (q := 5) i_q4 i_v2 (by decide) (by decide) (by decide) (by decide)) (fun x9 i10 => ?_)
    refine tt_kv (P := fun z => (0 : Int) ≤ z.toInt ∧ z.toInt ≤ 1) (iv_and (show (1 : Int) ≤ (1 : Int32).toInt ∧ (1 : Int32).toInt ≤ 1 by decide) (by decide) (by decide) (by decide)) (fun x11 i12 => ?_)
    refine tt_if (fun c13 => ?_) (fun c13 => ?_)
    · try unfold fM_differ_127
      refine tt_kv (P := fun z => (((-1) : Int) ≤ z.toInt ∧ z.toInt ≤ 254) ∧ z.toInt = v5.toInt + (-1)) ⟨iv_add i3 (show ((-1) : Int) ≤ ((-1) : Int32).toInt ∧ ((-1) : Int32).toInt ≤ (-1) by decide) (by decide) (by decide) (by decide) (by decide), iq_add i3 (show ((-1) : Int) ≤ ((-1) : Int32).toInt ∧ ((-1) : Int32).toInt ≤ (-1) by decide) (by decide) (by decide)⟩ (fun x14 qi15 => ?_)
      obtain ⟨i15, ei15⟩ := qi15
      exact H _ _ _ _ _ k_q4_2 r_q4_2 i_v1 i_v2 i_v4 (iv_w (a := (-1)) (b := 255) (by decide) (by decide) i15) f_q4_2_0 f_q4_2_38 f_q4_2_40 f_q4_2_95 (show 0 + (x14.toInt - (-1)) * 2 < (n : Int) by omega)
    · try unfold fM_differ_127
      refine tt_kv (P := fun z => (((-1) : Int) ≤ z.toInt ∧ z.toInt ≤ 254) ∧ z.toInt = v5.toInt + (-1)) ⟨iv_add i3 (show ((-1) : Int) ≤ ((-1) : Int32).toInt ∧ ((-1) : Int32).toInt ≤ (-1) by decide) (by decide) (by decide) (by decide) (by decide), iq_add i3 (show ((-1) : Int) ≤ ((-1) : Int32).toInt ∧ ((-1) : Int32).toInt ≤ (-1) by decide) (by decide) (by decide)⟩ (fun x16 qi17 => ?_)
      obtain ⟨i17, ei17⟩ := qi17
      exact H _ _ _ _ _ k_q4_2 r_q4_2 i_v1 i_v2 (iv_w (a := (-1)) (b := 255) (by decide) (by decide) i3) (iv_w (a := (-1)) (b := 255) (by decide) (by decide) i17) f_q4_2_0 f_q4_2_38 f_q4_2_40 f_q4_2_95 (show 0 + (x16.toInt - (-1)) * 2 < (n : Int) by omega)
set_option maxHeartbeats 4000000 in
set_option maxRecDepth 100000 in
theorem hM_differ (yv1 : Int32) (yv2 : Int32) (yo0 : cf_O) : ∀ n, HM_differ yv1 yv2 yo0 n := by
  intro n
  induction n with
  | zero => exact (fun v1 v2 v4 v5 o0 k_o0 r_o0 i_v1 i_v2 i_v4 i_v5 f_o0_0 f_o0_38 f_o0_40 f_o0_95 hm => by exact absurd (show 0 + (v5.toInt - (-1)) * 2 < (0 : Int) from hm) (by omega))
  | succ n ih => exact (fun v1 v2 v4 v5 o0 k_o0 r_o0 i_v1 i_v2 i_v4 i_v5 f_o0_0 f_o0_38 f_o0_40 f_o0_95 hm => tM_differ_92 ih v1 v2 v4 v5 o0 k_o0 r_o0 i_v1 i_v2 i_v4 i_v5 f_o0_0 f_o0_38 f_o0_40 f_o0_95 (by omega))
set_option maxHeartbeats 4000000 in
set_option maxRecDepth 100000 in
theorem sM_differ (v1 : Int32) (v2 : Int32) (o0 : cf_O) (k_o0 : okO I_M o0) (f_o0_95 : (0 : Int) ≤ (o0.1 95).toInt ∧ (o0.1 95).toInt ≤ 0) : tt (fM_differ v1 v2 o0) (QM_differ v1 v2 o0) := by
  have H := hM_differ v1 v2 o0 cfFU
  have hm : (515 : Int) ≤ (cfFU : Nat) := by decide
  have r_o0 : Fr (fr_M [0] [75] []) o0 o0 := fr_rfl
  unfold fM_differ fM_differ_0
  refine tt_if (fun c1 => ?_) (fun c1 => ?_)
  · have i2 : (0 : Int) ≤ (o0.1 38).toInt ∧ (o0.1 38).toInt ≤ 0 := nr_eql c1 (k_o0.1 38) (show (0 : Int) ≤ (0 : Int32).toInt ∧ (0 : Int32).toInt ≤ 0 by decide) (by decide) (by decide)
    try unfold fM_differ_39
    try unfold fM_differ_40
    refine tt_if (fun c3 => ?_) (fun c3 => ?_)
    · try unfold fM_differ_54
      refine tt_if (fun c4 => ?_) (fun c4 => ?_)
      · try unfold fM_differ_69
        try unfold fM_differ_70
        try unfold fM_refuse
        try unfold fM_refuse_0
        refine tt_bif (fun c5 => ?_) (fun c5 => ?_)
        · exact (dd_eq c5 (show (1 : Int) ≤ (1 : Int32).toInt ∧ (1 : Int32).toInt ≤ 1 by decide) (show (0 : Int) ≤ (0 : Int32).toInt ∧ (0 : Int32).toInt ≤ 0 by decide) (by decide)).elim
        · try unfold fM_refuse_26
          refine tt_bko ?_
          have k6 := ok_fp (k := 0) (v := 1) k_o0 (iv_w (a := 0) (b := 3) (by decide) (by decide) (show (1 : Int) ≤ (1 : Int32).toInt ∧ (1 : Int32).toInt ≤ 1 by decide))
          have r7 := fr_fp (k := 0) (v := 1) r_o0 rfl
          refine tt_bif (fun c8 => ?_) (fun c8 => ?_)
          · exact (dd_le c8 (show (1 : Int) ≤ (1 : Int32).toInt ∧ (1 : Int32).toInt ≤ 1 by decide) (show (0 : Int) ≤ (0 : Int32).toInt ∧ (0 : Int32).toInt ≤ 0 by decide) (by decide)).elim
          · try unfold fM_refuse_41
            refine tt_bw (iv_b (show (1 : Int) ≤ (1 : Int32).toInt ∧ (1 : Int32).toInt ≤ 1 by decide) (by decide) (by decide)) ?_
            refine tt_bs ?_
            refine tt_if (fun c9 => ?_) (fun c9 => ?_)
            · exact (dd_eq c9 (show (1 : Int) ≤ (1 : Int32).toInt ∧ (1 : Int32).toInt ≤ 1 by decide) (show (0 : Int) ≤ (0 : Int32).toInt ∧ (0 : Int32).toInt ≤ 0 by decide) (by decide)).elim
            · exact tt_some ⟨(iv_w (a := (-1)) (b := 255) (by decide) (by decide) (show (0 : Int) ≤ (0 : Int32).toInt ∧ (0 : Int32).toInt ≤ 0 by decide)), k6, r7, (iv_w (a := 0) (b := 2) (by decide) (by decide) (show (1 : Int) ≤ (1 : Int32).toInt ∧ (1 : Int32).toInt ≤ 1 by decide)), trivial⟩
      · exact (dd_ne c4 i2 (show (0 : Int) ≤ (0 : Int32).toInt ∧ (0 : Int32).toInt ≤ 0 by decide)).elim
    · exact (dd_ne c3 i2 (show (0 : Int) ≤ (0 : Int32).toInt ∧ (0 : Int32).toInt ≤ 0 by decide)).elim
  · have i10 : (1 : Int) ≤ (o0.1 38).toInt ∧ (o0.1 38).toInt ≤ 1 := nr_nela c1 (k_o0.1 38) (show (0 : Int) ≤ (0 : Int32).toInt ∧ (0 : Int32).toInt ≤ 0 by decide) (by decide) (by decide)
    refine tt_kv (P := fun z => (((-1) : Int) ≤ z.toInt ∧ z.toInt ≤ 5) ∧ z.toInt = (o0.1 40).toInt - 1) ⟨iv_sub (k_o0.1 40) (show (1 : Int) ≤ (1 : Int32).toInt ∧ (1 : Int32).toInt ≤ 1 by decide) (by decide) (by decide) (by decide) (by decide), iq_sub (k_o0.1 40) (show (1 : Int) ≤ (1 : Int32).toInt ∧ (1 : Int32).toInt ≤ 1 by decide) (by decide) (by decide)⟩ (fun x11 qi12 => ?_)
    obtain ⟨i12, ei12⟩ := qi12
    try unfold fM_in
    try unfold fM_in_0
    refine tt_bif (fun c13 => ?_) (fun c13 => ?_)
    · have i14 : ((-2147483648) : Int) ≤ v1.toInt ∧ v1.toInt ≤ (-1) := nr_ltl c13 (iv_top v1) (show (0 : Int) ≤ (0 : Int32).toInt ∧ (0 : Int32).toInt ≤ 0 by decide) (by decide) (by decide)
      try unfold fM_in_14
      try unfold fM_in_15
      refine tt_bw (iv_b (show (0 : Int) ≤ (0 : Int32).toInt ∧ (0 : Int32).toInt ≤ 0 by decide) (by decide) (by decide)) ?_
      refine tt_bs ?_
      refine tt_if (fun c15 => ?_) (fun c15 => ?_)
      · try unfold fM_differ_39
        try unfold fM_differ_40
        refine tt_if (fun c16 => ?_) (fun c16 => ?_)
        · exact (dd_eq c16 i10 (show (0 : Int) ≤ (0 : Int32).toInt ∧ (0 : Int32).toInt ≤ 0 by decide) (by decide)).elim
        · try unfold fM_differ_54
          refine tt_if (fun c17 => ?_) (fun c17 => ?_)
          · exact (dd_eq c17 i10 (show (0 : Int) ≤ (0 : Int32).toInt ∧ (0 : Int32).toInt ≤ 0 by decide) (by decide)).elim
          · refine tt_if (fun c18 => ?_) (fun c18 => ?_)
            · try unfold fM_differ_70
              try unfold fM_refuse
              try unfold fM_refuse_0
              refine tt_bif (fun c19 => ?_) (fun c19 => ?_)
              · refine tt_bif (fun c20 => ?_) (fun c20 => ?_)
                · exact (dd_eq c20 (show (1 : Int) ≤ (1 : Int32).toInt ∧ (1 : Int32).toInt ≤ 1 by decide) (show (0 : Int) ≤ (0 : Int32).toInt ∧ (0 : Int32).toInt ≤ 0 by decide) (by decide)).elim
                · try unfold fM_refuse_26
                  refine tt_bko ?_
                  have k21 := ok_fp (k := 0) (v := 2) k_o0 (iv_w (a := 0) (b := 3) (by decide) (by decide) (show (2 : Int) ≤ (2 : Int32).toInt ∧ (2 : Int32).toInt ≤ 2 by decide))
                  have r22 := fr_fp (k := 0) (v := 2) r_o0 rfl
                  refine tt_bif (fun c23 => ?_) (fun c23 => ?_)
                  · exact (dd_le c23 (show (2 : Int) ≤ (2 : Int32).toInt ∧ (2 : Int32).toInt ≤ 2 by decide) (show (0 : Int) ≤ (0 : Int32).toInt ∧ (0 : Int32).toInt ≤ 0 by decide) (by decide)).elim
                  · try unfold fM_refuse_41
                    refine tt_bw (iv_b (show (1 : Int) ≤ (1 : Int32).toInt ∧ (1 : Int32).toInt ≤ 1 by decide) (by decide) (by decide)) ?_
                    refine tt_bs ?_
                    refine tt_if (fun c24 => ?_) (fun c24 => ?_)
                    · exact (dd_eq c24 (show (1 : Int) ≤ (1 : Int32).toInt ∧ (1 : Int32).toInt ≤ 1 by decide) (show (0 : Int) ≤ (0 : Int32).toInt ∧ (0 : Int32).toInt ≤ 0 by decide) (by decide)).elim
                    · exact tt_some ⟨(iv_w (a := (-1)) (b := 255) (by decide) (by decide) (show (0 : Int) ≤ (0 : Int32).toInt ∧ (0 : Int32).toInt ≤ 0 by decide)), k21, r22, (iv_w (a := 0) (b := 2) (by decide) (by decide) (show (2 : Int) ≤ (2 : Int32).toInt ∧ (2 : Int32).toInt ≤ 2 by decide)), trivial⟩
              · exact (dd_ne c19 (show (0 : Int) ≤ (0 : Int32).toInt ∧ (0 : Int32).toInt ≤ 0 by decide) (show (0 : Int) ≤ (0 : Int32).toInt ∧ (0 : Int32).toInt ≤ 0 by decide)).elim
            · exact (dd_ne c18 (show (0 : Int) ≤ (0 : Int32).toInt ∧ (0 : Int32).toInt ≤ 0 by decide) (show (0 : Int) ≤ (0 : Int32).toInt ∧ (0 : Int32).toInt ≤ 0 by decide)).elim
      · exact (dd_ne c15 (show (0 : Int) ≤ (0 : Int32).toInt ∧ (0 : Int32).toInt ≤ 0 by decide) (show (0 : Int) ≤ (0 : Int32).toInt ∧ (0 : Int32).toInt ≤ 0 by decide)).elim
    · have i25 : (0 : Int) ≤ v1.toInt ∧ v1.toInt ≤ 2147483647 := nr_nltr c13 (show (0 : Int) ≤ (0 : Int32).toInt ∧ (0 : Int32).toInt ≤ 0 by decide) (iv_top v1) (by decide) (by decide)
      refine tt_bif (fun c26 => ?_) (fun c26 => ?_)
      · try unfold fM_in_14
        try unfold fM_in_15
        refine tt_bw (iv_b (show (0 : Int) ≤ (0 : Int32).toInt ∧ (0 : Int32).toInt ≤ 0 by decide) (by decide) (by decide)) ?_
        refine tt_bs ?_
        refine tt_if (fun c27 => ?_) (fun c27 => ?_)
        · try unfold fM_differ_39
          try unfold fM_differ_40
          refine tt_if (fun c28 => ?_) (fun c28 => ?_)
          · exact (dd_eq c28 i10 (show (0 : Int) ≤ (0 : Int32).toInt ∧ (0 : Int32).toInt ≤ 0 by decide) (by decide)).elim
          · try unfold fM_differ_54
            refine tt_if (fun c29 => ?_) (fun c29 => ?_)
            · exact (dd_eq c29 i10 (show (0 : Int) ≤ (0 : Int32).toInt ∧ (0 : Int32).toInt ≤ 0 by decide) (by decide)).elim
            · refine tt_if (fun c30 => ?_) (fun c30 => ?_)
              · try unfold fM_differ_70
                try unfold fM_refuse
                try unfold fM_refuse_0
                refine tt_bif (fun c31 => ?_) (fun c31 => ?_)
                · refine tt_bif (fun c32 => ?_) (fun c32 => ?_)
                  · exact (dd_eq c32 (show (1 : Int) ≤ (1 : Int32).toInt ∧ (1 : Int32).toInt ≤ 1 by decide) (show (0 : Int) ≤ (0 : Int32).toInt ∧ (0 : Int32).toInt ≤ 0 by decide) (by decide)).elim
                  · try unfold fM_refuse_26
                    refine tt_bko ?_
                    have k33 := ok_fp (k := 0) (v := 2) k_o0 (iv_w (a := 0) (b := 3) (by decide) (by decide) (show (2 : Int) ≤ (2 : Int32).toInt ∧ (2 : Int32).toInt ≤ 2 by decide))
                    have r34 := fr_fp (k := 0) (v := 2) r_o0 rfl
                    refine tt_bif (fun c35 => ?_) (fun c35 => ?_)
                    · exact (dd_le c35 (show (2 : Int) ≤ (2 : Int32).toInt ∧ (2 : Int32).toInt ≤ 2 by decide) (show (0 : Int) ≤ (0 : Int32).toInt ∧ (0 : Int32).toInt ≤ 0 by decide) (by decide)).elim
                    · try unfold fM_refuse_41
                      refine tt_bw (iv_b (show (1 : Int) ≤ (1 : Int32).toInt ∧ (1 : Int32).toInt ≤ 1 by decide) (by decide) (by decide)) ?_
                      refine tt_bs ?_
                      refine tt_if (fun c36 => ?_) (fun c36 => ?_)
                      · exact (dd_eq c36 (show (1 : Int) ≤ (1 : Int32).toInt ∧ (1 : Int32).toInt ≤ 1 by decide) (show (0 : Int) ≤ (0 : Int32).toInt ∧ (0 : Int32).toInt ≤ 0 by decide) (by decide)).elim
                      · exact tt_some ⟨(iv_w (a := (-1)) (b := 255) (by decide) (by decide) (show (0 : Int) ≤ (0 : Int32).toInt ∧ (0 : Int32).toInt ≤ 0 by decide)), k33, r34, (iv_w (a := 0) (b := 2) (by decide) (by decide) (show (2 : Int) ≤ (2 : Int32).toInt ∧ (2 : Int32).toInt ≤ 2 by decide)), trivial⟩
                · exact (dd_ne c31 (show (0 : Int) ≤ (0 : Int32).toInt ∧ (0 : Int32).toInt ≤ 0 by decide) (show (0 : Int) ≤ (0 : Int32).toInt ∧ (0 : Int32).toInt ≤ 0 by decide)).elim
              · exact (dd_ne c30 (show (0 : Int) ≤ (0 : Int32).toInt ∧ (0 : Int32).toInt ≤ 0 by decide) (show (0 : Int) ≤ (0 : Int32).toInt ∧ (0 : Int32).toInt ≤ 0 by decide)).elim
        · exact (dd_ne c27 (show (0 : Int) ≤ (0 : Int32).toInt ∧ (0 : Int32).toInt ≤ 0 by decide) (show (0 : Int) ≤ (0 : Int32).toInt ∧ (0 : Int32).toInt ≤ 0 by decide)).elim
      · have i37 : (0 : Int) ≤ v1.toInt ∧ v1.toInt ≤ 5 := nr_nltl c26 i25 i12 (by decide) (by decide)
        have i38 : (0 : Int) ≤ x11.toInt ∧ x11.toInt ≤ 5 := nr_nltr c26 i25 i12 (by decide) (by decide)
        have i39 : (1 : Int) ≤ (o0.1 40).toInt ∧ (o0.1 40).toInt ≤ 6 := by omega
        try unfold fM_in_15
        refine tt_bw (iv_b (show (1 : Int) ≤ (1 : Int32).toInt ∧ (1 : Int32).toInt ≤ 1 by decide) (by decide) (by decide)) ?_
        refine tt_bs ?_
        refine tt_if (fun c40 => ?_) (fun c40 => ?_)
        · exact (dd_eq c40 (show (1 : Int) ≤ (1 : Int32).toInt ∧ (1 : Int32).toInt ≤ 1 by decide) (show (0 : Int) ≤ (0 : Int32).toInt ∧ (0 : Int32).toInt ≤ 0 by decide) (by decide)).elim
        · refine tt_kv (P := fun z => ((0 : Int) ≤ z.toInt ∧ z.toInt ≤ 5) ∧ z.toInt = (o0.1 40).toInt - 1) ⟨iv_sub i39 (show (1 : Int) ≤ (1 : Int32).toInt ∧ (1 : Int32).toInt ≤ 1 by decide) (by decide) (by decide) (by decide) (by decide), iq_sub i39 (show (1 : Int) ≤ (1 : Int32).toInt ∧ (1 : Int32).toInt ≤ 1 by decide) (by decide) (by decide)⟩ (fun x41 qi42 => ?_)
          obtain ⟨i42, ei42⟩ := qi42
          try unfold fM_in
          try unfold fM_in_0
          refine tt_bif (fun c43 => ?_) (fun c43 => ?_)
          · have i44 : ((-2147483648) : Int) ≤ v2.toInt ∧ v2.toInt ≤ (-1) := nr_ltl c43 (iv_top v2) (show (0 : Int) ≤ (0 : Int32).toInt ∧ (0 : Int32).toInt ≤ 0 by decide) (by decide) (by decide)
            try unfold fM_in_14
            try unfold fM_in_15
            refine tt_bw (iv_b (show (0 : Int) ≤ (0 : Int32).toInt ∧ (0 : Int32).toInt ≤ 0 by decide) (by decide) (by decide)) ?_
            refine tt_bs ?_
            refine tt_if (fun c45 => ?_) (fun c45 => ?_)
            · try unfold fM_differ_39
              try unfold fM_differ_40
              refine tt_if (fun c46 => ?_) (fun c46 => ?_)
              · exact (dd_eq c46 i10 (show (0 : Int) ≤ (0 : Int32).toInt ∧ (0 : Int32).toInt ≤ 0 by decide) (by decide)).elim
              · try unfold fM_differ_54
                refine tt_if (fun c47 => ?_) (fun c47 => ?_)
                · exact (dd_eq c47 i10 (show (0 : Int) ≤ (0 : Int32).toInt ∧ (0 : Int32).toInt ≤ 0 by decide) (by decide)).elim
                · refine tt_if (fun c48 => ?_) (fun c48 => ?_)
                  · try unfold fM_differ_70
                    try unfold fM_refuse
                    try unfold fM_refuse_0
                    refine tt_bif (fun c49 => ?_) (fun c49 => ?_)
                    · refine tt_bif (fun c50 => ?_) (fun c50 => ?_)
                      · exact (dd_eq c50 (show (1 : Int) ≤ (1 : Int32).toInt ∧ (1 : Int32).toInt ≤ 1 by decide) (show (0 : Int) ≤ (0 : Int32).toInt ∧ (0 : Int32).toInt ≤ 0 by decide) (by decide)).elim
                      · try unfold fM_refuse_26
                        refine tt_bko ?_
                        have k51 := ok_fp (k := 0) (v := 2) k_o0 (iv_w (a := 0) (b := 3) (by decide) (by decide) (show (2 : Int) ≤ (2 : Int32).toInt ∧ (2 : Int32).toInt ≤ 2 by decide))
                        have r52 := fr_fp (k := 0) (v := 2) r_o0 rfl
                        refine tt_bif (fun c53 => ?_) (fun c53 => ?_)
                        · exact (dd_le c53 (show (2 : Int) ≤ (2 : Int32).toInt ∧ (2 : Int32).toInt ≤ 2 by decide) (show (0 : Int) ≤ (0 : Int32).toInt ∧ (0 : Int32).toInt ≤ 0 by decide) (by decide)).elim
                        · try unfold fM_refuse_41
                          refine tt_bw (iv_b (show (1 : Int) ≤ (1 : Int32).toInt ∧ (1 : Int32).toInt ≤ 1 by decide) (by decide) (by decide)) ?_
                          refine tt_bs ?_
                          refine tt_if (fun c54 => ?_) (fun c54 => ?_)
                          · exact (dd_eq c54 (show (1 : Int) ≤ (1 : Int32).toInt ∧ (1 : Int32).toInt ≤ 1 by decide) (show (0 : Int) ≤ (0 : Int32).toInt ∧ (0 : Int32).toInt ≤ 0 by decide) (by decide)).elim
                          · exact tt_some ⟨(iv_w (a := (-1)) (b := 255) (by decide) (by decide) (show (0 : Int) ≤ (0 : Int32).toInt ∧ (0 : Int32).toInt ≤ 0 by decide)), k51, r52, (iv_w (a := 0) (b := 2) (by decide) (by decide) (show (2 : Int) ≤ (2 : Int32).toInt ∧ (2 : Int32).toInt ≤ 2 by decide)), trivial⟩
                    · exact (dd_ne c49 (show (0 : Int) ≤ (0 : Int32).toInt ∧ (0 : Int32).toInt ≤ 0 by decide) (show (0 : Int) ≤ (0 : Int32).toInt ∧ (0 : Int32).toInt ≤ 0 by decide)).elim
                  · exact (dd_ne c48 (show (0 : Int) ≤ (0 : Int32).toInt ∧ (0 : Int32).toInt ≤ 0 by decide) (show (0 : Int) ≤ (0 : Int32).toInt ∧ (0 : Int32).toInt ≤ 0 by decide)).elim
            · exact (dd_ne c45 (show (0 : Int) ≤ (0 : Int32).toInt ∧ (0 : Int32).toInt ≤ 0 by decide) (show (0 : Int) ≤ (0 : Int32).toInt ∧ (0 : Int32).toInt ≤ 0 by decide)).elim
          · have i55 : (0 : Int) ≤ v2.toInt ∧ v2.toInt ≤ 2147483647 := nr_nltr c43 (show (0 : Int) ≤ (0 : Int32).toInt ∧ (0 : Int32).toInt ≤ 0 by decide) (iv_top v2) (by decide) (by decide)
            refine tt_bif (fun c56 => ?_) (fun c56 => ?_)
            · have i57 : (1 : Int) ≤ v2.toInt ∧ v2.toInt ≤ 2147483647 := nr_ltr c56 i42 i55 (by decide) (by decide)
              try unfold fM_in_14
              try unfold fM_in_15
              refine tt_bw (iv_b (show (0 : Int) ≤ (0 : Int32).toInt ∧ (0 : Int32).toInt ≤ 0 by decide) (by decide) (by decide)) ?_
              refine tt_bs ?_
              refine tt_if (fun c58 => ?_) (fun c58 => ?_)
              · try unfold fM_differ_39
                try unfold fM_differ_40
                refine tt_if (fun c59 => ?_) (fun c59 => ?_)
                · exact (dd_eq c59 i10 (show (0 : Int) ≤ (0 : Int32).toInt ∧ (0 : Int32).toInt ≤ 0 by decide) (by decide)).elim
                · try unfold fM_differ_54
                  refine tt_if (fun c60 => ?_) (fun c60 => ?_)
                  · exact (dd_eq c60 i10 (show (0 : Int) ≤ (0 : Int32).toInt ∧ (0 : Int32).toInt ≤ 0 by decide) (by decide)).elim
                  · refine tt_if (fun c61 => ?_) (fun c61 => ?_)
                    · try unfold fM_differ_70
                      try unfold fM_refuse
                      try unfold fM_refuse_0
                      refine tt_bif (fun c62 => ?_) (fun c62 => ?_)
                      · refine tt_bif (fun c63 => ?_) (fun c63 => ?_)
                        · exact (dd_eq c63 (show (1 : Int) ≤ (1 : Int32).toInt ∧ (1 : Int32).toInt ≤ 1 by decide) (show (0 : Int) ≤ (0 : Int32).toInt ∧ (0 : Int32).toInt ≤ 0 by decide) (by decide)).elim
                        · try unfold fM_refuse_26
                          refine tt_bko ?_
                          have k64 := ok_fp (k := 0) (v := 2) k_o0 (iv_w (a := 0) (b := 3) (by decide) (by decide) (show (2 : Int) ≤ (2 : Int32).toInt ∧ (2 : Int32).toInt ≤ 2 by decide))
                          have r65 := fr_fp (k := 0) (v := 2) r_o0 rfl
                          refine tt_bif (fun c66 => ?_) (fun c66 => ?_)
                          · exact (dd_le c66 (show (2 : Int) ≤ (2 : Int32).toInt ∧ (2 : Int32).toInt ≤ 2 by decide) (show (0 : Int) ≤ (0 : Int32).toInt ∧ (0 : Int32).toInt ≤ 0 by decide) (by decide)).elim
                          · try unfold fM_refuse_41
                            refine tt_bw (iv_b (show (1 : Int) ≤ (1 : Int32).toInt ∧ (1 : Int32).toInt ≤ 1 by decide) (by decide) (by decide)) ?_
                            refine tt_bs ?_
                            refine tt_if (fun c67 => ?_) (fun c67 => ?_)
                            · exact (dd_eq c67 (show (1 : Int) ≤ (1 : Int32).toInt ∧ (1 : Int32).toInt ≤ 1 by decide) (show (0 : Int) ≤ (0 : Int32).toInt ∧ (0 : Int32).toInt ≤ 0 by decide) (by decide)).elim
                            · exact tt_some ⟨(iv_w (a := (-1)) (b := 255) (by decide) (by decide) (show (0 : Int) ≤ (0 : Int32).toInt ∧ (0 : Int32).toInt ≤ 0 by decide)), k64, r65, (iv_w (a := 0) (b := 2) (by decide) (by decide) (show (2 : Int) ≤ (2 : Int32).toInt ∧ (2 : Int32).toInt ≤ 2 by decide)), trivial⟩
                      · exact (dd_ne c62 (show (0 : Int) ≤ (0 : Int32).toInt ∧ (0 : Int32).toInt ≤ 0 by decide) (show (0 : Int) ≤ (0 : Int32).toInt ∧ (0 : Int32).toInt ≤ 0 by decide)).elim
                    · exact (dd_ne c61 (show (0 : Int) ≤ (0 : Int32).toInt ∧ (0 : Int32).toInt ≤ 0 by decide) (show (0 : Int) ≤ (0 : Int32).toInt ∧ (0 : Int32).toInt ≤ 0 by decide)).elim
              · exact (dd_ne c58 (show (0 : Int) ≤ (0 : Int32).toInt ∧ (0 : Int32).toInt ≤ 0 by decide) (show (0 : Int) ≤ (0 : Int32).toInt ∧ (0 : Int32).toInt ≤ 0 by decide)).elim
            · have i68 : (0 : Int) ≤ v2.toInt ∧ v2.toInt ≤ 5 := nr_nltl c56 i55 i42 (by decide) (by decide)
              try unfold fM_in_15
              refine tt_bw (iv_b (show (1 : Int) ≤ (1 : Int32).toInt ∧ (1 : Int32).toInt ≤ 1 by decide) (by decide) (by decide)) ?_
              refine tt_bs ?_
              refine tt_if (fun c69 => ?_) (fun c69 => ?_)
              · exact (dd_eq c69 (show (1 : Int) ≤ (1 : Int32).toInt ∧ (1 : Int32).toInt ≤ 1 by decide) (show (0 : Int) ≤ (0 : Int32).toInt ∧ (0 : Int32).toInt ≤ 0 by decide) (by decide)).elim
              · try unfold fM_differ_40
                refine tt_if (fun c70 => ?_) (fun c70 => ?_)
                · exact (dd_eq c70 i10 (show (0 : Int) ≤ (0 : Int32).toInt ∧ (0 : Int32).toInt ≤ 0 by decide) (by decide)).elim
                · try unfold fM_differ_54
                  refine tt_if (fun c71 => ?_) (fun c71 => ?_)
                  · exact (dd_eq c71 i10 (show (0 : Int) ≤ (0 : Int32).toInt ∧ (0 : Int32).toInt ≤ 0 by decide) (by decide)).elim
                  · refine tt_if (fun c72 => ?_) (fun c72 => ?_)
                    · exact (dd_eq c72 (show (1 : Int) ≤ (1 : Int32).toInt ∧ (1 : Int32).toInt ≤ 1 by decide) (show (0 : Int) ≤ (0 : Int32).toInt ∧ (0 : Int32).toInt ≤ 0 by decide) (by decide)).elim
                    · try unfold fM_differ_69
                      try unfold fM_differ_70
                      try unfold fM_refuse
                      try unfold fM_refuse_0
                      refine tt_bif (fun c73 => ?_) (fun c73 => ?_)
                      · refine tt_bif (fun c74 => ?_) (fun c74 => ?_)
                        · refine tt_bif (fun c75 => ?_) (fun c75 => ?_)
                          · try unfold fM_refuse_26
                            refine tt_bko ?_
                            have k76 := ok_fp (k := 0) (v := 0) k_o0 (iv_w (a := 0) (b := 3) (by decide) (by decide) (show (0 : Int) ≤ (0 : Int32).toInt ∧ (0 : Int32).toInt ≤ 0 by decide))
                            have r77 := fr_fp (k := 0) (v := 0) r_o0 rfl
                            refine tt_bif (fun c78 => ?_) (fun c78 => ?_)
                            · try unfold fM_refuse_41
                              refine tt_bw (iv_b (show (0 : Int) ≤ (0 : Int32).toInt ∧ (0 : Int32).toInt ≤ 0 by decide) (by decide) (by decide)) ?_
                              refine tt_bs ?_
                              refine tt_if (fun c79 => ?_) (fun c79 => ?_)
                              · refine tt_kv (P := fun z => (1 : Int) ≤ z.toInt ∧ z.toInt ≤ 256) (iv_shl (p := 0) (q := 8) (show (1 : Int) ≤ (1 : Int32).toInt ∧ (1 : Int32).toInt ≤ 1 by decide) (k_o0.1 39) (by decide) (by decide) (by decide) (by decide) (by decide)) (fun x80 i81 => ?_)
                                refine tt_kv (P := fun z => ((0 : Int) ≤ z.toInt ∧ z.toInt ≤ 255) ∧ z.toInt = x80.toInt - 1) ⟨iv_sub i81 (show (1 : Int) ≤ (1 : Int32).toInt ∧ (1 : Int32).toInt ≤ 1 by decide) (by decide) (by decide) (by decide) (by decide), iq_sub i81 (show (1 : Int) ≤ (1 : Int32).toInt ∧ (1 : Int32).toInt ≤ 1 by decide) (by decide) (by decide)⟩ (fun x82 qi83 => ?_)
                                obtain ⟨i83, ei83⟩ := qi83
                                exact H _ _ _ _ _ k76 r77 i37 i68 (iv_w (a := (-1)) (b := 255) (by decide) (by decide) (show ((-1) : Int) ≤ ((-1) : Int32).toInt ∧ ((-1) : Int32).toInt ≤ (-1) by decide)) (iv_w (a := (-1)) (b := 255) (by decide) (by decide) i83) (iv_w (a := 0) (b := 2) (by decide) (by decide) (show (0 : Int) ≤ (0 : Int32).toInt ∧ (0 : Int32).toInt ≤ 0 by decide)) i10 i39 f_o0_95 (show 0 + (x82.toInt - (-1)) * 2 < ((cfFU : Nat) : Int) by omega)
                              · exact (dd_ne c79 (show (0 : Int) ≤ (0 : Int32).toInt ∧ (0 : Int32).toInt ≤ 0 by decide) (show (0 : Int) ≤ (0 : Int32).toInt ∧ (0 : Int32).toInt ≤ 0 by decide)).elim
                            · exact (dd_nle c78 (show (0 : Int) ≤ (0 : Int32).toInt ∧ (0 : Int32).toInt ≤ 0 by decide) (show (0 : Int) ≤ (0 : Int32).toInt ∧ (0 : Int32).toInt ≤ 0 by decide) (by decide)).elim
                          · exact (dd_ne c75 (show (0 : Int) ≤ (0 : Int32).toInt ∧ (0 : Int32).toInt ≤ 0 by decide) (show (0 : Int) ≤ (0 : Int32).toInt ∧ (0 : Int32).toInt ≤ 0 by decide)).elim
                        · exact (dd_ne c74 (show (0 : Int) ≤ (0 : Int32).toInt ∧ (0 : Int32).toInt ≤ 0 by decide) (show (0 : Int) ≤ (0 : Int32).toInt ∧ (0 : Int32).toInt ≤ 0 by decide)).elim
                      · exact (dd_ne c73 (show (0 : Int) ≤ (0 : Int32).toInt ∧ (0 : Int32).toInt ≤ 0 by decide) (show (0 : Int) ≤ (0 : Int32).toInt ∧ (0 : Int32).toInt ≤ 0 by decide)).elim
def QM_depth (o0 : cf_O) (r : (Int32 × cf_O)) : Prop := ((0 : Int) ≤ r.1.toInt ∧ r.1.toInt ≤ 208) ∧ (okO I_M r.2) ∧ (Fr (fr_M [0] [] []) o0 r.2) ∧ ((0 : Int) ≤ (r.2.1 0).toInt ∧ (r.2.1 0).toInt ≤ 1) ∧ True
def HM_depth (yo0 : cf_O) (n : Nat) : Prop := (∀ (v1 : Int32) (v2 : Int32) (o0 : cf_O), (okO I_M o0) → (Fr (fr_M [0] [] []) yo0 o0) → ((0 : Int) ≤ v1.toInt ∧ v1.toInt ≤ 208) → ((0 : Int) ≤ v2.toInt ∧ v2.toInt ≤ 6) → ((0 : Int) ≤ (o0.1 0).toInt ∧ (o0.1 0).toInt ≤ 0) → ((1 : Int) ≤ (o0.1 64).toInt ∧ (o0.1 64).toInt ≤ 1) → ((0 : Int) ≤ (o0.1 95).toInt ∧ (o0.1 95).toInt ≤ 0) → 0 + (6 - v2.toInt) * 2 < (n : Int) → tt (gM_depth n 0 v1 v2 o0) (QM_depth yo0))
set_option maxHeartbeats 4000000 in
set_option maxRecDepth 100000 in
theorem tM_depth_27 {yo0 : cf_O} {n : Nat} (H : HM_depth yo0 n) (v1 : Int32) (v2 : Int32) (o0 : cf_O) (k_o0 : okO I_M o0) (r_o0 : Fr (fr_M [0] [] []) yo0 o0) (i_v1 : (0 : Int) ≤ v1.toInt ∧ v1.toInt ≤ 208) (i_v2 : (0 : Int) ≤ v2.toInt ∧ v2.toInt ≤ 6) (f_o0_0 : (0 : Int) ≤ (o0.1 0).toInt ∧ (o0.1 0).toInt ≤ 0) (f_o0_64 : (1 : Int) ≤ (o0.1 64).toInt ∧ (o0.1 64).toInt ≤ 1) (f_o0_95 : (0 : Int) ≤ (o0.1 95).toInt ∧ (o0.1 95).toInt ≤ 0) (hm : 0 + (6 - v2.toInt) * 2 ≤ (n : Int)) : tt (fM_depth_27 (gM_depth n) v1 v2 o0) (QM_depth yo0) := by
  unfold fM_depth_27
  refine tt_if (fun c1 => ?_) (fun c1 => ?_)
  · exact tt_some ⟨i_v1, k_o0, r_o0, (iv_w (a := 0) (b := 1) (by decide) (by decide) f_o0_0), trivial⟩
  · have i2 : (0 : Int) ≤ v2.toInt ∧ v2.toInt ≤ 5 := nr_nlel c1 i_v2 (k_o0.1 40) (by decide) (by decide)
    have i3 : (1 : Int) ≤ (o0.1 40).toInt ∧ (o0.1 40).toInt ≤ 6 := nr_nler c1 i_v2 (k_o0.1 40) (by decide) (by decide)
    refine tt_n (ix_ok i2 (by decide) (by decide)) ?_
    refine tt_kv (P := fun z => (0 : Int) ≤ z.toInt ∧ z.toInt ≤ 417) (k_o0.2 47 _) (fun x4 i5 => ?_)
    refine tt_kv (P := fun z => (0 : Int) ≤ z.toInt ∧ z.toInt ≤ 208) (iv_div (k := 2) i5 (show (2 : Int) ≤ (2 : Int32).toInt ∧ (2 : Int32).toInt ≤ 2 by decide) (by decide) (by decide) (by decide) (by decide)) (fun x6 i7 => ?_)
    refine tt_n (ix_ok i7 (by decide) (by decide)) ?_
    refine tt_kv (P := fun z => (0 : Int) ≤ z.toInt ∧ z.toInt ≤ 208) (k_o0.2 62 _) (fun x8 i9 => ?_)
    refine tt_if (fun c10 => ?_) (fun c10 => ?_)
    · try unfold fM_depth_69
      refine tt_kv (P := fun z => ((1 : Int) ≤ z.toInt ∧ z.toInt ≤ 6) ∧ z.toInt = v2.toInt + 1) ⟨iv_add i2 (show (1 : Int) ≤ (1 : Int32).toInt ∧ (1 : Int32).toInt ≤ 1 by decide) (by decide) (by decide) (by decide) (by decide), iq_add i2 (show (1 : Int) ≤ (1 : Int32).toInt ∧ (1 : Int32).toInt ≤ 1 by decide) (by decide) (by decide)⟩ (fun x11 qi12 => ?_)
      obtain ⟨i12, ei12⟩ := qi12
      exact H _ _ _ k_o0 r_o0 i_v1 (iv_w (a := 0) (b := 6) (by decide) (by decide) i12) f_o0_0 f_o0_64 f_o0_95 (show 0 + (6 - x11.toInt) * 2 < (n : Int) by omega)
    · have i13 : (0 : Int) ≤ v1.toInt ∧ v1.toInt ≤ 207 := nr_nlel c10 i_v1 i9 (by decide) (by decide)
      have i14 : (1 : Int) ≤ x8.toInt ∧ x8.toInt ≤ 208 := nr_nler c10 i_v1 i9 (by decide) (by decide)
      refine tt_n (ix_ok i2 (by decide) (by decide)) ?_
      refine tt_kv (P := fun z => (0 : Int) ≤ z.toInt ∧ z.toInt ≤ 417) (k_o0.2 47 _) (fun x15 i16 => ?_)
      refine tt_kv (P := fun z => (0 : Int) ≤ z.toInt ∧ z.toInt ≤ 208) (iv_div (k := 2) i16 (show (2 : Int) ≤ (2 : Int32).toInt ∧ (2 : Int32).toInt ≤ 2 by decide) (by decide) (by decide) (by decide) (by decide)) (fun x17 i18 => ?_)
      refine tt_n (ix_ok i18 (by decide) (by decide)) ?_
      refine tt_kv (P := fun z => (0 : Int) ≤ z.toInt ∧ z.toInt ≤ 208) (k_o0.2 62 _) (fun x19 i20 => ?_)
      try unfold fM_depth_69
      refine tt_kv (P := fun z => ((1 : Int) ≤ z.toInt ∧ z.toInt ≤ 6) ∧ z.toInt = v2.toInt + 1) ⟨iv_add i2 (show (1 : Int) ≤ (1 : Int32).toInt ∧ (1 : Int32).toInt ≤ 1 by decide) (by decide) (by decide) (by decide) (by decide), iq_add i2 (show (1 : Int) ≤ (1 : Int32).toInt ∧ (1 : Int32).toInt ≤ 1 by decide) (by decide) (by decide)⟩ (fun x21 qi22 => ?_)
      obtain ⟨i22, ei22⟩ := qi22
      exact H _ _ _ k_o0 r_o0 i20 (iv_w (a := 0) (b := 6) (by decide) (by decide) i22) f_o0_0 f_o0_64 f_o0_95 (show 0 + (6 - x21.toInt) * 2 < (n : Int) by omega)
set_option maxHeartbeats 4000000 in
set_option maxRecDepth 100000 in
theorem hM_depth (yo0 : cf_O) : ∀ n, HM_depth yo0 n := by
  intro n
  induction n with
  | zero => exact (fun v1 v2 o0 k_o0 r_o0 i_v1 i_v2 f_o0_0 f_o0_64 f_o0_95 hm => by exact absurd (show 0 + (6 - v2.toInt) * 2 < (0 : Int) from hm) (by omega))
  | succ n ih => exact (fun v1 v2 o0 k_o0 r_o0 i_v1 i_v2 f_o0_0 f_o0_64 f_o0_95 hm => tM_depth_27 ih v1 v2 o0 k_o0 r_o0 i_v1 i_v2 f_o0_0 f_o0_64 f_o0_95 (by omega))
set_option maxHeartbeats 4000000 in
set_option maxRecDepth 100000 in
theorem sM_depth (o0 : cf_O) (k_o0 : okO I_M o0) (f_o0_95 : (0 : Int) ≤ (o0.1 95).toInt ∧ (o0.1 95).toInt ≤ 0) : tt (fM_depth o0) (QM_depth o0) := by
  have H := hM_depth o0 cfFU
  have hm : (15 : Int) ≤ (cfFU : Nat) := by decide
  have r_o0 : Fr (fr_M [0] [] []) o0 o0 := fr_rfl
  unfold fM_depth fM_depth_0
  refine tt_if (fun c1 => ?_) (fun c1 => ?_)
  · have i2 : (0 : Int) ≤ (o0.1 64).toInt ∧ (o0.1 64).toInt ≤ 0 := nr_eql c1 (k_o0.1 64) (show (0 : Int) ≤ (0 : Int32).toInt ∧ (0 : Int32).toInt ≤ 0 by decide) (by decide) (by decide)
    try unfold fM_depth_13
    try unfold fM_refuse
    try unfold fM_refuse_0
    refine tt_bif (fun c3 => ?_) (fun c3 => ?_)
    · exact (dd_eq c3 (show (1 : Int) ≤ (1 : Int32).toInt ∧ (1 : Int32).toInt ≤ 1 by decide) (show (0 : Int) ≤ (0 : Int32).toInt ∧ (0 : Int32).toInt ≤ 0 by decide) (by decide)).elim
    · try unfold fM_refuse_26
      refine tt_bko ?_
      have k4 := ok_fp (k := 0) (v := 1) k_o0 (iv_w (a := 0) (b := 3) (by decide) (by decide) (show (1 : Int) ≤ (1 : Int32).toInt ∧ (1 : Int32).toInt ≤ 1 by decide))
      have r5 := fr_fp (k := 0) (v := 1) r_o0 rfl
      refine tt_bif (fun c6 => ?_) (fun c6 => ?_)
      · exact (dd_le c6 (show (1 : Int) ≤ (1 : Int32).toInt ∧ (1 : Int32).toInt ≤ 1 by decide) (show (0 : Int) ≤ (0 : Int32).toInt ∧ (0 : Int32).toInt ≤ 0 by decide) (by decide)).elim
      · try unfold fM_refuse_41
        refine tt_bw (iv_b (show (1 : Int) ≤ (1 : Int32).toInt ∧ (1 : Int32).toInt ≤ 1 by decide) (by decide) (by decide)) ?_
        refine tt_bs ?_
        refine tt_if (fun c7 => ?_) (fun c7 => ?_)
        · exact (dd_eq c7 (show (1 : Int) ≤ (1 : Int32).toInt ∧ (1 : Int32).toInt ≤ 1 by decide) (show (0 : Int) ≤ (0 : Int32).toInt ∧ (0 : Int32).toInt ≤ 0 by decide) (by decide)).elim
        · exact tt_some ⟨(iv_w (a := 0) (b := 208) (by decide) (by decide) (show (0 : Int) ≤ (0 : Int32).toInt ∧ (0 : Int32).toInt ≤ 0 by decide)), k4, r5, (iv_w (a := 0) (b := 1) (by decide) (by decide) (show (1 : Int) ≤ (1 : Int32).toInt ∧ (1 : Int32).toInt ≤ 1 by decide)), trivial⟩
  · have i8 : (1 : Int) ≤ (o0.1 64).toInt ∧ (o0.1 64).toInt ≤ 1 := nr_nela c1 (k_o0.1 64) (show (0 : Int) ≤ (0 : Int32).toInt ∧ (0 : Int32).toInt ≤ 0 by decide) (by decide) (by decide)
    try unfold fM_depth_13
    try unfold fM_refuse
    try unfold fM_refuse_0
    refine tt_bif (fun c9 => ?_) (fun c9 => ?_)
    · refine tt_bif (fun c10 => ?_) (fun c10 => ?_)
      · refine tt_bif (fun c11 => ?_) (fun c11 => ?_)
        · try unfold fM_refuse_26
          refine tt_bko ?_
          have k12 := ok_fp (k := 0) (v := 0) k_o0 (iv_w (a := 0) (b := 3) (by decide) (by decide) (show (0 : Int) ≤ (0 : Int32).toInt ∧ (0 : Int32).toInt ≤ 0 by decide))
          have r13 := fr_fp (k := 0) (v := 0) r_o0 rfl
          refine tt_bif (fun c14 => ?_) (fun c14 => ?_)
          · try unfold fM_refuse_41
            refine tt_bw (iv_b (show (0 : Int) ≤ (0 : Int32).toInt ∧ (0 : Int32).toInt ≤ 0 by decide) (by decide) (by decide)) ?_
            refine tt_bs ?_
            refine tt_if (fun c15 => ?_) (fun c15 => ?_)
            · exact H _ _ _ k12 r13 (iv_w (a := 0) (b := 208) (by decide) (by decide) (show (0 : Int) ≤ (0 : Int32).toInt ∧ (0 : Int32).toInt ≤ 0 by decide)) (iv_w (a := 0) (b := 6) (by decide) (by decide) (show (0 : Int) ≤ (0 : Int32).toInt ∧ (0 : Int32).toInt ≤ 0 by decide)) (show (0 : Int) ≤ (0 : Int32).toInt ∧ (0 : Int32).toInt ≤ 0 by decide) i8 f_o0_95 (show 0 + (6 - 0) * 2 < ((cfFU : Nat) : Int) by omega)
            · exact (dd_ne c15 (show (0 : Int) ≤ (0 : Int32).toInt ∧ (0 : Int32).toInt ≤ 0 by decide) (show (0 : Int) ≤ (0 : Int32).toInt ∧ (0 : Int32).toInt ≤ 0 by decide)).elim
          · exact (dd_nle c14 (show (0 : Int) ≤ (0 : Int32).toInt ∧ (0 : Int32).toInt ≤ 0 by decide) (show (0 : Int) ≤ (0 : Int32).toInt ∧ (0 : Int32).toInt ≤ 0 by decide) (by decide)).elim
        · exact (dd_ne c11 (show (0 : Int) ≤ (0 : Int32).toInt ∧ (0 : Int32).toInt ≤ 0 by decide) (show (0 : Int) ≤ (0 : Int32).toInt ∧ (0 : Int32).toInt ≤ 0 by decide)).elim
      · exact (dd_ne c10 (show (0 : Int) ≤ (0 : Int32).toInt ∧ (0 : Int32).toInt ≤ 0 by decide) (show (0 : Int) ≤ (0 : Int32).toInt ∧ (0 : Int32).toInt ≤ 0 by decide)).elim
    · exact (dd_ne c9 (show (0 : Int) ≤ (0 : Int32).toInt ∧ (0 : Int32).toInt ≤ 0 by decide) (show (0 : Int) ≤ (0 : Int32).toInt ∧ (0 : Int32).toInt ≤ 0 by decide)).elim
def QM_cell (v1 : Int32) (v2 : Int32) (o0 : cf_O) (r : (Int32 × cf_O)) : Prop := (okO I_M r.2) ∧ (Fr (fr_M [0] [75] []) o0 r.2) ∧ True
set_option maxHeartbeats 4000000 in
set_option maxRecDepth 100000 in
theorem sM_cell (v1 : Int32) (v2 : Int32) (o0 : cf_O) (k_o0 : okO I_M o0) (f_o0_95 : (0 : Int) ≤ (o0.1 95).toInt ∧ (o0.1 95).toInt ≤ 0) (x_0 : Ch (o0.1 64) (o0.1 73) (o0.1 39) (o0.1 43) (o0.2.1 74)) : tt (fM_cell v1 v2 o0) (QM_cell v1 v2 o0) := by
  have r_o0 : Fr (fr_M [0] [75] []) o0 o0 := fr_rfl
  unfold fM_cell fM_cell_0
  have i_v1 := iv_top v1
  have i_v2 := iv_top v2
  have g_o0_39 : (0 : Int) ≤ (o0.1 39).toInt ∧ (o0.1 39).toInt ≤ 8 := k_o0.1 39
  have g_o0_43 : (0 : Int) ≤ (o0.1 43).toInt ∧ (o0.1 43).toInt ≤ 200 := k_o0.1 43
  have g_o0_64 : (0 : Int) ≤ (o0.1 64).toInt ∧ (o0.1 64).toInt ≤ 1 := k_o0.1 64
  have g_o0_73 : (0 : Int) ≤ (o0.1 73).toInt ∧ (o0.1 73).toInt ≤ 200 := k_o0.1 73
  refine tt_if (fun c1 => ?_) (fun c1 => ?_)
  · have wc1 : (o0.1 64).toInt = (0 : Int) := c_eq c1
    have i2 : (0 : Int) ≤ (o0.1 64).toInt ∧ (o0.1 64).toInt ≤ 0 := nr_eql c1 (k_o0.1 64) (show (0 : Int) ≤ (0 : Int32).toInt ∧ (0 : Int32).toInt ≤ 0 by decide) (by decide) (by decide)
    try unfold fM_cell_25
    try unfold fM_cell_26
    refine tt_if (fun c3 => ?_) (fun c3 => ?_)
    · have wc3 : (0 : Int) = (0 : Int) := c_eq c3
      try unfold fM_cell_46
      refine tt_if (fun c4 => ?_) (fun c4 => ?_)
      · have wc4 : (0 : Int) = (0 : Int) := c_eq c4
        try unfold fM_cell_61
        try unfold fM_cell_62
        refine tt_if (fun c5 => ?_) (fun c5 => ?_)
        · have wc5 : (0 : Int) = (0 : Int) := c_eq c5
          try unfold fM_cell_86
          try unfold fM_cell_91
          refine tt_if (fun c6 => ?_) (fun c6 => ?_)
          · have wc6 : (o0.1 64).toInt = (0 : Int) := c_eq c6
            try unfold fM_cell_106
            refine tt_if (fun c7 => ?_) (fun c7 => ?_)
            · have wc7 : (o0.1 64).toInt = (0 : Int) := c_eq c7
              try unfold fM_cell_122
              try unfold fM_cell_123
              refine tt_if (fun c8 => ?_) (fun c8 => ?_)
              · have wc8 : (0 : Int) = (0 : Int) := c_eq c8
                try unfold fM_cell_135
                try unfold fM_cell_136
                try unfold fM_refuse
                try unfold fM_refuse_0
                refine tt_bif (fun c9 => ?_) (fun c9 => ?_)
                · have wc9 : (1 : Int) = (0 : Int) := c_eq c9
                  exact (dd_eq c9 (show (1 : Int) ≤ (1 : Int32).toInt ∧ (1 : Int32).toInt ≤ 1 by decide) (show (0 : Int) ≤ (0 : Int32).toInt ∧ (0 : Int32).toInt ≤ 0 by decide) (by decide)).elim
                · have wc9 : ¬ (1 : Int) = (0 : Int) := c_ne c9
                  try unfold fM_refuse_26
                  refine tt_bko ?_
                  have k10 := ok_fp (k := 0) (v := 1) k_o0 (iv_w (a := 0) (b := 3) (by decide) (by decide) (show (1 : Int) ≤ (1 : Int32).toInt ∧ (1 : Int32).toInt ≤ 1 by decide))
                  have r11 := fr_fp (k := 0) (v := 1) r_o0 rfl
                  refine tt_bif (fun c12 => ?_) (fun c12 => ?_)
                  · have wc12 : (1 : Int) ≤ (0 : Int) := c_le c12
                    exact (dd_le c12 (show (1 : Int) ≤ (1 : Int32).toInt ∧ (1 : Int32).toInt ≤ 1 by decide) (show (0 : Int) ≤ (0 : Int32).toInt ∧ (0 : Int32).toInt ≤ 0 by decide) (by decide)).elim
                  · have wc12 : (0 : Int) < (1 : Int) := c_nle c12
                    try unfold fM_refuse_41
                    refine tt_bw (iv_b (show (1 : Int) ≤ (1 : Int32).toInt ∧ (1 : Int32).toInt ≤ 1 by decide) (by decide) (by decide)) ?_
                    refine tt_bs ?_
                    refine tt_if (fun c13 => ?_) (fun c13 => ?_)
                    · have wc13 : (1 : Int) = (0 : Int) := c_eq c13
                      exact (dd_eq c13 (show (1 : Int) ≤ (1 : Int32).toInt ∧ (1 : Int32).toInt ≤ 1 by decide) (show (0 : Int) ≤ (0 : Int32).toInt ∧ (0 : Int32).toInt ≤ 0 by decide) (by decide)).elim
                    · have wc13 : ¬ (1 : Int) = (0 : Int) := c_ne c13
                      exact tt_some ⟨k10, r11, trivial⟩
              · have wc8 : ¬ (0 : Int) = (0 : Int) := c_ne c8
                exact (dd_ne c8 (show (0 : Int) ≤ (0 : Int32).toInt ∧ (0 : Int32).toInt ≤ 0 by decide) (show (0 : Int) ≤ (0 : Int32).toInt ∧ (0 : Int32).toInt ≤ 0 by decide)).elim
            · have wc7 : ¬ (o0.1 64).toInt = (0 : Int) := c_ne c7
              exact (dd_ne c7 i2 (show (0 : Int) ≤ (0 : Int32).toInt ∧ (0 : Int32).toInt ≤ 0 by decide)).elim
          · have wc6 : ¬ (o0.1 64).toInt = (0 : Int) := c_ne c6
            exact (dd_ne c6 i2 (show (0 : Int) ≤ (0 : Int32).toInt ∧ (0 : Int32).toInt ≤ 0 by decide)).elim
        · have wc5 : ¬ (0 : Int) = (0 : Int) := c_ne c5
          exact (dd_ne c5 (show (0 : Int) ≤ (0 : Int32).toInt ∧ (0 : Int32).toInt ≤ 0 by decide) (show (0 : Int) ≤ (0 : Int32).toInt ∧ (0 : Int32).toInt ≤ 0 by decide)).elim
      · have wc4 : ¬ (0 : Int) = (0 : Int) := c_ne c4
        exact (dd_ne c4 (show (0 : Int) ≤ (0 : Int32).toInt ∧ (0 : Int32).toInt ≤ 0 by decide) (show (0 : Int) ≤ (0 : Int32).toInt ∧ (0 : Int32).toInt ≤ 0 by decide)).elim
    · have wc3 : ¬ (0 : Int) = (0 : Int) := c_ne c3
      exact (dd_ne c3 (show (0 : Int) ≤ (0 : Int32).toInt ∧ (0 : Int32).toInt ≤ 0 by decide) (show (0 : Int) ≤ (0 : Int32).toInt ∧ (0 : Int32).toInt ≤ 0 by decide)).elim
  · have wc1 : ¬ (o0.1 64).toInt = (0 : Int) := c_ne c1
    have i14 : (1 : Int) ≤ (o0.1 64).toInt ∧ (o0.1 64).toInt ≤ 1 := nr_nela c1 (k_o0.1 64) (show (0 : Int) ≤ (0 : Int32).toInt ∧ (0 : Int32).toInt ≤ 0 by decide) (by decide) (by decide)
    refine tt_kv (P := fun z => (((-1) : Int) ≤ z.toInt ∧ z.toInt ≤ 199) ∧ z.toInt = (o0.1 73).toInt - 1) ⟨iv_sub (k_o0.1 73) (show (1 : Int) ≤ (1 : Int32).toInt ∧ (1 : Int32).toInt ≤ 1 by decide) (by decide) (by decide) (by decide) (by decide), iq_sub (k_o0.1 73) (show (1 : Int) ≤ (1 : Int32).toInt ∧ (1 : Int32).toInt ≤ 1 by decide) (by decide) (by decide)⟩ (fun x15 qi16 => ?_)
    obtain ⟨i16, ei16⟩ := qi16
    try unfold fM_in
    try unfold fM_in_0
    refine tt_bif (fun c17 => ?_) (fun c17 => ?_)
    · have wc17 : v1.toInt < (0 : Int) := c_lt c17
      have i18 : ((-2147483648) : Int) ≤ v1.toInt ∧ v1.toInt ≤ (-1) := nr_ltl c17 (iv_top v1) (show (0 : Int) ≤ (0 : Int32).toInt ∧ (0 : Int32).toInt ≤ 0 by decide) (by decide) (by decide)
      try unfold fM_in_14
      try unfold fM_in_15
      refine tt_bw (iv_b (show (0 : Int) ≤ (0 : Int32).toInt ∧ (0 : Int32).toInt ≤ 0 by decide) (by decide) (by decide)) ?_
      refine tt_bs ?_
      refine tt_if (fun c19 => ?_) (fun c19 => ?_)
      · have wc19 : (0 : Int) = (0 : Int) := c_eq c19
        try unfold fM_cell_25
        try unfold fM_cell_26
        refine tt_if (fun c20 => ?_) (fun c20 => ?_)
        · have wc20 : (0 : Int) = (0 : Int) := c_eq c20
          try unfold fM_cell_46
          refine tt_if (fun c21 => ?_) (fun c21 => ?_)
          · have wc21 : (0 : Int) = (0 : Int) := c_eq c21
            try unfold fM_cell_61
            try unfold fM_cell_62
            refine tt_if (fun c22 => ?_) (fun c22 => ?_)
            · have wc22 : (0 : Int) = (0 : Int) := c_eq c22
              try unfold fM_cell_86
              try unfold fM_cell_91
              refine tt_if (fun c23 => ?_) (fun c23 => ?_)
              · have wc23 : (o0.1 64).toInt = (0 : Int) := c_eq c23
                exact (dd_eq c23 i14 (show (0 : Int) ≤ (0 : Int32).toInt ∧ (0 : Int32).toInt ≤ 0 by decide) (by decide)).elim
              · have wc23 : ¬ (o0.1 64).toInt = (0 : Int) := c_ne c23
                try unfold fM_cell_106
                refine tt_if (fun c24 => ?_) (fun c24 => ?_)
                · have wc24 : (o0.1 64).toInt = (0 : Int) := c_eq c24
                  exact (dd_eq c24 i14 (show (0 : Int) ≤ (0 : Int32).toInt ∧ (0 : Int32).toInt ≤ 0 by decide) (by decide)).elim
                · have wc24 : ¬ (o0.1 64).toInt = (0 : Int) := c_ne c24
                  refine tt_if (fun c25 => ?_) (fun c25 => ?_)
                  · have wc25 : (1 : Int) = (0 : Int) := c_eq c25
                    exact (dd_eq c25 (show (1 : Int) ≤ (1 : Int32).toInt ∧ (1 : Int32).toInt ≤ 1 by decide) (show (0 : Int) ≤ (0 : Int32).toInt ∧ (0 : Int32).toInt ≤ 0 by decide) (by decide)).elim
                  · have wc25 : ¬ (1 : Int) = (0 : Int) := c_ne c25
                    try unfold fM_cell_123
                    refine tt_if (fun c26 => ?_) (fun c26 => ?_)
                    · have wc26 : (0 : Int) = (0 : Int) := c_eq c26
                      try unfold fM_cell_135
                      try unfold fM_cell_136
                      try unfold fM_refuse
                      try unfold fM_refuse_0
                      refine tt_bif (fun c27 => ?_) (fun c27 => ?_)
                      · have wc27 : (0 : Int) = (0 : Int) := c_eq c27
                        refine tt_bif (fun c28 => ?_) (fun c28 => ?_)
                        · have wc28 : (1 : Int) = (0 : Int) := c_eq c28
                          exact (dd_eq c28 (show (1 : Int) ≤ (1 : Int32).toInt ∧ (1 : Int32).toInt ≤ 1 by decide) (show (0 : Int) ≤ (0 : Int32).toInt ∧ (0 : Int32).toInt ≤ 0 by decide) (by decide)).elim
                        · have wc28 : ¬ (1 : Int) = (0 : Int) := c_ne c28
                          try unfold fM_refuse_26
                          refine tt_bko ?_
                          have k29 := ok_fp (k := 0) (v := 2) k_o0 (iv_w (a := 0) (b := 3) (by decide) (by decide) (show (2 : Int) ≤ (2 : Int32).toInt ∧ (2 : Int32).toInt ≤ 2 by decide))
                          have r30 := fr_fp (k := 0) (v := 2) r_o0 rfl
                          refine tt_bif (fun c31 => ?_) (fun c31 => ?_)
                          · have wc31 : (2 : Int) ≤ (0 : Int) := c_le c31
                            exact (dd_le c31 (show (2 : Int) ≤ (2 : Int32).toInt ∧ (2 : Int32).toInt ≤ 2 by decide) (show (0 : Int) ≤ (0 : Int32).toInt ∧ (0 : Int32).toInt ≤ 0 by decide) (by decide)).elim
                          · have wc31 : (0 : Int) < (2 : Int) := c_nle c31
                            try unfold fM_refuse_41
                            refine tt_bw (iv_b (show (1 : Int) ≤ (1 : Int32).toInt ∧ (1 : Int32).toInt ≤ 1 by decide) (by decide) (by decide)) ?_
                            refine tt_bs ?_
                            refine tt_if (fun c32 => ?_) (fun c32 => ?_)
                            · have wc32 : (1 : Int) = (0 : Int) := c_eq c32
                              exact (dd_eq c32 (show (1 : Int) ≤ (1 : Int32).toInt ∧ (1 : Int32).toInt ≤ 1 by decide) (show (0 : Int) ≤ (0 : Int32).toInt ∧ (0 : Int32).toInt ≤ 0 by decide) (by decide)).elim
                            · have wc32 : ¬ (1 : Int) = (0 : Int) := c_ne c32
                              exact tt_some ⟨k29, r30, trivial⟩
                      · have wc27 : ¬ (0 : Int) = (0 : Int) := c_ne c27
                        exact (dd_ne c27 (show (0 : Int) ≤ (0 : Int32).toInt ∧ (0 : Int32).toInt ≤ 0 by decide) (show (0 : Int) ≤ (0 : Int32).toInt ∧ (0 : Int32).toInt ≤ 0 by decide)).elim
                    · have wc26 : ¬ (0 : Int) = (0 : Int) := c_ne c26
                      exact (dd_ne c26 (show (0 : Int) ≤ (0 : Int32).toInt ∧ (0 : Int32).toInt ≤ 0 by decide) (show (0 : Int) ≤ (0 : Int32).toInt ∧ (0 : Int32).toInt ≤ 0 by decide)).elim
            · have wc22 : ¬ (0 : Int) = (0 : Int) := c_ne c22
              exact (dd_ne c22 (show (0 : Int) ≤ (0 : Int32).toInt ∧ (0 : Int32).toInt ≤ 0 by decide) (show (0 : Int) ≤ (0 : Int32).toInt ∧ (0 : Int32).toInt ≤ 0 by decide)).elim
          · have wc21 : ¬ (0 : Int) = (0 : Int) := c_ne c21
            exact (dd_ne c21 (show (0 : Int) ≤ (0 : Int32).toInt ∧ (0 : Int32).toInt ≤ 0 by decide) (show (0 : Int) ≤ (0 : Int32).toInt ∧ (0 : Int32).toInt ≤ 0 by decide)).elim
        · have wc20 : ¬ (0 : Int) = (0 : Int) := c_ne c20
          exact (dd_ne c20 (show (0 : Int) ≤ (0 : Int32).toInt ∧ (0 : Int32).toInt ≤ 0 by decide) (show (0 : Int) ≤ (0 : Int32).toInt ∧ (0 : Int32).toInt ≤ 0 by decide)).elim
      · have wc19 : ¬ (0 : Int) = (0 : Int) := c_ne c19
        exact (dd_ne c19 (show (0 : Int) ≤ (0 : Int32).toInt ∧ (0 : Int32).toInt ≤ 0 by decide) (show (0 : Int) ≤ (0 : Int32).toInt ∧ (0 : Int32).toInt ≤ 0 by decide)).elim
    · have wc17 : (0 : Int) ≤ v1.toInt := c_nlt c17
      have i33 : (0 : Int) ≤ v1.toInt ∧ v1.toInt ≤ 2147483647 := nr_nltr c17 (show (0 : Int) ≤ (0 : Int32).toInt ∧ (0 : Int32).toInt ≤ 0 by decide) (iv_top v1) (by decide) (by decide)
      refine tt_bif (fun c34 => ?_) (fun c34 => ?_)
      · have wc34 : x15.toInt < v1.toInt := c_lt c34
        try unfold fM_in_14
        try unfold fM_in_15
        refine tt_bw (iv_b (show (0 : Int) ≤ (0 : Int32).toInt ∧ (0 : Int32).toInt ≤ 0 by decide) (by decide) (by decide)) ?_
        refine tt_bs ?_
        refine tt_if (fun c35 => ?_) (fun c35 => ?_)
        · have wc35 : (0 : Int) = (0 : Int) := c_eq c35
          try unfold fM_cell_25
          try unfold fM_cell_26
          refine tt_if (fun c36 => ?_) (fun c36 => ?_)
          · have wc36 : (0 : Int) = (0 : Int) := c_eq c36
            try unfold fM_cell_46
            refine tt_if (fun c37 => ?_) (fun c37 => ?_)
            · have wc37 : (0 : Int) = (0 : Int) := c_eq c37
              try unfold fM_cell_61
              try unfold fM_cell_62
              refine tt_if (fun c38 => ?_) (fun c38 => ?_)
              · have wc38 : (0 : Int) = (0 : Int) := c_eq c38
                try unfold fM_cell_86
                try unfold fM_cell_91
                refine tt_if (fun c39 => ?_) (fun c39 => ?_)
                · have wc39 : (o0.1 64).toInt = (0 : Int) := c_eq c39
                  exact (dd_eq c39 i14 (show (0 : Int) ≤ (0 : Int32).toInt ∧ (0 : Int32).toInt ≤ 0 by decide) (by decide)).elim
                · have wc39 : ¬ (o0.1 64).toInt = (0 : Int) := c_ne c39
                  try unfold fM_cell_106
                  refine tt_if (fun c40 => ?_) (fun c40 => ?_)
                  · have wc40 : (o0.1 64).toInt = (0 : Int) := c_eq c40
                    exact (dd_eq c40 i14 (show (0 : Int) ≤ (0 : Int32).toInt ∧ (0 : Int32).toInt ≤ 0 by decide) (by decide)).elim
                  · have wc40 : ¬ (o0.1 64).toInt = (0 : Int) := c_ne c40
                    refine tt_if (fun c41 => ?_) (fun c41 => ?_)
                    · have wc41 : (1 : Int) = (0 : Int) := c_eq c41
                      exact (dd_eq c41 (show (1 : Int) ≤ (1 : Int32).toInt ∧ (1 : Int32).toInt ≤ 1 by decide) (show (0 : Int) ≤ (0 : Int32).toInt ∧ (0 : Int32).toInt ≤ 0 by decide) (by decide)).elim
                    · have wc41 : ¬ (1 : Int) = (0 : Int) := c_ne c41
                      try unfold fM_cell_123
                      refine tt_if (fun c42 => ?_) (fun c42 => ?_)
                      · have wc42 : (0 : Int) = (0 : Int) := c_eq c42
                        try unfold fM_cell_135
                        try unfold fM_cell_136
                        try unfold fM_refuse
                        try unfold fM_refuse_0
                        refine tt_bif (fun c43 => ?_) (fun c43 => ?_)
                        · have wc43 : (0 : Int) = (0 : Int) := c_eq c43
                          refine tt_bif (fun c44 => ?_) (fun c44 => ?_)
                          · have wc44 : (1 : Int) = (0 : Int) := c_eq c44
                            exact (dd_eq c44 (show (1 : Int) ≤ (1 : Int32).toInt ∧ (1 : Int32).toInt ≤ 1 by decide) (show (0 : Int) ≤ (0 : Int32).toInt ∧ (0 : Int32).toInt ≤ 0 by decide) (by decide)).elim
                          · have wc44 : ¬ (1 : Int) = (0 : Int) := c_ne c44
                            try unfold fM_refuse_26
                            refine tt_bko ?_
                            have k45 := ok_fp (k := 0) (v := 2) k_o0 (iv_w (a := 0) (b := 3) (by decide) (by decide) (show (2 : Int) ≤ (2 : Int32).toInt ∧ (2 : Int32).toInt ≤ 2 by decide))
                            have r46 := fr_fp (k := 0) (v := 2) r_o0 rfl
                            refine tt_bif (fun c47 => ?_) (fun c47 => ?_)
                            · have wc47 : (2 : Int) ≤ (0 : Int) := c_le c47
                              exact (dd_le c47 (show (2 : Int) ≤ (2 : Int32).toInt ∧ (2 : Int32).toInt ≤ 2 by decide) (show (0 : Int) ≤ (0 : Int32).toInt ∧ (0 : Int32).toInt ≤ 0 by decide) (by decide)).elim
                            · have wc47 : (0 : Int) < (2 : Int) := c_nle c47
                              try unfold fM_refuse_41
                              refine tt_bw (iv_b (show (1 : Int) ≤ (1 : Int32).toInt ∧ (1 : Int32).toInt ≤ 1 by decide) (by decide) (by decide)) ?_
                              refine tt_bs ?_
                              refine tt_if (fun c48 => ?_) (fun c48 => ?_)
                              · have wc48 : (1 : Int) = (0 : Int) := c_eq c48
                                exact (dd_eq c48 (show (1 : Int) ≤ (1 : Int32).toInt ∧ (1 : Int32).toInt ≤ 1 by decide) (show (0 : Int) ≤ (0 : Int32).toInt ∧ (0 : Int32).toInt ≤ 0 by decide) (by decide)).elim
                              · have wc48 : ¬ (1 : Int) = (0 : Int) := c_ne c48
                                exact tt_some ⟨k45, r46, trivial⟩
                        · have wc43 : ¬ (0 : Int) = (0 : Int) := c_ne c43
                          exact (dd_ne c43 (show (0 : Int) ≤ (0 : Int32).toInt ∧ (0 : Int32).toInt ≤ 0 by decide) (show (0 : Int) ≤ (0 : Int32).toInt ∧ (0 : Int32).toInt ≤ 0 by decide)).elim
                      · have wc42 : ¬ (0 : Int) = (0 : Int) := c_ne c42
                        exact (dd_ne c42 (show (0 : Int) ≤ (0 : Int32).toInt ∧ (0 : Int32).toInt ≤ 0 by decide) (show (0 : Int) ≤ (0 : Int32).toInt ∧ (0 : Int32).toInt ≤ 0 by decide)).elim
              · have wc38 : ¬ (0 : Int) = (0 : Int) := c_ne c38
                exact (dd_ne c38 (show (0 : Int) ≤ (0 : Int32).toInt ∧ (0 : Int32).toInt ≤ 0 by decide) (show (0 : Int) ≤ (0 : Int32).toInt ∧ (0 : Int32).toInt ≤ 0 by decide)).elim
            · have wc37 : ¬ (0 : Int) = (0 : Int) := c_ne c37
              exact (dd_ne c37 (show (0 : Int) ≤ (0 : Int32).toInt ∧ (0 : Int32).toInt ≤ 0 by decide) (show (0 : Int) ≤ (0 : Int32).toInt ∧ (0 : Int32).toInt ≤ 0 by decide)).elim
          · have wc36 : ¬ (0 : Int) = (0 : Int) := c_ne c36
            exact (dd_ne c36 (show (0 : Int) ≤ (0 : Int32).toInt ∧ (0 : Int32).toInt ≤ 0 by decide) (show (0 : Int) ≤ (0 : Int32).toInt ∧ (0 : Int32).toInt ≤ 0 by decide)).elim
        · have wc35 : ¬ (0 : Int) = (0 : Int) := c_ne c35
          exact (dd_ne c35 (show (0 : Int) ≤ (0 : Int32).toInt ∧ (0 : Int32).toInt ≤ 0 by decide) (show (0 : Int) ≤ (0 : Int32).toInt ∧ (0 : Int32).toInt ≤ 0 by decide)).elim
      · have wc34 : v1.toInt ≤ x15.toInt := c_nlt c34
        have i49 : (0 : Int) ≤ v1.toInt ∧ v1.toInt ≤ 199 := nr_nltl c34 i33 i16 (by decide) (by decide)
        have i50 : (0 : Int) ≤ x15.toInt ∧ x15.toInt ≤ 199 := nr_nltr c34 i33 i16 (by decide) (by decide)
        have i51 : (1 : Int) ≤ (o0.1 73).toInt ∧ (o0.1 73).toInt ≤ 200 := by omega
        try unfold fM_in_15
        refine tt_bw (iv_b (show (1 : Int) ≤ (1 : Int32).toInt ∧ (1 : Int32).toInt ≤ 1 by decide) (by decide) (by decide)) ?_
        refine tt_bs ?_
        refine tt_if (fun c52 => ?_) (fun c52 => ?_)
        · have wc52 : (1 : Int) = (0 : Int) := c_eq c52
          exact (dd_eq c52 (show (1 : Int) ≤ (1 : Int32).toInt ∧ (1 : Int32).toInt ≤ 1 by decide) (show (0 : Int) ≤ (0 : Int32).toInt ∧ (0 : Int32).toInt ≤ 0 by decide) (by decide)).elim
        · have wc52 : ¬ (1 : Int) = (0 : Int) := c_ne c52
          try unfold fM_cell_26
          refine tt_if (fun c53 => ?_) (fun c53 => ?_)
          · have wc53 : (1 : Int) = (0 : Int) := c_eq c53
            exact (dd_eq c53 (show (1 : Int) ≤ (1 : Int32).toInt ∧ (1 : Int32).toInt ≤ 1 by decide) (show (0 : Int) ≤ (0 : Int32).toInt ∧ (0 : Int32).toInt ≤ 0 by decide) (by decide)).elim
          · have wc53 : ¬ (1 : Int) = (0 : Int) := c_ne c53
            refine tt_n (ix_ok i49 (by decide) (by decide)) ?_
            refine tt_kv (P := fun z => ((0 : Int) ≤ z.toInt ∧ z.toInt ≤ 208) ∧ z.toInt = (o0.2.1 74 v1.toNatClampNeg).toInt) ⟨(k_o0.2 74 _), rfl⟩ (fun x54 qi55 => ?_)
            obtain ⟨i55, ei55⟩ := qi55
            have t56 := tn_n v1
            have t57 := Ch_at x_0 (v1.toNatClampNeg)
            refine tt_n (ix_ok i55 (by decide) (by decide)) ?_
            refine tt_kv (P := fun z => ((0 : Int) ≤ z.toInt ∧ z.toInt ≤ 63209) ∧ z.toInt = (o0.2.1 63 x54.toNatClampNeg).toInt) ⟨(k_o0.2 63 _), rfl⟩ (fun x58 qi59 => ?_)
            obtain ⟨i59, ei59⟩ := qi59
            try unfold fM_cell_46
            refine tt_if (fun c60 => ?_) (fun c60 => ?_)
            · have wc60 : (1 : Int) = (0 : Int) := c_eq c60
              exact (dd_eq c60 (show (1 : Int) ≤ (1 : Int32).toInt ∧ (1 : Int32).toInt ≤ 1 by decide) (show (0 : Int) ≤ (0 : Int32).toInt ∧ (0 : Int32).toInt ≤ 0 by decide) (by decide)).elim
            · have wc60 : ¬ (1 : Int) = (0 : Int) := c_ne c60
              refine tt_if (fun c61 => ?_) (fun c61 => ?_)
              · have wc61 : v2.toInt ≤ (3 : Int) := c_le c61
                have i62 : ((-2147483648) : Int) ≤ v2.toInt ∧ v2.toInt ≤ 3 := nr_lel c61 (iv_top v2) (show (3 : Int) ≤ (3 : Int32).toInt ∧ (3 : Int32).toInt ≤ 3 by decide) (by decide) (by decide)
                try unfold fM_cell_61
                try unfold fM_cell_62
                refine tt_if (fun c63 => ?_) (fun c63 => ?_)
                · have wc63 : (1 : Int) = (0 : Int) := c_eq c63
                  exact (dd_eq c63 (show (1 : Int) ≤ (1 : Int32).toInt ∧ (1 : Int32).toInt ≤ 1 by decide) (show (0 : Int) ≤ (0 : Int32).toInt ∧ (0 : Int32).toInt ≤ 0 by decide) (by decide)).elim
                · have wc63 : ¬ (1 : Int) = (0 : Int) := c_ne c63
                  refine tt_if (fun c64 => ?_) (fun c64 => ?_)
                  · have wc64 : (0 : Int) = (0 : Int) := c_eq c64
                    try unfold fM_cell_90
                    try unfold fM_cell_91
                    refine tt_if (fun c65 => ?_) (fun c65 => ?_)
                    · have wc65 : (o0.1 64).toInt = (0 : Int) := c_eq c65
                      exact (dd_eq c65 i14 (show (0 : Int) ≤ (0 : Int32).toInt ∧ (0 : Int32).toInt ≤ 0 by decide) (by decide)).elim
                    · have wc65 : ¬ (o0.1 64).toInt = (0 : Int) := c_ne c65
                      try unfold fM_cell_106
                      refine tt_if (fun c66 => ?_) (fun c66 => ?_)
                      · have wc66 : (o0.1 64).toInt = (0 : Int) := c_eq c66
                        exact (dd_eq c66 i14 (show (0 : Int) ≤ (0 : Int32).toInt ∧ (0 : Int32).toInt ≤ 0 by decide) (by decide)).elim
                      · have wc66 : ¬ (o0.1 64).toInt = (0 : Int) := c_ne c66
                        refine tt_if (fun c67 => ?_) (fun c67 => ?_)
                        · have wc67 : (0 : Int) = (0 : Int) := c_eq c67
                          try unfold fM_cell_122
                          try unfold fM_cell_123
                          refine tt_if (fun c68 => ?_) (fun c68 => ?_)
                          · have wc68 : (1 : Int) = (0 : Int) := c_eq c68
                            exact (dd_eq c68 (show (1 : Int) ≤ (1 : Int32).toInt ∧ (1 : Int32).toInt ≤ 1 by decide) (show (0 : Int) ≤ (0 : Int32).toInt ∧ (0 : Int32).toInt ≤ 0 by decide) (by decide)).elim
                          · have wc68 : ¬ (1 : Int) = (0 : Int) := c_ne c68
                            refine tt_if (fun c69 => ?_) (fun c69 => ?_)
                            · have wc69 : (0 : Int) ≤ v2.toInt := c_le c69
                              have i70 : (0 : Int) ≤ v2.toInt ∧ v2.toInt ≤ 3 := nr_ler c69 (show (0 : Int) ≤ (0 : Int32).toInt ∧ (0 : Int32).toInt ≤ 0 by decide) i62 (by decide) (by decide)
                              try unfold fM_cell_135
                              try unfold fM_cell_136
                              try unfold fM_refuse
                              try unfold fM_refuse_0
                              refine tt_bif (fun c71 => ?_) (fun c71 => ?_)
                              · have wc71 : (0 : Int) = (0 : Int) := c_eq c71
                                refine tt_bif (fun c72 => ?_) (fun c72 => ?_)
                                · have wc72 : (0 : Int) = (0 : Int) := c_eq c72
                                  refine tt_bif (fun c73 => ?_) (fun c73 => ?_)
                                  · have wc73 : (0 : Int) = (0 : Int) := c_eq c73
                                    try unfold fM_refuse_26
                                    refine tt_bko ?_
                                    have k74 := ok_fp (k := 0) (v := 0) k_o0 (iv_w (a := 0) (b := 3) (by decide) (by decide) (show (0 : Int) ≤ (0 : Int32).toInt ∧ (0 : Int32).toInt ≤ 0 by decide))
                                    have r75 := fr_fp (k := 0) (v := 0) r_o0 rfl
                                    refine tt_bif (fun c76 => ?_) (fun c76 => ?_)
                                    · have wc76 : (0 : Int) ≤ (0 : Int) := c_le c76
                                      try unfold fM_refuse_41
                                      refine tt_bw (iv_b (show (0 : Int) ≤ (0 : Int32).toInt ∧ (0 : Int32).toInt ≤ 0 by decide) (by decide) (by decide)) ?_
                                      refine tt_bs ?_
                                      refine tt_if (fun c77 => ?_) (fun c77 => ?_)
                                      · have wc77 : (0 : Int) = (0 : Int) := c_eq c77
                                        refine tt_n (ix_ok i49 (by decide) (by decide)) ?_
                                        refine tt_kv (P := fun z => ((0 : Int) ≤ z.toInt ∧ z.toInt ≤ 208) ∧ z.toInt = (o0.2.1 74 v1.toNatClampNeg).toInt) ⟨(k74.2 74 _), rfl⟩ (fun x78 qi79 => ?_)
                                        obtain ⟨i79, ei79⟩ := qi79
                                        have t80 := tn_n v1
                                        have t81 := Ch_at x_0 (v1.toNatClampNeg)
                                        refine tt_if (fun c82 => ?_) (fun c82 => ?_)
                                        · have wc82 : v2.toInt = (0 : Int) := c_eq c82
                                          have i83 : (0 : Int) ≤ v2.toInt ∧ v2.toInt ≤ 0 := nr_eql c82 i70 (show (0 : Int) ≤ (0 : Int32).toInt ∧ (0 : Int32).toInt ≤ 0 by decide) (by decide) (by decide)
                                          try unfold fM_cell_218
                                          exact tt_some ⟨k74, r75, trivial⟩
                                        · have wc82 : ¬ v2.toInt = (0 : Int) := c_ne c82
                                          have i84 : (1 : Int) ≤ v2.toInt ∧ v2.toInt ≤ 3 := nr_nela c82 i70 (show (0 : Int) ≤ (0 : Int32).toInt ∧ (0 : Int32).toInt ≤ 0 by decide) (by decide) (by decide)
                                          refine tt_if (fun c85 => ?_) (fun c85 => ?_)
                                          · have wc85 : v2.toInt = (1 : Int) := c_eq c85
                                            have i86 : (1 : Int) ≤ v2.toInt ∧ v2.toInt ≤ 1 := nr_eql c85 i84 (show (1 : Int) ≤ (1 : Int32).toInt ∧ (1 : Int32).toInt ≤ 1 by decide) (by decide) (by decide)
                                            refine tt_n (ix_ok i59 (by decide) (by decide)) ?_
                                            refine tt_kv (P := fun z => ((0 : Int) ≤ z.toInt ∧ z.toInt ≤ 5) ∧ z.toInt = (o0.2.1 59 x58.toNatClampNeg).toInt) ⟨(k74.2 59 _), rfl⟩ (fun x87 qi88 => ?_)
                                            obtain ⟨i88, ei88⟩ := qi88
                                            try unfold fM_cell_218
                                            exact tt_some ⟨k74, r75, trivial⟩
                                          · have wc85 : ¬ v2.toInt = (1 : Int) := c_ne c85
                                            have i89 : (2 : Int) ≤ v2.toInt ∧ v2.toInt ≤ 3 := nr_nela c85 i84 (show (1 : Int) ≤ (1 : Int32).toInt ∧ (1 : Int32).toInt ≤ 1 by decide) (by decide) (by decide)
                                            refine tt_if (fun c90 => ?_) (fun c90 => ?_)
                                            · have wc90 : v2.toInt = (2 : Int) := c_eq c90
                                              have i91 : (2 : Int) ≤ v2.toInt ∧ v2.toInt ≤ 2 := nr_eql c90 i89 (show (2 : Int) ≤ (2 : Int32).toInt ∧ (2 : Int32).toInt ≤ 2 by decide) (by decide) (by decide)
                                              refine tt_b (sM_table _ _ k74 i79 (show (0 : Int) ≤ (0 : Int32).toInt ∧ (0 : Int32).toInt ≤ 0 by decide) f_o0_95 (show x78.toInt ≤ (o0.1 39).toInt + (o0.1 43).toInt by omega)) (fun q92 hq92 => ?_)
                                              obtain ⟨k_q92_2, n_q92_2, -⟩ := hq92
                                              have r_q92_2 := fr_tr r75 n_q92_2 rfl rfl rfl
                                              have f_q92_2_0 : (0 : Int) ≤ (q92.2.1 0).toInt ∧ (q92.2.1 0).toInt ≤ 0 := by rw [n_q92_2.1 0 rfl]; exact (show (0 : Int) ≤ (0 : Int32).toInt ∧ (0 : Int32).toInt ≤ 0 by decide)
                                              have f_q92_2_73 : (1 : Int) ≤ (q92.2.1 73).toInt ∧ (q92.2.1 73).toInt ≤ 200 := by rw [n_q92_2.1 73 rfl]; exact i51
                                              have f_q92_2_64 : (1 : Int) ≤ (q92.2.1 64).toInt ∧ (q92.2.1 64).toInt ≤ 1 := by rw [n_q92_2.1 64 rfl]; exact i14
                                              have f_q92_2_95 : (0 : Int) ≤ (q92.2.1 95).toInt ∧ (q92.2.1 95).toInt ≤ 0 := by rw [n_q92_2.1 95 rfl]; exact f_o0_95
                                              have e_q92_2_39 : (q92.2.1 39).toInt = (o0.1 39).toInt := congrArg Int32.toInt (n_q92_2.1 39 rfl)
                                              have g_q92_2_39 : (0 : Int) ≤ (q92.2.1 39).toInt ∧ (q92.2.1 39).toInt ≤ 8 := k_q92_2.1 39
                                              have e_q92_2_43 : (q92.2.1 43).toInt = (o0.1 43).toInt := congrArg Int32.toInt (n_q92_2.1 43 rfl)
                                              have g_q92_2_43 : (0 : Int) ≤ (q92.2.1 43).toInt ∧ (q92.2.1 43).toInt ≤ 200 := k_q92_2.1 43
                                              have e_q92_2_64 : (q92.2.1 64).toInt = (o0.1 64).toInt := congrArg Int32.toInt (n_q92_2.1 64 rfl)
                                              have e_q92_2_73 : (q92.2.1 73).toInt = (o0.1 73).toInt := congrArg Int32.toInt (n_q92_2.1 73 rfl)
                                              have u93 : Ch (q92.2.1 64) (q92.2.1 73) (q92.2.1 39) (q92.2.1 43) (q92.2.2.1 74) := by rw [n_q92_2.1 39 rfl, n_q92_2.1 43 rfl, n_q92_2.1 64 rfl, n_q92_2.1 73 rfl, n_q92_2.2.1 74 rfl]; exact x_0
                                              have i_q92 := iv_top q92.1
                                              try unfold fM_cell_218
                                              exact tt_some ⟨k_q92_2, r_q92_2, trivial⟩
                                            · have wc90 : ¬ v2.toInt = (2 : Int) := c_ne c90
                                              have i94 : (3 : Int) ≤ v2.toInt ∧ v2.toInt ≤ 3 := nr_nela c90 i89 (show (2 : Int) ≤ (2 : Int32).toInt ∧ (2 : Int32).toInt ≤ 2 by decide) (by decide) (by decide)
                                              refine tt_if (fun c95 => ?_) (fun c95 => ?_)
                                              · have wc95 : v2.toInt = (3 : Int) := c_eq c95
                                                refine tt_n (ix_ok i79 (by decide) (by decide)) ?_
                                                refine tt_kv (P := fun z => ((0 : Int) ≤ z.toInt ∧ z.toInt ≤ 208) ∧ z.toInt = (o0.2.1 62 x78.toNatClampNeg).toInt) ⟨(k74.2 62 _), rfl⟩ (fun x96 qi97 => ?_)
                                                obtain ⟨i97, ei97⟩ := qi97
                                                try unfold fM_cell_218
                                                exact tt_some ⟨k74, r75, trivial⟩
                                              · have wc95 : ¬ v2.toInt = (3 : Int) := c_ne c95
                                                exact (dd_ne c95 i94 (show (3 : Int) ≤ (3 : Int32).toInt ∧ (3 : Int32).toInt ≤ 3 by decide)).elim
                                      · have wc77 : ¬ (0 : Int) = (0 : Int) := c_ne c77
                                        exact (dd_ne c77 (show (0 : Int) ≤ (0 : Int32).toInt ∧ (0 : Int32).toInt ≤ 0 by decide) (show (0 : Int) ≤ (0 : Int32).toInt ∧ (0 : Int32).toInt ≤ 0 by decide)).elim
                                    · have wc76 : (0 : Int) < (0 : Int) := c_nle c76
                                      exact (dd_nle c76 (show (0 : Int) ≤ (0 : Int32).toInt ∧ (0 : Int32).toInt ≤ 0 by decide) (show (0 : Int) ≤ (0 : Int32).toInt ∧ (0 : Int32).toInt ≤ 0 by decide) (by decide)).elim
                                  · have wc73 : ¬ (0 : Int) = (0 : Int) := c_ne c73
                                    exact (dd_ne c73 (show (0 : Int) ≤ (0 : Int32).toInt ∧ (0 : Int32).toInt ≤ 0 by decide) (show (0 : Int) ≤ (0 : Int32).toInt ∧ (0 : Int32).toInt ≤ 0 by decide)).elim
                                · have wc72 : ¬ (0 : Int) = (0 : Int) := c_ne c72
                                  exact (dd_ne c72 (show (0 : Int) ≤ (0 : Int32).toInt ∧ (0 : Int32).toInt ≤ 0 by decide) (show (0 : Int) ≤ (0 : Int32).toInt ∧ (0 : Int32).toInt ≤ 0 by decide)).elim
                              · have wc71 : ¬ (0 : Int) = (0 : Int) := c_ne c71
                                exact (dd_ne c71 (show (0 : Int) ≤ (0 : Int32).toInt ∧ (0 : Int32).toInt ≤ 0 by decide) (show (0 : Int) ≤ (0 : Int32).toInt ∧ (0 : Int32).toInt ≤ 0 by decide)).elim
                            · have wc69 : v2.toInt < (0 : Int) := c_nle c69
                              have i98 : ((-2147483648) : Int) ≤ v2.toInt ∧ v2.toInt ≤ (-1) := nr_nlel c69 i62 (show (0 : Int) ≤ (0 : Int32).toInt ∧ (0 : Int32).toInt ≤ 0 by decide) (by decide) (by decide)
                              try unfold fM_cell_136
                              try unfold fM_refuse
                              try unfold fM_refuse_0
                              refine tt_bif (fun c99 => ?_) (fun c99 => ?_)
                              · have wc99 : (0 : Int) = (0 : Int) := c_eq c99
                                refine tt_bif (fun c100 => ?_) (fun c100 => ?_)
                                · have wc100 : (0 : Int) = (0 : Int) := c_eq c100
                                  refine tt_bif (fun c101 => ?_) (fun c101 => ?_)
                                  · have wc101 : (1 : Int) = (0 : Int) := c_eq c101
                                    exact (dd_eq c101 (show (1 : Int) ≤ (1 : Int32).toInt ∧ (1 : Int32).toInt ≤ 1 by decide) (show (0 : Int) ≤ (0 : Int32).toInt ∧ (0 : Int32).toInt ≤ 0 by decide) (by decide)).elim
                                  · have wc101 : ¬ (1 : Int) = (0 : Int) := c_ne c101
                                    try unfold fM_refuse_26
                                    refine tt_bko ?_
                                    have k102 := ok_fp (k := 0) (v := 3) k_o0 (iv_w (a := 0) (b := 3) (by decide) (by decide) (show (3 : Int) ≤ (3 : Int32).toInt ∧ (3 : Int32).toInt ≤ 3 by decide))
                                    have r103 := fr_fp (k := 0) (v := 3) r_o0 rfl
                                    refine tt_bif (fun c104 => ?_) (fun c104 => ?_)
                                    · have wc104 : (3 : Int) ≤ (0 : Int) := c_le c104
                                      exact (dd_le c104 (show (3 : Int) ≤ (3 : Int32).toInt ∧ (3 : Int32).toInt ≤ 3 by decide) (show (0 : Int) ≤ (0 : Int32).toInt ∧ (0 : Int32).toInt ≤ 0 by decide) (by decide)).elim
                                    · have wc104 : (0 : Int) < (3 : Int) := c_nle c104
                                      try unfold fM_refuse_41
                                      refine tt_bw (iv_b (show (1 : Int) ≤ (1 : Int32).toInt ∧ (1 : Int32).toInt ≤ 1 by decide) (by decide) (by decide)) ?_
                                      refine tt_bs ?_
                                      refine tt_if (fun c105 => ?_) (fun c105 => ?_)
                                      · have wc105 : (1 : Int) = (0 : Int) := c_eq c105
                                        exact (dd_eq c105 (show (1 : Int) ≤ (1 : Int32).toInt ∧ (1 : Int32).toInt ≤ 1 by decide) (show (0 : Int) ≤ (0 : Int32).toInt ∧ (0 : Int32).toInt ≤ 0 by decide) (by decide)).elim
                                      · have wc105 : ¬ (1 : Int) = (0 : Int) := c_ne c105
                                        exact tt_some ⟨k102, r103, trivial⟩
                                · have wc100 : ¬ (0 : Int) = (0 : Int) := c_ne c100
                                  exact (dd_ne c100 (show (0 : Int) ≤ (0 : Int32).toInt ∧ (0 : Int32).toInt ≤ 0 by decide) (show (0 : Int) ≤ (0 : Int32).toInt ∧ (0 : Int32).toInt ≤ 0 by decide)).elim
                              · have wc99 : ¬ (0 : Int) = (0 : Int) := c_ne c99
                                exact (dd_ne c99 (show (0 : Int) ≤ (0 : Int32).toInt ∧ (0 : Int32).toInt ≤ 0 by decide) (show (0 : Int) ≤ (0 : Int32).toInt ∧ (0 : Int32).toInt ≤ 0 by decide)).elim
                        · have wc67 : ¬ (0 : Int) = (0 : Int) := c_ne c67
                          exact (dd_ne c67 (show (0 : Int) ≤ (0 : Int32).toInt ∧ (0 : Int32).toInt ≤ 0 by decide) (show (0 : Int) ≤ (0 : Int32).toInt ∧ (0 : Int32).toInt ≤ 0 by decide)).elim
                  · have wc64 : ¬ (0 : Int) = (0 : Int) := c_ne c64
                    exact (dd_ne c64 (show (0 : Int) ≤ (0 : Int32).toInt ∧ (0 : Int32).toInt ≤ 0 by decide) (show (0 : Int) ≤ (0 : Int32).toInt ∧ (0 : Int32).toInt ≤ 0 by decide)).elim
              · have wc61 : (3 : Int) < v2.toInt := c_nle c61
                have i106 : (4 : Int) ≤ v2.toInt ∧ v2.toInt ≤ 2147483647 := nr_nler c61 (show (3 : Int) ≤ (3 : Int32).toInt ∧ (3 : Int32).toInt ≤ 3 by decide) (iv_top v2) (by decide) (by decide)
                try unfold fM_cell_62
                refine tt_if (fun c107 => ?_) (fun c107 => ?_)
                · have wc107 : (1 : Int) = (0 : Int) := c_eq c107
                  exact (dd_eq c107 (show (1 : Int) ≤ (1 : Int32).toInt ∧ (1 : Int32).toInt ≤ 1 by decide) (show (0 : Int) ≤ (0 : Int32).toInt ∧ (0 : Int32).toInt ≤ 0 by decide) (by decide)).elim
                · have wc107 : ¬ (1 : Int) = (0 : Int) := c_ne c107
                  refine tt_if (fun c108 => ?_) (fun c108 => ?_)
                  · have wc108 : (1 : Int) = (0 : Int) := c_eq c108
                    exact (dd_eq c108 (show (1 : Int) ≤ (1 : Int32).toInt ∧ (1 : Int32).toInt ≤ 1 by decide) (show (0 : Int) ≤ (0 : Int32).toInt ∧ (0 : Int32).toInt ≤ 0 by decide) (by decide)).elim
                  · have wc108 : ¬ (1 : Int) = (0 : Int) := c_ne c108
                    refine tt_kv (P := fun z => ((0 : Int) ≤ z.toInt ∧ z.toInt ≤ 2147483643) ∧ z.toInt = v2.toInt - 4) ⟨iv_sub i106 (show (4 : Int) ≤ (4 : Int32).toInt ∧ (4 : Int32).toInt ≤ 4 by decide) (by decide) (by decide) (by decide) (by decide), iq_sub i106 (show (4 : Int) ≤ (4 : Int32).toInt ∧ (4 : Int32).toInt ≤ 4 by decide) (by decide) (by decide)⟩ (fun x109 qi110 => ?_)
                    obtain ⟨i110, ei110⟩ := qi110
                    refine tt_n (ix_ok i59 (by decide) (by decide)) ?_
                    refine tt_kv (P := fun z => ((0 : Int) ≤ z.toInt ∧ z.toInt ≤ 5) ∧ z.toInt = (o0.2.1 59 x58.toNatClampNeg).toInt) ⟨(k_o0.2 59 _), rfl⟩ (fun x111 qi112 => ?_)
                    obtain ⟨i112, ei112⟩ := qi112
                    refine tt_if (fun c113 => ?_) (fun c113 => ?_)
                    · have wc113 : x109.toInt < x111.toInt := c_lt c113
                      have i114 : (0 : Int) ≤ x109.toInt ∧ x109.toInt ≤ 4 := nr_ltl c113 i110 i112 (by decide) (by decide)
                      have i115 : (4 : Int) ≤ v2.toInt ∧ v2.toInt ≤ 8 := by omega
                      have i116 : (1 : Int) ≤ x111.toInt ∧ x111.toInt ≤ 5 := nr_ltr c113 i110 i112 (by decide) (by decide)
                      try unfold fM_cell_90
                      try unfold fM_cell_91
                      refine tt_if (fun c117 => ?_) (fun c117 => ?_)
                      · have wc117 : (o0.1 64).toInt = (0 : Int) := c_eq c117
                        exact (dd_eq c117 i14 (show (0 : Int) ≤ (0 : Int32).toInt ∧ (0 : Int32).toInt ≤ 0 by decide) (by decide)).elim
                      · have wc117 : ¬ (o0.1 64).toInt = (0 : Int) := c_ne c117
                        try unfold fM_cell_106
                        refine tt_if (fun c118 => ?_) (fun c118 => ?_)
                        · have wc118 : (o0.1 64).toInt = (0 : Int) := c_eq c118
                          exact (dd_eq c118 i14 (show (0 : Int) ≤ (0 : Int32).toInt ∧ (0 : Int32).toInt ≤ 0 by decide) (by decide)).elim
                        · have wc118 : ¬ (o0.1 64).toInt = (0 : Int) := c_ne c118
                          refine tt_if (fun c119 => ?_) (fun c119 => ?_)
                          · have wc119 : (0 : Int) = (0 : Int) := c_eq c119
                            try unfold fM_cell_122
                            try unfold fM_cell_123
                            refine tt_if (fun c120 => ?_) (fun c120 => ?_)
                            · have wc120 : (1 : Int) = (0 : Int) := c_eq c120
                              exact (dd_eq c120 (show (1 : Int) ≤ (1 : Int32).toInt ∧ (1 : Int32).toInt ≤ 1 by decide) (show (0 : Int) ≤ (0 : Int32).toInt ∧ (0 : Int32).toInt ≤ 0 by decide) (by decide)).elim
                            · have wc120 : ¬ (1 : Int) = (0 : Int) := c_ne c120
                              refine tt_if (fun c121 => ?_) (fun c121 => ?_)
                              · have wc121 : (0 : Int) ≤ v2.toInt := c_le c121
                                try unfold fM_cell_135
                                try unfold fM_cell_136
                                try unfold fM_refuse
                                try unfold fM_refuse_0
                                refine tt_bif (fun c122 => ?_) (fun c122 => ?_)
                                · have wc122 : (0 : Int) = (0 : Int) := c_eq c122
                                  refine tt_bif (fun c123 => ?_) (fun c123 => ?_)
                                  · have wc123 : (0 : Int) = (0 : Int) := c_eq c123
                                    refine tt_bif (fun c124 => ?_) (fun c124 => ?_)
                                    · have wc124 : (0 : Int) = (0 : Int) := c_eq c124
                                      try unfold fM_refuse_26
                                      refine tt_bko ?_
                                      have k125 := ok_fp (k := 0) (v := 0) k_o0 (iv_w (a := 0) (b := 3) (by decide) (by decide) (show (0 : Int) ≤ (0 : Int32).toInt ∧ (0 : Int32).toInt ≤ 0 by decide))
                                      have r126 := fr_fp (k := 0) (v := 0) r_o0 rfl
                                      refine tt_bif (fun c127 => ?_) (fun c127 => ?_)
                                      · have wc127 : (0 : Int) ≤ (0 : Int) := c_le c127
                                        try unfold fM_refuse_41
                                        refine tt_bw (iv_b (show (0 : Int) ≤ (0 : Int32).toInt ∧ (0 : Int32).toInt ≤ 0 by decide) (by decide) (by decide)) ?_
                                        refine tt_bs ?_
                                        refine tt_if (fun c128 => ?_) (fun c128 => ?_)
                                        · have wc128 : (0 : Int) = (0 : Int) := c_eq c128
                                          refine tt_n (ix_ok i49 (by decide) (by decide)) ?_
                                          refine tt_kv (P := fun z => ((0 : Int) ≤ z.toInt ∧ z.toInt ≤ 208) ∧ z.toInt = (o0.2.1 74 v1.toNatClampNeg).toInt) ⟨(k125.2 74 _), rfl⟩ (fun x129 qi130 => ?_)
                                          obtain ⟨i130, ei130⟩ := qi130
                                          have t131 := tn_n v1
                                          have t132 := Ch_at x_0 (v1.toNatClampNeg)
                                          refine tt_if (fun c133 => ?_) (fun c133 => ?_)
                                          · have wc133 : v2.toInt = (0 : Int) := c_eq c133
                                            exact (dd_eq c133 i115 (show (0 : Int) ≤ (0 : Int32).toInt ∧ (0 : Int32).toInt ≤ 0 by decide) (by decide)).elim
                                          · have wc133 : ¬ v2.toInt = (0 : Int) := c_ne c133
                                            refine tt_if (fun c134 => ?_) (fun c134 => ?_)
                                            · have wc134 : v2.toInt = (1 : Int) := c_eq c134
                                              exact (dd_eq c134 i115 (show (1 : Int) ≤ (1 : Int32).toInt ∧ (1 : Int32).toInt ≤ 1 by decide) (by decide)).elim
                                            · have wc134 : ¬ v2.toInt = (1 : Int) := c_ne c134
                                              refine tt_if (fun c135 => ?_) (fun c135 => ?_)
                                              · have wc135 : v2.toInt = (2 : Int) := c_eq c135
                                                exact (dd_eq c135 i115 (show (2 : Int) ≤ (2 : Int32).toInt ∧ (2 : Int32).toInt ≤ 2 by decide) (by decide)).elim
                                              · have wc135 : ¬ v2.toInt = (2 : Int) := c_ne c135
                                                refine tt_if (fun c136 => ?_) (fun c136 => ?_)
                                                · have wc136 : v2.toInt = (3 : Int) := c_eq c136
                                                  exact (dd_eq c136 i115 (show (3 : Int) ≤ (3 : Int32).toInt ∧ (3 : Int32).toInt ≤ 3 by decide) (by decide)).elim
                                                · have wc136 : ¬ v2.toInt = (3 : Int) := c_ne c136
                                                  refine tt_kv (P := fun z => ((0 : Int) ≤ z.toInt ∧ z.toInt ≤ 316045) ∧ z.toInt = 5 * x58.toInt) ⟨iv_mul (show (5 : Int) ≤ (5 : Int32).toInt ∧ (5 : Int32).toInt ≤ 5 by decide) i59 (by decide) (by decide) (by decide) (by decide) (by decide), iq_mul (show (5 : Int) ≤ (5 : Int32).toInt ∧ (5 : Int32).toInt ≤ 5 by decide) i59 (by decide) (by decide) (by decide) (by decide)⟩ (fun x137 qi138 => ?_)
                                                  obtain ⟨i138, ei138⟩ := qi138
                                                  refine tt_kv (P := fun z => ((4 : Int) ≤ z.toInt ∧ z.toInt ≤ 316053) ∧ z.toInt = x137.toInt + v2.toInt) ⟨iv_add i138 i115 (by decide) (by decide) (by decide) (by decide), iq_add i138 i115 (by decide) (by decide)⟩ (fun x139 qi140 => ?_)
                                                  obtain ⟨i140, ei140⟩ := qi140
                                                  refine tt_kv (P := fun z => ((0 : Int) ≤ z.toInt ∧ z.toInt ≤ 316049) ∧ z.toInt = x139.toInt - 4) ⟨iv_sub i140 (show (4 : Int) ≤ (4 : Int32).toInt ∧ (4 : Int32).toInt ≤ 4 by decide) (by decide) (by decide) (by decide) (by decide), iq_sub i140 (show (4 : Int) ≤ (4 : Int32).toInt ∧ (4 : Int32).toInt ≤ 4 by decide) (by decide) (by decide)⟩ (fun x141 qi142 => ?_)
                                                  obtain ⟨i142, ei142⟩ := qi142
                                                  refine tt_n (ix_ok i142 (by decide) (by decide)) ?_
                                                  refine tt_kv (P := fun z => ((0 : Int) ≤ z.toInt ∧ z.toInt ≤ 208) ∧ z.toInt = (o0.2.1 58 x141.toNatClampNeg).toInt) ⟨(k125.2 58 _), rfl⟩ (fun x143 qi144 => ?_)
                                                  obtain ⟨i144, ei144⟩ := qi144
                                                  try unfold fM_cell_218
                                                  exact tt_some ⟨k125, r126, trivial⟩
                                        · have wc128 : ¬ (0 : Int) = (0 : Int) := c_ne c128
                                          exact (dd_ne c128 (show (0 : Int) ≤ (0 : Int32).toInt ∧ (0 : Int32).toInt ≤ 0 by decide) (show (0 : Int) ≤ (0 : Int32).toInt ∧ (0 : Int32).toInt ≤ 0 by decide)).elim
                                      · have wc127 : (0 : Int) < (0 : Int) := c_nle c127
                                        exact (dd_nle c127 (show (0 : Int) ≤ (0 : Int32).toInt ∧ (0 : Int32).toInt ≤ 0 by decide) (show (0 : Int) ≤ (0 : Int32).toInt ∧ (0 : Int32).toInt ≤ 0 by decide) (by decide)).elim
                                    · have wc124 : ¬ (0 : Int) = (0 : Int) := c_ne c124
                                      exact (dd_ne c124 (show (0 : Int) ≤ (0 : Int32).toInt ∧ (0 : Int32).toInt ≤ 0 by decide) (show (0 : Int) ≤ (0 : Int32).toInt ∧ (0 : Int32).toInt ≤ 0 by decide)).elim
                                  · have wc123 : ¬ (0 : Int) = (0 : Int) := c_ne c123
                                    exact (dd_ne c123 (show (0 : Int) ≤ (0 : Int32).toInt ∧ (0 : Int32).toInt ≤ 0 by decide) (show (0 : Int) ≤ (0 : Int32).toInt ∧ (0 : Int32).toInt ≤ 0 by decide)).elim
                                · have wc122 : ¬ (0 : Int) = (0 : Int) := c_ne c122
                                  exact (dd_ne c122 (show (0 : Int) ≤ (0 : Int32).toInt ∧ (0 : Int32).toInt ≤ 0 by decide) (show (0 : Int) ≤ (0 : Int32).toInt ∧ (0 : Int32).toInt ≤ 0 by decide)).elim
                              · have wc121 : v2.toInt < (0 : Int) := c_nle c121
                                exact (dd_nle c121 i115 (show (0 : Int) ≤ (0 : Int32).toInt ∧ (0 : Int32).toInt ≤ 0 by decide) (by decide)).elim
                          · have wc119 : ¬ (0 : Int) = (0 : Int) := c_ne c119
                            exact (dd_ne c119 (show (0 : Int) ≤ (0 : Int32).toInt ∧ (0 : Int32).toInt ≤ 0 by decide) (show (0 : Int) ≤ (0 : Int32).toInt ∧ (0 : Int32).toInt ≤ 0 by decide)).elim
                    · have wc113 : x111.toInt ≤ x109.toInt := c_nlt c113
                      try unfold fM_cell_86
                      try unfold fM_cell_91
                      refine tt_if (fun c145 => ?_) (fun c145 => ?_)
                      · have wc145 : (o0.1 64).toInt = (0 : Int) := c_eq c145
                        exact (dd_eq c145 i14 (show (0 : Int) ≤ (0 : Int32).toInt ∧ (0 : Int32).toInt ≤ 0 by decide) (by decide)).elim
                      · have wc145 : ¬ (o0.1 64).toInt = (0 : Int) := c_ne c145
                        try unfold fM_cell_106
                        refine tt_if (fun c146 => ?_) (fun c146 => ?_)
                        · have wc146 : (o0.1 64).toInt = (0 : Int) := c_eq c146
                          exact (dd_eq c146 i14 (show (0 : Int) ≤ (0 : Int32).toInt ∧ (0 : Int32).toInt ≤ 0 by decide) (by decide)).elim
                        · have wc146 : ¬ (o0.1 64).toInt = (0 : Int) := c_ne c146
                          refine tt_if (fun c147 => ?_) (fun c147 => ?_)
                          · have wc147 : (1 : Int) = (0 : Int) := c_eq c147
                            exact (dd_eq c147 (show (1 : Int) ≤ (1 : Int32).toInt ∧ (1 : Int32).toInt ≤ 1 by decide) (show (0 : Int) ≤ (0 : Int32).toInt ∧ (0 : Int32).toInt ≤ 0 by decide) (by decide)).elim
                          · have wc147 : ¬ (1 : Int) = (0 : Int) := c_ne c147
                            try unfold fM_cell_123
                            refine tt_if (fun c148 => ?_) (fun c148 => ?_)
                            · have wc148 : (1 : Int) = (0 : Int) := c_eq c148
                              exact (dd_eq c148 (show (1 : Int) ≤ (1 : Int32).toInt ∧ (1 : Int32).toInt ≤ 1 by decide) (show (0 : Int) ≤ (0 : Int32).toInt ∧ (0 : Int32).toInt ≤ 0 by decide) (by decide)).elim
                            · have wc148 : ¬ (1 : Int) = (0 : Int) := c_ne c148
                              refine tt_if (fun c149 => ?_) (fun c149 => ?_)
                              · have wc149 : (0 : Int) ≤ v2.toInt := c_le c149
                                try unfold fM_cell_135
                                try unfold fM_cell_136
                                try unfold fM_refuse
                                try unfold fM_refuse_0
                                refine tt_bif (fun c150 => ?_) (fun c150 => ?_)
                                · have wc150 : (0 : Int) = (0 : Int) := c_eq c150
                                  refine tt_bif (fun c151 => ?_) (fun c151 => ?_)
                                  · have wc151 : (1 : Int) = (0 : Int) := c_eq c151
                                    exact (dd_eq c151 (show (1 : Int) ≤ (1 : Int32).toInt ∧ (1 : Int32).toInt ≤ 1 by decide) (show (0 : Int) ≤ (0 : Int32).toInt ∧ (0 : Int32).toInt ≤ 0 by decide) (by decide)).elim
                                  · have wc151 : ¬ (1 : Int) = (0 : Int) := c_ne c151
                                    try unfold fM_refuse_26
                                    refine tt_bko ?_
                                    have k152 := ok_fp (k := 0) (v := 2) k_o0 (iv_w (a := 0) (b := 3) (by decide) (by decide) (show (2 : Int) ≤ (2 : Int32).toInt ∧ (2 : Int32).toInt ≤ 2 by decide))
                                    have r153 := fr_fp (k := 0) (v := 2) r_o0 rfl
                                    refine tt_bif (fun c154 => ?_) (fun c154 => ?_)
                                    · have wc154 : (2 : Int) ≤ (0 : Int) := c_le c154
                                      exact (dd_le c154 (show (2 : Int) ≤ (2 : Int32).toInt ∧ (2 : Int32).toInt ≤ 2 by decide) (show (0 : Int) ≤ (0 : Int32).toInt ∧ (0 : Int32).toInt ≤ 0 by decide) (by decide)).elim
                                    · have wc154 : (0 : Int) < (2 : Int) := c_nle c154
                                      try unfold fM_refuse_41
                                      refine tt_bw (iv_b (show (1 : Int) ≤ (1 : Int32).toInt ∧ (1 : Int32).toInt ≤ 1 by decide) (by decide) (by decide)) ?_
                                      refine tt_bs ?_
                                      refine tt_if (fun c155 => ?_) (fun c155 => ?_)
                                      · have wc155 : (1 : Int) = (0 : Int) := c_eq c155
                                        exact (dd_eq c155 (show (1 : Int) ≤ (1 : Int32).toInt ∧ (1 : Int32).toInt ≤ 1 by decide) (show (0 : Int) ≤ (0 : Int32).toInt ∧ (0 : Int32).toInt ≤ 0 by decide) (by decide)).elim
                                      · have wc155 : ¬ (1 : Int) = (0 : Int) := c_ne c155
                                        exact tt_some ⟨k152, r153, trivial⟩
                                · have wc150 : ¬ (0 : Int) = (0 : Int) := c_ne c150
                                  exact (dd_ne c150 (show (0 : Int) ≤ (0 : Int32).toInt ∧ (0 : Int32).toInt ≤ 0 by decide) (show (0 : Int) ≤ (0 : Int32).toInt ∧ (0 : Int32).toInt ≤ 0 by decide)).elim
                              · have wc149 : v2.toInt < (0 : Int) := c_nle c149
                                exact (dd_nle c149 i106 (show (0 : Int) ≤ (0 : Int32).toInt ∧ (0 : Int32).toInt ≤ 0 by decide) (by decide)).elim
def QM_sign (v1 : Int32) (o0 : cf_O) (r : (Int32 × cf_O)) : Prop := (okO I_M r.2) ∧ (Fr (fr_M [0] [] []) o0 r.2) ∧ ((0 : Int) ≤ (r.2.1 0).toInt ∧ (r.2.1 0).toInt ≤ 2) ∧ True
set_option maxHeartbeats 4000000 in
set_option maxRecDepth 100000 in
theorem sM_sign (v1 : Int32) (o0 : cf_O) (k_o0 : okO I_M o0) (f_o0_95 : (0 : Int) ≤ (o0.1 95).toInt ∧ (o0.1 95).toInt ≤ 0) : tt (fM_sign v1 o0) (QM_sign v1 o0) := by
  have r_o0 : Fr (fr_M [0] [] []) o0 o0 := fr_rfl
  unfold fM_sign fM_sign_0
  refine tt_if (fun c1 => ?_) (fun c1 => ?_)
  · have i2 : (0 : Int) ≤ (o0.1 64).toInt ∧ (o0.1 64).toInt ≤ 0 := nr_eql c1 (k_o0.1 64) (show (0 : Int) ≤ (0 : Int32).toInt ∧ (0 : Int32).toInt ≤ 0 by decide) (by decide) (by decide)
    try unfold fM_sign_13
    refine tt_if (fun c3 => ?_) (fun c3 => ?_)
    · try unfold fM_sign_28
      try unfold fM_sign_29
      try unfold fM_refuse
      try unfold fM_refuse_0
      refine tt_bif (fun c4 => ?_) (fun c4 => ?_)
      · exact (dd_eq c4 (show (1 : Int) ≤ (1 : Int32).toInt ∧ (1 : Int32).toInt ≤ 1 by decide) (show (0 : Int) ≤ (0 : Int32).toInt ∧ (0 : Int32).toInt ≤ 0 by decide) (by decide)).elim
      · try unfold fM_refuse_26
        refine tt_bko ?_
        have k5 := ok_fp (k := 0) (v := 1) k_o0 (iv_w (a := 0) (b := 3) (by decide) (by decide) (show (1 : Int) ≤ (1 : Int32).toInt ∧ (1 : Int32).toInt ≤ 1 by decide))
        have r6 := fr_fp (k := 0) (v := 1) r_o0 rfl
        refine tt_bif (fun c7 => ?_) (fun c7 => ?_)
        · exact (dd_le c7 (show (1 : Int) ≤ (1 : Int32).toInt ∧ (1 : Int32).toInt ≤ 1 by decide) (show (0 : Int) ≤ (0 : Int32).toInt ∧ (0 : Int32).toInt ≤ 0 by decide) (by decide)).elim
        · try unfold fM_refuse_41
          refine tt_bw (iv_b (show (1 : Int) ≤ (1 : Int32).toInt ∧ (1 : Int32).toInt ≤ 1 by decide) (by decide) (by decide)) ?_
          refine tt_bs ?_
          refine tt_if (fun c8 => ?_) (fun c8 => ?_)
          · exact (dd_eq c8 (show (1 : Int) ≤ (1 : Int32).toInt ∧ (1 : Int32).toInt ≤ 1 by decide) (show (0 : Int) ≤ (0 : Int32).toInt ∧ (0 : Int32).toInt ≤ 0 by decide) (by decide)).elim
          · exact tt_some ⟨k5, r6, (iv_w (a := 0) (b := 2) (by decide) (by decide) (show (1 : Int) ≤ (1 : Int32).toInt ∧ (1 : Int32).toInt ≤ 1 by decide)), trivial⟩
    · exact (dd_ne c3 i2 (show (0 : Int) ≤ (0 : Int32).toInt ∧ (0 : Int32).toInt ≤ 0 by decide)).elim
  · have i9 : (1 : Int) ≤ (o0.1 64).toInt ∧ (o0.1 64).toInt ≤ 1 := nr_nela c1 (k_o0.1 64) (show (0 : Int) ≤ (0 : Int32).toInt ∧ (0 : Int32).toInt ≤ 0 by decide) (by decide) (by decide)
    try unfold fM_sign_13
    refine tt_if (fun c10 => ?_) (fun c10 => ?_)
    · exact (dd_eq c10 i9 (show (0 : Int) ≤ (0 : Int32).toInt ∧ (0 : Int32).toInt ≤ 0 by decide) (by decide)).elim
    · refine tt_if (fun c11 => ?_) (fun c11 => ?_)
      · have i12 : (0 : Int) ≤ v1.toInt ∧ v1.toInt ≤ 2147483647 := nr_ler c11 (show (0 : Int) ≤ (0 : Int32).toInt ∧ (0 : Int32).toInt ≤ 0 by decide) (iv_top v1) (by decide) (by decide)
        try unfold fM_sign_28
        try unfold fM_sign_29
        try unfold fM_refuse
        try unfold fM_refuse_0
        refine tt_bif (fun c13 => ?_) (fun c13 => ?_)
        · refine tt_bif (fun c14 => ?_) (fun c14 => ?_)
          · refine tt_bif (fun c15 => ?_) (fun c15 => ?_)
            · try unfold fM_refuse_26
              refine tt_bko ?_
              have k16 := ok_fp (k := 0) (v := 0) k_o0 (iv_w (a := 0) (b := 3) (by decide) (by decide) (show (0 : Int) ≤ (0 : Int32).toInt ∧ (0 : Int32).toInt ≤ 0 by decide))
              have r17 := fr_fp (k := 0) (v := 0) r_o0 rfl
              refine tt_bif (fun c18 => ?_) (fun c18 => ?_)
              · try unfold fM_refuse_41
                refine tt_bw (iv_b (show (0 : Int) ≤ (0 : Int32).toInt ∧ (0 : Int32).toInt ≤ 0 by decide) (by decide) (by decide)) ?_
                refine tt_bs ?_
                refine tt_if (fun c19 => ?_) (fun c19 => ?_)
                · refine tt_if (fun c20 => ?_) (fun c20 => ?_)
                  · try unfold fM_sign_56
                    exact tt_some ⟨k16, r17, (iv_w (a := 0) (b := 2) (by decide) (by decide) (show (0 : Int) ≤ (0 : Int32).toInt ∧ (0 : Int32).toInt ≤ 0 by decide)), trivial⟩
                  · have i21 : (0 : Int) ≤ v1.toInt ∧ v1.toInt ≤ 89999 := nr_nlel c20 i12 (k_o0.1 76) (by decide) (by decide)
                    have i22 : (1 : Int) ≤ (o0.1 76).toInt ∧ (o0.1 76).toInt ≤ 90000 := nr_nler c20 i12 (k_o0.1 76) (by decide) (by decide)
                    refine tt_n (ix_ok i21 (by decide) (by decide)) ?_
                    refine tt_kv (P := fun z => ((-2147483648) : Int) ≤ z.toInt ∧ z.toInt ≤ 2147483647) (k16.2 77 _) (fun x23 i24 => ?_)
                    try unfold fM_sign_56
                    exact tt_some ⟨k16, r17, (iv_w (a := 0) (b := 2) (by decide) (by decide) (show (0 : Int) ≤ (0 : Int32).toInt ∧ (0 : Int32).toInt ≤ 0 by decide)), trivial⟩
                · exact (dd_ne c19 (show (0 : Int) ≤ (0 : Int32).toInt ∧ (0 : Int32).toInt ≤ 0 by decide) (show (0 : Int) ≤ (0 : Int32).toInt ∧ (0 : Int32).toInt ≤ 0 by decide)).elim
              · exact (dd_nle c18 (show (0 : Int) ≤ (0 : Int32).toInt ∧ (0 : Int32).toInt ≤ 0 by decide) (show (0 : Int) ≤ (0 : Int32).toInt ∧ (0 : Int32).toInt ≤ 0 by decide) (by decide)).elim
            · exact (dd_ne c15 (show (0 : Int) ≤ (0 : Int32).toInt ∧ (0 : Int32).toInt ≤ 0 by decide) (show (0 : Int) ≤ (0 : Int32).toInt ∧ (0 : Int32).toInt ≤ 0 by decide)).elim
          · exact (dd_ne c14 (show (0 : Int) ≤ (0 : Int32).toInt ∧ (0 : Int32).toInt ≤ 0 by decide) (show (0 : Int) ≤ (0 : Int32).toInt ∧ (0 : Int32).toInt ≤ 0 by decide)).elim
        · exact (dd_ne c13 (show (0 : Int) ≤ (0 : Int32).toInt ∧ (0 : Int32).toInt ≤ 0 by decide) (show (0 : Int) ≤ (0 : Int32).toInt ∧ (0 : Int32).toInt ≤ 0 by decide)).elim
      · have i25 : ((-2147483648) : Int) ≤ v1.toInt ∧ v1.toInt ≤ (-1) := nr_nlel c11 (iv_top v1) (show (0 : Int) ≤ (0 : Int32).toInt ∧ (0 : Int32).toInt ≤ 0 by decide) (by decide) (by decide)
        try unfold fM_sign_29
        try unfold fM_refuse
        try unfold fM_refuse_0
        refine tt_bif (fun c26 => ?_) (fun c26 => ?_)
        · refine tt_bif (fun c27 => ?_) (fun c27 => ?_)
          · exact (dd_eq c27 (show (1 : Int) ≤ (1 : Int32).toInt ∧ (1 : Int32).toInt ≤ 1 by decide) (show (0 : Int) ≤ (0 : Int32).toInt ∧ (0 : Int32).toInt ≤ 0 by decide) (by decide)).elim
          · try unfold fM_refuse_26
            refine tt_bko ?_
            have k28 := ok_fp (k := 0) (v := 2) k_o0 (iv_w (a := 0) (b := 3) (by decide) (by decide) (show (2 : Int) ≤ (2 : Int32).toInt ∧ (2 : Int32).toInt ≤ 2 by decide))
            have r29 := fr_fp (k := 0) (v := 2) r_o0 rfl
            refine tt_bif (fun c30 => ?_) (fun c30 => ?_)
            · exact (dd_le c30 (show (2 : Int) ≤ (2 : Int32).toInt ∧ (2 : Int32).toInt ≤ 2 by decide) (show (0 : Int) ≤ (0 : Int32).toInt ∧ (0 : Int32).toInt ≤ 0 by decide) (by decide)).elim
            · try unfold fM_refuse_41
              refine tt_bw (iv_b (show (1 : Int) ≤ (1 : Int32).toInt ∧ (1 : Int32).toInt ≤ 1 by decide) (by decide) (by decide)) ?_
              refine tt_bs ?_
              refine tt_if (fun c31 => ?_) (fun c31 => ?_)
              · exact (dd_eq c31 (show (1 : Int) ≤ (1 : Int32).toInt ∧ (1 : Int32).toInt ≤ 1 by decide) (show (0 : Int) ≤ (0 : Int32).toInt ∧ (0 : Int32).toInt ≤ 0 by decide) (by decide)).elim
              · exact tt_some ⟨k28, r29, (iv_w (a := 0) (b := 2) (by decide) (by decide) (show (2 : Int) ≤ (2 : Int32).toInt ∧ (2 : Int32).toInt ≤ 2 by decide)), trivial⟩
        · exact (dd_ne c26 (show (0 : Int) ≤ (0 : Int32).toInt ∧ (0 : Int32).toInt ≤ 0 by decide) (show (0 : Int) ≤ (0 : Int32).toInt ∧ (0 : Int32).toInt ≤ 0 by decide)).elim
def QM_digitsOf (v1 : Int32) (v2 : Int32) (o0 : cf_O) (r : (Int32)) : Prop := True
def HM_digitsOf (yv1 : Int32) (yv2 : Int32) (yo0 : cf_O) (n : Nat) : Prop := (∀ (v1 : Int32) (v3 : Int32) (v4 : Int32) (v5 : Int32) (o0 : cf_O), (okO I_M o0) → (Fr (fr_M [] [] []) yo0 o0) → ((2 : Int) ≤ v1.toInt ∧ v1.toInt ≤ 3) → ((0 : Int) ≤ v3.toInt ∧ v3.toInt ≤ 1) → ((0 : Int) ≤ v5.toInt ∧ v5.toInt ≤ 1600) → ((0 : Int) ≤ (o0.1 0).toInt ∧ (o0.1 0).toInt ≤ 0) → ((0 : Int) ≤ (o0.1 5).toInt ∧ (o0.1 5).toInt ≤ 0) → ((5 : Int) ≤ (o0.1 7).toInt ∧ (o0.1 7).toInt ≤ 5) → ((0 : Int) ≤ (o0.1 79).toInt ∧ (o0.1 79).toInt ≤ 11) → ((0 : Int) ≤ (o0.1 95).toInt ∧ (o0.1 95).toInt ≤ 0) → 0 + (1600 - v5.toInt) * 2 < (n : Int) → tt (gM_digitsOf n 0 v1 v3 v4 v5 o0) (QM_digitsOf yv1 yv2 yo0))
set_option maxHeartbeats 4000000 in
set_option maxRecDepth 100000 in
theorem tM_digitsOf_30 {yv1 : Int32} {yv2 : Int32} {yo0 : cf_O} {n : Nat} (H : HM_digitsOf yv1 yv2 yo0 n) (v1 : Int32) (v3 : Int32) (v4 : Int32) (v5 : Int32) (o0 : cf_O) (k_o0 : okO I_M o0) (r_o0 : Fr (fr_M [] [] []) yo0 o0) (i_v1 : (2 : Int) ≤ v1.toInt ∧ v1.toInt ≤ 3) (i_v3 : (0 : Int) ≤ v3.toInt ∧ v3.toInt ≤ 1) (i_v5 : (0 : Int) ≤ v5.toInt ∧ v5.toInt ≤ 1600) (f_o0_0 : (0 : Int) ≤ (o0.1 0).toInt ∧ (o0.1 0).toInt ≤ 0) (f_o0_5 : (0 : Int) ≤ (o0.1 5).toInt ∧ (o0.1 5).toInt ≤ 0) (f_o0_7 : (5 : Int) ≤ (o0.1 7).toInt ∧ (o0.1 7).toInt ≤ 5) (f_o0_79 : (0 : Int) ≤ (o0.1 79).toInt ∧ (o0.1 79).toInt ≤ 11) (f_o0_95 : (0 : Int) ≤ (o0.1 95).toInt ∧ (o0.1 95).toInt ≤ 0) (hm : 0 + (1600 - v5.toInt) * 2 ≤ (n : Int)) : tt (fM_digitsOf_30 (gM_digitsOf n) v1 v3 v4 v5 o0) (QM_digitsOf yv1 yv2 yo0) := by
  unfold fM_digitsOf_30
  refine tt_n (ix_ok i_v1 (by decide) (by decide)) ?_
  refine tt_kv (P := fun z => (0 : Int) ≤ z.toInt ∧ z.toInt ≤ 1600) (k_o0.2 9 _) (fun x1 i2 => ?_)
  refine tt_if (fun c3 => ?_) (fun c3 => ?_)
  · refine tt_if (fun c4 => ?_) (fun c4 => ?_)
    · have i5 : (0 : Int) ≤ v3.toInt ∧ v3.toInt ≤ 0 := nr_eql c4 i_v3 (show (0 : Int) ≤ (0 : Int32).toInt ∧ (0 : Int32).toInt ≤ 0 by decide) (by decide) (by decide)
      try unfold fM_digitsOf_111
      exact tt_some trivial
    · have i6 : (1 : Int) ≤ v3.toInt ∧ v3.toInt ≤ 1 := nr_nela c4 i_v3 (show (0 : Int) ≤ (0 : Int32).toInt ∧ (0 : Int32).toInt ≤ 0 by decide) (by decide) (by decide)
      try unfold fM_digitsOf_111
      exact tt_some trivial
  · have i7 : (0 : Int) ≤ v5.toInt ∧ v5.toInt ≤ 1599 := nr_nlel c3 i_v5 i2 (by decide) (by decide)
    have i8 : (1 : Int) ≤ x1.toInt ∧ x1.toInt ≤ 1600 := nr_nler c3 i_v5 i2 (by decide) (by decide)
    refine tt_if (fun c9 => ?_) (fun c9 => ?_)
    · have i10 : (0 : Int) ≤ v3.toInt ∧ v3.toInt ≤ 0 := nr_eql c9 i_v3 (show (0 : Int) ≤ (0 : Int32).toInt ∧ (0 : Int32).toInt ≤ 0 by decide) (by decide) (by decide)
      try unfold fM_digitsOf_66
      try unfold fM_digitsOf_67
      refine tt_if (fun c11 => ?_) (fun c11 => ?_)
      · try unfold fM_digitsOf_93
        refine tt_kv (P := fun z => ((1 : Int) ≤ z.toInt ∧ z.toInt ≤ 1600) ∧ z.toInt = v5.toInt + 1) ⟨iv_add i7 (show (1 : Int) ≤ (1 : Int32).toInt ∧ (1 : Int32).toInt ≤ 1 by decide) (by decide) (by decide) (by decide) (by decide), iq_add i7 (show (1 : Int) ≤ (1 : Int32).toInt ∧ (1 : Int32).toInt ≤ 1 by decide) (by decide) (by decide)⟩ (fun x12 qi13 => ?_)
        obtain ⟨i13, ei13⟩ := qi13
        exact H _ _ _ _ _ k_o0 r_o0 i_v1 (iv_w (a := 0) (b := 1) (by decide) (by decide) (show (0 : Int) ≤ (0 : Int32).toInt ∧ (0 : Int32).toInt ≤ 0 by decide)) (iv_w (a := 0) (b := 1600) (by decide) (by decide) i13) f_o0_0 f_o0_5 f_o0_7 f_o0_79 f_o0_95 (show 0 + (1600 - x12.toInt) * 2 < (n : Int) by omega)
      · exact (dd_ne c11 (show (0 : Int) ≤ (0 : Int32).toInt ∧ (0 : Int32).toInt ≤ 0 by decide) (show (0 : Int) ≤ (0 : Int32).toInt ∧ (0 : Int32).toInt ≤ 0 by decide)).elim
    · have i14 : (1 : Int) ≤ v3.toInt ∧ v3.toInt ≤ 1 := nr_nela c9 i_v3 (show (0 : Int) ≤ (0 : Int32).toInt ∧ (0 : Int32).toInt ≤ 0 by decide) (by decide) (by decide)
      refine tt_n (ix_ok i7 (by decide) (by decide)) ?_
      refine tt_kv (P := fun z => (0 : Int) ≤ z.toInt ∧ z.toInt ≤ 255) (k_o0.2 1 _) (fun x15 i16 => ?_)
      try unfold fM_in
      try unfold fM_in_0
      refine tt_bif (fun c17 => ?_) (fun c17 => ?_)
      · have i18 : (0 : Int) ≤ x15.toInt ∧ x15.toInt ≤ 47 := nr_ltl c17 i16 (show (48 : Int) ≤ (48 : Int32).toInt ∧ (48 : Int32).toInt ≤ 48 by decide) (by decide) (by decide)
        try unfold fM_in_14
        try unfold fM_in_15
        refine tt_bw (iv_b (show (0 : Int) ≤ (0 : Int32).toInt ∧ (0 : Int32).toInt ≤ 0 by decide) (by decide) (by decide)) ?_
        refine tt_bs ?_
        refine tt_if (fun c19 => ?_) (fun c19 => ?_)
        · try unfold fM_digitsOf_66
          try unfold fM_digitsOf_67
          refine tt_if (fun c20 => ?_) (fun c20 => ?_)
          · try unfold fM_digitsOf_93
            refine tt_kv (P := fun z => ((1 : Int) ≤ z.toInt ∧ z.toInt ≤ 1600) ∧ z.toInt = v5.toInt + 1) ⟨iv_add i7 (show (1 : Int) ≤ (1 : Int32).toInt ∧ (1 : Int32).toInt ≤ 1 by decide) (by decide) (by decide) (by decide) (by decide), iq_add i7 (show (1 : Int) ≤ (1 : Int32).toInt ∧ (1 : Int32).toInt ≤ 1 by decide) (by decide) (by decide)⟩ (fun x21 qi22 => ?_)
            obtain ⟨i22, ei22⟩ := qi22
            exact H _ _ _ _ _ k_o0 r_o0 i_v1 (iv_w (a := 0) (b := 1) (by decide) (by decide) (show (0 : Int) ≤ (0 : Int32).toInt ∧ (0 : Int32).toInt ≤ 0 by decide)) (iv_w (a := 0) (b := 1600) (by decide) (by decide) i22) f_o0_0 f_o0_5 f_o0_7 f_o0_79 f_o0_95 (show 0 + (1600 - x21.toInt) * 2 < (n : Int) by omega)
          · exact (dd_ne c20 (show (0 : Int) ≤ (0 : Int32).toInt ∧ (0 : Int32).toInt ≤ 0 by decide) (show (0 : Int) ≤ (0 : Int32).toInt ∧ (0 : Int32).toInt ≤ 0 by decide)).elim
        · exact (dd_ne c19 (show (0 : Int) ≤ (0 : Int32).toInt ∧ (0 : Int32).toInt ≤ 0 by decide) (show (0 : Int) ≤ (0 : Int32).toInt ∧ (0 : Int32).toInt ≤ 0 by decide)).elim
      · have i23 : (48 : Int) ≤ x15.toInt ∧ x15.toInt ≤ 255 := nr_nltr c17 (show (48 : Int) ≤ (48 : Int32).toInt ∧ (48 : Int32).toInt ≤ 48 by decide) i16 (by decide) (by decide)
        refine tt_bif (fun c24 => ?_) (fun c24 => ?_)
        · have i25 : (58 : Int) ≤ x15.toInt ∧ x15.toInt ≤ 255 := nr_ltr c24 (show (57 : Int) ≤ (57 : Int32).toInt ∧ (57 : Int32).toInt ≤ 57 by decide) i23 (by decide) (by decide)
          try unfold fM_in_14
          try unfold fM_in_15
          refine tt_bw (iv_b (show (0 : Int) ≤ (0 : Int32).toInt ∧ (0 : Int32).toInt ≤ 0 by decide) (by decide) (by decide)) ?_
          refine tt_bs ?_
          refine tt_if (fun c26 => ?_) (fun c26 => ?_)
          · try unfold fM_digitsOf_66
            try unfold fM_digitsOf_67
            refine tt_if (fun c27 => ?_) (fun c27 => ?_)
            · try unfold fM_digitsOf_93
              refine tt_kv (P := fun z => ((1 : Int) ≤ z.toInt ∧ z.toInt ≤ 1600) ∧ z.toInt = v5.toInt + 1) ⟨iv_add i7 (show (1 : Int) ≤ (1 : Int32).toInt ∧ (1 : Int32).toInt ≤ 1 by decide) (by decide) (by decide) (by decide) (by decide), iq_add i7 (show (1 : Int) ≤ (1 : Int32).toInt ∧ (1 : Int32).toInt ≤ 1 by decide) (by decide) (by decide)⟩ (fun x28 qi29 => ?_)
              obtain ⟨i29, ei29⟩ := qi29
              exact H _ _ _ _ _ k_o0 r_o0 i_v1 (iv_w (a := 0) (b := 1) (by decide) (by decide) (show (0 : Int) ≤ (0 : Int32).toInt ∧ (0 : Int32).toInt ≤ 0 by decide)) (iv_w (a := 0) (b := 1600) (by decide) (by decide) i29) f_o0_0 f_o0_5 f_o0_7 f_o0_79 f_o0_95 (show 0 + (1600 - x28.toInt) * 2 < (n : Int) by omega)
            · exact (dd_ne c27 (show (0 : Int) ≤ (0 : Int32).toInt ∧ (0 : Int32).toInt ≤ 0 by decide) (show (0 : Int) ≤ (0 : Int32).toInt ∧ (0 : Int32).toInt ≤ 0 by decide)).elim
          · exact (dd_ne c26 (show (0 : Int) ≤ (0 : Int32).toInt ∧ (0 : Int32).toInt ≤ 0 by decide) (show (0 : Int) ≤ (0 : Int32).toInt ∧ (0 : Int32).toInt ≤ 0 by decide)).elim
        · have i30 : (48 : Int) ≤ x15.toInt ∧ x15.toInt ≤ 57 := nr_nltl c24 i23 (show (57 : Int) ≤ (57 : Int32).toInt ∧ (57 : Int32).toInt ≤ 57 by decide) (by decide) (by decide)
          try unfold fM_in_15
          refine tt_bw (iv_b (show (1 : Int) ≤ (1 : Int32).toInt ∧ (1 : Int32).toInt ≤ 1 by decide) (by decide) (by decide)) ?_
          refine tt_bs ?_
          refine tt_if (fun c31 => ?_) (fun c31 => ?_)
          · exact (dd_eq c31 (show (1 : Int) ≤ (1 : Int32).toInt ∧ (1 : Int32).toInt ≤ 1 by decide) (show (0 : Int) ≤ (0 : Int32).toInt ∧ (0 : Int32).toInt ≤ 0 by decide) (by decide)).elim
          · try unfold fM_digitsOf_67
            refine tt_if (fun c32 => ?_) (fun c32 => ?_)
            · exact (dd_eq c32 (show (1 : Int) ≤ (1 : Int32).toInt ∧ (1 : Int32).toInt ≤ 1 by decide) (show (0 : Int) ≤ (0 : Int32).toInt ∧ (0 : Int32).toInt ≤ 0 by decide) (by decide)).elim
            · refine tt_kv (P := fun z => ((-2147483648) : Int) ≤ z.toInt ∧ z.toInt ≤ 2147483647) (iv_top _) (fun x33 i34 => ?_)
              refine tt_n (ix_ok i7 (by decide) (by decide)) ?_
              refine tt_kv (P := fun z => (0 : Int) ≤ z.toInt ∧ z.toInt ≤ 255) (k_o0.2 1 _) (fun x35 i36 => ?_)
              refine tt_kv (P := fun z => ((-2147483648) : Int) ≤ z.toInt ∧ z.toInt ≤ 2147483647) (iv_top _) (fun x37 i38 => ?_)
              refine tt_kv (P := fun z => ((-2147483648) : Int) ≤ z.toInt ∧ z.toInt ≤ 2147483647) (iv_top _) (fun x39 i40 => ?_)
              try unfold fM_digitsOf_93
              refine tt_kv (P := fun z => ((1 : Int) ≤ z.toInt ∧ z.toInt ≤ 1600) ∧ z.toInt = v5.toInt + 1) ⟨iv_add i7 (show (1 : Int) ≤ (1 : Int32).toInt ∧ (1 : Int32).toInt ≤ 1 by decide) (by decide) (by decide) (by decide) (by decide), iq_add i7 (show (1 : Int) ≤ (1 : Int32).toInt ∧ (1 : Int32).toInt ≤ 1 by decide) (by decide) (by decide)⟩ (fun x41 qi42 => ?_)
              obtain ⟨i42, ei42⟩ := qi42
              exact H _ _ _ _ _ k_o0 r_o0 i_v1 (iv_w (a := 0) (b := 1) (by decide) (by decide) (show (1 : Int) ≤ (1 : Int32).toInt ∧ (1 : Int32).toInt ≤ 1 by decide)) (iv_w (a := 0) (b := 1600) (by decide) (by decide) i42) f_o0_0 f_o0_5 f_o0_7 f_o0_79 f_o0_95 (show 0 + (1600 - x41.toInt) * 2 < (n : Int) by omega)
set_option maxHeartbeats 4000000 in
set_option maxRecDepth 100000 in
theorem hM_digitsOf (yv1 : Int32) (yv2 : Int32) (yo0 : cf_O) : ∀ n, HM_digitsOf yv1 yv2 yo0 n := by
  intro n
  induction n with
  | zero => exact (fun v1 v3 v4 v5 o0 k_o0 r_o0 i_v1 i_v3 i_v5 f_o0_0 f_o0_5 f_o0_7 f_o0_79 f_o0_95 hm => by exact absurd (show 0 + (1600 - v5.toInt) * 2 < (0 : Int) from hm) (by omega))
  | succ n ih => exact (fun v1 v3 v4 v5 o0 k_o0 r_o0 i_v1 i_v3 i_v5 f_o0_0 f_o0_5 f_o0_7 f_o0_79 f_o0_95 hm => tM_digitsOf_30 ih v1 v3 v4 v5 o0 k_o0 r_o0 i_v1 i_v3 i_v5 f_o0_0 f_o0_5 f_o0_7 f_o0_79 f_o0_95 (by omega))
set_option maxHeartbeats 4000000 in
set_option maxRecDepth 100000 in
theorem sM_digitsOf (v1 : Int32) (v2 : Int32) (o0 : cf_O) (k_o0 : okO I_M o0) (i_v1 : (2 : Int) ≤ v1.toInt ∧ v1.toInt ≤ 3) (i_v2 : (2 : Int) ≤ v2.toInt ∧ v2.toInt ≤ 3) (f_o0_0 : (0 : Int) ≤ (o0.1 0).toInt ∧ (o0.1 0).toInt ≤ 0) (f_o0_5 : (0 : Int) ≤ (o0.1 5).toInt ∧ (o0.1 5).toInt ≤ 0) (f_o0_7 : (5 : Int) ≤ (o0.1 7).toInt ∧ (o0.1 7).toInt ≤ 5) (f_o0_79 : (0 : Int) ≤ (o0.1 79).toInt ∧ (o0.1 79).toInt ≤ 11) (f_o0_95 : (0 : Int) ≤ (o0.1 95).toInt ∧ (o0.1 95).toInt ≤ 0) : tt (fM_digitsOf v1 v2 o0) (QM_digitsOf v1 v2 o0) := by
  have H := hM_digitsOf v1 v2 o0 cfFU
  have hm : (3203 : Int) ≤ (cfFU : Nat) := by decide
  have r_o0 : Fr (fr_M [] [] []) o0 o0 := fr_rfl
  unfold fM_digitsOf fM_digitsOf_0
  refine tt_n (ix_ok i_v1 (by decide) (by decide)) ?_
  refine tt_kv (P := fun z => (0 : Int) ≤ z.toInt ∧ z.toInt ≤ 1600) (k_o0.2 9 _) (fun x1 i2 => ?_)
  refine tt_n (ix_ok i_v1 (by decide) (by decide)) ?_
  refine tt_kv (P := fun z => (0 : Int) ≤ z.toInt ∧ z.toInt ≤ 1599) (k_o0.2 8 _) (fun x3 i4 => ?_)
  refine tt_kv (P := fun z => ((-1599) : Int) ≤ z.toInt ∧ z.toInt ≤ 1600) (iv_sub i2 i4 (by decide) (by decide) (by decide) (by decide)) (fun x5 i6 => ?_)
  try unfold fM_in
  try unfold fM_in_0
  refine tt_bif (fun c7 => ?_) (fun c7 => ?_)
  · have i8 : ((-1599) : Int) ≤ x5.toInt ∧ x5.toInt ≤ 0 := nr_ltl c7 i6 (show (1 : Int) ≤ (1 : Int32).toInt ∧ (1 : Int32).toInt ≤ 1 by decide) (by decide) (by decide)
    try unfold fM_in_14
    try unfold fM_in_15
    refine tt_bw (iv_b (show (0 : Int) ≤ (0 : Int32).toInt ∧ (0 : Int32).toInt ≤ 0 by decide) (by decide) (by decide)) ?_
    refine tt_bs ?_
    refine tt_n (ix_ok i_v1 (by decide) (by decide)) ?_
    refine tt_kv (P := fun z => (0 : Int) ≤ z.toInt ∧ z.toInt ≤ 1599) (k_o0.2 8 _) (fun x9 i10 => ?_)
    exact H _ _ _ _ _ k_o0 r_o0 i_v1 (iv_w (a := 0) (b := 1) (by decide) (by decide) (show (0 : Int) ≤ (0 : Int32).toInt ∧ (0 : Int32).toInt ≤ 0 by decide)) (iv_w (a := 0) (b := 1600) (by decide) (by decide) i10) f_o0_0 f_o0_5 f_o0_7 f_o0_79 f_o0_95 (show 0 + (1600 - x9.toInt) * 2 < ((cfFU : Nat) : Int) by omega)
  · have i11 : (1 : Int) ≤ x5.toInt ∧ x5.toInt ≤ 1600 := nr_nltr c7 (show (1 : Int) ≤ (1 : Int32).toInt ∧ (1 : Int32).toInt ≤ 1 by decide) i6 (by decide) (by decide)
    refine tt_bif (fun c12 => ?_) (fun c12 => ?_)
    · have i13 : (3 : Int) ≤ x5.toInt ∧ x5.toInt ≤ 1600 := nr_ltr c12 i_v2 i11 (by decide) (by decide)
      try unfold fM_in_14
      try unfold fM_in_15
      refine tt_bw (iv_b (show (0 : Int) ≤ (0 : Int32).toInt ∧ (0 : Int32).toInt ≤ 0 by decide) (by decide) (by decide)) ?_
      refine tt_bs ?_
      refine tt_n (ix_ok i_v1 (by decide) (by decide)) ?_
      refine tt_kv (P := fun z => (0 : Int) ≤ z.toInt ∧ z.toInt ≤ 1599) (k_o0.2 8 _) (fun x14 i15 => ?_)
      exact H _ _ _ _ _ k_o0 r_o0 i_v1 (iv_w (a := 0) (b := 1) (by decide) (by decide) (show (0 : Int) ≤ (0 : Int32).toInt ∧ (0 : Int32).toInt ≤ 0 by decide)) (iv_w (a := 0) (b := 1600) (by decide) (by decide) i15) f_o0_0 f_o0_5 f_o0_7 f_o0_79 f_o0_95 (show 0 + (1600 - x14.toInt) * 2 < ((cfFU : Nat) : Int) by omega)
    · have i16 : (1 : Int) ≤ x5.toInt ∧ x5.toInt ≤ 3 := nr_nltl c12 i11 i_v2 (by decide) (by decide)
      try unfold fM_in_15
      refine tt_bw (iv_b (show (1 : Int) ≤ (1 : Int32).toInt ∧ (1 : Int32).toInt ≤ 1 by decide) (by decide) (by decide)) ?_
      refine tt_bs ?_
      refine tt_n (ix_ok i_v1 (by decide) (by decide)) ?_
      refine tt_kv (P := fun z => (0 : Int) ≤ z.toInt ∧ z.toInt ≤ 1599) (k_o0.2 8 _) (fun x17 i18 => ?_)
      exact H _ _ _ _ _ k_o0 r_o0 i_v1 (iv_w (a := 0) (b := 1) (by decide) (by decide) (show (1 : Int) ≤ (1 : Int32).toInt ∧ (1 : Int32).toInt ≤ 1 by decide)) (iv_w (a := 0) (b := 1600) (by decide) (by decide) i18) f_o0_0 f_o0_5 f_o0_7 f_o0_79 f_o0_95 (show 0 + (1600 - x17.toInt) * 2 < ((cfFU : Nat) : Int) by omega)
def QM_pinsOf (v1 : Int32) (o0 : cf_O) (r : (Int32)) : Prop := ((0 : Int) ≤ r.toInt ∧ r.toInt ≤ 3) ∧ True
def HM_pinsOf (yv1 : Int32) (yo0 : cf_O) (n : Nat) : Prop := (∀ (v1 : Int32) (v2 : Int32) (v3 : Int32) (v4 : Int32) (o0 : cf_O), (okO I_M o0) → (Fr (fr_M [] [] []) yo0 o0) → ((4 : Int) ≤ v1.toInt ∧ v1.toInt ≤ 4) → (((-2147483648) : Int) ≤ v2.toInt ∧ v2.toInt ≤ 1600) → ((0 : Int) ≤ v3.toInt ∧ v3.toInt ≤ 1) → ((0 : Int) ≤ v4.toInt ∧ v4.toInt ≤ 1600) → ((0 : Int) ≤ (o0.1 0).toInt ∧ (o0.1 0).toInt ≤ 0) → ((0 : Int) ≤ (o0.1 5).toInt ∧ (o0.1 5).toInt ≤ 0) → ((5 : Int) ≤ (o0.1 7).toInt ∧ (o0.1 7).toInt ≤ 5) → ((0 : Int) ≤ (o0.1 79).toInt ∧ (o0.1 79).toInt ≤ 11) → ((0 : Int) ≤ (o0.1 95).toInt ∧ (o0.1 95).toInt ≤ 0) → 0 + (1600 - v4.toInt) * 2 < (n : Int) → tt (gM_pinsOf n 0 v1 v2 v3 v4 o0) (QM_pinsOf yv1 yo0))
set_option maxHeartbeats 4000000 in
set_option maxRecDepth 100000 in
theorem tM_pinsOf_44 {yv1 : Int32} {yo0 : cf_O} {n : Nat} (H : HM_pinsOf yv1 yo0 n) (v1 : Int32) (v2 : Int32) (v3 : Int32) (v4 : Int32) (o0 : cf_O) (k_o0 : okO I_M o0) (r_o0 : Fr (fr_M [] [] []) yo0 o0) (i_v1 : (4 : Int) ≤ v1.toInt ∧ v1.toInt ≤ 4) (i_v2 : ((-2147483648) : Int) ≤ v2.toInt ∧ v2.toInt ≤ 1600) (i_v3 : (0 : Int) ≤ v3.toInt ∧ v3.toInt ≤ 1) (i_v4 : (0 : Int) ≤ v4.toInt ∧ v4.toInt ≤ 1600) (f_o0_0 : (0 : Int) ≤ (o0.1 0).toInt ∧ (o0.1 0).toInt ≤ 0) (f_o0_5 : (0 : Int) ≤ (o0.1 5).toInt ∧ (o0.1 5).toInt ≤ 0) (f_o0_7 : (5 : Int) ≤ (o0.1 7).toInt ∧ (o0.1 7).toInt ≤ 5) (f_o0_79 : (0 : Int) ≤ (o0.1 79).toInt ∧ (o0.1 79).toInt ≤ 11) (f_o0_95 : (0 : Int) ≤ (o0.1 95).toInt ∧ (o0.1 95).toInt ≤ 0) (hm : 0 + (1600 - v4.toInt) * 2 ≤ (n : Int)) : tt (fM_pinsOf_44 (gM_pinsOf n) v1 v2 v3 v4 o0) (QM_pinsOf yv1 yo0) := by
  unfold fM_pinsOf_44
  refine tt_n (ix_ok i_v1 (by decide) (by decide)) ?_
  refine tt_kv (P := fun z => (0 : Int) ≤ z.toInt ∧ z.toInt ≤ 1600) (k_o0.2 9 _) (fun x1 i2 => ?_)
  refine tt_if (fun c3 => ?_) (fun c3 => ?_)
  · refine tt_if (fun c4 => ?_) (fun c4 => ?_)
    · have i5 : (0 : Int) ≤ v3.toInt ∧ v3.toInt ≤ 0 := nr_eql c4 i_v3 (show (0 : Int) ≤ (0 : Int32).toInt ∧ (0 : Int32).toInt ≤ 0 by decide) (by decide) (by decide)
      try unfold fM_pinsOf_122
      exact tt_some ⟨(iv_w (a := 0) (b := 3) (by decide) (by decide) (show (0 : Int) ≤ (0 : Int32).toInt ∧ (0 : Int32).toInt ≤ 0 by decide)), trivial⟩
    · have i6 : (1 : Int) ≤ v3.toInt ∧ v3.toInt ≤ 1 := nr_nela c4 i_v3 (show (0 : Int) ≤ (0 : Int32).toInt ∧ (0 : Int32).toInt ≤ 0 by decide) (by decide) (by decide)
      refine tt_if (fun c7 => ?_) (fun c7 => ?_)
      · have i8 : (2 : Int) ≤ v2.toInt ∧ v2.toInt ≤ 2 := nr_eql c7 i_v2 (show (2 : Int) ≤ (2 : Int32).toInt ∧ (2 : Int32).toInt ≤ 2 by decide) (by decide) (by decide)
        try unfold fM_pinsOf_122
        exact tt_some ⟨(iv_w (a := 0) (b := 3) (by decide) (by decide) (show (1 : Int) ≤ (1 : Int32).toInt ∧ (1 : Int32).toInt ≤ 1 by decide)), trivial⟩
      · refine tt_if (fun c9 => ?_) (fun c9 => ?_)
        · have i10 : (4 : Int) ≤ v2.toInt ∧ v2.toInt ≤ 4 := nr_eql c9 i_v2 (show (4 : Int) ≤ (4 : Int32).toInt ∧ (4 : Int32).toInt ≤ 4 by decide) (by decide) (by decide)
          try unfold fM_pinsOf_122
          exact tt_some ⟨(iv_w (a := 0) (b := 3) (by decide) (by decide) (show (2 : Int) ≤ (2 : Int32).toInt ∧ (2 : Int32).toInt ≤ 2 by decide)), trivial⟩
        · try unfold fM_pinsOf_122
          exact tt_some ⟨(iv_w (a := 0) (b := 3) (by decide) (by decide) (show (3 : Int) ≤ (3 : Int32).toInt ∧ (3 : Int32).toInt ≤ 3 by decide)), trivial⟩
  · have i11 : (0 : Int) ≤ v4.toInt ∧ v4.toInt ≤ 1599 := nr_nlel c3 i_v4 i2 (by decide) (by decide)
    have i12 : (1 : Int) ≤ x1.toInt ∧ x1.toInt ≤ 1600 := nr_nler c3 i_v4 i2 (by decide) (by decide)
    refine tt_if (fun c13 => ?_) (fun c13 => ?_)
    · have i14 : (0 : Int) ≤ v3.toInt ∧ v3.toInt ≤ 0 := nr_eql c13 i_v3 (show (0 : Int) ≤ (0 : Int32).toInt ∧ (0 : Int32).toInt ≤ 0 by decide) (by decide) (by decide)
      try unfold fM_pinsOf_87
      try unfold fM_pinsOf_88
      refine tt_kv (P := fun z => ((1 : Int) ≤ z.toInt ∧ z.toInt ≤ 1600) ∧ z.toInt = v4.toInt + 1) ⟨iv_add i11 (show (1 : Int) ≤ (1 : Int32).toInt ∧ (1 : Int32).toInt ≤ 1 by decide) (by decide) (by decide) (by decide) (by decide), iq_add i11 (show (1 : Int) ≤ (1 : Int32).toInt ∧ (1 : Int32).toInt ≤ 1 by decide) (by decide) (by decide)⟩ (fun x15 qi16 => ?_)
      obtain ⟨i16, ei16⟩ := qi16
      exact H _ _ _ _ _ k_o0 r_o0 i_v1 i_v2 (iv_w (a := 0) (b := 1) (by decide) (by decide) (show (0 : Int) ≤ (0 : Int32).toInt ∧ (0 : Int32).toInt ≤ 0 by decide)) (iv_w (a := 0) (b := 1600) (by decide) (by decide) i16) f_o0_0 f_o0_5 f_o0_7 f_o0_79 f_o0_95 (show 0 + (1600 - x15.toInt) * 2 < (n : Int) by omega)
    · have i17 : (1 : Int) ≤ v3.toInt ∧ v3.toInt ≤ 1 := nr_nela c13 i_v3 (show (0 : Int) ≤ (0 : Int32).toInt ∧ (0 : Int32).toInt ≤ 0 by decide) (by decide) (by decide)
      refine tt_n (ix_ok i11 (by decide) (by decide)) ?_
      refine tt_kv (P := fun z => (0 : Int) ≤ z.toInt ∧ z.toInt ≤ 255) (k_o0.2 1 _) (fun x18 i19 => ?_)
      refine tt_if (fun c20 => ?_) (fun c20 => ?_)
      · have i21 : (48 : Int) ≤ x18.toInt ∧ x18.toInt ≤ 48 := nr_eql c20 i19 (show (48 : Int) ≤ (48 : Int32).toInt ∧ (48 : Int32).toInt ≤ 48 by decide) (by decide) (by decide)
        try unfold fM_pinsOf_83
        try unfold fM_pinsOf_88
        refine tt_kv (P := fun z => ((1 : Int) ≤ z.toInt ∧ z.toInt ≤ 1600) ∧ z.toInt = v4.toInt + 1) ⟨iv_add i11 (show (1 : Int) ≤ (1 : Int32).toInt ∧ (1 : Int32).toInt ≤ 1 by decide) (by decide) (by decide) (by decide) (by decide), iq_add i11 (show (1 : Int) ≤ (1 : Int32).toInt ∧ (1 : Int32).toInt ≤ 1 by decide) (by decide) (by decide)⟩ (fun x22 qi23 => ?_)
        obtain ⟨i23, ei23⟩ := qi23
        exact H _ _ _ _ _ k_o0 r_o0 i_v1 i_v2 (iv_w (a := 0) (b := 1) (by decide) (by decide) (show (1 : Int) ≤ (1 : Int32).toInt ∧ (1 : Int32).toInt ≤ 1 by decide)) (iv_w (a := 0) (b := 1600) (by decide) (by decide) i23) f_o0_0 f_o0_5 f_o0_7 f_o0_79 f_o0_95 (show 0 + (1600 - x22.toInt) * 2 < (n : Int) by omega)
      · refine tt_n (ix_ok i11 (by decide) (by decide)) ?_
        refine tt_kv (P := fun z => (0 : Int) ≤ z.toInt ∧ z.toInt ≤ 255) (k_o0.2 1 _) (fun x24 i25 => ?_)
        refine tt_if (fun c26 => ?_) (fun c26 => ?_)
        · have i27 : (49 : Int) ≤ x24.toInt ∧ x24.toInt ≤ 49 := nr_eql c26 i25 (show (49 : Int) ≤ (49 : Int32).toInt ∧ (49 : Int32).toInt ≤ 49 by decide) (by decide) (by decide)
          try unfold fM_pinsOf_83
          try unfold fM_pinsOf_88
          refine tt_kv (P := fun z => ((1 : Int) ≤ z.toInt ∧ z.toInt ≤ 1600) ∧ z.toInt = v4.toInt + 1) ⟨iv_add i11 (show (1 : Int) ≤ (1 : Int32).toInt ∧ (1 : Int32).toInt ≤ 1 by decide) (by decide) (by decide) (by decide) (by decide), iq_add i11 (show (1 : Int) ≤ (1 : Int32).toInt ∧ (1 : Int32).toInt ≤ 1 by decide) (by decide) (by decide)⟩ (fun x28 qi29 => ?_)
          obtain ⟨i29, ei29⟩ := qi29
          exact H _ _ _ _ _ k_o0 r_o0 i_v1 i_v2 (iv_w (a := 0) (b := 1) (by decide) (by decide) (show (1 : Int) ≤ (1 : Int32).toInt ∧ (1 : Int32).toInt ≤ 1 by decide)) (iv_w (a := 0) (b := 1600) (by decide) (by decide) i29) f_o0_0 f_o0_5 f_o0_7 f_o0_79 f_o0_95 (show 0 + (1600 - x28.toInt) * 2 < (n : Int) by omega)
        · try unfold fM_pinsOf_87
          try unfold fM_pinsOf_88
          refine tt_kv (P := fun z => ((1 : Int) ≤ z.toInt ∧ z.toInt ≤ 1600) ∧ z.toInt = v4.toInt + 1) ⟨iv_add i11 (show (1 : Int) ≤ (1 : Int32).toInt ∧ (1 : Int32).toInt ≤ 1 by decide) (by decide) (by decide) (by decide) (by decide), iq_add i11 (show (1 : Int) ≤ (1 : Int32).toInt ∧ (1 : Int32).toInt ≤ 1 by decide) (by decide) (by decide)⟩ (fun x30 qi31 => ?_)
          obtain ⟨i31, ei31⟩ := qi31
          exact H _ _ _ _ _ k_o0 r_o0 i_v1 i_v2 (iv_w (a := 0) (b := 1) (by decide) (by decide) (show (0 : Int) ≤ (0 : Int32).toInt ∧ (0 : Int32).toInt ≤ 0 by decide)) (iv_w (a := 0) (b := 1600) (by decide) (by decide) i31) f_o0_0 f_o0_5 f_o0_7 f_o0_79 f_o0_95 (show 0 + (1600 - x30.toInt) * 2 < (n : Int) by omega)
set_option maxHeartbeats 4000000 in
set_option maxRecDepth 100000 in
theorem hM_pinsOf (yv1 : Int32) (yo0 : cf_O) : ∀ n, HM_pinsOf yv1 yo0 n := by
  intro n
  induction n with
  | zero => exact (fun v1 v2 v3 v4 o0 k_o0 r_o0 i_v1 i_v2 i_v3 i_v4 f_o0_0 f_o0_5 f_o0_7 f_o0_79 f_o0_95 hm => by exact absurd (show 0 + (1600 - v4.toInt) * 2 < (0 : Int) from hm) (by omega))
  | succ n ih => exact (fun v1 v2 v3 v4 o0 k_o0 r_o0 i_v1 i_v2 i_v3 i_v4 f_o0_0 f_o0_5 f_o0_7 f_o0_79 f_o0_95 hm => tM_pinsOf_44 ih v1 v2 v3 v4 o0 k_o0 r_o0 i_v1 i_v2 i_v3 i_v4 f_o0_0 f_o0_5 f_o0_7 f_o0_79 f_o0_95 (by omega))
set_option maxHeartbeats 4000000 in
set_option maxRecDepth 100000 in
theorem sM_pinsOf (v1 : Int32) (o0 : cf_O) (k_o0 : okO I_M o0) (i_v1 : (4 : Int) ≤ v1.toInt ∧ v1.toInt ≤ 4) (f_o0_0 : (0 : Int) ≤ (o0.1 0).toInt ∧ (o0.1 0).toInt ≤ 0) (f_o0_5 : (0 : Int) ≤ (o0.1 5).toInt ∧ (o0.1 5).toInt ≤ 0) (f_o0_7 : (5 : Int) ≤ (o0.1 7).toInt ∧ (o0.1 7).toInt ≤ 5) (f_o0_79 : (0 : Int) ≤ (o0.1 79).toInt ∧ (o0.1 79).toInt ≤ 11) (f_o0_95 : (0 : Int) ≤ (o0.1 95).toInt ∧ (o0.1 95).toInt ≤ 0) : tt (fM_pinsOf v1 o0) (QM_pinsOf v1 o0) := by
  have H := hM_pinsOf v1 o0 cfFU
  have hm : (3203 : Int) ≤ (cfFU : Nat) := by decide
  have r_o0 : Fr (fr_M [] [] []) o0 o0 := fr_rfl
  unfold fM_pinsOf fM_pinsOf_0
  refine tt_n (ix_ok i_v1 (by decide) (by decide)) ?_
  refine tt_kv (P := fun z => (0 : Int) ≤ z.toInt ∧ z.toInt ≤ 1600) (k_o0.2 9 _) (fun x1 i2 => ?_)
  refine tt_n (ix_ok i_v1 (by decide) (by decide)) ?_
  refine tt_kv (P := fun z => (0 : Int) ≤ z.toInt ∧ z.toInt ≤ 1599) (k_o0.2 8 _) (fun x3 i4 => ?_)
  refine tt_kv (P := fun z => ((-1599) : Int) ≤ z.toInt ∧ z.toInt ≤ 1600) (iv_sub i2 i4 (by decide) (by decide) (by decide) (by decide)) (fun x5 i6 => ?_)
  refine tt_if (fun c7 => ?_) (fun c7 => ?_)
  · have i8 : (2 : Int) ≤ x5.toInt ∧ x5.toInt ≤ 2 := nr_eql c7 i6 (show (2 : Int) ≤ (2 : Int32).toInt ∧ (2 : Int32).toInt ≤ 2 by decide) (by decide) (by decide)
    try unfold fM_pinsOf_30
    try unfold fM_pinsOf_35
    refine tt_n (ix_ok i_v1 (by decide) (by decide)) ?_
    refine tt_kv (P := fun z => (0 : Int) ≤ z.toInt ∧ z.toInt ≤ 1599) (k_o0.2 8 _) (fun x9 i10 => ?_)
    exact H _ _ _ _ _ k_o0 r_o0 i_v1 (iv_w (a := (-2147483648)) (b := 1600) (by decide) (by decide) i8) (iv_w (a := 0) (b := 1) (by decide) (by decide) (show (1 : Int) ≤ (1 : Int32).toInt ∧ (1 : Int32).toInt ≤ 1 by decide)) (iv_w (a := 0) (b := 1600) (by decide) (by decide) i10) f_o0_0 f_o0_5 f_o0_7 f_o0_79 f_o0_95 (show 0 + (1600 - x9.toInt) * 2 < ((cfFU : Nat) : Int) by omega)
  · refine tt_if (fun c11 => ?_) (fun c11 => ?_)
    · have i12 : (4 : Int) ≤ x5.toInt ∧ x5.toInt ≤ 4 := nr_eql c11 i6 (show (4 : Int) ≤ (4 : Int32).toInt ∧ (4 : Int32).toInt ≤ 4 by decide) (by decide) (by decide)
      try unfold fM_pinsOf_30
      try unfold fM_pinsOf_35
      refine tt_n (ix_ok i_v1 (by decide) (by decide)) ?_
      refine tt_kv (P := fun z => (0 : Int) ≤ z.toInt ∧ z.toInt ≤ 1599) (k_o0.2 8 _) (fun x13 i14 => ?_)
      exact H _ _ _ _ _ k_o0 r_o0 i_v1 (iv_w (a := (-2147483648)) (b := 1600) (by decide) (by decide) i12) (iv_w (a := 0) (b := 1) (by decide) (by decide) (show (1 : Int) ≤ (1 : Int32).toInt ∧ (1 : Int32).toInt ≤ 1 by decide)) (iv_w (a := 0) (b := 1600) (by decide) (by decide) i14) f_o0_0 f_o0_5 f_o0_7 f_o0_79 f_o0_95 (show 0 + (1600 - x13.toInt) * 2 < ((cfFU : Nat) : Int) by omega)
    · refine tt_if (fun c15 => ?_) (fun c15 => ?_)
      · have i16 : (8 : Int) ≤ x5.toInt ∧ x5.toInt ≤ 8 := nr_eql c15 i6 (show (8 : Int) ≤ (8 : Int32).toInt ∧ (8 : Int32).toInt ≤ 8 by decide) (by decide) (by decide)
        try unfold fM_pinsOf_30
        try unfold fM_pinsOf_35
        refine tt_n (ix_ok i_v1 (by decide) (by decide)) ?_
        refine tt_kv (P := fun z => (0 : Int) ≤ z.toInt ∧ z.toInt ≤ 1599) (k_o0.2 8 _) (fun x17 i18 => ?_)
        exact H _ _ _ _ _ k_o0 r_o0 i_v1 (iv_w (a := (-2147483648)) (b := 1600) (by decide) (by decide) i16) (iv_w (a := 0) (b := 1) (by decide) (by decide) (show (1 : Int) ≤ (1 : Int32).toInt ∧ (1 : Int32).toInt ≤ 1 by decide)) (iv_w (a := 0) (b := 1600) (by decide) (by decide) i18) f_o0_0 f_o0_5 f_o0_7 f_o0_79 f_o0_95 (show 0 + (1600 - x17.toInt) * 2 < ((cfFU : Nat) : Int) by omega)
      · try unfold fM_pinsOf_35
        refine tt_n (ix_ok i_v1 (by decide) (by decide)) ?_
        refine tt_kv (P := fun z => (0 : Int) ≤ z.toInt ∧ z.toInt ≤ 1599) (k_o0.2 8 _) (fun x19 i20 => ?_)
        exact H _ _ _ _ _ k_o0 r_o0 i_v1 (iv_w (a := (-2147483648)) (b := 1600) (by decide) (by decide) i6) (iv_w (a := 0) (b := 1) (by decide) (by decide) (show (0 : Int) ≤ (0 : Int32).toInt ∧ (0 : Int32).toInt ≤ 0 by decide)) (iv_w (a := 0) (b := 1600) (by decide) (by decide) i20) f_o0_0 f_o0_5 f_o0_7 f_o0_79 f_o0_95 (show 0 + (1600 - x19.toInt) * 2 < ((cfFU : Nat) : Int) by omega)
def QM_isCellWord (o0 : cf_O) (r : (Int32)) : Prop := ((0 : Int) ≤ r.toInt ∧ r.toInt ≤ 1) ∧ True
set_option maxHeartbeats 4000000 in
set_option maxRecDepth 100000 in
theorem sM_isCellWord (o0 : cf_O) (k_o0 : okO I_M o0) (f_o0_0 : (0 : Int) ≤ (o0.1 0).toInt ∧ (o0.1 0).toInt ≤ 0) (f_o0_5 : (0 : Int) ≤ (o0.1 5).toInt ∧ (o0.1 5).toInt ≤ 0) (f_o0_7 : (5 : Int) ≤ (o0.1 7).toInt ∧ (o0.1 7).toInt ≤ 5) (f_o0_95 : (0 : Int) ≤ (o0.1 95).toInt ∧ (o0.1 95).toInt ≤ 0) : tt (fM_isCellWord o0) (QM_isCellWord o0) := by
  have r_o0 : Fr (fr_M [] [] []) o0 o0 := fr_rfl
  unfold fM_isCellWord fM_isCellWord_0
  refine tt_n (ix_ok (show (0 : Int) ≤ (0 : Int32).toInt ∧ (0 : Int32).toInt ≤ 0 by decide) (by decide) (by decide)) ?_
  refine tt_kv (P := fun z => ((0 : Int) ≤ z.toInt ∧ z.toInt ≤ 1599) ∧ z.toInt = (o0.2.1 8 (0 : Int32).toNatClampNeg).toInt) ⟨(k_o0.2 8 _), rfl⟩ (fun x1 qi2 => ?_)
  obtain ⟨i2, ei2⟩ := qi2
  refine tt_n (ix_ok (show (0 : Int) ≤ (0 : Int32).toInt ∧ (0 : Int32).toInt ≤ 0 by decide) (by decide) (by decide)) ?_
  refine tt_kv (P := fun z => ((0 : Int) ≤ z.toInt ∧ z.toInt ≤ 1600) ∧ z.toInt = (o0.2.1 9 (0 : Int32).toNatClampNeg).toInt) ⟨(k_o0.2 9 _), rfl⟩ (fun x3 qi4 => ?_)
  obtain ⟨i4, ei4⟩ := qi4
  refine tt_kv (P := fun z => (((-1599) : Int) ≤ z.toInt ∧ z.toInt ≤ 1600) ∧ z.toInt = x3.toInt - x1.toInt) ⟨iv_sub i4 i2 (by decide) (by decide) (by decide) (by decide), iq_sub i4 i2 (by decide) (by decide)⟩ (fun x5 qi6 => ?_)
  obtain ⟨i6, ei6⟩ := qi6
  refine tt_if (fun c7 => ?_) (fun c7 => ?_)
  · have wc7 : x5.toInt = (4 : Int) := c_eq c7
    have i8 : (4 : Int) ≤ x5.toInt ∧ x5.toInt ≤ 4 := nr_eql c7 i6 (show (4 : Int) ≤ (4 : Int32).toInt ∧ (4 : Int32).toInt ≤ 4 by decide) (by decide) (by decide)
    refine tt_n (ix_ok i2 (by decide) (by decide)) ?_
    refine tt_kv (P := fun z => ((0 : Int) ≤ z.toInt ∧ z.toInt ≤ 255) ∧ z.toInt = (o0.2.1 1 x1.toNatClampNeg).toInt) ⟨(k_o0.2 1 _), rfl⟩ (fun x9 qi10 => ?_)
    obtain ⟨i10, ei10⟩ := qi10
    refine tt_if (fun c11 => ?_) (fun c11 => ?_)
    · have wc11 : x9.toInt = (99 : Int) := c_eq c11
      have i12 : (99 : Int) ≤ x9.toInt ∧ x9.toInt ≤ 99 := nr_eql c11 i10 (show (99 : Int) ≤ (99 : Int32).toInt ∧ (99 : Int32).toInt ≤ 99 by decide) (by decide) (by decide)
      refine tt_kv (P := fun z => ((1 : Int) ≤ z.toInt ∧ z.toInt ≤ 1600) ∧ z.toInt = x1.toInt + 1) ⟨iv_add i2 (show (1 : Int) ≤ (1 : Int32).toInt ∧ (1 : Int32).toInt ≤ 1 by decide) (by decide) (by decide) (by decide) (by decide), iq_add i2 (show (1 : Int) ≤ (1 : Int32).toInt ∧ (1 : Int32).toInt ≤ 1 by decide) (by decide) (by decide)⟩ (fun x13 qi14 => ?_)
      obtain ⟨i14, ei14⟩ := qi14
      refine tt_n (ix_rel (by omega) (by omega)) ?_
      have i15 : (1 : Int) ≤ x13.toInt ∧ x13.toInt ≤ 1599 := (by omega)
      have i16 : (0 : Int) ≤ x1.toInt ∧ x1.toInt ≤ 1598 := by omega
      refine tt_kv (P := fun z => ((0 : Int) ≤ z.toInt ∧ z.toInt ≤ 255) ∧ z.toInt = (o0.2.1 1 x13.toNatClampNeg).toInt) ⟨(k_o0.2 1 _), rfl⟩ (fun x17 qi18 => ?_)
      obtain ⟨i18, ei18⟩ := qi18
      refine tt_if (fun c19 => ?_) (fun c19 => ?_)
      · have wc19 : x17.toInt = (101 : Int) := c_eq c19
        have i20 : (101 : Int) ≤ x17.toInt ∧ x17.toInt ≤ 101 := nr_eql c19 i18 (show (101 : Int) ≤ (101 : Int32).toInt ∧ (101 : Int32).toInt ≤ 101 by decide) (by decide) (by decide)
        refine tt_kv (P := fun z => ((2 : Int) ≤ z.toInt ∧ z.toInt ≤ 1600) ∧ z.toInt = x1.toInt + 2) ⟨iv_add i16 (show (2 : Int) ≤ (2 : Int32).toInt ∧ (2 : Int32).toInt ≤ 2 by decide) (by decide) (by decide) (by decide) (by decide), iq_add i16 (show (2 : Int) ≤ (2 : Int32).toInt ∧ (2 : Int32).toInt ≤ 2 by decide) (by decide) (by decide)⟩ (fun x21 qi22 => ?_)
        obtain ⟨i22, ei22⟩ := qi22
        refine tt_n (ix_rel (by omega) (by omega)) ?_
        have i23 : (2 : Int) ≤ x21.toInt ∧ x21.toInt ≤ 1599 := (by omega)
        have i24 : (0 : Int) ≤ x1.toInt ∧ x1.toInt ≤ 1597 := by omega
        refine tt_kv (P := fun z => ((0 : Int) ≤ z.toInt ∧ z.toInt ≤ 255) ∧ z.toInt = (o0.2.1 1 x21.toNatClampNeg).toInt) ⟨(k_o0.2 1 _), rfl⟩ (fun x25 qi26 => ?_)
        obtain ⟨i26, ei26⟩ := qi26
        refine tt_if (fun c27 => ?_) (fun c27 => ?_)
        · have wc27 : x25.toInt = (108 : Int) := c_eq c27
          have i28 : (108 : Int) ≤ x25.toInt ∧ x25.toInt ≤ 108 := nr_eql c27 i26 (show (108 : Int) ≤ (108 : Int32).toInt ∧ (108 : Int32).toInt ≤ 108 by decide) (by decide) (by decide)
          refine tt_kv (P := fun z => ((3 : Int) ≤ z.toInt ∧ z.toInt ≤ 1600) ∧ z.toInt = x1.toInt + 3) ⟨iv_add i24 (show (3 : Int) ≤ (3 : Int32).toInt ∧ (3 : Int32).toInt ≤ 3 by decide) (by decide) (by decide) (by decide) (by decide), iq_add i24 (show (3 : Int) ≤ (3 : Int32).toInt ∧ (3 : Int32).toInt ≤ 3 by decide) (by decide) (by decide)⟩ (fun x29 qi30 => ?_)
          obtain ⟨i30, ei30⟩ := qi30
          refine tt_n (ix_rel (by omega) (by omega)) ?_
          have i31 : (3 : Int) ≤ x29.toInt ∧ x29.toInt ≤ 1599 := (by omega)
          have i32 : (0 : Int) ≤ x1.toInt ∧ x1.toInt ≤ 1596 := by omega
          refine tt_kv (P := fun z => ((0 : Int) ≤ z.toInt ∧ z.toInt ≤ 255) ∧ z.toInt = (o0.2.1 1 x29.toNatClampNeg).toInt) ⟨(k_o0.2 1 _), rfl⟩ (fun x33 qi34 => ?_)
          obtain ⟨i34, ei34⟩ := qi34
          refine tt_if (fun c35 => ?_) (fun c35 => ?_)
          · have wc35 : x33.toInt = (108 : Int) := c_eq c35
            have i36 : (108 : Int) ≤ x33.toInt ∧ x33.toInt ≤ 108 := nr_eql c35 i34 (show (108 : Int) ≤ (108 : Int32).toInt ∧ (108 : Int32).toInt ≤ 108 by decide) (by decide) (by decide)
            try unfold fM_isCellWord_74
            refine tt_w (iv_b (show (1 : Int) ≤ (1 : Int32).toInt ∧ (1 : Int32).toInt ≤ 1 by decide) (by decide) (by decide)) ?_
            exact tt_some ⟨(iv_w (a := 0) (b := 1) (by decide) (by decide) (show (1 : Int) ≤ (1 : Int32).toInt ∧ (1 : Int32).toInt ≤ 1 by decide)), trivial⟩
          · have wc35 : ¬ x33.toInt = (108 : Int) := c_ne c35
            try unfold fM_isCellWord_73
            try unfold fM_isCellWord_74
            refine tt_w (iv_b (show (0 : Int) ≤ (0 : Int32).toInt ∧ (0 : Int32).toInt ≤ 0 by decide) (by decide) (by decide)) ?_
            exact tt_some ⟨(iv_w (a := 0) (b := 1) (by decide) (by decide) (show (0 : Int) ≤ (0 : Int32).toInt ∧ (0 : Int32).toInt ≤ 0 by decide)), trivial⟩
        · have wc27 : ¬ x25.toInt = (108 : Int) := c_ne c27
          try unfold fM_isCellWord_73
          try unfold fM_isCellWord_74
          refine tt_w (iv_b (show (0 : Int) ≤ (0 : Int32).toInt ∧ (0 : Int32).toInt ≤ 0 by decide) (by decide) (by decide)) ?_
          exact tt_some ⟨(iv_w (a := 0) (b := 1) (by decide) (by decide) (show (0 : Int) ≤ (0 : Int32).toInt ∧ (0 : Int32).toInt ≤ 0 by decide)), trivial⟩
      · have wc19 : ¬ x17.toInt = (101 : Int) := c_ne c19
        try unfold fM_isCellWord_73
        try unfold fM_isCellWord_74
        refine tt_w (iv_b (show (0 : Int) ≤ (0 : Int32).toInt ∧ (0 : Int32).toInt ≤ 0 by decide) (by decide) (by decide)) ?_
        exact tt_some ⟨(iv_w (a := 0) (b := 1) (by decide) (by decide) (show (0 : Int) ≤ (0 : Int32).toInt ∧ (0 : Int32).toInt ≤ 0 by decide)), trivial⟩
    · have wc11 : ¬ x9.toInt = (99 : Int) := c_ne c11
      try unfold fM_isCellWord_73
      try unfold fM_isCellWord_74
      refine tt_w (iv_b (show (0 : Int) ≤ (0 : Int32).toInt ∧ (0 : Int32).toInt ≤ 0 by decide) (by decide) (by decide)) ?_
      exact tt_some ⟨(iv_w (a := 0) (b := 1) (by decide) (by decide) (show (0 : Int) ≤ (0 : Int32).toInt ∧ (0 : Int32).toInt ≤ 0 by decide)), trivial⟩
  · have wc7 : ¬ x5.toInt = (4 : Int) := c_ne c7
    try unfold fM_isCellWord_73
    try unfold fM_isCellWord_74
    refine tt_w (iv_b (show (0 : Int) ≤ (0 : Int32).toInt ∧ (0 : Int32).toInt ≤ 0 by decide) (by decide) (by decide)) ?_
    exact tt_some ⟨(iv_w (a := 0) (b := 1) (by decide) (by decide) (show (0 : Int) ≤ (0 : Int32).toInt ∧ (0 : Int32).toInt ≤ 0 by decide)), trivial⟩
def QM_isTaken (v1 : Int32) (o0 : cf_O) (r : (Int32)) : Prop := ((0 : Int) ≤ r.toInt ∧ r.toInt ≤ 1) ∧ True
def HM_isTaken (yv1 : Int32) (yo0 : cf_O) (n : Nat) : Prop := (∀ (v1 : Int32) (v2 : Int32) (v3 : Int32) (o0 : cf_O), (okO I_M o0) → (Fr (fr_M [] [] []) yo0 o0) → ((1 : Int) ≤ v1.toInt ∧ v1.toInt ≤ 1) → ((0 : Int) ≤ v2.toInt ∧ v2.toInt ≤ 1) → ((0 : Int) ≤ v3.toInt ∧ v3.toInt ≤ 11) → ((0 : Int) ≤ (o0.1 0).toInt ∧ (o0.1 0).toInt ≤ 0) → ((0 : Int) ≤ (o0.1 5).toInt ∧ (o0.1 5).toInt ≤ 0) → ((5 : Int) ≤ (o0.1 7).toInt ∧ (o0.1 7).toInt ≤ 5) → ((0 : Int) ≤ (o0.1 79).toInt ∧ (o0.1 79).toInt ≤ 11) → ((0 : Int) ≤ (o0.1 95).toInt ∧ (o0.1 95).toInt ≤ 0) → 0 + (11 - v3.toInt) * 20 < (n : Int) → tt (gM_isTaken n 0 v1 v2 v3 0 0 o0) (QM_isTaken yv1 yo0)) ∧ (∀ (v1 : Int32) (v2 : Int32) (v3 : Int32) (v4 : Int32) (v5 : Int32) (o0 : cf_O), (okO I_M o0) → (Fr (fr_M [] [] []) yo0 o0) → ((1 : Int) ≤ v1.toInt ∧ v1.toInt ≤ 1) → ((0 : Int) ≤ v2.toInt ∧ v2.toInt ≤ 1) → ((0 : Int) ≤ v3.toInt ∧ v3.toInt ≤ 10) → ((0 : Int) ≤ v4.toInt ∧ v4.toInt ≤ 1) → ((0 : Int) ≤ v5.toInt ∧ v5.toInt ≤ 8) → ((0 : Int) ≤ (o0.1 0).toInt ∧ (o0.1 0).toInt ≤ 0) → ((0 : Int) ≤ (o0.1 5).toInt ∧ (o0.1 5).toInt ≤ 0) → ((5 : Int) ≤ (o0.1 7).toInt ∧ (o0.1 7).toInt ≤ 5) → ((1 : Int) ≤ (o0.1 79).toInt ∧ (o0.1 79).toInt ≤ 11) → ((0 : Int) ≤ (o0.1 95).toInt ∧ (o0.1 95).toInt ≤ 0) → 0 + (11 - v3.toInt - 1) * 20 + 1 + (8 - v5.toInt) * 2 < (n : Int) → tt (gM_isTaken n 1 v1 v2 v3 v4 v5 o0) (QM_isTaken yv1 yo0))
set_option maxHeartbeats 4000000 in
set_option maxRecDepth 100000 in
theorem tM_isTaken_18 {yv1 : Int32} {yo0 : cf_O} {n : Nat} (H : HM_isTaken yv1 yo0 n) (v1 : Int32) (v2 : Int32) (v3 : Int32) (v4 : Int32) (v5 : Int32) (o0 : cf_O) (k_o0 : okO I_M o0) (r_o0 : Fr (fr_M [] [] []) yo0 o0) (i_v1 : (1 : Int) ≤ v1.toInt ∧ v1.toInt ≤ 1) (i_v2 : (0 : Int) ≤ v2.toInt ∧ v2.toInt ≤ 1) (i_v3 : (0 : Int) ≤ v3.toInt ∧ v3.toInt ≤ 10) (i_v4 : (0 : Int) ≤ v4.toInt ∧ v4.toInt ≤ 1) (i_v5 : (0 : Int) ≤ v5.toInt ∧ v5.toInt ≤ 8) (f_o0_0 : (0 : Int) ≤ (o0.1 0).toInt ∧ (o0.1 0).toInt ≤ 0) (f_o0_5 : (0 : Int) ≤ (o0.1 5).toInt ∧ (o0.1 5).toInt ≤ 0) (f_o0_7 : (5 : Int) ≤ (o0.1 7).toInt ∧ (o0.1 7).toInt ≤ 5) (f_o0_79 : (1 : Int) ≤ (o0.1 79).toInt ∧ (o0.1 79).toInt ≤ 11) (f_o0_95 : (0 : Int) ≤ (o0.1 95).toInt ∧ (o0.1 95).toInt ≤ 0) (hm : 0 + (11 - v3.toInt - 1) * 20 + 1 + (8 - v5.toInt) * 2 ≤ (n : Int)) : tt (fM_isTaken_18 (gM_isTaken n) v1 v2 v3 v4 v5 o0) (QM_isTaken yv1 yo0) := by
  unfold fM_isTaken_18
  refine tt_if (fun c1 => ?_) (fun c1 => ?_)
  · have wc1 : (8 : Int) ≤ v5.toInt := c_le c1
    have i2 : (8 : Int) ≤ v5.toInt ∧ v5.toInt ≤ 8 := nr_ler c1 (show (8 : Int) ≤ (8 : Int32).toInt ∧ (8 : Int32).toInt ≤ 8 by decide) i_v5 (by decide) (by decide)
    refine tt_if (fun c3 => ?_) (fun c3 => ?_)
    · have wc3 : v2.toInt = (0 : Int) := c_eq c3
      have i4 : (0 : Int) ≤ v2.toInt ∧ v2.toInt ≤ 0 := nr_eql c3 i_v2 (show (0 : Int) ≤ (0 : Int32).toInt ∧ (0 : Int32).toInt ≤ 0 by decide) (by decide) (by decide)
      refine tt_if (fun c5 => ?_) (fun c5 => ?_)
      · have wc5 : v4.toInt = (0 : Int) := c_eq c5
        have i6 : (0 : Int) ≤ v4.toInt ∧ v4.toInt ≤ 0 := nr_eql c5 i_v4 (show (0 : Int) ≤ (0 : Int32).toInt ∧ (0 : Int32).toInt ≤ 0 by decide) (by decide) (by decide)
        try unfold fM_isTaken_108
        refine tt_kv (P := fun z => ((1 : Int) ≤ z.toInt ∧ z.toInt ≤ 11) ∧ z.toInt = v3.toInt + 1) ⟨iv_add i_v3 (show (1 : Int) ≤ (1 : Int32).toInt ∧ (1 : Int32).toInt ≤ 1 by decide) (by decide) (by decide) (by decide) (by decide), iq_add i_v3 (show (1 : Int) ≤ (1 : Int32).toInt ∧ (1 : Int32).toInt ≤ 1 by decide) (by decide) (by decide)⟩ (fun x7 qi8 => ?_)
        obtain ⟨i8, ei8⟩ := qi8
        exact H.1 _ _ _ _ k_o0 r_o0 i_v1 (iv_w (a := 0) (b := 1) (by decide) (by decide) (show (0 : Int) ≤ (0 : Int32).toInt ∧ (0 : Int32).toInt ≤ 0 by decide)) (iv_w (a := 0) (b := 11) (by decide) (by decide) i8) f_o0_0 f_o0_5 f_o0_7 (iv_w (a := 0) (b := 11) (by decide) (by decide) f_o0_79) f_o0_95 (show 0 + (11 - x7.toInt) * 20 < (n : Int) by omega)
      · have wc5 : ¬ v4.toInt = (0 : Int) := c_ne c5
        have i9 : (1 : Int) ≤ v4.toInt ∧ v4.toInt ≤ 1 := nr_nela c5 i_v4 (show (0 : Int) ≤ (0 : Int32).toInt ∧ (0 : Int32).toInt ≤ 0 by decide) (by decide) (by decide)
        try unfold fM_isTaken_103
        try unfold fM_isTaken_108
        refine tt_kv (P := fun z => ((1 : Int) ≤ z.toInt ∧ z.toInt ≤ 11) ∧ z.toInt = v3.toInt + 1) ⟨iv_add i_v3 (show (1 : Int) ≤ (1 : Int32).toInt ∧ (1 : Int32).toInt ≤ 1 by decide) (by decide) (by decide) (by decide) (by decide), iq_add i_v3 (show (1 : Int) ≤ (1 : Int32).toInt ∧ (1 : Int32).toInt ≤ 1 by decide) (by decide) (by decide)⟩ (fun x10 qi11 => ?_)
        obtain ⟨i11, ei11⟩ := qi11
        exact H.1 _ _ _ _ k_o0 r_o0 i_v1 (iv_w (a := 0) (b := 1) (by decide) (by decide) (show (1 : Int) ≤ (1 : Int32).toInt ∧ (1 : Int32).toInt ≤ 1 by decide)) (iv_w (a := 0) (b := 11) (by decide) (by decide) i11) f_o0_0 f_o0_5 f_o0_7 (iv_w (a := 0) (b := 11) (by decide) (by decide) f_o0_79) f_o0_95 (show 0 + (11 - x10.toInt) * 20 < (n : Int) by omega)
    · have wc3 : ¬ v2.toInt = (0 : Int) := c_ne c3
      have i12 : (1 : Int) ≤ v2.toInt ∧ v2.toInt ≤ 1 := nr_nela c3 i_v2 (show (0 : Int) ≤ (0 : Int32).toInt ∧ (0 : Int32).toInt ≤ 0 by decide) (by decide) (by decide)
      try unfold fM_isTaken_103
      try unfold fM_isTaken_108
      refine tt_kv (P := fun z => ((1 : Int) ≤ z.toInt ∧ z.toInt ≤ 11) ∧ z.toInt = v3.toInt + 1) ⟨iv_add i_v3 (show (1 : Int) ≤ (1 : Int32).toInt ∧ (1 : Int32).toInt ≤ 1 by decide) (by decide) (by decide) (by decide) (by decide), iq_add i_v3 (show (1 : Int) ≤ (1 : Int32).toInt ∧ (1 : Int32).toInt ≤ 1 by decide) (by decide) (by decide)⟩ (fun x13 qi14 => ?_)
      obtain ⟨i14, ei14⟩ := qi14
      exact H.1 _ _ _ _ k_o0 r_o0 i_v1 (iv_w (a := 0) (b := 1) (by decide) (by decide) (show (1 : Int) ≤ (1 : Int32).toInt ∧ (1 : Int32).toInt ≤ 1 by decide)) (iv_w (a := 0) (b := 11) (by decide) (by decide) i14) f_o0_0 f_o0_5 f_o0_7 (iv_w (a := 0) (b := 11) (by decide) (by decide) f_o0_79) f_o0_95 (show 0 + (11 - x13.toInt) * 20 < (n : Int) by omega)
  · have wc1 : v5.toInt < (8 : Int) := c_nle c1
    have i15 : (0 : Int) ≤ v5.toInt ∧ v5.toInt ≤ 7 := nr_nlel c1 i_v5 (show (8 : Int) ≤ (8 : Int32).toInt ∧ (8 : Int32).toInt ≤ 8 by decide) (by decide) (by decide)
    refine tt_if (fun c16 => ?_) (fun c16 => ?_)
    · have wc16 : v4.toInt = (0 : Int) := c_eq c16
      have i17 : (0 : Int) ≤ v4.toInt ∧ v4.toInt ≤ 0 := nr_eql c16 i_v4 (show (0 : Int) ≤ (0 : Int32).toInt ∧ (0 : Int32).toInt ≤ 0 by decide) (by decide) (by decide)
      try unfold fM_isTaken_85
      try unfold fM_isTaken_86
      refine tt_kv (P := fun z => ((1 : Int) ≤ z.toInt ∧ z.toInt ≤ 8) ∧ z.toInt = v5.toInt + 1) ⟨iv_add i15 (show (1 : Int) ≤ (1 : Int32).toInt ∧ (1 : Int32).toInt ≤ 1 by decide) (by decide) (by decide) (by decide) (by decide), iq_add i15 (show (1 : Int) ≤ (1 : Int32).toInt ∧ (1 : Int32).toInt ≤ 1 by decide) (by decide) (by decide)⟩ (fun x18 qi19 => ?_)
      obtain ⟨i19, ei19⟩ := qi19
      exact H.2 _ _ _ _ _ _ k_o0 r_o0 i_v1 i_v2 i_v3 (iv_w (a := 0) (b := 1) (by decide) (by decide) (show (0 : Int) ≤ (0 : Int32).toInt ∧ (0 : Int32).toInt ≤ 0 by decide)) (iv_w (a := 0) (b := 8) (by decide) (by decide) i19) f_o0_0 f_o0_5 f_o0_7 f_o0_79 f_o0_95 (show 0 + (11 - v3.toInt - 1) * 20 + 1 + (8 - x18.toInt) * 2 < (n : Int) by omega)
    · have wc16 : ¬ v4.toInt = (0 : Int) := c_ne c16
      have i20 : (1 : Int) ≤ v4.toInt ∧ v4.toInt ≤ 1 := nr_nela c16 i_v4 (show (0 : Int) ≤ (0 : Int32).toInt ∧ (0 : Int32).toInt ≤ 0 by decide) (by decide) (by decide)
      refine tt_kv (P := fun z => ((0 : Int) ≤ z.toInt ∧ z.toInt ≤ 80) ∧ z.toInt = 8 * v3.toInt) ⟨iv_mul (show (8 : Int) ≤ (8 : Int32).toInt ∧ (8 : Int32).toInt ≤ 8 by decide) i_v3 (by decide) (by decide) (by decide) (by decide) (by decide), iq_mul (show (8 : Int) ≤ (8 : Int32).toInt ∧ (8 : Int32).toInt ≤ 8 by decide) i_v3 (by decide) (by decide) (by decide) (by decide)⟩ (fun x21 qi22 => ?_)
      obtain ⟨i22, ei22⟩ := qi22
      refine tt_kv (P := fun z => ((0 : Int) ≤ z.toInt ∧ z.toInt ≤ 87) ∧ z.toInt = x21.toInt + v5.toInt) ⟨iv_add i22 i15 (by decide) (by decide) (by decide) (by decide), iq_add i22 i15 (by decide) (by decide)⟩ (fun x23 qi24 => ?_)
      obtain ⟨i24, ei24⟩ := qi24
      refine tt_n (ix_ok i24 (by decide) (by decide)) ?_
      refine tt_kv (P := fun z => ((0 : Int) ≤ z.toInt ∧ z.toInt ≤ 255) ∧ z.toInt = (o0.2.1 80 x23.toNatClampNeg).toInt) ⟨(k_o0.2 80 _), rfl⟩ (fun x25 qi26 => ?_)
      obtain ⟨i26, ei26⟩ := qi26
      refine tt_n (ix_ok i_v1 (by decide) (by decide)) ?_
      refine tt_kv (P := fun z => ((0 : Int) ≤ z.toInt ∧ z.toInt ≤ 1599) ∧ z.toInt = (o0.2.1 8 v1.toNatClampNeg).toInt) ⟨(k_o0.2 8 _), rfl⟩ (fun x27 qi28 => ?_)
      obtain ⟨i28, ei28⟩ := qi28
      refine tt_kv (P := fun z => ((0 : Int) ≤ z.toInt ∧ z.toInt ≤ 1606) ∧ z.toInt = x27.toInt + v5.toInt) ⟨iv_add i28 i15 (by decide) (by decide) (by decide) (by decide), iq_add i28 i15 (by decide) (by decide)⟩ (fun x29 qi30 => ?_)
      obtain ⟨i30, ei30⟩ := qi30
      refine tt_n (ix_ok i_v1 (by decide) (by decide)) ?_
      refine tt_kv (P := fun z => ((0 : Int) ≤ z.toInt ∧ z.toInt ≤ 1600) ∧ z.toInt = (o0.2.1 9 v1.toNatClampNeg).toInt) ⟨(k_o0.2 9 _), rfl⟩ (fun x31 qi32 => ?_)
      obtain ⟨i32, ei32⟩ := qi32
      refine tt_if (fun c33 => ?_) (fun c33 => ?_)
      · have wc33 : x31.toInt ≤ x29.toInt := c_le c33
        try unfold fM_isTaken_78
        refine tt_if (fun c34 => ?_) (fun c34 => ?_)
        · have wc34 : x25.toInt = (0 : Int) := c_eq c34
          have i35 : (0 : Int) ≤ x25.toInt ∧ x25.toInt ≤ 0 := nr_eql c34 i26 (show (0 : Int) ≤ (0 : Int32).toInt ∧ (0 : Int32).toInt ≤ 0 by decide) (by decide) (by decide)
          try unfold fM_isTaken_86
          refine tt_kv (P := fun z => ((1 : Int) ≤ z.toInt ∧ z.toInt ≤ 8) ∧ z.toInt = v5.toInt + 1) ⟨iv_add i15 (show (1 : Int) ≤ (1 : Int32).toInt ∧ (1 : Int32).toInt ≤ 1 by decide) (by decide) (by decide) (by decide) (by decide), iq_add i15 (show (1 : Int) ≤ (1 : Int32).toInt ∧ (1 : Int32).toInt ≤ 1 by decide) (by decide) (by decide)⟩ (fun x36 qi37 => ?_)
          obtain ⟨i37, ei37⟩ := qi37
          exact H.2 _ _ _ _ _ _ k_o0 r_o0 i_v1 i_v2 i_v3 (iv_w (a := 0) (b := 1) (by decide) (by decide) (show (1 : Int) ≤ (1 : Int32).toInt ∧ (1 : Int32).toInt ≤ 1 by decide)) (iv_w (a := 0) (b := 8) (by decide) (by decide) i37) f_o0_0 f_o0_5 f_o0_7 f_o0_79 f_o0_95 (show 0 + (11 - v3.toInt - 1) * 20 + 1 + (8 - x36.toInt) * 2 < (n : Int) by omega)
        · have wc34 : ¬ x25.toInt = (0 : Int) := c_ne c34
          have i38 : (1 : Int) ≤ x25.toInt ∧ x25.toInt ≤ 255 := nr_nela c34 i26 (show (0 : Int) ≤ (0 : Int32).toInt ∧ (0 : Int32).toInt ≤ 0 by decide) (by decide) (by decide)
          try unfold fM_isTaken_85
          try unfold fM_isTaken_86
          refine tt_kv (P := fun z => ((1 : Int) ≤ z.toInt ∧ z.toInt ≤ 8) ∧ z.toInt = v5.toInt + 1) ⟨iv_add i15 (show (1 : Int) ≤ (1 : Int32).toInt ∧ (1 : Int32).toInt ≤ 1 by decide) (by decide) (by decide) (by decide) (by decide), iq_add i15 (show (1 : Int) ≤ (1 : Int32).toInt ∧ (1 : Int32).toInt ≤ 1 by decide) (by decide) (by decide)⟩ (fun x39 qi40 => ?_)
          obtain ⟨i40, ei40⟩ := qi40
          exact H.2 _ _ _ _ _ _ k_o0 r_o0 i_v1 i_v2 i_v3 (iv_w (a := 0) (b := 1) (by decide) (by decide) (show (0 : Int) ≤ (0 : Int32).toInt ∧ (0 : Int32).toInt ≤ 0 by decide)) (iv_w (a := 0) (b := 8) (by decide) (by decide) i40) f_o0_0 f_o0_5 f_o0_7 f_o0_79 f_o0_95 (show 0 + (11 - v3.toInt - 1) * 20 + 1 + (8 - x39.toInt) * 2 < (n : Int) by omega)
      · have wc33 : x29.toInt < x31.toInt := c_nle c33
        have i41 : (0 : Int) ≤ x29.toInt ∧ x29.toInt ≤ 1599 := nr_nlel c33 i30 i32 (by decide) (by decide)
        have i42 : (1 : Int) ≤ x31.toInt ∧ x31.toInt ≤ 1600 := nr_nler c33 i30 i32 (by decide) (by decide)
        refine tt_n (ix_ok i_v1 (by decide) (by decide)) ?_
        refine tt_kv (P := fun z => ((0 : Int) ≤ z.toInt ∧ z.toInt ≤ 1599) ∧ z.toInt = (o0.2.1 8 v1.toNatClampNeg).toInt) ⟨(k_o0.2 8 _), rfl⟩ (fun x43 qi44 => ?_)
        obtain ⟨i44, ei44⟩ := qi44
        refine tt_kv (P := fun z => ((0 : Int) ≤ z.toInt ∧ z.toInt ≤ 1606) ∧ z.toInt = x43.toInt + v5.toInt) ⟨iv_add i44 i15 (by decide) (by decide) (by decide) (by decide), iq_add i44 i15 (by decide) (by decide)⟩ (fun x45 qi46 => ?_)
        obtain ⟨i46, ei46⟩ := qi46
        refine tt_n (ix_rel (by omega) (by omega)) ?_
        have i47 : (0 : Int) ≤ x45.toInt ∧ x45.toInt ≤ 1599 := (by omega)
        refine tt_kv (P := fun z => ((0 : Int) ≤ z.toInt ∧ z.toInt ≤ 255) ∧ z.toInt = (o0.2.1 1 x45.toNatClampNeg).toInt) ⟨(k_o0.2 1 _), rfl⟩ (fun x48 qi49 => ?_)
        obtain ⟨i49, ei49⟩ := qi49
        try unfold fM_isTaken_78
        refine tt_if (fun c50 => ?_) (fun c50 => ?_)
        · have wc50 : x25.toInt = x48.toInt := c_eq c50
          try unfold fM_isTaken_86
          refine tt_kv (P := fun z => ((1 : Int) ≤ z.toInt ∧ z.toInt ≤ 8) ∧ z.toInt = v5.toInt + 1) ⟨iv_add i15 (show (1 : Int) ≤ (1 : Int32).toInt ∧ (1 : Int32).toInt ≤ 1 by decide) (by decide) (by decide) (by decide) (by decide), iq_add i15 (show (1 : Int) ≤ (1 : Int32).toInt ∧ (1 : Int32).toInt ≤ 1 by decide) (by decide) (by decide)⟩ (fun x51 qi52 => ?_)
          obtain ⟨i52, ei52⟩ := qi52
          exact H.2 _ _ _ _ _ _ k_o0 r_o0 i_v1 i_v2 i_v3 (iv_w (a := 0) (b := 1) (by decide) (by decide) (show (1 : Int) ≤ (1 : Int32).toInt ∧ (1 : Int32).toInt ≤ 1 by decide)) (iv_w (a := 0) (b := 8) (by decide) (by decide) i52) f_o0_0 f_o0_5 f_o0_7 f_o0_79 f_o0_95 (show 0 + (11 - v3.toInt - 1) * 20 + 1 + (8 - x51.toInt) * 2 < (n : Int) by omega)
        · have wc50 : ¬ x25.toInt = x48.toInt := c_ne c50
          try unfold fM_isTaken_85
          try unfold fM_isTaken_86
          refine tt_kv (P := fun z => ((1 : Int) ≤ z.toInt ∧ z.toInt ≤ 8) ∧ z.toInt = v5.toInt + 1) ⟨iv_add i15 (show (1 : Int) ≤ (1 : Int32).toInt ∧ (1 : Int32).toInt ≤ 1 by decide) (by decide) (by decide) (by decide) (by decide), iq_add i15 (show (1 : Int) ≤ (1 : Int32).toInt ∧ (1 : Int32).toInt ≤ 1 by decide) (by decide) (by decide)⟩ (fun x53 qi54 => ?_)
          obtain ⟨i54, ei54⟩ := qi54
          exact H.2 _ _ _ _ _ _ k_o0 r_o0 i_v1 i_v2 i_v3 (iv_w (a := 0) (b := 1) (by decide) (by decide) (show (0 : Int) ≤ (0 : Int32).toInt ∧ (0 : Int32).toInt ≤ 0 by decide)) (iv_w (a := 0) (b := 8) (by decide) (by decide) i54) f_o0_0 f_o0_5 f_o0_7 f_o0_79 f_o0_95 (show 0 + (11 - v3.toInt - 1) * 20 + 1 + (8 - x53.toInt) * 2 < (n : Int) by omega)
set_option maxHeartbeats 4000000 in
set_option maxRecDepth 100000 in
theorem tM_isTaken_4 {yv1 : Int32} {yo0 : cf_O} {n : Nat} (H : HM_isTaken yv1 yo0 n) (v1 : Int32) (v2 : Int32) (v3 : Int32) (o0 : cf_O) (k_o0 : okO I_M o0) (r_o0 : Fr (fr_M [] [] []) yo0 o0) (i_v1 : (1 : Int) ≤ v1.toInt ∧ v1.toInt ≤ 1) (i_v2 : (0 : Int) ≤ v2.toInt ∧ v2.toInt ≤ 1) (i_v3 : (0 : Int) ≤ v3.toInt ∧ v3.toInt ≤ 11) (f_o0_0 : (0 : Int) ≤ (o0.1 0).toInt ∧ (o0.1 0).toInt ≤ 0) (f_o0_5 : (0 : Int) ≤ (o0.1 5).toInt ∧ (o0.1 5).toInt ≤ 0) (f_o0_7 : (5 : Int) ≤ (o0.1 7).toInt ∧ (o0.1 7).toInt ≤ 5) (f_o0_79 : (0 : Int) ≤ (o0.1 79).toInt ∧ (o0.1 79).toInt ≤ 11) (f_o0_95 : (0 : Int) ≤ (o0.1 95).toInt ∧ (o0.1 95).toInt ≤ 0) (hm : 0 + (11 - v3.toInt) * 20 ≤ (n : Int)) : tt (fM_isTaken_4 (gM_isTaken n) v1 v2 v3 o0) (QM_isTaken yv1 yo0) := by
  unfold fM_isTaken_4
  refine tt_if (fun c1 => ?_) (fun c1 => ?_)
  · have wc1 : (o0.1 79).toInt ≤ v3.toInt := c_le c1
    refine tt_w (iv_b i_v2 (by decide) (by decide)) ?_
    exact tt_some ⟨i_v2, trivial⟩
  · have wc1 : v3.toInt < (o0.1 79).toInt := c_nle c1
    have i2 : (0 : Int) ≤ v3.toInt ∧ v3.toInt ≤ 10 := nr_nlel c1 i_v3 f_o0_79 (by decide) (by decide)
    have i3 : (1 : Int) ≤ (o0.1 79).toInt ∧ (o0.1 79).toInt ≤ 11 := nr_nler c1 i_v3 f_o0_79 (by decide) (by decide)
    exact H.2 _ _ _ _ _ _ k_o0 r_o0 i_v1 i_v2 i2 (iv_w (a := 0) (b := 1) (by decide) (by decide) (show (1 : Int) ≤ (1 : Int32).toInt ∧ (1 : Int32).toInt ≤ 1 by decide)) (iv_w (a := 0) (b := 8) (by decide) (by decide) (show (0 : Int) ≤ (0 : Int32).toInt ∧ (0 : Int32).toInt ≤ 0 by decide)) f_o0_0 f_o0_5 f_o0_7 i3 f_o0_95 (show 0 + (11 - v3.toInt - 1) * 20 + 1 + (8 - 0) * 2 < (n : Int) by omega)
set_option maxHeartbeats 4000000 in
set_option maxRecDepth 100000 in
theorem hM_isTaken (yv1 : Int32) (yo0 : cf_O) : ∀ n, HM_isTaken yv1 yo0 n := by
  intro n
  induction n with
  | zero => exact ⟨(fun v1 v2 v3 o0 k_o0 r_o0 i_v1 i_v2 i_v3 f_o0_0 f_o0_5 f_o0_7 f_o0_79 f_o0_95 hm => by exact absurd (show 0 + (11 - v3.toInt) * 20 < (0 : Int) from hm) (by omega)), (fun v1 v2 v3 v4 v5 o0 k_o0 r_o0 i_v1 i_v2 i_v3 i_v4 i_v5 f_o0_0 f_o0_5 f_o0_7 f_o0_79 f_o0_95 hm => by exact absurd (show 0 + (11 - v3.toInt - 1) * 20 + 1 + (8 - v5.toInt) * 2 < (0 : Int) from hm) (by omega))⟩
  | succ n ih => exact ⟨(fun v1 v2 v3 o0 k_o0 r_o0 i_v1 i_v2 i_v3 f_o0_0 f_o0_5 f_o0_7 f_o0_79 f_o0_95 hm => tM_isTaken_4 ih v1 v2 v3 o0 k_o0 r_o0 i_v1 i_v2 i_v3 f_o0_0 f_o0_5 f_o0_7 f_o0_79 f_o0_95 (by omega)), (fun v1 v2 v3 v4 v5 o0 k_o0 r_o0 i_v1 i_v2 i_v3 i_v4 i_v5 f_o0_0 f_o0_5 f_o0_7 f_o0_79 f_o0_95 hm => tM_isTaken_18 ih v1 v2 v3 v4 v5 o0 k_o0 r_o0 i_v1 i_v2 i_v3 i_v4 i_v5 f_o0_0 f_o0_5 f_o0_7 f_o0_79 f_o0_95 (by omega))⟩
set_option maxHeartbeats 4000000 in
set_option maxRecDepth 100000 in
theorem sM_isTaken (v1 : Int32) (o0 : cf_O) (k_o0 : okO I_M o0) (i_v1 : (1 : Int) ≤ v1.toInt ∧ v1.toInt ≤ 1) (f_o0_0 : (0 : Int) ≤ (o0.1 0).toInt ∧ (o0.1 0).toInt ≤ 0) (f_o0_5 : (0 : Int) ≤ (o0.1 5).toInt ∧ (o0.1 5).toInt ≤ 0) (f_o0_7 : (5 : Int) ≤ (o0.1 7).toInt ∧ (o0.1 7).toInt ≤ 5) (f_o0_79 : (0 : Int) ≤ (o0.1 79).toInt ∧ (o0.1 79).toInt ≤ 11) (f_o0_95 : (0 : Int) ≤ (o0.1 95).toInt ∧ (o0.1 95).toInt ≤ 0) : tt (fM_isTaken v1 o0) (QM_isTaken v1 o0) := by
  have H := hM_isTaken v1 o0 cfFU
  have hm : (223 : Int) ≤ (cfFU : Nat) := by decide
  have r_o0 : Fr (fr_M [] [] []) o0 o0 := fr_rfl
  unfold fM_isTaken fM_isTaken_0
  exact H.1 _ _ _ _ k_o0 r_o0 i_v1 (iv_w (a := 0) (b := 1) (by decide) (by decide) (show (0 : Int) ≤ (0 : Int32).toInt ∧ (0 : Int32).toInt ≤ 0 by decide)) (iv_w (a := 0) (b := 11) (by decide) (by decide) (show (0 : Int) ≤ (0 : Int32).toInt ∧ (0 : Int32).toInt ≤ 0 by decide)) f_o0_0 f_o0_5 f_o0_7 f_o0_79 f_o0_95 (show 0 + (11 - 0) * 20 < ((cfFU : Nat) : Int) by omega)
def QM_cellLine (v1 : Int32) (o0 : cf_O) (r : (cf_O)) : Prop := (okO I_M r) ∧ (Fr (fr_M [5, 6, 79] [80, 81] []) o0 r) ∧ ((0 : Int) ≤ (r.1 5).toInt ∧ (r.1 5).toInt ≤ 2) ∧ (Fp (r.2.1 81)) ∧ True
def HM_cellLine (yv1 : Int32) (yo0 : cf_O) (n : Nat) : Prop := (∀ (v2 : Int32) (o0 : cf_O), (okO I_M o0) → (Fr (fr_M [5, 6, 79] [80, 81] []) yo0 o0) → ((0 : Int) ≤ v2.toInt ∧ v2.toInt ≤ 8) → ((0 : Int) ≤ (o0.1 0).toInt ∧ (o0.1 0).toInt ≤ 0) → ((0 : Int) ≤ (o0.1 5).toInt ∧ (o0.1 5).toInt ≤ 0) → ((5 : Int) ≤ (o0.1 7).toInt ∧ (o0.1 7).toInt ≤ 5) → ((0 : Int) ≤ (o0.1 79).toInt ∧ (o0.1 79).toInt ≤ 11) → ((0 : Int) ≤ (o0.1 95).toInt ∧ (o0.1 95).toInt ≤ 0) → (Fp (o0.2.1 81)) → 3202 + (8 - v2.toInt) * 2 < (n : Int) → tt (gM_cellLine n 0 v2 0 o0) (QM_cellLine yv1 yo0)) ∧ (∀ (v2 : Int32) (v3 : Int32) (o0 : cf_O), (okO I_M o0) → (Fr (fr_M [5, 6, 79] [80, 81] []) yo0 o0) → ((0 : Int) ≤ v3.toInt ∧ v3.toInt ≤ 1600) → ((0 : Int) ≤ (o0.1 0).toInt ∧ (o0.1 0).toInt ≤ 0) → ((0 : Int) ≤ (o0.1 5).toInt ∧ (o0.1 5).toInt ≤ 0) → ((5 : Int) ≤ (o0.1 7).toInt ∧ (o0.1 7).toInt ≤ 5) → ((0 : Int) ≤ (o0.1 79).toInt ∧ (o0.1 79).toInt ≤ 11) → ((0 : Int) ≤ (o0.1 95).toInt ∧ (o0.1 95).toInt ≤ 0) → (Fp (o0.2.1 81)) → 0 + (1600 - v3.toInt) * 2 < (n : Int) → tt (gM_cellLine n 1 v2 v3 o0) (QM_cellLine yv1 yo0))
set_option maxHeartbeats 4000000 in
set_option maxRecDepth 100000 in
theorem tM_cellLine_152 {yv1 : Int32} {yo0 : cf_O} {n : Nat} (H : HM_cellLine yv1 yo0 n) (v2 : Int32) (v3 : Int32) (o0 : cf_O) (k_o0 : okO I_M o0) (r_o0 : Fr (fr_M [5, 6, 79] [80, 81] []) yo0 o0) (i_v3 : (0 : Int) ≤ v3.toInt ∧ v3.toInt ≤ 1600) (f_o0_0 : (0 : Int) ≤ (o0.1 0).toInt ∧ (o0.1 0).toInt ≤ 0) (f_o0_5 : (0 : Int) ≤ (o0.1 5).toInt ∧ (o0.1 5).toInt ≤ 0) (f_o0_7 : (5 : Int) ≤ (o0.1 7).toInt ∧ (o0.1 7).toInt ≤ 5) (f_o0_79 : (0 : Int) ≤ (o0.1 79).toInt ∧ (o0.1 79).toInt ≤ 11) (f_o0_95 : (0 : Int) ≤ (o0.1 95).toInt ∧ (o0.1 95).toInt ≤ 0) (x_0 : Fp (o0.2.1 81)) (hm : 0 + (1600 - v3.toInt) * 2 ≤ (n : Int)) : tt (fM_cellLine_152 (gM_cellLine n) v2 v3 o0) (QM_cellLine yv1 yo0) := by
  unfold fM_cellLine_152
  have i_v2 := iv_top v2
  refine tt_n (ix_ok (show (4 : Int) ≤ (4 : Int32).toInt ∧ (4 : Int32).toInt ≤ 4 by decide) (by decide) (by decide)) ?_
  refine tt_kv (P := fun z => ((0 : Int) ≤ z.toInt ∧ z.toInt ≤ 1600) ∧ z.toInt = (o0.2.1 9 (4 : Int32).toNatClampNeg).toInt) ⟨(k_o0.2 9 _), rfl⟩ (fun x1 qi2 => ?_)
  obtain ⟨i2, ei2⟩ := qi2
  refine tt_if (fun c3 => ?_) (fun c3 => ?_)
  · have wc3 : x1.toInt ≤ v3.toInt := c_le c3
    refine tt_kv (P := fun z => ((0 : Int) ≤ z.toInt ∧ z.toInt ≤ 44) ∧ z.toInt = 4 * (o0.1 79).toInt) ⟨iv_mul (show (4 : Int) ≤ (4 : Int32).toInt ∧ (4 : Int32).toInt ≤ 4 by decide) f_o0_79 (by decide) (by decide) (by decide) (by decide) (by decide), iq_mul (show (4 : Int) ≤ (4 : Int32).toInt ∧ (4 : Int32).toInt ≤ 4 by decide) f_o0_79 (by decide) (by decide) (by decide) (by decide)⟩ (fun x4 qi5 => ?_)
    obtain ⟨i5, ei5⟩ := qi5
    refine tt_b (sM_digitsOf _ _ _ k_o0 (iv_w (a := 2) (b := 3) (by decide) (by decide) (show (2 : Int) ≤ (2 : Int32).toInt ∧ (2 : Int32).toInt ≤ 2 by decide)) (iv_w (a := 2) (b := 3) (by decide) (by decide) (show (3 : Int) ≤ (3 : Int32).toInt ∧ (3 : Int32).toInt ≤ 3 by decide)) f_o0_0 f_o0_5 f_o0_7 f_o0_79 f_o0_95) (fun q6 hq6 => ?_)
    have i_q6 := iv_top q6
    refine tt_n (ix_ok i5 (by decide) (by decide)) ?_
    refine tt_ko ?_
    have k7 := ok_xp (k := 81) (i := x4.toNatClampNeg) (v := q6) k_o0 (iv_top q6)
    have r8 := fr_xp (k := 81) (i := x4.toNatClampNeg) (v := q6) r_o0 rfl
    have u9 : Fp (upd (o0.2.1 81) (x4.toNatClampNeg) q6) := Fp_u x_0 (by intros; have tnn := tn_n x4; omega)
    refine tt_kv (P := fun z => ((0 : Int) ≤ z.toInt ∧ z.toInt ≤ 44) ∧ z.toInt = 4 * (o0.1 79).toInt) ⟨iv_mul (show (4 : Int) ≤ (4 : Int32).toInt ∧ (4 : Int32).toInt ≤ 4 by decide) f_o0_79 (by decide) (by decide) (by decide) (by decide) (by decide), iq_mul (show (4 : Int) ≤ (4 : Int32).toInt ∧ (4 : Int32).toInt ≤ 4 by decide) f_o0_79 (by decide) (by decide) (by decide) (by decide)⟩ (fun x10 qi11 => ?_)
    obtain ⟨i11, ei11⟩ := qi11
    refine tt_kv (P := fun z => ((1 : Int) ≤ z.toInt ∧ z.toInt ≤ 45) ∧ z.toInt = x10.toInt + 1) ⟨iv_add i11 (show (1 : Int) ≤ (1 : Int32).toInt ∧ (1 : Int32).toInt ≤ 1 by decide) (by decide) (by decide) (by decide) (by decide), iq_add i11 (show (1 : Int) ≤ (1 : Int32).toInt ∧ (1 : Int32).toInt ≤ 1 by decide) (by decide) (by decide)⟩ (fun x12 qi13 => ?_)
    obtain ⟨i13, ei13⟩ := qi13
    refine tt_b (sM_digitsOf _ _ _ k7 (iv_w (a := 2) (b := 3) (by decide) (by decide) (show (3 : Int) ≤ (3 : Int32).toInt ∧ (3 : Int32).toInt ≤ 3 by decide)) (iv_w (a := 2) (b := 3) (by decide) (by decide) (show (2 : Int) ≤ (2 : Int32).toInt ∧ (2 : Int32).toInt ≤ 2 by decide)) f_o0_0 f_o0_5 f_o0_7 f_o0_79 f_o0_95) (fun q14 hq14 => ?_)
    have i_q14 := iv_top q14
    refine tt_n (ix_ok i13 (by decide) (by decide)) ?_
    refine tt_ko ?_
    have k15 := ok_xp (k := 81) (i := x12.toNatClampNeg) (v := q14) k7 (iv_top q14)
    have r16 := fr_xp (k := 81) (i := x12.toNatClampNeg) (v := q14) r8 rfl
    have u17 : Fp (upd (upd (o0.2.1 81) (x4.toNatClampNeg) q6) (x12.toNatClampNeg) q14) := Fp_u u9 (by intros; have tnn := tn_n x12; omega)
    refine tt_kv (P := fun z => ((0 : Int) ≤ z.toInt ∧ z.toInt ≤ 44) ∧ z.toInt = 4 * (o0.1 79).toInt) ⟨iv_mul (show (4 : Int) ≤ (4 : Int32).toInt ∧ (4 : Int32).toInt ≤ 4 by decide) f_o0_79 (by decide) (by decide) (by decide) (by decide) (by decide), iq_mul (show (4 : Int) ≤ (4 : Int32).toInt ∧ (4 : Int32).toInt ≤ 4 by decide) f_o0_79 (by decide) (by decide) (by decide) (by decide)⟩ (fun x18 qi19 => ?_)
    obtain ⟨i19, ei19⟩ := qi19
    refine tt_kv (P := fun z => ((2 : Int) ≤ z.toInt ∧ z.toInt ≤ 46) ∧ z.toInt = x18.toInt + 2) ⟨iv_add i19 (show (2 : Int) ≤ (2 : Int32).toInt ∧ (2 : Int32).toInt ≤ 2 by decide) (by decide) (by decide) (by decide) (by decide), iq_add i19 (show (2 : Int) ≤ (2 : Int32).toInt ∧ (2 : Int32).toInt ≤ 2 by decide) (by decide) (by decide)⟩ (fun x20 qi21 => ?_)
    obtain ⟨i21, ei21⟩ := qi21
    refine tt_b (sM_pinsOf _ _ k15 (show (4 : Int) ≤ (4 : Int32).toInt ∧ (4 : Int32).toInt ≤ 4 by decide) f_o0_0 f_o0_5 f_o0_7 f_o0_79 f_o0_95) (fun q22 hq22 => ?_)
    obtain ⟨i_q22, -⟩ := hq22
    refine tt_n (ix_ok i21 (by decide) (by decide)) ?_
    refine tt_ko ?_
    have k23 := ok_xp (k := 81) (i := x20.toNatClampNeg) (v := q22) k15 (iv_w (a := (-2147483648)) (b := 2147483647) (by decide) (by decide) i_q22)
    have r24 := fr_xp (k := 81) (i := x20.toNatClampNeg) (v := q22) r16 rfl
    have u25 : Fp (upd (upd (upd (o0.2.1 81) (x4.toNatClampNeg) q6) (x12.toNatClampNeg) q14) (x20.toNatClampNeg) q22) := Fp_u u17 (by intros; have tnn := tn_n x20; omega)
    refine tt_kv (P := fun z => ((0 : Int) ≤ z.toInt ∧ z.toInt ≤ 44) ∧ z.toInt = 4 * (o0.1 79).toInt) ⟨iv_mul (show (4 : Int) ≤ (4 : Int32).toInt ∧ (4 : Int32).toInt ≤ 4 by decide) f_o0_79 (by decide) (by decide) (by decide) (by decide) (by decide), iq_mul (show (4 : Int) ≤ (4 : Int32).toInt ∧ (4 : Int32).toInt ≤ 4 by decide) f_o0_79 (by decide) (by decide) (by decide) (by decide)⟩ (fun x26 qi27 => ?_)
    obtain ⟨i27, ei27⟩ := qi27
    refine tt_kv (P := fun z => ((3 : Int) ≤ z.toInt ∧ z.toInt ≤ 47) ∧ z.toInt = x26.toInt + 3) ⟨iv_add i27 (show (3 : Int) ≤ (3 : Int32).toInt ∧ (3 : Int32).toInt ≤ 3 by decide) (by decide) (by decide) (by decide) (by decide), iq_add i27 (show (3 : Int) ≤ (3 : Int32).toInt ∧ (3 : Int32).toInt ≤ 3 by decide) (by decide) (by decide)⟩ (fun x28 qi29 => ?_)
    obtain ⟨i29, ei29⟩ := qi29
    refine tt_n (ix_ok i29 (by decide) (by decide)) ?_
    refine tt_ko ?_
    have k30 := ok_xp (k := 81) (i := x28.toNatClampNeg) (v := v2) k23 (iv_top v2)
    have r31 := fr_xp (k := 81) (i := x28.toNatClampNeg) (v := v2) r24 rfl
    have u32 : Fp (upd (upd (upd (upd (o0.2.1 81) (x4.toNatClampNeg) q6) (x12.toNatClampNeg) q14) (x20.toNatClampNeg) q22) (x28.toNatClampNeg) v2) := Fp_u u25 (by intros; have tnn := tn_n x28; omega)
    refine tt_kv (P := fun z => ((1 : Int) ≤ z.toInt ∧ z.toInt ≤ 12) ∧ z.toInt = (o0.1 79).toInt + 1) ⟨iv_add f_o0_79 (show (1 : Int) ≤ (1 : Int32).toInt ∧ (1 : Int32).toInt ≤ 1 by decide) (by decide) (by decide) (by decide) (by decide), iq_add f_o0_79 (show (1 : Int) ≤ (1 : Int32).toInt ∧ (1 : Int32).toInt ≤ 1 by decide) (by decide) (by decide)⟩ (fun x33 qi34 => ?_)
    obtain ⟨i34, ei34⟩ := qi34
    refine tt_ko ?_
    have k35 := ok_fp (k := 79) (v := x33) k30 (iv_w (a := 0) (b := 12) (by decide) (by decide) i34)
    have r36 := fr_fp (k := 79) (v := x33) r31 rfl
    exact tt_some ⟨k35, r36, (iv_w (a := 0) (b := 2) (by decide) (by decide) f_o0_5), u32, trivial⟩
  · have wc3 : v3.toInt < x1.toInt := c_nle c3
    have i37 : (0 : Int) ≤ v3.toInt ∧ v3.toInt ≤ 1599 := nr_nlel c3 i_v3 i2 (by decide) (by decide)
    have i38 : (1 : Int) ≤ x1.toInt ∧ x1.toInt ≤ 1600 := nr_nler c3 i_v3 i2 (by decide) (by decide)
    refine tt_n (ix_ok i37 (by decide) (by decide)) ?_
    refine tt_kv (P := fun z => ((0 : Int) ≤ z.toInt ∧ z.toInt ≤ 255) ∧ z.toInt = (o0.2.1 1 v3.toNatClampNeg).toInt) ⟨(k_o0.2 1 _), rfl⟩ (fun x39 qi40 => ?_)
    obtain ⟨i40, ei40⟩ := qi40
    refine tt_if (fun c41 => ?_) (fun c41 => ?_)
    · have wc41 : x39.toInt = (49 : Int) := c_eq c41
      have i42 : (49 : Int) ≤ x39.toInt ∧ x39.toInt ≤ 49 := nr_eql c41 i40 (show (49 : Int) ≤ (49 : Int32).toInt ∧ (49 : Int32).toInt ≤ 49 by decide) (by decide) (by decide)
      refine tt_n (ix_ok (show (4 : Int) ≤ (4 : Int32).toInt ∧ (4 : Int32).toInt ≤ 4 by decide) (by decide) (by decide)) ?_
      refine tt_kv (P := fun z => ((0 : Int) ≤ z.toInt ∧ z.toInt ≤ 1599) ∧ z.toInt = (o0.2.1 8 (4 : Int32).toNatClampNeg).toInt) ⟨(k_o0.2 8 _), rfl⟩ (fun x43 qi44 => ?_)
      obtain ⟨i44, ei44⟩ := qi44
      refine tt_kv (P := fun z => (((-1599) : Int) ≤ z.toInt ∧ z.toInt ≤ 1599) ∧ z.toInt = v3.toInt - x43.toInt) ⟨iv_sub i37 i44 (by decide) (by decide) (by decide) (by decide), iq_sub i37 i44 (by decide) (by decide)⟩ (fun x45 qi46 => ?_)
      obtain ⟨i46, ei46⟩ := qi46
      refine tt_kv (P := fun z => (((-2147483648) : Int) ≤ z.toInt ∧ z.toInt ≤ 2147483647) ∧ z.toInt = ((1 : Int32) <<< (x45 &&& (31 : Int32))).toInt) ⟨iv_top _, rfl⟩ (fun x47 qi48 => ?_)
      obtain ⟨i48, ei48⟩ := qi48
      refine tt_kv (P := fun z => ((-2147483648) : Int) ≤ z.toInt ∧ z.toInt ≤ 2147483647) (iv_top _) (fun x49 i50 => ?_)
      try unfold fM_cellLine_189
      refine tt_kv (P := fun z => ((1 : Int) ≤ z.toInt ∧ z.toInt ≤ 1600) ∧ z.toInt = v3.toInt + 1) ⟨iv_add i37 (show (1 : Int) ≤ (1 : Int32).toInt ∧ (1 : Int32).toInt ≤ 1 by decide) (by decide) (by decide) (by decide) (by decide), iq_add i37 (show (1 : Int) ≤ (1 : Int32).toInt ∧ (1 : Int32).toInt ≤ 1 by decide) (by decide) (by decide)⟩ (fun x51 qi52 => ?_)
      obtain ⟨i52, ei52⟩ := qi52
      exact H.2 _ _ _ k_o0 r_o0 (iv_w (a := 0) (b := 1600) (by decide) (by decide) i52) f_o0_0 f_o0_5 f_o0_7 f_o0_79 f_o0_95 x_0 (show 0 + (1600 - x51.toInt) * 2 < (n : Int) by omega)
    · have wc41 : ¬ x39.toInt = (49 : Int) := c_ne c41
      try unfold fM_cellLine_189
      refine tt_kv (P := fun z => ((1 : Int) ≤ z.toInt ∧ z.toInt ≤ 1600) ∧ z.toInt = v3.toInt + 1) ⟨iv_add i37 (show (1 : Int) ≤ (1 : Int32).toInt ∧ (1 : Int32).toInt ≤ 1 by decide) (by decide) (by decide) (by decide) (by decide), iq_add i37 (show (1 : Int) ≤ (1 : Int32).toInt ∧ (1 : Int32).toInt ≤ 1 by decide) (by decide) (by decide)⟩ (fun x53 qi54 => ?_)
      obtain ⟨i54, ei54⟩ := qi54
      exact H.2 _ _ _ k_o0 r_o0 (iv_w (a := 0) (b := 1600) (by decide) (by decide) i54) f_o0_0 f_o0_5 f_o0_7 f_o0_79 f_o0_95 x_0 (show 0 + (1600 - x53.toInt) * 2 < (n : Int) by omega)
set_option maxHeartbeats 4000000 in
set_option maxRecDepth 100000 in
theorem tM_cellLine_83 {yv1 : Int32} {yo0 : cf_O} {n : Nat} (H : HM_cellLine yv1 yo0 n) (v2 : Int32) (o0 : cf_O) (k_o0 : okO I_M o0) (r_o0 : Fr (fr_M [5, 6, 79] [80, 81] []) yo0 o0) (i_v2 : (0 : Int) ≤ v2.toInt ∧ v2.toInt ≤ 8) (f_o0_0 : (0 : Int) ≤ (o0.1 0).toInt ∧ (o0.1 0).toInt ≤ 0) (f_o0_5 : (0 : Int) ≤ (o0.1 5).toInt ∧ (o0.1 5).toInt ≤ 0) (f_o0_7 : (5 : Int) ≤ (o0.1 7).toInt ∧ (o0.1 7).toInt ≤ 5) (f_o0_79 : (0 : Int) ≤ (o0.1 79).toInt ∧ (o0.1 79).toInt ≤ 11) (f_o0_95 : (0 : Int) ≤ (o0.1 95).toInt ∧ (o0.1 95).toInt ≤ 0) (x_0 : Fp (o0.2.1 81)) (hm : 3202 + (8 - v2.toInt) * 2 ≤ (n : Int)) : tt (fM_cellLine_83 (gM_cellLine n) v2 o0) (QM_cellLine yv1 yo0) := by
  unfold fM_cellLine_83
  refine tt_if (fun c1 => ?_) (fun c1 => ?_)
  · have wc1 : (8 : Int) ≤ v2.toInt := c_le c1
    have i2 : (8 : Int) ≤ v2.toInt ∧ v2.toInt ≤ 8 := nr_ler c1 (show (8 : Int) ≤ (8 : Int32).toInt ∧ (8 : Int32).toInt ≤ 8 by decide) i_v2 (by decide) (by decide)
    refine tt_n (ix_ok (show (4 : Int) ≤ (4 : Int32).toInt ∧ (4 : Int32).toInt ≤ 4 by decide) (by decide) (by decide)) ?_
    refine tt_kv (P := fun z => ((0 : Int) ≤ z.toInt ∧ z.toInt ≤ 1599) ∧ z.toInt = (o0.2.1 8 (4 : Int32).toNatClampNeg).toInt) ⟨(k_o0.2 8 _), rfl⟩ (fun x3 qi4 => ?_)
    obtain ⟨i4, ei4⟩ := qi4
    exact H.2 _ _ _ k_o0 r_o0 (iv_w (a := 0) (b := 1600) (by decide) (by decide) i4) f_o0_0 f_o0_5 f_o0_7 f_o0_79 f_o0_95 x_0 (show 0 + (1600 - x3.toInt) * 2 < (n : Int) by omega)
  · have wc1 : v2.toInt < (8 : Int) := c_nle c1
    have i5 : (0 : Int) ≤ v2.toInt ∧ v2.toInt ≤ 7 := nr_nlel c1 i_v2 (show (8 : Int) ≤ (8 : Int32).toInt ∧ (8 : Int32).toInt ≤ 8 by decide) (by decide) (by decide)
    refine tt_kv (P := fun z => ((0 : Int) ≤ z.toInt ∧ z.toInt ≤ 88) ∧ z.toInt = 8 * (o0.1 79).toInt) ⟨iv_mul (show (8 : Int) ≤ (8 : Int32).toInt ∧ (8 : Int32).toInt ≤ 8 by decide) f_o0_79 (by decide) (by decide) (by decide) (by decide) (by decide), iq_mul (show (8 : Int) ≤ (8 : Int32).toInt ∧ (8 : Int32).toInt ≤ 8 by decide) f_o0_79 (by decide) (by decide) (by decide) (by decide)⟩ (fun x6 qi7 => ?_)
    obtain ⟨i7, ei7⟩ := qi7
    refine tt_kv (P := fun z => ((0 : Int) ≤ z.toInt ∧ z.toInt ≤ 95) ∧ z.toInt = x6.toInt + v2.toInt) ⟨iv_add i7 i5 (by decide) (by decide) (by decide) (by decide), iq_add i7 i5 (by decide) (by decide)⟩ (fun x8 qi9 => ?_)
    obtain ⟨i9, ei9⟩ := qi9
    refine tt_n (ix_ok (show (1 : Int) ≤ (1 : Int32).toInt ∧ (1 : Int32).toInt ≤ 1 by decide) (by decide) (by decide)) ?_
    refine tt_kv (P := fun z => ((0 : Int) ≤ z.toInt ∧ z.toInt ≤ 1599) ∧ z.toInt = (o0.2.1 8 (1 : Int32).toNatClampNeg).toInt) ⟨(k_o0.2 8 _), rfl⟩ (fun x10 qi11 => ?_)
    obtain ⟨i11, ei11⟩ := qi11
    refine tt_kv (P := fun z => ((0 : Int) ≤ z.toInt ∧ z.toInt ≤ 1606) ∧ z.toInt = x10.toInt + v2.toInt) ⟨iv_add i11 i5 (by decide) (by decide) (by decide) (by decide), iq_add i11 i5 (by decide) (by decide)⟩ (fun x12 qi13 => ?_)
    obtain ⟨i13, ei13⟩ := qi13
    refine tt_n (ix_ok (show (1 : Int) ≤ (1 : Int32).toInt ∧ (1 : Int32).toInt ≤ 1 by decide) (by decide) (by decide)) ?_
    refine tt_kv (P := fun z => ((0 : Int) ≤ z.toInt ∧ z.toInt ≤ 1600) ∧ z.toInt = (o0.2.1 9 (1 : Int32).toNatClampNeg).toInt) ⟨(k_o0.2 9 _), rfl⟩ (fun x14 qi15 => ?_)
    obtain ⟨i15, ei15⟩ := qi15
    refine tt_if (fun c16 => ?_) (fun c16 => ?_)
    · have wc16 : x14.toInt ≤ x12.toInt := c_le c16
      try unfold fM_cellLine_136
      refine tt_n (ix_ok i9 (by decide) (by decide)) ?_
      refine tt_ko ?_
      have k17 := ok_xp (k := 80) (i := x8.toNatClampNeg) (v := 0) k_o0 (iv_w (a := 0) (b := 255) (by decide) (by decide) (show (0 : Int) ≤ (0 : Int32).toInt ∧ (0 : Int32).toInt ≤ 0 by decide))
      have r18 := fr_xp (k := 80) (i := x8.toNatClampNeg) (v := 0) r_o0 rfl
      refine tt_kv (P := fun z => ((1 : Int) ≤ z.toInt ∧ z.toInt ≤ 8) ∧ z.toInt = v2.toInt + 1) ⟨iv_add i5 (show (1 : Int) ≤ (1 : Int32).toInt ∧ (1 : Int32).toInt ≤ 1 by decide) (by decide) (by decide) (by decide) (by decide), iq_add i5 (show (1 : Int) ≤ (1 : Int32).toInt ∧ (1 : Int32).toInt ≤ 1 by decide) (by decide) (by decide)⟩ (fun x19 qi20 => ?_)
      obtain ⟨i20, ei20⟩ := qi20
      exact H.1 _ _ k17 r18 (iv_w (a := 0) (b := 8) (by decide) (by decide) i20) f_o0_0 f_o0_5 f_o0_7 f_o0_79 f_o0_95 x_0 (show 3202 + (8 - x19.toInt) * 2 < (n : Int) by omega)
    · have wc16 : x12.toInt < x14.toInt := c_nle c16
      have i21 : (0 : Int) ≤ x12.toInt ∧ x12.toInt ≤ 1599 := nr_nlel c16 i13 i15 (by decide) (by decide)
      have i22 : (1 : Int) ≤ x14.toInt ∧ x14.toInt ≤ 1600 := nr_nler c16 i13 i15 (by decide) (by decide)
      refine tt_n (ix_ok (show (1 : Int) ≤ (1 : Int32).toInt ∧ (1 : Int32).toInt ≤ 1 by decide) (by decide) (by decide)) ?_
      refine tt_kv (P := fun z => ((0 : Int) ≤ z.toInt ∧ z.toInt ≤ 1599) ∧ z.toInt = (o0.2.1 8 (1 : Int32).toNatClampNeg).toInt) ⟨(k_o0.2 8 _), rfl⟩ (fun x23 qi24 => ?_)
      obtain ⟨i24, ei24⟩ := qi24
      refine tt_kv (P := fun z => ((0 : Int) ≤ z.toInt ∧ z.toInt ≤ 1606) ∧ z.toInt = x23.toInt + v2.toInt) ⟨iv_add i24 i5 (by decide) (by decide) (by decide) (by decide), iq_add i24 i5 (by decide) (by decide)⟩ (fun x25 qi26 => ?_)
      obtain ⟨i26, ei26⟩ := qi26
      refine tt_n (ix_rel (by omega) (by omega)) ?_
      have i27 : (0 : Int) ≤ x25.toInt ∧ x25.toInt ≤ 1599 := (by omega)
      refine tt_kv (P := fun z => ((0 : Int) ≤ z.toInt ∧ z.toInt ≤ 255) ∧ z.toInt = (o0.2.1 1 x25.toNatClampNeg).toInt) ⟨(k_o0.2 1 _), rfl⟩ (fun x28 qi29 => ?_)
      obtain ⟨i29, ei29⟩ := qi29
      try unfold fM_cellLine_136
      refine tt_n (ix_ok i9 (by decide) (by decide)) ?_
      refine tt_ko ?_
      have k30 := ok_xp (k := 80) (i := x8.toNatClampNeg) (v := x28) k_o0 i29
      have r31 := fr_xp (k := 80) (i := x8.toNatClampNeg) (v := x28) r_o0 rfl
      refine tt_kv (P := fun z => ((1 : Int) ≤ z.toInt ∧ z.toInt ≤ 8) ∧ z.toInt = v2.toInt + 1) ⟨iv_add i5 (show (1 : Int) ≤ (1 : Int32).toInt ∧ (1 : Int32).toInt ≤ 1 by decide) (by decide) (by decide) (by decide) (by decide), iq_add i5 (show (1 : Int) ≤ (1 : Int32).toInt ∧ (1 : Int32).toInt ≤ 1 by decide) (by decide) (by decide)⟩ (fun x32 qi33 => ?_)
      obtain ⟨i33, ei33⟩ := qi33
      exact H.1 _ _ k30 r31 (iv_w (a := 0) (b := 8) (by decide) (by decide) i33) f_o0_0 f_o0_5 f_o0_7 f_o0_79 f_o0_95 x_0 (show 3202 + (8 - x32.toInt) * 2 < (n : Int) by omega)
set_option maxHeartbeats 4000000 in
set_option maxRecDepth 100000 in
theorem hM_cellLine (yv1 : Int32) (yo0 : cf_O) : ∀ n, HM_cellLine yv1 yo0 n := by
  intro n
  induction n with
  | zero => exact ⟨(fun v2 o0 k_o0 r_o0 i_v2 f_o0_0 f_o0_5 f_o0_7 f_o0_79 f_o0_95 x_0 hm => by exact absurd (show 3202 + (8 - v2.toInt) * 2 < (0 : Int) from hm) (by omega)), (fun v2 v3 o0 k_o0 r_o0 i_v3 f_o0_0 f_o0_5 f_o0_7 f_o0_79 f_o0_95 x_0 hm => by exact absurd (show 0 + (1600 - v3.toInt) * 2 < (0 : Int) from hm) (by omega))⟩
  | succ n ih => exact ⟨(fun v2 o0 k_o0 r_o0 i_v2 f_o0_0 f_o0_5 f_o0_7 f_o0_79 f_o0_95 x_0 hm => tM_cellLine_83 ih v2 o0 k_o0 r_o0 i_v2 f_o0_0 f_o0_5 f_o0_7 f_o0_79 f_o0_95 x_0 (by omega)), (fun v2 v3 o0 k_o0 r_o0 i_v3 f_o0_0 f_o0_5 f_o0_7 f_o0_79 f_o0_95 x_0 hm => tM_cellLine_152 ih v2 v3 o0 k_o0 r_o0 i_v3 f_o0_0 f_o0_5 f_o0_7 f_o0_79 f_o0_95 x_0 (by omega))⟩
set_option maxHeartbeats 4000000 in
set_option maxRecDepth 100000 in
theorem sM_cellLine (v1 : Int32) (o0 : cf_O) (k_o0 : okO I_M o0) (f_o0_0 : (0 : Int) ≤ (o0.1 0).toInt ∧ (o0.1 0).toInt ≤ 0) (f_o0_5 : (0 : Int) ≤ (o0.1 5).toInt ∧ (o0.1 5).toInt ≤ 0) (f_o0_7 : (1 : Int) ≤ (o0.1 7).toInt ∧ (o0.1 7).toInt ≤ 801) (f_o0_95 : (0 : Int) ≤ (o0.1 95).toInt ∧ (o0.1 95).toInt ≤ 0) (x_0 : Fp (o0.2.1 81)) : tt (fM_cellLine v1 o0) (QM_cellLine v1 o0) := by
  have H := hM_cellLine v1 o0 cfFU
  have hm : (3221 : Int) ≤ (cfFU : Nat) := by decide
  have r_o0 : Fr (fr_M [5, 6, 79] [80, 81] []) o0 o0 := fr_rfl
  unfold fM_cellLine fM_cellLine_0
  have i_v1 := iv_top v1
  refine tt_if (fun c1 => ?_) (fun c1 => ?_)
  · have wc1 : (o0.1 7).toInt = (5 : Int) := c_eq c1
    have i2 : (5 : Int) ≤ (o0.1 7).toInt ∧ (o0.1 7).toInt ≤ 5 := nr_eql c1 f_o0_7 (show (5 : Int) ≤ (5 : Int32).toInt ∧ (5 : Int32).toInt ≤ 5 by decide) (by decide) (by decide)
    refine tt_b (sM_isCellWord _ k_o0 f_o0_0 f_o0_5 i2 f_o0_95) (fun q3 hq3 => ?_)
    obtain ⟨i_q3, -⟩ := hq3
    refine tt_if (fun c4 => ?_) (fun c4 => ?_)
    · have wc4 : q3.toInt = (0 : Int) := c_eq c4
      have i5 : (0 : Int) ≤ q3.toInt ∧ q3.toInt ≤ 0 := nr_eql c4 i_q3 (show (0 : Int) ≤ (0 : Int32).toInt ∧ (0 : Int32).toInt ≤ 0 by decide) (by decide) (by decide)
      try unfold fM_cellLine_59
      try unfold fM_fail
      try unfold fM_fail_0
      refine tt_bif (fun c6 => ?_) (fun c6 => ?_)
      · have wc6 : (o0.1 5).toInt = (0 : Int) := c_eq c6
        refine tt_bko ?_
        have k7 := ok_fp (k := 5) (v := 1) k_o0 (iv_w (a := 0) (b := 4) (by decide) (by decide) (show (1 : Int) ≤ (1 : Int32).toInt ∧ (1 : Int32).toInt ≤ 1 by decide))
        have r8 := fr_fp (k := 5) (v := 1) r_o0 rfl
        refine tt_bko ?_
        have k9 := ok_fp (k := 6) (v := v1) k7 (iv_top v1)
        have r10 := fr_fp (k := 6) (v := v1) r8 rfl
        try unfold fM_fail_17
        refine tt_bs ?_
        exact tt_some ⟨k9, r10, (iv_w (a := 0) (b := 2) (by decide) (by decide) (show (1 : Int) ≤ (1 : Int32).toInt ∧ (1 : Int32).toInt ≤ 1 by decide)), x_0, trivial⟩
      · have wc6 : ¬ (o0.1 5).toInt = (0 : Int) := c_ne c6
        exact (dd_ne c6 f_o0_5 (show (0 : Int) ≤ (0 : Int32).toInt ∧ (0 : Int32).toInt ≤ 0 by decide)).elim
    · have wc4 : ¬ q3.toInt = (0 : Int) := c_ne c4
      have i11 : (1 : Int) ≤ q3.toInt ∧ q3.toInt ≤ 1 := nr_nela c4 i_q3 (show (0 : Int) ≤ (0 : Int32).toInt ∧ (0 : Int32).toInt ≤ 0 by decide) (by decide) (by decide)
      refine tt_if (fun c12 => ?_) (fun c12 => ?_)
      · have wc12 : (o0.1 79).toInt = (12 : Int) := c_eq c12
        have i13 : (12 : Int) ≤ (o0.1 79).toInt ∧ (o0.1 79).toInt ≤ 12 := nr_eql c12 (k_o0.1 79) (show (12 : Int) ≤ (12 : Int32).toInt ∧ (12 : Int32).toInt ≤ 12 by decide) (by decide) (by decide)
        try unfold fM_cellLine_59
        try unfold fM_fail
        try unfold fM_fail_0
        refine tt_bif (fun c14 => ?_) (fun c14 => ?_)
        · have wc14 : (o0.1 5).toInt = (0 : Int) := c_eq c14
          refine tt_bko ?_
          have k15 := ok_fp (k := 5) (v := 1) k_o0 (iv_w (a := 0) (b := 4) (by decide) (by decide) (show (1 : Int) ≤ (1 : Int32).toInt ∧ (1 : Int32).toInt ≤ 1 by decide))
          have r16 := fr_fp (k := 5) (v := 1) r_o0 rfl
          refine tt_bko ?_
          have k17 := ok_fp (k := 6) (v := v1) k15 (iv_top v1)
          have r18 := fr_fp (k := 6) (v := v1) r16 rfl
          try unfold fM_fail_17
          refine tt_bs ?_
          exact tt_some ⟨k17, r18, (iv_w (a := 0) (b := 2) (by decide) (by decide) (show (1 : Int) ≤ (1 : Int32).toInt ∧ (1 : Int32).toInt ≤ 1 by decide)), x_0, trivial⟩
        · have wc14 : ¬ (o0.1 5).toInt = (0 : Int) := c_ne c14
          exact (dd_ne c14 f_o0_5 (show (0 : Int) ≤ (0 : Int32).toInt ∧ (0 : Int32).toInt ≤ 0 by decide)).elim
      · have wc12 : ¬ (o0.1 79).toInt = (12 : Int) := c_ne c12
        have i19 : (0 : Int) ≤ (o0.1 79).toInt ∧ (o0.1 79).toInt ≤ 11 := nr_nelb c12 (k_o0.1 79) (show (12 : Int) ≤ (12 : Int32).toInt ∧ (12 : Int32).toInt ≤ 12 by decide) (by decide) (by decide)
        refine tt_b (sM_isName _ _ k_o0 (iv_w (a := 1) (b := 800) (by decide) (by decide) (show (1 : Int) ≤ (1 : Int32).toInt ∧ (1 : Int32).toInt ≤ 1 by decide)) f_o0_0 f_o0_5 (iv_w (a := 2) (b := 801) (by decide) (by decide) i2) f_o0_95) (fun q20 hq20 => ?_)
        obtain ⟨i_q20, -⟩ := hq20
        refine tt_if (fun c21 => ?_) (fun c21 => ?_)
        · have wc21 : q20.toInt = (0 : Int) := c_eq c21
          have i22 : (0 : Int) ≤ q20.toInt ∧ q20.toInt ≤ 0 := nr_eql c21 i_q20 (show (0 : Int) ≤ (0 : Int32).toInt ∧ (0 : Int32).toInt ≤ 0 by decide) (by decide) (by decide)
          try unfold fM_cellLine_59
          try unfold fM_fail
          try unfold fM_fail_0
          refine tt_bif (fun c23 => ?_) (fun c23 => ?_)
          · have wc23 : (o0.1 5).toInt = (0 : Int) := c_eq c23
            refine tt_bko ?_
            have k24 := ok_fp (k := 5) (v := 1) k_o0 (iv_w (a := 0) (b := 4) (by decide) (by decide) (show (1 : Int) ≤ (1 : Int32).toInt ∧ (1 : Int32).toInt ≤ 1 by decide))
            have r25 := fr_fp (k := 5) (v := 1) r_o0 rfl
            refine tt_bko ?_
            have k26 := ok_fp (k := 6) (v := v1) k24 (iv_top v1)
            have r27 := fr_fp (k := 6) (v := v1) r25 rfl
            try unfold fM_fail_17
            refine tt_bs ?_
            exact tt_some ⟨k26, r27, (iv_w (a := 0) (b := 2) (by decide) (by decide) (show (1 : Int) ≤ (1 : Int32).toInt ∧ (1 : Int32).toInt ≤ 1 by decide)), x_0, trivial⟩
          · have wc23 : ¬ (o0.1 5).toInt = (0 : Int) := c_ne c23
            exact (dd_ne c23 f_o0_5 (show (0 : Int) ≤ (0 : Int32).toInt ∧ (0 : Int32).toInt ≤ 0 by decide)).elim
        · have wc21 : ¬ q20.toInt = (0 : Int) := c_ne c21
          have i28 : (1 : Int) ≤ q20.toInt ∧ q20.toInt ≤ 1 := nr_nela c21 i_q20 (show (0 : Int) ≤ (0 : Int32).toInt ∧ (0 : Int32).toInt ≤ 0 by decide) (by decide) (by decide)
          refine tt_b (sM_digitsOf _ _ _ k_o0 (iv_w (a := 2) (b := 3) (by decide) (by decide) (show (2 : Int) ≤ (2 : Int32).toInt ∧ (2 : Int32).toInt ≤ 2 by decide)) (iv_w (a := 2) (b := 3) (by decide) (by decide) (show (3 : Int) ≤ (3 : Int32).toInt ∧ (3 : Int32).toInt ≤ 3 by decide)) f_o0_0 f_o0_5 i2 i19 f_o0_95) (fun q29 hq29 => ?_)
          have i_q29 := iv_top q29
          refine tt_if (fun c30 => ?_) (fun c30 => ?_)
          · have wc30 : q29.toInt < (0 : Int) := c_lt c30
            have i31 : ((-2147483648) : Int) ≤ q29.toInt ∧ q29.toInt ≤ (-1) := nr_ltl c30 (iv_top q29) (show (0 : Int) ≤ (0 : Int32).toInt ∧ (0 : Int32).toInt ≤ 0 by decide) (by decide) (by decide)
            try unfold fM_cellLine_59
            try unfold fM_fail
            try unfold fM_fail_0
            refine tt_bif (fun c32 => ?_) (fun c32 => ?_)
            · have wc32 : (o0.1 5).toInt = (0 : Int) := c_eq c32
              refine tt_bko ?_
              have k33 := ok_fp (k := 5) (v := 1) k_o0 (iv_w (a := 0) (b := 4) (by decide) (by decide) (show (1 : Int) ≤ (1 : Int32).toInt ∧ (1 : Int32).toInt ≤ 1 by decide))
              have r34 := fr_fp (k := 5) (v := 1) r_o0 rfl
              refine tt_bko ?_
              have k35 := ok_fp (k := 6) (v := v1) k33 (iv_top v1)
              have r36 := fr_fp (k := 6) (v := v1) r34 rfl
              try unfold fM_fail_17
              refine tt_bs ?_
              exact tt_some ⟨k35, r36, (iv_w (a := 0) (b := 2) (by decide) (by decide) (show (1 : Int) ≤ (1 : Int32).toInt ∧ (1 : Int32).toInt ≤ 1 by decide)), x_0, trivial⟩
            · have wc32 : ¬ (o0.1 5).toInt = (0 : Int) := c_ne c32
              exact (dd_ne c32 f_o0_5 (show (0 : Int) ≤ (0 : Int32).toInt ∧ (0 : Int32).toInt ≤ 0 by decide)).elim
          · have wc30 : (0 : Int) ≤ q29.toInt := c_nlt c30
            have i37 : (0 : Int) ≤ q29.toInt ∧ q29.toInt ≤ 2147483647 := nr_nltr c30 (show (0 : Int) ≤ (0 : Int32).toInt ∧ (0 : Int32).toInt ≤ 0 by decide) (iv_top q29) (by decide) (by decide)
            refine tt_b (sM_digitsOf _ _ _ k_o0 (iv_w (a := 2) (b := 3) (by decide) (by decide) (show (3 : Int) ≤ (3 : Int32).toInt ∧ (3 : Int32).toInt ≤ 3 by decide)) (iv_w (a := 2) (b := 3) (by decide) (by decide) (show (2 : Int) ≤ (2 : Int32).toInt ∧ (2 : Int32).toInt ≤ 2 by decide)) f_o0_0 f_o0_5 i2 i19 f_o0_95) (fun q38 hq38 => ?_)
            have i_q38 := iv_top q38
            refine tt_if (fun c39 => ?_) (fun c39 => ?_)
            · have wc39 : q38.toInt < (1 : Int) := c_lt c39
              have i40 : ((-2147483648) : Int) ≤ q38.toInt ∧ q38.toInt ≤ 0 := nr_ltl c39 (iv_top q38) (show (1 : Int) ≤ (1 : Int32).toInt ∧ (1 : Int32).toInt ≤ 1 by decide) (by decide) (by decide)
              try unfold fM_cellLine_59
              try unfold fM_fail
              try unfold fM_fail_0
              refine tt_bif (fun c41 => ?_) (fun c41 => ?_)
              · have wc41 : (o0.1 5).toInt = (0 : Int) := c_eq c41
                refine tt_bko ?_
                have k42 := ok_fp (k := 5) (v := 1) k_o0 (iv_w (a := 0) (b := 4) (by decide) (by decide) (show (1 : Int) ≤ (1 : Int32).toInt ∧ (1 : Int32).toInt ≤ 1 by decide))
                have r43 := fr_fp (k := 5) (v := 1) r_o0 rfl
                refine tt_bko ?_
                have k44 := ok_fp (k := 6) (v := v1) k42 (iv_top v1)
                have r45 := fr_fp (k := 6) (v := v1) r43 rfl
                try unfold fM_fail_17
                refine tt_bs ?_
                exact tt_some ⟨k44, r45, (iv_w (a := 0) (b := 2) (by decide) (by decide) (show (1 : Int) ≤ (1 : Int32).toInt ∧ (1 : Int32).toInt ≤ 1 by decide)), x_0, trivial⟩
              · have wc41 : ¬ (o0.1 5).toInt = (0 : Int) := c_ne c41
                exact (dd_ne c41 f_o0_5 (show (0 : Int) ≤ (0 : Int32).toInt ∧ (0 : Int32).toInt ≤ 0 by decide)).elim
            · have wc39 : (1 : Int) ≤ q38.toInt := c_nlt c39
              have i46 : (1 : Int) ≤ q38.toInt ∧ q38.toInt ≤ 2147483647 := nr_nltr c39 (show (1 : Int) ≤ (1 : Int32).toInt ∧ (1 : Int32).toInt ≤ 1 by decide) (iv_top q38) (by decide) (by decide)
              refine tt_b (sM_pinsOf _ _ k_o0 (show (4 : Int) ≤ (4 : Int32).toInt ∧ (4 : Int32).toInt ≤ 4 by decide) f_o0_0 f_o0_5 i2 i19 f_o0_95) (fun q47 hq47 => ?_)
              obtain ⟨i_q47, -⟩ := hq47
              refine tt_if (fun c48 => ?_) (fun c48 => ?_)
              · have wc48 : q47.toInt = (0 : Int) := c_eq c48
                have i49 : (0 : Int) ≤ q47.toInt ∧ q47.toInt ≤ 0 := nr_eql c48 i_q47 (show (0 : Int) ≤ (0 : Int32).toInt ∧ (0 : Int32).toInt ≤ 0 by decide) (by decide) (by decide)
                try unfold fM_cellLine_59
                try unfold fM_fail
                try unfold fM_fail_0
                refine tt_bif (fun c50 => ?_) (fun c50 => ?_)
                · have wc50 : (o0.1 5).toInt = (0 : Int) := c_eq c50
                  refine tt_bko ?_
                  have k51 := ok_fp (k := 5) (v := 1) k_o0 (iv_w (a := 0) (b := 4) (by decide) (by decide) (show (1 : Int) ≤ (1 : Int32).toInt ∧ (1 : Int32).toInt ≤ 1 by decide))
                  have r52 := fr_fp (k := 5) (v := 1) r_o0 rfl
                  refine tt_bko ?_
                  have k53 := ok_fp (k := 6) (v := v1) k51 (iv_top v1)
                  have r54 := fr_fp (k := 6) (v := v1) r52 rfl
                  try unfold fM_fail_17
                  refine tt_bs ?_
                  exact tt_some ⟨k53, r54, (iv_w (a := 0) (b := 2) (by decide) (by decide) (show (1 : Int) ≤ (1 : Int32).toInt ∧ (1 : Int32).toInt ≤ 1 by decide)), x_0, trivial⟩
                · have wc50 : ¬ (o0.1 5).toInt = (0 : Int) := c_ne c50
                  exact (dd_ne c50 f_o0_5 (show (0 : Int) ≤ (0 : Int32).toInt ∧ (0 : Int32).toInt ≤ 0 by decide)).elim
              · have wc48 : ¬ q47.toInt = (0 : Int) := c_ne c48
                have i55 : (1 : Int) ≤ q47.toInt ∧ q47.toInt ≤ 3 := nr_nela c48 i_q47 (show (0 : Int) ≤ (0 : Int32).toInt ∧ (0 : Int32).toInt ≤ 0 by decide) (by decide) (by decide)
                refine tt_b (sM_isTaken _ _ k_o0 (show (1 : Int) ≤ (1 : Int32).toInt ∧ (1 : Int32).toInt ≤ 1 by decide) f_o0_0 f_o0_5 i2 i19 f_o0_95) (fun q56 hq56 => ?_)
                obtain ⟨i_q56, -⟩ := hq56
                refine tt_if (fun c57 => ?_) (fun c57 => ?_)
                · have wc57 : q56.toInt = (0 : Int) := c_eq c57
                  have i58 : (0 : Int) ≤ q56.toInt ∧ q56.toInt ≤ 0 := nr_eql c57 i_q56 (show (0 : Int) ≤ (0 : Int32).toInt ∧ (0 : Int32).toInt ≤ 0 by decide) (by decide) (by decide)
                  exact H.1 _ _ k_o0 r_o0 (iv_w (a := 0) (b := 8) (by decide) (by decide) (show (0 : Int) ≤ (0 : Int32).toInt ∧ (0 : Int32).toInt ≤ 0 by decide)) f_o0_0 f_o0_5 i2 i19 f_o0_95 x_0 (show 3202 + (8 - 0) * 2 < ((cfFU : Nat) : Int) by omega)
                · have wc57 : ¬ q56.toInt = (0 : Int) := c_ne c57
                  have i59 : (1 : Int) ≤ q56.toInt ∧ q56.toInt ≤ 1 := nr_nela c57 i_q56 (show (0 : Int) ≤ (0 : Int32).toInt ∧ (0 : Int32).toInt ≤ 0 by decide) (by decide) (by decide)
                  try unfold fM_fail
                  try unfold fM_fail_0
                  refine tt_bif (fun c60 => ?_) (fun c60 => ?_)
                  · have wc60 : (o0.1 5).toInt = (0 : Int) := c_eq c60
                    refine tt_bko ?_
                    have k61 := ok_fp (k := 5) (v := 2) k_o0 (iv_w (a := 0) (b := 4) (by decide) (by decide) (show (2 : Int) ≤ (2 : Int32).toInt ∧ (2 : Int32).toInt ≤ 2 by decide))
                    have r62 := fr_fp (k := 5) (v := 2) r_o0 rfl
                    refine tt_bko ?_
                    have k63 := ok_fp (k := 6) (v := v1) k61 (iv_top v1)
                    have r64 := fr_fp (k := 6) (v := v1) r62 rfl
                    try unfold fM_fail_17
                    refine tt_bs ?_
                    exact tt_some ⟨k63, r64, (iv_w (a := 0) (b := 2) (by decide) (by decide) (show (2 : Int) ≤ (2 : Int32).toInt ∧ (2 : Int32).toInt ≤ 2 by decide)), x_0, trivial⟩
                  · have wc60 : ¬ (o0.1 5).toInt = (0 : Int) := c_ne c60
                    exact (dd_ne c60 f_o0_5 (show (0 : Int) ≤ (0 : Int32).toInt ∧ (0 : Int32).toInt ≤ 0 by decide)).elim
  · have wc1 : ¬ (o0.1 7).toInt = (5 : Int) := c_ne c1
    try unfold fM_cellLine_59
    try unfold fM_fail
    try unfold fM_fail_0
    refine tt_bif (fun c65 => ?_) (fun c65 => ?_)
    · have wc65 : (o0.1 5).toInt = (0 : Int) := c_eq c65
      refine tt_bko ?_
      have k66 := ok_fp (k := 5) (v := 1) k_o0 (iv_w (a := 0) (b := 4) (by decide) (by decide) (show (1 : Int) ≤ (1 : Int32).toInt ∧ (1 : Int32).toInt ≤ 1 by decide))
      have r67 := fr_fp (k := 5) (v := 1) r_o0 rfl
      refine tt_bko ?_
      have k68 := ok_fp (k := 6) (v := v1) k66 (iv_top v1)
      have r69 := fr_fp (k := 6) (v := v1) r67 rfl
      try unfold fM_fail_17
      refine tt_bs ?_
      exact tt_some ⟨k68, r69, (iv_w (a := 0) (b := 2) (by decide) (by decide) (show (1 : Int) ≤ (1 : Int32).toInt ∧ (1 : Int32).toInt ≤ 1 by decide)), x_0, trivial⟩
    · have wc65 : ¬ (o0.1 5).toInt = (0 : Int) := c_ne c65
      exact (dd_ne c65 f_o0_5 (show (0 : Int) ≤ (0 : Int32).toInt ∧ (0 : Int32).toInt ≤ 0 by decide)).elim
def QM_readLibrary (o0 : cf_O) (r : (cf_O)) : Prop := (okO I_M r) ∧ (Fr (fr_M [5, 6, 7, 79] [8, 9, 80, 81] []) o0 r) ∧ ((0 : Int) ≤ (r.1 5).toInt ∧ (r.1 5).toInt ≤ 2) ∧ (Fp (r.2.1 81)) ∧ True
def HM_readLibrary (yo0 : cf_O) (n : Nat) : Prop := (∀ (v1 : Int32) (v2 : Int32) (v3 : Int32) (o0 : cf_O), (okO I_M o0) → (Fr (fr_M [5, 6, 7, 79] [8, 9, 80, 81] []) yo0 o0) → ((0 : Int) ≤ v1.toInt ∧ v1.toInt ≤ 1) → ((0 : Int) ≤ v3.toInt ∧ v3.toInt ≤ 1601) → ((0 : Int) ≤ (o0.1 0).toInt ∧ (o0.1 0).toInt ≤ 0) → ((0 : Int) ≤ (o0.1 5).toInt ∧ (o0.1 5).toInt ≤ 2) → ((0 : Int) ≤ (o0.1 95).toInt ∧ (o0.1 95).toInt ≤ 0) → (Fp (o0.2.1 81)) → 1602 - v3.toInt < (n : Int) → tt (gM_readLibrary n 0 v1 v2 v3 o0) (QM_readLibrary yo0))
set_option maxHeartbeats 4000000 in
set_option maxRecDepth 100000 in
theorem tM_readLibrary_21 {yo0 : cf_O} {n : Nat} (H : HM_readLibrary yo0 n) (v1 : Int32) (v2 : Int32) (v3 : Int32) (o0 : cf_O) (k_o0 : okO I_M o0) (r_o0 : Fr (fr_M [5, 6, 7, 79] [8, 9, 80, 81] []) yo0 o0) (i_v1 : (0 : Int) ≤ v1.toInt ∧ v1.toInt ≤ 1) (i_v3 : (0 : Int) ≤ v3.toInt ∧ v3.toInt ≤ 1601) (f_o0_0 : (0 : Int) ≤ (o0.1 0).toInt ∧ (o0.1 0).toInt ≤ 0) (f_o0_5 : (0 : Int) ≤ (o0.1 5).toInt ∧ (o0.1 5).toInt ≤ 2) (f_o0_95 : (0 : Int) ≤ (o0.1 95).toInt ∧ (o0.1 95).toInt ≤ 0) (x_0 : Fp (o0.2.1 81)) (hm : 1602 - v3.toInt ≤ (n : Int)) : tt (fM_readLibrary_21 (gM_readLibrary n) v1 v2 v3 o0) (QM_readLibrary yo0) := by
  unfold fM_readLibrary_21
  have i_v2 := iv_top v2
  have g_o0_2 : (0 : Int) ≤ (o0.1 2).toInt ∧ (o0.1 2).toInt ≤ 1600 := k_o0.1 2
  have ey_o0_2 : (o0.1 2).toInt = (yo0.1 2).toInt := congrArg Int32.toInt (r_o0.1 2 rfl)
  refine tt_if (fun c1 => ?_) (fun c1 => ?_)
  · have wc1 : (o0.1 2).toInt < v3.toInt := c_lt c1
    have i2 : (1 : Int) ≤ v3.toInt ∧ v3.toInt ≤ 1601 := nr_ltr c1 (k_o0.1 2) i_v3 (by decide) (by decide)
    try unfold fM_readLibrary_129
    refine tt_if (fun c3 => ?_) (fun c3 => ?_)
    · have wc3 : v1.toInt = (0 : Int) := c_eq c3
      have i4 : (0 : Int) ≤ v1.toInt ∧ v1.toInt ≤ 0 := nr_eql c3 i_v1 (show (0 : Int) ≤ (0 : Int32).toInt ∧ (0 : Int32).toInt ≤ 0 by decide) (by decide) (by decide)
      try unfold fM_fail
      try unfold fM_fail_0
      refine tt_bif (fun c5 => ?_) (fun c5 => ?_)
      · have wc5 : (o0.1 5).toInt = (0 : Int) := c_eq c5
        have i6 : (0 : Int) ≤ (o0.1 5).toInt ∧ (o0.1 5).toInt ≤ 0 := nr_eql c5 f_o0_5 (show (0 : Int) ≤ (0 : Int32).toInt ∧ (0 : Int32).toInt ≤ 0 by decide) (by decide) (by decide)
        refine tt_bko ?_
        have k7 := ok_fp (k := 5) (v := 1) k_o0 (iv_w (a := 0) (b := 4) (by decide) (by decide) (show (1 : Int) ≤ (1 : Int32).toInt ∧ (1 : Int32).toInt ≤ 1 by decide))
        have r8 := fr_fp (k := 5) (v := 1) r_o0 rfl
        refine tt_bko ?_
        have k9 := ok_fp (k := 6) (v := v2) k7 (iv_top v2)
        have r10 := fr_fp (k := 6) (v := v2) r8 rfl
        try unfold fM_fail_17
        refine tt_bs ?_
        try unfold fM_readLibrary_139
        exact tt_some ⟨k9, r10, (iv_w (a := 0) (b := 2) (by decide) (by decide) (show (1 : Int) ≤ (1 : Int32).toInt ∧ (1 : Int32).toInt ≤ 1 by decide)), x_0, trivial⟩
      · have wc5 : ¬ (o0.1 5).toInt = (0 : Int) := c_ne c5
        have i11 : (1 : Int) ≤ (o0.1 5).toInt ∧ (o0.1 5).toInt ≤ 2 := nr_nela c5 f_o0_5 (show (0 : Int) ≤ (0 : Int32).toInt ∧ (0 : Int32).toInt ≤ 0 by decide) (by decide) (by decide)
        try unfold fM_fail_17
        refine tt_bs ?_
        try unfold fM_readLibrary_139
        exact tt_some ⟨k_o0, r_o0, (iv_w (a := 0) (b := 2) (by decide) (by decide) i11), x_0, trivial⟩
    · have wc3 : ¬ v1.toInt = (0 : Int) := c_ne c3
      have i12 : (1 : Int) ≤ v1.toInt ∧ v1.toInt ≤ 1 := nr_nela c3 i_v1 (show (0 : Int) ≤ (0 : Int32).toInt ∧ (0 : Int32).toInt ≤ 0 by decide) (by decide) (by decide)
      try unfold fM_readLibrary_139
      exact tt_some ⟨k_o0, r_o0, f_o0_5, x_0, trivial⟩
  · have wc1 : v3.toInt ≤ (o0.1 2).toInt := c_nlt c1
    have i13 : (0 : Int) ≤ v3.toInt ∧ v3.toInt ≤ 1600 := nr_nltl c1 i_v3 (k_o0.1 2) (by decide) (by decide)
    refine tt_if (fun c14 => ?_) (fun c14 => ?_)
    · have wc14 : (o0.1 5).toInt = (0 : Int) := c_eq c14
      have i15 : (0 : Int) ≤ (o0.1 5).toInt ∧ (o0.1 5).toInt ≤ 0 := nr_eql c14 f_o0_5 (show (0 : Int) ≤ (0 : Int32).toInt ∧ (0 : Int32).toInt ≤ 0 by decide) (by decide) (by decide)
      refine tt_b (sM_takeLine _ _ k_o0 i13 f_o0_0 i15 f_o0_95) (fun q16 hq16 => ?_)
      obtain ⟨i_q16, k_q16_2, n_q16_2, zq16_0, -⟩ := hq16
      have r_q16_2 := fr_tr r_o0 n_q16_2 rfl rfl rfl
      have f_q16_2_0 : (0 : Int) ≤ (q16.2.1 0).toInt ∧ (q16.2.1 0).toInt ≤ 0 := by rw [n_q16_2.1 0 rfl]; exact f_o0_0
      have f_q16_2_5 : (0 : Int) ≤ (q16.2.1 5).toInt ∧ (q16.2.1 5).toInt ≤ 0 := by rw [n_q16_2.1 5 rfl]; exact i15
      have f_q16_2_95 : (0 : Int) ≤ (q16.2.1 95).toInt ∧ (q16.2.1 95).toInt ≤ 0 := by rw [n_q16_2.1 95 rfl]; exact f_o0_95
      have e_q16_2_2 : (q16.2.1 2).toInt = (o0.1 2).toInt := congrArg Int32.toInt (n_q16_2.1 2 rfl)
      have g_q16_2_2 : (0 : Int) ≤ (q16.2.1 2).toInt ∧ (q16.2.1 2).toInt ≤ 1600 := k_q16_2.1 2
      have zq16_0 : v3.toInt ≤ q16.1.toInt := zq16_0
      have u17 : Fp (q16.2.2.1 81) := by rw [n_q16_2.2.1 81 rfl]; exact x_0
      refine tt_if (fun c18 => ?_) (fun c18 => ?_)
      · have wc18 : (q16.2.1 7).toInt = (0 : Int) := c_eq c18
        have i19 : (0 : Int) ≤ (q16.2.1 7).toInt ∧ (q16.2.1 7).toInt ≤ 0 := nr_eql c18 (k_q16_2.1 7) (show (0 : Int) ≤ (0 : Int32).toInt ∧ (0 : Int32).toInt ≤ 0 by decide) (by decide) (by decide)
        try unfold fM_readLibrary_55
        refine tt_if (fun c20 => ?_) (fun c20 => ?_)
        · have wc20 : (1 : Int) = (0 : Int) := c_eq c20
          exact (dd_eq c20 (show (1 : Int) ≤ (1 : Int32).toInt ∧ (1 : Int32).toInt ≤ 1 by decide) (show (0 : Int) ≤ (0 : Int32).toInt ∧ (0 : Int32).toInt ≤ 0 by decide) (by decide)).elim
        · have wc20 : ¬ (1 : Int) = (0 : Int) := c_ne c20
          try unfold fM_readLibrary_75
          refine tt_if (fun c21 => ?_) (fun c21 => ?_)
          · have wc21 : (1 : Int) = (0 : Int) := c_eq c21
            exact (dd_eq c21 (show (1 : Int) ≤ (1 : Int32).toInt ∧ (1 : Int32).toInt ≤ 1 by decide) (show (0 : Int) ≤ (0 : Int32).toInt ∧ (0 : Int32).toInt ≤ 0 by decide) (by decide)).elim
          · have wc21 : ¬ (1 : Int) = (0 : Int) := c_ne c21
            try unfold fM_readLibrary_108
            refine tt_if (fun c22 => ?_) (fun c22 => ?_)
            · have wc22 : (1 : Int) = (0 : Int) := c_eq c22
              exact (dd_eq c22 (show (1 : Int) ≤ (1 : Int32).toInt ∧ (1 : Int32).toInt ≤ 1 by decide) (show (0 : Int) ≤ (0 : Int32).toInt ∧ (0 : Int32).toInt ≤ 0 by decide) (by decide)).elim
            · have wc22 : ¬ (1 : Int) = (0 : Int) := c_ne c22
              try unfold fM_readLibrary_118
              refine tt_kv (P := fun z => ((1 : Int) ≤ z.toInt ∧ z.toInt ≤ 1601) ∧ z.toInt = q16.1.toInt + 1) ⟨iv_add i_q16 (show (1 : Int) ≤ (1 : Int32).toInt ∧ (1 : Int32).toInt ≤ 1 by decide) (by decide) (by decide) (by decide) (by decide), iq_add i_q16 (show (1 : Int) ≤ (1 : Int32).toInt ∧ (1 : Int32).toInt ≤ 1 by decide) (by decide) (by decide)⟩ (fun x23 qi24 => ?_)
              obtain ⟨i24, ei24⟩ := qi24
              refine tt_kv (P := fun z => ((-2147483648) : Int) ≤ z.toInt ∧ z.toInt ≤ 2147483647) (iv_top _) (fun x25 i26 => ?_)
              exact H _ _ _ _ k_q16_2 r_q16_2 i_v1 (iv_w (a := 0) (b := 1601) (by decide) (by decide) i24) f_q16_2_0 (iv_w (a := 0) (b := 2) (by decide) (by decide) f_q16_2_5) f_q16_2_95 u17 (show 1602 - x23.toInt < (n : Int) by omega)
      · have wc18 : ¬ (q16.2.1 7).toInt = (0 : Int) := c_ne c18
        have i27 : (1 : Int) ≤ (q16.2.1 7).toInt ∧ (q16.2.1 7).toInt ≤ 801 := nr_nela c18 (k_q16_2.1 7) (show (0 : Int) ≤ (0 : Int32).toInt ∧ (0 : Int32).toInt ≤ 0 by decide) (by decide) (by decide)
        try unfold fM_readLibrary_55
        refine tt_if (fun c28 => ?_) (fun c28 => ?_)
        · have wc28 : (0 : Int) = (0 : Int) := c_eq c28
          refine tt_if (fun c29 => ?_) (fun c29 => ?_)
          · have wc29 : v1.toInt = (0 : Int) := c_eq c29
            have i30 : (0 : Int) ≤ v1.toInt ∧ v1.toInt ≤ 0 := nr_eql c29 i_v1 (show (0 : Int) ≤ (0 : Int32).toInt ∧ (0 : Int32).toInt ≤ 0 by decide) (by decide) (by decide)
            try unfold fM_readLibrary_75
            refine tt_if (fun c31 => ?_) (fun c31 => ?_)
            · have wc31 : (0 : Int) = (0 : Int) := c_eq c31
              refine tt_if (fun c32 => ?_) (fun c32 => ?_)
              · have wc32 : (q16.2.1 79).toInt ≤ (0 : Int) := c_le c32
                have i33 : (0 : Int) ≤ (q16.2.1 79).toInt ∧ (q16.2.1 79).toInt ≤ 0 := nr_lel c32 (k_q16_2.1 79) (show (0 : Int) ≤ (0 : Int32).toInt ∧ (0 : Int32).toInt ≤ 0 by decide) (by decide) (by decide)
                try unfold fM_readLibrary_108
                refine tt_if (fun c34 => ?_) (fun c34 => ?_)
                · have wc34 : (0 : Int) = (0 : Int) := c_eq c34
                  refine tt_b (sM_cellLine _ _ k_q16_2 f_q16_2_0 f_q16_2_5 i27 f_q16_2_95 u17) (fun q35 hq35 => ?_)
                  obtain ⟨k_q35, n_q35, f_q35_5, zq35_0, -⟩ := hq35
                  have r_q35 := fr_tr r_q16_2 n_q35 rfl rfl rfl
                  have f_q35_0 : (0 : Int) ≤ (q35.1 0).toInt ∧ (q35.1 0).toInt ≤ 0 := by rw [n_q35.1 0 rfl]; exact f_q16_2_0
                  have f_q35_7 : (1 : Int) ≤ (q35.1 7).toInt ∧ (q35.1 7).toInt ≤ 801 := by rw [n_q35.1 7 rfl]; exact i27
                  have f_q35_95 : (0 : Int) ≤ (q35.1 95).toInt ∧ (q35.1 95).toInt ≤ 0 := by rw [n_q35.1 95 rfl]; exact f_q16_2_95
                  have e_q35_2 : (q35.1 2).toInt = (q16.2.1 2).toInt := congrArg Int32.toInt (n_q35.1 2 rfl)
                  have g_q35_2 : (0 : Int) ≤ (q35.1 2).toInt ∧ (q35.1 2).toInt ≤ 1600 := k_q35.1 2
                  try unfold fM_readLibrary_118
                  refine tt_kv (P := fun z => ((1 : Int) ≤ z.toInt ∧ z.toInt ≤ 1601) ∧ z.toInt = q16.1.toInt + 1) ⟨iv_add i_q16 (show (1 : Int) ≤ (1 : Int32).toInt ∧ (1 : Int32).toInt ≤ 1 by decide) (by decide) (by decide) (by decide) (by decide), iq_add i_q16 (show (1 : Int) ≤ (1 : Int32).toInt ∧ (1 : Int32).toInt ≤ 1 by decide) (by decide) (by decide)⟩ (fun x36 qi37 => ?_)
                  obtain ⟨i37, ei37⟩ := qi37
                  refine tt_kv (P := fun z => ((-2147483648) : Int) ≤ z.toInt ∧ z.toInt ≤ 2147483647) (iv_top _) (fun x38 i39 => ?_)
                  exact H _ _ _ _ k_q35 r_q35 (iv_w (a := 0) (b := 1) (by decide) (by decide) i30) (iv_w (a := 0) (b := 1601) (by decide) (by decide) i37) f_q35_0 f_q35_5 f_q35_95 zq35_0 (show 1602 - x36.toInt < (n : Int) by omega)
                · have wc34 : ¬ (0 : Int) = (0 : Int) := c_ne c34
                  exact (dd_ne c34 (show (0 : Int) ≤ (0 : Int32).toInt ∧ (0 : Int32).toInt ≤ 0 by decide) (show (0 : Int) ≤ (0 : Int32).toInt ∧ (0 : Int32).toInt ≤ 0 by decide)).elim
              · have wc32 : (0 : Int) < (q16.2.1 79).toInt := c_nle c32
                have i40 : (1 : Int) ≤ (q16.2.1 79).toInt ∧ (q16.2.1 79).toInt ≤ 12 := nr_nler c32 (show (0 : Int) ≤ (0 : Int32).toInt ∧ (0 : Int32).toInt ≤ 0 by decide) (k_q16_2.1 79) (by decide) (by decide)
                refine tt_if (fun c41 => ?_) (fun c41 => ?_)
                · have wc41 : (q16.2.1 7).toInt = (1 : Int) := c_eq c41
                  have i42 : (1 : Int) ≤ (q16.2.1 7).toInt ∧ (q16.2.1 7).toInt ≤ 1 := nr_eql c41 i27 (show (1 : Int) ≤ (1 : Int32).toInt ∧ (1 : Int32).toInt ≤ 1 by decide) (by decide) (by decide)
                  refine tt_b (sM_firstWord _ k_q16_2 f_q16_2_0 f_q16_2_5 (iv_w (a := 1) (b := 801) (by decide) (by decide) i42) f_q16_2_95) (fun q43 hq43 => ?_)
                  obtain ⟨i_q43, -⟩ := hq43
                  refine tt_if (fun c44 => ?_) (fun c44 => ?_)
                  · have wc44 : q43.toInt = (3 : Int) := c_eq c44
                    have i45 : (3 : Int) ≤ q43.toInt ∧ q43.toInt ≤ 3 := nr_eql c44 i_q43 (show (3 : Int) ≤ (3 : Int32).toInt ∧ (3 : Int32).toInt ≤ 3 by decide) (by decide) (by decide)
                    try unfold fM_readLibrary_118
                    refine tt_kv (P := fun z => ((1 : Int) ≤ z.toInt ∧ z.toInt ≤ 1601) ∧ z.toInt = q16.1.toInt + 1) ⟨iv_add i_q16 (show (1 : Int) ≤ (1 : Int32).toInt ∧ (1 : Int32).toInt ≤ 1 by decide) (by decide) (by decide) (by decide) (by decide), iq_add i_q16 (show (1 : Int) ≤ (1 : Int32).toInt ∧ (1 : Int32).toInt ≤ 1 by decide) (by decide) (by decide)⟩ (fun x46 qi47 => ?_)
                    obtain ⟨i47, ei47⟩ := qi47
                    refine tt_kv (P := fun z => ((-2147483648) : Int) ≤ z.toInt ∧ z.toInt ≤ 2147483647) (iv_top _) (fun x48 i49 => ?_)
                    exact H _ _ _ _ k_q16_2 r_q16_2 (iv_w (a := 0) (b := 1) (by decide) (by decide) (show (1 : Int) ≤ (1 : Int32).toInt ∧ (1 : Int32).toInt ≤ 1 by decide)) (iv_w (a := 0) (b := 1601) (by decide) (by decide) i47) f_q16_2_0 (iv_w (a := 0) (b := 2) (by decide) (by decide) f_q16_2_5) f_q16_2_95 u17 (show 1602 - x46.toInt < (n : Int) by omega)
                  · have wc44 : ¬ q43.toInt = (3 : Int) := c_ne c44
                    have i50 : ((-1) : Int) ≤ q43.toInt ∧ q43.toInt ≤ 2 := nr_nelb c44 i_q43 (show (3 : Int) ≤ (3 : Int32).toInt ∧ (3 : Int32).toInt ≤ 3 by decide) (by decide) (by decide)
                    try unfold fM_readLibrary_108
                    refine tt_if (fun c51 => ?_) (fun c51 => ?_)
                    · have wc51 : (0 : Int) = (0 : Int) := c_eq c51
                      refine tt_b (sM_cellLine _ _ k_q16_2 f_q16_2_0 f_q16_2_5 (iv_w (a := 1) (b := 801) (by decide) (by decide) i42) f_q16_2_95 u17) (fun q52 hq52 => ?_)
                      obtain ⟨k_q52, n_q52, f_q52_5, zq52_0, -⟩ := hq52
                      have r_q52 := fr_tr r_q16_2 n_q52 rfl rfl rfl
                      have f_q52_0 : (0 : Int) ≤ (q52.1 0).toInt ∧ (q52.1 0).toInt ≤ 0 := by rw [n_q52.1 0 rfl]; exact f_q16_2_0
                      have f_q52_7 : (1 : Int) ≤ (q52.1 7).toInt ∧ (q52.1 7).toInt ≤ 1 := by rw [n_q52.1 7 rfl]; exact i42
                      have f_q52_95 : (0 : Int) ≤ (q52.1 95).toInt ∧ (q52.1 95).toInt ≤ 0 := by rw [n_q52.1 95 rfl]; exact f_q16_2_95
                      have e_q52_2 : (q52.1 2).toInt = (q16.2.1 2).toInt := congrArg Int32.toInt (n_q52.1 2 rfl)
                      have g_q52_2 : (0 : Int) ≤ (q52.1 2).toInt ∧ (q52.1 2).toInt ≤ 1600 := k_q52.1 2
                      try unfold fM_readLibrary_118
                      refine tt_kv (P := fun z => ((1 : Int) ≤ z.toInt ∧ z.toInt ≤ 1601) ∧ z.toInt = q16.1.toInt + 1) ⟨iv_add i_q16 (show (1 : Int) ≤ (1 : Int32).toInt ∧ (1 : Int32).toInt ≤ 1 by decide) (by decide) (by decide) (by decide) (by decide), iq_add i_q16 (show (1 : Int) ≤ (1 : Int32).toInt ∧ (1 : Int32).toInt ≤ 1 by decide) (by decide) (by decide)⟩ (fun x53 qi54 => ?_)
                      obtain ⟨i54, ei54⟩ := qi54
                      refine tt_kv (P := fun z => ((-2147483648) : Int) ≤ z.toInt ∧ z.toInt ≤ 2147483647) (iv_top _) (fun x55 i56 => ?_)
                      exact H _ _ _ _ k_q52 r_q52 (iv_w (a := 0) (b := 1) (by decide) (by decide) i30) (iv_w (a := 0) (b := 1601) (by decide) (by decide) i54) f_q52_0 f_q52_5 f_q52_95 zq52_0 (show 1602 - x53.toInt < (n : Int) by omega)
                    · have wc51 : ¬ (0 : Int) = (0 : Int) := c_ne c51
                      exact (dd_ne c51 (show (0 : Int) ≤ (0 : Int32).toInt ∧ (0 : Int32).toInt ≤ 0 by decide) (show (0 : Int) ≤ (0 : Int32).toInt ∧ (0 : Int32).toInt ≤ 0 by decide)).elim
                · have wc41 : ¬ (q16.2.1 7).toInt = (1 : Int) := c_ne c41
                  have i57 : (2 : Int) ≤ (q16.2.1 7).toInt ∧ (q16.2.1 7).toInt ≤ 801 := nr_nela c41 i27 (show (1 : Int) ≤ (1 : Int32).toInt ∧ (1 : Int32).toInt ≤ 1 by decide) (by decide) (by decide)
                  try unfold fM_readLibrary_108
                  refine tt_if (fun c58 => ?_) (fun c58 => ?_)
                  · have wc58 : (0 : Int) = (0 : Int) := c_eq c58
                    refine tt_b (sM_cellLine _ _ k_q16_2 f_q16_2_0 f_q16_2_5 (iv_w (a := 1) (b := 801) (by decide) (by decide) i57) f_q16_2_95 u17) (fun q59 hq59 => ?_)
                    obtain ⟨k_q59, n_q59, f_q59_5, zq59_0, -⟩ := hq59
                    have r_q59 := fr_tr r_q16_2 n_q59 rfl rfl rfl
                    have f_q59_0 : (0 : Int) ≤ (q59.1 0).toInt ∧ (q59.1 0).toInt ≤ 0 := by rw [n_q59.1 0 rfl]; exact f_q16_2_0
                    have f_q59_7 : (2 : Int) ≤ (q59.1 7).toInt ∧ (q59.1 7).toInt ≤ 801 := by rw [n_q59.1 7 rfl]; exact i57
                    have f_q59_95 : (0 : Int) ≤ (q59.1 95).toInt ∧ (q59.1 95).toInt ≤ 0 := by rw [n_q59.1 95 rfl]; exact f_q16_2_95
                    have e_q59_2 : (q59.1 2).toInt = (q16.2.1 2).toInt := congrArg Int32.toInt (n_q59.1 2 rfl)
                    have g_q59_2 : (0 : Int) ≤ (q59.1 2).toInt ∧ (q59.1 2).toInt ≤ 1600 := k_q59.1 2
                    try unfold fM_readLibrary_118
                    refine tt_kv (P := fun z => ((1 : Int) ≤ z.toInt ∧ z.toInt ≤ 1601) ∧ z.toInt = q16.1.toInt + 1) ⟨iv_add i_q16 (show (1 : Int) ≤ (1 : Int32).toInt ∧ (1 : Int32).toInt ≤ 1 by decide) (by decide) (by decide) (by decide) (by decide), iq_add i_q16 (show (1 : Int) ≤ (1 : Int32).toInt ∧ (1 : Int32).toInt ≤ 1 by decide) (by decide) (by decide)⟩ (fun x60 qi61 => ?_)
                    obtain ⟨i61, ei61⟩ := qi61
                    refine tt_kv (P := fun z => ((-2147483648) : Int) ≤ z.toInt ∧ z.toInt ≤ 2147483647) (iv_top _) (fun x62 i63 => ?_)
                    exact H _ _ _ _ k_q59 r_q59 (iv_w (a := 0) (b := 1) (by decide) (by decide) i30) (iv_w (a := 0) (b := 1601) (by decide) (by decide) i61) f_q59_0 f_q59_5 f_q59_95 zq59_0 (show 1602 - x60.toInt < (n : Int) by omega)
                  · have wc58 : ¬ (0 : Int) = (0 : Int) := c_ne c58
                    exact (dd_ne c58 (show (0 : Int) ≤ (0 : Int32).toInt ∧ (0 : Int32).toInt ≤ 0 by decide) (show (0 : Int) ≤ (0 : Int32).toInt ∧ (0 : Int32).toInt ≤ 0 by decide)).elim
            · have wc31 : ¬ (0 : Int) = (0 : Int) := c_ne c31
              exact (dd_ne c31 (show (0 : Int) ≤ (0 : Int32).toInt ∧ (0 : Int32).toInt ≤ 0 by decide) (show (0 : Int) ≤ (0 : Int32).toInt ∧ (0 : Int32).toInt ≤ 0 by decide)).elim
          · have wc29 : ¬ v1.toInt = (0 : Int) := c_ne c29
            have i64 : (1 : Int) ≤ v1.toInt ∧ v1.toInt ≤ 1 := nr_nela c29 i_v1 (show (0 : Int) ≤ (0 : Int32).toInt ∧ (0 : Int32).toInt ≤ 0 by decide) (by decide) (by decide)
            try unfold fM_fail
            try unfold fM_fail_0
            refine tt_bif (fun c65 => ?_) (fun c65 => ?_)
            · have wc65 : (q16.2.1 5).toInt = (0 : Int) := c_eq c65
              refine tt_bko ?_
              have k66 := ok_fp (k := 5) (v := 1) k_q16_2 (iv_w (a := 0) (b := 4) (by decide) (by decide) (show (1 : Int) ≤ (1 : Int32).toInt ∧ (1 : Int32).toInt ≤ 1 by decide))
              have r67 := fr_fp (k := 5) (v := 1) r_q16_2 rfl
              refine tt_bko ?_
              have k68 := ok_fp (k := 6) (v := v2) k66 (iv_top v2)
              have r69 := fr_fp (k := 6) (v := v2) r67 rfl
              try unfold fM_fail_17
              refine tt_bs ?_
              try unfold fM_readLibrary_118
              refine tt_kv (P := fun z => ((1 : Int) ≤ z.toInt ∧ z.toInt ≤ 1601) ∧ z.toInt = q16.1.toInt + 1) ⟨iv_add i_q16 (show (1 : Int) ≤ (1 : Int32).toInt ∧ (1 : Int32).toInt ≤ 1 by decide) (by decide) (by decide) (by decide) (by decide), iq_add i_q16 (show (1 : Int) ≤ (1 : Int32).toInt ∧ (1 : Int32).toInt ≤ 1 by decide) (by decide) (by decide)⟩ (fun x70 qi71 => ?_)
              obtain ⟨i71, ei71⟩ := qi71
              refine tt_kv (P := fun z => ((-2147483648) : Int) ≤ z.toInt ∧ z.toInt ≤ 2147483647) (iv_top _) (fun x72 i73 => ?_)
              exact H _ _ _ _ k68 r69 (iv_w (a := 0) (b := 1) (by decide) (by decide) i64) (iv_w (a := 0) (b := 1601) (by decide) (by decide) i71) f_q16_2_0 (iv_w (a := 0) (b := 2) (by decide) (by decide) (show (1 : Int) ≤ (1 : Int32).toInt ∧ (1 : Int32).toInt ≤ 1 by decide)) f_q16_2_95 u17 (show 1602 - x70.toInt < (n : Int) by omega)
            · have wc65 : ¬ (q16.2.1 5).toInt = (0 : Int) := c_ne c65
              exact (dd_ne c65 f_q16_2_5 (show (0 : Int) ≤ (0 : Int32).toInt ∧ (0 : Int32).toInt ≤ 0 by decide)).elim
        · have wc28 : ¬ (0 : Int) = (0 : Int) := c_ne c28
          exact (dd_ne c28 (show (0 : Int) ≤ (0 : Int32).toInt ∧ (0 : Int32).toInt ≤ 0 by decide) (show (0 : Int) ≤ (0 : Int32).toInt ∧ (0 : Int32).toInt ≤ 0 by decide)).elim
    · have wc14 : ¬ (o0.1 5).toInt = (0 : Int) := c_ne c14
      have i74 : (1 : Int) ≤ (o0.1 5).toInt ∧ (o0.1 5).toInt ≤ 2 := nr_nela c14 f_o0_5 (show (0 : Int) ≤ (0 : Int32).toInt ∧ (0 : Int32).toInt ≤ 0 by decide) (by decide) (by decide)
      try unfold fM_readLibrary_129
      refine tt_if (fun c75 => ?_) (fun c75 => ?_)
      · have wc75 : v1.toInt = (0 : Int) := c_eq c75
        have i76 : (0 : Int) ≤ v1.toInt ∧ v1.toInt ≤ 0 := nr_eql c75 i_v1 (show (0 : Int) ≤ (0 : Int32).toInt ∧ (0 : Int32).toInt ≤ 0 by decide) (by decide) (by decide)
        try unfold fM_fail
        try unfold fM_fail_0
        refine tt_bif (fun c77 => ?_) (fun c77 => ?_)
        · have wc77 : (o0.1 5).toInt = (0 : Int) := c_eq c77
          exact (dd_eq c77 i74 (show (0 : Int) ≤ (0 : Int32).toInt ∧ (0 : Int32).toInt ≤ 0 by decide) (by decide)).elim
        · have wc77 : ¬ (o0.1 5).toInt = (0 : Int) := c_ne c77
          try unfold fM_fail_17
          refine tt_bs ?_
          try unfold fM_readLibrary_139
          exact tt_some ⟨k_o0, r_o0, (iv_w (a := 0) (b := 2) (by decide) (by decide) i74), x_0, trivial⟩
      · have wc75 : ¬ v1.toInt = (0 : Int) := c_ne c75
        have i78 : (1 : Int) ≤ v1.toInt ∧ v1.toInt ≤ 1 := nr_nela c75 i_v1 (show (0 : Int) ≤ (0 : Int32).toInt ∧ (0 : Int32).toInt ≤ 0 by decide) (by decide) (by decide)
        try unfold fM_readLibrary_139
        exact tt_some ⟨k_o0, r_o0, (iv_w (a := 0) (b := 2) (by decide) (by decide) i74), x_0, trivial⟩
set_option maxHeartbeats 4000000 in
set_option maxRecDepth 100000 in
theorem hM_readLibrary (yo0 : cf_O) : ∀ n, HM_readLibrary yo0 n := by
  intro n
  induction n with
  | zero => exact (fun v1 v2 v3 o0 k_o0 r_o0 i_v1 i_v3 f_o0_0 f_o0_5 f_o0_95 x_0 hm => by exact absurd (show 1602 - v3.toInt < (0 : Int) from hm) (by omega))
  | succ n ih => exact (fun v1 v2 v3 o0 k_o0 r_o0 i_v1 i_v3 f_o0_0 f_o0_5 f_o0_95 x_0 hm => tM_readLibrary_21 ih v1 v2 v3 o0 k_o0 r_o0 i_v1 i_v3 f_o0_0 f_o0_5 f_o0_95 x_0 (by omega))
set_option maxHeartbeats 4000000 in
set_option maxRecDepth 100000 in
theorem sM_readLibrary (o0 : cf_O) (k_o0 : okO I_M o0) (f_o0_0 : (0 : Int) ≤ (o0.1 0).toInt ∧ (o0.1 0).toInt ≤ 0) (f_o0_95 : (0 : Int) ≤ (o0.1 95).toInt ∧ (o0.1 95).toInt ≤ 0) (x_0 : Fp (o0.2.1 81)) : tt (fM_readLibrary o0) (QM_readLibrary o0) := by
  have H := hM_readLibrary o0 cfFU
  have hm : (2000 : Int) ≤ (cfFU : Nat) := by decide
  have r_o0 : Fr (fr_M [5, 6, 7, 79] [8, 9, 80, 81] []) o0 o0 := fr_rfl
  unfold fM_readLibrary fM_readLibrary_0
  have g_o0_2 : (0 : Int) ≤ (o0.1 2).toInt ∧ (o0.1 2).toInt ≤ 1600 := k_o0.1 2
  refine tt_ko ?_
  have k1 := ok_fp (k := 5) (v := 0) k_o0 (iv_w (a := 0) (b := 4) (by decide) (by decide) (show (0 : Int) ≤ (0 : Int32).toInt ∧ (0 : Int32).toInt ≤ 0 by decide))
  have r2 := fr_fp (k := 5) (v := 0) r_o0 rfl
  refine tt_ko ?_
  have k3 := ok_fp (k := 6) (v := (-1)) k1 (iv_w (a := (-2147483648)) (b := 2147483647) (by decide) (by decide) (show ((-1) : Int) ≤ ((-1) : Int32).toInt ∧ ((-1) : Int32).toInt ≤ (-1) by decide))
  have r4 := fr_fp (k := 6) (v := (-1)) r2 rfl
  refine tt_ko ?_
  have k5 := ok_fp (k := 79) (v := 0) k3 (iv_w (a := 0) (b := 12) (by decide) (by decide) (show (0 : Int) ≤ (0 : Int32).toInt ∧ (0 : Int32).toInt ≤ 0 by decide))
  have r6 := fr_fp (k := 79) (v := 0) r4 rfl
  exact H _ _ _ _ k5 r6 (iv_w (a := 0) (b := 1) (by decide) (by decide) (show (0 : Int) ≤ (0 : Int32).toInt ∧ (0 : Int32).toInt ≤ 0 by decide)) (iv_w (a := 0) (b := 1601) (by decide) (by decide) (show (0 : Int) ≤ (0 : Int32).toInt ∧ (0 : Int32).toInt ≤ 0 by decide)) f_o0_0 (iv_w (a := 0) (b := 2) (by decide) (by decide) (show (0 : Int) ≤ (0 : Int32).toInt ∧ (0 : Int32).toInt ≤ 0 by decide)) f_o0_95 x_0 (show 1602 - 0 < ((cfFU : Nat) : Int) by omega)
def QM_library (o0 : cf_O) (r : (Int32 × cf_O)) : Prop := ((0 : Int) ≤ r.1.toInt ∧ r.1.toInt ≤ 2) ∧ (okO I_M r.2) ∧ (Fr (fr_M [0, 3, 5, 6, 7, 78, 79, 82, 85] [8, 9, 80, 81, 83, 84] []) o0 r.2) ∧ ((0 : Int) ≤ (r.2.1 0).toInt ∧ (r.2.1 0).toInt ≤ 0) ∧ ((0 : Int) ≤ (r.2.1 5).toInt ∧ (r.2.1 5).toInt ≤ 2) ∧ (Fp (r.2.2.1 81)) ∧ (Fp (r.2.2.1 84)) ∧ True
def HM_library (yo0 : cf_O) (n : Nat) : Prop := (∀ (v2 : Int32) (o0 : cf_O), (okO I_M o0) → (Fr (fr_M [0, 3, 5, 6, 7, 78, 79, 82, 85] [8, 9, 80, 81, 83, 84] []) yo0 o0) → ((0 : Int) ≤ v2.toInt ∧ v2.toInt ≤ 96) → ((0 : Int) ≤ (o0.1 0).toInt ∧ (o0.1 0).toInt ≤ 0) → (((-1) : Int) ≤ (o0.1 3).toInt ∧ (o0.1 3).toInt ≤ (-1)) → ((0 : Int) ≤ (o0.1 5).toInt ∧ (o0.1 5).toInt ≤ 0) → ((1 : Int) ≤ (o0.1 78).toInt ∧ (o0.1 78).toInt ≤ 1) → ((0 : Int) ≤ (o0.1 85).toInt ∧ (o0.1 85).toInt ≤ 0) → ((0 : Int) ≤ (o0.1 95).toInt ∧ (o0.1 95).toInt ≤ 0) → (Fp (o0.2.1 81)) → (Fp (o0.2.1 84)) → 98 + (96 - v2.toInt) * 2 < (n : Int) → tt (gM_library n 0 v2 o0) (QM_library yo0)) ∧ (∀ (v2 : Int32) (o0 : cf_O), (okO I_M o0) → (Fr (fr_M [0, 3, 5, 6, 7, 78, 79, 82, 85] [8, 9, 80, 81, 83, 84] []) yo0 o0) → ((0 : Int) ≤ v2.toInt ∧ v2.toInt ≤ 48) → ((0 : Int) ≤ (o0.1 0).toInt ∧ (o0.1 0).toInt ≤ 0) → (((-1) : Int) ≤ (o0.1 3).toInt ∧ (o0.1 3).toInt ≤ (-1)) → ((0 : Int) ≤ (o0.1 5).toInt ∧ (o0.1 5).toInt ≤ 0) → ((1 : Int) ≤ (o0.1 78).toInt ∧ (o0.1 78).toInt ≤ 1) → ((0 : Int) ≤ (o0.1 85).toInt ∧ (o0.1 85).toInt ≤ 0) → ((0 : Int) ≤ (o0.1 95).toInt ∧ (o0.1 95).toInt ≤ 0) → (Fp (o0.2.1 81)) → (Fp (o0.2.1 84)) → 0 + (48 - v2.toInt) * 2 < (n : Int) → tt (gM_library n 1 v2 o0) (QM_library yo0))
set_option maxHeartbeats 4000000 in
set_option maxRecDepth 100000 in
theorem tM_library_101 {yo0 : cf_O} {n : Nat} (H : HM_library yo0 n) (v2 : Int32) (o0 : cf_O) (k_o0 : okO I_M o0) (r_o0 : Fr (fr_M [0, 3, 5, 6, 7, 78, 79, 82, 85] [8, 9, 80, 81, 83, 84] []) yo0 o0) (i_v2 : (0 : Int) ≤ v2.toInt ∧ v2.toInt ≤ 48) (f_o0_0 : (0 : Int) ≤ (o0.1 0).toInt ∧ (o0.1 0).toInt ≤ 0) (f_o0_3 : ((-1) : Int) ≤ (o0.1 3).toInt ∧ (o0.1 3).toInt ≤ (-1)) (f_o0_5 : (0 : Int) ≤ (o0.1 5).toInt ∧ (o0.1 5).toInt ≤ 0) (f_o0_78 : (1 : Int) ≤ (o0.1 78).toInt ∧ (o0.1 78).toInt ≤ 1) (f_o0_85 : (0 : Int) ≤ (o0.1 85).toInt ∧ (o0.1 85).toInt ≤ 0) (f_o0_95 : (0 : Int) ≤ (o0.1 95).toInt ∧ (o0.1 95).toInt ≤ 0) (x_0 : Fp (o0.2.1 81)) (x_1 : Fp (o0.2.1 84)) (hm : 0 + (48 - v2.toInt) * 2 ≤ (n : Int)) : tt (fM_library_101 (gM_library n) v2 o0) (QM_library yo0) := by
  unfold fM_library_101
  refine tt_kv (P := fun z => ((0 : Int) ≤ z.toInt ∧ z.toInt ≤ 48) ∧ z.toInt = 4 * (o0.1 82).toInt) ⟨iv_mul (show (4 : Int) ≤ (4 : Int32).toInt ∧ (4 : Int32).toInt ≤ 4 by decide) (k_o0.1 82) (by decide) (by decide) (by decide) (by decide) (by decide), iq_mul (show (4 : Int) ≤ (4 : Int32).toInt ∧ (4 : Int32).toInt ≤ 4 by decide) (k_o0.1 82) (by decide) (by decide) (by decide) (by decide)⟩ (fun x1 qi2 => ?_)
  obtain ⟨i2, ei2⟩ := qi2
  refine tt_if (fun c3 => ?_) (fun c3 => ?_)
  · have wc3 : x1.toInt ≤ v2.toInt := c_le c3
    exact tt_some ⟨(iv_w (a := 0) (b := 2) (by decide) (by decide) (show (0 : Int) ≤ (0 : Int32).toInt ∧ (0 : Int32).toInt ≤ 0 by decide)), k_o0, r_o0, f_o0_0, (iv_w (a := 0) (b := 2) (by decide) (by decide) f_o0_5), x_0, x_1, trivial⟩
  · have wc3 : v2.toInt < x1.toInt := c_nle c3
    have i4 : (0 : Int) ≤ v2.toInt ∧ v2.toInt ≤ 47 := nr_nlel c3 i_v2 i2 (by decide) (by decide)
    have i5 : (1 : Int) ≤ x1.toInt ∧ x1.toInt ≤ 48 := nr_nler c3 i_v2 i2 (by decide) (by decide)
    refine tt_n (ix_ok i4 (by decide) (by decide)) ?_
    refine tt_kv (P := fun z => (((-2147483648) : Int) ≤ z.toInt ∧ z.toInt ≤ 2147483647) ∧ z.toInt = (o0.2.1 81 v2.toNatClampNeg).toInt) ⟨(k_o0.2 81 _), rfl⟩ (fun x6 qi7 => ?_)
    obtain ⟨i7, ei7⟩ := qi7
    have t8 := tn_n v2
    have t9 := x_0 (v2.toNatClampNeg)
    refine tt_n (ix_ok i4 (by decide) (by decide)) ?_
    refine tt_ko ?_
    have k10 := ok_xp (k := 84) (i := v2.toNatClampNeg) (v := x6) k_o0 i7
    have r11 := fr_xp (k := 84) (i := v2.toNatClampNeg) (v := x6) r_o0 rfl
    have u12 : Fp (upd (o0.2.1 84) (v2.toNatClampNeg) x6) := Fp_u x_1 (by intros; have tnn := tn_n v2; omega)
    refine tt_kv (P := fun z => ((1 : Int) ≤ z.toInt ∧ z.toInt ≤ 48) ∧ z.toInt = v2.toInt + 1) ⟨iv_add i4 (show (1 : Int) ≤ (1 : Int32).toInt ∧ (1 : Int32).toInt ≤ 1 by decide) (by decide) (by decide) (by decide) (by decide), iq_add i4 (show (1 : Int) ≤ (1 : Int32).toInt ∧ (1 : Int32).toInt ≤ 1 by decide) (by decide) (by decide)⟩ (fun x13 qi14 => ?_)
    obtain ⟨i14, ei14⟩ := qi14
    exact H.2 _ _ k10 r11 (iv_w (a := 0) (b := 48) (by decide) (by decide) i14) f_o0_0 f_o0_3 f_o0_5 f_o0_78 f_o0_85 f_o0_95 x_0 u12 (show 0 + (48 - x13.toInt) * 2 < (n : Int) by omega)
set_option maxHeartbeats 4000000 in
set_option maxRecDepth 100000 in
theorem tM_library_70 {yo0 : cf_O} {n : Nat} (H : HM_library yo0 n) (v2 : Int32) (o0 : cf_O) (k_o0 : okO I_M o0) (r_o0 : Fr (fr_M [0, 3, 5, 6, 7, 78, 79, 82, 85] [8, 9, 80, 81, 83, 84] []) yo0 o0) (i_v2 : (0 : Int) ≤ v2.toInt ∧ v2.toInt ≤ 96) (f_o0_0 : (0 : Int) ≤ (o0.1 0).toInt ∧ (o0.1 0).toInt ≤ 0) (f_o0_3 : ((-1) : Int) ≤ (o0.1 3).toInt ∧ (o0.1 3).toInt ≤ (-1)) (f_o0_5 : (0 : Int) ≤ (o0.1 5).toInt ∧ (o0.1 5).toInt ≤ 0) (f_o0_78 : (1 : Int) ≤ (o0.1 78).toInt ∧ (o0.1 78).toInt ≤ 1) (f_o0_85 : (0 : Int) ≤ (o0.1 85).toInt ∧ (o0.1 85).toInt ≤ 0) (f_o0_95 : (0 : Int) ≤ (o0.1 95).toInt ∧ (o0.1 95).toInt ≤ 0) (x_0 : Fp (o0.2.1 81)) (x_1 : Fp (o0.2.1 84)) (hm : 98 + (96 - v2.toInt) * 2 ≤ (n : Int)) : tt (fM_library_70 (gM_library n) v2 o0) (QM_library yo0) := by
  unfold fM_library_70
  refine tt_kv (P := fun z => ((0 : Int) ≤ z.toInt ∧ z.toInt ≤ 96) ∧ z.toInt = 8 * (o0.1 82).toInt) ⟨iv_mul (show (8 : Int) ≤ (8 : Int32).toInt ∧ (8 : Int32).toInt ≤ 8 by decide) (k_o0.1 82) (by decide) (by decide) (by decide) (by decide) (by decide), iq_mul (show (8 : Int) ≤ (8 : Int32).toInt ∧ (8 : Int32).toInt ≤ 8 by decide) (k_o0.1 82) (by decide) (by decide) (by decide) (by decide)⟩ (fun x1 qi2 => ?_)
  obtain ⟨i2, ei2⟩ := qi2
  refine tt_if (fun c3 => ?_) (fun c3 => ?_)
  · have wc3 : x1.toInt ≤ v2.toInt := c_le c3
    exact H.2 _ _ k_o0 r_o0 (iv_w (a := 0) (b := 48) (by decide) (by decide) (show (0 : Int) ≤ (0 : Int32).toInt ∧ (0 : Int32).toInt ≤ 0 by decide)) f_o0_0 f_o0_3 f_o0_5 f_o0_78 f_o0_85 f_o0_95 x_0 x_1 (show 0 + (48 - 0) * 2 < (n : Int) by omega)
  · have wc3 : v2.toInt < x1.toInt := c_nle c3
    have i4 : (0 : Int) ≤ v2.toInt ∧ v2.toInt ≤ 95 := nr_nlel c3 i_v2 i2 (by decide) (by decide)
    have i5 : (1 : Int) ≤ x1.toInt ∧ x1.toInt ≤ 96 := nr_nler c3 i_v2 i2 (by decide) (by decide)
    refine tt_n (ix_ok i4 (by decide) (by decide)) ?_
    refine tt_kv (P := fun z => ((0 : Int) ≤ z.toInt ∧ z.toInt ≤ 255) ∧ z.toInt = (o0.2.1 80 v2.toNatClampNeg).toInt) ⟨(k_o0.2 80 _), rfl⟩ (fun x6 qi7 => ?_)
    obtain ⟨i7, ei7⟩ := qi7
    refine tt_n (ix_ok i4 (by decide) (by decide)) ?_
    refine tt_ko ?_
    have k8 := ok_xp (k := 83) (i := v2.toNatClampNeg) (v := x6) k_o0 i7
    have r9 := fr_xp (k := 83) (i := v2.toNatClampNeg) (v := x6) r_o0 rfl
    refine tt_kv (P := fun z => ((1 : Int) ≤ z.toInt ∧ z.toInt ≤ 96) ∧ z.toInt = v2.toInt + 1) ⟨iv_add i4 (show (1 : Int) ≤ (1 : Int32).toInt ∧ (1 : Int32).toInt ≤ 1 by decide) (by decide) (by decide) (by decide) (by decide), iq_add i4 (show (1 : Int) ≤ (1 : Int32).toInt ∧ (1 : Int32).toInt ≤ 1 by decide) (by decide) (by decide)⟩ (fun x10 qi11 => ?_)
    obtain ⟨i11, ei11⟩ := qi11
    exact H.1 _ _ k8 r9 (iv_w (a := 0) (b := 96) (by decide) (by decide) i11) f_o0_0 f_o0_3 f_o0_5 f_o0_78 f_o0_85 f_o0_95 x_0 x_1 (show 98 + (96 - x10.toInt) * 2 < (n : Int) by omega)
set_option maxHeartbeats 4000000 in
set_option maxRecDepth 100000 in
theorem hM_library (yo0 : cf_O) : ∀ n, HM_library yo0 n := by
  intro n
  induction n with
  | zero => exact ⟨(fun v2 o0 k_o0 r_o0 i_v2 f_o0_0 f_o0_3 f_o0_5 f_o0_78 f_o0_85 f_o0_95 x_0 x_1 hm => by exact absurd (show 98 + (96 - v2.toInt) * 2 < (0 : Int) from hm) (by omega)), (fun v2 o0 k_o0 r_o0 i_v2 f_o0_0 f_o0_3 f_o0_5 f_o0_78 f_o0_85 f_o0_95 x_0 x_1 hm => by exact absurd (show 0 + (48 - v2.toInt) * 2 < (0 : Int) from hm) (by omega))⟩
  | succ n ih => exact ⟨(fun v2 o0 k_o0 r_o0 i_v2 f_o0_0 f_o0_3 f_o0_5 f_o0_78 f_o0_85 f_o0_95 x_0 x_1 hm => tM_library_70 ih v2 o0 k_o0 r_o0 i_v2 f_o0_0 f_o0_3 f_o0_5 f_o0_78 f_o0_85 f_o0_95 x_0 x_1 (by omega)), (fun v2 o0 k_o0 r_o0 i_v2 f_o0_0 f_o0_3 f_o0_5 f_o0_78 f_o0_85 f_o0_95 x_0 x_1 hm => tM_library_101 ih v2 o0 k_o0 r_o0 i_v2 f_o0_0 f_o0_3 f_o0_5 f_o0_78 f_o0_85 f_o0_95 x_0 x_1 (by omega))⟩
set_option maxHeartbeats 4000000 in
set_option maxRecDepth 100000 in
theorem sM_library (o0 : cf_O) (k_o0 : okO I_M o0) (f_o0_95 : (0 : Int) ≤ (o0.1 95).toInt ∧ (o0.1 95).toInt ≤ 0) (x_0 : Fp (o0.2.1 81)) (x_1 : Fp (o0.2.1 84)) : tt (fM_library o0) (QM_library o0) := by
  have H := hM_library o0 cfFU
  have hm : (293 : Int) ≤ (cfFU : Nat) := by decide
  have r_o0 : Fr (fr_M [0, 3, 5, 6, 7, 78, 79, 82, 85] [8, 9, 80, 81, 83, 84] []) o0 o0 := fr_rfl
  unfold fM_library fM_library_0
  refine tt_ko ?_
  have k1 := ok_fp (k := 0) (v := 0) k_o0 (iv_w (a := 0) (b := 3) (by decide) (by decide) (show (0 : Int) ≤ (0 : Int32).toInt ∧ (0 : Int32).toInt ≤ 0 by decide))
  have r2 := fr_fp (k := 0) (v := 0) r_o0 rfl
  refine tt_b (sM_readLibrary _ k1 (show (0 : Int) ≤ (0 : Int32).toInt ∧ (0 : Int32).toInt ≤ 0 by decide) f_o0_95 x_0) (fun q3 hq3 => ?_)
  obtain ⟨k_q3, n_q3, f_q3_5, zq3_0, -⟩ := hq3
  have r_q3 := fr_tr r2 n_q3 rfl rfl rfl
  have f_q3_0 : (0 : Int) ≤ (q3.1 0).toInt ∧ (q3.1 0).toInt ≤ 0 := by rw [n_q3.1 0 rfl]; exact (show (0 : Int) ≤ (0 : Int32).toInt ∧ (0 : Int32).toInt ≤ 0 by decide)
  have f_q3_95 : (0 : Int) ≤ (q3.1 95).toInt ∧ (q3.1 95).toInt ≤ 0 := by rw [n_q3.1 95 rfl]; exact f_o0_95
  have zq3_0 : Fp (q3.2.1 81) := zq3_0
  have u4 : Fp (q3.2.1 84) := by rw [n_q3.2.1 84 rfl]; exact x_1
  refine tt_if (fun c5 => ?_) (fun c5 => ?_)
  · have wc5 : (q3.1 5).toInt ≤ (0 : Int) := c_le c5
    have i6 : (0 : Int) ≤ (q3.1 5).toInt ∧ (q3.1 5).toInt ≤ 0 := nr_lel c5 f_q3_5 (show (0 : Int) ≤ (0 : Int32).toInt ∧ (0 : Int32).toInt ≤ 0 by decide) (by decide) (by decide)
    try unfold fM_library_30
    refine tt_ko ?_
    have k7 := ok_fp (k := 3) (v := (-1)) k_q3 (iv_w (a := (-2147483648)) (b := 2147483647) (by decide) (by decide) (show ((-1) : Int) ≤ ((-1) : Int32).toInt ∧ ((-1) : Int32).toInt ≤ (-1) by decide))
    have r8 := fr_fp (k := 3) (v := (-1)) r_q3 rfl
    refine tt_ko ?_
    have k9 := ok_fp (k := 6) (v := (o0.1 6)) k7 (k_o0.1 6)
    have r10 := fr_fp (k := 6) (v := (o0.1 6)) r8 rfl
    refine tt_if (fun c11 => ?_) (fun c11 => ?_)
    · have wc11 : (q3.1 5).toInt ≤ (0 : Int) := c_le c11
      refine tt_ko ?_
      have k12 := ok_fp (k := 78) (v := 1) k9 (iv_w (a := 0) (b := 1) (by decide) (by decide) (show (1 : Int) ≤ (1 : Int32).toInt ∧ (1 : Int32).toInt ≤ 1 by decide))
      have r13 := fr_fp (k := 78) (v := 1) r10 rfl
      refine tt_ko ?_
      have k14 := ok_fp (k := 85) (v := 0) k12 (iv_w (a := 0) (b := 1) (by decide) (by decide) (show (0 : Int) ≤ (0 : Int32).toInt ∧ (0 : Int32).toInt ≤ 0 by decide))
      have r15 := fr_fp (k := 85) (v := 0) r13 rfl
      refine tt_ko ?_
      have k16 := ok_fp (k := 82) (v := (q3.1 79)) k14 (k_q3.1 79)
      have r17 := fr_fp (k := 82) (v := (q3.1 79)) r15 rfl
      exact H.1 _ _ k16 r17 (iv_w (a := 0) (b := 96) (by decide) (by decide) (show (0 : Int) ≤ (0 : Int32).toInt ∧ (0 : Int32).toInt ≤ 0 by decide)) f_q3_0 (show ((-1) : Int) ≤ ((-1) : Int32).toInt ∧ ((-1) : Int32).toInt ≤ (-1) by decide) i6 (show (1 : Int) ≤ (1 : Int32).toInt ∧ (1 : Int32).toInt ≤ 1 by decide) (show (0 : Int) ≤ (0 : Int32).toInt ∧ (0 : Int32).toInt ≤ 0 by decide) f_q3_95 zq3_0 u4 (show 98 + (96 - 0) * 2 < ((cfFU : Nat) : Int) by omega)
    · have wc11 : (0 : Int) < (q3.1 5).toInt := c_nle c11
      exact (dd_nle c11 (show (0 : Int) ≤ (0 : Int32).toInt ∧ (0 : Int32).toInt ≤ 0 by decide) i6 (by decide)).elim
  · have wc5 : (0 : Int) < (q3.1 5).toInt := c_nle c5
    have i18 : (1 : Int) ≤ (q3.1 5).toInt ∧ (q3.1 5).toInt ≤ 2 := nr_nler c5 (show (0 : Int) ≤ (0 : Int32).toInt ∧ (0 : Int32).toInt ≤ 0 by decide) f_q3_5 (by decide) (by decide)
    try unfold fM_library_30
    refine tt_ko ?_
    have k19 := ok_fp (k := 3) (v := (q3.1 6)) k_q3 (k_q3.1 6)
    have r20 := fr_fp (k := 3) (v := (q3.1 6)) r_q3 rfl
    refine tt_ko ?_
    have k21 := ok_fp (k := 6) (v := (o0.1 6)) k19 (k_o0.1 6)
    have r22 := fr_fp (k := 6) (v := (o0.1 6)) r20 rfl
    refine tt_if (fun c23 => ?_) (fun c23 => ?_)
    · have wc23 : (q3.1 5).toInt ≤ (0 : Int) := c_le c23
      exact (dd_le c23 i18 (show (0 : Int) ≤ (0 : Int32).toInt ∧ (0 : Int32).toInt ≤ 0 by decide) (by decide)).elim
    · have wc23 : (0 : Int) < (q3.1 5).toInt := c_nle c23
      exact tt_some ⟨(iv_w (a := 0) (b := 2) (by decide) (by decide) i18), k21, r22, f_q3_0, (iv_w (a := 0) (b := 2) (by decide) (by decide) i18), zq3_0, u4, trivial⟩
def QM_libraryCell (v1 : Int32) (v2 : Int32) (o0 : cf_O) (r : (Int32 × cf_O)) : Prop := (okO I_M r.2) ∧ (Fr (fr_M [0] [] []) o0 r.2) ∧ ((0 : Int) ≤ (r.2.1 0).toInt ∧ (r.2.1 0).toInt ≤ 2) ∧ True
set_option maxHeartbeats 4000000 in
set_option maxRecDepth 100000 in
theorem sM_libraryCell (v1 : Int32) (v2 : Int32) (o0 : cf_O) (k_o0 : okO I_M o0) (f_o0_95 : (0 : Int) ≤ (o0.1 95).toInt ∧ (o0.1 95).toInt ≤ 0) : tt (fM_libraryCell v1 v2 o0) (QM_libraryCell v1 v2 o0) := by
  have r_o0 : Fr (fr_M [0] [] []) o0 o0 := fr_rfl
  unfold fM_libraryCell fM_libraryCell_0
  refine tt_if (fun c1 => ?_) (fun c1 => ?_)
  · have i2 : (0 : Int) ≤ (o0.1 78).toInt ∧ (o0.1 78).toInt ≤ 0 := nr_eql c1 (k_o0.1 78) (show (0 : Int) ≤ (0 : Int32).toInt ∧ (0 : Int32).toInt ≤ 0 by decide) (by decide) (by decide)
    try unfold fM_libraryCell_25
    try unfold fM_libraryCell_26
    refine tt_if (fun c3 => ?_) (fun c3 => ?_)
    · try unfold fM_libraryCell_37
      refine tt_if (fun c4 => ?_) (fun c4 => ?_)
      · try unfold fM_libraryCell_54
        try unfold fM_libraryCell_55
        try unfold fM_refuse
        try unfold fM_refuse_0
        refine tt_bif (fun c5 => ?_) (fun c5 => ?_)
        · exact (dd_eq c5 (show (1 : Int) ≤ (1 : Int32).toInt ∧ (1 : Int32).toInt ≤ 1 by decide) (show (0 : Int) ≤ (0 : Int32).toInt ∧ (0 : Int32).toInt ≤ 0 by decide) (by decide)).elim
        · try unfold fM_refuse_26
          refine tt_bko ?_
          have k6 := ok_fp (k := 0) (v := 1) k_o0 (iv_w (a := 0) (b := 3) (by decide) (by decide) (show (1 : Int) ≤ (1 : Int32).toInt ∧ (1 : Int32).toInt ≤ 1 by decide))
          have r7 := fr_fp (k := 0) (v := 1) r_o0 rfl
          refine tt_bif (fun c8 => ?_) (fun c8 => ?_)
          · exact (dd_le c8 (show (1 : Int) ≤ (1 : Int32).toInt ∧ (1 : Int32).toInt ≤ 1 by decide) (show (0 : Int) ≤ (0 : Int32).toInt ∧ (0 : Int32).toInt ≤ 0 by decide) (by decide)).elim
          · try unfold fM_refuse_41
            refine tt_bw (iv_b (show (1 : Int) ≤ (1 : Int32).toInt ∧ (1 : Int32).toInt ≤ 1 by decide) (by decide) (by decide)) ?_
            refine tt_bs ?_
            refine tt_if (fun c9 => ?_) (fun c9 => ?_)
            · exact (dd_eq c9 (show (1 : Int) ≤ (1 : Int32).toInt ∧ (1 : Int32).toInt ≤ 1 by decide) (show (0 : Int) ≤ (0 : Int32).toInt ∧ (0 : Int32).toInt ≤ 0 by decide) (by decide)).elim
            · exact tt_some ⟨k6, r7, (iv_w (a := 0) (b := 2) (by decide) (by decide) (show (1 : Int) ≤ (1 : Int32).toInt ∧ (1 : Int32).toInt ≤ 1 by decide)), trivial⟩
      · exact (dd_ne c4 (show (0 : Int) ≤ (0 : Int32).toInt ∧ (0 : Int32).toInt ≤ 0 by decide) (show (0 : Int) ≤ (0 : Int32).toInt ∧ (0 : Int32).toInt ≤ 0 by decide)).elim
    · exact (dd_ne c3 (show (0 : Int) ≤ (0 : Int32).toInt ∧ (0 : Int32).toInt ≤ 0 by decide) (show (0 : Int) ≤ (0 : Int32).toInt ∧ (0 : Int32).toInt ≤ 0 by decide)).elim
  · have i10 : (1 : Int) ≤ (o0.1 78).toInt ∧ (o0.1 78).toInt ≤ 1 := nr_nela c1 (k_o0.1 78) (show (0 : Int) ≤ (0 : Int32).toInt ∧ (0 : Int32).toInt ≤ 0 by decide) (by decide) (by decide)
    refine tt_kv (P := fun z => (((-1) : Int) ≤ z.toInt ∧ z.toInt ≤ 11) ∧ z.toInt = (o0.1 82).toInt - 1) ⟨iv_sub (k_o0.1 82) (show (1 : Int) ≤ (1 : Int32).toInt ∧ (1 : Int32).toInt ≤ 1 by decide) (by decide) (by decide) (by decide) (by decide), iq_sub (k_o0.1 82) (show (1 : Int) ≤ (1 : Int32).toInt ∧ (1 : Int32).toInt ≤ 1 by decide) (by decide) (by decide)⟩ (fun x11 qi12 => ?_)
    obtain ⟨i12, ei12⟩ := qi12
    try unfold fM_in
    try unfold fM_in_0
    refine tt_bif (fun c13 => ?_) (fun c13 => ?_)
    · have i14 : ((-2147483648) : Int) ≤ v1.toInt ∧ v1.toInt ≤ (-1) := nr_ltl c13 (iv_top v1) (show (0 : Int) ≤ (0 : Int32).toInt ∧ (0 : Int32).toInt ≤ 0 by decide) (by decide) (by decide)
      try unfold fM_in_14
      try unfold fM_in_15
      refine tt_bw (iv_b (show (0 : Int) ≤ (0 : Int32).toInt ∧ (0 : Int32).toInt ≤ 0 by decide) (by decide) (by decide)) ?_
      refine tt_bs ?_
      refine tt_if (fun c15 => ?_) (fun c15 => ?_)
      · try unfold fM_libraryCell_25
        try unfold fM_libraryCell_26
        refine tt_if (fun c16 => ?_) (fun c16 => ?_)
        · try unfold fM_libraryCell_37
          refine tt_if (fun c17 => ?_) (fun c17 => ?_)
          · try unfold fM_libraryCell_54
            try unfold fM_libraryCell_55
            try unfold fM_refuse
            try unfold fM_refuse_0
            refine tt_bif (fun c18 => ?_) (fun c18 => ?_)
            · exact (dd_eq c18 (show (1 : Int) ≤ (1 : Int32).toInt ∧ (1 : Int32).toInt ≤ 1 by decide) (show (0 : Int) ≤ (0 : Int32).toInt ∧ (0 : Int32).toInt ≤ 0 by decide) (by decide)).elim
            · try unfold fM_refuse_26
              refine tt_bko ?_
              have k19 := ok_fp (k := 0) (v := 1) k_o0 (iv_w (a := 0) (b := 3) (by decide) (by decide) (show (1 : Int) ≤ (1 : Int32).toInt ∧ (1 : Int32).toInt ≤ 1 by decide))
              have r20 := fr_fp (k := 0) (v := 1) r_o0 rfl
              refine tt_bif (fun c21 => ?_) (fun c21 => ?_)
              · exact (dd_le c21 (show (1 : Int) ≤ (1 : Int32).toInt ∧ (1 : Int32).toInt ≤ 1 by decide) (show (0 : Int) ≤ (0 : Int32).toInt ∧ (0 : Int32).toInt ≤ 0 by decide) (by decide)).elim
              · try unfold fM_refuse_41
                refine tt_bw (iv_b (show (1 : Int) ≤ (1 : Int32).toInt ∧ (1 : Int32).toInt ≤ 1 by decide) (by decide) (by decide)) ?_
                refine tt_bs ?_
                refine tt_if (fun c22 => ?_) (fun c22 => ?_)
                · exact (dd_eq c22 (show (1 : Int) ≤ (1 : Int32).toInt ∧ (1 : Int32).toInt ≤ 1 by decide) (show (0 : Int) ≤ (0 : Int32).toInt ∧ (0 : Int32).toInt ≤ 0 by decide) (by decide)).elim
                · exact tt_some ⟨k19, r20, (iv_w (a := 0) (b := 2) (by decide) (by decide) (show (1 : Int) ≤ (1 : Int32).toInt ∧ (1 : Int32).toInt ≤ 1 by decide)), trivial⟩
          · exact (dd_ne c17 (show (0 : Int) ≤ (0 : Int32).toInt ∧ (0 : Int32).toInt ≤ 0 by decide) (show (0 : Int) ≤ (0 : Int32).toInt ∧ (0 : Int32).toInt ≤ 0 by decide)).elim
        · exact (dd_ne c16 (show (0 : Int) ≤ (0 : Int32).toInt ∧ (0 : Int32).toInt ≤ 0 by decide) (show (0 : Int) ≤ (0 : Int32).toInt ∧ (0 : Int32).toInt ≤ 0 by decide)).elim
      · exact (dd_ne c15 (show (0 : Int) ≤ (0 : Int32).toInt ∧ (0 : Int32).toInt ≤ 0 by decide) (show (0 : Int) ≤ (0 : Int32).toInt ∧ (0 : Int32).toInt ≤ 0 by decide)).elim
    · have i23 : (0 : Int) ≤ v1.toInt ∧ v1.toInt ≤ 2147483647 := nr_nltr c13 (show (0 : Int) ≤ (0 : Int32).toInt ∧ (0 : Int32).toInt ≤ 0 by decide) (iv_top v1) (by decide) (by decide)
      refine tt_bif (fun c24 => ?_) (fun c24 => ?_)
      · try unfold fM_in_14
        try unfold fM_in_15
        refine tt_bw (iv_b (show (0 : Int) ≤ (0 : Int32).toInt ∧ (0 : Int32).toInt ≤ 0 by decide) (by decide) (by decide)) ?_
        refine tt_bs ?_
        refine tt_if (fun c25 => ?_) (fun c25 => ?_)
        · try unfold fM_libraryCell_25
          try unfold fM_libraryCell_26
          refine tt_if (fun c26 => ?_) (fun c26 => ?_)
          · try unfold fM_libraryCell_37
            refine tt_if (fun c27 => ?_) (fun c27 => ?_)
            · try unfold fM_libraryCell_54
              try unfold fM_libraryCell_55
              try unfold fM_refuse
              try unfold fM_refuse_0
              refine tt_bif (fun c28 => ?_) (fun c28 => ?_)
              · exact (dd_eq c28 (show (1 : Int) ≤ (1 : Int32).toInt ∧ (1 : Int32).toInt ≤ 1 by decide) (show (0 : Int) ≤ (0 : Int32).toInt ∧ (0 : Int32).toInt ≤ 0 by decide) (by decide)).elim
              · try unfold fM_refuse_26
                refine tt_bko ?_
                have k29 := ok_fp (k := 0) (v := 1) k_o0 (iv_w (a := 0) (b := 3) (by decide) (by decide) (show (1 : Int) ≤ (1 : Int32).toInt ∧ (1 : Int32).toInt ≤ 1 by decide))
                have r30 := fr_fp (k := 0) (v := 1) r_o0 rfl
                refine tt_bif (fun c31 => ?_) (fun c31 => ?_)
                · exact (dd_le c31 (show (1 : Int) ≤ (1 : Int32).toInt ∧ (1 : Int32).toInt ≤ 1 by decide) (show (0 : Int) ≤ (0 : Int32).toInt ∧ (0 : Int32).toInt ≤ 0 by decide) (by decide)).elim
                · try unfold fM_refuse_41
                  refine tt_bw (iv_b (show (1 : Int) ≤ (1 : Int32).toInt ∧ (1 : Int32).toInt ≤ 1 by decide) (by decide) (by decide)) ?_
                  refine tt_bs ?_
                  refine tt_if (fun c32 => ?_) (fun c32 => ?_)
                  · exact (dd_eq c32 (show (1 : Int) ≤ (1 : Int32).toInt ∧ (1 : Int32).toInt ≤ 1 by decide) (show (0 : Int) ≤ (0 : Int32).toInt ∧ (0 : Int32).toInt ≤ 0 by decide) (by decide)).elim
                  · exact tt_some ⟨k29, r30, (iv_w (a := 0) (b := 2) (by decide) (by decide) (show (1 : Int) ≤ (1 : Int32).toInt ∧ (1 : Int32).toInt ≤ 1 by decide)), trivial⟩
            · exact (dd_ne c27 (show (0 : Int) ≤ (0 : Int32).toInt ∧ (0 : Int32).toInt ≤ 0 by decide) (show (0 : Int) ≤ (0 : Int32).toInt ∧ (0 : Int32).toInt ≤ 0 by decide)).elim
          · exact (dd_ne c26 (show (0 : Int) ≤ (0 : Int32).toInt ∧ (0 : Int32).toInt ≤ 0 by decide) (show (0 : Int) ≤ (0 : Int32).toInt ∧ (0 : Int32).toInt ≤ 0 by decide)).elim
        · exact (dd_ne c25 (show (0 : Int) ≤ (0 : Int32).toInt ∧ (0 : Int32).toInt ≤ 0 by decide) (show (0 : Int) ≤ (0 : Int32).toInt ∧ (0 : Int32).toInt ≤ 0 by decide)).elim
      · have i33 : (0 : Int) ≤ v1.toInt ∧ v1.toInt ≤ 11 := nr_nltl c24 i23 i12 (by decide) (by decide)
        have i34 : (0 : Int) ≤ x11.toInt ∧ x11.toInt ≤ 11 := nr_nltr c24 i23 i12 (by decide) (by decide)
        have i35 : (1 : Int) ≤ (o0.1 82).toInt ∧ (o0.1 82).toInt ≤ 12 := by omega
        try unfold fM_in_15
        refine tt_bw (iv_b (show (1 : Int) ≤ (1 : Int32).toInt ∧ (1 : Int32).toInt ≤ 1 by decide) (by decide) (by decide)) ?_
        refine tt_bs ?_
        refine tt_if (fun c36 => ?_) (fun c36 => ?_)
        · exact (dd_eq c36 (show (1 : Int) ≤ (1 : Int32).toInt ∧ (1 : Int32).toInt ≤ 1 by decide) (show (0 : Int) ≤ (0 : Int32).toInt ∧ (0 : Int32).toInt ≤ 0 by decide) (by decide)).elim
        · try unfold fM_libraryCell_26
          refine tt_if (fun c37 => ?_) (fun c37 => ?_)
          · exact (dd_eq c37 (show (1 : Int) ≤ (1 : Int32).toInt ∧ (1 : Int32).toInt ≤ 1 by decide) (show (0 : Int) ≤ (0 : Int32).toInt ∧ (0 : Int32).toInt ≤ 0 by decide) (by decide)).elim
          · try unfold fM_libraryCell_37
            refine tt_if (fun c38 => ?_) (fun c38 => ?_)
            · exact (dd_eq c38 (show (1 : Int) ≤ (1 : Int32).toInt ∧ (1 : Int32).toInt ≤ 1 by decide) (show (0 : Int) ≤ (0 : Int32).toInt ∧ (0 : Int32).toInt ≤ 0 by decide) (by decide)).elim
            · try unfold fM_in
              try unfold fM_in_0
              refine tt_bif (fun c39 => ?_) (fun c39 => ?_)
              · have i40 : ((-2147483648) : Int) ≤ v2.toInt ∧ v2.toInt ≤ (-1) := nr_ltl c39 (iv_top v2) (show (0 : Int) ≤ (0 : Int32).toInt ∧ (0 : Int32).toInt ≤ 0 by decide) (by decide) (by decide)
                try unfold fM_in_14
                try unfold fM_in_15
                refine tt_bw (iv_b (show (0 : Int) ≤ (0 : Int32).toInt ∧ (0 : Int32).toInt ≤ 0 by decide) (by decide) (by decide)) ?_
                refine tt_bs ?_
                refine tt_if (fun c41 => ?_) (fun c41 => ?_)
                · try unfold fM_libraryCell_55
                  try unfold fM_refuse
                  try unfold fM_refuse_0
                  refine tt_bif (fun c42 => ?_) (fun c42 => ?_)
                  · refine tt_bif (fun c43 => ?_) (fun c43 => ?_)
                    · exact (dd_eq c43 (show (1 : Int) ≤ (1 : Int32).toInt ∧ (1 : Int32).toInt ≤ 1 by decide) (show (0 : Int) ≤ (0 : Int32).toInt ∧ (0 : Int32).toInt ≤ 0 by decide) (by decide)).elim
                    · try unfold fM_refuse_26
                      refine tt_bko ?_
                      have k44 := ok_fp (k := 0) (v := 2) k_o0 (iv_w (a := 0) (b := 3) (by decide) (by decide) (show (2 : Int) ≤ (2 : Int32).toInt ∧ (2 : Int32).toInt ≤ 2 by decide))
                      have r45 := fr_fp (k := 0) (v := 2) r_o0 rfl
                      refine tt_bif (fun c46 => ?_) (fun c46 => ?_)
                      · exact (dd_le c46 (show (2 : Int) ≤ (2 : Int32).toInt ∧ (2 : Int32).toInt ≤ 2 by decide) (show (0 : Int) ≤ (0 : Int32).toInt ∧ (0 : Int32).toInt ≤ 0 by decide) (by decide)).elim
                      · try unfold fM_refuse_41
                        refine tt_bw (iv_b (show (1 : Int) ≤ (1 : Int32).toInt ∧ (1 : Int32).toInt ≤ 1 by decide) (by decide) (by decide)) ?_
                        refine tt_bs ?_
                        refine tt_if (fun c47 => ?_) (fun c47 => ?_)
                        · exact (dd_eq c47 (show (1 : Int) ≤ (1 : Int32).toInt ∧ (1 : Int32).toInt ≤ 1 by decide) (show (0 : Int) ≤ (0 : Int32).toInt ∧ (0 : Int32).toInt ≤ 0 by decide) (by decide)).elim
                        · exact tt_some ⟨k44, r45, (iv_w (a := 0) (b := 2) (by decide) (by decide) (show (2 : Int) ≤ (2 : Int32).toInt ∧ (2 : Int32).toInt ≤ 2 by decide)), trivial⟩
                  · exact (dd_ne c42 (show (0 : Int) ≤ (0 : Int32).toInt ∧ (0 : Int32).toInt ≤ 0 by decide) (show (0 : Int) ≤ (0 : Int32).toInt ∧ (0 : Int32).toInt ≤ 0 by decide)).elim
                · exact (dd_ne c41 (show (0 : Int) ≤ (0 : Int32).toInt ∧ (0 : Int32).toInt ≤ 0 by decide) (show (0 : Int) ≤ (0 : Int32).toInt ∧ (0 : Int32).toInt ≤ 0 by decide)).elim
              · have i48 : (0 : Int) ≤ v2.toInt ∧ v2.toInt ≤ 2147483647 := nr_nltr c39 (show (0 : Int) ≤ (0 : Int32).toInt ∧ (0 : Int32).toInt ≤ 0 by decide) (iv_top v2) (by decide) (by decide)
                refine tt_bif (fun c49 => ?_) (fun c49 => ?_)
                · have i50 : (4 : Int) ≤ v2.toInt ∧ v2.toInt ≤ 2147483647 := nr_ltr c49 (show (3 : Int) ≤ (3 : Int32).toInt ∧ (3 : Int32).toInt ≤ 3 by decide) i48 (by decide) (by decide)
                  try unfold fM_in_14
                  try unfold fM_in_15
                  refine tt_bw (iv_b (show (0 : Int) ≤ (0 : Int32).toInt ∧ (0 : Int32).toInt ≤ 0 by decide) (by decide) (by decide)) ?_
                  refine tt_bs ?_
                  refine tt_if (fun c51 => ?_) (fun c51 => ?_)
                  · try unfold fM_libraryCell_55
                    try unfold fM_refuse
                    try unfold fM_refuse_0
                    refine tt_bif (fun c52 => ?_) (fun c52 => ?_)
                    · refine tt_bif (fun c53 => ?_) (fun c53 => ?_)
                      · exact (dd_eq c53 (show (1 : Int) ≤ (1 : Int32).toInt ∧ (1 : Int32).toInt ≤ 1 by decide) (show (0 : Int) ≤ (0 : Int32).toInt ∧ (0 : Int32).toInt ≤ 0 by decide) (by decide)).elim
                      · try unfold fM_refuse_26
                        refine tt_bko ?_
                        have k54 := ok_fp (k := 0) (v := 2) k_o0 (iv_w (a := 0) (b := 3) (by decide) (by decide) (show (2 : Int) ≤ (2 : Int32).toInt ∧ (2 : Int32).toInt ≤ 2 by decide))
                        have r55 := fr_fp (k := 0) (v := 2) r_o0 rfl
                        refine tt_bif (fun c56 => ?_) (fun c56 => ?_)
                        · exact (dd_le c56 (show (2 : Int) ≤ (2 : Int32).toInt ∧ (2 : Int32).toInt ≤ 2 by decide) (show (0 : Int) ≤ (0 : Int32).toInt ∧ (0 : Int32).toInt ≤ 0 by decide) (by decide)).elim
                        · try unfold fM_refuse_41
                          refine tt_bw (iv_b (show (1 : Int) ≤ (1 : Int32).toInt ∧ (1 : Int32).toInt ≤ 1 by decide) (by decide) (by decide)) ?_
                          refine tt_bs ?_
                          refine tt_if (fun c57 => ?_) (fun c57 => ?_)
                          · exact (dd_eq c57 (show (1 : Int) ≤ (1 : Int32).toInt ∧ (1 : Int32).toInt ≤ 1 by decide) (show (0 : Int) ≤ (0 : Int32).toInt ∧ (0 : Int32).toInt ≤ 0 by decide) (by decide)).elim
                          · exact tt_some ⟨k54, r55, (iv_w (a := 0) (b := 2) (by decide) (by decide) (show (2 : Int) ≤ (2 : Int32).toInt ∧ (2 : Int32).toInt ≤ 2 by decide)), trivial⟩
                    · exact (dd_ne c52 (show (0 : Int) ≤ (0 : Int32).toInt ∧ (0 : Int32).toInt ≤ 0 by decide) (show (0 : Int) ≤ (0 : Int32).toInt ∧ (0 : Int32).toInt ≤ 0 by decide)).elim
                  · exact (dd_ne c51 (show (0 : Int) ≤ (0 : Int32).toInt ∧ (0 : Int32).toInt ≤ 0 by decide) (show (0 : Int) ≤ (0 : Int32).toInt ∧ (0 : Int32).toInt ≤ 0 by decide)).elim
                · have i58 : (0 : Int) ≤ v2.toInt ∧ v2.toInt ≤ 3 := nr_nltl c49 i48 (show (3 : Int) ≤ (3 : Int32).toInt ∧ (3 : Int32).toInt ≤ 3 by decide) (by decide) (by decide)
                  try unfold fM_in_15
                  refine tt_bw (iv_b (show (1 : Int) ≤ (1 : Int32).toInt ∧ (1 : Int32).toInt ≤ 1 by decide) (by decide) (by decide)) ?_
                  refine tt_bs ?_
                  refine tt_if (fun c59 => ?_) (fun c59 => ?_)
                  · exact (dd_eq c59 (show (1 : Int) ≤ (1 : Int32).toInt ∧ (1 : Int32).toInt ≤ 1 by decide) (show (0 : Int) ≤ (0 : Int32).toInt ∧ (0 : Int32).toInt ≤ 0 by decide) (by decide)).elim
                  · try unfold fM_libraryCell_54
                    try unfold fM_libraryCell_55
                    try unfold fM_refuse
                    try unfold fM_refuse_0
                    refine tt_bif (fun c60 => ?_) (fun c60 => ?_)
                    · refine tt_bif (fun c61 => ?_) (fun c61 => ?_)
                      · refine tt_bif (fun c62 => ?_) (fun c62 => ?_)
                        · try unfold fM_refuse_26
                          refine tt_bko ?_
                          have k63 := ok_fp (k := 0) (v := 0) k_o0 (iv_w (a := 0) (b := 3) (by decide) (by decide) (show (0 : Int) ≤ (0 : Int32).toInt ∧ (0 : Int32).toInt ≤ 0 by decide))
                          have r64 := fr_fp (k := 0) (v := 0) r_o0 rfl
                          refine tt_bif (fun c65 => ?_) (fun c65 => ?_)
                          · try unfold fM_refuse_41
                            refine tt_bw (iv_b (show (0 : Int) ≤ (0 : Int32).toInt ∧ (0 : Int32).toInt ≤ 0 by decide) (by decide) (by decide)) ?_
                            refine tt_bs ?_
                            refine tt_if (fun c66 => ?_) (fun c66 => ?_)
                            · refine tt_kv (P := fun z => (0 : Int) ≤ z.toInt ∧ z.toInt ≤ 44) (iv_mul (show (4 : Int) ≤ (4 : Int32).toInt ∧ (4 : Int32).toInt ≤ 4 by decide) i33 (by decide) (by decide) (by decide) (by decide) (by decide)) (fun x67 i68 => ?_)
                              refine tt_kv (P := fun z => (0 : Int) ≤ z.toInt ∧ z.toInt ≤ 47) (iv_add i68 i58 (by decide) (by decide) (by decide) (by decide)) (fun x69 i70 => ?_)
                              refine tt_n (ix_ok i70 (by decide) (by decide)) ?_
                              refine tt_kv (P := fun z => ((-2147483648) : Int) ≤ z.toInt ∧ z.toInt ≤ 2147483647) (k63.2 84 _) (fun x71 i72 => ?_)
                              exact tt_some ⟨k63, r64, (iv_w (a := 0) (b := 2) (by decide) (by decide) (show (0 : Int) ≤ (0 : Int32).toInt ∧ (0 : Int32).toInt ≤ 0 by decide)), trivial⟩
                            · exact (dd_ne c66 (show (0 : Int) ≤ (0 : Int32).toInt ∧ (0 : Int32).toInt ≤ 0 by decide) (show (0 : Int) ≤ (0 : Int32).toInt ∧ (0 : Int32).toInt ≤ 0 by decide)).elim
                          · exact (dd_nle c65 (show (0 : Int) ≤ (0 : Int32).toInt ∧ (0 : Int32).toInt ≤ 0 by decide) (show (0 : Int) ≤ (0 : Int32).toInt ∧ (0 : Int32).toInt ≤ 0 by decide) (by decide)).elim
                        · exact (dd_ne c62 (show (0 : Int) ≤ (0 : Int32).toInt ∧ (0 : Int32).toInt ≤ 0 by decide) (show (0 : Int) ≤ (0 : Int32).toInt ∧ (0 : Int32).toInt ≤ 0 by decide)).elim
                      · exact (dd_ne c61 (show (0 : Int) ≤ (0 : Int32).toInt ∧ (0 : Int32).toInt ≤ 0 by decide) (show (0 : Int) ≤ (0 : Int32).toInt ∧ (0 : Int32).toInt ≤ 0 by decide)).elim
                    · exact (dd_ne c60 (show (0 : Int) ≤ (0 : Int32).toInt ∧ (0 : Int32).toInt ≤ 0 by decide) (show (0 : Int) ≤ (0 : Int32).toInt ∧ (0 : Int32).toInt ≤ 0 by decide)).elim
def QM_timeOf (v1 : Int32) (o0 : cf_O) (r : (Int32)) : Prop := True
set_option maxHeartbeats 4000000 in
set_option maxRecDepth 100000 in
theorem sM_timeOf (v1 : Int32) (o0 : cf_O) (k_o0 : okO I_M o0) (i_v1 : (0 : Int) ≤ v1.toInt ∧ v1.toInt ≤ 417) (f_o0_0 : (0 : Int) ≤ (o0.1 0).toInt ∧ (o0.1 0).toInt ≤ 0) (f_o0_95 : (0 : Int) ≤ (o0.1 95).toInt ∧ (o0.1 95).toInt ≤ 0) : tt (fM_timeOf v1 o0) (QM_timeOf v1 o0) := by
  have r_o0 : Fr (fr_M [] [] []) o0 o0 := fr_rfl
  unfold fM_timeOf fM_timeOf_0
  refine tt_if (fun c1 => ?_) (fun c1 => ?_)
  · have i2 : (0 : Int) ≤ v1.toInt ∧ v1.toInt ≤ 1 := nr_ltl c1 i_v1 (show (2 : Int) ≤ (2 : Int32).toInt ∧ (2 : Int32).toInt ≤ 2 by decide) (by decide) (by decide)
    try unfold fM_timeOf_13
    try unfold fM_timeOf_25
    exact tt_some trivial
  · have i3 : (2 : Int) ≤ v1.toInt ∧ v1.toInt ≤ 417 := nr_nltr c1 (show (2 : Int) ≤ (2 : Int32).toInt ∧ (2 : Int32).toInt ≤ 2 by decide) i_v1 (by decide) (by decide)
    try unfold fM_isGiven
    try unfold fM_isGiven_0
    refine tt_bkv (P := fun z => (0 : Int) ≤ z.toInt ∧ z.toInt ≤ 1) (iv_rem (k := 2) i3 (show (2 : Int) ≤ (2 : Int32).toInt ∧ (2 : Int32).toInt ≤ 2 by decide) (by decide) (by decide) (by decide) (by decide)) (fun x4 i5 => ?_)
    refine tt_bif (fun c6 => ?_) (fun c6 => ?_)
    · have i7 : (0 : Int) ≤ x4.toInt ∧ x4.toInt ≤ 0 := nr_eql c6 i5 (show (0 : Int) ≤ (0 : Int32).toInt ∧ (0 : Int32).toInt ≤ 0 by decide) (by decide) (by decide)
      refine tt_bkv (P := fun z => (1 : Int) ≤ z.toInt ∧ z.toInt ≤ 208) (iv_div (k := 2) i3 (show (2 : Int) ≤ (2 : Int32).toInt ∧ (2 : Int32).toInt ≤ 2 by decide) (by decide) (by decide) (by decide) (by decide)) (fun x8 i9 => ?_)
      refine tt_bb ?_
      try unfold fM_in
      try unfold fM_in_0
      refine tt_bif (fun c10 => ?_) (fun c10 => ?_)
      · exact (dd_lt c10 i9 (show (1 : Int) ≤ (1 : Int32).toInt ∧ (1 : Int32).toInt ≤ 1 by decide) (by decide)).elim
      · refine tt_bif (fun c11 => ?_) (fun c11 => ?_)
        · try unfold fM_in_14
          try unfold fM_in_15
          refine tt_bw (iv_b (show (0 : Int) ≤ (0 : Int32).toInt ∧ (0 : Int32).toInt ≤ 0 by decide) (by decide) (by decide)) ?_
          refine tt_bs ?_
          refine tt_bif (fun c12 => ?_) (fun c12 => ?_)
          · try unfold fM_isGiven_24
            try unfold fM_isGiven_25
            refine tt_bw (iv_b (show (0 : Int) ≤ (0 : Int32).toInt ∧ (0 : Int32).toInt ≤ 0 by decide) (by decide) (by decide)) ?_
            refine tt_bs ?_
            refine tt_if (fun c13 => ?_) (fun c13 => ?_)
            · refine tt_kv (P := fun z => (10 : Int) ≤ z.toInt ∧ z.toInt ≤ 2085) (iv_mul (show (5 : Int) ≤ (5 : Int32).toInt ∧ (5 : Int32).toInt ≤ 5 by decide) i3 (by decide) (by decide) (by decide) (by decide) (by decide)) (fun x14 i15 => ?_)
              refine tt_n (ix_ok i15 (by decide) (by decide)) ?_
              refine tt_kv (P := fun z => ((-2147483648) : Int) ≤ z.toInt ∧ z.toInt ≤ 2147483647) (k_o0.2 87 _) (fun x16 i17 => ?_)
              try unfold fM_timeOf_25
              exact tt_some trivial
            · exact (dd_ne c13 (show (0 : Int) ≤ (0 : Int32).toInt ∧ (0 : Int32).toInt ≤ 0 by decide) (show (0 : Int) ≤ (0 : Int32).toInt ∧ (0 : Int32).toInt ≤ 0 by decide)).elim
          · exact (dd_ne c12 (show (0 : Int) ≤ (0 : Int32).toInt ∧ (0 : Int32).toInt ≤ 0 by decide) (show (0 : Int) ≤ (0 : Int32).toInt ∧ (0 : Int32).toInt ≤ 0 by decide)).elim
        · have i18 : (1 : Int) ≤ x8.toInt ∧ x8.toInt ≤ 8 := nr_nltl c11 i9 (k_o0.1 39) (by decide) (by decide)
          have i19 : (1 : Int) ≤ (o0.1 39).toInt ∧ (o0.1 39).toInt ≤ 8 := nr_nltr c11 i9 (k_o0.1 39) (by decide) (by decide)
          try unfold fM_in_15
          refine tt_bw (iv_b (show (1 : Int) ≤ (1 : Int32).toInt ∧ (1 : Int32).toInt ≤ 1 by decide) (by decide) (by decide)) ?_
          refine tt_bs ?_
          refine tt_bif (fun c20 => ?_) (fun c20 => ?_)
          · exact (dd_eq c20 (show (1 : Int) ≤ (1 : Int32).toInt ∧ (1 : Int32).toInt ≤ 1 by decide) (show (0 : Int) ≤ (0 : Int32).toInt ∧ (0 : Int32).toInt ≤ 0 by decide) (by decide)).elim
          · try unfold fM_isGiven_25
            refine tt_bw (iv_b (show (1 : Int) ≤ (1 : Int32).toInt ∧ (1 : Int32).toInt ≤ 1 by decide) (by decide) (by decide)) ?_
            refine tt_bs ?_
            refine tt_if (fun c21 => ?_) (fun c21 => ?_)
            · exact (dd_eq c21 (show (1 : Int) ≤ (1 : Int32).toInt ∧ (1 : Int32).toInt ≤ 1 by decide) (show (0 : Int) ≤ (0 : Int32).toInt ∧ (0 : Int32).toInt ≤ 0 by decide) (by decide)).elim
            · try unfold fM_timeOf_13
              try unfold fM_timeOf_25
              exact tt_some trivial
    · have i22 : (1 : Int) ≤ x4.toInt ∧ x4.toInt ≤ 1 := nr_nela c6 i5 (show (0 : Int) ≤ (0 : Int32).toInt ∧ (0 : Int32).toInt ≤ 0 by decide) (by decide) (by decide)
      try unfold fM_isGiven_24
      try unfold fM_isGiven_25
      refine tt_bw (iv_b (show (0 : Int) ≤ (0 : Int32).toInt ∧ (0 : Int32).toInt ≤ 0 by decide) (by decide) (by decide)) ?_
      refine tt_bs ?_
      refine tt_if (fun c23 => ?_) (fun c23 => ?_)
      · refine tt_kv (P := fun z => (10 : Int) ≤ z.toInt ∧ z.toInt ≤ 2085) (iv_mul (show (5 : Int) ≤ (5 : Int32).toInt ∧ (5 : Int32).toInt ≤ 5 by decide) i3 (by decide) (by decide) (by decide) (by decide) (by decide)) (fun x24 i25 => ?_)
        refine tt_n (ix_ok i25 (by decide) (by decide)) ?_
        refine tt_kv (P := fun z => ((-2147483648) : Int) ≤ z.toInt ∧ z.toInt ≤ 2147483647) (k_o0.2 87 _) (fun x26 i27 => ?_)
        try unfold fM_timeOf_25
        exact tt_some trivial
      · exact (dd_ne c23 (show (0 : Int) ≤ (0 : Int32).toInt ∧ (0 : Int32).toInt ≤ 0 by decide) (show (0 : Int) ≤ (0 : Int32).toInt ∧ (0 : Int32).toInt ≤ 0 by decide)).elim
def QM_maskAll (v1 : Int32) (v2 : Int32) (o0 : cf_O) (r : (cf_O)) : Prop := (okO I_M r) ∧ (Fr (fr_M [] [91] []) o0 r) ∧ True
def HM_maskAll (yv1 : Int32) (yv2 : Int32) (yo0 : cf_O) (n : Nat) : Prop := (∀ (v1 : Int32) (v2 : Int32) (v3 : Int32) (o0 : cf_O), (okO I_M o0) → (Fr (fr_M [] [91] []) yo0 o0) → ((1 : Int) ≤ v1.toInt ∧ v1.toInt ≤ 208) → ((301 : Int) ≤ v2.toInt ∧ v2.toInt ≤ 63209) → ((0 : Int) ≤ v3.toInt ∧ v3.toInt ≤ 209) → ((0 : Int) ≤ (o0.1 0).toInt ∧ (o0.1 0).toInt ≤ 0) → ((1 : Int) ≤ (o0.1 38).toInt ∧ (o0.1 38).toInt ≤ 1) → ((1 : Int) ≤ (o0.1 78).toInt ∧ (o0.1 78).toInt ≤ 1) → ((0 : Int) ≤ (o0.1 95).toInt ∧ (o0.1 95).toInt ≤ 0) → (v1.toInt ≤ (o0.1 39).toInt + (o0.1 43).toInt) → 0 + (209 - v3.toInt) * 14 < (n : Int) → tt (gM_maskAll n 0 v1 v2 v3 0 o0) (QM_maskAll yv1 yv2 yo0)) ∧ (∀ (v1 : Int32) (v2 : Int32) (v3 : Int32) (v4 : Int32) (o0 : cf_O), (okO I_M o0) → (Fr (fr_M [] [91] []) yo0 o0) → ((1 : Int) ≤ v1.toInt ∧ v1.toInt ≤ 208) → ((301 : Int) ≤ v2.toInt ∧ v2.toInt ≤ 63209) → ((0 : Int) ≤ v3.toInt ∧ v3.toInt ≤ 208) → ((0 : Int) ≤ v4.toInt ∧ v4.toInt ≤ 5) → ((0 : Int) ≤ (o0.1 0).toInt ∧ (o0.1 0).toInt ≤ 0) → ((1 : Int) ≤ (o0.1 38).toInt ∧ (o0.1 38).toInt ≤ 1) → ((1 : Int) ≤ (o0.1 78).toInt ∧ (o0.1 78).toInt ≤ 1) → ((0 : Int) ≤ (o0.1 95).toInt ∧ (o0.1 95).toInt ≤ 0) → (v1.toInt ≤ (o0.1 39).toInt + (o0.1 43).toInt) → 0 + (209 - v3.toInt - 1) * 14 + 1 + (5 - v4.toInt) * 2 < (n : Int) → tt (gM_maskAll n 1 v1 v2 v3 v4 o0) (QM_maskAll yv1 yv2 yo0))
set_option maxHeartbeats 4000000 in
set_option maxRecDepth 100000 in
theorem tM_maskAll_126 {yv1 : Int32} {yv2 : Int32} {yo0 : cf_O} {n : Nat} (H : HM_maskAll yv1 yv2 yo0 n) (v1 : Int32) (v2 : Int32) (v3 : Int32) (v4 : Int32) (o0 : cf_O) (k_o0 : okO I_M o0) (r_o0 : Fr (fr_M [] [91] []) yo0 o0) (i_v1 : (1 : Int) ≤ v1.toInt ∧ v1.toInt ≤ 208) (i_v2 : (301 : Int) ≤ v2.toInt ∧ v2.toInt ≤ 63209) (i_v3 : (0 : Int) ≤ v3.toInt ∧ v3.toInt ≤ 208) (i_v4 : (0 : Int) ≤ v4.toInt ∧ v4.toInt ≤ 5) (f_o0_0 : (0 : Int) ≤ (o0.1 0).toInt ∧ (o0.1 0).toInt ≤ 0) (f_o0_38 : (1 : Int) ≤ (o0.1 38).toInt ∧ (o0.1 38).toInt ≤ 1) (f_o0_78 : (1 : Int) ≤ (o0.1 78).toInt ∧ (o0.1 78).toInt ≤ 1) (f_o0_95 : (0 : Int) ≤ (o0.1 95).toInt ∧ (o0.1 95).toInt ≤ 0) (x_0 : v1.toInt ≤ (o0.1 39).toInt + (o0.1 43).toInt) (hm : 0 + (209 - v3.toInt - 1) * 14 + 1 + (5 - v4.toInt) * 2 ≤ (n : Int)) : tt (fM_maskAll_126 (gM_maskAll n) v1 v2 v3 v4 o0) (QM_maskAll yv1 yv2 yo0) := by
  unfold fM_maskAll_126
  have g_o0_39 : (0 : Int) ≤ (o0.1 39).toInt ∧ (o0.1 39).toInt ≤ 8 := k_o0.1 39
  have ey_o0_39 : (o0.1 39).toInt = (yo0.1 39).toInt := congrArg Int32.toInt (r_o0.1 39 rfl)
  have g_o0_43 : (0 : Int) ≤ (o0.1 43).toInt ∧ (o0.1 43).toInt ≤ 200 := k_o0.1 43
  have ey_o0_43 : (o0.1 43).toInt = (yo0.1 43).toInt := congrArg Int32.toInt (r_o0.1 43 rfl)
  refine tt_n (ix_ok i_v2 (by decide) (by decide)) ?_
  refine tt_kv (P := fun z => ((0 : Int) ≤ z.toInt ∧ z.toInt ≤ 5) ∧ z.toInt = (o0.2.1 59 v2.toNatClampNeg).toInt) ⟨(k_o0.2 59 _), rfl⟩ (fun x1 qi2 => ?_)
  obtain ⟨i2, ei2⟩ := qi2
  refine tt_if (fun c3 => ?_) (fun c3 => ?_)
  · have wc3 : x1.toInt ≤ v4.toInt := c_le c3
    refine tt_kv (P := fun z => ((1 : Int) ≤ z.toInt ∧ z.toInt ≤ 209) ∧ z.toInt = v3.toInt + 1) ⟨iv_add i_v3 (show (1 : Int) ≤ (1 : Int32).toInt ∧ (1 : Int32).toInt ≤ 1 by decide) (by decide) (by decide) (by decide) (by decide), iq_add i_v3 (show (1 : Int) ≤ (1 : Int32).toInt ∧ (1 : Int32).toInt ≤ 1 by decide) (by decide) (by decide)⟩ (fun x4 qi5 => ?_)
    obtain ⟨i5, ei5⟩ := qi5
    exact H.1 _ _ _ _ k_o0 r_o0 i_v1 i_v2 (iv_w (a := 0) (b := 209) (by decide) (by decide) i5) f_o0_0 f_o0_38 f_o0_78 f_o0_95 (show v1.toInt ≤ (o0.1 39).toInt + (o0.1 43).toInt by omega) (show 0 + (209 - x4.toInt) * 14 < (n : Int) by omega)
  · have wc3 : v4.toInt < x1.toInt := c_nle c3
    have i6 : (0 : Int) ≤ v4.toInt ∧ v4.toInt ≤ 4 := nr_nlel c3 i_v4 i2 (by decide) (by decide)
    have i7 : (1 : Int) ≤ x1.toInt ∧ x1.toInt ≤ 5 := nr_nler c3 i_v4 i2 (by decide) (by decide)
    refine tt_kv (P := fun z => ((1505 : Int) ≤ z.toInt ∧ z.toInt ≤ 316045) ∧ z.toInt = 5 * v2.toInt) ⟨iv_mul (show (5 : Int) ≤ (5 : Int32).toInt ∧ (5 : Int32).toInt ≤ 5 by decide) i_v2 (by decide) (by decide) (by decide) (by decide) (by decide), iq_mul (show (5 : Int) ≤ (5 : Int32).toInt ∧ (5 : Int32).toInt ≤ 5 by decide) i_v2 (by decide) (by decide) (by decide) (by decide)⟩ (fun x8 qi9 => ?_)
    obtain ⟨i9, ei9⟩ := qi9
    refine tt_kv (P := fun z => ((1505 : Int) ≤ z.toInt ∧ z.toInt ≤ 316049) ∧ z.toInt = x8.toInt + v4.toInt) ⟨iv_add i9 i6 (by decide) (by decide) (by decide) (by decide), iq_add i9 i6 (by decide) (by decide)⟩ (fun x10 qi11 => ?_)
    obtain ⟨i11, ei11⟩ := qi11
    refine tt_n (ix_ok i11 (by decide) (by decide)) ?_
    refine tt_kv (P := fun z => ((0 : Int) ≤ z.toInt ∧ z.toInt ≤ 208) ∧ z.toInt = (o0.2.1 58 x10.toNatClampNeg).toInt) ⟨(k_o0.2 58 _), rfl⟩ (fun x12 qi13 => ?_)
    obtain ⟨i13, ei13⟩ := qi13
    refine tt_if (fun c14 => ?_) (fun c14 => ?_)
    · have wc14 : x12.toInt = v3.toInt := c_eq c14
      refine tt_if (fun c15 => ?_) (fun c15 => ?_)
      · have wc15 : v4.toInt = (0 : Int) := c_eq c15
        have i16 : (0 : Int) ≤ v4.toInt ∧ v4.toInt ≤ 0 := nr_eql c15 i6 (show (0 : Int) ≤ (0 : Int32).toInt ∧ (0 : Int32).toInt ≤ 0 by decide) (by decide) (by decide)
        try unfold fM_maskAll_192
        refine tt_n (ix_ok i_v3 (by decide) (by decide)) ?_
        refine tt_ko ?_
        have k17 := ok_xp (k := 91) (i := v3.toNatClampNeg) (v := 170) k_o0 (iv_w (a := 0) (b := 255) (by decide) (by decide) (show (170 : Int) ≤ (170 : Int32).toInt ∧ (170 : Int32).toInt ≤ 170 by decide))
        have r18 := fr_xp (k := 91) (i := v3.toNatClampNeg) (v := 170) r_o0 rfl
        refine tt_kv (P := fun z => ((1 : Int) ≤ z.toInt ∧ z.toInt ≤ 1) ∧ z.toInt = v4.toInt + 1) ⟨iv_add i16 (show (1 : Int) ≤ (1 : Int32).toInt ∧ (1 : Int32).toInt ≤ 1 by decide) (by decide) (by decide) (by decide) (by decide), iq_add i16 (show (1 : Int) ≤ (1 : Int32).toInt ∧ (1 : Int32).toInt ≤ 1 by decide) (by decide) (by decide)⟩ (fun x19 qi20 => ?_)
        obtain ⟨i20, ei20⟩ := qi20
        exact H.2 _ _ _ _ _ k17 r18 i_v1 i_v2 i_v3 (iv_w (a := 0) (b := 5) (by decide) (by decide) i20) f_o0_0 f_o0_38 f_o0_78 f_o0_95 (show v1.toInt ≤ (o0.1 39).toInt + (o0.1 43).toInt by omega) (show 0 + (209 - v3.toInt - 1) * 14 + 1 + (5 - x19.toInt) * 2 < (n : Int) by omega)
      · have wc15 : ¬ v4.toInt = (0 : Int) := c_ne c15
        have i21 : (1 : Int) ≤ v4.toInt ∧ v4.toInt ≤ 4 := nr_nela c15 i6 (show (0 : Int) ≤ (0 : Int32).toInt ∧ (0 : Int32).toInt ≤ 0 by decide) (by decide) (by decide)
        refine tt_if (fun c22 => ?_) (fun c22 => ?_)
        · have wc22 : v4.toInt = (1 : Int) := c_eq c22
          have i23 : (1 : Int) ≤ v4.toInt ∧ v4.toInt ≤ 1 := nr_eql c22 i21 (show (1 : Int) ≤ (1 : Int32).toInt ∧ (1 : Int32).toInt ≤ 1 by decide) (by decide) (by decide)
          try unfold fM_maskAll_192
          refine tt_n (ix_ok i_v3 (by decide) (by decide)) ?_
          refine tt_ko ?_
          have k24 := ok_xp (k := 91) (i := v3.toNatClampNeg) (v := 204) k_o0 (iv_w (a := 0) (b := 255) (by decide) (by decide) (show (204 : Int) ≤ (204 : Int32).toInt ∧ (204 : Int32).toInt ≤ 204 by decide))
          have r25 := fr_xp (k := 91) (i := v3.toNatClampNeg) (v := 204) r_o0 rfl
          refine tt_kv (P := fun z => ((2 : Int) ≤ z.toInt ∧ z.toInt ≤ 2) ∧ z.toInt = v4.toInt + 1) ⟨iv_add i23 (show (1 : Int) ≤ (1 : Int32).toInt ∧ (1 : Int32).toInt ≤ 1 by decide) (by decide) (by decide) (by decide) (by decide), iq_add i23 (show (1 : Int) ≤ (1 : Int32).toInt ∧ (1 : Int32).toInt ≤ 1 by decide) (by decide) (by decide)⟩ (fun x26 qi27 => ?_)
          obtain ⟨i27, ei27⟩ := qi27
          exact H.2 _ _ _ _ _ k24 r25 i_v1 i_v2 i_v3 (iv_w (a := 0) (b := 5) (by decide) (by decide) i27) f_o0_0 f_o0_38 f_o0_78 f_o0_95 (show v1.toInt ≤ (o0.1 39).toInt + (o0.1 43).toInt by omega) (show 0 + (209 - v3.toInt - 1) * 14 + 1 + (5 - x26.toInt) * 2 < (n : Int) by omega)
        · have wc22 : ¬ v4.toInt = (1 : Int) := c_ne c22
          have i28 : (2 : Int) ≤ v4.toInt ∧ v4.toInt ≤ 4 := nr_nela c22 i21 (show (1 : Int) ≤ (1 : Int32).toInt ∧ (1 : Int32).toInt ≤ 1 by decide) (by decide) (by decide)
          try unfold fM_maskAll_192
          refine tt_n (ix_ok i_v3 (by decide) (by decide)) ?_
          refine tt_ko ?_
          have k29 := ok_xp (k := 91) (i := v3.toNatClampNeg) (v := 240) k_o0 (iv_w (a := 0) (b := 255) (by decide) (by decide) (show (240 : Int) ≤ (240 : Int32).toInt ∧ (240 : Int32).toInt ≤ 240 by decide))
          have r30 := fr_xp (k := 91) (i := v3.toNatClampNeg) (v := 240) r_o0 rfl
          refine tt_kv (P := fun z => ((3 : Int) ≤ z.toInt ∧ z.toInt ≤ 5) ∧ z.toInt = v4.toInt + 1) ⟨iv_add i28 (show (1 : Int) ≤ (1 : Int32).toInt ∧ (1 : Int32).toInt ≤ 1 by decide) (by decide) (by decide) (by decide) (by decide), iq_add i28 (show (1 : Int) ≤ (1 : Int32).toInt ∧ (1 : Int32).toInt ≤ 1 by decide) (by decide) (by decide)⟩ (fun x31 qi32 => ?_)
          obtain ⟨i32, ei32⟩ := qi32
          exact H.2 _ _ _ _ _ k29 r30 i_v1 i_v2 i_v3 (iv_w (a := 0) (b := 5) (by decide) (by decide) i32) f_o0_0 f_o0_38 f_o0_78 f_o0_95 (show v1.toInt ≤ (o0.1 39).toInt + (o0.1 43).toInt by omega) (show 0 + (209 - v3.toInt - 1) * 14 + 1 + (5 - x31.toInt) * 2 < (n : Int) by omega)
    · have wc14 : ¬ x12.toInt = v3.toInt := c_ne c14
      refine tt_n (ix_ok i_v3 (by decide) (by decide)) ?_
      refine tt_kv (P := fun z => ((0 : Int) ≤ z.toInt ∧ z.toInt ≤ 255) ∧ z.toInt = (o0.2.1 91 v3.toNatClampNeg).toInt) ⟨(k_o0.2 91 _), rfl⟩ (fun x33 qi34 => ?_)
      obtain ⟨i34, ei34⟩ := qi34
      try unfold fM_maskAll_192
      refine tt_n (ix_ok i_v3 (by decide) (by decide)) ?_
      refine tt_ko ?_
      have k35 := ok_xp (k := 91) (i := v3.toNatClampNeg) (v := x33) k_o0 i34
      have r36 := fr_xp (k := 91) (i := v3.toNatClampNeg) (v := x33) r_o0 rfl
      refine tt_kv (P := fun z => ((1 : Int) ≤ z.toInt ∧ z.toInt ≤ 5) ∧ z.toInt = v4.toInt + 1) ⟨iv_add i6 (show (1 : Int) ≤ (1 : Int32).toInt ∧ (1 : Int32).toInt ≤ 1 by decide) (by decide) (by decide) (by decide) (by decide), iq_add i6 (show (1 : Int) ≤ (1 : Int32).toInt ∧ (1 : Int32).toInt ≤ 1 by decide) (by decide) (by decide)⟩ (fun x37 qi38 => ?_)
      obtain ⟨i38, ei38⟩ := qi38
      exact H.2 _ _ _ _ _ k35 r36 i_v1 i_v2 i_v3 (iv_w (a := 0) (b := 5) (by decide) (by decide) i38) f_o0_0 f_o0_38 f_o0_78 f_o0_95 (show v1.toInt ≤ (o0.1 39).toInt + (o0.1 43).toInt by omega) (show 0 + (209 - v3.toInt - 1) * 14 + 1 + (5 - x37.toInt) * 2 < (n : Int) by omega)
set_option maxHeartbeats 4000000 in
set_option maxRecDepth 100000 in
theorem tM_maskAll_2 {yv1 : Int32} {yv2 : Int32} {yo0 : cf_O} {n : Nat} (H : HM_maskAll yv1 yv2 yo0 n) (v1 : Int32) (v2 : Int32) (v3 : Int32) (o0 : cf_O) (k_o0 : okO I_M o0) (r_o0 : Fr (fr_M [] [91] []) yo0 o0) (i_v1 : (1 : Int) ≤ v1.toInt ∧ v1.toInt ≤ 208) (i_v2 : (301 : Int) ≤ v2.toInt ∧ v2.toInt ≤ 63209) (i_v3 : (0 : Int) ≤ v3.toInt ∧ v3.toInt ≤ 209) (f_o0_0 : (0 : Int) ≤ (o0.1 0).toInt ∧ (o0.1 0).toInt ≤ 0) (f_o0_38 : (1 : Int) ≤ (o0.1 38).toInt ∧ (o0.1 38).toInt ≤ 1) (f_o0_78 : (1 : Int) ≤ (o0.1 78).toInt ∧ (o0.1 78).toInt ≤ 1) (f_o0_95 : (0 : Int) ≤ (o0.1 95).toInt ∧ (o0.1 95).toInt ≤ 0) (x_0 : v1.toInt ≤ (o0.1 39).toInt + (o0.1 43).toInt) (hm : 0 + (209 - v3.toInt) * 14 ≤ (n : Int)) : tt (fM_maskAll_2 (gM_maskAll n) v1 v2 v3 o0) (QM_maskAll yv1 yv2 yo0) := by
  unfold fM_maskAll_2
  have g_o0_39 : (0 : Int) ≤ (o0.1 39).toInt ∧ (o0.1 39).toInt ≤ 8 := k_o0.1 39
  have ey_o0_39 : (o0.1 39).toInt = (yo0.1 39).toInt := congrArg Int32.toInt (r_o0.1 39 rfl)
  have g_o0_43 : (0 : Int) ≤ (o0.1 43).toInt ∧ (o0.1 43).toInt ≤ 200 := k_o0.1 43
  have ey_o0_43 : (o0.1 43).toInt = (yo0.1 43).toInt := congrArg Int32.toInt (r_o0.1 43 rfl)
  refine tt_if (fun c1 => ?_) (fun c1 => ?_)
  · have wc1 : v1.toInt < v3.toInt := c_lt c1
    have i2 : (2 : Int) ≤ v3.toInt ∧ v3.toInt ≤ 209 := nr_ltr c1 i_v1 i_v3 (by decide) (by decide)
    exact tt_some ⟨k_o0, r_o0, trivial⟩
  · have wc1 : v3.toInt ≤ v1.toInt := c_nlt c1
    have i3 : (0 : Int) ≤ v3.toInt ∧ v3.toInt ≤ 208 := nr_nltl c1 i_v3 i_v1 (by decide) (by decide)
    refine tt_n (ix_ok i3 (by decide) (by decide)) ?_
    refine tt_ko ?_
    have k4 := ok_xp (k := 91) (i := v3.toNatClampNeg) (v := 0) k_o0 (iv_w (a := 0) (b := 255) (by decide) (by decide) (show (0 : Int) ≤ (0 : Int32).toInt ∧ (0 : Int32).toInt ≤ 0 by decide))
    have r5 := fr_xp (k := 91) (i := v3.toNatClampNeg) (v := 0) r_o0 rfl
    try unfold fM_base
    try unfold fM_base_0
    refine tt_bkv (P := fun z => ((1 : Int) ≤ z.toInt ∧ z.toInt ≤ 9) ∧ z.toInt = (o0.1 39).toInt + 1) ⟨iv_add (k_o0.1 39) (show (1 : Int) ≤ (1 : Int32).toInt ∧ (1 : Int32).toInt ≤ 1 by decide) (by decide) (by decide) (by decide) (by decide), iq_add (k_o0.1 39) (show (1 : Int) ≤ (1 : Int32).toInt ∧ (1 : Int32).toInt ≤ 1 by decide) (by decide) (by decide)⟩ (fun x6 qi7 => ?_)
    obtain ⟨i7, ei7⟩ := qi7
    refine tt_bs ?_
    refine tt_if (fun c8 => ?_) (fun c8 => ?_)
    · have wc8 : v3.toInt < x6.toInt := c_lt c8
      have i9 : (0 : Int) ≤ v3.toInt ∧ v3.toInt ≤ 8 := nr_ltl c8 i3 i7 (by decide) (by decide)
      try unfold fM_maskAll_123
      exact H.2 _ _ _ _ _ k4 r5 i_v1 i_v2 (iv_w (a := 0) (b := 208) (by decide) (by decide) i9) (iv_w (a := 0) (b := 5) (by decide) (by decide) (show (0 : Int) ≤ (0 : Int32).toInt ∧ (0 : Int32).toInt ≤ 0 by decide)) f_o0_0 f_o0_38 f_o0_78 f_o0_95 (show v1.toInt ≤ (o0.1 39).toInt + (o0.1 43).toInt by omega) (show 0 + (209 - v3.toInt - 1) * 14 + 1 + (5 - 0) * 2 < (n : Int) by omega)
    · have wc8 : x6.toInt ≤ v3.toInt := c_nlt c8
      have i10 : (1 : Int) ≤ v3.toInt ∧ v3.toInt ≤ 208 := nr_nltr c8 i7 i3 (by decide) (by decide)
      try unfold fM_base
      try unfold fM_base_0
      refine tt_bkv (P := fun z => ((1 : Int) ≤ z.toInt ∧ z.toInt ≤ 9) ∧ z.toInt = (o0.1 39).toInt + 1) ⟨iv_add (k_o0.1 39) (show (1 : Int) ≤ (1 : Int32).toInt ∧ (1 : Int32).toInt ≤ 1 by decide) (by decide) (by decide) (by decide) (by decide), iq_add (k_o0.1 39) (show (1 : Int) ≤ (1 : Int32).toInt ∧ (1 : Int32).toInt ≤ 1 by decide) (by decide) (by decide)⟩ (fun x11 qi12 => ?_)
      obtain ⟨i12, ei12⟩ := qi12
      refine tt_bs ?_
      refine tt_kv (P := fun z => (((-8) : Int) ≤ z.toInt ∧ z.toInt ≤ 207) ∧ z.toInt = v3.toInt - x11.toInt) ⟨iv_sub i10 i12 (by decide) (by decide) (by decide) (by decide), iq_sub i10 i12 (by decide) (by decide)⟩ (fun x13 qi14 => ?_)
      obtain ⟨i14, ei14⟩ := qi14
      refine tt_n (ix_rel (by omega) (by omega)) ?_
      have i15 : (0 : Int) ≤ x13.toInt ∧ x13.toInt ≤ 200 := (by omega)
      refine tt_kv (P := fun z => ((0 : Int) ≤ z.toInt ∧ z.toInt ≤ 417) ∧ z.toInt = (o0.2.1 44 x13.toNatClampNeg).toInt) ⟨(k4.2 44 _), rfl⟩ (fun x16 qi17 => ?_)
      obtain ⟨i17, ei17⟩ := qi17
      refine tt_kv (P := fun z => ((0 : Int) ≤ z.toInt ∧ z.toInt ≤ 208) ∧ z.toInt = x16.toInt / 2) ⟨iv_div (k := 2) i17 (show (2 : Int) ≤ (2 : Int32).toInt ∧ (2 : Int32).toInt ≤ 2 by decide) (by decide) (by decide) (by decide) (by decide), i_dv (Int.le_trans (by decide) i17.1) (by decide)⟩ (fun x18 qi19 => ?_)
      obtain ⟨i19, ei19⟩ := qi19
      refine tt_n (ix_ok i19 (by decide) (by decide)) ?_
      refine tt_kv (P := fun z => ((0 : Int) ≤ z.toInt ∧ z.toInt ≤ 255) ∧ z.toInt = (upd (o0.2.1 91) (v3.toNatClampNeg) 0 x18.toNatClampNeg).toInt) ⟨(k4.2 91 _), rfl⟩ (fun x20 qi21 => ?_)
      obtain ⟨i21, ei21⟩ := qi21
      try unfold fM_base
      try unfold fM_base_0
      refine tt_bkv (P := fun z => ((1 : Int) ≤ z.toInt ∧ z.toInt ≤ 9) ∧ z.toInt = (o0.1 39).toInt + 1) ⟨iv_add (k_o0.1 39) (show (1 : Int) ≤ (1 : Int32).toInt ∧ (1 : Int32).toInt ≤ 1 by decide) (by decide) (by decide) (by decide) (by decide), iq_add (k_o0.1 39) (show (1 : Int) ≤ (1 : Int32).toInt ∧ (1 : Int32).toInt ≤ 1 by decide) (by decide) (by decide)⟩ (fun x22 qi23 => ?_)
      obtain ⟨i23, ei23⟩ := qi23
      refine tt_bs ?_
      refine tt_kv (P := fun z => (((-8) : Int) ≤ z.toInt ∧ z.toInt ≤ 207) ∧ z.toInt = v3.toInt - x22.toInt) ⟨iv_sub i10 i23 (by decide) (by decide) (by decide) (by decide), iq_sub i10 i23 (by decide) (by decide)⟩ (fun x24 qi25 => ?_)
      obtain ⟨i25, ei25⟩ := qi25
      refine tt_n (ix_rel (by omega) (by omega)) ?_
      have i26 : (0 : Int) ≤ x24.toInt ∧ x24.toInt ≤ 200 := (by omega)
      refine tt_kv (P := fun z => ((0 : Int) ≤ z.toInt ∧ z.toInt ≤ 417) ∧ z.toInt = (o0.2.1 44 x24.toNatClampNeg).toInt) ⟨(k4.2 44 _), rfl⟩ (fun x27 qi28 => ?_)
      obtain ⟨i28, ei28⟩ := qi28
      refine tt_kv (P := fun z => ((0 : Int) ≤ z.toInt ∧ z.toInt ≤ 1) ∧ z.toInt = x27.toInt % 2) ⟨iv_rem (k := 2) i28 (show (2 : Int) ≤ (2 : Int32).toInt ∧ (2 : Int32).toInt ≤ 2 by decide) (by decide) (by decide) (by decide) (by decide), i_rem (x := x27) (y := 2) (Int.le_trans (by decide) i28.1) (by decide)⟩ (fun x29 qi30 => ?_)
      obtain ⟨i30, ei30⟩ := qi30
      refine tt_if (fun c31 => ?_) (fun c31 => ?_)
      · have wc31 : x29.toInt = (1 : Int) := c_eq c31
        have i32 : (1 : Int) ≤ x29.toInt ∧ x29.toInt ≤ 1 := nr_eql c31 i30 (show (1 : Int) ≤ (1 : Int32).toInt ∧ (1 : Int32).toInt ≤ 1 by decide) (by decide) (by decide)
        try unfold fM_maskAll_64
        refine tt_kv (P := fun z => (0 : Int) ≤ z.toInt ∧ z.toInt ≤ 255) (iv_xor (w := 8) i21 (show (255 : Int) ≤ (255 : Int32).toInt ∧ (255 : Int32).toInt ≤ 255 by decide) (by decide) (by decide) (by decide) (by decide) (by decide) (by decide) (by decide)) (fun x33 i34 => ?_)
        try unfold fM_base
        try unfold fM_base_0
        refine tt_bkv (P := fun z => ((1 : Int) ≤ z.toInt ∧ z.toInt ≤ 9) ∧ z.toInt = (o0.1 39).toInt + 1) ⟨iv_add (k_o0.1 39) (show (1 : Int) ≤ (1 : Int32).toInt ∧ (1 : Int32).toInt ≤ 1 by decide) (by decide) (by decide) (by decide) (by decide), iq_add (k_o0.1 39) (show (1 : Int) ≤ (1 : Int32).toInt ∧ (1 : Int32).toInt ≤ 1 by decide) (by decide) (by decide)⟩ (fun x35 qi36 => ?_)
        obtain ⟨i36, ei36⟩ := qi36
        refine tt_bs ?_
        refine tt_kv (P := fun z => (((-8) : Int) ≤ z.toInt ∧ z.toInt ≤ 207) ∧ z.toInt = v3.toInt - x35.toInt) ⟨iv_sub i10 i36 (by decide) (by decide) (by decide) (by decide), iq_sub i10 i36 (by decide) (by decide)⟩ (fun x37 qi38 => ?_)
        obtain ⟨i38, ei38⟩ := qi38
        refine tt_n (ix_rel (by omega) (by omega)) ?_
        have i39 : (0 : Int) ≤ x37.toInt ∧ x37.toInt ≤ 200 := (by omega)
        refine tt_kv (P := fun z => ((0 : Int) ≤ z.toInt ∧ z.toInt ≤ 417) ∧ z.toInt = (o0.2.1 45 x37.toNatClampNeg).toInt) ⟨(k4.2 45 _), rfl⟩ (fun x40 qi41 => ?_)
        obtain ⟨i41, ei41⟩ := qi41
        refine tt_kv (P := fun z => ((0 : Int) ≤ z.toInt ∧ z.toInt ≤ 208) ∧ z.toInt = x40.toInt / 2) ⟨iv_div (k := 2) i41 (show (2 : Int) ≤ (2 : Int32).toInt ∧ (2 : Int32).toInt ≤ 2 by decide) (by decide) (by decide) (by decide) (by decide), i_dv (Int.le_trans (by decide) i41.1) (by decide)⟩ (fun x42 qi43 => ?_)
        obtain ⟨i43, ei43⟩ := qi43
        refine tt_n (ix_ok i43 (by decide) (by decide)) ?_
        refine tt_kv (P := fun z => ((0 : Int) ≤ z.toInt ∧ z.toInt ≤ 255) ∧ z.toInt = (upd (o0.2.1 91) (v3.toNatClampNeg) 0 x42.toNatClampNeg).toInt) ⟨(k4.2 91 _), rfl⟩ (fun x44 qi45 => ?_)
        obtain ⟨i45, ei45⟩ := qi45
        try unfold fM_base
        try unfold fM_base_0
        refine tt_bkv (P := fun z => ((1 : Int) ≤ z.toInt ∧ z.toInt ≤ 9) ∧ z.toInt = (o0.1 39).toInt + 1) ⟨iv_add (k_o0.1 39) (show (1 : Int) ≤ (1 : Int32).toInt ∧ (1 : Int32).toInt ≤ 1 by decide) (by decide) (by decide) (by decide) (by decide), iq_add (k_o0.1 39) (show (1 : Int) ≤ (1 : Int32).toInt ∧ (1 : Int32).toInt ≤ 1 by decide) (by decide) (by decide)⟩ (fun x46 qi47 => ?_)
        obtain ⟨i47, ei47⟩ := qi47
        refine tt_bs ?_
        refine tt_kv (P := fun z => (((-8) : Int) ≤ z.toInt ∧ z.toInt ≤ 207) ∧ z.toInt = v3.toInt - x46.toInt) ⟨iv_sub i10 i47 (by decide) (by decide) (by decide) (by decide), iq_sub i10 i47 (by decide) (by decide)⟩ (fun x48 qi49 => ?_)
        obtain ⟨i49, ei49⟩ := qi49
        refine tt_n (ix_rel (by omega) (by omega)) ?_
        have i50 : (0 : Int) ≤ x48.toInt ∧ x48.toInt ≤ 200 := (by omega)
        refine tt_kv (P := fun z => ((0 : Int) ≤ z.toInt ∧ z.toInt ≤ 417) ∧ z.toInt = (o0.2.1 45 x48.toNatClampNeg).toInt) ⟨(k4.2 45 _), rfl⟩ (fun x51 qi52 => ?_)
        obtain ⟨i52, ei52⟩ := qi52
        refine tt_kv (P := fun z => ((0 : Int) ≤ z.toInt ∧ z.toInt ≤ 1) ∧ z.toInt = x51.toInt % 2) ⟨iv_rem (k := 2) i52 (show (2 : Int) ≤ (2 : Int32).toInt ∧ (2 : Int32).toInt ≤ 2 by decide) (by decide) (by decide) (by decide) (by decide), i_rem (x := x51) (y := 2) (Int.le_trans (by decide) i52.1) (by decide)⟩ (fun x53 qi54 => ?_)
        obtain ⟨i54, ei54⟩ := qi54
        refine tt_if (fun c55 => ?_) (fun c55 => ?_)
        · have wc55 : x53.toInt = (1 : Int) := c_eq c55
          have i56 : (1 : Int) ≤ x53.toInt ∧ x53.toInt ≤ 1 := nr_eql c55 i54 (show (1 : Int) ≤ (1 : Int32).toInt ∧ (1 : Int32).toInt ≤ 1 by decide) (by decide) (by decide)
          try unfold fM_maskAll_109
          refine tt_kv (P := fun z => (0 : Int) ≤ z.toInt ∧ z.toInt ≤ 255) (iv_xor (w := 8) i45 (show (255 : Int) ≤ (255 : Int32).toInt ∧ (255 : Int32).toInt ≤ 255 by decide) (by decide) (by decide) (by decide) (by decide) (by decide) (by decide) (by decide)) (fun x57 i58 => ?_)
          refine tt_kv (P := fun z => (0 : Int) ≤ z.toInt ∧ z.toInt ≤ 255) (iv_and i58 (by decide) (by decide) (by decide)) (fun x59 i60 => ?_)
          refine tt_n (ix_ok i10 (by decide) (by decide)) ?_
          refine tt_ko ?_
          have k61 := ok_xp (k := 91) (i := v3.toNatClampNeg) (v := x59) k4 i60
          have r62 := fr_xp (k := 91) (i := v3.toNatClampNeg) (v := x59) r5 rfl
          try unfold fM_maskAll_123
          exact H.2 _ _ _ _ _ k61 r62 i_v1 i_v2 (iv_w (a := 0) (b := 208) (by decide) (by decide) i10) (iv_w (a := 0) (b := 5) (by decide) (by decide) (show (0 : Int) ≤ (0 : Int32).toInt ∧ (0 : Int32).toInt ≤ 0 by decide)) f_o0_0 f_o0_38 f_o0_78 f_o0_95 (show v1.toInt ≤ (o0.1 39).toInt + (o0.1 43).toInt by omega) (show 0 + (209 - v3.toInt - 1) * 14 + 1 + (5 - 0) * 2 < (n : Int) by omega)
        · have wc55 : ¬ x53.toInt = (1 : Int) := c_ne c55
          have i63 : (0 : Int) ≤ x53.toInt ∧ x53.toInt ≤ 0 := nr_nelb c55 i54 (show (1 : Int) ≤ (1 : Int32).toInt ∧ (1 : Int32).toInt ≤ 1 by decide) (by decide) (by decide)
          try unfold fM_maskAll_109
          refine tt_kv (P := fun z => ((0 : Int) ≤ z.toInt ∧ z.toInt ≤ 255) ∧ z.toInt = x44.toInt - x44.toInt % 2 + (x44.toInt + 0) % 2) ⟨iv_x1 i45 (show (0 : Int) ≤ (0 : Int32).toInt ∧ (0 : Int32).toInt ≤ 0 by decide) (by decide) (by decide) (by decide) (by decide) (by decide), i_xb (Int.le_trans (by decide) i45.1) (Int.le_trans (by decide) (show (0 : Int) ≤ (0 : Int32).toInt ∧ (0 : Int32).toInt ≤ 0 by decide).1) (Int.le_trans (show (0 : Int) ≤ (0 : Int32).toInt ∧ (0 : Int32).toInt ≤ 0 by decide).2 (by decide))⟩ (fun x64 qi65 => ?_)
          obtain ⟨i65, ei65⟩ := qi65
          refine tt_kv (P := fun z => (0 : Int) ≤ z.toInt ∧ z.toInt ≤ 255) (iv_and i65 (by decide) (by decide) (by decide)) (fun x66 i67 => ?_)
          refine tt_n (ix_ok i10 (by decide) (by decide)) ?_
          refine tt_ko ?_
          have k68 := ok_xp (k := 91) (i := v3.toNatClampNeg) (v := x66) k4 i67
          have r69 := fr_xp (k := 91) (i := v3.toNatClampNeg) (v := x66) r5 rfl
          try unfold fM_maskAll_123
          exact H.2 _ _ _ _ _ k68 r69 i_v1 i_v2 (iv_w (a := 0) (b := 208) (by decide) (by decide) i10) (iv_w (a := 0) (b := 5) (by decide) (by decide) (show (0 : Int) ≤ (0 : Int32).toInt ∧ (0 : Int32).toInt ≤ 0 by decide)) f_o0_0 f_o0_38 f_o0_78 f_o0_95 (show v1.toInt ≤ (o0.1 39).toInt + (o0.1 43).toInt by omega) (show 0 + (209 - v3.toInt - 1) * 14 + 1 + (5 - 0) * 2 < (n : Int) by omega)
      · have wc31 : ¬ x29.toInt = (1 : Int) := c_ne c31
        have i70 : (0 : Int) ≤ x29.toInt ∧ x29.toInt ≤ 0 := nr_nelb c31 i30 (show (1 : Int) ≤ (1 : Int32).toInt ∧ (1 : Int32).toInt ≤ 1 by decide) (by decide) (by decide)
        try unfold fM_maskAll_64
        refine tt_kv (P := fun z => ((0 : Int) ≤ z.toInt ∧ z.toInt ≤ 255) ∧ z.toInt = x20.toInt - x20.toInt % 2 + (x20.toInt + 0) % 2) ⟨iv_x1 i21 (show (0 : Int) ≤ (0 : Int32).toInt ∧ (0 : Int32).toInt ≤ 0 by decide) (by decide) (by decide) (by decide) (by decide) (by decide), i_xb (Int.le_trans (by decide) i21.1) (Int.le_trans (by decide) (show (0 : Int) ≤ (0 : Int32).toInt ∧ (0 : Int32).toInt ≤ 0 by decide).1) (Int.le_trans (show (0 : Int) ≤ (0 : Int32).toInt ∧ (0 : Int32).toInt ≤ 0 by decide).2 (by decide))⟩ (fun x71 qi72 => ?_)
        obtain ⟨i72, ei72⟩ := qi72
        try unfold fM_base
        try unfold fM_base_0
        refine tt_bkv (P := fun z => ((1 : Int) ≤ z.toInt ∧ z.toInt ≤ 9) ∧ z.toInt = (o0.1 39).toInt + 1) ⟨iv_add (k_o0.1 39) (show (1 : Int) ≤ (1 : Int32).toInt ∧ (1 : Int32).toInt ≤ 1 by decide) (by decide) (by decide) (by decide) (by decide), iq_add (k_o0.1 39) (show (1 : Int) ≤ (1 : Int32).toInt ∧ (1 : Int32).toInt ≤ 1 by decide) (by decide) (by decide)⟩ (fun x73 qi74 => ?_)
        obtain ⟨i74, ei74⟩ := qi74
        refine tt_bs ?_
        refine tt_kv (P := fun z => (((-8) : Int) ≤ z.toInt ∧ z.toInt ≤ 207) ∧ z.toInt = v3.toInt - x73.toInt) ⟨iv_sub i10 i74 (by decide) (by decide) (by decide) (by decide), iq_sub i10 i74 (by decide) (by decide)⟩ (fun x75 qi76 => ?_)
        obtain ⟨i76, ei76⟩ := qi76
        refine tt_n (ix_rel (by omega) (by omega)) ?_
        have i77 : (0 : Int) ≤ x75.toInt ∧ x75.toInt ≤ 200 := (by omega)
        refine tt_kv (P := fun z => ((0 : Int) ≤ z.toInt ∧ z.toInt ≤ 417) ∧ z.toInt = (o0.2.1 45 x75.toNatClampNeg).toInt) ⟨(k4.2 45 _), rfl⟩ (fun x78 qi79 => ?_)
        obtain ⟨i79, ei79⟩ := qi79
        refine tt_kv (P := fun z => ((0 : Int) ≤ z.toInt ∧ z.toInt ≤ 208) ∧ z.toInt = x78.toInt / 2) ⟨iv_div (k := 2) i79 (show (2 : Int) ≤ (2 : Int32).toInt ∧ (2 : Int32).toInt ≤ 2 by decide) (by decide) (by decide) (by decide) (by decide), i_dv (Int.le_trans (by decide) i79.1) (by decide)⟩ (fun x80 qi81 => ?_)
        obtain ⟨i81, ei81⟩ := qi81
        refine tt_n (ix_ok i81 (by decide) (by decide)) ?_
        refine tt_kv (P := fun z => ((0 : Int) ≤ z.toInt ∧ z.toInt ≤ 255) ∧ z.toInt = (upd (o0.2.1 91) (v3.toNatClampNeg) 0 x80.toNatClampNeg).toInt) ⟨(k4.2 91 _), rfl⟩ (fun x82 qi83 => ?_)
        obtain ⟨i83, ei83⟩ := qi83
        try unfold fM_base
        try unfold fM_base_0
        refine tt_bkv (P := fun z => ((1 : Int) ≤ z.toInt ∧ z.toInt ≤ 9) ∧ z.toInt = (o0.1 39).toInt + 1) ⟨iv_add (k_o0.1 39) (show (1 : Int) ≤ (1 : Int32).toInt ∧ (1 : Int32).toInt ≤ 1 by decide) (by decide) (by decide) (by decide) (by decide), iq_add (k_o0.1 39) (show (1 : Int) ≤ (1 : Int32).toInt ∧ (1 : Int32).toInt ≤ 1 by decide) (by decide) (by decide)⟩ (fun x84 qi85 => ?_)
        obtain ⟨i85, ei85⟩ := qi85
        refine tt_bs ?_
        refine tt_kv (P := fun z => (((-8) : Int) ≤ z.toInt ∧ z.toInt ≤ 207) ∧ z.toInt = v3.toInt - x84.toInt) ⟨iv_sub i10 i85 (by decide) (by decide) (by decide) (by decide), iq_sub i10 i85 (by decide) (by decide)⟩ (fun x86 qi87 => ?_)
        obtain ⟨i87, ei87⟩ := qi87
        refine tt_n (ix_rel (by omega) (by omega)) ?_
        have i88 : (0 : Int) ≤ x86.toInt ∧ x86.toInt ≤ 200 := (by omega)
        refine tt_kv (P := fun z => ((0 : Int) ≤ z.toInt ∧ z.toInt ≤ 417) ∧ z.toInt = (o0.2.1 45 x86.toNatClampNeg).toInt) ⟨(k4.2 45 _), rfl⟩ (fun x89 qi90 => ?_)
        obtain ⟨i90, ei90⟩ := qi90
        refine tt_kv (P := fun z => ((0 : Int) ≤ z.toInt ∧ z.toInt ≤ 1) ∧ z.toInt = x89.toInt % 2) ⟨iv_rem (k := 2) i90 (show (2 : Int) ≤ (2 : Int32).toInt ∧ (2 : Int32).toInt ≤ 2 by decide) (by decide) (by decide) (by decide) (by decide), i_rem (x := x89) (y := 2) (Int.le_trans (by decide) i90.1) (by decide)⟩ (fun x91 qi92 => ?_)
        obtain ⟨i92, ei92⟩ := qi92
        refine tt_if (fun c93 => ?_) (fun c93 => ?_)
        · have wc93 : x91.toInt = (1 : Int) := c_eq c93
          have i94 : (1 : Int) ≤ x91.toInt ∧ x91.toInt ≤ 1 := nr_eql c93 i92 (show (1 : Int) ≤ (1 : Int32).toInt ∧ (1 : Int32).toInt ≤ 1 by decide) (by decide) (by decide)
          try unfold fM_maskAll_109
          refine tt_kv (P := fun z => (0 : Int) ≤ z.toInt ∧ z.toInt ≤ 255) (iv_xor (w := 8) i83 (show (255 : Int) ≤ (255 : Int32).toInt ∧ (255 : Int32).toInt ≤ 255 by decide) (by decide) (by decide) (by decide) (by decide) (by decide) (by decide) (by decide)) (fun x95 i96 => ?_)
          refine tt_kv (P := fun z => (0 : Int) ≤ z.toInt ∧ z.toInt ≤ 255) (iv_and i96 (by decide) (by decide) (by decide)) (fun x97 i98 => ?_)
          refine tt_n (ix_ok i10 (by decide) (by decide)) ?_
          refine tt_ko ?_
          have k99 := ok_xp (k := 91) (i := v3.toNatClampNeg) (v := x97) k4 i98
          have r100 := fr_xp (k := 91) (i := v3.toNatClampNeg) (v := x97) r5 rfl
          try unfold fM_maskAll_123
          exact H.2 _ _ _ _ _ k99 r100 i_v1 i_v2 (iv_w (a := 0) (b := 208) (by decide) (by decide) i10) (iv_w (a := 0) (b := 5) (by decide) (by decide) (show (0 : Int) ≤ (0 : Int32).toInt ∧ (0 : Int32).toInt ≤ 0 by decide)) f_o0_0 f_o0_38 f_o0_78 f_o0_95 (show v1.toInt ≤ (o0.1 39).toInt + (o0.1 43).toInt by omega) (show 0 + (209 - v3.toInt - 1) * 14 + 1 + (5 - 0) * 2 < (n : Int) by omega)
        · have wc93 : ¬ x91.toInt = (1 : Int) := c_ne c93
          have i101 : (0 : Int) ≤ x91.toInt ∧ x91.toInt ≤ 0 := nr_nelb c93 i92 (show (1 : Int) ≤ (1 : Int32).toInt ∧ (1 : Int32).toInt ≤ 1 by decide) (by decide) (by decide)
          try unfold fM_maskAll_109
          refine tt_kv (P := fun z => ((0 : Int) ≤ z.toInt ∧ z.toInt ≤ 255) ∧ z.toInt = x82.toInt - x82.toInt % 2 + (x82.toInt + 0) % 2) ⟨iv_x1 i83 (show (0 : Int) ≤ (0 : Int32).toInt ∧ (0 : Int32).toInt ≤ 0 by decide) (by decide) (by decide) (by decide) (by decide) (by decide), i_xb (Int.le_trans (by decide) i83.1) (Int.le_trans (by decide) (show (0 : Int) ≤ (0 : Int32).toInt ∧ (0 : Int32).toInt ≤ 0 by decide).1) (Int.le_trans (show (0 : Int) ≤ (0 : Int32).toInt ∧ (0 : Int32).toInt ≤ 0 by decide).2 (by decide))⟩ (fun x102 qi103 => ?_)
          obtain ⟨i103, ei103⟩ := qi103
          refine tt_kv (P := fun z => (0 : Int) ≤ z.toInt ∧ z.toInt ≤ 255) (iv_and i103 (by decide) (by decide) (by decide)) (fun x104 i105 => ?_)
          refine tt_n (ix_ok i10 (by decide) (by decide)) ?_
          refine tt_ko ?_
          have k106 := ok_xp (k := 91) (i := v3.toNatClampNeg) (v := x104) k4 i105
          have r107 := fr_xp (k := 91) (i := v3.toNatClampNeg) (v := x104) r5 rfl
          try unfold fM_maskAll_123
          exact H.2 _ _ _ _ _ k106 r107 i_v1 i_v2 (iv_w (a := 0) (b := 208) (by decide) (by decide) i10) (iv_w (a := 0) (b := 5) (by decide) (by decide) (show (0 : Int) ≤ (0 : Int32).toInt ∧ (0 : Int32).toInt ≤ 0 by decide)) f_o0_0 f_o0_38 f_o0_78 f_o0_95 (show v1.toInt ≤ (o0.1 39).toInt + (o0.1 43).toInt by omega) (show 0 + (209 - v3.toInt - 1) * 14 + 1 + (5 - 0) * 2 < (n : Int) by omega)
set_option maxHeartbeats 4000000 in
set_option maxRecDepth 100000 in
theorem hM_maskAll (yv1 : Int32) (yv2 : Int32) (yo0 : cf_O) : ∀ n, HM_maskAll yv1 yv2 yo0 n := by
  intro n
  induction n with
  | zero => exact ⟨(fun v1 v2 v3 o0 k_o0 r_o0 i_v1 i_v2 i_v3 f_o0_0 f_o0_38 f_o0_78 f_o0_95 x_0 hm => by exact absurd (show 0 + (209 - v3.toInt) * 14 < (0 : Int) from hm) (by omega)), (fun v1 v2 v3 v4 o0 k_o0 r_o0 i_v1 i_v2 i_v3 i_v4 f_o0_0 f_o0_38 f_o0_78 f_o0_95 x_0 hm => by exact absurd (show 0 + (209 - v3.toInt - 1) * 14 + 1 + (5 - v4.toInt) * 2 < (0 : Int) from hm) (by omega))⟩
  | succ n ih => exact ⟨(fun v1 v2 v3 o0 k_o0 r_o0 i_v1 i_v2 i_v3 f_o0_0 f_o0_38 f_o0_78 f_o0_95 x_0 hm => tM_maskAll_2 ih v1 v2 v3 o0 k_o0 r_o0 i_v1 i_v2 i_v3 f_o0_0 f_o0_38 f_o0_78 f_o0_95 x_0 (by omega)), (fun v1 v2 v3 v4 o0 k_o0 r_o0 i_v1 i_v2 i_v3 i_v4 f_o0_0 f_o0_38 f_o0_78 f_o0_95 x_0 hm => tM_maskAll_126 ih v1 v2 v3 v4 o0 k_o0 r_o0 i_v1 i_v2 i_v3 i_v4 f_o0_0 f_o0_38 f_o0_78 f_o0_95 x_0 (by omega))⟩
set_option maxHeartbeats 4000000 in
set_option maxRecDepth 100000 in
theorem sM_maskAll (v1 : Int32) (v2 : Int32) (o0 : cf_O) (k_o0 : okO I_M o0) (i_v1 : (1 : Int) ≤ v1.toInt ∧ v1.toInt ≤ 208) (i_v2 : (301 : Int) ≤ v2.toInt ∧ v2.toInt ≤ 62907) (f_o0_0 : (0 : Int) ≤ (o0.1 0).toInt ∧ (o0.1 0).toInt ≤ 0) (f_o0_38 : (1 : Int) ≤ (o0.1 38).toInt ∧ (o0.1 38).toInt ≤ 1) (f_o0_78 : (1 : Int) ≤ (o0.1 78).toInt ∧ (o0.1 78).toInt ≤ 1) (f_o0_95 : (0 : Int) ≤ (o0.1 95).toInt ∧ (o0.1 95).toInt ≤ 0) (x_0 : v1.toInt ≤ (o0.1 39).toInt + (o0.1 43).toInt) : tt (fM_maskAll v1 v2 o0) (QM_maskAll v1 v2 o0) := by
  have H := hM_maskAll v1 v2 o0 cfFU
  have hm : (2929 : Int) ≤ (cfFU : Nat) := by decide
  have r_o0 : Fr (fr_M [] [91] []) o0 o0 := fr_rfl
  unfold fM_maskAll fM_maskAll_0
  have g_o0_39 : (0 : Int) ≤ (o0.1 39).toInt ∧ (o0.1 39).toInt ≤ 8 := k_o0.1 39
  have g_o0_43 : (0 : Int) ≤ (o0.1 43).toInt ∧ (o0.1 43).toInt ≤ 200 := k_o0.1 43
  exact H.1 _ _ _ _ k_o0 r_o0 i_v1 (iv_w (a := 301) (b := 63209) (by decide) (by decide) i_v2) (iv_w (a := 0) (b := 209) (by decide) (by decide) (show (0 : Int) ≤ (0 : Int32).toInt ∧ (0 : Int32).toInt ≤ 0 by decide)) f_o0_0 f_o0_38 f_o0_78 f_o0_95 (show v1.toInt ≤ (o0.1 39).toInt + (o0.1 43).toInt by omega) (show 0 + (209 - 0) * 14 < ((cfFU : Nat) : Int) by omega)
