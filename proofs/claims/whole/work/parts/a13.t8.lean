def QM_literalMask (v1 : Int32) (o0 : cf_O) (r : (Int32)) : Prop := ((0 : Int) ≤ r.toInt ∧ r.toInt ≤ 255) ∧ True
set_option maxHeartbeats 4000000 in
set_option maxRecDepth 100000 in
theorem sM_literalMask (v1 : Int32) (o0 : cf_O) (k_o0 : okO I_M o0) (i_v1 : ((-1) : Int) ≤ v1.toInt ∧ v1.toInt ≤ 417) (f_o0_0 : (0 : Int) ≤ (o0.1 0).toInt ∧ (o0.1 0).toInt ≤ 0) (f_o0_38 : (1 : Int) ≤ (o0.1 38).toInt ∧ (o0.1 38).toInt ≤ 1) (f_o0_78 : (1 : Int) ≤ (o0.1 78).toInt ∧ (o0.1 78).toInt ≤ 1) (f_o0_82 : (1 : Int) ≤ (o0.1 82).toInt ∧ (o0.1 82).toInt ≤ 12) (f_o0_95 : (0 : Int) ≤ (o0.1 95).toInt ∧ (o0.1 95).toInt ≤ 0) : tt (fM_literalMask v1 o0) (QM_literalMask v1 o0) := by
  have r_o0 : Fr (fr_M [] [] []) o0 o0 := fr_rfl
  unfold fM_literalMask fM_literalMask_0
  refine tt_kv (P := fun z => (0 : Int) ≤ z.toInt ∧ z.toInt ≤ 208) (iv_divn (k := 2) i_v1 (show (2 : Int) ≤ (2 : Int32).toInt ∧ (2 : Int32).toInt ≤ 2 by decide) (by decide) (by decide) (by decide) (by decide) (by decide)) (fun x1 i2 => ?_)
  refine tt_n (ix_ok i2 (by decide) (by decide)) ?_
  refine tt_kv (P := fun z => (0 : Int) ≤ z.toInt ∧ z.toInt ≤ 255) (k_o0.2 91 _) (fun x3 i4 => ?_)
  refine tt_kv (P := fun z => ((-2147483648) : Int) ≤ z.toInt ∧ z.toInt ≤ 2147483647) (iv_top _) (fun x5 i6 => ?_)
  refine tt_if (fun c7 => ?_) (fun c7 => ?_)
  · have i8 : (1 : Int) ≤ x5.toInt ∧ x5.toInt ≤ 1 := nr_eql c7 i6 (show (1 : Int) ≤ (1 : Int32).toInt ∧ (1 : Int32).toInt ≤ 1 by decide) (by decide) (by decide)
    try unfold fM_literalMask_22
    refine tt_kv (P := fun z => (0 : Int) ≤ z.toInt ∧ z.toInt ≤ 255) (iv_xor (w := 8) i4 (show (255 : Int) ≤ (255 : Int32).toInt ∧ (255 : Int32).toInt ≤ 255 by decide) (by decide) (by decide) (by decide) (by decide) (by decide) (by decide) (by decide)) (fun x9 i10 => ?_)
    exact tt_some ⟨i10, trivial⟩
  · try unfold fM_literalMask_22
    refine tt_kv (P := fun z => (0 : Int) ≤ z.toInt ∧ z.toInt ≤ 255) (iv_x1 i4 (show (0 : Int) ≤ (0 : Int32).toInt ∧ (0 : Int32).toInt ≤ 0 by decide) (by decide) (by decide) (by decide) (by decide) (by decide)) (fun x11 i12 => ?_)
    exact tt_some ⟨i12, trivial⟩
def QM_gives (v1 : Int32) (v2 : Int32) (o0 : cf_O) (r : (Int32)) : Prop := ((0 : Int) ≤ r.toInt ∧ r.toInt ≤ 1) ∧ True
def HM_gives (yv1 : Int32) (yv2 : Int32) (yo0 : cf_O) (n : Nat) : Prop := (∀ (v1 : Int32) (v2 : Int32) (v3 : Int32) (v4 : Int32) (v5 : Int32) (o0 : cf_O), (okO I_M o0) → (Fr (fr_M [] [] []) yo0 o0) → ((2 : Int) ≤ v1.toInt ∧ v1.toInt ≤ 417) → ((0 : Int) ≤ v2.toInt ∧ v2.toInt ≤ 3) → ((0 : Int) ≤ v3.toInt ∧ v3.toInt ≤ 11) → ((0 : Int) ≤ v4.toInt ∧ v4.toInt ≤ 1) → ((0 : Int) ≤ v5.toInt ∧ v5.toInt ≤ 8) → ((0 : Int) ≤ (o0.1 0).toInt ∧ (o0.1 0).toInt ≤ 0) → ((1 : Int) ≤ (o0.1 38).toInt ∧ (o0.1 38).toInt ≤ 1) → ((1 : Int) ≤ (o0.1 78).toInt ∧ (o0.1 78).toInt ≤ 1) → ((1 : Int) ≤ (o0.1 82).toInt ∧ (o0.1 82).toInt ≤ 12) → ((0 : Int) ≤ (o0.1 95).toInt ∧ (o0.1 95).toInt ≤ 0) → (Mt (o0.2.1 90)) → 0 + (8 - v5.toInt) * 10 < (n : Int) → tt (gM_gives n 0 v1 v2 v3 v4 v5 0 0 o0) (QM_gives yv1 yv2 yo0)) ∧ (∀ (v1 : Int32) (v2 : Int32) (v3 : Int32) (v4 : Int32) (v5 : Int32) (v6 : Int32) (v7 : Int32) (o0 : cf_O), (okO I_M o0) → (Fr (fr_M [] [] []) yo0 o0) → ((2 : Int) ≤ v1.toInt ∧ v1.toInt ≤ 417) → ((0 : Int) ≤ v2.toInt ∧ v2.toInt ≤ 3) → ((0 : Int) ≤ v3.toInt ∧ v3.toInt ≤ 11) → ((0 : Int) ≤ v4.toInt ∧ v4.toInt ≤ 1) → ((0 : Int) ≤ v5.toInt ∧ v5.toInt ≤ 7) → ((0 : Int) ≤ v6.toInt ∧ v6.toInt ≤ 7) → ((0 : Int) ≤ v7.toInt ∧ v7.toInt ≤ 3) → ((0 : Int) ≤ (o0.1 0).toInt ∧ (o0.1 0).toInt ≤ 0) → ((1 : Int) ≤ (o0.1 38).toInt ∧ (o0.1 38).toInt ≤ 1) → ((1 : Int) ≤ (o0.1 78).toInt ∧ (o0.1 78).toInt ≤ 1) → ((1 : Int) ≤ (o0.1 82).toInt ∧ (o0.1 82).toInt ≤ 12) → ((0 : Int) ≤ (o0.1 95).toInt ∧ (o0.1 95).toInt ≤ 0) → (Mt (o0.2.1 90)) → 0 + (8 - v5.toInt - 1) * 10 + 1 + (3 - v7.toInt) * 2 < (n : Int) → tt (gM_gives n 1 v1 v2 v3 v4 v5 v6 v7 o0) (QM_gives yv1 yv2 yo0))
set_option maxHeartbeats 4000000 in
set_option maxRecDepth 100000 in
theorem tM_gives_26 {yv1 : Int32} {yv2 : Int32} {yo0 : cf_O} {n : Nat} (H : HM_gives yv1 yv2 yo0 n) (v1 : Int32) (v2 : Int32) (v3 : Int32) (v4 : Int32) (v5 : Int32) (v6 : Int32) (v7 : Int32) (o0 : cf_O) (k_o0 : okO I_M o0) (r_o0 : Fr (fr_M [] [] []) yo0 o0) (i_v1 : (2 : Int) ≤ v1.toInt ∧ v1.toInt ≤ 417) (i_v2 : (0 : Int) ≤ v2.toInt ∧ v2.toInt ≤ 3) (i_v3 : (0 : Int) ≤ v3.toInt ∧ v3.toInt ≤ 11) (i_v4 : (0 : Int) ≤ v4.toInt ∧ v4.toInt ≤ 1) (i_v5 : (0 : Int) ≤ v5.toInt ∧ v5.toInt ≤ 7) (i_v6 : (0 : Int) ≤ v6.toInt ∧ v6.toInt ≤ 7) (i_v7 : (0 : Int) ≤ v7.toInt ∧ v7.toInt ≤ 3) (f_o0_0 : (0 : Int) ≤ (o0.1 0).toInt ∧ (o0.1 0).toInt ≤ 0) (f_o0_38 : (1 : Int) ≤ (o0.1 38).toInt ∧ (o0.1 38).toInt ≤ 1) (f_o0_78 : (1 : Int) ≤ (o0.1 78).toInt ∧ (o0.1 78).toInt ≤ 1) (f_o0_82 : (1 : Int) ≤ (o0.1 82).toInt ∧ (o0.1 82).toInt ≤ 12) (f_o0_95 : (0 : Int) ≤ (o0.1 95).toInt ∧ (o0.1 95).toInt ≤ 0) (x_0 : Mt (o0.2.1 90)) (hm : 0 + (8 - v5.toInt - 1) * 10 + 1 + (3 - v7.toInt) * 2 ≤ (n : Int)) : tt (fM_gives_26 (gM_gives n) v1 v2 v3 v4 v5 v6 v7 o0) (QM_gives yv1 yv2 yo0) := by
  unfold fM_gives_26
  refine tt_if (fun c1 => ?_) (fun c1 => ?_)
  · have wc1 : v2.toInt ≤ v7.toInt := c_le c1
    refine tt_if (fun c2 => ?_) (fun c2 => ?_)
    · have wc2 : v4.toInt = (0 : Int) := c_eq c2
      have i3 : (0 : Int) ≤ v4.toInt ∧ v4.toInt ≤ 0 := nr_eql c2 i_v4 (show (0 : Int) ≤ (0 : Int32).toInt ∧ (0 : Int32).toInt ≤ 0 by decide) (by decide) (by decide)
      try unfold fM_gives_101
      try unfold fM_gives_102
      refine tt_kv (P := fun z => ((1 : Int) ≤ z.toInt ∧ z.toInt ≤ 8) ∧ z.toInt = v5.toInt + 1) ⟨iv_add i_v5 (show (1 : Int) ≤ (1 : Int32).toInt ∧ (1 : Int32).toInt ≤ 1 by decide) (by decide) (by decide) (by decide) (by decide), iq_add i_v5 (show (1 : Int) ≤ (1 : Int32).toInt ∧ (1 : Int32).toInt ≤ 1 by decide) (by decide) (by decide)⟩ (fun x4 qi5 => ?_)
      obtain ⟨i5, ei5⟩ := qi5
      exact H.1 _ _ _ _ _ _ k_o0 r_o0 i_v1 i_v2 i_v3 (iv_w (a := 0) (b := 1) (by decide) (by decide) (show (0 : Int) ≤ (0 : Int32).toInt ∧ (0 : Int32).toInt ≤ 0 by decide)) (iv_w (a := 0) (b := 8) (by decide) (by decide) i5) f_o0_0 f_o0_38 f_o0_78 f_o0_82 f_o0_95 x_0 (show 0 + (8 - x4.toInt) * 10 < (n : Int) by omega)
    · have wc2 : ¬ v4.toInt = (0 : Int) := c_ne c2
      have i6 : (1 : Int) ≤ v4.toInt ∧ v4.toInt ≤ 1 := nr_nela c2 i_v4 (show (0 : Int) ≤ (0 : Int32).toInt ∧ (0 : Int32).toInt ≤ 0 by decide) (by decide) (by decide)
      refine tt_kv (P := fun z => ((0 : Int) ≤ z.toInt ∧ z.toInt ≤ 44) ∧ z.toInt = 4 * v3.toInt) ⟨iv_mul (show (4 : Int) ≤ (4 : Int32).toInt ∧ (4 : Int32).toInt ≤ 4 by decide) i_v3 (by decide) (by decide) (by decide) (by decide) (by decide), iq_mul (show (4 : Int) ≤ (4 : Int32).toInt ∧ (4 : Int32).toInt ≤ 4 by decide) i_v3 (by decide) (by decide) (by decide) (by decide)⟩ (fun x7 qi8 => ?_)
      obtain ⟨i8, ei8⟩ := qi8
      refine tt_kv (P := fun z => ((3 : Int) ≤ z.toInt ∧ z.toInt ≤ 47) ∧ z.toInt = x7.toInt + 3) ⟨iv_add i8 (show (3 : Int) ≤ (3 : Int32).toInt ∧ (3 : Int32).toInt ≤ 3 by decide) (by decide) (by decide) (by decide) (by decide), iq_add i8 (show (3 : Int) ≤ (3 : Int32).toInt ∧ (3 : Int32).toInt ≤ 3 by decide) (by decide) (by decide)⟩ (fun x9 qi10 => ?_)
      obtain ⟨i10, ei10⟩ := qi10
      refine tt_n (ix_ok i10 (by decide) (by decide)) ?_
      refine tt_kv (P := fun z => (((-2147483648) : Int) ≤ z.toInt ∧ z.toInt ≤ 2147483647) ∧ z.toInt = (o0.2.1 84 x9.toNatClampNeg).toInt) ⟨(k_o0.2 84 _), rfl⟩ (fun x11 qi12 => ?_)
      obtain ⟨i12, ei12⟩ := qi12
      refine tt_kv (P := fun z => ((-2147483648) : Int) ≤ z.toInt ∧ z.toInt ≤ 2147483647) (iv_top _) (fun x13 i14 => ?_)
      refine tt_kv (P := fun z => (0 : Int) ≤ z.toInt ∧ z.toInt ≤ 1) (iv_and (show (1 : Int) ≤ (1 : Int32).toInt ∧ (1 : Int32).toInt ≤ 1 by decide) (by decide) (by decide) (by decide)) (fun x15 i16 => ?_)
      refine tt_b (sM_literalMask _ _ k_o0 (iv_w (a := (-1)) (b := 417) (by decide) (by decide) i_v1) f_o0_0 f_o0_38 f_o0_78 f_o0_82 f_o0_95) (fun q17 hq17 => ?_)
      obtain ⟨i_q17, -⟩ := hq17
      refine tt_kv (P := fun z => (0 : Int) ≤ z.toInt ∧ z.toInt ≤ 255) (iv_shr (p := 0) (q := 7) i_q17 i_v5 (by decide) (by decide) (by decide) (by decide)) (fun x18 i19 => ?_)
      refine tt_kv (P := fun z => (0 : Int) ≤ z.toInt ∧ z.toInt ≤ 1) (iv_and (show (1 : Int) ≤ (1 : Int32).toInt ∧ (1 : Int32).toInt ≤ 1 by decide) (by decide) (by decide) (by decide)) (fun x20 i21 => ?_)
      refine tt_if (fun c22 => ?_) (fun c22 => ?_)
      · have wc22 : x15.toInt = x20.toInt := c_eq c22
        try unfold fM_gives_102
        refine tt_kv (P := fun z => ((1 : Int) ≤ z.toInt ∧ z.toInt ≤ 8) ∧ z.toInt = v5.toInt + 1) ⟨iv_add i_v5 (show (1 : Int) ≤ (1 : Int32).toInt ∧ (1 : Int32).toInt ≤ 1 by decide) (by decide) (by decide) (by decide) (by decide), iq_add i_v5 (show (1 : Int) ≤ (1 : Int32).toInt ∧ (1 : Int32).toInt ≤ 1 by decide) (by decide) (by decide)⟩ (fun x23 qi24 => ?_)
        obtain ⟨i24, ei24⟩ := qi24
        exact H.1 _ _ _ _ _ _ k_o0 r_o0 i_v1 i_v2 i_v3 (iv_w (a := 0) (b := 1) (by decide) (by decide) (show (1 : Int) ≤ (1 : Int32).toInt ∧ (1 : Int32).toInt ≤ 1 by decide)) (iv_w (a := 0) (b := 8) (by decide) (by decide) i24) f_o0_0 f_o0_38 f_o0_78 f_o0_82 f_o0_95 x_0 (show 0 + (8 - x23.toInt) * 10 < (n : Int) by omega)
      · have wc22 : ¬ x15.toInt = x20.toInt := c_ne c22
        try unfold fM_gives_101
        try unfold fM_gives_102
        refine tt_kv (P := fun z => ((1 : Int) ≤ z.toInt ∧ z.toInt ≤ 8) ∧ z.toInt = v5.toInt + 1) ⟨iv_add i_v5 (show (1 : Int) ≤ (1 : Int32).toInt ∧ (1 : Int32).toInt ≤ 1 by decide) (by decide) (by decide) (by decide) (by decide), iq_add i_v5 (show (1 : Int) ≤ (1 : Int32).toInt ∧ (1 : Int32).toInt ≤ 1 by decide) (by decide) (by decide)⟩ (fun x25 qi26 => ?_)
        obtain ⟨i26, ei26⟩ := qi26
        exact H.1 _ _ _ _ _ _ k_o0 r_o0 i_v1 i_v2 i_v3 (iv_w (a := 0) (b := 1) (by decide) (by decide) (show (0 : Int) ≤ (0 : Int32).toInt ∧ (0 : Int32).toInt ≤ 0 by decide)) (iv_w (a := 0) (b := 8) (by decide) (by decide) i26) f_o0_0 f_o0_38 f_o0_78 f_o0_82 f_o0_95 x_0 (show 0 + (8 - x25.toInt) * 10 < (n : Int) by omega)
  · have wc1 : v7.toInt < v2.toInt := c_nle c1
    have i27 : (0 : Int) ≤ v7.toInt ∧ v7.toInt ≤ 2 := nr_nlel c1 i_v7 i_v2 (by decide) (by decide)
    have i28 : (1 : Int) ≤ v2.toInt ∧ v2.toInt ≤ 3 := nr_nler c1 i_v7 i_v2 (by decide) (by decide)
    refine tt_kv (P := fun z => ((2 : Int) ≤ z.toInt ∧ z.toInt ≤ 4) ∧ z.toInt = 2 + v7.toInt) ⟨iv_add (show (2 : Int) ≤ (2 : Int32).toInt ∧ (2 : Int32).toInt ≤ 2 by decide) i27 (by decide) (by decide) (by decide) (by decide), iq_add (show (2 : Int) ≤ (2 : Int32).toInt ∧ (2 : Int32).toInt ≤ 2 by decide) i27 (by decide) (by decide)⟩ (fun x29 qi30 => ?_)
    obtain ⟨i30, ei30⟩ := qi30
    refine tt_n (ix_ok i30 (by decide) (by decide)) ?_
    refine tt_kv (P := fun z => (((-2147483648) : Int) ≤ z.toInt ∧ z.toInt ≤ 2147483647) ∧ z.toInt = (o0.2.1 90 x29.toNatClampNeg).toInt) ⟨(k_o0.2 90 _), rfl⟩ (fun x31 qi32 => ?_)
    obtain ⟨i32, ei32⟩ := qi32
    have t33 := tn_n x29
    have t34 := x_0 (x29.toNatClampNeg)
    have i35 : ((-1) : Int) ≤ x31.toInt ∧ x31.toInt ≤ 417 := by omega
    refine tt_b (sM_literalMask _ _ k_o0 i35 f_o0_0 f_o0_38 f_o0_78 f_o0_82 f_o0_95) (fun q36 hq36 => ?_)
    obtain ⟨i_q36, -⟩ := hq36
    refine tt_kv (P := fun z => (0 : Int) ≤ z.toInt ∧ z.toInt ≤ 255) (iv_shr (p := 0) (q := 7) i_q36 i_v5 (by decide) (by decide) (by decide) (by decide)) (fun x37 i38 => ?_)
    refine tt_kv (P := fun z => (0 : Int) ≤ z.toInt ∧ z.toInt ≤ 1) (iv_and (show (1 : Int) ≤ (1 : Int32).toInt ∧ (1 : Int32).toInt ≤ 1 by decide) (by decide) (by decide) (by decide)) (fun x39 i40 => ?_)
    refine tt_kv (P := fun z => (0 : Int) ≤ z.toInt ∧ z.toInt ≤ 4) (iv_shl (p := 0) (q := 2) i40 i27 (by decide) (by decide) (by decide) (by decide) (by decide)) (fun x41 i42 => ?_)
    refine tt_kv (P := fun z => (0 : Int) ≤ z.toInt ∧ z.toInt ≤ 7) (iv_or (w := 3) i_v6 i42 (by decide) (by decide) (by decide) (by decide) (by decide) (by decide) (by decide)) (fun x43 i44 => ?_)
    refine tt_kv (P := fun z => ((1 : Int) ≤ z.toInt ∧ z.toInt ≤ 3) ∧ z.toInt = v7.toInt + 1) ⟨iv_add i27 (show (1 : Int) ≤ (1 : Int32).toInt ∧ (1 : Int32).toInt ≤ 1 by decide) (by decide) (by decide) (by decide) (by decide), iq_add i27 (show (1 : Int) ≤ (1 : Int32).toInt ∧ (1 : Int32).toInt ≤ 1 by decide) (by decide) (by decide)⟩ (fun x45 qi46 => ?_)
    obtain ⟨i46, ei46⟩ := qi46
    exact H.2 _ _ _ _ _ _ _ _ k_o0 r_o0 i_v1 (iv_w (a := 0) (b := 3) (by decide) (by decide) i28) i_v3 i_v4 i_v5 i44 (iv_w (a := 0) (b := 3) (by decide) (by decide) i46) f_o0_0 f_o0_38 f_o0_78 f_o0_82 f_o0_95 x_0 (show 0 + (8 - v5.toInt - 1) * 10 + 1 + (3 - x45.toInt) * 2 < (n : Int) by omega)
set_option maxHeartbeats 4000000 in
set_option maxRecDepth 100000 in
theorem tM_gives_13 {yv1 : Int32} {yv2 : Int32} {yo0 : cf_O} {n : Nat} (H : HM_gives yv1 yv2 yo0 n) (v1 : Int32) (v2 : Int32) (v3 : Int32) (v4 : Int32) (v5 : Int32) (o0 : cf_O) (k_o0 : okO I_M o0) (r_o0 : Fr (fr_M [] [] []) yo0 o0) (i_v1 : (2 : Int) ≤ v1.toInt ∧ v1.toInt ≤ 417) (i_v2 : (0 : Int) ≤ v2.toInt ∧ v2.toInt ≤ 3) (i_v3 : (0 : Int) ≤ v3.toInt ∧ v3.toInt ≤ 11) (i_v4 : (0 : Int) ≤ v4.toInt ∧ v4.toInt ≤ 1) (i_v5 : (0 : Int) ≤ v5.toInt ∧ v5.toInt ≤ 8) (f_o0_0 : (0 : Int) ≤ (o0.1 0).toInt ∧ (o0.1 0).toInt ≤ 0) (f_o0_38 : (1 : Int) ≤ (o0.1 38).toInt ∧ (o0.1 38).toInt ≤ 1) (f_o0_78 : (1 : Int) ≤ (o0.1 78).toInt ∧ (o0.1 78).toInt ≤ 1) (f_o0_82 : (1 : Int) ≤ (o0.1 82).toInt ∧ (o0.1 82).toInt ≤ 12) (f_o0_95 : (0 : Int) ≤ (o0.1 95).toInt ∧ (o0.1 95).toInt ≤ 0) (x_0 : Mt (o0.2.1 90)) (hm : 0 + (8 - v5.toInt) * 10 ≤ (n : Int)) : tt (fM_gives_13 (gM_gives n) v1 v2 v3 v4 v5 o0) (QM_gives yv1 yv2 yo0) := by
  unfold fM_gives_13
  refine tt_if (fun c1 => ?_) (fun c1 => ?_)
  · have wc1 : (8 : Int) ≤ v5.toInt := c_le c1
    have i2 : (8 : Int) ≤ v5.toInt ∧ v5.toInt ≤ 8 := nr_ler c1 (show (8 : Int) ≤ (8 : Int32).toInt ∧ (8 : Int32).toInt ≤ 8 by decide) i_v5 (by decide) (by decide)
    refine tt_w (iv_b i_v4 (by decide) (by decide)) ?_
    exact tt_some ⟨i_v4, trivial⟩
  · have wc1 : v5.toInt < (8 : Int) := c_nle c1
    have i3 : (0 : Int) ≤ v5.toInt ∧ v5.toInt ≤ 7 := nr_nlel c1 i_v5 (show (8 : Int) ≤ (8 : Int32).toInt ∧ (8 : Int32).toInt ≤ 8 by decide) (by decide) (by decide)
    exact H.2 _ _ _ _ _ _ _ _ k_o0 r_o0 i_v1 i_v2 i_v3 i_v4 i3 (iv_w (a := 0) (b := 7) (by decide) (by decide) (show (0 : Int) ≤ (0 : Int32).toInt ∧ (0 : Int32).toInt ≤ 0 by decide)) (iv_w (a := 0) (b := 3) (by decide) (by decide) (show (0 : Int) ≤ (0 : Int32).toInt ∧ (0 : Int32).toInt ≤ 0 by decide)) f_o0_0 f_o0_38 f_o0_78 f_o0_82 f_o0_95 x_0 (show 0 + (8 - v5.toInt - 1) * 10 + 1 + (3 - 0) * 2 < (n : Int) by omega)
set_option maxHeartbeats 4000000 in
set_option maxRecDepth 100000 in
theorem hM_gives (yv1 : Int32) (yv2 : Int32) (yo0 : cf_O) : ∀ n, HM_gives yv1 yv2 yo0 n := by
  intro n
  induction n with
  | zero => exact ⟨(fun v1 v2 v3 v4 v5 o0 k_o0 r_o0 i_v1 i_v2 i_v3 i_v4 i_v5 f_o0_0 f_o0_38 f_o0_78 f_o0_82 f_o0_95 x_0 hm => by exact absurd (show 0 + (8 - v5.toInt) * 10 < (0 : Int) from hm) (by omega)), (fun v1 v2 v3 v4 v5 v6 v7 o0 k_o0 r_o0 i_v1 i_v2 i_v3 i_v4 i_v5 i_v6 i_v7 f_o0_0 f_o0_38 f_o0_78 f_o0_82 f_o0_95 x_0 hm => by exact absurd (show 0 + (8 - v5.toInt - 1) * 10 + 1 + (3 - v7.toInt) * 2 < (0 : Int) from hm) (by omega))⟩
  | succ n ih => exact ⟨(fun v1 v2 v3 v4 v5 o0 k_o0 r_o0 i_v1 i_v2 i_v3 i_v4 i_v5 f_o0_0 f_o0_38 f_o0_78 f_o0_82 f_o0_95 x_0 hm => tM_gives_13 ih v1 v2 v3 v4 v5 o0 k_o0 r_o0 i_v1 i_v2 i_v3 i_v4 i_v5 f_o0_0 f_o0_38 f_o0_78 f_o0_82 f_o0_95 x_0 (by omega)), (fun v1 v2 v3 v4 v5 v6 v7 o0 k_o0 r_o0 i_v1 i_v2 i_v3 i_v4 i_v5 i_v6 i_v7 f_o0_0 f_o0_38 f_o0_78 f_o0_82 f_o0_95 x_0 hm => tM_gives_26 ih v1 v2 v3 v4 v5 v6 v7 o0 k_o0 r_o0 i_v1 i_v2 i_v3 i_v4 i_v5 i_v6 i_v7 f_o0_0 f_o0_38 f_o0_78 f_o0_82 f_o0_95 x_0 (by omega))⟩
set_option maxHeartbeats 4000000 in
set_option maxRecDepth 100000 in
theorem sM_gives (v1 : Int32) (v2 : Int32) (o0 : cf_O) (k_o0 : okO I_M o0) (i_v1 : (2 : Int) ≤ v1.toInt ∧ v1.toInt ≤ 417) (i_v2 : (0 : Int) ≤ v2.toInt ∧ v2.toInt ≤ 3) (f_o0_0 : (0 : Int) ≤ (o0.1 0).toInt ∧ (o0.1 0).toInt ≤ 0) (f_o0_38 : (1 : Int) ≤ (o0.1 38).toInt ∧ (o0.1 38).toInt ≤ 1) (f_o0_78 : (1 : Int) ≤ (o0.1 78).toInt ∧ (o0.1 78).toInt ≤ 1) (f_o0_82 : (1 : Int) ≤ (o0.1 82).toInt ∧ (o0.1 82).toInt ≤ 12) (f_o0_95 : (0 : Int) ≤ (o0.1 95).toInt ∧ (o0.1 95).toInt ≤ 0) (x_0 : Mt (o0.2.1 90)) : tt (fM_gives v1 v2 o0) (QM_gives v1 v2 o0) := by
  have H := hM_gives v1 v2 o0 cfFU
  have hm : (83 : Int) ≤ (cfFU : Nat) := by decide
  have r_o0 : Fr (fr_M [] [] []) o0 o0 := fr_rfl
  unfold fM_gives fM_gives_0
  refine tt_n (ix_ok (show (1 : Int) ≤ (1 : Int32).toInt ∧ (1 : Int32).toInt ≤ 1 by decide) (by decide) (by decide)) ?_
  refine tt_kv (P := fun z => (((-2147483648) : Int) ≤ z.toInt ∧ z.toInt ≤ 2147483647) ∧ z.toInt = (o0.2.1 90 (1 : Int32).toNatClampNeg).toInt) ⟨(k_o0.2 90 _), rfl⟩ (fun x1 qi2 => ?_)
  obtain ⟨i2, ei2⟩ := qi2
  have t3 : (1 : Int32).toNatClampNeg = 1 := by decide
  have t4 := x_0 ((1 : Int32).toNatClampNeg)
  have i5 : (0 : Int) ≤ x1.toInt ∧ x1.toInt ≤ 11 := by omega
  exact H.1 _ _ _ _ _ _ k_o0 r_o0 i_v1 i_v2 i5 (iv_w (a := 0) (b := 1) (by decide) (by decide) (show (1 : Int) ≤ (1 : Int32).toInt ∧ (1 : Int32).toInt ≤ 1 by decide)) (iv_w (a := 0) (b := 8) (by decide) (by decide) (show (0 : Int) ≤ (0 : Int32).toInt ∧ (0 : Int32).toInt ≤ 0 by decide)) f_o0_0 f_o0_38 f_o0_78 f_o0_82 f_o0_95 x_0 (show 0 + (8 - 0) * 10 < ((cfFU : Nat) : Int) by omega)
def QM_against_M90_M89 (v2 : Int32) (v4 : Int32) (o0 : cf_O) (r : (Int32)) : Prop := True
def HM_against_M90_M89 (yv2 : Int32) (yv4 : Int32) (yo0 : cf_O) (n : Nat) : Prop := (∀ (v2 : Int32) (v4 : Int32) (v5 : Int32) (v6 : Int32) (o0 : cf_O), (okO I_M o0) → (Fr (fr_M [] [] []) yo0 o0) → ((0 : Int) ≤ v2.toInt ∧ v2.toInt ≤ 0) → ((10 : Int) ≤ v4.toInt ∧ v4.toInt ≤ 2095) → ((1 : Int) ≤ v6.toInt ∧ v6.toInt ≤ 5) → ((0 : Int) ≤ (o0.1 0).toInt ∧ (o0.1 0).toInt ≤ 0) → ((1 : Int) ≤ (o0.1 38).toInt ∧ (o0.1 38).toInt ≤ 1) → ((1 : Int) ≤ (o0.1 78).toInt ∧ (o0.1 78).toInt ≤ 1) → ((1 : Int) ≤ (o0.1 82).toInt ∧ (o0.1 82).toInt ≤ 12) → ((0 : Int) ≤ (o0.1 95).toInt ∧ (o0.1 95).toInt ≤ 0) → (Mt (o0.2.1 90)) → (Mt (o0.2.1 89)) → (v4.toInt % 5 = 0) → (v2.toInt = 0) → 0 + (5 - v6.toInt) * 2 < (n : Int) → tt (gM_against_M90_M89 n 0 v2 v4 v5 v6 o0) (QM_against_M90_M89 yv2 yv4 yo0))
set_option maxHeartbeats 4000000 in
set_option maxRecDepth 100000 in
theorem tM_against_M90_M89_51 {yv2 : Int32} {yv4 : Int32} {yo0 : cf_O} {n : Nat} (H : HM_against_M90_M89 yv2 yv4 yo0 n) (v2 : Int32) (v4 : Int32) (v5 : Int32) (v6 : Int32) (o0 : cf_O) (k_o0 : okO I_M o0) (r_o0 : Fr (fr_M [] [] []) yo0 o0) (i_v2 : (0 : Int) ≤ v2.toInt ∧ v2.toInt ≤ 0) (i_v4 : (10 : Int) ≤ v4.toInt ∧ v4.toInt ≤ 2095) (i_v6 : (1 : Int) ≤ v6.toInt ∧ v6.toInt ≤ 5) (f_o0_0 : (0 : Int) ≤ (o0.1 0).toInt ∧ (o0.1 0).toInt ≤ 0) (f_o0_38 : (1 : Int) ≤ (o0.1 38).toInt ∧ (o0.1 38).toInt ≤ 1) (f_o0_78 : (1 : Int) ≤ (o0.1 78).toInt ∧ (o0.1 78).toInt ≤ 1) (f_o0_82 : (1 : Int) ≤ (o0.1 82).toInt ∧ (o0.1 82).toInt ≤ 12) (f_o0_95 : (0 : Int) ≤ (o0.1 95).toInt ∧ (o0.1 95).toInt ≤ 0) (x_0 : Mt (o0.2.1 90)) (x_1 : Mt (o0.2.1 89)) (x_2 : v4.toInt % 5 = 0) (x_3 : v2.toInt = 0) (hm : 0 + (5 - v6.toInt) * 2 ≤ (n : Int)) : tt (fM_against_M90_M89_51 (gM_against_M90_M89 n) v2 v4 v5 v6 o0) (QM_against_M90_M89 yv2 yv4 yo0) := by
  unfold fM_against_M90_M89_51
  have i_v5 := iv_top v5
  refine tt_if (fun c1 => ?_) (fun c1 => ?_)
  · have wc1 : (5 : Int) ≤ v6.toInt := c_le c1
    have i2 : (5 : Int) ≤ v6.toInt ∧ v6.toInt ≤ 5 := nr_ler c1 (show (5 : Int) ≤ (5 : Int32).toInt ∧ (5 : Int32).toInt ≤ 5 by decide) i_v6 (by decide) (by decide)
    try unfold fM_against_M90_M89_84
    exact tt_some trivial
  · have wc1 : v6.toInt < (5 : Int) := c_nle c1
    have i3 : (1 : Int) ≤ v6.toInt ∧ v6.toInt ≤ 4 := nr_nlel c1 i_v6 (show (5 : Int) ≤ (5 : Int32).toInt ∧ (5 : Int32).toInt ≤ 5 by decide) (by decide) (by decide)
    refine tt_if (fun c4 => ?_) (fun c4 => ?_)
    · have wc4 : v5.toInt = (0 : Int) := c_eq c4
      have i5 : (0 : Int) ≤ v5.toInt ∧ v5.toInt ≤ 0 := nr_eql c4 (iv_top v5) (show (0 : Int) ≤ (0 : Int32).toInt ∧ (0 : Int32).toInt ≤ 0 by decide) (by decide) (by decide)
      refine tt_kv (P := fun z => ((1 : Int) ≤ z.toInt ∧ z.toInt ≤ 4) ∧ z.toInt = v2.toInt + v6.toInt) ⟨iv_add i_v2 i3 (by decide) (by decide) (by decide) (by decide), iq_add i_v2 i3 (by decide) (by decide)⟩ (fun x6 qi7 => ?_)
      obtain ⟨i7, ei7⟩ := qi7
      refine tt_n (ix_ok i7 (by decide) (by decide)) ?_
      refine tt_kv (P := fun z => (((-2147483648) : Int) ≤ z.toInt ∧ z.toInt ≤ 2147483647) ∧ z.toInt = (o0.2.1 90 x6.toNatClampNeg).toInt) ⟨(k_o0.2 90 _), rfl⟩ (fun x8 qi9 => ?_)
      obtain ⟨i9, ei9⟩ := qi9
      have t10 := tn_n x6
      have t11 := x_0 (x6.toNatClampNeg)
      refine tt_kv (P := fun z => ((11 : Int) ≤ z.toInt ∧ z.toInt ≤ 2099) ∧ z.toInt = v4.toInt + v6.toInt) ⟨iv_add i_v4 i3 (by decide) (by decide) (by decide) (by decide), iq_add i_v4 i3 (by decide) (by decide)⟩ (fun x12 qi13 => ?_)
      obtain ⟨i13, ei13⟩ := qi13
      refine tt_n (ix_ok i13 (by decide) (by decide)) ?_
      refine tt_kv (P := fun z => (((-2147483648) : Int) ≤ z.toInt ∧ z.toInt ≤ 2147483647) ∧ z.toInt = (o0.2.1 89 x12.toNatClampNeg).toInt) ⟨(k_o0.2 89 _), rfl⟩ (fun x14 qi15 => ?_)
      obtain ⟨i15, ei15⟩ := qi15
      have t16 := tn_n x12
      have t17 := x_1 (x12.toNatClampNeg)
      refine tt_kv (P := fun z => ((-2147483648) : Int) ≤ z.toInt ∧ z.toInt ≤ 2147483647) (iv_top _) (fun x18 i19 => ?_)
      refine tt_kv (P := fun z => ((2 : Int) ≤ z.toInt ∧ z.toInt ≤ 5) ∧ z.toInt = v6.toInt + 1) ⟨iv_add i3 (show (1 : Int) ≤ (1 : Int32).toInt ∧ (1 : Int32).toInt ≤ 1 by decide) (by decide) (by decide) (by decide) (by decide), iq_add i3 (show (1 : Int) ≤ (1 : Int32).toInt ∧ (1 : Int32).toInt ≤ 1 by decide) (by decide) (by decide)⟩ (fun x20 qi21 => ?_)
      obtain ⟨i21, ei21⟩ := qi21
      exact H _ _ _ _ _ k_o0 r_o0 i_v2 i_v4 (iv_w (a := 1) (b := 5) (by decide) (by decide) i21) f_o0_0 f_o0_38 f_o0_78 f_o0_82 f_o0_95 x_0 x_1 (show v4.toInt % 5 = 0 by omega) (show v2.toInt = 0 by omega) (show 0 + (5 - x20.toInt) * 2 < (n : Int) by omega)
    · have wc4 : ¬ v5.toInt = (0 : Int) := c_ne c4
      try unfold fM_against_M90_M89_84
      exact tt_some trivial
set_option maxHeartbeats 4000000 in
set_option maxRecDepth 100000 in
theorem hM_against_M90_M89 (yv2 : Int32) (yv4 : Int32) (yo0 : cf_O) : ∀ n, HM_against_M90_M89 yv2 yv4 yo0 n := by
  intro n
  induction n with
  | zero => exact (fun v2 v4 v5 v6 o0 k_o0 r_o0 i_v2 i_v4 i_v6 f_o0_0 f_o0_38 f_o0_78 f_o0_82 f_o0_95 x_0 x_1 x_2 x_3 hm => by exact absurd (show 0 + (5 - v6.toInt) * 2 < (0 : Int) from hm) (by omega))
  | succ n ih => exact (fun v2 v4 v5 v6 o0 k_o0 r_o0 i_v2 i_v4 i_v6 f_o0_0 f_o0_38 f_o0_78 f_o0_82 f_o0_95 x_0 x_1 x_2 x_3 hm => tM_against_M90_M89_51 ih v2 v4 v5 v6 o0 k_o0 r_o0 i_v2 i_v4 i_v6 f_o0_0 f_o0_38 f_o0_78 f_o0_82 f_o0_95 x_0 x_1 x_2 x_3 (by omega))
set_option maxHeartbeats 4000000 in
set_option maxRecDepth 100000 in
theorem sM_against_M90_M89 (v2 : Int32) (v4 : Int32) (o0 : cf_O) (k_o0 : okO I_M o0) (i_v2 : (0 : Int) ≤ v2.toInt ∧ v2.toInt ≤ 0) (i_v4 : (10 : Int) ≤ v4.toInt ∧ v4.toInt ≤ 2085) (f_o0_0 : (0 : Int) ≤ (o0.1 0).toInt ∧ (o0.1 0).toInt ≤ 0) (f_o0_38 : (1 : Int) ≤ (o0.1 38).toInt ∧ (o0.1 38).toInt ≤ 1) (f_o0_78 : (1 : Int) ≤ (o0.1 78).toInt ∧ (o0.1 78).toInt ≤ 1) (f_o0_82 : (1 : Int) ≤ (o0.1 82).toInt ∧ (o0.1 82).toInt ≤ 12) (f_o0_95 : (0 : Int) ≤ (o0.1 95).toInt ∧ (o0.1 95).toInt ≤ 0) (x_0 : Mt (o0.2.1 90)) (x_1 : Mt (o0.2.1 89)) (x_2 : v4.toInt % 5 = 0) (x_3 : v2.toInt = 0) : tt (fM_against_M90_M89 v2 v4 o0) (QM_against_M90_M89 v2 v4 o0) := by
  have H := hM_against_M90_M89 v2 v4 o0 cfFU
  have hm : (11 : Int) ≤ (cfFU : Nat) := by decide
  have r_o0 : Fr (fr_M [] [] []) o0 o0 := fr_rfl
  unfold fM_against_M90_M89 fM_against_M90_M89_0
  refine tt_n (ix_ok i_v2 (by decide) (by decide)) ?_
  refine tt_kv (P := fun z => (((-2147483648) : Int) ≤ z.toInt ∧ z.toInt ≤ 2147483647) ∧ z.toInt = (o0.2.1 90 v2.toNatClampNeg).toInt) ⟨(k_o0.2 90 _), rfl⟩ (fun x1 qi2 => ?_)
  obtain ⟨i2, ei2⟩ := qi2
  have t3 := tn_n v2
  have t4 := x_0 (v2.toNatClampNeg)
  refine tt_n (ix_ok i_v4 (by decide) (by decide)) ?_
  refine tt_kv (P := fun z => (((-2147483648) : Int) ≤ z.toInt ∧ z.toInt ≤ 2147483647) ∧ z.toInt = (o0.2.1 89 v4.toNatClampNeg).toInt) ⟨(k_o0.2 89 _), rfl⟩ (fun x5 qi6 => ?_)
  obtain ⟨i6, ei6⟩ := qi6
  have t7 := tn_n v4
  have t8 := x_1 (v4.toNatClampNeg)
  refine tt_kv (P := fun z => ((-2147483648) : Int) ≤ z.toInt ∧ z.toInt ≤ 2147483647) (iv_top _) (fun x9 i10 => ?_)
  refine tt_if (fun c11 => ?_) (fun c11 => ?_)
  · have wc11 : x9.toInt = (0 : Int) := c_eq c11
    have i12 : (0 : Int) ≤ x9.toInt ∧ x9.toInt ≤ 0 := nr_eql c11 i10 (show (0 : Int) ≤ (0 : Int32).toInt ∧ (0 : Int32).toInt ≤ 0 by decide) (by decide) (by decide)
    refine tt_kv (P := fun z => ((1 : Int) ≤ z.toInt ∧ z.toInt ≤ 1) ∧ z.toInt = v2.toInt + 1) ⟨iv_add i_v2 (show (1 : Int) ≤ (1 : Int32).toInt ∧ (1 : Int32).toInt ≤ 1 by decide) (by decide) (by decide) (by decide) (by decide), iq_add i_v2 (show (1 : Int) ≤ (1 : Int32).toInt ∧ (1 : Int32).toInt ≤ 1 by decide) (by decide) (by decide)⟩ (fun x13 qi14 => ?_)
    obtain ⟨i14, ei14⟩ := qi14
    refine tt_n (ix_ok i14 (by decide) (by decide)) ?_
    refine tt_kv (P := fun z => (((-2147483648) : Int) ≤ z.toInt ∧ z.toInt ≤ 2147483647) ∧ z.toInt = (o0.2.1 90 x13.toNatClampNeg).toInt) ⟨(k_o0.2 90 _), rfl⟩ (fun x15 qi16 => ?_)
    obtain ⟨i16, ei16⟩ := qi16
    have t17 := tn_n x13
    have t18 := x_0 (x13.toNatClampNeg)
    have i19 : (0 : Int) ≤ x15.toInt ∧ x15.toInt ≤ 11 := by omega
    refine tt_kv (P := fun z => ((0 : Int) ≤ z.toInt ∧ z.toInt ≤ 44) ∧ z.toInt = 4 * x15.toInt) ⟨iv_mul (show (4 : Int) ≤ (4 : Int32).toInt ∧ (4 : Int32).toInt ≤ 4 by decide) i19 (by decide) (by decide) (by decide) (by decide) (by decide), iq_mul (show (4 : Int) ≤ (4 : Int32).toInt ∧ (4 : Int32).toInt ≤ 4 by decide) i19 (by decide) (by decide) (by decide) (by decide)⟩ (fun x20 qi21 => ?_)
    obtain ⟨i21, ei21⟩ := qi21
    refine tt_n (ix_ok i21 (by decide) (by decide)) ?_
    refine tt_kv (P := fun z => (((-2147483648) : Int) ≤ z.toInt ∧ z.toInt ≤ 2147483647) ∧ z.toInt = (o0.2.1 84 x20.toNatClampNeg).toInt) ⟨(k_o0.2 84 _), rfl⟩ (fun x22 qi23 => ?_)
    obtain ⟨i23, ei23⟩ := qi23
    refine tt_kv (P := fun z => ((11 : Int) ≤ z.toInt ∧ z.toInt ≤ 2086) ∧ z.toInt = v4.toInt + 1) ⟨iv_add i_v4 (show (1 : Int) ≤ (1 : Int32).toInt ∧ (1 : Int32).toInt ≤ 1 by decide) (by decide) (by decide) (by decide) (by decide), iq_add i_v4 (show (1 : Int) ≤ (1 : Int32).toInt ∧ (1 : Int32).toInt ≤ 1 by decide) (by decide) (by decide)⟩ (fun x24 qi25 => ?_)
    obtain ⟨i25, ei25⟩ := qi25
    refine tt_n (ix_ok i25 (by decide) (by decide)) ?_
    refine tt_kv (P := fun z => (((-2147483648) : Int) ≤ z.toInt ∧ z.toInt ≤ 2147483647) ∧ z.toInt = (o0.2.1 89 x24.toNatClampNeg).toInt) ⟨(k_o0.2 89 _), rfl⟩ (fun x26 qi27 => ?_)
    obtain ⟨i27, ei27⟩ := qi27
    have t28 := tn_n x24
    have t29 := x_1 (x24.toNatClampNeg)
    have i30 : (0 : Int) ≤ x26.toInt ∧ x26.toInt ≤ 11 := by omega
    refine tt_kv (P := fun z => ((0 : Int) ≤ z.toInt ∧ z.toInt ≤ 44) ∧ z.toInt = 4 * x26.toInt) ⟨iv_mul (show (4 : Int) ≤ (4 : Int32).toInt ∧ (4 : Int32).toInt ≤ 4 by decide) i30 (by decide) (by decide) (by decide) (by decide) (by decide), iq_mul (show (4 : Int) ≤ (4 : Int32).toInt ∧ (4 : Int32).toInt ≤ 4 by decide) i30 (by decide) (by decide) (by decide) (by decide)⟩ (fun x31 qi32 => ?_)
    obtain ⟨i32, ei32⟩ := qi32
    refine tt_n (ix_ok i32 (by decide) (by decide)) ?_
    refine tt_kv (P := fun z => (((-2147483648) : Int) ≤ z.toInt ∧ z.toInt ≤ 2147483647) ∧ z.toInt = (o0.2.1 84 x31.toNatClampNeg).toInt) ⟨(k_o0.2 84 _), rfl⟩ (fun x33 qi34 => ?_)
    obtain ⟨i34, ei34⟩ := qi34
    refine tt_kv (P := fun z => ((-2147483648) : Int) ≤ z.toInt ∧ z.toInt ≤ 2147483647) (iv_top _) (fun x35 i36 => ?_)
    try unfold fM_against_M90_M89_46
    exact H _ _ _ _ _ k_o0 r_o0 i_v2 (iv_w (a := 10) (b := 2095) (by decide) (by decide) i_v4) (iv_w (a := 1) (b := 5) (by decide) (by decide) (show (1 : Int) ≤ (1 : Int32).toInt ∧ (1 : Int32).toInt ≤ 1 by decide)) f_o0_0 f_o0_38 f_o0_78 f_o0_82 f_o0_95 x_0 x_1 (show v4.toInt % 5 = 0 by omega) (show v2.toInt = 0 by omega) (show 0 + (5 - 1) * 2 < ((cfFU : Nat) : Int) by omega)
  · have wc11 : ¬ x9.toInt = (0 : Int) := c_ne c11
    try unfold fM_against_M90_M89_46
    exact H _ _ _ _ _ k_o0 r_o0 i_v2 (iv_w (a := 10) (b := 2095) (by decide) (by decide) i_v4) (iv_w (a := 1) (b := 5) (by decide) (by decide) (show (1 : Int) ≤ (1 : Int32).toInt ∧ (1 : Int32).toInt ≤ 1 by decide)) f_o0_0 f_o0_38 f_o0_78 f_o0_82 f_o0_95 x_0 x_1 (show v4.toInt % 5 = 0 by omega) (show v2.toInt = 0 by omega) (show 0 + (5 - 1) * 2 < ((cfFU : Nat) : Int) by omega)
def QM_keepMatch_M89 (v2 : Int32) (o0 : cf_O) (r : (cf_O)) : Prop := (okO I_M r) ∧ (Fr (fr_M [] [89] []) o0 r) ∧ (Mt (r.2.1 89)) ∧ (Km v2.toInt 5 (r.2.1 90) (o0.2.1 89) (r.2.1 89)) ∧ True
def HM_keepMatch_M89 (yv2 : Int32) (yo0 : cf_O) (n : Nat) : Prop := (∀ (v2 : Int32) (v3 : Int32) (o0 : cf_O), (okO I_M o0) → (Fr (fr_M [] [89] []) yo0 o0) → ((10 : Int) ≤ v2.toInt ∧ v2.toInt ≤ 2095) → ((0 : Int) ≤ v3.toInt ∧ v3.toInt ≤ 5) → ((0 : Int) ≤ (o0.1 0).toInt ∧ (o0.1 0).toInt ≤ 0) → ((1 : Int) ≤ (o0.1 38).toInt ∧ (o0.1 38).toInt ≤ 1) → ((1 : Int) ≤ (o0.1 78).toInt ∧ (o0.1 78).toInt ≤ 1) → ((1 : Int) ≤ (o0.1 82).toInt ∧ (o0.1 82).toInt ≤ 12) → ((0 : Int) ≤ (o0.1 95).toInt ∧ (o0.1 95).toInt ≤ 0) → (Mt (o0.2.1 89)) → (Mt (o0.2.1 90)) → (v2.toInt % 5 = 0) → (Km v2.toInt v3.toInt (o0.2.1 90) (yo0.2.1 89) (o0.2.1 89)) → (v2.toInt = yv2.toInt) → 0 + (5 - v3.toInt) * 2 < (n : Int) → tt (gM_keepMatch_M89 n 0 v2 v3 o0) (QM_keepMatch_M89 yv2 yo0))
set_option maxHeartbeats 4000000 in
set_option maxRecDepth 100000 in
theorem tM_keepMatch_M89_2 {yv2 : Int32} {yo0 : cf_O} {n : Nat} (H : HM_keepMatch_M89 yv2 yo0 n) (v2 : Int32) (v3 : Int32) (o0 : cf_O) (k_o0 : okO I_M o0) (r_o0 : Fr (fr_M [] [89] []) yo0 o0) (i_v2 : (10 : Int) ≤ v2.toInt ∧ v2.toInt ≤ 2095) (i_v3 : (0 : Int) ≤ v3.toInt ∧ v3.toInt ≤ 5) (f_o0_0 : (0 : Int) ≤ (o0.1 0).toInt ∧ (o0.1 0).toInt ≤ 0) (f_o0_38 : (1 : Int) ≤ (o0.1 38).toInt ∧ (o0.1 38).toInt ≤ 1) (f_o0_78 : (1 : Int) ≤ (o0.1 78).toInt ∧ (o0.1 78).toInt ≤ 1) (f_o0_82 : (1 : Int) ≤ (o0.1 82).toInt ∧ (o0.1 82).toInt ≤ 12) (f_o0_95 : (0 : Int) ≤ (o0.1 95).toInt ∧ (o0.1 95).toInt ≤ 0) (x_0 : Mt (o0.2.1 89)) (x_1 : Mt (o0.2.1 90)) (x_2 : v2.toInt % 5 = 0) (x_3 : Km v2.toInt v3.toInt (o0.2.1 90) (yo0.2.1 89) (o0.2.1 89)) (x_4 : v2.toInt = yv2.toInt) (hm : 0 + (5 - v3.toInt) * 2 ≤ (n : Int)) : tt (fM_keepMatch_M89_2 (gM_keepMatch_M89 n) v2 v3 o0) (QM_keepMatch_M89 yv2 yo0) := by
  unfold fM_keepMatch_M89_2
  refine tt_if (fun c1 => ?_) (fun c1 => ?_)
  · have wc1 : (5 : Int) ≤ v3.toInt := c_le c1
    have i2 : (5 : Int) ≤ v3.toInt ∧ v3.toInt ≤ 5 := nr_ler c1 (show (5 : Int) ≤ (5 : Int32).toInt ∧ (5 : Int32).toInt ≤ 5 by decide) i_v3 (by decide) (by decide)
    have p3 : Km yv2.toInt 5 (o0.2.1 90) (yo0.2.1 89) (o0.2.1 89) := by exact Km_e x_3 (by omega) (by omega) (by omega)
    exact tt_some ⟨k_o0, r_o0, x_0, p3, trivial⟩
  · have wc1 : v3.toInt < (5 : Int) := c_nle c1
    have i4 : (0 : Int) ≤ v3.toInt ∧ v3.toInt ≤ 4 := nr_nlel c1 i_v3 (show (5 : Int) ≤ (5 : Int32).toInt ∧ (5 : Int32).toInt ≤ 5 by decide) (by decide) (by decide)
    refine tt_kv (P := fun z => ((10 : Int) ≤ z.toInt ∧ z.toInt ≤ 2099) ∧ z.toInt = v2.toInt + v3.toInt) ⟨iv_add i_v2 i4 (by decide) (by decide) (by decide) (by decide), iq_add i_v2 i4 (by decide) (by decide)⟩ (fun x5 qi6 => ?_)
    obtain ⟨i6, ei6⟩ := qi6
    refine tt_n (ix_ok i4 (by decide) (by decide)) ?_
    refine tt_kv (P := fun z => (((-2147483648) : Int) ≤ z.toInt ∧ z.toInt ≤ 2147483647) ∧ z.toInt = (o0.2.1 90 v3.toNatClampNeg).toInt) ⟨(k_o0.2 90 _), rfl⟩ (fun x7 qi8 => ?_)
    obtain ⟨i8, ei8⟩ := qi8
    have t9 := tn_n v3
    have t10 := x_1 (v3.toNatClampNeg)
    refine tt_n (ix_ok i6 (by decide) (by decide)) ?_
    refine tt_ko ?_
    have k11 := ok_xp (k := 89) (i := x5.toNatClampNeg) (v := x7) k_o0 i8
    have r12 := fr_xp (k := 89) (i := x5.toNatClampNeg) (v := x7) r_o0 rfl
    have u13 : Mt (upd (o0.2.1 89) (x5.toNatClampNeg) x7) := Mt_u x_0 (by intros; have tnn := tn_n x5; omega)
    refine tt_kv (P := fun z => ((1 : Int) ≤ z.toInt ∧ z.toInt ≤ 5) ∧ z.toInt = v3.toInt + 1) ⟨iv_add i4 (show (1 : Int) ≤ (1 : Int32).toInt ∧ (1 : Int32).toInt ≤ 1 by decide) (by decide) (by decide) (by decide) (by decide), iq_add i4 (show (1 : Int) ≤ (1 : Int32).toInt ∧ (1 : Int32).toInt ≤ 1 by decide) (by decide) (by decide)⟩ (fun x14 qi15 => ?_)
    obtain ⟨i15, ei15⟩ := qi15
    have p16 : Km v2.toInt x14.toInt (o0.2.1 90) (yo0.2.1 89) (upd (o0.2.1 89) (x5.toNatClampNeg) x7) := by exact Km_s x_3 (by omega) (by omega) (by omega) (by rw [tn_n]; omega) (n := v3.toNatClampNeg) (by rw [tn_n]; omega) (i_eq (by assumption))
    exact H _ _ _ k11 r12 i_v2 (iv_w (a := 0) (b := 5) (by decide) (by decide) i15) f_o0_0 f_o0_38 f_o0_78 f_o0_82 f_o0_95 u13 x_1 (show v2.toInt % 5 = 0 by omega) p16 (show v2.toInt = yv2.toInt by omega) (show 0 + (5 - x14.toInt) * 2 < (n : Int) by omega)
set_option maxHeartbeats 4000000 in
set_option maxRecDepth 100000 in
theorem hM_keepMatch_M89 (yv2 : Int32) (yo0 : cf_O) : ∀ n, HM_keepMatch_M89 yv2 yo0 n := by
  intro n
  induction n with
  | zero => exact (fun v2 v3 o0 k_o0 r_o0 i_v2 i_v3 f_o0_0 f_o0_38 f_o0_78 f_o0_82 f_o0_95 x_0 x_1 x_2 x_3 x_4 hm => by exact absurd (show 0 + (5 - v3.toInt) * 2 < (0 : Int) from hm) (by omega))
  | succ n ih => exact (fun v2 v3 o0 k_o0 r_o0 i_v2 i_v3 f_o0_0 f_o0_38 f_o0_78 f_o0_82 f_o0_95 x_0 x_1 x_2 x_3 x_4 hm => tM_keepMatch_M89_2 ih v2 v3 o0 k_o0 r_o0 i_v2 i_v3 f_o0_0 f_o0_38 f_o0_78 f_o0_82 f_o0_95 x_0 x_1 x_2 x_3 x_4 (by omega))
set_option maxHeartbeats 4000000 in
set_option maxRecDepth 100000 in
theorem sM_keepMatch_M89 (v2 : Int32) (o0 : cf_O) (k_o0 : okO I_M o0) (i_v2 : (10 : Int) ≤ v2.toInt ∧ v2.toInt ≤ 2085) (f_o0_0 : (0 : Int) ≤ (o0.1 0).toInt ∧ (o0.1 0).toInt ≤ 0) (f_o0_38 : (1 : Int) ≤ (o0.1 38).toInt ∧ (o0.1 38).toInt ≤ 1) (f_o0_78 : (1 : Int) ≤ (o0.1 78).toInt ∧ (o0.1 78).toInt ≤ 1) (f_o0_82 : (1 : Int) ≤ (o0.1 82).toInt ∧ (o0.1 82).toInt ≤ 12) (f_o0_95 : (0 : Int) ≤ (o0.1 95).toInt ∧ (o0.1 95).toInt ≤ 0) (x_0 : Mt (o0.2.1 89)) (x_1 : Mt (o0.2.1 90)) (x_2 : v2.toInt % 5 = 0) : tt (fM_keepMatch_M89 v2 o0) (QM_keepMatch_M89 v2 o0) := by
  have H := hM_keepMatch_M89 v2 o0 cfFU
  have hm : (13 : Int) ≤ (cfFU : Nat) := by decide
  have r_o0 : Fr (fr_M [] [89] []) o0 o0 := fr_rfl
  unfold fM_keepMatch_M89 fM_keepMatch_M89_0
  have p1 : Km v2.toInt 0 (o0.2.1 90) (o0.2.1 89) (o0.2.1 89) := by exact Km_0 _ _ _
  exact H _ _ _ k_o0 r_o0 (iv_w (a := 10) (b := 2095) (by decide) (by decide) i_v2) (iv_w (a := 0) (b := 5) (by decide) (by decide) (show (0 : Int) ≤ (0 : Int32).toInt ∧ (0 : Int32).toInt ≤ 0 by decide)) f_o0_0 f_o0_38 f_o0_78 f_o0_82 f_o0_95 x_0 x_1 (show v2.toInt % 5 = 0 by omega) p1 (show v2.toInt = v2.toInt by omega) (show 0 + (5 - 0) * 2 < ((cfFU : Nat) : Int) by omega)
def QM_tryMatch (v1 : Int32) (v2 : Int32) (o0 : cf_O) (r : (cf_O)) : Prop := (okO I_M r) ∧ (Fr (fr_M [] [88, 89, 90] []) o0 r) ∧ (Mt (r.2.1 90)) ∧ (Mt (r.2.1 89)) ∧ (Mp v2 (r.2.1 90)) ∧ (Pl (r.2.1 84) (r.2.1 88) (r.2.1 89) (r.2.1 86)) ∧ (Md (r.1 39).toInt (r.2.1 84) (r.2.1 86) (r.2.1 87) (r.2.1 88)) ∧ (Hl (v1.toInt / 2 * 2) (v1.toInt / 2 * 2 + 2) (r.2.1 88) (r.2.1 86)) ∧ (Ms 3 v2.toInt (r.2.1 84) (r.2.1 90)) ∧ True
def HM_tryMatch (yv1 : Int32) (yv2 : Int32) (yo0 : cf_O) (n : Nat) : Prop := (∀ (v1 : Int32) (v2 : Int32) (v3 : Int32) (v4 : Int32) (o0 : cf_O), (okO I_M o0) → (Fr (fr_M [] [88, 89, 90] []) yo0 o0) → ((2 : Int) ≤ v1.toInt ∧ v1.toInt ≤ 417) → ((0 : Int) ≤ v2.toInt ∧ v2.toInt ≤ 3) → ((0 : Int) ≤ v4.toInt ∧ v4.toInt ≤ 3) → ((0 : Int) ≤ (o0.1 0).toInt ∧ (o0.1 0).toInt ≤ 0) → ((1 : Int) ≤ (o0.1 38).toInt ∧ (o0.1 38).toInt ≤ 1) → ((1 : Int) ≤ (o0.1 78).toInt ∧ (o0.1 78).toInt ≤ 1) → ((1 : Int) ≤ (o0.1 82).toInt ∧ (o0.1 82).toInt ≤ 12) → ((0 : Int) ≤ (o0.1 95).toInt ∧ (o0.1 95).toInt ≤ 0) → (Mt (o0.2.1 90)) → (Mt (o0.2.1 89)) → (Mp yv2 (o0.2.1 90)) → (v2.toInt = yv2.toInt) → (Pl (o0.2.1 84) (o0.2.1 88) (o0.2.1 89) (o0.2.1 86)) → (Md (o0.1 39).toInt (o0.2.1 84) (o0.2.1 86) (o0.2.1 87) (o0.2.1 88)) → (Hl (yv1.toInt / 2 * 2) (yv1.toInt / 2 * 2 + 2) (o0.2.1 88) (o0.2.1 86)) → (Ms 3 yv2.toInt (o0.2.1 84) (o0.2.1 90)) → (Mm v4.toInt (o0.2.1 86) (o0.2.1 90)) → (v1.toInt = yv1.toInt) → 0 + (3 - v4.toInt) * 2 < (n : Int) → tt (gM_tryMatch n 0 v1 v2 v3 v4 o0) (QM_tryMatch yv1 yv2 yo0))
set_option maxHeartbeats 4000000 in
set_option maxRecDepth 100000 in
theorem tM_tryMatch_5 {yv1 : Int32} {yv2 : Int32} {yo0 : cf_O} {n : Nat} (H : HM_tryMatch yv1 yv2 yo0 n) (v1 : Int32) (v2 : Int32) (v3 : Int32) (v4 : Int32) (o0 : cf_O) (k_o0 : okO I_M o0) (r_o0 : Fr (fr_M [] [88, 89, 90] []) yo0 o0) (i_v1 : (2 : Int) ≤ v1.toInt ∧ v1.toInt ≤ 417) (i_v2 : (0 : Int) ≤ v2.toInt ∧ v2.toInt ≤ 3) (i_v4 : (0 : Int) ≤ v4.toInt ∧ v4.toInt ≤ 3) (f_o0_0 : (0 : Int) ≤ (o0.1 0).toInt ∧ (o0.1 0).toInt ≤ 0) (f_o0_38 : (1 : Int) ≤ (o0.1 38).toInt ∧ (o0.1 38).toInt ≤ 1) (f_o0_78 : (1 : Int) ≤ (o0.1 78).toInt ∧ (o0.1 78).toInt ≤ 1) (f_o0_82 : (1 : Int) ≤ (o0.1 82).toInt ∧ (o0.1 82).toInt ≤ 12) (f_o0_95 : (0 : Int) ≤ (o0.1 95).toInt ∧ (o0.1 95).toInt ≤ 0) (x_0 : Mt (o0.2.1 90)) (x_1 : Mt (o0.2.1 89)) (x_2 : Mp yv2 (o0.2.1 90)) (x_3 : v2.toInt = yv2.toInt) (x_4 : Pl (o0.2.1 84) (o0.2.1 88) (o0.2.1 89) (o0.2.1 86)) (x_5 : Md (o0.1 39).toInt (o0.2.1 84) (o0.2.1 86) (o0.2.1 87) (o0.2.1 88)) (x_6 : Hl (yv1.toInt / 2 * 2) (yv1.toInt / 2 * 2 + 2) (o0.2.1 88) (o0.2.1 86)) (x_7 : Ms 3 yv2.toInt (o0.2.1 84) (o0.2.1 90)) (x_8 : Mm v4.toInt (o0.2.1 86) (o0.2.1 90)) (x_9 : v1.toInt = yv1.toInt) (hm : 0 + (3 - v4.toInt) * 2 ≤ (n : Int)) : tt (fM_tryMatch_5 (gM_tryMatch n) v1 v2 v3 v4 o0) (QM_tryMatch yv1 yv2 yo0) := by
  unfold fM_tryMatch_5
  have i_v3 := iv_top v3
  have g_o0_39 : (0 : Int) ≤ (o0.1 39).toInt ∧ (o0.1 39).toInt ≤ 8 := k_o0.1 39
  have ey_o0_39 : (o0.1 39).toInt = (yo0.1 39).toInt := congrArg Int32.toInt (r_o0.1 39 rfl)
  refine tt_if (fun c1 => ?_) (fun c1 => ?_)
  · have wc1 : v2.toInt ≤ v4.toInt := c_le c1
    refine tt_n (ix_ok (show (1 : Int) ≤ (1 : Int32).toInt ∧ (1 : Int32).toInt ≤ 1 by decide) (by decide) (by decide)) ?_
    refine tt_kv (P := fun z => (((-2147483648) : Int) ≤ z.toInt ∧ z.toInt ≤ 2147483647) ∧ z.toInt = (o0.2.1 90 (1 : Int32).toNatClampNeg).toInt) ⟨(k_o0.2 90 _), rfl⟩ (fun x2 qi3 => ?_)
    obtain ⟨i3, ei3⟩ := qi3
    have t4 : (1 : Int32).toNatClampNeg = 1 := by decide
    have t5 := x_0 ((1 : Int32).toNatClampNeg)
    have t6 := x_2 ((1 : Int32).toNatClampNeg)
    have i7 : (0 : Int) ≤ x2.toInt ∧ x2.toInt ≤ 11 := by omega
    refine tt_kv (P := fun z => ((0 : Int) ≤ z.toInt ∧ z.toInt ≤ 44) ∧ z.toInt = 4 * x2.toInt) ⟨iv_mul (show (4 : Int) ≤ (4 : Int32).toInt ∧ (4 : Int32).toInt ≤ 4 by decide) i7 (by decide) (by decide) (by decide) (by decide) (by decide), iq_mul (show (4 : Int) ≤ (4 : Int32).toInt ∧ (4 : Int32).toInt ≤ 4 by decide) i7 (by decide) (by decide) (by decide) (by decide)⟩ (fun x8 qi9 => ?_)
    obtain ⟨i9, ei9⟩ := qi9
    refine tt_kv (P := fun z => ((1 : Int) ≤ z.toInt ∧ z.toInt ≤ 45) ∧ z.toInt = x8.toInt + 1) ⟨iv_add i9 (show (1 : Int) ≤ (1 : Int32).toInt ∧ (1 : Int32).toInt ≤ 1 by decide) (by decide) (by decide) (by decide) (by decide), iq_add i9 (show (1 : Int) ≤ (1 : Int32).toInt ∧ (1 : Int32).toInt ≤ 1 by decide) (by decide) (by decide)⟩ (fun x10 qi11 => ?_)
    obtain ⟨i11, ei11⟩ := qi11
    refine tt_n (ix_ok i11 (by decide) (by decide)) ?_
    refine tt_kv (P := fun z => (((-2147483648) : Int) ≤ z.toInt ∧ z.toInt ≤ 2147483647) ∧ z.toInt = (o0.2.1 84 x10.toNatClampNeg).toInt) ⟨(k_o0.2 84 _), rfl⟩ (fun x12 qi13 => ?_)
    obtain ⟨i13, ei13⟩ := qi13
    refine tt_kv (P := fun z => ((-2147483648) : Int) ≤ z.toInt ∧ z.toInt ≤ 2147483647) (iv_top _) (fun x14 i15 => ?_)
    refine tt_n (ix_ok (show (0 : Int) ≤ (0 : Int32).toInt ∧ (0 : Int32).toInt ≤ 0 by decide) (by decide) (by decide)) ?_
    refine tt_ko ?_
    have k16 := ok_xp (k := 90) (i := (0 : Int32).toNatClampNeg) (v := x14) k_o0 i15
    have r17 := fr_xp (k := 90) (i := (0 : Int32).toNatClampNeg) (v := x14) r_o0 rfl
    have u18 : Mt (upd (o0.2.1 90) ((0 : Int32).toNatClampNeg) x14) := Mt_u x_0 (by intros; have tnn : (0 : Int32).toNatClampNeg = 0 := (by decide); omega)
    have u19 : Mp yv2 (upd (o0.2.1 90) ((0 : Int32).toNatClampNeg) x14) := Mp_u x_2 (by intros; have tnn : (0 : Int32).toNatClampNeg = 0 := (by decide); omega)
    refine tt_b (sM_gives _ _ _ k16 i_v1 i_v2 f_o0_0 f_o0_38 f_o0_78 f_o0_82 f_o0_95 u18) (fun q20 hq20 => ?_)
    obtain ⟨i_q20, -⟩ := hq20
    refine tt_if (fun c21 => ?_) (fun c21 => ?_)
    · have wc21 : q20.toInt = (0 : Int) := c_eq c21
      have i22 : (0 : Int) ≤ q20.toInt ∧ q20.toInt ≤ 0 := nr_eql c21 i_q20 (show (0 : Int) ≤ (0 : Int32).toInt ∧ (0 : Int32).toInt ≤ 0 by decide) (by decide) (by decide)
      try unfold fM_tryMatch_138
      have p23 : Ms 3 yv2.toInt (o0.2.1 84) (upd (o0.2.1 90) ((0 : Int32).toNatClampNeg) x14) := by first | (rw [(show Fr (fr_M [] [89] []) _ _ by assumption).2.1 84 rfl, (show Fr (fr_M [] [89] []) _ _ by assumption).2.1 90 rfl]; exact Ms_z x_7 (by decide)) | exact Ms_z x_7 (by decide)
      exact tt_some ⟨k16, r17, u18, x_1, u19, x_4, x_5, x_6, p23, trivial⟩
    · have wc21 : ¬ q20.toInt = (0 : Int) := c_ne c21
      have i24 : (1 : Int) ≤ q20.toInt ∧ q20.toInt ≤ 1 := nr_nela c21 i_q20 (show (0 : Int) ≤ (0 : Int32).toInt ∧ (0 : Int32).toInt ≤ 0 by decide) (by decide) (by decide)
      refine tt_n (ix_ok i_v1 (by decide) (by decide)) ?_
      refine tt_kv (P := fun z => ((0 : Int) ≤ z.toInt ∧ z.toInt ≤ 1) ∧ z.toInt = (o0.2.1 88 v1.toNatClampNeg).toInt) ⟨(k16.2 88 _), rfl⟩ (fun x25 qi26 => ?_)
      obtain ⟨i26, ei26⟩ := qi26
      refine tt_if (fun c27 => ?_) (fun c27 => ?_)
      · have wc27 : x25.toInt = (0 : Int) := c_eq c27
        have i28 : (0 : Int) ≤ x25.toInt ∧ x25.toInt ≤ 0 := nr_eql c27 i26 (show (0 : Int) ≤ (0 : Int32).toInt ∧ (0 : Int32).toInt ≤ 0 by decide) (by decide) (by decide)
        try unfold fM_tryMatch_120
        refine tt_n (ix_ok i_v1 (by decide) (by decide)) ?_
        refine tt_ko ?_
        have k29 := ok_xp (k := 88) (i := v1.toNatClampNeg) (v := (vp_nar .boolean 1)) k16 (iv_nz _)
        have r30 := fr_xp (k := 88) (i := v1.toNatClampNeg) (v := (vp_nar .boolean 1)) r17 rfl
        refine tt_kv (P := fun z => ((10 : Int) ≤ z.toInt ∧ z.toInt ≤ 2085) ∧ z.toInt = 5 * v1.toInt) ⟨iv_mul (show (5 : Int) ≤ (5 : Int32).toInt ∧ (5 : Int32).toInt ≤ 5 by decide) i_v1 (by decide) (by decide) (by decide) (by decide) (by decide), iq_mul (show (5 : Int) ≤ (5 : Int32).toInt ∧ (5 : Int32).toInt ≤ 5 by decide) i_v1 (by decide) (by decide) (by decide) (by decide)⟩ (fun x31 qi32 => ?_)
        obtain ⟨i32, ei32⟩ := qi32
        refine tt_b (sM_keepMatch_M89 _ _ k29 i32 f_o0_0 f_o0_38 f_o0_78 f_o0_82 f_o0_95 x_1 u18 (show x31.toInt % 5 = 0 by omega)) (fun q33 hq33 => ?_)
        obtain ⟨k_q33, n_q33, zq33_0, zq33_1, -⟩ := hq33
        have r_q33 := fr_tr r30 n_q33 rfl rfl rfl
        have f_q33_0 : (0 : Int) ≤ (q33.1 0).toInt ∧ (q33.1 0).toInt ≤ 0 := by rw [n_q33.1 0 rfl]; exact f_o0_0
        have f_q33_82 : (1 : Int) ≤ (q33.1 82).toInt ∧ (q33.1 82).toInt ≤ 12 := by rw [n_q33.1 82 rfl]; exact f_o0_82
        have f_q33_38 : (1 : Int) ≤ (q33.1 38).toInt ∧ (q33.1 38).toInt ≤ 1 := by rw [n_q33.1 38 rfl]; exact f_o0_38
        have f_q33_78 : (1 : Int) ≤ (q33.1 78).toInt ∧ (q33.1 78).toInt ≤ 1 := by rw [n_q33.1 78 rfl]; exact f_o0_78
        have f_q33_95 : (0 : Int) ≤ (q33.1 95).toInt ∧ (q33.1 95).toInt ≤ 0 := by rw [n_q33.1 95 rfl]; exact f_o0_95
        have e_q33_39 : (q33.1 39).toInt = (o0.1 39).toInt := congrArg Int32.toInt (n_q33.1 39 rfl)
        have g_q33_39 : (0 : Int) ≤ (q33.1 39).toInt ∧ (q33.1 39).toInt ≤ 8 := k_q33.1 39
        have zq33_0 : Mt (q33.2.1 89) := zq33_0
        have zq33_1 : Km x31.toInt 5 (q33.2.1 90) (o0.2.1 89) (q33.2.1 89) := zq33_1
        have u34 : Mt (q33.2.1 90) := by rw [n_q33.2.1 90 rfl]; exact u18
        have u35 : Mp yv2 (q33.2.1 90) := by rw [n_q33.2.1 90 rfl]; exact u19
        try unfold fM_tryMatch_138
        have p36 : Pl (q33.2.1 84) (q33.2.1 88) (q33.2.1 89) (q33.2.1 86) := by rw [(show Fr (fr_M [] [89] []) _ _ by assumption).2.1 84 rfl, (show Fr (fr_M [] [89] []) _ _ by assumption).2.1 88 rfl, (show Fr (fr_M [] [89] []) _ _ by assumption).2.1 86 rfl]; exact Pl_n (p := yv2.toInt) x_4 (by assumption) (by rw [tn_n]; omega) (by rw [(show Fr (fr_M [] [89] []) _ _ by assumption).2.1 90 rfl]; exact Ms_z x_7 (by decide)) (by rw [(show Fr (fr_M [] [89] []) _ _ by assumption).2.1 90 rfl]; exact Mm_z x_8 (by decide) (by omega))
        have p37 : Md (q33.1 39).toInt (q33.2.1 84) (q33.2.1 86) (q33.2.1 87) (q33.2.1 88) := by rw [(show Fr (fr_M [] [89] []) _ _ by assumption).1 39 rfl, (show Fr (fr_M [] [89] []) _ _ by assumption).2.1 84 rfl, (show Fr (fr_M [] [89] []) _ _ by assumption).2.1 86 rfl, (show Fr (fr_M [] [89] []) _ _ by assumption).2.1 87 rfl, (show Fr (fr_M [] [89] []) _ _ by assumption).2.1 88 rfl]; exact Md_h x_5 (by decide)
        have p38 : Hl (yv1.toInt / 2 * 2) (yv1.toInt / 2 * 2 + 2) (q33.2.1 88) (q33.2.1 86) := by rw [(show Fr (fr_M [] [89] []) _ _ by assumption).2.1 88 rfl, (show Fr (fr_M [] [89] []) _ _ by assumption).2.1 86 rfl]; exact Hl_h x_6 (by rw [tn_n]; omega)
        have p39 : Ms 3 yv2.toInt (q33.2.1 84) (q33.2.1 90) := by first | (rw [(show Fr (fr_M [] [89] []) _ _ by assumption).2.1 84 rfl, (show Fr (fr_M [] [89] []) _ _ by assumption).2.1 90 rfl]; exact Ms_z x_7 (by decide)) | exact Ms_z x_7 (by decide)
        exact tt_some ⟨k_q33, r_q33, u34, zq33_0, u35, p36, p37, p38, p39, trivial⟩
      · have wc27 : ¬ x25.toInt = (0 : Int) := c_ne c27
        have i40 : (1 : Int) ≤ x25.toInt ∧ x25.toInt ≤ 1 := nr_nela c27 i26 (show (0 : Int) ≤ (0 : Int32).toInt ∧ (0 : Int32).toInt ≤ 0 by decide) (by decide) (by decide)
        refine tt_kv (P := fun z => ((10 : Int) ≤ z.toInt ∧ z.toInt ≤ 2085) ∧ z.toInt = 5 * v1.toInt) ⟨iv_mul (show (5 : Int) ≤ (5 : Int32).toInt ∧ (5 : Int32).toInt ≤ 5 by decide) i_v1 (by decide) (by decide) (by decide) (by decide) (by decide), iq_mul (show (5 : Int) ≤ (5 : Int32).toInt ∧ (5 : Int32).toInt ≤ 5 by decide) i_v1 (by decide) (by decide) (by decide) (by decide)⟩ (fun x41 qi42 => ?_)
        obtain ⟨i42, ei42⟩ := qi42
        refine tt_b (sM_against_M90_M89 _ _ _ k16 (show (0 : Int) ≤ (0 : Int32).toInt ∧ (0 : Int32).toInt ≤ 0 by decide) i42 f_o0_0 f_o0_38 f_o0_78 f_o0_82 f_o0_95 u18 x_1 (show x41.toInt % 5 = 0 by omega) (show 0 = 0 by omega)) (fun q43 hq43 => ?_)
        have i_q43 := iv_top q43
        refine tt_if (fun c44 => ?_) (fun c44 => ?_)
        · have wc44 : (0 : Int) ≤ q43.toInt := c_le c44
          have i45 : (0 : Int) ≤ q43.toInt ∧ q43.toInt ≤ 2147483647 := nr_ler c44 (show (0 : Int) ≤ (0 : Int32).toInt ∧ (0 : Int32).toInt ≤ 0 by decide) (iv_top q43) (by decide) (by decide)
          try unfold fM_tryMatch_138
          have p46 : Ms 3 yv2.toInt (o0.2.1 84) (upd (o0.2.1 90) ((0 : Int32).toNatClampNeg) x14) := by first | (rw [(show Fr (fr_M [] [89] []) _ _ by assumption).2.1 84 rfl, (show Fr (fr_M [] [89] []) _ _ by assumption).2.1 90 rfl]; exact Ms_z x_7 (by decide)) | exact Ms_z x_7 (by decide)
          exact tt_some ⟨k16, r17, u18, x_1, u19, x_4, x_5, x_6, p46, trivial⟩
        · have wc44 : q43.toInt < (0 : Int) := c_nle c44
          have i47 : ((-2147483648) : Int) ≤ q43.toInt ∧ q43.toInt ≤ (-1) := nr_nlel c44 (iv_top q43) (show (0 : Int) ≤ (0 : Int32).toInt ∧ (0 : Int32).toInt ≤ 0 by decide) (by decide) (by decide)
          try unfold fM_tryMatch_120
          refine tt_n (ix_ok i_v1 (by decide) (by decide)) ?_
          refine tt_ko ?_
          have k48 := ok_xp (k := 88) (i := v1.toNatClampNeg) (v := (vp_nar .boolean 1)) k16 (iv_nz _)
          have r49 := fr_xp (k := 88) (i := v1.toNatClampNeg) (v := (vp_nar .boolean 1)) r17 rfl
          refine tt_kv (P := fun z => ((10 : Int) ≤ z.toInt ∧ z.toInt ≤ 2085) ∧ z.toInt = 5 * v1.toInt) ⟨iv_mul (show (5 : Int) ≤ (5 : Int32).toInt ∧ (5 : Int32).toInt ≤ 5 by decide) i_v1 (by decide) (by decide) (by decide) (by decide) (by decide), iq_mul (show (5 : Int) ≤ (5 : Int32).toInt ∧ (5 : Int32).toInt ≤ 5 by decide) i_v1 (by decide) (by decide) (by decide) (by decide)⟩ (fun x50 qi51 => ?_)
          obtain ⟨i51, ei51⟩ := qi51
          refine tt_b (sM_keepMatch_M89 _ _ k48 i51 f_o0_0 f_o0_38 f_o0_78 f_o0_82 f_o0_95 x_1 u18 (show x50.toInt % 5 = 0 by omega)) (fun q52 hq52 => ?_)
          obtain ⟨k_q52, n_q52, zq52_0, zq52_1, -⟩ := hq52
          have r_q52 := fr_tr r49 n_q52 rfl rfl rfl
          have f_q52_0 : (0 : Int) ≤ (q52.1 0).toInt ∧ (q52.1 0).toInt ≤ 0 := by rw [n_q52.1 0 rfl]; exact f_o0_0
          have f_q52_82 : (1 : Int) ≤ (q52.1 82).toInt ∧ (q52.1 82).toInt ≤ 12 := by rw [n_q52.1 82 rfl]; exact f_o0_82
          have f_q52_38 : (1 : Int) ≤ (q52.1 38).toInt ∧ (q52.1 38).toInt ≤ 1 := by rw [n_q52.1 38 rfl]; exact f_o0_38
          have f_q52_78 : (1 : Int) ≤ (q52.1 78).toInt ∧ (q52.1 78).toInt ≤ 1 := by rw [n_q52.1 78 rfl]; exact f_o0_78
          have f_q52_95 : (0 : Int) ≤ (q52.1 95).toInt ∧ (q52.1 95).toInt ≤ 0 := by rw [n_q52.1 95 rfl]; exact f_o0_95
          have e_q52_39 : (q52.1 39).toInt = (o0.1 39).toInt := congrArg Int32.toInt (n_q52.1 39 rfl)
          have g_q52_39 : (0 : Int) ≤ (q52.1 39).toInt ∧ (q52.1 39).toInt ≤ 8 := k_q52.1 39
          have zq52_0 : Mt (q52.2.1 89) := zq52_0
          have zq52_1 : Km x50.toInt 5 (q52.2.1 90) (o0.2.1 89) (q52.2.1 89) := zq52_1
          have u53 : Mt (q52.2.1 90) := by rw [n_q52.2.1 90 rfl]; exact u18
          have u54 : Mp yv2 (q52.2.1 90) := by rw [n_q52.2.1 90 rfl]; exact u19
          try unfold fM_tryMatch_138
          have p55 : Pl (q52.2.1 84) (q52.2.1 88) (q52.2.1 89) (q52.2.1 86) := by rw [(show Fr (fr_M [] [89] []) _ _ by assumption).2.1 84 rfl, (show Fr (fr_M [] [89] []) _ _ by assumption).2.1 88 rfl, (show Fr (fr_M [] [89] []) _ _ by assumption).2.1 86 rfl]; exact Pl_n (p := yv2.toInt) x_4 (by assumption) (by rw [tn_n]; omega) (by rw [(show Fr (fr_M [] [89] []) _ _ by assumption).2.1 90 rfl]; exact Ms_z x_7 (by decide)) (by rw [(show Fr (fr_M [] [89] []) _ _ by assumption).2.1 90 rfl]; exact Mm_z x_8 (by decide) (by omega))
          have p56 : Md (q52.1 39).toInt (q52.2.1 84) (q52.2.1 86) (q52.2.1 87) (q52.2.1 88) := by rw [(show Fr (fr_M [] [89] []) _ _ by assumption).1 39 rfl, (show Fr (fr_M [] [89] []) _ _ by assumption).2.1 84 rfl, (show Fr (fr_M [] [89] []) _ _ by assumption).2.1 86 rfl, (show Fr (fr_M [] [89] []) _ _ by assumption).2.1 87 rfl, (show Fr (fr_M [] [89] []) _ _ by assumption).2.1 88 rfl]; exact Md_h x_5 (by decide)
          have p57 : Hl (yv1.toInt / 2 * 2) (yv1.toInt / 2 * 2 + 2) (q52.2.1 88) (q52.2.1 86) := by rw [(show Fr (fr_M [] [89] []) _ _ by assumption).2.1 88 rfl, (show Fr (fr_M [] [89] []) _ _ by assumption).2.1 86 rfl]; exact Hl_h x_6 (by rw [tn_n]; omega)
          have p58 : Ms 3 yv2.toInt (q52.2.1 84) (q52.2.1 90) := by first | (rw [(show Fr (fr_M [] [89] []) _ _ by assumption).2.1 84 rfl, (show Fr (fr_M [] [89] []) _ _ by assumption).2.1 90 rfl]; exact Ms_z x_7 (by decide)) | exact Ms_z x_7 (by decide)
          exact tt_some ⟨k_q52, r_q52, u53, zq52_0, u54, p55, p56, p57, p58, trivial⟩
  · have wc1 : v4.toInt < v2.toInt := c_nle c1
    have i59 : (0 : Int) ≤ v4.toInt ∧ v4.toInt ≤ 2 := nr_nlel c1 i_v4 i_v2 (by decide) (by decide)
    have i60 : (1 : Int) ≤ v2.toInt ∧ v2.toInt ≤ 3 := nr_nler c1 i_v4 i_v2 (by decide) (by decide)
    refine tt_kv (P := fun z => ((2 : Int) ≤ z.toInt ∧ z.toInt ≤ 4) ∧ z.toInt = 2 + v4.toInt) ⟨iv_add (show (2 : Int) ≤ (2 : Int32).toInt ∧ (2 : Int32).toInt ≤ 2 by decide) i59 (by decide) (by decide) (by decide) (by decide), iq_add (show (2 : Int) ≤ (2 : Int32).toInt ∧ (2 : Int32).toInt ≤ 2 by decide) i59 (by decide) (by decide)⟩ (fun x61 qi62 => ?_)
    obtain ⟨i62, ei62⟩ := qi62
    refine tt_n (ix_ok i62 (by decide) (by decide)) ?_
    refine tt_kv (P := fun z => (((-2147483648) : Int) ≤ z.toInt ∧ z.toInt ≤ 2147483647) ∧ z.toInt = (o0.2.1 90 x61.toNatClampNeg).toInt) ⟨(k_o0.2 90 _), rfl⟩ (fun x63 qi64 => ?_)
    obtain ⟨i64, ei64⟩ := qi64
    have t65 := tn_n x61
    have t66 := x_0 (x61.toNatClampNeg)
    have t67 := x_2 (x61.toNatClampNeg)
    have i68 : (0 : Int) ≤ x63.toInt ∧ x63.toInt ≤ 417 := by omega
    refine tt_n (ix_ok i68 (by decide) (by decide)) ?_
    refine tt_kv (P := fun z => ((0 : Int) ≤ z.toInt ∧ z.toInt ≤ 1) ∧ z.toInt = (o0.2.1 86 x63.toNatClampNeg).toInt) ⟨(k_o0.2 86 _), rfl⟩ (fun x69 qi70 => ?_)
    obtain ⟨i70, ei70⟩ := qi70
    refine tt_if (fun c71 => ?_) (fun c71 => ?_)
    · have wc71 : x69.toInt = (0 : Int) := c_eq c71
      have i72 : (0 : Int) ≤ x69.toInt ∧ x69.toInt ≤ 0 := nr_eql c71 i70 (show (0 : Int) ≤ (0 : Int32).toInt ∧ (0 : Int32).toInt ≤ 0 by decide) (by decide) (by decide)
      exact tt_some ⟨k_o0, r_o0, x_0, x_1, x_2, x_4, x_5, x_6, x_7, trivial⟩
    · have wc71 : ¬ x69.toInt = (0 : Int) := c_ne c71
      have i73 : (1 : Int) ≤ x69.toInt ∧ x69.toInt ≤ 1 := nr_nela c71 i70 (show (0 : Int) ≤ (0 : Int32).toInt ∧ (0 : Int32).toInt ≤ 0 by decide) (by decide) (by decide)
      refine tt_b (sM_timeOf _ _ k_o0 i68 f_o0_0 f_o0_95) (fun q74 hq74 => ?_)
      have i_q74 := iv_top q74
      refine tt_if (fun c75 => ?_) (fun c75 => ?_)
      · have wc75 : q74.toInt ≤ v3.toInt := c_le c75
        try unfold fM_tryMatch_53
        refine tt_kv (P := fun z => ((1 : Int) ≤ z.toInt ∧ z.toInt ≤ 3) ∧ z.toInt = v4.toInt + 1) ⟨iv_add i59 (show (1 : Int) ≤ (1 : Int32).toInt ∧ (1 : Int32).toInt ≤ 1 by decide) (by decide) (by decide) (by decide) (by decide), iq_add i59 (show (1 : Int) ≤ (1 : Int32).toInt ∧ (1 : Int32).toInt ≤ 1 by decide) (by decide) (by decide)⟩ (fun x76 qi77 => ?_)
        obtain ⟨i77, ei77⟩ := qi77
        have p78 : Mm x76.toInt (o0.2.1 86) (o0.2.1 90) := by refine Mm_s x_8 (by omega) ?_ (by assumption) (by assumption) (by assumption); rw [tn_n]; omega
        exact H _ _ _ _ _ k_o0 r_o0 i_v1 (iv_w (a := 0) (b := 3) (by decide) (by decide) i60) (iv_w (a := 0) (b := 3) (by decide) (by decide) i77) f_o0_0 f_o0_38 f_o0_78 f_o0_82 f_o0_95 x_0 x_1 x_2 (show v2.toInt = yv2.toInt by omega) x_4 x_5 x_6 x_7 p78 (show v1.toInt = yv1.toInt by omega) (show 0 + (3 - x76.toInt) * 2 < (n : Int) by omega)
      · have wc75 : v3.toInt < q74.toInt := c_nle c75
        have i79 : ((-2147483648) : Int) ≤ v3.toInt ∧ v3.toInt ≤ 2147483646 := nr_nlel c75 (iv_top v3) (iv_top q74) (by decide) (by decide)
        have i80 : ((-2147483647) : Int) ≤ q74.toInt ∧ q74.toInt ≤ 2147483647 := nr_nler c75 (iv_top v3) (iv_top q74) (by decide) (by decide)
        refine tt_b (sM_timeOf _ _ k_o0 i68 f_o0_0 f_o0_95) (fun q81 hq81 => ?_)
        have i_q81 := iv_top q81
        try unfold fM_tryMatch_53
        refine tt_kv (P := fun z => ((1 : Int) ≤ z.toInt ∧ z.toInt ≤ 3) ∧ z.toInt = v4.toInt + 1) ⟨iv_add i59 (show (1 : Int) ≤ (1 : Int32).toInt ∧ (1 : Int32).toInt ≤ 1 by decide) (by decide) (by decide) (by decide) (by decide), iq_add i59 (show (1 : Int) ≤ (1 : Int32).toInt ∧ (1 : Int32).toInt ≤ 1 by decide) (by decide) (by decide)⟩ (fun x82 qi83 => ?_)
        obtain ⟨i83, ei83⟩ := qi83
        have p84 : Mm x82.toInt (o0.2.1 86) (o0.2.1 90) := by refine Mm_s x_8 (by omega) ?_ (by assumption) (by assumption) (by assumption); rw [tn_n]; omega
        exact H _ _ _ _ _ k_o0 r_o0 i_v1 (iv_w (a := 0) (b := 3) (by decide) (by decide) i60) (iv_w (a := 0) (b := 3) (by decide) (by decide) i83) f_o0_0 f_o0_38 f_o0_78 f_o0_82 f_o0_95 x_0 x_1 x_2 (show v2.toInt = yv2.toInt by omega) x_4 x_5 x_6 x_7 p84 (show v1.toInt = yv1.toInt by omega) (show 0 + (3 - x82.toInt) * 2 < (n : Int) by omega)
set_option maxHeartbeats 4000000 in
set_option maxRecDepth 100000 in
theorem hM_tryMatch (yv1 : Int32) (yv2 : Int32) (yo0 : cf_O) : ∀ n, HM_tryMatch yv1 yv2 yo0 n := by
  intro n
  induction n with
  | zero => exact (fun v1 v2 v3 v4 o0 k_o0 r_o0 i_v1 i_v2 i_v4 f_o0_0 f_o0_38 f_o0_78 f_o0_82 f_o0_95 x_0 x_1 x_2 x_3 x_4 x_5 x_6 x_7 x_8 x_9 hm => by exact absurd (show 0 + (3 - v4.toInt) * 2 < (0 : Int) from hm) (by omega))
  | succ n ih => exact (fun v1 v2 v3 v4 o0 k_o0 r_o0 i_v1 i_v2 i_v4 f_o0_0 f_o0_38 f_o0_78 f_o0_82 f_o0_95 x_0 x_1 x_2 x_3 x_4 x_5 x_6 x_7 x_8 x_9 hm => tM_tryMatch_5 ih v1 v2 v3 v4 o0 k_o0 r_o0 i_v1 i_v2 i_v4 f_o0_0 f_o0_38 f_o0_78 f_o0_82 f_o0_95 x_0 x_1 x_2 x_3 x_4 x_5 x_6 x_7 x_8 x_9 (by omega))
set_option maxHeartbeats 4000000 in
set_option maxRecDepth 100000 in
theorem sM_tryMatch (v1 : Int32) (v2 : Int32) (o0 : cf_O) (k_o0 : okO I_M o0) (i_v1 : (2 : Int) ≤ v1.toInt ∧ v1.toInt ≤ 417) (i_v2 : (0 : Int) ≤ v2.toInt ∧ v2.toInt ≤ 3) (f_o0_0 : (0 : Int) ≤ (o0.1 0).toInt ∧ (o0.1 0).toInt ≤ 0) (f_o0_38 : (1 : Int) ≤ (o0.1 38).toInt ∧ (o0.1 38).toInt ≤ 1) (f_o0_78 : (1 : Int) ≤ (o0.1 78).toInt ∧ (o0.1 78).toInt ≤ 1) (f_o0_82 : (1 : Int) ≤ (o0.1 82).toInt ∧ (o0.1 82).toInt ≤ 12) (f_o0_95 : (0 : Int) ≤ (o0.1 95).toInt ∧ (o0.1 95).toInt ≤ 0) (x_0 : Mt (o0.2.1 90)) (x_1 : Mt (o0.2.1 89)) (x_2 : Mp v2 (o0.2.1 90)) (x_3 : Pl (o0.2.1 84) (o0.2.1 88) (o0.2.1 89) (o0.2.1 86)) (x_4 : Md (o0.1 39).toInt (o0.2.1 84) (o0.2.1 86) (o0.2.1 87) (o0.2.1 88)) (x_5 : Hl (v1.toInt / 2 * 2) (v1.toInt / 2 * 2 + 2) (o0.2.1 88) (o0.2.1 86)) (x_6 : Ms 3 v2.toInt (o0.2.1 84) (o0.2.1 90)) : tt (fM_tryMatch v1 v2 o0) (QM_tryMatch v1 v2 o0) := by
  have H := hM_tryMatch v1 v2 o0 cfFU
  have hm : (9 : Int) ≤ (cfFU : Nat) := by decide
  have r_o0 : Fr (fr_M [] [88, 89, 90] []) o0 o0 := fr_rfl
  unfold fM_tryMatch fM_tryMatch_0
  have g_o0_39 : (0 : Int) ≤ (o0.1 39).toInt ∧ (o0.1 39).toInt ≤ 8 := k_o0.1 39
  have p1 : Mm 0 (o0.2.1 86) (o0.2.1 90) := by exact Mm_0 _ _
  exact H _ _ _ _ _ k_o0 r_o0 i_v1 i_v2 (iv_w (a := 0) (b := 3) (by decide) (by decide) (show (0 : Int) ≤ (0 : Int32).toInt ∧ (0 : Int32).toInt ≤ 0 by decide)) f_o0_0 f_o0_38 f_o0_78 f_o0_82 f_o0_95 x_0 x_1 x_2 (show v2.toInt = v2.toInt by omega) x_3 x_4 x_5 x_6 p1 (show v1.toInt = v1.toInt by omega) (show 0 + (3 - 0) * 2 < ((cfFU : Nat) : Int) by omega)
def QM_tryCell (v1 : Int32) (v2 : Int32) (v3 : Int32) (o0 : cf_O) (r : (cf_O)) : Prop := (okO I_M r) ∧ (Fr (fr_M [] [88, 89, 90, 98] []) o0 r) ∧ (Mt (r.2.1 90)) ∧ (Mt (r.2.1 89)) ∧ (Pl (r.2.1 84) (r.2.1 88) (r.2.1 89) (r.2.1 86)) ∧ (Md (r.1 39).toInt (r.2.1 84) (r.2.1 86) (r.2.1 87) (r.2.1 88)) ∧ (Hl (2 * v1.toInt) (2 * v1.toInt + 2) (r.2.1 88) (r.2.1 86)) ∧ True
def HM_tryCell (yv1 : Int32) (yv2 : Int32) (yv3 : Int32) (yo0 : cf_O) (n : Nat) : Prop := (∀ (v1 : Int32) (v2 : Int32) (v4 : Int32) (v5 : Int32) (v6 : Int32) (o0 : cf_O), (okO I_M o0) → (Fr (fr_M [] [88, 89, 90, 98] []) yo0 o0) → ((1 : Int) ≤ v1.toInt ∧ v1.toInt ≤ 208) → ((301 : Int) ≤ v2.toInt ∧ v2.toInt ≤ 63209) → ((0 : Int) ≤ v4.toInt ∧ v4.toInt ≤ 3) → ((1 : Int) ≤ v5.toInt ∧ v5.toInt ≤ 27) → ((0 : Int) ≤ v6.toInt ∧ v6.toInt ≤ 30) → ((0 : Int) ≤ (o0.1 0).toInt ∧ (o0.1 0).toInt ≤ 0) → ((1 : Int) ≤ (o0.1 38).toInt ∧ (o0.1 38).toInt ≤ 1) → ((1 : Int) ≤ (o0.1 78).toInt ∧ (o0.1 78).toInt ≤ 1) → ((1 : Int) ≤ (o0.1 82).toInt ∧ (o0.1 82).toInt ≤ 12) → ((0 : Int) ≤ (o0.1 95).toInt ∧ (o0.1 95).toInt ≤ 0) → (v4.toInt ≤ 3) → (Mt (o0.2.1 90)) → (Mt (o0.2.1 89)) → (Pl (o0.2.1 84) (o0.2.1 88) (o0.2.1 89) (o0.2.1 86)) → (Md (o0.1 39).toInt (o0.2.1 84) (o0.2.1 86) (o0.2.1 87) (o0.2.1 88)) → (Hl (2 * yv1.toInt) (2 * yv1.toInt + 2) (o0.2.1 88) (o0.2.1 86)) → (Cn (o0.2.1 59) (o0.2.1 58)) → (Mf v4.toInt (o0.2.1 84) (o0.2.1 90)) → (v1.toInt = yv1.toInt) → (v2.toInt = yv2.toInt) → ((v4.toInt = (o0.2.1 59 yv2.toNatClampNeg).toInt)) → 0 + (30 - v6.toInt) * 92 < (n : Int) → tt (gM_tryCell n 0 v1 v2 v4 v5 v6 0 0 0 0 o0) (QM_tryCell yv1 yv2 yv3 yo0)) ∧ (∀ (v1 : Int32) (v2 : Int32) (v4 : Int32) (v5 : Int32) (v6 : Int32) (v8 : Int32) (v9 : Int32) (v10 : Int32) (o0 : cf_O), (okO I_M o0) → (Fr (fr_M [] [88, 89, 90, 98] []) yo0 o0) → ((1 : Int) ≤ v1.toInt ∧ v1.toInt ≤ 208) → ((301 : Int) ≤ v2.toInt ∧ v2.toInt ≤ 63209) → ((0 : Int) ≤ v4.toInt ∧ v4.toInt ≤ 3) → ((1 : Int) ≤ v5.toInt ∧ v5.toInt ≤ 27) → ((0 : Int) ≤ v6.toInt ∧ v6.toInt ≤ 29) → ((0 : Int) ≤ v8.toInt ∧ v8.toInt ≤ 29) → ((0 : Int) ≤ v9.toInt ∧ v9.toInt ≤ 7) → ((0 : Int) ≤ v10.toInt ∧ v10.toInt ≤ 3) → ((0 : Int) ≤ (o0.1 0).toInt ∧ (o0.1 0).toInt ≤ 0) → ((1 : Int) ≤ (o0.1 38).toInt ∧ (o0.1 38).toInt ≤ 1) → ((1 : Int) ≤ (o0.1 78).toInt ∧ (o0.1 78).toInt ≤ 1) → ((1 : Int) ≤ (o0.1 82).toInt ∧ (o0.1 82).toInt ≤ 12) → ((0 : Int) ≤ (o0.1 95).toInt ∧ (o0.1 95).toInt ≤ 0) → (v4.toInt ≤ 3) → (Mt (o0.2.1 90)) → (Mt (o0.2.1 89)) → (Pl (o0.2.1 84) (o0.2.1 88) (o0.2.1 89) (o0.2.1 86)) → (Md (o0.1 39).toInt (o0.2.1 84) (o0.2.1 86) (o0.2.1 87) (o0.2.1 88)) → (Hl (2 * yv1.toInt) (2 * yv1.toInt + 2) (o0.2.1 88) (o0.2.1 86)) → (Cn (o0.2.1 59) (o0.2.1 58)) → (Mf v4.toInt (o0.2.1 84) (o0.2.1 90)) → (v1.toInt = yv1.toInt) → (v2.toInt = yv2.toInt) → ((v4.toInt = (o0.2.1 59 yv2.toNatClampNeg).toInt)) → (Pa v10.toInt v4.toInt (o0.2.1 98)) → 0 + (30 - v6.toInt - 1) * 92 + 83 + (3 - v10.toInt) * 2 < (n : Int) → tt (gM_tryCell n 1 v1 v2 v4 v5 v6 v8 v9 v10 0 o0) (QM_tryCell yv1 yv2 yv3 yo0)) ∧ (∀ (v1 : Int32) (v2 : Int32) (v4 : Int32) (v5 : Int32) (v6 : Int32) (v9 : Int32) (v10 : Int32) (o0 : cf_O), (okO I_M o0) → (Fr (fr_M [] [88, 89, 90, 98] []) yo0 o0) → ((1 : Int) ≤ v1.toInt ∧ v1.toInt ≤ 208) → ((301 : Int) ≤ v2.toInt ∧ v2.toInt ≤ 63209) → ((0 : Int) ≤ v4.toInt ∧ v4.toInt ≤ 3) → ((1 : Int) ≤ v5.toInt ∧ v5.toInt ≤ 27) → ((0 : Int) ≤ v6.toInt ∧ v6.toInt ≤ 29) → ((0 : Int) ≤ v9.toInt ∧ v9.toInt ≤ 7) → ((0 : Int) ≤ v10.toInt ∧ v10.toInt ≤ 8) → ((0 : Int) ≤ (o0.1 0).toInt ∧ (o0.1 0).toInt ≤ 0) → ((1 : Int) ≤ (o0.1 38).toInt ∧ (o0.1 38).toInt ≤ 1) → ((1 : Int) ≤ (o0.1 78).toInt ∧ (o0.1 78).toInt ≤ 1) → ((1 : Int) ≤ (o0.1 82).toInt ∧ (o0.1 82).toInt ≤ 12) → ((0 : Int) ≤ (o0.1 95).toInt ∧ (o0.1 95).toInt ≤ 0) → (v4.toInt ≤ 3) → (Mt (o0.2.1 90)) → (Mt (o0.2.1 89)) → (Pl (o0.2.1 84) (o0.2.1 88) (o0.2.1 89) (o0.2.1 86)) → (Md (o0.1 39).toInt (o0.2.1 84) (o0.2.1 86) (o0.2.1 87) (o0.2.1 88)) → (Hl (2 * yv1.toInt) (2 * yv1.toInt + 2) (o0.2.1 88) (o0.2.1 86)) → (Cn (o0.2.1 59) (o0.2.1 58)) → (Mf v4.toInt (o0.2.1 84) (o0.2.1 90)) → (v1.toInt = yv1.toInt) → (v2.toInt = yv2.toInt) → ((v4.toInt = (o0.2.1 59 yv2.toNatClampNeg).toInt)) → (Pa v4.toInt v4.toInt (o0.2.1 98)) → 0 + (30 - v6.toInt - 1) * 92 + 1 + (8 - v10.toInt) * 10 < (n : Int) → tt (gM_tryCell n 2 v1 v2 v4 v5 v6 0 v9 v10 0 o0) (QM_tryCell yv1 yv2 yv3 yo0)) ∧ (∀ (v1 : Int32) (v2 : Int32) (v4 : Int32) (v5 : Int32) (v6 : Int32) (v9 : Int32) (v10 : Int32) (v11 : Int32) (o0 : cf_O), (okO I_M o0) → (Fr (fr_M [] [88, 89, 90, 98] []) yo0 o0) → ((1 : Int) ≤ v1.toInt ∧ v1.toInt ≤ 208) → ((301 : Int) ≤ v2.toInt ∧ v2.toInt ≤ 63209) → ((0 : Int) ≤ v4.toInt ∧ v4.toInt ≤ 3) → ((1 : Int) ≤ v5.toInt ∧ v5.toInt ≤ 27) → ((0 : Int) ≤ v6.toInt ∧ v6.toInt ≤ 29) → ((0 : Int) ≤ v9.toInt ∧ v9.toInt ≤ 7) → ((0 : Int) ≤ v10.toInt ∧ v10.toInt ≤ 7) → ((0 : Int) ≤ v11.toInt ∧ v11.toInt ≤ 3) → ((0 : Int) ≤ (o0.1 0).toInt ∧ (o0.1 0).toInt ≤ 0) → ((1 : Int) ≤ (o0.1 38).toInt ∧ (o0.1 38).toInt ≤ 1) → ((1 : Int) ≤ (o0.1 78).toInt ∧ (o0.1 78).toInt ≤ 1) → ((1 : Int) ≤ (o0.1 82).toInt ∧ (o0.1 82).toInt ≤ 12) → ((0 : Int) ≤ (o0.1 95).toInt ∧ (o0.1 95).toInt ≤ 0) → (v4.toInt ≤ 3) → (Mt (o0.2.1 90)) → (Mt (o0.2.1 89)) → (Mq v11 v4 (o0.2.1 90)) → (Pl (o0.2.1 84) (o0.2.1 88) (o0.2.1 89) (o0.2.1 86)) → (Md (o0.1 39).toInt (o0.2.1 84) (o0.2.1 86) (o0.2.1 87) (o0.2.1 88)) → (Hl (2 * yv1.toInt) (2 * yv1.toInt + 2) (o0.2.1 88) (o0.2.1 86)) → (Cn (o0.2.1 59) (o0.2.1 58)) → (v1.toInt = yv1.toInt) → (v2.toInt = yv2.toInt) → ((v4.toInt = (o0.2.1 59 yv2.toNatClampNeg).toInt)) → (Pa v4.toInt v4.toInt (o0.2.1 98)) → (Ms v11.toInt v4.toInt (o0.2.1 84) (o0.2.1 90)) → 0 + (30 - v6.toInt - 1) * 92 + 1 + (8 - v10.toInt - 1) * 10 + 1 + (3 - v11.toInt) * 2 < (n : Int) → tt (gM_tryCell n 3 v1 v2 v4 v5 v6 0 v9 v10 v11 o0) (QM_tryCell yv1 yv2 yv3 yo0))
set_option maxHeartbeats 4000000 in
set_option maxRecDepth 100000 in
theorem tM_tryCell_133 {yv1 : Int32} {yv2 : Int32} {yv3 : Int32} {yo0 : cf_O} {n : Nat} (H : HM_tryCell yv1 yv2 yv3 yo0 n) (v1 : Int32) (v2 : Int32) (v4 : Int32) (v5 : Int32) (v6 : Int32) (v9 : Int32) (v10 : Int32) (v11 : Int32) (o0 : cf_O) (k_o0 : okO I_M o0) (r_o0 : Fr (fr_M [] [88, 89, 90, 98] []) yo0 o0) (i_v1 : (1 : Int) ≤ v1.toInt ∧ v1.toInt ≤ 208) (i_v2 : (301 : Int) ≤ v2.toInt ∧ v2.toInt ≤ 63209) (i_v4 : (0 : Int) ≤ v4.toInt ∧ v4.toInt ≤ 3) (i_v5 : (1 : Int) ≤ v5.toInt ∧ v5.toInt ≤ 27) (i_v6 : (0 : Int) ≤ v6.toInt ∧ v6.toInt ≤ 29) (i_v9 : (0 : Int) ≤ v9.toInt ∧ v9.toInt ≤ 7) (i_v10 : (0 : Int) ≤ v10.toInt ∧ v10.toInt ≤ 7) (i_v11 : (0 : Int) ≤ v11.toInt ∧ v11.toInt ≤ 3) (f_o0_0 : (0 : Int) ≤ (o0.1 0).toInt ∧ (o0.1 0).toInt ≤ 0) (f_o0_38 : (1 : Int) ≤ (o0.1 38).toInt ∧ (o0.1 38).toInt ≤ 1) (f_o0_78 : (1 : Int) ≤ (o0.1 78).toInt ∧ (o0.1 78).toInt ≤ 1) (f_o0_82 : (1 : Int) ≤ (o0.1 82).toInt ∧ (o0.1 82).toInt ≤ 12) (f_o0_95 : (0 : Int) ≤ (o0.1 95).toInt ∧ (o0.1 95).toInt ≤ 0) (x_0 : v4.toInt ≤ 3) (x_1 : Mt (o0.2.1 90)) (x_2 : Mt (o0.2.1 89)) (x_3 : Mq v11 v4 (o0.2.1 90)) (x_4 : Pl (o0.2.1 84) (o0.2.1 88) (o0.2.1 89) (o0.2.1 86)) (x_5 : Md (o0.1 39).toInt (o0.2.1 84) (o0.2.1 86) (o0.2.1 87) (o0.2.1 88)) (x_6 : Hl (2 * yv1.toInt) (2 * yv1.toInt + 2) (o0.2.1 88) (o0.2.1 86)) (x_7 : Cn (o0.2.1 59) (o0.2.1 58)) (x_8 : v1.toInt = yv1.toInt) (x_9 : v2.toInt = yv2.toInt) (x_10 : (v4.toInt = (o0.2.1 59 yv2.toNatClampNeg).toInt)) (x_11 : Pa v4.toInt v4.toInt (o0.2.1 98)) (x_12 : Ms v11.toInt v4.toInt (o0.2.1 84) (o0.2.1 90)) (hm : 0 + (30 - v6.toInt - 1) * 92 + 1 + (8 - v10.toInt - 1) * 10 + 1 + (3 - v11.toInt) * 2 ≤ (n : Int)) : tt (fM_tryCell_133 (gM_tryCell n) v1 v2 v4 v5 v6 v9 v10 v11 o0) (QM_tryCell yv1 yv2 yv3 yo0) := by
  unfold fM_tryCell_133
  have g_o0_39 : (0 : Int) ≤ (o0.1 39).toInt ∧ (o0.1 39).toInt ≤ 8 := k_o0.1 39
  have ey_o0_39 : (o0.1 39).toInt = (yo0.1 39).toInt := congrArg Int32.toInt (r_o0.1 39 rfl)
  have t1 := tn_n yv2
  have t2 := tn_n v11
  refine tt_if (fun c3 => ?_) (fun c3 => ?_)
  · have wc3 : (3 : Int) ≤ v11.toInt := c_le c3
    have i4 : (3 : Int) ≤ v11.toInt ∧ v11.toInt ≤ 3 := nr_ler c3 (show (3 : Int) ≤ (3 : Int32).toInt ∧ (3 : Int32).toInt ≤ 3 by decide) i_v11 (by decide) (by decide)
    refine tt_kv (P := fun z => ((2 : Int) ≤ z.toInt ∧ z.toInt ≤ 416) ∧ z = (2 * v1) ∧ z.toInt = 2 * v1.toInt) ⟨iv_mul (show (2 : Int) ≤ (2 : Int32).toInt ∧ (2 : Int32).toInt ≤ 2 by decide) i_v1 (by decide) (by decide) (by decide) (by decide) (by decide), rfl, iq_mul (show (2 : Int) ≤ (2 : Int32).toInt ∧ (2 : Int32).toInt ≤ 2 by decide) i_v1 (by decide) (by decide) (by decide) (by decide)⟩ (fun x5 qi6 => ?_)
    obtain ⟨i6, ax5, ei6⟩ := qi6
    have p7 : Mp v4 (o0.2.1 90) := by exact Mq_e x_3 (by omega)
    have p8 : Hl (x5.toInt / 2 * 2) (x5.toInt / 2 * 2 + 2) (o0.2.1 88) (o0.2.1 86) := by exact Hl_w (by assumption) (by omega)
    have p9 : Ms 3 v4.toInt (o0.2.1 84) (o0.2.1 90) := by exact Ms_w x_12 (by omega) rfl
    refine tt_b (sM_tryMatch _ _ _ k_o0 (iv_w (a := 2) (b := 417) (by decide) (by decide) i6) i_v4 f_o0_0 f_o0_38 f_o0_78 f_o0_82 f_o0_95 x_1 x_2 p7 x_4 x_5 p8 p9) (fun q10 hq10 => ?_)
    obtain ⟨k_q10, n_q10, zq10_0, zq10_1, zq10_2, zq10_3, zq10_4, zq10_5, zq10_6, -⟩ := hq10
    have r_q10 := fr_tr r_o0 n_q10 rfl rfl rfl
    have f_q10_0 : (0 : Int) ≤ (q10.1 0).toInt ∧ (q10.1 0).toInt ≤ 0 := by rw [n_q10.1 0 rfl]; exact f_o0_0
    have f_q10_82 : (1 : Int) ≤ (q10.1 82).toInt ∧ (q10.1 82).toInt ≤ 12 := by rw [n_q10.1 82 rfl]; exact f_o0_82
    have f_q10_38 : (1 : Int) ≤ (q10.1 38).toInt ∧ (q10.1 38).toInt ≤ 1 := by rw [n_q10.1 38 rfl]; exact f_o0_38
    have f_q10_78 : (1 : Int) ≤ (q10.1 78).toInt ∧ (q10.1 78).toInt ≤ 1 := by rw [n_q10.1 78 rfl]; exact f_o0_78
    have f_q10_95 : (0 : Int) ≤ (q10.1 95).toInt ∧ (q10.1 95).toInt ≤ 0 := by rw [n_q10.1 95 rfl]; exact f_o0_95
    have e_q10_39 : (q10.1 39).toInt = (o0.1 39).toInt := congrArg Int32.toInt (n_q10.1 39 rfl)
    have g_q10_39 : (0 : Int) ≤ (q10.1 39).toInt ∧ (q10.1 39).toInt ≤ 8 := k_q10.1 39
    have u11 : Cn (q10.2.1 59) (q10.2.1 58) := by rw [n_q10.2.1 58 rfl, n_q10.2.1 59 rfl]; exact x_7
    have u12 : (v4.toInt = (q10.2.1 59 yv2.toNatClampNeg).toInt) := by rw [n_q10.2.1 59 rfl]; exact x_10
    have u13 : Pa v4.toInt v4.toInt (q10.2.1 98) := by rw [n_q10.2.1 98 rfl]; exact x_11
    refine tt_kv (P := fun z => ((2 : Int) ≤ z.toInt ∧ z.toInt ≤ 416) ∧ z = (2 * v1) ∧ z.toInt = 2 * v1.toInt) ⟨iv_mul (show (2 : Int) ≤ (2 : Int32).toInt ∧ (2 : Int32).toInt ≤ 2 by decide) i_v1 (by decide) (by decide) (by decide) (by decide) (by decide), rfl, iq_mul (show (2 : Int) ≤ (2 : Int32).toInt ∧ (2 : Int32).toInt ≤ 2 by decide) i_v1 (by decide) (by decide) (by decide) (by decide)⟩ (fun x14 qi15 => ?_)
    obtain ⟨i15, ax14, ei15⟩ := qi15
    refine tt_kv (P := fun z => ((3 : Int) ≤ z.toInt ∧ z.toInt ≤ 417) ∧ z = (x14 + 1) ∧ z.toInt = x14.toInt + 1) ⟨iv_add i15 (show (1 : Int) ≤ (1 : Int32).toInt ∧ (1 : Int32).toInt ≤ 1 by decide) (by decide) (by decide) (by decide) (by decide), rfl, iq_add i15 (show (1 : Int) ≤ (1 : Int32).toInt ∧ (1 : Int32).toInt ≤ 1 by decide) (by decide) (by decide)⟩ (fun x16 qi17 => ?_)
    obtain ⟨i17, ax16, ei17⟩ := qi17
    have p18 : Hl (x16.toInt / 2 * 2) (x16.toInt / 2 * 2 + 2) (q10.2.1 88) (q10.2.1 86) := by exact Hl_w (by assumption) (by omega)
    refine tt_b (sM_tryMatch _ _ _ k_q10 (iv_w (a := 2) (b := 417) (by decide) (by decide) i17) i_v4 f_q10_0 f_q10_38 f_q10_78 f_q10_82 f_q10_95 zq10_0 zq10_1 zq10_2 zq10_3 zq10_4 p18 zq10_6) (fun q19 hq19 => ?_)
    obtain ⟨k_q19, n_q19, zq19_0, zq19_1, zq19_2, zq19_3, zq19_4, zq19_5, zq19_6, -⟩ := hq19
    have r_q19 := fr_tr r_q10 n_q19 rfl rfl rfl
    have f_q19_0 : (0 : Int) ≤ (q19.1 0).toInt ∧ (q19.1 0).toInt ≤ 0 := by rw [n_q19.1 0 rfl]; exact f_q10_0
    have f_q19_82 : (1 : Int) ≤ (q19.1 82).toInt ∧ (q19.1 82).toInt ≤ 12 := by rw [n_q19.1 82 rfl]; exact f_q10_82
    have f_q19_38 : (1 : Int) ≤ (q19.1 38).toInt ∧ (q19.1 38).toInt ≤ 1 := by rw [n_q19.1 38 rfl]; exact f_q10_38
    have f_q19_78 : (1 : Int) ≤ (q19.1 78).toInt ∧ (q19.1 78).toInt ≤ 1 := by rw [n_q19.1 78 rfl]; exact f_q10_78
    have f_q19_95 : (0 : Int) ≤ (q19.1 95).toInt ∧ (q19.1 95).toInt ≤ 0 := by rw [n_q19.1 95 rfl]; exact f_q10_95
    have e_q19_39 : (q19.1 39).toInt = (q10.1 39).toInt := congrArg Int32.toInt (n_q19.1 39 rfl)
    have g_q19_39 : (0 : Int) ≤ (q19.1 39).toInt ∧ (q19.1 39).toInt ≤ 8 := k_q19.1 39
    have u20 : Cn (q19.2.1 59) (q19.2.1 58) := by rw [n_q19.2.1 58 rfl, n_q19.2.1 59 rfl]; exact u11
    have u21 : (v4.toInt = (q19.2.1 59 yv2.toNatClampNeg).toInt) := by rw [n_q19.2.1 59 rfl]; exact u12
    have u22 : Pa v4.toInt v4.toInt (q19.2.1 98) := by rw [n_q19.2.1 98 rfl]; exact u13
    refine tt_kv (P := fun z => ((1 : Int) ≤ z.toInt ∧ z.toInt ≤ 8) ∧ z = (v10 + 1) ∧ z.toInt = v10.toInt + 1) ⟨iv_add i_v10 (show (1 : Int) ≤ (1 : Int32).toInt ∧ (1 : Int32).toInt ≤ 1 by decide) (by decide) (by decide) (by decide) (by decide), rfl, iq_add i_v10 (show (1 : Int) ≤ (1 : Int32).toInt ∧ (1 : Int32).toInt ≤ 1 by decide) (by decide) (by decide)⟩ (fun x23 qi24 => ?_)
    obtain ⟨i24, ax23, ei24⟩ := qi24
    have p25 : Hl (2 * yv1.toInt) (2 * yv1.toInt + 2) (q19.2.1 88) (q19.2.1 86) := by exact Hl_w (by assumption) (by omega)
    have p26 : Mf v4.toInt (q19.2.1 84) (q19.2.1 90) := by exact (show Ms 3 _ _ _ by assumption).1
    exact H.2.2.1 _ _ _ _ _ _ _ _ k_q19 r_q19 i_v1 i_v2 i_v4 i_v5 i_v6 i_v9 (iv_w (a := 0) (b := 8) (by decide) (by decide) i24) f_q19_0 f_q19_38 f_q19_78 f_q19_82 f_q19_95 (show v4.toInt ≤ 3 by omega) zq19_0 zq19_1 zq19_3 zq19_4 p25 u20 p26 (show v1.toInt = yv1.toInt by omega) (show v2.toInt = yv2.toInt by omega) u21 u22 (show 0 + (30 - v6.toInt - 1) * 92 + 1 + (8 - x23.toInt) * 10 < (n : Int) by omega)
  · have wc3 : v11.toInt < (3 : Int) := c_nle c3
    have i27 : (0 : Int) ≤ v11.toInt ∧ v11.toInt ≤ 2 := nr_nlel c3 i_v11 (show (3 : Int) ≤ (3 : Int32).toInt ∧ (3 : Int32).toInt ≤ 3 by decide) (by decide) (by decide)
    refine tt_kv (P := fun z => ((2 : Int) ≤ z.toInt ∧ z.toInt ≤ 4) ∧ z = (2 + v11) ∧ z.toInt = 2 + v11.toInt) ⟨iv_add (show (2 : Int) ≤ (2 : Int32).toInt ∧ (2 : Int32).toInt ≤ 2 by decide) i27 (by decide) (by decide) (by decide) (by decide), rfl, iq_add (show (2 : Int) ≤ (2 : Int32).toInt ∧ (2 : Int32).toInt ≤ 2 by decide) i27 (by decide) (by decide)⟩ (fun x28 qi29 => ?_)
    obtain ⟨i29, ax28, ei29⟩ := qi29
    refine tt_if (fun c30 => ?_) (fun c30 => ?_)
    · have wc30 : v4.toInt ≤ v11.toInt := c_le c30
      have i31 : (0 : Int) ≤ v4.toInt ∧ v4.toInt ≤ 2 := nr_lel c30 i_v4 i27 (by decide) (by decide)
      try unfold fM_tryCell_182
      refine tt_n (ix_ok i29 (by decide) (by decide)) ?_
      refine tt_ko ?_
      have k32 := ok_xp (k := 90) (i := x28.toNatClampNeg) (v := (-1)) k_o0 (iv_w (a := (-2147483648)) (b := 2147483647) (by decide) (by decide) (show ((-1) : Int) ≤ ((-1) : Int32).toInt ∧ ((-1) : Int32).toInt ≤ (-1) by decide))
      have r33 := fr_xp (k := 90) (i := x28.toNatClampNeg) (v := (-1)) r_o0 rfl
      have u34 : Mt (upd (o0.2.1 90) (x28.toNatClampNeg) (-1)) := Mt_u x_1 (by intros; have tnn := tn_n x28; have tvv : ((-1) : Int32).toInt = -1 := (by decide); omega)
      refine tt_kv (P := fun z => ((1 : Int) ≤ z.toInt ∧ z.toInt ≤ 3) ∧ z = (v11 + 1) ∧ z.toInt = v11.toInt + 1) ⟨iv_add i27 (show (1 : Int) ≤ (1 : Int32).toInt ∧ (1 : Int32).toInt ≤ 1 by decide) (by decide) (by decide) (by decide) (by decide), rfl, iq_add i27 (show (1 : Int) ≤ (1 : Int32).toInt ∧ (1 : Int32).toInt ≤ 1 by decide) (by decide) (by decide)⟩ (fun x35 qi36 => ?_)
      obtain ⟨i36, ax35, ei36⟩ := qi36
      have p37 : Mq x35 v4 (upd (o0.2.1 90) (x28.toNatClampNeg) (-1)) := by exact Mq_s x_3 (by omega) (by rw [tn_n]; omega) (by intros; omega)
      have p38 : Ms x35.toInt v4.toInt (o0.2.1 84) (upd (o0.2.1 90) (x28.toNatClampNeg) (-1)) := by have tvv : ((-1) : Int32).toInt = -1 := (by decide); exact Ms_s x_12 (by omega) (by omega) (by rw [tn_n]; omega) (by omega)
      exact H.2.2.2 _ _ _ _ _ _ _ _ _ k32 r33 i_v1 i_v2 (iv_w (a := 0) (b := 3) (by decide) (by decide) i31) i_v5 i_v6 i_v9 i_v10 (iv_w (a := 0) (b := 3) (by decide) (by decide) i36) f_o0_0 f_o0_38 f_o0_78 f_o0_82 f_o0_95 (show v4.toInt ≤ 3 by omega) u34 x_2 p37 x_4 x_5 x_6 x_7 (show v1.toInt = yv1.toInt by omega) (show v2.toInt = yv2.toInt by omega) x_10 x_11 p38 (show 0 + (30 - v6.toInt - 1) * 92 + 1 + (8 - v10.toInt - 1) * 10 + 1 + (3 - x35.toInt) * 2 < (n : Int) by omega)
    · have wc30 : v11.toInt < v4.toInt := c_nle c30
      have i39 : (1 : Int) ≤ v4.toInt ∧ v4.toInt ≤ 3 := nr_nler c30 i27 i_v4 (by decide) (by decide)
      refine tt_kv (P := fun z => ((1505 : Int) ≤ z.toInt ∧ z.toInt ≤ 316045) ∧ z = (5 * v2) ∧ z.toInt = 5 * v2.toInt) ⟨iv_mul (show (5 : Int) ≤ (5 : Int32).toInt ∧ (5 : Int32).toInt ≤ 5 by decide) i_v2 (by decide) (by decide) (by decide) (by decide) (by decide), rfl, iq_mul (show (5 : Int) ≤ (5 : Int32).toInt ∧ (5 : Int32).toInt ≤ 5 by decide) i_v2 (by decide) (by decide) (by decide) (by decide)⟩ (fun x40 qi41 => ?_)
      obtain ⟨i41, ax40, ei41⟩ := qi41
      refine tt_n (ix_ok i27 (by decide) (by decide)) ?_
      refine tt_kv (P := fun z => ((0 : Int) ≤ z.toInt ∧ z.toInt ≤ 2) ∧ z = (o0.2.1 98 v11.toNatClampNeg) ∧ z.toInt = (o0.2.1 98 v11.toNatClampNeg).toInt) ⟨(k_o0.2 98 _), rfl, rfl⟩ (fun x42 qi43 => ?_)
      obtain ⟨i43, ax42, ei43⟩ := qi43
      have t44 := tn_n v11
      have t45 := x_11 (v11.toNatClampNeg)
      refine tt_kv (P := fun z => ((1505 : Int) ≤ z.toInt ∧ z.toInt ≤ 316047) ∧ z = (x40 + x42) ∧ z.toInt = x40.toInt + x42.toInt) ⟨iv_add i41 i43 (by decide) (by decide) (by decide) (by decide), rfl, iq_add i41 i43 (by decide) (by decide)⟩ (fun x46 qi47 => ?_)
      obtain ⟨i47, ax46, ei47⟩ := qi47
      refine tt_n (ix_ok i47 (by decide) (by decide)) ?_
      refine tt_kv (P := fun z => ((0 : Int) ≤ z.toInt ∧ z.toInt ≤ 208) ∧ z = (o0.2.1 58 x46.toNatClampNeg) ∧ z.toInt = (o0.2.1 58 x46.toNatClampNeg).toInt) ⟨(k_o0.2 58 _), rfl, rfl⟩ (fun x48 qi49 => ?_)
      obtain ⟨i49, ax48, ei49⟩ := qi49
      have t50 := tn_n x46
      have t51 := x_7 yv2.toNatClampNeg x42.toNatClampNeg (x46.toNatClampNeg)
      have t52 := tn_n x42
      refine tt_kv (P := fun z => ((0 : Int) ≤ z.toInt ∧ z.toInt ≤ 416) ∧ z = (2 * x48) ∧ z.toInt = 2 * x48.toInt) ⟨iv_mul (show (2 : Int) ≤ (2 : Int32).toInt ∧ (2 : Int32).toInt ≤ 2 by decide) i49 (by decide) (by decide) (by decide) (by decide) (by decide), rfl, iq_mul (show (2 : Int) ≤ (2 : Int32).toInt ∧ (2 : Int32).toInt ≤ 2 by decide) i49 (by decide) (by decide) (by decide) (by decide)⟩ (fun x53 qi54 => ?_)
      obtain ⟨i54, ax53, ei54⟩ := qi54
      refine tt_kv (P := fun z => ((0 : Int) ≤ z.toInt ∧ z.toInt ≤ 7) ∧ z = (v10 >>> (v11 &&& 31))) ⟨iv_shr (p := 0) (q := 2) i_v10 i27 (by decide) (by decide) (by decide) (by decide), rfl⟩ (fun x55 qi56 => ?_)
      obtain ⟨i56, ax55⟩ := qi56
      refine tt_kv (P := fun z => ((0 : Int) ≤ z.toInt ∧ z.toInt ≤ 1) ∧ z = (x55 &&& 1)) ⟨iv_and (show (1 : Int) ≤ (1 : Int32).toInt ∧ (1 : Int32).toInt ≤ 1 by decide) (by decide) (by decide) (by decide), rfl⟩ (fun x57 qi58 => ?_)
      obtain ⟨i58, ax57⟩ := qi58
      refine tt_kv (P := fun z => ((0 : Int) ≤ z.toInt ∧ z.toInt ≤ 417) ∧ z = (x53 + x57) ∧ z.toInt = x53.toInt + x57.toInt) ⟨iv_add i54 i58 (by decide) (by decide) (by decide) (by decide), rfl, iq_add i54 i58 (by decide) (by decide)⟩ (fun x59 qi60 => ?_)
      obtain ⟨i60, ax59, ei60⟩ := qi60
      try unfold fM_tryCell_182
      refine tt_n (ix_ok i29 (by decide) (by decide)) ?_
      refine tt_ko ?_
      have k61 := ok_xp (k := 90) (i := x28.toNatClampNeg) (v := x59) k_o0 (iv_w (a := (-2147483648)) (b := 2147483647) (by decide) (by decide) i60)
      have r62 := fr_xp (k := 90) (i := x28.toNatClampNeg) (v := x59) r_o0 rfl
      have u63 : Mt (upd (o0.2.1 90) (x28.toNatClampNeg) x59) := Mt_u x_1 (by intros; have tnn := tn_n x28; omega)
      refine tt_kv (P := fun z => ((1 : Int) ≤ z.toInt ∧ z.toInt ≤ 3) ∧ z = (v11 + 1) ∧ z.toInt = v11.toInt + 1) ⟨iv_add i27 (show (1 : Int) ≤ (1 : Int32).toInt ∧ (1 : Int32).toInt ≤ 1 by decide) (by decide) (by decide) (by decide) (by decide), rfl, iq_add i27 (show (1 : Int) ≤ (1 : Int32).toInt ∧ (1 : Int32).toInt ≤ 1 by decide) (by decide) (by decide)⟩ (fun x64 qi65 => ?_)
      obtain ⟨i65, ax64, ei65⟩ := qi65
      have p66 : Mq x64 v4 (upd (o0.2.1 90) (x28.toNatClampNeg) x59) := by exact Mq_s x_3 (by omega) (by rw [tn_n]; omega) (by intros; omega)
      have p67 : Ms x64.toInt v4.toInt (o0.2.1 84) (upd (o0.2.1 90) (x28.toNatClampNeg) x59) := by have tvv : ((-1) : Int32).toInt = -1 := (by decide); exact Ms_s x_12 (by omega) (by omega) (by rw [tn_n]; omega) (by omega)
      exact H.2.2.2 _ _ _ _ _ _ _ _ _ k61 r62 i_v1 i_v2 (iv_w (a := 0) (b := 3) (by decide) (by decide) i39) i_v5 i_v6 i_v9 i_v10 (iv_w (a := 0) (b := 3) (by decide) (by decide) i65) f_o0_0 f_o0_38 f_o0_78 f_o0_82 f_o0_95 (show v4.toInt ≤ 3 by omega) u63 x_2 p66 x_4 x_5 x_6 x_7 (show v1.toInt = yv1.toInt by omega) (show v2.toInt = yv2.toInt by omega) x_10 x_11 p67 (show 0 + (30 - v6.toInt - 1) * 92 + 1 + (8 - v10.toInt - 1) * 10 + 1 + (3 - x64.toInt) * 2 < (n : Int) by omega)
set_option maxHeartbeats 4000000 in
set_option maxRecDepth 100000 in
theorem tM_tryCell_110 {yv1 : Int32} {yv2 : Int32} {yv3 : Int32} {yo0 : cf_O} {n : Nat} (H : HM_tryCell yv1 yv2 yv3 yo0 n) (v1 : Int32) (v2 : Int32) (v4 : Int32) (v5 : Int32) (v6 : Int32) (v9 : Int32) (v10 : Int32) (o0 : cf_O) (k_o0 : okO I_M o0) (r_o0 : Fr (fr_M [] [88, 89, 90, 98] []) yo0 o0) (i_v1 : (1 : Int) ≤ v1.toInt ∧ v1.toInt ≤ 208) (i_v2 : (301 : Int) ≤ v2.toInt ∧ v2.toInt ≤ 63209) (i_v4 : (0 : Int) ≤ v4.toInt ∧ v4.toInt ≤ 3) (i_v5 : (1 : Int) ≤ v5.toInt ∧ v5.toInt ≤ 27) (i_v6 : (0 : Int) ≤ v6.toInt ∧ v6.toInt ≤ 29) (i_v9 : (0 : Int) ≤ v9.toInt ∧ v9.toInt ≤ 7) (i_v10 : (0 : Int) ≤ v10.toInt ∧ v10.toInt ≤ 8) (f_o0_0 : (0 : Int) ≤ (o0.1 0).toInt ∧ (o0.1 0).toInt ≤ 0) (f_o0_38 : (1 : Int) ≤ (o0.1 38).toInt ∧ (o0.1 38).toInt ≤ 1) (f_o0_78 : (1 : Int) ≤ (o0.1 78).toInt ∧ (o0.1 78).toInt ≤ 1) (f_o0_82 : (1 : Int) ≤ (o0.1 82).toInt ∧ (o0.1 82).toInt ≤ 12) (f_o0_95 : (0 : Int) ≤ (o0.1 95).toInt ∧ (o0.1 95).toInt ≤ 0) (x_0 : v4.toInt ≤ 3) (x_1 : Mt (o0.2.1 90)) (x_2 : Mt (o0.2.1 89)) (x_3 : Pl (o0.2.1 84) (o0.2.1 88) (o0.2.1 89) (o0.2.1 86)) (x_4 : Md (o0.1 39).toInt (o0.2.1 84) (o0.2.1 86) (o0.2.1 87) (o0.2.1 88)) (x_5 : Hl (2 * yv1.toInt) (2 * yv1.toInt + 2) (o0.2.1 88) (o0.2.1 86)) (x_6 : Cn (o0.2.1 59) (o0.2.1 58)) (x_7 : Mf v4.toInt (o0.2.1 84) (o0.2.1 90)) (x_8 : v1.toInt = yv1.toInt) (x_9 : v2.toInt = yv2.toInt) (x_10 : (v4.toInt = (o0.2.1 59 yv2.toNatClampNeg).toInt)) (x_11 : Pa v4.toInt v4.toInt (o0.2.1 98)) (hm : 0 + (30 - v6.toInt - 1) * 92 + 1 + (8 - v10.toInt) * 10 ≤ (n : Int)) : tt (fM_tryCell_110 (gM_tryCell n) v1 v2 v4 v5 v6 v9 v10 o0) (QM_tryCell yv1 yv2 yv3 yo0) := by
  unfold fM_tryCell_110
  have g_o0_39 : (0 : Int) ≤ (o0.1 39).toInt ∧ (o0.1 39).toInt ≤ 8 := k_o0.1 39
  have ey_o0_39 : (o0.1 39).toInt = (yo0.1 39).toInt := congrArg Int32.toInt (r_o0.1 39 rfl)
  refine tt_kv (P := fun z => ((1 : Int) ≤ z.toInt ∧ z.toInt ≤ 8) ∧ z = (1 <<< (v4 &&& 31)) ∧ z.toInt = ((1 : Int32) <<< (v4 &&& (31 : Int32))).toInt) ⟨iv_shl (p := 0) (q := 3) (show (1 : Int) ≤ (1 : Int32).toInt ∧ (1 : Int32).toInt ≤ 1 by decide) i_v4 (by decide) (by decide) (by decide) (by decide) (by decide), rfl, rfl⟩ (fun x1 qi2 => ?_)
  obtain ⟨i2, ax1, ei2⟩ := qi2
  refine tt_if (fun c3 => ?_) (fun c3 => ?_)
  · have wc3 : x1.toInt ≤ v10.toInt := c_le c3
    have i4 : (1 : Int) ≤ v10.toInt ∧ v10.toInt ≤ 8 := nr_ler c3 i2 i_v10 (by decide) (by decide)
    try unfold fM_tryCell_215
    refine tt_kv (P := fun z => ((1 : Int) ≤ z.toInt ∧ z.toInt ≤ 30) ∧ z = (v6 + 1) ∧ z.toInt = v6.toInt + 1) ⟨iv_add i_v6 (show (1 : Int) ≤ (1 : Int32).toInt ∧ (1 : Int32).toInt ≤ 1 by decide) (by decide) (by decide) (by decide) (by decide), rfl, iq_add i_v6 (show (1 : Int) ≤ (1 : Int32).toInt ∧ (1 : Int32).toInt ≤ 1 by decide) (by decide) (by decide)⟩ (fun x5 qi6 => ?_)
    obtain ⟨i6, ax5, ei6⟩ := qi6
    exact H.1 _ _ _ _ _ _ k_o0 r_o0 i_v1 i_v2 i_v4 i_v5 (iv_w (a := 0) (b := 30) (by decide) (by decide) i6) f_o0_0 f_o0_38 f_o0_78 f_o0_82 f_o0_95 (show v4.toInt ≤ 3 by omega) x_1 x_2 x_3 x_4 x_5 x_6 x_7 (show v1.toInt = yv1.toInt by omega) (show v2.toInt = yv2.toInt by omega) x_10 (show 0 + (30 - x5.toInt) * 92 < (n : Int) by omega)
  · have wc3 : v10.toInt < x1.toInt := c_nle c3
    have i7 : (0 : Int) ≤ v10.toInt ∧ v10.toInt ≤ 7 := nr_nlel c3 i_v10 i2 (by decide) (by decide)
    refine tt_kv (P := fun z => ((1 : Int) ≤ z.toInt ∧ z.toInt ≤ 8) ∧ z = (1 <<< (v4 &&& 31)) ∧ z.toInt = ((1 : Int32) <<< (v4 &&& (31 : Int32))).toInt) ⟨iv_shl (p := 0) (q := 3) (show (1 : Int) ≤ (1 : Int32).toInt ∧ (1 : Int32).toInt ≤ 1 by decide) i_v4 (by decide) (by decide) (by decide) (by decide) (by decide), rfl, rfl⟩ (fun x8 qi9 => ?_)
    obtain ⟨i9, ax8, ei9⟩ := qi9
    refine tt_kv (P := fun z => ((0 : Int) ≤ z.toInt ∧ z.toInt ≤ 7) ∧ z = (x8 - 1) ∧ z.toInt = x8.toInt - 1) ⟨iv_sub i9 (show (1 : Int) ≤ (1 : Int32).toInt ∧ (1 : Int32).toInt ≤ 1 by decide) (by decide) (by decide) (by decide) (by decide), rfl, iq_sub i9 (show (1 : Int) ≤ (1 : Int32).toInt ∧ (1 : Int32).toInt ≤ 1 by decide) (by decide) (by decide)⟩ (fun x10 qi11 => ?_)
    obtain ⟨i11, ax10, ei11⟩ := qi11
    refine tt_if (fun c12 => ?_) (fun c12 => ?_)
    · have wc12 : v9.toInt = x10.toInt := c_eq c12
      have p13 : Mq (0 : Int32) v4 (o0.2.1 90) := by exact Mq_0 _ _
      have p14 : Ms 0 v4.toInt (o0.2.1 84) (o0.2.1 90) := by exact Ms_0 x_7
      exact H.2.2.2 _ _ _ _ _ _ _ _ _ k_o0 r_o0 i_v1 i_v2 i_v4 i_v5 i_v6 i_v9 i7 (iv_w (a := 0) (b := 3) (by decide) (by decide) (show (0 : Int) ≤ (0 : Int32).toInt ∧ (0 : Int32).toInt ≤ 0 by decide)) f_o0_0 f_o0_38 f_o0_78 f_o0_82 f_o0_95 (show v4.toInt ≤ 3 by omega) x_1 x_2 p13 x_3 x_4 x_5 x_6 (show v1.toInt = yv1.toInt by omega) (show v2.toInt = yv2.toInt by omega) x_10 x_11 p14 (show 0 + (30 - v6.toInt - 1) * 92 + 1 + (8 - v10.toInt - 1) * 10 + 1 + (3 - 0) * 2 < (n : Int) by omega)
    · have wc12 : ¬ v9.toInt = x10.toInt := c_ne c12
      try unfold fM_tryCell_215
      refine tt_kv (P := fun z => ((1 : Int) ≤ z.toInt ∧ z.toInt ≤ 30) ∧ z = (v6 + 1) ∧ z.toInt = v6.toInt + 1) ⟨iv_add i_v6 (show (1 : Int) ≤ (1 : Int32).toInt ∧ (1 : Int32).toInt ≤ 1 by decide) (by decide) (by decide) (by decide) (by decide), rfl, iq_add i_v6 (show (1 : Int) ≤ (1 : Int32).toInt ∧ (1 : Int32).toInt ≤ 1 by decide) (by decide) (by decide)⟩ (fun x15 qi16 => ?_)
      obtain ⟨i16, ax15, ei16⟩ := qi16
      exact H.1 _ _ _ _ _ _ k_o0 r_o0 i_v1 i_v2 i_v4 i_v5 (iv_w (a := 0) (b := 30) (by decide) (by decide) i16) f_o0_0 f_o0_38 f_o0_78 f_o0_82 f_o0_95 (show v4.toInt ≤ 3 by omega) x_1 x_2 x_3 x_4 x_5 x_6 x_7 (show v1.toInt = yv1.toInt by omega) (show v2.toInt = yv2.toInt by omega) x_10 (show 0 + (30 - x15.toInt) * 92 < (n : Int) by omega)
set_option maxHeartbeats 4000000 in
set_option maxRecDepth 100000 in
theorem tM_tryCell_65 {yv1 : Int32} {yv2 : Int32} {yv3 : Int32} {yo0 : cf_O} {n : Nat} (H : HM_tryCell yv1 yv2 yv3 yo0 n) (v1 : Int32) (v2 : Int32) (v4 : Int32) (v5 : Int32) (v6 : Int32) (v8 : Int32) (v9 : Int32) (v10 : Int32) (o0 : cf_O) (k_o0 : okO I_M o0) (r_o0 : Fr (fr_M [] [88, 89, 90, 98] []) yo0 o0) (i_v1 : (1 : Int) ≤ v1.toInt ∧ v1.toInt ≤ 208) (i_v2 : (301 : Int) ≤ v2.toInt ∧ v2.toInt ≤ 63209) (i_v4 : (0 : Int) ≤ v4.toInt ∧ v4.toInt ≤ 3) (i_v5 : (1 : Int) ≤ v5.toInt ∧ v5.toInt ≤ 27) (i_v6 : (0 : Int) ≤ v6.toInt ∧ v6.toInt ≤ 29) (i_v8 : (0 : Int) ≤ v8.toInt ∧ v8.toInt ≤ 29) (i_v9 : (0 : Int) ≤ v9.toInt ∧ v9.toInt ≤ 7) (i_v10 : (0 : Int) ≤ v10.toInt ∧ v10.toInt ≤ 3) (f_o0_0 : (0 : Int) ≤ (o0.1 0).toInt ∧ (o0.1 0).toInt ≤ 0) (f_o0_38 : (1 : Int) ≤ (o0.1 38).toInt ∧ (o0.1 38).toInt ≤ 1) (f_o0_78 : (1 : Int) ≤ (o0.1 78).toInt ∧ (o0.1 78).toInt ≤ 1) (f_o0_82 : (1 : Int) ≤ (o0.1 82).toInt ∧ (o0.1 82).toInt ≤ 12) (f_o0_95 : (0 : Int) ≤ (o0.1 95).toInt ∧ (o0.1 95).toInt ≤ 0) (x_0 : v4.toInt ≤ 3) (x_1 : Mt (o0.2.1 90)) (x_2 : Mt (o0.2.1 89)) (x_3 : Pl (o0.2.1 84) (o0.2.1 88) (o0.2.1 89) (o0.2.1 86)) (x_4 : Md (o0.1 39).toInt (o0.2.1 84) (o0.2.1 86) (o0.2.1 87) (o0.2.1 88)) (x_5 : Hl (2 * yv1.toInt) (2 * yv1.toInt + 2) (o0.2.1 88) (o0.2.1 86)) (x_6 : Cn (o0.2.1 59) (o0.2.1 58)) (x_7 : Mf v4.toInt (o0.2.1 84) (o0.2.1 90)) (x_8 : v1.toInt = yv1.toInt) (x_9 : v2.toInt = yv2.toInt) (x_10 : (v4.toInt = (o0.2.1 59 yv2.toNatClampNeg).toInt)) (x_11 : Pa v10.toInt v4.toInt (o0.2.1 98)) (hm : 0 + (30 - v6.toInt - 1) * 92 + 83 + (3 - v10.toInt) * 2 ≤ (n : Int)) : tt (fM_tryCell_65 (gM_tryCell n) v1 v2 v4 v5 v6 v8 v9 v10 o0) (QM_tryCell yv1 yv2 yv3 yo0) := by
  unfold fM_tryCell_65
  have g_o0_39 : (0 : Int) ≤ (o0.1 39).toInt ∧ (o0.1 39).toInt ≤ 8 := k_o0.1 39
  have ey_o0_39 : (o0.1 39).toInt = (yo0.1 39).toInt := congrArg Int32.toInt (r_o0.1 39 rfl)
  refine tt_if (fun c1 => ?_) (fun c1 => ?_)
  · have wc1 : v4.toInt ≤ v10.toInt := c_le c1
    have p2 : Pa v4.toInt v4.toInt (o0.2.1 98) := by exact Pa_w x_11 (by omega)
    exact H.2.2.1 _ _ _ _ _ _ _ _ k_o0 r_o0 i_v1 i_v2 i_v4 i_v5 i_v6 i_v9 (iv_w (a := 0) (b := 8) (by decide) (by decide) (show (0 : Int) ≤ (0 : Int32).toInt ∧ (0 : Int32).toInt ≤ 0 by decide)) f_o0_0 f_o0_38 f_o0_78 f_o0_82 f_o0_95 (show v4.toInt ≤ 3 by omega) x_1 x_2 x_3 x_4 x_5 x_6 x_7 (show v1.toInt = yv1.toInt by omega) (show v2.toInt = yv2.toInt by omega) x_10 p2 (show 0 + (30 - v6.toInt - 1) * 92 + 1 + (8 - 0) * 10 < (n : Int) by omega)
  · have wc1 : v10.toInt < v4.toInt := c_nle c1
    have i3 : (0 : Int) ≤ v10.toInt ∧ v10.toInt ≤ 2 := nr_nlel c1 i_v10 i_v4 (by decide) (by decide)
    have i4 : (1 : Int) ≤ v4.toInt ∧ v4.toInt ≤ 3 := nr_nler c1 i_v10 i_v4 (by decide) (by decide)
    refine tt_n (iv_nz0 i4 (by decide)) ?_
    refine tt_kv (P := fun z => ((0 : Int) ≤ z.toInt ∧ z.toInt ≤ 2) ∧ z = (v8 - ((v8 / v4) * v4))) ⟨iv_remv i_v8 i4 (by decide) (by decide) (by decide) (by decide), rfl⟩ (fun x5 qi6 => ?_)
    obtain ⟨i6, ax5⟩ := qi6
    refine tt_n (ix_ok i3 (by decide) (by decide)) ?_
    refine tt_ko ?_
    have k7 := ok_xp (k := 98) (i := v10.toNatClampNeg) (v := x5) k_o0 i6
    have r8 := fr_xp (k := 98) (i := v10.toNatClampNeg) (v := x5) r_o0 rfl
    refine tt_n (iv_nz0 i4 (by decide)) ?_
    refine tt_kv (P := fun z => ((0 : Int) ≤ z.toInt ∧ z.toInt ≤ 29) ∧ z = (v8 / v4)) ⟨iv_divv i_v8 i4 (by decide) (by decide) (by decide) (by decide), rfl⟩ (fun x9 qi10 => ?_)
    obtain ⟨i10, ax9⟩ := qi10
    refine tt_n (ix_ok i3 (by decide) (by decide)) ?_
    refine tt_kv (P := fun z => ((0 : Int) ≤ z.toInt ∧ z.toInt ≤ 2) ∧ z = (upd (o0.2.1 98) (v10.toNatClampNeg) x5 v10.toNatClampNeg) ∧ z.toInt = (upd (o0.2.1 98) (v10.toNatClampNeg) x5 v10.toNatClampNeg).toInt) ⟨(k7.2 98 _), rfl, rfl⟩ (fun x11 qi12 => ?_)
    obtain ⟨i12, ax11, ei12⟩ := qi12
    have t13 := tn_n v10
    refine tt_kv (P := fun z => ((1 : Int) ≤ z.toInt ∧ z.toInt ≤ 4) ∧ z = (1 <<< (x11 &&& 31)) ∧ z.toInt = ((1 : Int32) <<< (x11 &&& (31 : Int32))).toInt) ⟨iv_shl (p := 0) (q := 2) (show (1 : Int) ≤ (1 : Int32).toInt ∧ (1 : Int32).toInt ≤ 1 by decide) i12 (by decide) (by decide) (by decide) (by decide) (by decide), rfl, rfl⟩ (fun x14 qi15 => ?_)
    obtain ⟨i15, ax14, ei15⟩ := qi15
    refine tt_kv (P := fun z => ((0 : Int) ≤ z.toInt ∧ z.toInt ≤ 7) ∧ z = (v9 ||| x14)) ⟨iv_or (w := 3) i_v9 i15 (by decide) (by decide) (by decide) (by decide) (by decide) (by decide) (by decide), rfl⟩ (fun x16 qi17 => ?_)
    obtain ⟨i17, ax16⟩ := qi17
    refine tt_kv (P := fun z => ((1 : Int) ≤ z.toInt ∧ z.toInt ≤ 3) ∧ z = (v10 + 1) ∧ z.toInt = v10.toInt + 1) ⟨iv_add i3 (show (1 : Int) ≤ (1 : Int32).toInt ∧ (1 : Int32).toInt ≤ 1 by decide) (by decide) (by decide) (by decide) (by decide), rfl, iq_add i3 (show (1 : Int) ≤ (1 : Int32).toInt ∧ (1 : Int32).toInt ≤ 1 by decide) (by decide) (by decide)⟩ (fun x18 qi19 => ?_)
    obtain ⟨i19, ax18, ei19⟩ := qi19
    have p20 : Pa x18.toInt v4.toInt (upd (o0.2.1 98) (v10.toNatClampNeg) x5) := by exact Pa_s x_11 (by omega) (by rw [tn_n]; omega) (by assumption) (by omega) (by omega)
    exact H.2.1 _ _ _ _ _ _ _ _ _ k7 r8 i_v1 i_v2 (iv_w (a := 0) (b := 3) (by decide) (by decide) i4) i_v5 i_v6 i10 i17 (iv_w (a := 0) (b := 3) (by decide) (by decide) i19) f_o0_0 f_o0_38 f_o0_78 f_o0_82 f_o0_95 (show v4.toInt ≤ 3 by omega) x_1 x_2 x_3 x_4 x_5 x_6 x_7 (show v1.toInt = yv1.toInt by omega) (show v2.toInt = yv2.toInt by omega) x_10 p20 (show 0 + (30 - v6.toInt - 1) * 92 + 83 + (3 - x18.toInt) * 2 < (n : Int) by omega)
set_option maxHeartbeats 4000000 in
set_option maxRecDepth 100000 in
theorem tM_tryCell_42 {yv1 : Int32} {yv2 : Int32} {yv3 : Int32} {yo0 : cf_O} {n : Nat} (H : HM_tryCell yv1 yv2 yv3 yo0 n) (v1 : Int32) (v2 : Int32) (v4 : Int32) (v5 : Int32) (v6 : Int32) (o0 : cf_O) (k_o0 : okO I_M o0) (r_o0 : Fr (fr_M [] [88, 89, 90, 98] []) yo0 o0) (i_v1 : (1 : Int) ≤ v1.toInt ∧ v1.toInt ≤ 208) (i_v2 : (301 : Int) ≤ v2.toInt ∧ v2.toInt ≤ 63209) (i_v4 : (0 : Int) ≤ v4.toInt ∧ v4.toInt ≤ 3) (i_v5 : (1 : Int) ≤ v5.toInt ∧ v5.toInt ≤ 27) (i_v6 : (0 : Int) ≤ v6.toInt ∧ v6.toInt ≤ 30) (f_o0_0 : (0 : Int) ≤ (o0.1 0).toInt ∧ (o0.1 0).toInt ≤ 0) (f_o0_38 : (1 : Int) ≤ (o0.1 38).toInt ∧ (o0.1 38).toInt ≤ 1) (f_o0_78 : (1 : Int) ≤ (o0.1 78).toInt ∧ (o0.1 78).toInt ≤ 1) (f_o0_82 : (1 : Int) ≤ (o0.1 82).toInt ∧ (o0.1 82).toInt ≤ 12) (f_o0_95 : (0 : Int) ≤ (o0.1 95).toInt ∧ (o0.1 95).toInt ≤ 0) (x_0 : v4.toInt ≤ 3) (x_1 : Mt (o0.2.1 90)) (x_2 : Mt (o0.2.1 89)) (x_3 : Pl (o0.2.1 84) (o0.2.1 88) (o0.2.1 89) (o0.2.1 86)) (x_4 : Md (o0.1 39).toInt (o0.2.1 84) (o0.2.1 86) (o0.2.1 87) (o0.2.1 88)) (x_5 : Hl (2 * yv1.toInt) (2 * yv1.toInt + 2) (o0.2.1 88) (o0.2.1 86)) (x_6 : Cn (o0.2.1 59) (o0.2.1 58)) (x_7 : Mf v4.toInt (o0.2.1 84) (o0.2.1 90)) (x_8 : v1.toInt = yv1.toInt) (x_9 : v2.toInt = yv2.toInt) (x_10 : (v4.toInt = (o0.2.1 59 yv2.toNatClampNeg).toInt)) (hm : 0 + (30 - v6.toInt) * 92 ≤ (n : Int)) : tt (fM_tryCell_42 (gM_tryCell n) v1 v2 v4 v5 v6 o0) (QM_tryCell yv1 yv2 yv3 yo0) := by
  unfold fM_tryCell_42
  have g_o0_39 : (0 : Int) ≤ (o0.1 39).toInt ∧ (o0.1 39).toInt ≤ 8 := k_o0.1 39
  have ey_o0_39 : (o0.1 39).toInt = (yo0.1 39).toInt := congrArg Int32.toInt (r_o0.1 39 rfl)
  refine tt_if (fun c1 => ?_) (fun c1 => ?_)
  · have wc1 : v5.toInt ≤ v6.toInt := c_le c1
    have i2 : (1 : Int) ≤ v6.toInt ∧ v6.toInt ≤ 30 := nr_ler c1 i_v5 i_v6 (by decide) (by decide)
    exact tt_some ⟨k_o0, r_o0, x_1, x_2, x_3, x_4, x_5, trivial⟩
  · have wc1 : v6.toInt < v5.toInt := c_nle c1
    have i3 : (0 : Int) ≤ v6.toInt ∧ v6.toInt ≤ 26 := nr_nlel c1 i_v6 i_v5 (by decide) (by decide)
    have p4 : Pa 0 v4.toInt (o0.2.1 98) := by exact Pa_0 _ _
    exact H.2.1 _ _ _ _ _ _ _ _ _ k_o0 r_o0 i_v1 i_v2 i_v4 i_v5 (iv_w (a := 0) (b := 29) (by decide) (by decide) i3) (iv_w (a := 0) (b := 29) (by decide) (by decide) i3) (iv_w (a := 0) (b := 7) (by decide) (by decide) (show (0 : Int) ≤ (0 : Int32).toInt ∧ (0 : Int32).toInt ≤ 0 by decide)) (iv_w (a := 0) (b := 3) (by decide) (by decide) (show (0 : Int) ≤ (0 : Int32).toInt ∧ (0 : Int32).toInt ≤ 0 by decide)) f_o0_0 f_o0_38 f_o0_78 f_o0_82 f_o0_95 (show v4.toInt ≤ 3 by omega) x_1 x_2 x_3 x_4 x_5 x_6 x_7 (show v1.toInt = yv1.toInt by omega) (show v2.toInt = yv2.toInt by omega) x_10 p4 (show 0 + (30 - v6.toInt - 1) * 92 + 83 + (3 - 0) * 2 < (n : Int) by omega)
set_option maxHeartbeats 4000000 in
set_option maxRecDepth 100000 in
theorem hM_tryCell (yv1 : Int32) (yv2 : Int32) (yv3 : Int32) (yo0 : cf_O) : ∀ n, HM_tryCell yv1 yv2 yv3 yo0 n := by
  intro n
  induction n with
  | zero => exact ⟨(fun v1 v2 v4 v5 v6 o0 k_o0 r_o0 i_v1 i_v2 i_v4 i_v5 i_v6 f_o0_0 f_o0_38 f_o0_78 f_o0_82 f_o0_95 x_0 x_1 x_2 x_3 x_4 x_5 x_6 x_7 x_8 x_9 x_10 hm => by exact absurd (show 0 + (30 - v6.toInt) * 92 < (0 : Int) from hm) (by omega)), (fun v1 v2 v4 v5 v6 v8 v9 v10 o0 k_o0 r_o0 i_v1 i_v2 i_v4 i_v5 i_v6 i_v8 i_v9 i_v10 f_o0_0 f_o0_38 f_o0_78 f_o0_82 f_o0_95 x_0 x_1 x_2 x_3 x_4 x_5 x_6 x_7 x_8 x_9 x_10 x_11 hm => by exact absurd (show 0 + (30 - v6.toInt - 1) * 92 + 83 + (3 - v10.toInt) * 2 < (0 : Int) from hm) (by omega)), (fun v1 v2 v4 v5 v6 v9 v10 o0 k_o0 r_o0 i_v1 i_v2 i_v4 i_v5 i_v6 i_v9 i_v10 f_o0_0 f_o0_38 f_o0_78 f_o0_82 f_o0_95 x_0 x_1 x_2 x_3 x_4 x_5 x_6 x_7 x_8 x_9 x_10 x_11 hm => by exact absurd (show 0 + (30 - v6.toInt - 1) * 92 + 1 + (8 - v10.toInt) * 10 < (0 : Int) from hm) (by omega)), (fun v1 v2 v4 v5 v6 v9 v10 v11 o0 k_o0 r_o0 i_v1 i_v2 i_v4 i_v5 i_v6 i_v9 i_v10 i_v11 f_o0_0 f_o0_38 f_o0_78 f_o0_82 f_o0_95 x_0 x_1 x_2 x_3 x_4 x_5 x_6 x_7 x_8 x_9 x_10 x_11 x_12 hm => by exact absurd (show 0 + (30 - v6.toInt - 1) * 92 + 1 + (8 - v10.toInt - 1) * 10 + 1 + (3 - v11.toInt) * 2 < (0 : Int) from hm) (by omega))⟩
  | succ n ih => exact ⟨(fun v1 v2 v4 v5 v6 o0 k_o0 r_o0 i_v1 i_v2 i_v4 i_v5 i_v6 f_o0_0 f_o0_38 f_o0_78 f_o0_82 f_o0_95 x_0 x_1 x_2 x_3 x_4 x_5 x_6 x_7 x_8 x_9 x_10 hm => tM_tryCell_42 ih v1 v2 v4 v5 v6 o0 k_o0 r_o0 i_v1 i_v2 i_v4 i_v5 i_v6 f_o0_0 f_o0_38 f_o0_78 f_o0_82 f_o0_95 x_0 x_1 x_2 x_3 x_4 x_5 x_6 x_7 x_8 x_9 x_10 (by omega)), (fun v1 v2 v4 v5 v6 v8 v9 v10 o0 k_o0 r_o0 i_v1 i_v2 i_v4 i_v5 i_v6 i_v8 i_v9 i_v10 f_o0_0 f_o0_38 f_o0_78 f_o0_82 f_o0_95 x_0 x_1 x_2 x_3 x_4 x_5 x_6 x_7 x_8 x_9 x_10 x_11 hm => tM_tryCell_65 ih v1 v2 v4 v5 v6 v8 v9 v10 o0 k_o0 r_o0 i_v1 i_v2 i_v4 i_v5 i_v6 i_v8 i_v9 i_v10 f_o0_0 f_o0_38 f_o0_78 f_o0_82 f_o0_95 x_0 x_1 x_2 x_3 x_4 x_5 x_6 x_7 x_8 x_9 x_10 x_11 (by omega)), (fun v1 v2 v4 v5 v6 v9 v10 o0 k_o0 r_o0 i_v1 i_v2 i_v4 i_v5 i_v6 i_v9 i_v10 f_o0_0 f_o0_38 f_o0_78 f_o0_82 f_o0_95 x_0 x_1 x_2 x_3 x_4 x_5 x_6 x_7 x_8 x_9 x_10 x_11 hm => tM_tryCell_110 ih v1 v2 v4 v5 v6 v9 v10 o0 k_o0 r_o0 i_v1 i_v2 i_v4 i_v5 i_v6 i_v9 i_v10 f_o0_0 f_o0_38 f_o0_78 f_o0_82 f_o0_95 x_0 x_1 x_2 x_3 x_4 x_5 x_6 x_7 x_8 x_9 x_10 x_11 (by omega)), (fun v1 v2 v4 v5 v6 v9 v10 v11 o0 k_o0 r_o0 i_v1 i_v2 i_v4 i_v5 i_v6 i_v9 i_v10 i_v11 f_o0_0 f_o0_38 f_o0_78 f_o0_82 f_o0_95 x_0 x_1 x_2 x_3 x_4 x_5 x_6 x_7 x_8 x_9 x_10 x_11 x_12 hm => tM_tryCell_133 ih v1 v2 v4 v5 v6 v9 v10 v11 o0 k_o0 r_o0 i_v1 i_v2 i_v4 i_v5 i_v6 i_v9 i_v10 i_v11 f_o0_0 f_o0_38 f_o0_78 f_o0_82 f_o0_95 x_0 x_1 x_2 x_3 x_4 x_5 x_6 x_7 x_8 x_9 x_10 x_11 x_12 (by omega))⟩
set_option maxHeartbeats 4000000 in
set_option maxRecDepth 100000 in
theorem sM_tryCell (v1 : Int32) (v2 : Int32) (v3 : Int32) (o0 : cf_O) (k_o0 : okO I_M o0) (i_v1 : (1 : Int) ≤ v1.toInt ∧ v1.toInt ≤ 208) (i_v2 : (301 : Int) ≤ v2.toInt ∧ v2.toInt ≤ 63209) (i_v3 : (0 : Int) ≤ v3.toInt ∧ v3.toInt ≤ 11) (f_o0_0 : (0 : Int) ≤ (o0.1 0).toInt ∧ (o0.1 0).toInt ≤ 0) (f_o0_38 : (1 : Int) ≤ (o0.1 38).toInt ∧ (o0.1 38).toInt ≤ 1) (f_o0_78 : (1 : Int) ≤ (o0.1 78).toInt ∧ (o0.1 78).toInt ≤ 1) (f_o0_82 : (1 : Int) ≤ (o0.1 82).toInt ∧ (o0.1 82).toInt ≤ 12) (f_o0_95 : (0 : Int) ≤ (o0.1 95).toInt ∧ (o0.1 95).toInt ≤ 0) (x_0 : (o0.2.1 59 v2.toNatClampNeg).toInt ≤ 3) (x_1 : Mt (o0.2.1 90)) (x_2 : Mt (o0.2.1 89)) (x_3 : Pl (o0.2.1 84) (o0.2.1 88) (o0.2.1 89) (o0.2.1 86)) (x_4 : Md (o0.1 39).toInt (o0.2.1 84) (o0.2.1 86) (o0.2.1 87) (o0.2.1 88)) (x_5 : Hl (2 * v1.toInt) (2 * v1.toInt + 2) (o0.2.1 88) (o0.2.1 86)) (x_6 : Cn (o0.2.1 59) (o0.2.1 58)) (x_7 : ((o0.2.1 59 v2.toNatClampNeg).toInt = ((o0.2.1 84) (4 * v3.toNatClampNeg + 2)).toInt)) : tt (fM_tryCell v1 v2 v3 o0) (QM_tryCell v1 v2 v3 o0) := by
  have H := hM_tryCell v1 v2 v3 o0 cfFU
  have hm : (2763 : Int) ≤ (cfFU : Nat) := by decide
  have r_o0 : Fr (fr_M [] [88, 89, 90, 98] []) o0 o0 := fr_rfl
  unfold fM_tryCell fM_tryCell_0
  have g_o0_39 : (0 : Int) ≤ (o0.1 39).toInt ∧ (o0.1 39).toInt ≤ 8 := k_o0.1 39
  refine tt_n (ix_ok i_v2 (by decide) (by decide)) ?_
  refine tt_kv (P := fun z => ((0 : Int) ≤ z.toInt ∧ z.toInt ≤ 5) ∧ z = (o0.2.1 59 v2.toNatClampNeg) ∧ z.toInt = (o0.2.1 59 v2.toNatClampNeg).toInt) ⟨(k_o0.2 59 _), rfl, rfl⟩ (fun x1 qi2 => ?_)
  obtain ⟨i2, ax1, ei2⟩ := qi2
  refine tt_if (fun c3 => ?_) (fun c3 => ?_)
  · have wc3 : x1.toInt = (1 : Int) := c_eq c3
    have i4 : (1 : Int) ≤ x1.toInt ∧ x1.toInt ≤ 1 := nr_eql c3 i2 (show (1 : Int) ≤ (1 : Int32).toInt ∧ (1 : Int32).toInt ≤ 1 by decide) (by decide) (by decide)
    try unfold fM_tryCell_30
    refine tt_n (ix_ok (show (1 : Int) ≤ (1 : Int32).toInt ∧ (1 : Int32).toInt ≤ 1 by decide) (by decide) (by decide)) ?_
    refine tt_ko ?_
    have k5 := ok_xp (k := 90) (i := (1 : Int32).toNatClampNeg) (v := v3) k_o0 (iv_w (a := (-2147483648)) (b := 2147483647) (by decide) (by decide) i_v3)
    have r6 := fr_xp (k := 90) (i := (1 : Int32).toNatClampNeg) (v := v3) r_o0 rfl
    have u7 : Mt (upd (o0.2.1 90) ((1 : Int32).toNatClampNeg) v3) := Mt_u x_1 (by intros; have tnn : (1 : Int32).toNatClampNeg = 1 := (by decide); omega)
    have p8 : Mf x1.toInt (o0.2.1 84) (upd (o0.2.1 90) ((1 : Int32).toNatClampNeg) v3) := by exact Mf_1 (by assumption) x_7 (by decide)
    have p9 : (x1.toInt = (o0.2.1 59 v2.toNatClampNeg).toInt) := by assumption
    exact H.1 _ _ _ _ _ _ k5 r6 i_v1 i_v2 (iv_w (a := 0) (b := 3) (by decide) (by decide) i4) (iv_w (a := 1) (b := 27) (by decide) (by decide) (show (1 : Int) ≤ (1 : Int32).toInt ∧ (1 : Int32).toInt ≤ 1 by decide)) (iv_w (a := 0) (b := 30) (by decide) (by decide) (show (0 : Int) ≤ (0 : Int32).toInt ∧ (0 : Int32).toInt ≤ 0 by decide)) f_o0_0 f_o0_38 f_o0_78 f_o0_82 f_o0_95 (show x1.toInt ≤ 3 by omega) u7 x_2 x_3 x_4 x_5 x_6 p8 (show v1.toInt = v1.toInt by omega) (show v2.toInt = v2.toInt by omega) p9 (show 0 + (30 - 0) * 92 < ((cfFU : Nat) : Int) by omega)
  · have wc3 : ¬ x1.toInt = (1 : Int) := c_ne c3
    refine tt_if (fun c10 => ?_) (fun c10 => ?_)
    · have wc10 : x1.toInt = (2 : Int) := c_eq c10
      have i11 : (2 : Int) ≤ x1.toInt ∧ x1.toInt ≤ 2 := nr_eql c10 i2 (show (2 : Int) ≤ (2 : Int32).toInt ∧ (2 : Int32).toInt ≤ 2 by decide) (by decide) (by decide)
      try unfold fM_tryCell_30
      refine tt_n (ix_ok (show (1 : Int) ≤ (1 : Int32).toInt ∧ (1 : Int32).toInt ≤ 1 by decide) (by decide) (by decide)) ?_
      refine tt_ko ?_
      have k12 := ok_xp (k := 90) (i := (1 : Int32).toNatClampNeg) (v := v3) k_o0 (iv_w (a := (-2147483648)) (b := 2147483647) (by decide) (by decide) i_v3)
      have r13 := fr_xp (k := 90) (i := (1 : Int32).toNatClampNeg) (v := v3) r_o0 rfl
      have u14 : Mt (upd (o0.2.1 90) ((1 : Int32).toNatClampNeg) v3) := Mt_u x_1 (by intros; have tnn : (1 : Int32).toNatClampNeg = 1 := (by decide); omega)
      have p15 : Mf x1.toInt (o0.2.1 84) (upd (o0.2.1 90) ((1 : Int32).toNatClampNeg) v3) := by exact Mf_1 (by assumption) x_7 (by decide)
      have p16 : (x1.toInt = (o0.2.1 59 v2.toNatClampNeg).toInt) := by assumption
      exact H.1 _ _ _ _ _ _ k12 r13 i_v1 i_v2 (iv_w (a := 0) (b := 3) (by decide) (by decide) i11) (iv_w (a := 1) (b := 27) (by decide) (by decide) (show (4 : Int) ≤ (4 : Int32).toInt ∧ (4 : Int32).toInt ≤ 4 by decide)) (iv_w (a := 0) (b := 30) (by decide) (by decide) (show (0 : Int) ≤ (0 : Int32).toInt ∧ (0 : Int32).toInt ≤ 0 by decide)) f_o0_0 f_o0_38 f_o0_78 f_o0_82 f_o0_95 (show x1.toInt ≤ 3 by omega) u14 x_2 x_3 x_4 x_5 x_6 p15 (show v1.toInt = v1.toInt by omega) (show v2.toInt = v2.toInt by omega) p16 (show 0 + (30 - 0) * 92 < ((cfFU : Nat) : Int) by omega)
    · have wc10 : ¬ x1.toInt = (2 : Int) := c_ne c10
      try unfold fM_tryCell_30
      refine tt_n (ix_ok (show (1 : Int) ≤ (1 : Int32).toInt ∧ (1 : Int32).toInt ≤ 1 by decide) (by decide) (by decide)) ?_
      refine tt_ko ?_
      have k17 := ok_xp (k := 90) (i := (1 : Int32).toNatClampNeg) (v := v3) k_o0 (iv_w (a := (-2147483648)) (b := 2147483647) (by decide) (by decide) i_v3)
      have r18 := fr_xp (k := 90) (i := (1 : Int32).toNatClampNeg) (v := v3) r_o0 rfl
      have u19 : Mt (upd (o0.2.1 90) ((1 : Int32).toNatClampNeg) v3) := Mt_u x_1 (by intros; have tnn : (1 : Int32).toNatClampNeg = 1 := (by decide); omega)
      have p20 : Mf x1.toInt (o0.2.1 84) (upd (o0.2.1 90) ((1 : Int32).toNatClampNeg) v3) := by exact Mf_1 (by assumption) x_7 (by decide)
      have p21 : (x1.toInt = (o0.2.1 59 v2.toNatClampNeg).toInt) := by assumption
      exact H.1 _ _ _ _ _ _ k17 r18 i_v1 i_v2 (show (0 : Int) ≤ _ ∧ _ ≤ (3 : Int) by omega) (iv_w (a := 1) (b := 27) (by decide) (by decide) (show (27 : Int) ≤ (27 : Int32).toInt ∧ (27 : Int32).toInt ≤ 27 by decide)) (iv_w (a := 0) (b := 30) (by decide) (by decide) (show (0 : Int) ≤ (0 : Int32).toInt ∧ (0 : Int32).toInt ≤ 0 by decide)) f_o0_0 f_o0_38 f_o0_78 f_o0_82 f_o0_95 (show x1.toInt ≤ 3 by omega) u19 x_2 x_3 x_4 x_5 x_6 p20 (show v1.toInt = v1.toInt by omega) (show v2.toInt = v2.toInt by omega) p21 (show 0 + (30 - 0) * 92 < ((cfFU : Nat) : Int) by omega)
def QM_plainMatches (v1 : Int32) (o0 : cf_O) (r : (cf_O)) : Prop := (okO I_M r) ∧ (Fr (fr_M [] [88, 89, 90, 91, 98] []) o0 r) ∧ (Mt (r.2.1 90)) ∧ (Mt (r.2.1 89)) ∧ (Pl (r.2.1 84) (r.2.1 88) (r.2.1 89) (r.2.1 86)) ∧ (Md (r.1 39).toInt (r.2.1 84) (r.2.1 86) (r.2.1 87) (r.2.1 88)) ∧ (Hl (2 * v1.toInt) (2 * v1.toInt + 2) (r.2.1 88) (r.2.1 86)) ∧ True
def HM_plainMatches (yv1 : Int32) (yo0 : cf_O) (n : Nat) : Prop := (∀ (v1 : Int32) (v2 : Int32) (o0 : cf_O), (okO I_M o0) → (Fr (fr_M [] [88, 89, 90, 91, 98] []) yo0 o0) → ((1 : Int) ≤ v1.toInt ∧ v1.toInt ≤ 208) → ((301 : Int) ≤ v2.toInt ∧ v2.toInt ≤ 63210) → ((0 : Int) ≤ (o0.1 0).toInt ∧ (o0.1 0).toInt ≤ 0) → ((1 : Int) ≤ (o0.1 38).toInt ∧ (o0.1 38).toInt ≤ 1) → ((1 : Int) ≤ (o0.1 78).toInt ∧ (o0.1 78).toInt ≤ 1) → ((0 : Int) ≤ (o0.1 95).toInt ∧ (o0.1 95).toInt ≤ 0) → (v1.toInt ≤ (o0.1 39).toInt + (o0.1 43).toInt) → (Mt (o0.2.1 90)) → (Mt (o0.2.1 89)) → (Fp (o0.2.1 84)) → (Pl (o0.2.1 84) (o0.2.1 88) (o0.2.1 89) (o0.2.1 86)) → (Md (o0.1 39).toInt (o0.2.1 84) (o0.2.1 86) (o0.2.1 87) (o0.2.1 88)) → (Hl (2 * yv1.toInt) (2 * yv1.toInt + 2) (o0.2.1 88) (o0.2.1 86)) → (Cn (o0.2.1 59) (o0.2.1 58)) → (v1.toInt = yv1.toInt) → 0 + (63210 - v2.toInt) * 28 < (n : Int) → tt (gM_plainMatches n 0 v1 v2 0 o0) (QM_plainMatches yv1 yo0)) ∧ (∀ (v1 : Int32) (v2 : Int32) (v3 : Int32) (o0 : cf_O), (okO I_M o0) → (Fr (fr_M [] [88, 89, 90, 91, 98] []) yo0 o0) → ((1 : Int) ≤ v1.toInt ∧ v1.toInt ≤ 208) → ((301 : Int) ≤ v2.toInt ∧ v2.toInt ≤ 63209) → ((0 : Int) ≤ v3.toInt ∧ v3.toInt ≤ 12) → ((0 : Int) ≤ (o0.1 0).toInt ∧ (o0.1 0).toInt ≤ 0) → ((1 : Int) ≤ (o0.1 38).toInt ∧ (o0.1 38).toInt ≤ 1) → ((1 : Int) ≤ (o0.1 78).toInt ∧ (o0.1 78).toInt ≤ 1) → ((0 : Int) ≤ (o0.1 95).toInt ∧ (o0.1 95).toInt ≤ 0) → (v1.toInt ≤ (o0.1 39).toInt + (o0.1 43).toInt) → (Mt (o0.2.1 90)) → (Mt (o0.2.1 89)) → (Fp (o0.2.1 84)) → (Pl (o0.2.1 84) (o0.2.1 88) (o0.2.1 89) (o0.2.1 86)) → (Md (o0.1 39).toInt (o0.2.1 84) (o0.2.1 86) (o0.2.1 87) (o0.2.1 88)) → (Hl (2 * yv1.toInt) (2 * yv1.toInt + 2) (o0.2.1 88) (o0.2.1 86)) → (Cn (o0.2.1 59) (o0.2.1 58)) → (v1.toInt = yv1.toInt) → 0 + (63210 - v2.toInt - 1) * 28 + 1 + (12 - v3.toInt) * 2 < (n : Int) → tt (gM_plainMatches n 1 v1 v2 v3 o0) (QM_plainMatches yv1 yo0))
set_option maxHeartbeats 4000000 in
set_option maxRecDepth 100000 in
theorem tM_plainMatches_30 {yv1 : Int32} {yo0 : cf_O} {n : Nat} (H : HM_plainMatches yv1 yo0 n) (v1 : Int32) (v2 : Int32) (v3 : Int32) (o0 : cf_O) (k_o0 : okO I_M o0) (r_o0 : Fr (fr_M [] [88, 89, 90, 91, 98] []) yo0 o0) (i_v1 : (1 : Int) ≤ v1.toInt ∧ v1.toInt ≤ 208) (i_v2 : (301 : Int) ≤ v2.toInt ∧ v2.toInt ≤ 63209) (i_v3 : (0 : Int) ≤ v3.toInt ∧ v3.toInt ≤ 12) (f_o0_0 : (0 : Int) ≤ (o0.1 0).toInt ∧ (o0.1 0).toInt ≤ 0) (f_o0_38 : (1 : Int) ≤ (o0.1 38).toInt ∧ (o0.1 38).toInt ≤ 1) (f_o0_78 : (1 : Int) ≤ (o0.1 78).toInt ∧ (o0.1 78).toInt ≤ 1) (f_o0_95 : (0 : Int) ≤ (o0.1 95).toInt ∧ (o0.1 95).toInt ≤ 0) (x_0 : v1.toInt ≤ (o0.1 39).toInt + (o0.1 43).toInt) (x_1 : Mt (o0.2.1 90)) (x_2 : Mt (o0.2.1 89)) (x_3 : Fp (o0.2.1 84)) (x_4 : Pl (o0.2.1 84) (o0.2.1 88) (o0.2.1 89) (o0.2.1 86)) (x_5 : Md (o0.1 39).toInt (o0.2.1 84) (o0.2.1 86) (o0.2.1 87) (o0.2.1 88)) (x_6 : Hl (2 * yv1.toInt) (2 * yv1.toInt + 2) (o0.2.1 88) (o0.2.1 86)) (x_7 : Cn (o0.2.1 59) (o0.2.1 58)) (x_8 : v1.toInt = yv1.toInt) (hm : 0 + (63210 - v2.toInt - 1) * 28 + 1 + (12 - v3.toInt) * 2 ≤ (n : Int)) : tt (fM_plainMatches_30 (gM_plainMatches n) v1 v2 v3 o0) (QM_plainMatches yv1 yo0) := by
  unfold fM_plainMatches_30
  have g_o0_39 : (0 : Int) ≤ (o0.1 39).toInt ∧ (o0.1 39).toInt ≤ 8 := k_o0.1 39
  have ey_o0_39 : (o0.1 39).toInt = (yo0.1 39).toInt := congrArg Int32.toInt (r_o0.1 39 rfl)
  have g_o0_43 : (0 : Int) ≤ (o0.1 43).toInt ∧ (o0.1 43).toInt ≤ 200 := k_o0.1 43
  have ey_o0_43 : (o0.1 43).toInt = (yo0.1 43).toInt := congrArg Int32.toInt (r_o0.1 43 rfl)
  refine tt_if (fun c1 => ?_) (fun c1 => ?_)
  · have wc1 : (o0.1 82).toInt ≤ v3.toInt := c_le c1
    refine tt_kv (P := fun z => ((302 : Int) ≤ z.toInt ∧ z.toInt ≤ 63210) ∧ z.toInt = v2.toInt + 1) ⟨iv_add i_v2 (show (1 : Int) ≤ (1 : Int32).toInt ∧ (1 : Int32).toInt ≤ 1 by decide) (by decide) (by decide) (by decide) (by decide), iq_add i_v2 (show (1 : Int) ≤ (1 : Int32).toInt ∧ (1 : Int32).toInt ≤ 1 by decide) (by decide) (by decide)⟩ (fun x2 qi3 => ?_)
    obtain ⟨i3, ei3⟩ := qi3
    exact H.1 _ _ _ k_o0 r_o0 i_v1 (iv_w (a := 301) (b := 63210) (by decide) (by decide) i3) f_o0_0 f_o0_38 f_o0_78 f_o0_95 (show v1.toInt ≤ (o0.1 39).toInt + (o0.1 43).toInt by omega) x_1 x_2 x_3 x_4 x_5 x_6 x_7 (show v1.toInt = yv1.toInt by omega) (show 0 + (63210 - x2.toInt) * 28 < (n : Int) by omega)
  · have wc1 : v3.toInt < (o0.1 82).toInt := c_nle c1
    have i4 : (0 : Int) ≤ v3.toInt ∧ v3.toInt ≤ 11 := nr_nlel c1 i_v3 (k_o0.1 82) (by decide) (by decide)
    have i5 : (1 : Int) ≤ (o0.1 82).toInt ∧ (o0.1 82).toInt ≤ 12 := nr_nler c1 i_v3 (k_o0.1 82) (by decide) (by decide)
    refine tt_kv (P := fun z => ((0 : Int) ≤ z.toInt ∧ z.toInt ≤ 44) ∧ z.toInt = 4 * v3.toInt) ⟨iv_mul (show (4 : Int) ≤ (4 : Int32).toInt ∧ (4 : Int32).toInt ≤ 4 by decide) i4 (by decide) (by decide) (by decide) (by decide) (by decide), iq_mul (show (4 : Int) ≤ (4 : Int32).toInt ∧ (4 : Int32).toInt ≤ 4 by decide) i4 (by decide) (by decide) (by decide) (by decide)⟩ (fun x6 qi7 => ?_)
    obtain ⟨i7, ei7⟩ := qi7
    refine tt_kv (P := fun z => ((2 : Int) ≤ z.toInt ∧ z.toInt ≤ 46) ∧ z.toInt = x6.toInt + 2) ⟨iv_add i7 (show (2 : Int) ≤ (2 : Int32).toInt ∧ (2 : Int32).toInt ≤ 2 by decide) (by decide) (by decide) (by decide) (by decide), iq_add i7 (show (2 : Int) ≤ (2 : Int32).toInt ∧ (2 : Int32).toInt ≤ 2 by decide) (by decide) (by decide)⟩ (fun x8 qi9 => ?_)
    obtain ⟨i9, ei9⟩ := qi9
    refine tt_n (ix_ok i9 (by decide) (by decide)) ?_
    refine tt_kv (P := fun z => (((-2147483648) : Int) ≤ z.toInt ∧ z.toInt ≤ 2147483647) ∧ z.toInt = (o0.2.1 84 x8.toNatClampNeg).toInt) ⟨(k_o0.2 84 _), rfl⟩ (fun x10 qi11 => ?_)
    obtain ⟨i11, ei11⟩ := qi11
    have t12 := tn_n x8
    have t13 := x_3 (x8.toNatClampNeg)
    have i14 : (0 : Int) ≤ x10.toInt ∧ x10.toInt ≤ 3 := by omega
    refine tt_n (ix_ok i_v2 (by decide) (by decide)) ?_
    refine tt_kv (P := fun z => ((0 : Int) ≤ z.toInt ∧ z.toInt ≤ 5) ∧ z.toInt = (o0.2.1 59 v2.toNatClampNeg).toInt) ⟨(k_o0.2 59 _), rfl⟩ (fun x15 qi16 => ?_)
    obtain ⟨i16, ei16⟩ := qi16
    refine tt_if (fun c17 => ?_) (fun c17 => ?_)
    · have wc17 : x10.toInt = x15.toInt := c_eq c17
      have i18 : (0 : Int) ≤ x15.toInt ∧ x15.toInt ≤ 3 := nr_eqr c17 i14 i16 (by decide) (by decide)
      have t19 : (0 : Int) ≤ (o0.2.1 59 v2.toNatClampNeg).toInt ∧ (o0.2.1 59 v2.toNatClampNeg).toInt ≤ 5 := k_o0.2 59 _
      have p20 : Hl (2 * v1.toInt) (2 * v1.toInt + 2) (o0.2.1 88) (o0.2.1 86) := by exact Hl_w (by assumption) (by omega)
      have p21 : ((o0.2.1 59 v2.toNatClampNeg).toInt = ((o0.2.1 84) (4 * v3.toNatClampNeg + 2)).toInt) := by exact Cf_i (by assumption) (by assumption) (by omega) (by omega) (by omega)
      refine tt_b (sM_tryCell _ _ _ _ k_o0 i_v1 i_v2 i4 f_o0_0 f_o0_38 f_o0_78 i5 f_o0_95 (show (o0.2.1 59 v2.toNatClampNeg).toInt ≤ 3 by omega) x_1 x_2 x_4 x_5 p20 x_7 p21) (fun q22 hq22 => ?_)
      obtain ⟨k_q22, n_q22, zq22_0, zq22_1, zq22_2, zq22_3, zq22_4, -⟩ := hq22
      have r_q22 := fr_tr r_o0 n_q22 rfl rfl rfl
      have f_q22_0 : (0 : Int) ≤ (q22.1 0).toInt ∧ (q22.1 0).toInt ≤ 0 := by rw [n_q22.1 0 rfl]; exact f_o0_0
      have f_q22_82 : (1 : Int) ≤ (q22.1 82).toInt ∧ (q22.1 82).toInt ≤ 12 := by rw [n_q22.1 82 rfl]; exact i5
      have f_q22_38 : (1 : Int) ≤ (q22.1 38).toInt ∧ (q22.1 38).toInt ≤ 1 := by rw [n_q22.1 38 rfl]; exact f_o0_38
      have f_q22_78 : (1 : Int) ≤ (q22.1 78).toInt ∧ (q22.1 78).toInt ≤ 1 := by rw [n_q22.1 78 rfl]; exact f_o0_78
      have f_q22_95 : (0 : Int) ≤ (q22.1 95).toInt ∧ (q22.1 95).toInt ≤ 0 := by rw [n_q22.1 95 rfl]; exact f_o0_95
      have e_q22_39 : (q22.1 39).toInt = (o0.1 39).toInt := congrArg Int32.toInt (n_q22.1 39 rfl)
      have g_q22_39 : (0 : Int) ≤ (q22.1 39).toInt ∧ (q22.1 39).toInt ≤ 8 := k_q22.1 39
      have e_q22_43 : (q22.1 43).toInt = (o0.1 43).toInt := congrArg Int32.toInt (n_q22.1 43 rfl)
      have g_q22_43 : (0 : Int) ≤ (q22.1 43).toInt ∧ (q22.1 43).toInt ≤ 200 := k_q22.1 43
      have u23 : Fp (q22.2.1 84) := by rw [n_q22.2.1 84 rfl]; exact x_3
      have u24 : Cn (q22.2.1 59) (q22.2.1 58) := by rw [n_q22.2.1 58 rfl, n_q22.2.1 59 rfl]; exact x_7
      try unfold fM_plainMatches_64
      refine tt_kv (P := fun z => ((1 : Int) ≤ z.toInt ∧ z.toInt ≤ 12) ∧ z.toInt = v3.toInt + 1) ⟨iv_add i4 (show (1 : Int) ≤ (1 : Int32).toInt ∧ (1 : Int32).toInt ≤ 1 by decide) (by decide) (by decide) (by decide) (by decide), iq_add i4 (show (1 : Int) ≤ (1 : Int32).toInt ∧ (1 : Int32).toInt ≤ 1 by decide) (by decide) (by decide)⟩ (fun x25 qi26 => ?_)
      obtain ⟨i26, ei26⟩ := qi26
      have p27 : Hl (2 * yv1.toInt) (2 * yv1.toInt + 2) (q22.2.1 88) (q22.2.1 86) := by exact Hl_w (by assumption) (by omega)
      exact H.2 _ _ _ _ k_q22 r_q22 i_v1 i_v2 (iv_w (a := 0) (b := 12) (by decide) (by decide) i26) f_q22_0 f_q22_38 f_q22_78 f_q22_95 (show v1.toInt ≤ (q22.1 39).toInt + (q22.1 43).toInt by omega) zq22_0 zq22_1 u23 zq22_2 zq22_3 p27 u24 (show v1.toInt = yv1.toInt by omega) (show 0 + (63210 - v2.toInt - 1) * 28 + 1 + (12 - x25.toInt) * 2 < (n : Int) by omega)
    · have wc17 : ¬ x10.toInt = x15.toInt := c_ne c17
      try unfold fM_plainMatches_64
      refine tt_kv (P := fun z => ((1 : Int) ≤ z.toInt ∧ z.toInt ≤ 12) ∧ z.toInt = v3.toInt + 1) ⟨iv_add i4 (show (1 : Int) ≤ (1 : Int32).toInt ∧ (1 : Int32).toInt ≤ 1 by decide) (by decide) (by decide) (by decide) (by decide), iq_add i4 (show (1 : Int) ≤ (1 : Int32).toInt ∧ (1 : Int32).toInt ≤ 1 by decide) (by decide) (by decide)⟩ (fun x28 qi29 => ?_)
      obtain ⟨i29, ei29⟩ := qi29
      exact H.2 _ _ _ _ k_o0 r_o0 i_v1 i_v2 (iv_w (a := 0) (b := 12) (by decide) (by decide) i29) f_o0_0 f_o0_38 f_o0_78 f_o0_95 (show v1.toInt ≤ (o0.1 39).toInt + (o0.1 43).toInt by omega) x_1 x_2 x_3 x_4 x_5 x_6 x_7 (show v1.toInt = yv1.toInt by omega) (show 0 + (63210 - v2.toInt - 1) * 28 + 1 + (12 - x28.toInt) * 2 < (n : Int) by omega)
set_option maxHeartbeats 4000000 in
set_option maxRecDepth 100000 in
theorem tM_plainMatches_6 {yv1 : Int32} {yo0 : cf_O} {n : Nat} (H : HM_plainMatches yv1 yo0 n) (v1 : Int32) (v2 : Int32) (o0 : cf_O) (k_o0 : okO I_M o0) (r_o0 : Fr (fr_M [] [88, 89, 90, 91, 98] []) yo0 o0) (i_v1 : (1 : Int) ≤ v1.toInt ∧ v1.toInt ≤ 208) (i_v2 : (301 : Int) ≤ v2.toInt ∧ v2.toInt ≤ 63210) (f_o0_0 : (0 : Int) ≤ (o0.1 0).toInt ∧ (o0.1 0).toInt ≤ 0) (f_o0_38 : (1 : Int) ≤ (o0.1 38).toInt ∧ (o0.1 38).toInt ≤ 1) (f_o0_78 : (1 : Int) ≤ (o0.1 78).toInt ∧ (o0.1 78).toInt ≤ 1) (f_o0_95 : (0 : Int) ≤ (o0.1 95).toInt ∧ (o0.1 95).toInt ≤ 0) (x_0 : v1.toInt ≤ (o0.1 39).toInt + (o0.1 43).toInt) (x_1 : Mt (o0.2.1 90)) (x_2 : Mt (o0.2.1 89)) (x_3 : Fp (o0.2.1 84)) (x_4 : Pl (o0.2.1 84) (o0.2.1 88) (o0.2.1 89) (o0.2.1 86)) (x_5 : Md (o0.1 39).toInt (o0.2.1 84) (o0.2.1 86) (o0.2.1 87) (o0.2.1 88)) (x_6 : Hl (2 * yv1.toInt) (2 * yv1.toInt + 2) (o0.2.1 88) (o0.2.1 86)) (x_7 : Cn (o0.2.1 59) (o0.2.1 58)) (x_8 : v1.toInt = yv1.toInt) (hm : 0 + (63210 - v2.toInt) * 28 ≤ (n : Int)) : tt (fM_plainMatches_6 (gM_plainMatches n) v1 v2 o0) (QM_plainMatches yv1 yo0) := by
  unfold fM_plainMatches_6
  have g_o0_39 : (0 : Int) ≤ (o0.1 39).toInt ∧ (o0.1 39).toInt ≤ 8 := k_o0.1 39
  have ey_o0_39 : (o0.1 39).toInt = (yo0.1 39).toInt := congrArg Int32.toInt (r_o0.1 39 rfl)
  have g_o0_43 : (0 : Int) ≤ (o0.1 43).toInt ∧ (o0.1 43).toInt ≤ 200 := k_o0.1 43
  have ey_o0_43 : (o0.1 43).toInt = (yo0.1 43).toInt := congrArg Int32.toInt (r_o0.1 43 rfl)
  refine tt_kv (P := fun z => ((301 : Int) ≤ z.toInt ∧ z.toInt ≤ 62608) ∧ z.toInt = 301 * v1.toInt) ⟨iv_mul (show (301 : Int) ≤ (301 : Int32).toInt ∧ (301 : Int32).toInt ≤ 301 by decide) i_v1 (by decide) (by decide) (by decide) (by decide) (by decide), iq_mul (show (301 : Int) ≤ (301 : Int32).toInt ∧ (301 : Int32).toInt ≤ 301 by decide) i_v1 (by decide) (by decide) (by decide) (by decide)⟩ (fun x1 qi2 => ?_)
  obtain ⟨i2, ei2⟩ := qi2
  refine tt_n (ix_ok i_v1 (by decide) (by decide)) ?_
  refine tt_kv (P := fun z => ((0 : Int) ≤ z.toInt ∧ z.toInt ≤ 300) ∧ z.toInt = (o0.2.1 57 v1.toNatClampNeg).toInt) ⟨(k_o0.2 57 _), rfl⟩ (fun x3 qi4 => ?_)
  obtain ⟨i4, ei4⟩ := qi4
  refine tt_kv (P := fun z => ((301 : Int) ≤ z.toInt ∧ z.toInt ≤ 62908) ∧ z.toInt = x1.toInt + x3.toInt) ⟨iv_add i2 i4 (by decide) (by decide) (by decide) (by decide), iq_add i2 i4 (by decide) (by decide)⟩ (fun x5 qi6 => ?_)
  obtain ⟨i6, ei6⟩ := qi6
  refine tt_if (fun c7 => ?_) (fun c7 => ?_)
  · have wc7 : x5.toInt ≤ v2.toInt := c_le c7
    exact tt_some ⟨k_o0, r_o0, x_1, x_2, x_4, x_5, x_6, trivial⟩
  · have wc7 : v2.toInt < x5.toInt := c_nle c7
    have i8 : (301 : Int) ≤ v2.toInt ∧ v2.toInt ≤ 62907 := nr_nlel c7 i_v2 i6 (by decide) (by decide)
    have i9 : (302 : Int) ≤ x5.toInt ∧ x5.toInt ≤ 62908 := nr_nler c7 i_v2 i6 (by decide) (by decide)
    refine tt_b (sM_maskAll _ _ _ k_o0 i_v1 i8 f_o0_0 f_o0_38 f_o0_78 f_o0_95 (show v1.toInt ≤ (o0.1 39).toInt + (o0.1 43).toInt by omega)) (fun q10 hq10 => ?_)
    obtain ⟨k_q10, n_q10, -⟩ := hq10
    have r_q10 := fr_tr r_o0 n_q10 rfl rfl rfl
    have f_q10_0 : (0 : Int) ≤ (q10.1 0).toInt ∧ (q10.1 0).toInt ≤ 0 := by rw [n_q10.1 0 rfl]; exact f_o0_0
    have f_q10_78 : (1 : Int) ≤ (q10.1 78).toInt ∧ (q10.1 78).toInt ≤ 1 := by rw [n_q10.1 78 rfl]; exact f_o0_78
    have f_q10_38 : (1 : Int) ≤ (q10.1 38).toInt ∧ (q10.1 38).toInt ≤ 1 := by rw [n_q10.1 38 rfl]; exact f_o0_38
    have f_q10_95 : (0 : Int) ≤ (q10.1 95).toInt ∧ (q10.1 95).toInt ≤ 0 := by rw [n_q10.1 95 rfl]; exact f_o0_95
    have e_q10_39 : (q10.1 39).toInt = (o0.1 39).toInt := congrArg Int32.toInt (n_q10.1 39 rfl)
    have g_q10_39 : (0 : Int) ≤ (q10.1 39).toInt ∧ (q10.1 39).toInt ≤ 8 := k_q10.1 39
    have e_q10_43 : (q10.1 43).toInt = (o0.1 43).toInt := congrArg Int32.toInt (n_q10.1 43 rfl)
    have g_q10_43 : (0 : Int) ≤ (q10.1 43).toInt ∧ (q10.1 43).toInt ≤ 200 := k_q10.1 43
    have u11 : Mt (q10.2.1 90) := by rw [n_q10.2.1 90 rfl]; exact x_1
    have u12 : Mt (q10.2.1 89) := by rw [n_q10.2.1 89 rfl]; exact x_2
    have u13 : Fp (q10.2.1 84) := by rw [n_q10.2.1 84 rfl]; exact x_3
    have u14 : Pl (q10.2.1 84) (q10.2.1 88) (q10.2.1 89) (q10.2.1 86) := by rw [n_q10.2.1 84 rfl, n_q10.2.1 86 rfl, n_q10.2.1 88 rfl, n_q10.2.1 89 rfl]; exact x_4
    have u15 : Md (q10.1 39).toInt (q10.2.1 84) (q10.2.1 86) (q10.2.1 87) (q10.2.1 88) := by rw [n_q10.1 39 rfl, n_q10.2.1 84 rfl, n_q10.2.1 86 rfl, n_q10.2.1 87 rfl, n_q10.2.1 88 rfl]; exact x_5
    have u16 : Hl (2 * yv1.toInt) (2 * yv1.toInt + 2) (q10.2.1 88) (q10.2.1 86) := by rw [n_q10.2.1 86 rfl, n_q10.2.1 88 rfl]; exact x_6
    have u17 : Cn (q10.2.1 59) (q10.2.1 58) := by rw [n_q10.2.1 58 rfl, n_q10.2.1 59 rfl]; exact x_7
    exact H.2 _ _ _ _ k_q10 r_q10 i_v1 (iv_w (a := 301) (b := 63209) (by decide) (by decide) i8) (iv_w (a := 0) (b := 12) (by decide) (by decide) (show (0 : Int) ≤ (0 : Int32).toInt ∧ (0 : Int32).toInt ≤ 0 by decide)) f_q10_0 f_q10_38 f_q10_78 f_q10_95 (show v1.toInt ≤ (q10.1 39).toInt + (q10.1 43).toInt by omega) u11 u12 u13 u14 u15 u16 u17 (show v1.toInt = yv1.toInt by omega) (show 0 + (63210 - v2.toInt - 1) * 28 + 1 + (12 - 0) * 2 < (n : Int) by omega)
set_option maxHeartbeats 4000000 in
set_option maxRecDepth 100000 in
theorem hM_plainMatches (yv1 : Int32) (yo0 : cf_O) : ∀ n, HM_plainMatches yv1 yo0 n := by
  intro n
  induction n with
  | zero => exact ⟨(fun v1 v2 o0 k_o0 r_o0 i_v1 i_v2 f_o0_0 f_o0_38 f_o0_78 f_o0_95 x_0 x_1 x_2 x_3 x_4 x_5 x_6 x_7 x_8 hm => by exact absurd (show 0 + (63210 - v2.toInt) * 28 < (0 : Int) from hm) (by omega)), (fun v1 v2 v3 o0 k_o0 r_o0 i_v1 i_v2 i_v3 f_o0_0 f_o0_38 f_o0_78 f_o0_95 x_0 x_1 x_2 x_3 x_4 x_5 x_6 x_7 x_8 hm => by exact absurd (show 0 + (63210 - v2.toInt - 1) * 28 + 1 + (12 - v3.toInt) * 2 < (0 : Int) from hm) (by omega))⟩
  | succ n ih => exact ⟨(fun v1 v2 o0 k_o0 r_o0 i_v1 i_v2 f_o0_0 f_o0_38 f_o0_78 f_o0_95 x_0 x_1 x_2 x_3 x_4 x_5 x_6 x_7 x_8 hm => tM_plainMatches_6 ih v1 v2 o0 k_o0 r_o0 i_v1 i_v2 f_o0_0 f_o0_38 f_o0_78 f_o0_95 x_0 x_1 x_2 x_3 x_4 x_5 x_6 x_7 x_8 (by omega)), (fun v1 v2 v3 o0 k_o0 r_o0 i_v1 i_v2 i_v3 f_o0_0 f_o0_38 f_o0_78 f_o0_95 x_0 x_1 x_2 x_3 x_4 x_5 x_6 x_7 x_8 hm => tM_plainMatches_30 ih v1 v2 v3 o0 k_o0 r_o0 i_v1 i_v2 i_v3 f_o0_0 f_o0_38 f_o0_78 f_o0_95 x_0 x_1 x_2 x_3 x_4 x_5 x_6 x_7 x_8 (by omega))⟩
set_option maxHeartbeats 4000000 in
set_option maxRecDepth 100000 in
theorem sM_plainMatches (v1 : Int32) (o0 : cf_O) (k_o0 : okO I_M o0) (i_v1 : (1 : Int) ≤ v1.toInt ∧ v1.toInt ≤ 208) (f_o0_0 : (0 : Int) ≤ (o0.1 0).toInt ∧ (o0.1 0).toInt ≤ 0) (f_o0_38 : (1 : Int) ≤ (o0.1 38).toInt ∧ (o0.1 38).toInt ≤ 1) (f_o0_78 : (1 : Int) ≤ (o0.1 78).toInt ∧ (o0.1 78).toInt ≤ 1) (f_o0_95 : (0 : Int) ≤ (o0.1 95).toInt ∧ (o0.1 95).toInt ≤ 0) (x_0 : v1.toInt ≤ (o0.1 39).toInt + (o0.1 43).toInt) (x_1 : Mt (o0.2.1 90)) (x_2 : Mt (o0.2.1 89)) (x_3 : Fp (o0.2.1 84)) (x_4 : Pl (o0.2.1 84) (o0.2.1 88) (o0.2.1 89) (o0.2.1 86)) (x_5 : Md (o0.1 39).toInt (o0.2.1 84) (o0.2.1 86) (o0.2.1 87) (o0.2.1 88)) (x_6 : Hl (2 * v1.toInt) (2 * v1.toInt + 2) (o0.2.1 88) (o0.2.1 86)) (x_7 : Cn (o0.2.1 59) (o0.2.1 58)) : tt (fM_plainMatches v1 o0) (QM_plainMatches v1 o0) := by
  have H := hM_plainMatches v1 o0 cfFU
  have hm : (1761455 : Int) ≤ (cfFU : Nat) := by decide
  have r_o0 : Fr (fr_M [] [88, 89, 90, 91, 98] []) o0 o0 := fr_rfl
  unfold fM_plainMatches fM_plainMatches_0
  have g_o0_39 : (0 : Int) ≤ (o0.1 39).toInt ∧ (o0.1 39).toInt ≤ 8 := k_o0.1 39
  have g_o0_43 : (0 : Int) ≤ (o0.1 43).toInt ∧ (o0.1 43).toInt ≤ 200 := k_o0.1 43
  refine tt_kv (P := fun z => ((301 : Int) ≤ z.toInt ∧ z.toInt ≤ 62608) ∧ z.toInt = 301 * v1.toInt) ⟨iv_mul (show (301 : Int) ≤ (301 : Int32).toInt ∧ (301 : Int32).toInt ≤ 301 by decide) i_v1 (by decide) (by decide) (by decide) (by decide) (by decide), iq_mul (show (301 : Int) ≤ (301 : Int32).toInt ∧ (301 : Int32).toInt ≤ 301 by decide) i_v1 (by decide) (by decide) (by decide) (by decide)⟩ (fun x1 qi2 => ?_)
  obtain ⟨i2, ei2⟩ := qi2
  exact H.1 _ _ _ k_o0 r_o0 i_v1 (iv_w (a := 301) (b := 63210) (by decide) (by decide) i2) f_o0_0 f_o0_38 f_o0_78 f_o0_95 (show v1.toInt ≤ (o0.1 39).toInt + (o0.1 43).toInt by omega) x_1 x_2 x_3 x_4 x_5 x_6 x_7 (show v1.toInt = v1.toInt by omega) (show 0 + (63210 - x1.toInt) * 28 < ((cfFU : Nat) : Int) by omega)
def QM_keepMatch_M87 (v2 : Int32) (o0 : cf_O) (r : (cf_O)) : Prop := (okO I_M r) ∧ (Fr (fr_M [] [87] []) o0 r) ∧ (Mt (r.2.1 87)) ∧ (Km v2.toInt 5 (r.2.1 90) (o0.2.1 87) (r.2.1 87)) ∧ True
def HM_keepMatch_M87 (yv2 : Int32) (yo0 : cf_O) (n : Nat) : Prop := (∀ (v2 : Int32) (v3 : Int32) (o0 : cf_O), (okO I_M o0) → (Fr (fr_M [] [87] []) yo0 o0) → ((10 : Int) ≤ v2.toInt ∧ v2.toInt ≤ 2095) → ((0 : Int) ≤ v3.toInt ∧ v3.toInt ≤ 5) → ((0 : Int) ≤ (o0.1 0).toInt ∧ (o0.1 0).toInt ≤ 0) → ((1 : Int) ≤ (o0.1 38).toInt ∧ (o0.1 38).toInt ≤ 1) → ((1 : Int) ≤ (o0.1 78).toInt ∧ (o0.1 78).toInt ≤ 1) → ((1 : Int) ≤ (o0.1 82).toInt ∧ (o0.1 82).toInt ≤ 12) → ((0 : Int) ≤ (o0.1 95).toInt ∧ (o0.1 95).toInt ≤ 0) → (Mt (o0.2.1 87)) → (Mt (o0.2.1 90)) → (v2.toInt % 5 = 0) → (Km v2.toInt v3.toInt (o0.2.1 90) (yo0.2.1 87) (o0.2.1 87)) → (v2.toInt = yv2.toInt) → 0 + (5 - v3.toInt) * 2 < (n : Int) → tt (gM_keepMatch_M87 n 0 v2 v3 o0) (QM_keepMatch_M87 yv2 yo0))
set_option maxHeartbeats 4000000 in
set_option maxRecDepth 100000 in
theorem tM_keepMatch_M87_2 {yv2 : Int32} {yo0 : cf_O} {n : Nat} (H : HM_keepMatch_M87 yv2 yo0 n) (v2 : Int32) (v3 : Int32) (o0 : cf_O) (k_o0 : okO I_M o0) (r_o0 : Fr (fr_M [] [87] []) yo0 o0) (i_v2 : (10 : Int) ≤ v2.toInt ∧ v2.toInt ≤ 2095) (i_v3 : (0 : Int) ≤ v3.toInt ∧ v3.toInt ≤ 5) (f_o0_0 : (0 : Int) ≤ (o0.1 0).toInt ∧ (o0.1 0).toInt ≤ 0) (f_o0_38 : (1 : Int) ≤ (o0.1 38).toInt ∧ (o0.1 38).toInt ≤ 1) (f_o0_78 : (1 : Int) ≤ (o0.1 78).toInt ∧ (o0.1 78).toInt ≤ 1) (f_o0_82 : (1 : Int) ≤ (o0.1 82).toInt ∧ (o0.1 82).toInt ≤ 12) (f_o0_95 : (0 : Int) ≤ (o0.1 95).toInt ∧ (o0.1 95).toInt ≤ 0) (x_0 : Mt (o0.2.1 87)) (x_1 : Mt (o0.2.1 90)) (x_2 : v2.toInt % 5 = 0) (x_3 : Km v2.toInt v3.toInt (o0.2.1 90) (yo0.2.1 87) (o0.2.1 87)) (x_4 : v2.toInt = yv2.toInt) (hm : 0 + (5 - v3.toInt) * 2 ≤ (n : Int)) : tt (fM_keepMatch_M87_2 (gM_keepMatch_M87 n) v2 v3 o0) (QM_keepMatch_M87 yv2 yo0) := by
  unfold fM_keepMatch_M87_2
  refine tt_if (fun c1 => ?_) (fun c1 => ?_)
  · have wc1 : (5 : Int) ≤ v3.toInt := c_le c1
    have i2 : (5 : Int) ≤ v3.toInt ∧ v3.toInt ≤ 5 := nr_ler c1 (show (5 : Int) ≤ (5 : Int32).toInt ∧ (5 : Int32).toInt ≤ 5 by decide) i_v3 (by decide) (by decide)
    have p3 : Km yv2.toInt 5 (o0.2.1 90) (yo0.2.1 87) (o0.2.1 87) := by exact Km_e x_3 (by omega) (by omega) (by omega)
    exact tt_some ⟨k_o0, r_o0, x_0, p3, trivial⟩
  · have wc1 : v3.toInt < (5 : Int) := c_nle c1
    have i4 : (0 : Int) ≤ v3.toInt ∧ v3.toInt ≤ 4 := nr_nlel c1 i_v3 (show (5 : Int) ≤ (5 : Int32).toInt ∧ (5 : Int32).toInt ≤ 5 by decide) (by decide) (by decide)
    refine tt_kv (P := fun z => ((10 : Int) ≤ z.toInt ∧ z.toInt ≤ 2099) ∧ z.toInt = v2.toInt + v3.toInt) ⟨iv_add i_v2 i4 (by decide) (by decide) (by decide) (by decide), iq_add i_v2 i4 (by decide) (by decide)⟩ (fun x5 qi6 => ?_)
    obtain ⟨i6, ei6⟩ := qi6
    refine tt_n (ix_ok i4 (by decide) (by decide)) ?_
    refine tt_kv (P := fun z => (((-2147483648) : Int) ≤ z.toInt ∧ z.toInt ≤ 2147483647) ∧ z.toInt = (o0.2.1 90 v3.toNatClampNeg).toInt) ⟨(k_o0.2 90 _), rfl⟩ (fun x7 qi8 => ?_)
    obtain ⟨i8, ei8⟩ := qi8
    have t9 := tn_n v3
    have t10 := x_1 (v3.toNatClampNeg)
    refine tt_n (ix_ok i6 (by decide) (by decide)) ?_
    refine tt_ko ?_
    have k11 := ok_xp (k := 87) (i := x5.toNatClampNeg) (v := x7) k_o0 i8
    have r12 := fr_xp (k := 87) (i := x5.toNatClampNeg) (v := x7) r_o0 rfl
    have u13 : Mt (upd (o0.2.1 87) (x5.toNatClampNeg) x7) := Mt_u x_0 (by intros; have tnn := tn_n x5; omega)
    refine tt_kv (P := fun z => ((1 : Int) ≤ z.toInt ∧ z.toInt ≤ 5) ∧ z.toInt = v3.toInt + 1) ⟨iv_add i4 (show (1 : Int) ≤ (1 : Int32).toInt ∧ (1 : Int32).toInt ≤ 1 by decide) (by decide) (by decide) (by decide) (by decide), iq_add i4 (show (1 : Int) ≤ (1 : Int32).toInt ∧ (1 : Int32).toInt ≤ 1 by decide) (by decide) (by decide)⟩ (fun x14 qi15 => ?_)
    obtain ⟨i15, ei15⟩ := qi15
    have p16 : Km v2.toInt x14.toInt (o0.2.1 90) (yo0.2.1 87) (upd (o0.2.1 87) (x5.toNatClampNeg) x7) := by exact Km_s x_3 (by omega) (by omega) (by omega) (by rw [tn_n]; omega) (n := v3.toNatClampNeg) (by rw [tn_n]; omega) (i_eq (by assumption))
    exact H _ _ _ k11 r12 i_v2 (iv_w (a := 0) (b := 5) (by decide) (by decide) i15) f_o0_0 f_o0_38 f_o0_78 f_o0_82 f_o0_95 u13 x_1 (show v2.toInt % 5 = 0 by omega) p16 (show v2.toInt = yv2.toInt by omega) (show 0 + (5 - x14.toInt) * 2 < (n : Int) by omega)
set_option maxHeartbeats 4000000 in
set_option maxRecDepth 100000 in
theorem hM_keepMatch_M87 (yv2 : Int32) (yo0 : cf_O) : ∀ n, HM_keepMatch_M87 yv2 yo0 n := by
  intro n
  induction n with
  | zero => exact (fun v2 v3 o0 k_o0 r_o0 i_v2 i_v3 f_o0_0 f_o0_38 f_o0_78 f_o0_82 f_o0_95 x_0 x_1 x_2 x_3 x_4 hm => by exact absurd (show 0 + (5 - v3.toInt) * 2 < (0 : Int) from hm) (by omega))
  | succ n ih => exact (fun v2 v3 o0 k_o0 r_o0 i_v2 i_v3 f_o0_0 f_o0_38 f_o0_78 f_o0_82 f_o0_95 x_0 x_1 x_2 x_3 x_4 hm => tM_keepMatch_M87_2 ih v2 v3 o0 k_o0 r_o0 i_v2 i_v3 f_o0_0 f_o0_38 f_o0_78 f_o0_82 f_o0_95 x_0 x_1 x_2 x_3 x_4 (by omega))
set_option maxHeartbeats 4000000 in
set_option maxRecDepth 100000 in
theorem sM_keepMatch_M87 (v2 : Int32) (o0 : cf_O) (k_o0 : okO I_M o0) (i_v2 : (10 : Int) ≤ v2.toInt ∧ v2.toInt ≤ 2085) (f_o0_0 : (0 : Int) ≤ (o0.1 0).toInt ∧ (o0.1 0).toInt ≤ 0) (f_o0_38 : (1 : Int) ≤ (o0.1 38).toInt ∧ (o0.1 38).toInt ≤ 1) (f_o0_78 : (1 : Int) ≤ (o0.1 78).toInt ∧ (o0.1 78).toInt ≤ 1) (f_o0_82 : (1 : Int) ≤ (o0.1 82).toInt ∧ (o0.1 82).toInt ≤ 12) (f_o0_95 : (0 : Int) ≤ (o0.1 95).toInt ∧ (o0.1 95).toInt ≤ 0) (x_0 : Mt (o0.2.1 87)) (x_1 : Mt (o0.2.1 90)) (x_2 : v2.toInt % 5 = 0) : tt (fM_keepMatch_M87 v2 o0) (QM_keepMatch_M87 v2 o0) := by
  have H := hM_keepMatch_M87 v2 o0 cfFU
  have hm : (13 : Int) ≤ (cfFU : Nat) := by decide
  have r_o0 : Fr (fr_M [] [87] []) o0 o0 := fr_rfl
  unfold fM_keepMatch_M87 fM_keepMatch_M87_0
  have p1 : Km v2.toInt 0 (o0.2.1 90) (o0.2.1 87) (o0.2.1 87) := by exact Km_0 _ _ _
  exact H _ _ _ k_o0 r_o0 (iv_w (a := 10) (b := 2095) (by decide) (by decide) i_v2) (iv_w (a := 0) (b := 5) (by decide) (by decide) (show (0 : Int) ≤ (0 : Int32).toInt ∧ (0 : Int32).toInt ≤ 0 by decide)) f_o0_0 f_o0_38 f_o0_78 f_o0_82 f_o0_95 x_0 x_1 (show v2.toInt % 5 = 0 by omega) p1 (show v2.toInt = v2.toInt by omega) (show 0 + (5 - 0) * 2 < ((cfFU : Nat) : Int) by omega)
def QM_make (v1 : Int32) (o0 : cf_O) (r : (cf_O)) : Prop := (okO I_M r) ∧ (Fr (fr_M [] [86, 87, 90] []) o0 r) ∧ (Mt (r.2.1 87)) ∧ (Mt (r.2.1 90)) ∧ (Pl (r.2.1 84) (r.2.1 88) (r.2.1 89) (r.2.1 86)) ∧ (Md (r.1 39).toInt (r.2.1 84) (r.2.1 86) (r.2.1 87) (r.2.1 88)) ∧ (Fu (v1.toInt + 1) (r.1 39).toInt (r.2.1 86)) ∧ (Hl (v1.toInt + 1) (v1.toInt / 2 * 2 + 2) (r.2.1 88) (r.2.1 86)) ∧ True
def HM_make (yv1 : Int32) (yo0 : cf_O) (n : Nat) : Prop := (∀ (v1 : Int32) (v2 : Int32) (o0 : cf_O), (okO I_M o0) → (Fr (fr_M [] [86, 87, 90] []) yo0 o0) → ((2 : Int) ≤ v1.toInt ∧ v1.toInt ≤ 417) → ((0 : Int) ≤ v2.toInt ∧ v2.toInt ≤ 5) → ((0 : Int) ≤ (o0.1 0).toInt ∧ (o0.1 0).toInt ≤ 0) → ((1 : Int) ≤ (o0.1 38).toInt ∧ (o0.1 38).toInt ≤ 1) → ((1 : Int) ≤ (o0.1 78).toInt ∧ (o0.1 78).toInt ≤ 1) → ((0 : Int) ≤ (o0.1 95).toInt ∧ (o0.1 95).toInt ≤ 0) → (Mt (o0.2.1 87)) → (Mt (o0.2.1 89)) → (Mt (o0.2.1 90)) → (Pl (o0.2.1 84) (o0.2.1 88) (o0.2.1 89) (o0.2.1 86)) → (Mc v1.toInt v2.toInt (o0.1 39).toInt (o0.2.1 84) (o0.2.1 86) (o0.2.1 87) (o0.2.1 88) (o0.2.1 89)) → (Fu (yv1.toInt + 1) (o0.1 39).toInt (o0.2.1 86)) → (Hl (yv1.toInt + 1) (yv1.toInt / 2 * 2 + 2) (o0.2.1 88) (o0.2.1 86)) → (v1.toInt = yv1.toInt) → (2 ≤ v1.toInt) → (v1.toInt ≤ 417) → 26 + (5 - v2.toInt) * 2 < (n : Int) → tt (gM_make n 0 v1 v2 0 0 0 o0) (QM_make yv1 yo0)) ∧ (∀ (v1 : Int32) (v3 : Int32) (v4 : Int32) (v5 : Int32) (o0 : cf_O), (okO I_M o0) → (Fr (fr_M [] [86, 87, 90] []) yo0 o0) → ((2 : Int) ≤ v1.toInt ∧ v1.toInt ≤ 417) → ((0 : Int) ≤ v3.toInt ∧ v3.toInt ≤ 1) → ((0 : Int) ≤ v5.toInt ∧ v5.toInt ≤ 12) → ((0 : Int) ≤ (o0.1 0).toInt ∧ (o0.1 0).toInt ≤ 0) → ((1 : Int) ≤ (o0.1 38).toInt ∧ (o0.1 38).toInt ≤ 1) → ((1 : Int) ≤ (o0.1 78).toInt ∧ (o0.1 78).toInt ≤ 1) → ((0 : Int) ≤ (o0.1 95).toInt ∧ (o0.1 95).toInt ≤ 0) → (Mt (o0.2.1 87)) → (Mt (o0.2.1 89)) → (Mt (o0.2.1 90)) → (Pl (o0.2.1 84) (o0.2.1 88) (o0.2.1 89) (o0.2.1 86)) → (Md (o0.1 39).toInt (o0.2.1 84) (o0.2.1 86) (o0.2.1 87) (o0.2.1 88)) → (Fu (yv1.toInt + 1) (o0.1 39).toInt (o0.2.1 86)) → (Hl (yv1.toInt + 1) (yv1.toInt / 2 * 2 + 2) (o0.2.1 88) (o0.2.1 86)) → (v1.toInt = yv1.toInt) → (2 ≤ v1.toInt) → (v1.toInt ≤ 417) → (Cm v3.toInt v1.toInt (o0.1 39).toInt (o0.2.1 88)) → 0 + (12 - v5.toInt) * 2 < (n : Int) → tt (gM_make n 1 v1 0 v3 v4 v5 o0) (QM_make yv1 yo0))
set_option maxHeartbeats 4000000 in
set_option maxRecDepth 100000 in
theorem tM_make_106 {yv1 : Int32} {yo0 : cf_O} {n : Nat} (H : HM_make yv1 yo0 n) (v1 : Int32) (v3 : Int32) (v4 : Int32) (v5 : Int32) (o0 : cf_O) (k_o0 : okO I_M o0) (r_o0 : Fr (fr_M [] [86, 87, 90] []) yo0 o0) (i_v1 : (2 : Int) ≤ v1.toInt ∧ v1.toInt ≤ 417) (i_v3 : (0 : Int) ≤ v3.toInt ∧ v3.toInt ≤ 1) (i_v5 : (0 : Int) ≤ v5.toInt ∧ v5.toInt ≤ 12) (f_o0_0 : (0 : Int) ≤ (o0.1 0).toInt ∧ (o0.1 0).toInt ≤ 0) (f_o0_38 : (1 : Int) ≤ (o0.1 38).toInt ∧ (o0.1 38).toInt ≤ 1) (f_o0_78 : (1 : Int) ≤ (o0.1 78).toInt ∧ (o0.1 78).toInt ≤ 1) (f_o0_95 : (0 : Int) ≤ (o0.1 95).toInt ∧ (o0.1 95).toInt ≤ 0) (x_0 : Mt (o0.2.1 87)) (x_1 : Mt (o0.2.1 89)) (x_2 : Mt (o0.2.1 90)) (x_3 : Pl (o0.2.1 84) (o0.2.1 88) (o0.2.1 89) (o0.2.1 86)) (x_4 : Md (o0.1 39).toInt (o0.2.1 84) (o0.2.1 86) (o0.2.1 87) (o0.2.1 88)) (x_5 : Fu (yv1.toInt + 1) (o0.1 39).toInt (o0.2.1 86)) (x_6 : Hl (yv1.toInt + 1) (yv1.toInt / 2 * 2 + 2) (o0.2.1 88) (o0.2.1 86)) (x_7 : v1.toInt = yv1.toInt) (x_8 : 2 ≤ v1.toInt) (x_9 : v1.toInt ≤ 417) (x_10 : Cm v3.toInt v1.toInt (o0.1 39).toInt (o0.2.1 88)) (hm : 0 + (12 - v5.toInt) * 2 ≤ (n : Int)) : tt (fM_make_106 (gM_make n) v1 v3 v4 v5 o0) (QM_make yv1 yo0) := by
  unfold fM_make_106
  have i_v4 := iv_top v4
  have g_o0_39 : (0 : Int) ≤ (o0.1 39).toInt ∧ (o0.1 39).toInt ≤ 8 := k_o0.1 39
  have ey_o0_39 : (o0.1 39).toInt = (yo0.1 39).toInt := congrArg Int32.toInt (r_o0.1 39 rfl)
  refine tt_if (fun c1 => ?_) (fun c1 => ?_)
  · have wc1 : (o0.1 82).toInt ≤ v5.toInt := c_le c1
    try unfold fM_make_308
    exact tt_some ⟨k_o0, r_o0, x_0, x_2, x_3, x_4, x_5, x_6, trivial⟩
  · have wc1 : v5.toInt < (o0.1 82).toInt := c_nle c1
    have i2 : (0 : Int) ≤ v5.toInt ∧ v5.toInt ≤ 11 := nr_nlel c1 i_v5 (k_o0.1 82) (by decide) (by decide)
    have i3 : (1 : Int) ≤ (o0.1 82).toInt ∧ (o0.1 82).toInt ≤ 12 := nr_nler c1 i_v5 (k_o0.1 82) (by decide) (by decide)
    refine tt_if (fun c4 => ?_) (fun c4 => ?_)
    · have wc4 : v3.toInt = (0 : Int) := c_eq c4
      have i5 : (0 : Int) ≤ v3.toInt ∧ v3.toInt ≤ 0 := nr_eql c4 i_v3 (show (0 : Int) ≤ (0 : Int32).toInt ∧ (0 : Int32).toInt ≤ 0 by decide) (by decide) (by decide)
      try unfold fM_make_308
      exact tt_some ⟨k_o0, r_o0, x_0, x_2, x_3, x_4, x_5, x_6, trivial⟩
    · have wc4 : ¬ v3.toInt = (0 : Int) := c_ne c4
      have i6 : (1 : Int) ≤ v3.toInt ∧ v3.toInt ≤ 1 := nr_nela c4 i_v3 (show (0 : Int) ≤ (0 : Int32).toInt ∧ (0 : Int32).toInt ≤ 0 by decide) (by decide) (by decide)
      refine tt_kv (P := fun z => ((0 : Int) ≤ z.toInt ∧ z.toInt ≤ 44) ∧ z.toInt = 4 * v5.toInt) ⟨iv_mul (show (4 : Int) ≤ (4 : Int32).toInt ∧ (4 : Int32).toInt ≤ 4 by decide) i2 (by decide) (by decide) (by decide) (by decide) (by decide), iq_mul (show (4 : Int) ≤ (4 : Int32).toInt ∧ (4 : Int32).toInt ≤ 4 by decide) i2 (by decide) (by decide) (by decide) (by decide)⟩ (fun x7 qi8 => ?_)
      obtain ⟨i8, ei8⟩ := qi8
      refine tt_kv (P := fun z => ((2 : Int) ≤ z.toInt ∧ z.toInt ≤ 46) ∧ z.toInt = x7.toInt + 2) ⟨iv_add i8 (show (2 : Int) ≤ (2 : Int32).toInt ∧ (2 : Int32).toInt ≤ 2 by decide) (by decide) (by decide) (by decide) (by decide), iq_add i8 (show (2 : Int) ≤ (2 : Int32).toInt ∧ (2 : Int32).toInt ≤ 2 by decide) (by decide) (by decide)⟩ (fun x9 qi10 => ?_)
      obtain ⟨i10, ei10⟩ := qi10
      refine tt_n (ix_ok i10 (by decide) (by decide)) ?_
      refine tt_kv (P := fun z => (((-2147483648) : Int) ≤ z.toInt ∧ z.toInt ≤ 2147483647) ∧ z.toInt = (o0.2.1 84 x9.toNatClampNeg).toInt) ⟨(k_o0.2 84 _), rfl⟩ (fun x11 qi12 => ?_)
      obtain ⟨i12, ei12⟩ := qi12
      have pin84 : x11.toInt = (o0.2.1 84 (4 * v5.toNatClampNeg + 2)).toInt := Cf_0 ei12 (by omega) (by omega)
      refine tt_if (fun c13 => ?_) (fun c13 => ?_)
      · have wc13 : x11.toInt = (1 : Int) := c_eq c13
        have i14 : (1 : Int) ≤ x11.toInt ∧ x11.toInt ≤ 1 := nr_eql c13 i12 (show (1 : Int) ≤ (1 : Int32).toInt ∧ (1 : Int32).toInt ≤ 1 by decide) (by decide) (by decide)
        refine tt_kv (P := fun z => ((0 : Int) ≤ z.toInt ∧ z.toInt ≤ 44) ∧ z.toInt = 4 * v5.toInt) ⟨iv_mul (show (4 : Int) ≤ (4 : Int32).toInt ∧ (4 : Int32).toInt ≤ 4 by decide) i2 (by decide) (by decide) (by decide) (by decide) (by decide), iq_mul (show (4 : Int) ≤ (4 : Int32).toInt ∧ (4 : Int32).toInt ≤ 4 by decide) i2 (by decide) (by decide) (by decide) (by decide)⟩ (fun x15 qi16 => ?_)
        obtain ⟨i16, ei16⟩ := qi16
        refine tt_kv (P := fun z => ((3 : Int) ≤ z.toInt ∧ z.toInt ≤ 47) ∧ z.toInt = x15.toInt + 3) ⟨iv_add i16 (show (3 : Int) ≤ (3 : Int32).toInt ∧ (3 : Int32).toInt ≤ 3 by decide) (by decide) (by decide) (by decide) (by decide), iq_add i16 (show (3 : Int) ≤ (3 : Int32).toInt ∧ (3 : Int32).toInt ≤ 3 by decide) (by decide) (by decide)⟩ (fun x17 qi18 => ?_)
        obtain ⟨i18, ei18⟩ := qi18
        refine tt_n (ix_ok i18 (by decide) (by decide)) ?_
        refine tt_kv (P := fun z => (((-2147483648) : Int) ≤ z.toInt ∧ z.toInt ≤ 2147483647) ∧ z.toInt = (o0.2.1 84 x17.toNatClampNeg).toInt) ⟨(k_o0.2 84 _), rfl⟩ (fun x19 qi20 => ?_)
        obtain ⟨i20, ei20⟩ := qi20
        refine tt_if (fun c21 => ?_) (fun c21 => ?_)
        · have wc21 : x19.toInt = (1 : Int) := c_eq c21
          have i22 : (1 : Int) ≤ x19.toInt ∧ x19.toInt ≤ 1 := nr_eql c21 i20 (show (1 : Int) ≤ (1 : Int32).toInt ∧ (1 : Int32).toInt ≤ 1 by decide) (by decide) (by decide)
          refine tt_kv (P := fun z => ((0 : Int) ≤ z.toInt ∧ z.toInt ≤ 44) ∧ z.toInt = 4 * v5.toInt) ⟨iv_mul (show (4 : Int) ≤ (4 : Int32).toInt ∧ (4 : Int32).toInt ≤ 4 by decide) i2 (by decide) (by decide) (by decide) (by decide) (by decide), iq_mul (show (4 : Int) ≤ (4 : Int32).toInt ∧ (4 : Int32).toInt ≤ 4 by decide) i2 (by decide) (by decide) (by decide) (by decide)⟩ (fun x23 qi24 => ?_)
          obtain ⟨i24, ei24⟩ := qi24
          refine tt_kv (P := fun z => ((1 : Int) ≤ z.toInt ∧ z.toInt ≤ 45) ∧ z.toInt = x23.toInt + 1) ⟨iv_add i24 (show (1 : Int) ≤ (1 : Int32).toInt ∧ (1 : Int32).toInt ≤ 1 by decide) (by decide) (by decide) (by decide) (by decide), iq_add i24 (show (1 : Int) ≤ (1 : Int32).toInt ∧ (1 : Int32).toInt ≤ 1 by decide) (by decide) (by decide)⟩ (fun x25 qi26 => ?_)
          obtain ⟨i26, ei26⟩ := qi26
          refine tt_n (ix_ok i26 (by decide) (by decide)) ?_
          refine tt_kv (P := fun z => (((-2147483648) : Int) ≤ z.toInt ∧ z.toInt ≤ 2147483647) ∧ z.toInt = (o0.2.1 84 x25.toNatClampNeg).toInt) ⟨(k_o0.2 84 _), rfl⟩ (fun x27 qi28 => ?_)
          obtain ⟨i28, ei28⟩ := qi28
          refine tt_kv (P := fun z => ((-2147483648) : Int) ≤ z.toInt ∧ z.toInt ≤ 2147483647) (iv_top _) (fun x29 i30 => ?_)
          refine tt_kv (P := fun z => ((10 : Int) ≤ z.toInt ∧ z.toInt ≤ 2085) ∧ z.toInt = 5 * v1.toInt) ⟨iv_mul (show (5 : Int) ≤ (5 : Int32).toInt ∧ (5 : Int32).toInt ≤ 5 by decide) i_v1 (by decide) (by decide) (by decide) (by decide) (by decide), iq_mul (show (5 : Int) ≤ (5 : Int32).toInt ∧ (5 : Int32).toInt ≤ 5 by decide) i_v1 (by decide) (by decide) (by decide) (by decide)⟩ (fun x31 qi32 => ?_)
          obtain ⟨i32, ei32⟩ := qi32
          refine tt_n (ix_ok i_v1 (by decide) (by decide)) ?_
          refine tt_kv (P := fun z => ((0 : Int) ≤ z.toInt ∧ z.toInt ≤ 1) ∧ z.toInt = (o0.2.1 86 v1.toNatClampNeg).toInt) ⟨(k_o0.2 86 _), rfl⟩ (fun x33 qi34 => ?_)
          obtain ⟨i34, ei34⟩ := qi34
          refine tt_if (fun c35 => ?_) (fun c35 => ?_)
          · have wc35 : x33.toInt = (0 : Int) := c_eq c35
            have i36 : (0 : Int) ≤ x33.toInt ∧ x33.toInt ≤ 0 := nr_eql c35 i34 (show (0 : Int) ≤ (0 : Int32).toInt ∧ (0 : Int32).toInt ≤ 0 by decide) (by decide) (by decide)
            try unfold fM_make_234
            try unfold fM_make_239
            refine tt_if (fun c37 => ?_) (fun c37 => ?_)
            · have wc37 : (1 : Int) = (0 : Int) := c_eq c37
              exact (dd_eq c37 (show (1 : Int) ≤ (1 : Int32).toInt ∧ (1 : Int32).toInt ≤ 1 by decide) (show (0 : Int) ≤ (0 : Int32).toInt ∧ (0 : Int32).toInt ≤ 0 by decide) (by decide)).elim
            · have wc37 : ¬ (1 : Int) = (0 : Int) := c_ne c37
              refine tt_n (ix_ok i_v1 (by decide) (by decide)) ?_
              refine tt_ko ?_
              have k38 := ok_xp (k := 86) (i := v1.toNatClampNeg) (v := (vp_nar .boolean 1)) k_o0 (iv_nz _)
              have r39 := fr_xp (k := 86) (i := v1.toNatClampNeg) (v := (vp_nar .boolean 1)) r_o0 rfl
              refine tt_n (ix_ok (show (0 : Int) ≤ (0 : Int32).toInt ∧ (0 : Int32).toInt ≤ 0 by decide) (by decide) (by decide)) ?_
              refine tt_ko ?_
              have k40 := ok_xp (k := 90) (i := (0 : Int32).toNatClampNeg) (v := x29) k38 i30
              have r41 := fr_xp (k := 90) (i := (0 : Int32).toNatClampNeg) (v := x29) r39 rfl
              have u42 : Mt (upd (o0.2.1 90) ((0 : Int32).toNatClampNeg) x29) := Mt_u x_2 (by intros; have tnn : (0 : Int32).toNatClampNeg = 0 := (by decide); omega)
              refine tt_n (ix_ok (show (1 : Int) ≤ (1 : Int32).toInt ∧ (1 : Int32).toInt ≤ 1 by decide) (by decide) (by decide)) ?_
              refine tt_ko ?_
              have k43 := ok_xp (k := 90) (i := (1 : Int32).toNatClampNeg) (v := v5) k40 (iv_w (a := (-2147483648)) (b := 2147483647) (by decide) (by decide) i2)
              have r44 := fr_xp (k := 90) (i := (1 : Int32).toNatClampNeg) (v := v5) r41 rfl
              have u45 : Mt (upd (upd (o0.2.1 90) ((0 : Int32).toNatClampNeg) x29) ((1 : Int32).toNatClampNeg) v5) := Mt_u u42 (by intros; have tnn : (1 : Int32).toNatClampNeg = 1 := (by decide); omega)
              refine tt_kv (P := fun z => ((2 : Int) ≤ z.toInt ∧ z.toInt ≤ 417) ∧ z.toInt = v1.toInt + 1 - 2 * (v1.toInt % 2)) ⟨iv_x1 i_v1 (show (1 : Int) ≤ (1 : Int32).toInt ∧ (1 : Int32).toInt ≤ 1 by decide) (by decide) (by decide) (by decide) (by decide) (by decide), i_x1 (Int.le_trans (by decide) i_v1.1)⟩ (fun x46 qi47 => ?_)
              obtain ⟨i47, ei47⟩ := qi47
              refine tt_n (ix_ok (show (2 : Int) ≤ (2 : Int32).toInt ∧ (2 : Int32).toInt ≤ 2 by decide) (by decide) (by decide)) ?_
              refine tt_ko ?_
              have k48 := ok_xp (k := 90) (i := (2 : Int32).toNatClampNeg) (v := x46) k43 (iv_w (a := (-2147483648)) (b := 2147483647) (by decide) (by decide) i47)
              have r49 := fr_xp (k := 90) (i := (2 : Int32).toNatClampNeg) (v := x46) r44 rfl
              have u50 : Mt (upd (upd (upd (o0.2.1 90) ((0 : Int32).toNatClampNeg) x29) ((1 : Int32).toNatClampNeg) v5) ((2 : Int32).toNatClampNeg) x46) := Mt_u u45 (by intros; have tnn : (2 : Int32).toNatClampNeg = 2 := (by decide); omega)
              refine tt_n (ix_ok (show (3 : Int) ≤ (3 : Int32).toInt ∧ (3 : Int32).toInt ≤ 3 by decide) (by decide) (by decide)) ?_
              refine tt_ko ?_
              have k51 := ok_xp (k := 90) (i := (3 : Int32).toNatClampNeg) (v := (-1)) k48 (iv_w (a := (-2147483648)) (b := 2147483647) (by decide) (by decide) (show ((-1) : Int) ≤ ((-1) : Int32).toInt ∧ ((-1) : Int32).toInt ≤ (-1) by decide))
              have r52 := fr_xp (k := 90) (i := (3 : Int32).toNatClampNeg) (v := (-1)) r49 rfl
              have u53 : Mt (upd (upd (upd (upd (o0.2.1 90) ((0 : Int32).toNatClampNeg) x29) ((1 : Int32).toNatClampNeg) v5) ((2 : Int32).toNatClampNeg) x46) ((3 : Int32).toNatClampNeg) (-1)) := Mt_u u50 (by intros; have tnn : (3 : Int32).toNatClampNeg = 3 := (by decide); have tvv : ((-1) : Int32).toInt = -1 := (by decide); omega)
              refine tt_n (ix_ok (show (4 : Int) ≤ (4 : Int32).toInt ∧ (4 : Int32).toInt ≤ 4 by decide) (by decide) (by decide)) ?_
              refine tt_ko ?_
              have k54 := ok_xp (k := 90) (i := (4 : Int32).toNatClampNeg) (v := (-1)) k51 (iv_w (a := (-2147483648)) (b := 2147483647) (by decide) (by decide) (show ((-1) : Int) ≤ ((-1) : Int32).toInt ∧ ((-1) : Int32).toInt ≤ (-1) by decide))
              have r55 := fr_xp (k := 90) (i := (4 : Int32).toNatClampNeg) (v := (-1)) r52 rfl
              have u56 : Mt (upd (upd (upd (upd (upd (o0.2.1 90) ((0 : Int32).toNatClampNeg) x29) ((1 : Int32).toNatClampNeg) v5) ((2 : Int32).toNatClampNeg) x46) ((3 : Int32).toNatClampNeg) (-1)) ((4 : Int32).toNatClampNeg) (-1)) := Mt_u u53 (by intros; have tnn : (4 : Int32).toNatClampNeg = 4 := (by decide); have tvv : ((-1) : Int32).toInt = -1 := (by decide); omega)
              refine tt_b (sM_keepMatch_M87 _ _ k54 i32 f_o0_0 f_o0_38 f_o0_78 i3 f_o0_95 x_0 u56 (show x31.toInt % 5 = 0 by omega)) (fun q57 hq57 => ?_)
              obtain ⟨k_q57, n_q57, zq57_0, zq57_1, -⟩ := hq57
              have r_q57 := fr_tr r55 n_q57 rfl rfl rfl
              have f_q57_0 : (0 : Int) ≤ (q57.1 0).toInt ∧ (q57.1 0).toInt ≤ 0 := by rw [n_q57.1 0 rfl]; exact f_o0_0
              have f_q57_82 : (1 : Int) ≤ (q57.1 82).toInt ∧ (q57.1 82).toInt ≤ 12 := by rw [n_q57.1 82 rfl]; exact i3
              have f_q57_38 : (1 : Int) ≤ (q57.1 38).toInt ∧ (q57.1 38).toInt ≤ 1 := by rw [n_q57.1 38 rfl]; exact f_o0_38
              have f_q57_78 : (1 : Int) ≤ (q57.1 78).toInt ∧ (q57.1 78).toInt ≤ 1 := by rw [n_q57.1 78 rfl]; exact f_o0_78
              have f_q57_95 : (0 : Int) ≤ (q57.1 95).toInt ∧ (q57.1 95).toInt ≤ 0 := by rw [n_q57.1 95 rfl]; exact f_o0_95
              have e_q57_39 : (q57.1 39).toInt = (o0.1 39).toInt := congrArg Int32.toInt (n_q57.1 39 rfl)
              have g_q57_39 : (0 : Int) ≤ (q57.1 39).toInt ∧ (q57.1 39).toInt ≤ 8 := k_q57.1 39
              have zq57_0 : Mt (q57.2.1 87) := zq57_0
              have zq57_1 : Km x31.toInt 5 (q57.2.1 90) (o0.2.1 87) (q57.2.1 87) := zq57_1
              have u58 : Mt (q57.2.1 89) := by rw [n_q57.2.1 89 rfl]; exact x_1
              have u59 : Cm v3.toInt v1.toInt (q57.1 39).toInt (q57.2.1 88) := by rw [n_q57.1 39 rfl, n_q57.2.1 88 rfl]; exact x_10
              have u60 : Mt (q57.2.1 90) := by rw [n_q57.2.1 90 rfl]; exact u56
              try unfold fM_make_302
              refine tt_kv (P := fun z => ((1 : Int) ≤ z.toInt ∧ z.toInt ≤ 12) ∧ z.toInt = v5.toInt + 1) ⟨iv_add i2 (show (1 : Int) ≤ (1 : Int32).toInt ∧ (1 : Int32).toInt ≤ 1 by decide) (by decide) (by decide) (by decide) (by decide), iq_add i2 (show (1 : Int) ≤ (1 : Int32).toInt ∧ (1 : Int32).toInt ≤ 1 by decide) (by decide) (by decide)⟩ (fun x61 qi62 => ?_)
              obtain ⟨i62, ei62⟩ := qi62
              have p63 : Pl (q57.2.1 84) (q57.2.1 88) (q57.2.1 89) (q57.2.1 86) := by rw [(show Fr (fr_M [] [87] []) _ _ by assumption).2.1 84 rfl, (show Fr (fr_M [] [87] []) _ _ by assumption).2.1 88 rfl, (show Fr (fr_M [] [87] []) _ _ by assumption).2.1 89 rfl, (show Fr (fr_M [] [87] []) _ _ by assumption).2.1 86 rfl]; exact Pl_m x_3 (Or.inr (by decide))
              have p64 : Md (q57.1 39).toInt (q57.2.1 84) (q57.2.1 86) (q57.2.1 87) (q57.2.1 88) := by rw [(show Fr (fr_M [] [87] []) _ _ by assumption).1 39 rfl, (show Fr (fr_M [] [87] []) _ _ by assumption).2.1 84 rfl, (show Fr (fr_M [] [87] []) _ _ by assumption).2.1 86 rfl, (show Fr (fr_M [] [87] []) _ _ by assumption).2.1 88 rfl]; exact Md_n x_4 (by assumption) (by rw [tn_n]; omega) (by decide) (by rw [(show Fr (fr_M [] [87] []) _ _ by assumption).2.1 90 rfl]; exact Ms_1 (pin84.symm.trans (by omega)) (by omega) (by decide) (by decide)) x_10 (by omega) (by rw [tn_n]; omega) (by rw [(show Fr (fr_M [] [87] []) _ _ by assumption).2.1 90 rfl]; assumption)
              have p65 : Fu (yv1.toInt + 1) (q57.1 39).toInt (q57.2.1 86) := by rw [(show Fr (fr_M [] [87] []) _ _ by assumption).1 39 rfl, (show Fr (fr_M [] [87] []) _ _ by assumption).2.1 86 rfl]; exact Fu_m x_5 (by have := tn_n v1; omega) (by omega)
              have p66 : Hl (yv1.toInt + 1) (yv1.toInt / 2 * 2 + 2) (q57.2.1 88) (q57.2.1 86) := by rw [(show Fr (fr_M [] [87] []) _ _ by assumption).2.1 88 rfl, (show Fr (fr_M [] [87] []) _ _ by assumption).2.1 86 rfl]; exact Hl_m x_6 (Or.inr (by decide)) (fun _ => by decide) (Or.inr rfl) (by omega)
              exact H.2 _ _ _ _ _ k_q57 r_q57 i_v1 (iv_w (a := 0) (b := 1) (by decide) (by decide) i6) (iv_w (a := 0) (b := 12) (by decide) (by decide) i62) f_q57_0 f_q57_38 f_q57_78 f_q57_95 zq57_0 u58 u60 p63 p64 p65 p66 (show v1.toInt = yv1.toInt by omega) (show 2 ≤ v1.toInt by omega) (show v1.toInt ≤ 417 by omega) u59 (show 0 + (12 - x61.toInt) * 2 < (n : Int) by omega)
          · have wc35 : ¬ x33.toInt = (0 : Int) := c_ne c35
            have i67 : (1 : Int) ≤ x33.toInt ∧ x33.toInt ≤ 1 := nr_nela c35 i34 (show (0 : Int) ≤ (0 : Int32).toInt ∧ (0 : Int32).toInt ≤ 0 by decide) (by decide) (by decide)
            refine tt_n (ix_ok i32 (by decide) (by decide)) ?_
            refine tt_kv (P := fun z => (((-2147483648) : Int) ≤ z.toInt ∧ z.toInt ≤ 2147483647) ∧ z.toInt = (o0.2.1 87 x31.toNatClampNeg).toInt) ⟨(k_o0.2 87 _), rfl⟩ (fun x68 qi69 => ?_)
            obtain ⟨i69, ei69⟩ := qi69
            have t70 := tn_n x31
            have t71 := x_0 (x31.toNatClampNeg)
            refine tt_if (fun c72 => ?_) (fun c72 => ?_)
            · have wc72 : x29.toInt < x68.toInt := c_lt c72
              have i73 : ((-2147483648) : Int) ≤ x29.toInt ∧ x29.toInt ≤ 2147483646 := nr_ltl c72 i30 i69 (by decide) (by decide)
              have i74 : ((-2147483647) : Int) ≤ x68.toInt ∧ x68.toInt ≤ 2147483647 := nr_ltr c72 i30 i69 (by decide) (by decide)
              try unfold fM_make_234
              try unfold fM_make_239
              refine tt_if (fun c75 => ?_) (fun c75 => ?_)
              · have wc75 : (1 : Int) = (0 : Int) := c_eq c75
                exact (dd_eq c75 (show (1 : Int) ≤ (1 : Int32).toInt ∧ (1 : Int32).toInt ≤ 1 by decide) (show (0 : Int) ≤ (0 : Int32).toInt ∧ (0 : Int32).toInt ≤ 0 by decide) (by decide)).elim
              · have wc75 : ¬ (1 : Int) = (0 : Int) := c_ne c75
                refine tt_n (ix_ok i_v1 (by decide) (by decide)) ?_
                refine tt_ko ?_
                have k76 := ok_xp (k := 86) (i := v1.toNatClampNeg) (v := (vp_nar .boolean 1)) k_o0 (iv_nz _)
                have r77 := fr_xp (k := 86) (i := v1.toNatClampNeg) (v := (vp_nar .boolean 1)) r_o0 rfl
                refine tt_n (ix_ok (show (0 : Int) ≤ (0 : Int32).toInt ∧ (0 : Int32).toInt ≤ 0 by decide) (by decide) (by decide)) ?_
                refine tt_ko ?_
                have k78 := ok_xp (k := 90) (i := (0 : Int32).toNatClampNeg) (v := x29) k76 (iv_w (a := (-2147483648)) (b := 2147483647) (by decide) (by decide) i73)
                have r79 := fr_xp (k := 90) (i := (0 : Int32).toNatClampNeg) (v := x29) r77 rfl
                have u80 : Mt (upd (o0.2.1 90) ((0 : Int32).toNatClampNeg) x29) := Mt_u x_2 (by intros; have tnn : (0 : Int32).toNatClampNeg = 0 := (by decide); omega)
                refine tt_n (ix_ok (show (1 : Int) ≤ (1 : Int32).toInt ∧ (1 : Int32).toInt ≤ 1 by decide) (by decide) (by decide)) ?_
                refine tt_ko ?_
                have k81 := ok_xp (k := 90) (i := (1 : Int32).toNatClampNeg) (v := v5) k78 (iv_w (a := (-2147483648)) (b := 2147483647) (by decide) (by decide) i2)
                have r82 := fr_xp (k := 90) (i := (1 : Int32).toNatClampNeg) (v := v5) r79 rfl
                have u83 : Mt (upd (upd (o0.2.1 90) ((0 : Int32).toNatClampNeg) x29) ((1 : Int32).toNatClampNeg) v5) := Mt_u u80 (by intros; have tnn : (1 : Int32).toNatClampNeg = 1 := (by decide); omega)
                refine tt_kv (P := fun z => ((2 : Int) ≤ z.toInt ∧ z.toInt ≤ 417) ∧ z.toInt = v1.toInt + 1 - 2 * (v1.toInt % 2)) ⟨iv_x1 i_v1 (show (1 : Int) ≤ (1 : Int32).toInt ∧ (1 : Int32).toInt ≤ 1 by decide) (by decide) (by decide) (by decide) (by decide) (by decide), i_x1 (Int.le_trans (by decide) i_v1.1)⟩ (fun x84 qi85 => ?_)
                obtain ⟨i85, ei85⟩ := qi85
                refine tt_n (ix_ok (show (2 : Int) ≤ (2 : Int32).toInt ∧ (2 : Int32).toInt ≤ 2 by decide) (by decide) (by decide)) ?_
                refine tt_ko ?_
                have k86 := ok_xp (k := 90) (i := (2 : Int32).toNatClampNeg) (v := x84) k81 (iv_w (a := (-2147483648)) (b := 2147483647) (by decide) (by decide) i85)
                have r87 := fr_xp (k := 90) (i := (2 : Int32).toNatClampNeg) (v := x84) r82 rfl
                have u88 : Mt (upd (upd (upd (o0.2.1 90) ((0 : Int32).toNatClampNeg) x29) ((1 : Int32).toNatClampNeg) v5) ((2 : Int32).toNatClampNeg) x84) := Mt_u u83 (by intros; have tnn : (2 : Int32).toNatClampNeg = 2 := (by decide); omega)
                refine tt_n (ix_ok (show (3 : Int) ≤ (3 : Int32).toInt ∧ (3 : Int32).toInt ≤ 3 by decide) (by decide) (by decide)) ?_
                refine tt_ko ?_
                have k89 := ok_xp (k := 90) (i := (3 : Int32).toNatClampNeg) (v := (-1)) k86 (iv_w (a := (-2147483648)) (b := 2147483647) (by decide) (by decide) (show ((-1) : Int) ≤ ((-1) : Int32).toInt ∧ ((-1) : Int32).toInt ≤ (-1) by decide))
                have r90 := fr_xp (k := 90) (i := (3 : Int32).toNatClampNeg) (v := (-1)) r87 rfl
                have u91 : Mt (upd (upd (upd (upd (o0.2.1 90) ((0 : Int32).toNatClampNeg) x29) ((1 : Int32).toNatClampNeg) v5) ((2 : Int32).toNatClampNeg) x84) ((3 : Int32).toNatClampNeg) (-1)) := Mt_u u88 (by intros; have tnn : (3 : Int32).toNatClampNeg = 3 := (by decide); have tvv : ((-1) : Int32).toInt = -1 := (by decide); omega)
                refine tt_n (ix_ok (show (4 : Int) ≤ (4 : Int32).toInt ∧ (4 : Int32).toInt ≤ 4 by decide) (by decide) (by decide)) ?_
                refine tt_ko ?_
                have k92 := ok_xp (k := 90) (i := (4 : Int32).toNatClampNeg) (v := (-1)) k89 (iv_w (a := (-2147483648)) (b := 2147483647) (by decide) (by decide) (show ((-1) : Int) ≤ ((-1) : Int32).toInt ∧ ((-1) : Int32).toInt ≤ (-1) by decide))
                have r93 := fr_xp (k := 90) (i := (4 : Int32).toNatClampNeg) (v := (-1)) r90 rfl
                have u94 : Mt (upd (upd (upd (upd (upd (o0.2.1 90) ((0 : Int32).toNatClampNeg) x29) ((1 : Int32).toNatClampNeg) v5) ((2 : Int32).toNatClampNeg) x84) ((3 : Int32).toNatClampNeg) (-1)) ((4 : Int32).toNatClampNeg) (-1)) := Mt_u u91 (by intros; have tnn : (4 : Int32).toNatClampNeg = 4 := (by decide); have tvv : ((-1) : Int32).toInt = -1 := (by decide); omega)
                refine tt_b (sM_keepMatch_M87 _ _ k92 i32 f_o0_0 f_o0_38 f_o0_78 i3 f_o0_95 x_0 u94 (show x31.toInt % 5 = 0 by omega)) (fun q95 hq95 => ?_)
                obtain ⟨k_q95, n_q95, zq95_0, zq95_1, -⟩ := hq95
                have r_q95 := fr_tr r93 n_q95 rfl rfl rfl
                have f_q95_0 : (0 : Int) ≤ (q95.1 0).toInt ∧ (q95.1 0).toInt ≤ 0 := by rw [n_q95.1 0 rfl]; exact f_o0_0
                have f_q95_82 : (1 : Int) ≤ (q95.1 82).toInt ∧ (q95.1 82).toInt ≤ 12 := by rw [n_q95.1 82 rfl]; exact i3
                have f_q95_38 : (1 : Int) ≤ (q95.1 38).toInt ∧ (q95.1 38).toInt ≤ 1 := by rw [n_q95.1 38 rfl]; exact f_o0_38
                have f_q95_78 : (1 : Int) ≤ (q95.1 78).toInt ∧ (q95.1 78).toInt ≤ 1 := by rw [n_q95.1 78 rfl]; exact f_o0_78
                have f_q95_95 : (0 : Int) ≤ (q95.1 95).toInt ∧ (q95.1 95).toInt ≤ 0 := by rw [n_q95.1 95 rfl]; exact f_o0_95
                have e_q95_39 : (q95.1 39).toInt = (o0.1 39).toInt := congrArg Int32.toInt (n_q95.1 39 rfl)
                have g_q95_39 : (0 : Int) ≤ (q95.1 39).toInt ∧ (q95.1 39).toInt ≤ 8 := k_q95.1 39
                have zq95_0 : Mt (q95.2.1 87) := zq95_0
                have zq95_1 : Km x31.toInt 5 (q95.2.1 90) (o0.2.1 87) (q95.2.1 87) := zq95_1
                have u96 : Mt (q95.2.1 89) := by rw [n_q95.2.1 89 rfl]; exact x_1
                have u97 : Cm v3.toInt v1.toInt (q95.1 39).toInt (q95.2.1 88) := by rw [n_q95.1 39 rfl, n_q95.2.1 88 rfl]; exact x_10
                have u98 : Mt (q95.2.1 90) := by rw [n_q95.2.1 90 rfl]; exact u94
                try unfold fM_make_302
                refine tt_kv (P := fun z => ((1 : Int) ≤ z.toInt ∧ z.toInt ≤ 12) ∧ z.toInt = v5.toInt + 1) ⟨iv_add i2 (show (1 : Int) ≤ (1 : Int32).toInt ∧ (1 : Int32).toInt ≤ 1 by decide) (by decide) (by decide) (by decide) (by decide), iq_add i2 (show (1 : Int) ≤ (1 : Int32).toInt ∧ (1 : Int32).toInt ≤ 1 by decide) (by decide) (by decide)⟩ (fun x99 qi100 => ?_)
                obtain ⟨i100, ei100⟩ := qi100
                have p101 : Pl (q95.2.1 84) (q95.2.1 88) (q95.2.1 89) (q95.2.1 86) := by rw [(show Fr (fr_M [] [87] []) _ _ by assumption).2.1 84 rfl, (show Fr (fr_M [] [87] []) _ _ by assumption).2.1 88 rfl, (show Fr (fr_M [] [87] []) _ _ by assumption).2.1 89 rfl, (show Fr (fr_M [] [87] []) _ _ by assumption).2.1 86 rfl]; exact Pl_m x_3 (Or.inr (by decide))
                have p102 : Md (q95.1 39).toInt (q95.2.1 84) (q95.2.1 86) (q95.2.1 87) (q95.2.1 88) := by rw [(show Fr (fr_M [] [87] []) _ _ by assumption).1 39 rfl, (show Fr (fr_M [] [87] []) _ _ by assumption).2.1 84 rfl, (show Fr (fr_M [] [87] []) _ _ by assumption).2.1 86 rfl, (show Fr (fr_M [] [87] []) _ _ by assumption).2.1 88 rfl]; exact Md_n x_4 (by assumption) (by rw [tn_n]; omega) (by decide) (by rw [(show Fr (fr_M [] [87] []) _ _ by assumption).2.1 90 rfl]; exact Ms_1 (pin84.symm.trans (by omega)) (by omega) (by decide) (by decide)) x_10 (by omega) (by rw [tn_n]; omega) (by rw [(show Fr (fr_M [] [87] []) _ _ by assumption).2.1 90 rfl]; assumption)
                have p103 : Fu (yv1.toInt + 1) (q95.1 39).toInt (q95.2.1 86) := by rw [(show Fr (fr_M [] [87] []) _ _ by assumption).1 39 rfl, (show Fr (fr_M [] [87] []) _ _ by assumption).2.1 86 rfl]; exact Fu_m x_5 (by have := tn_n v1; omega) (by omega)
                have p104 : Hl (yv1.toInt + 1) (yv1.toInt / 2 * 2 + 2) (q95.2.1 88) (q95.2.1 86) := by rw [(show Fr (fr_M [] [87] []) _ _ by assumption).2.1 88 rfl, (show Fr (fr_M [] [87] []) _ _ by assumption).2.1 86 rfl]; exact Hl_m x_6 (Or.inr (by decide)) (fun _ => by decide) (Or.inr rfl) (by omega)
                exact H.2 _ _ _ _ _ k_q95 r_q95 i_v1 (iv_w (a := 0) (b := 1) (by decide) (by decide) i6) (iv_w (a := 0) (b := 12) (by decide) (by decide) i100) f_q95_0 f_q95_38 f_q95_78 f_q95_95 zq95_0 u96 u98 p101 p102 p103 p104 (show v1.toInt = yv1.toInt by omega) (show 2 ≤ v1.toInt by omega) (show v1.toInt ≤ 417 by omega) u97 (show 0 + (12 - x99.toInt) * 2 < (n : Int) by omega)
            · have wc72 : x68.toInt ≤ x29.toInt := c_nlt c72
              refine tt_n (ix_ok i32 (by decide) (by decide)) ?_
              refine tt_kv (P := fun z => (((-2147483648) : Int) ≤ z.toInt ∧ z.toInt ≤ 2147483647) ∧ z.toInt = (o0.2.1 87 x31.toNatClampNeg).toInt) ⟨(k_o0.2 87 _), rfl⟩ (fun x105 qi106 => ?_)
              obtain ⟨i106, ei106⟩ := qi106
              have t107 := tn_n x31
              have t108 := x_0 (x31.toNatClampNeg)
              refine tt_if (fun c109 => ?_) (fun c109 => ?_)
              · have wc109 : x29.toInt = x105.toInt := c_eq c109
                refine tt_kv (P := fun z => ((0 : Int) ≤ z.toInt ∧ z.toInt ≤ 44) ∧ z.toInt = 4 * v5.toInt) ⟨iv_mul (show (4 : Int) ≤ (4 : Int32).toInt ∧ (4 : Int32).toInt ≤ 4 by decide) i2 (by decide) (by decide) (by decide) (by decide) (by decide), iq_mul (show (4 : Int) ≤ (4 : Int32).toInt ∧ (4 : Int32).toInt ≤ 4 by decide) i2 (by decide) (by decide) (by decide) (by decide)⟩ (fun x110 qi111 => ?_)
                obtain ⟨i111, ei111⟩ := qi111
                refine tt_n (ix_ok i111 (by decide) (by decide)) ?_
                refine tt_kv (P := fun z => (((-2147483648) : Int) ≤ z.toInt ∧ z.toInt ≤ 2147483647) ∧ z.toInt = (o0.2.1 84 x110.toNatClampNeg).toInt) ⟨(k_o0.2 84 _), rfl⟩ (fun x112 qi113 => ?_)
                obtain ⟨i113, ei113⟩ := qi113
                refine tt_kv (P := fun z => ((11 : Int) ≤ z.toInt ∧ z.toInt ≤ 2086) ∧ z.toInt = x31.toInt + 1) ⟨iv_add i32 (show (1 : Int) ≤ (1 : Int32).toInt ∧ (1 : Int32).toInt ≤ 1 by decide) (by decide) (by decide) (by decide) (by decide), iq_add i32 (show (1 : Int) ≤ (1 : Int32).toInt ∧ (1 : Int32).toInt ≤ 1 by decide) (by decide) (by decide)⟩ (fun x114 qi115 => ?_)
                obtain ⟨i115, ei115⟩ := qi115
                refine tt_n (ix_ok i115 (by decide) (by decide)) ?_
                refine tt_kv (P := fun z => (((-2147483648) : Int) ≤ z.toInt ∧ z.toInt ≤ 2147483647) ∧ z.toInt = (o0.2.1 87 x114.toNatClampNeg).toInt) ⟨(k_o0.2 87 _), rfl⟩ (fun x116 qi117 => ?_)
                obtain ⟨i117, ei117⟩ := qi117
                have t118 := tn_n x114
                have t119 := x_0 (x114.toNatClampNeg)
                have i120 : (0 : Int) ≤ x116.toInt ∧ x116.toInt ≤ 11 := by omega
                refine tt_kv (P := fun z => ((0 : Int) ≤ z.toInt ∧ z.toInt ≤ 44) ∧ z.toInt = 4 * x116.toInt) ⟨iv_mul (show (4 : Int) ≤ (4 : Int32).toInt ∧ (4 : Int32).toInt ≤ 4 by decide) i120 (by decide) (by decide) (by decide) (by decide) (by decide), iq_mul (show (4 : Int) ≤ (4 : Int32).toInt ∧ (4 : Int32).toInt ≤ 4 by decide) i120 (by decide) (by decide) (by decide) (by decide)⟩ (fun x121 qi122 => ?_)
                obtain ⟨i122, ei122⟩ := qi122
                refine tt_n (ix_ok i122 (by decide) (by decide)) ?_
                refine tt_kv (P := fun z => (((-2147483648) : Int) ≤ z.toInt ∧ z.toInt ≤ 2147483647) ∧ z.toInt = (o0.2.1 84 x121.toNatClampNeg).toInt) ⟨(k_o0.2 84 _), rfl⟩ (fun x123 qi124 => ?_)
                obtain ⟨i124, ei124⟩ := qi124
                refine tt_if (fun c125 => ?_) (fun c125 => ?_)
                · have wc125 : x123.toInt ≤ x112.toInt := c_le c125
                  try unfold fM_make_238
                  try unfold fM_make_239
                  refine tt_if (fun c126 => ?_) (fun c126 => ?_)
                  · have wc126 : (0 : Int) = (0 : Int) := c_eq c126
                    try unfold fM_make_302
                    refine tt_kv (P := fun z => ((1 : Int) ≤ z.toInt ∧ z.toInt ≤ 12) ∧ z.toInt = v5.toInt + 1) ⟨iv_add i2 (show (1 : Int) ≤ (1 : Int32).toInt ∧ (1 : Int32).toInt ≤ 1 by decide) (by decide) (by decide) (by decide) (by decide), iq_add i2 (show (1 : Int) ≤ (1 : Int32).toInt ∧ (1 : Int32).toInt ≤ 1 by decide) (by decide) (by decide)⟩ (fun x127 qi128 => ?_)
                    obtain ⟨i128, ei128⟩ := qi128
                    exact H.2 _ _ _ _ _ k_o0 r_o0 i_v1 (iv_w (a := 0) (b := 1) (by decide) (by decide) i6) (iv_w (a := 0) (b := 12) (by decide) (by decide) i128) f_o0_0 f_o0_38 f_o0_78 f_o0_95 x_0 x_1 x_2 x_3 x_4 x_5 x_6 (show v1.toInt = yv1.toInt by omega) (show 2 ≤ v1.toInt by omega) (show v1.toInt ≤ 417 by omega) x_10 (show 0 + (12 - x127.toInt) * 2 < (n : Int) by omega)
                  · have wc126 : ¬ (0 : Int) = (0 : Int) := c_ne c126
                    exact (dd_ne c126 (show (0 : Int) ≤ (0 : Int32).toInt ∧ (0 : Int32).toInt ≤ 0 by decide) (show (0 : Int) ≤ (0 : Int32).toInt ∧ (0 : Int32).toInt ≤ 0 by decide)).elim
                · have wc125 : x112.toInt < x123.toInt := c_nle c125
                  have i129 : ((-2147483648) : Int) ≤ x112.toInt ∧ x112.toInt ≤ 2147483646 := nr_nlel c125 i113 i124 (by decide) (by decide)
                  have i130 : ((-2147483647) : Int) ≤ x123.toInt ∧ x123.toInt ≤ 2147483647 := nr_nler c125 i113 i124 (by decide) (by decide)
                  try unfold fM_make_234
                  try unfold fM_make_239
                  refine tt_if (fun c131 => ?_) (fun c131 => ?_)
                  · have wc131 : (1 : Int) = (0 : Int) := c_eq c131
                    exact (dd_eq c131 (show (1 : Int) ≤ (1 : Int32).toInt ∧ (1 : Int32).toInt ≤ 1 by decide) (show (0 : Int) ≤ (0 : Int32).toInt ∧ (0 : Int32).toInt ≤ 0 by decide) (by decide)).elim
                  · have wc131 : ¬ (1 : Int) = (0 : Int) := c_ne c131
                    refine tt_n (ix_ok i_v1 (by decide) (by decide)) ?_
                    refine tt_ko ?_
                    have k132 := ok_xp (k := 86) (i := v1.toNatClampNeg) (v := (vp_nar .boolean 1)) k_o0 (iv_nz _)
                    have r133 := fr_xp (k := 86) (i := v1.toNatClampNeg) (v := (vp_nar .boolean 1)) r_o0 rfl
                    refine tt_n (ix_ok (show (0 : Int) ≤ (0 : Int32).toInt ∧ (0 : Int32).toInt ≤ 0 by decide) (by decide) (by decide)) ?_
                    refine tt_ko ?_
                    have k134 := ok_xp (k := 90) (i := (0 : Int32).toNatClampNeg) (v := x29) k132 i30
                    have r135 := fr_xp (k := 90) (i := (0 : Int32).toNatClampNeg) (v := x29) r133 rfl
                    have u136 : Mt (upd (o0.2.1 90) ((0 : Int32).toNatClampNeg) x29) := Mt_u x_2 (by intros; have tnn : (0 : Int32).toNatClampNeg = 0 := (by decide); omega)
                    refine tt_n (ix_ok (show (1 : Int) ≤ (1 : Int32).toInt ∧ (1 : Int32).toInt ≤ 1 by decide) (by decide) (by decide)) ?_
                    refine tt_ko ?_
                    have k137 := ok_xp (k := 90) (i := (1 : Int32).toNatClampNeg) (v := v5) k134 (iv_w (a := (-2147483648)) (b := 2147483647) (by decide) (by decide) i2)
                    have r138 := fr_xp (k := 90) (i := (1 : Int32).toNatClampNeg) (v := v5) r135 rfl
                    have u139 : Mt (upd (upd (o0.2.1 90) ((0 : Int32).toNatClampNeg) x29) ((1 : Int32).toNatClampNeg) v5) := Mt_u u136 (by intros; have tnn : (1 : Int32).toNatClampNeg = 1 := (by decide); omega)
                    refine tt_kv (P := fun z => ((2 : Int) ≤ z.toInt ∧ z.toInt ≤ 417) ∧ z.toInt = v1.toInt + 1 - 2 * (v1.toInt % 2)) ⟨iv_x1 i_v1 (show (1 : Int) ≤ (1 : Int32).toInt ∧ (1 : Int32).toInt ≤ 1 by decide) (by decide) (by decide) (by decide) (by decide) (by decide), i_x1 (Int.le_trans (by decide) i_v1.1)⟩ (fun x140 qi141 => ?_)
                    obtain ⟨i141, ei141⟩ := qi141
                    refine tt_n (ix_ok (show (2 : Int) ≤ (2 : Int32).toInt ∧ (2 : Int32).toInt ≤ 2 by decide) (by decide) (by decide)) ?_
                    refine tt_ko ?_
                    have k142 := ok_xp (k := 90) (i := (2 : Int32).toNatClampNeg) (v := x140) k137 (iv_w (a := (-2147483648)) (b := 2147483647) (by decide) (by decide) i141)
                    have r143 := fr_xp (k := 90) (i := (2 : Int32).toNatClampNeg) (v := x140) r138 rfl
                    have u144 : Mt (upd (upd (upd (o0.2.1 90) ((0 : Int32).toNatClampNeg) x29) ((1 : Int32).toNatClampNeg) v5) ((2 : Int32).toNatClampNeg) x140) := Mt_u u139 (by intros; have tnn : (2 : Int32).toNatClampNeg = 2 := (by decide); omega)
                    refine tt_n (ix_ok (show (3 : Int) ≤ (3 : Int32).toInt ∧ (3 : Int32).toInt ≤ 3 by decide) (by decide) (by decide)) ?_
                    refine tt_ko ?_
                    have k145 := ok_xp (k := 90) (i := (3 : Int32).toNatClampNeg) (v := (-1)) k142 (iv_w (a := (-2147483648)) (b := 2147483647) (by decide) (by decide) (show ((-1) : Int) ≤ ((-1) : Int32).toInt ∧ ((-1) : Int32).toInt ≤ (-1) by decide))
                    have r146 := fr_xp (k := 90) (i := (3 : Int32).toNatClampNeg) (v := (-1)) r143 rfl
                    have u147 : Mt (upd (upd (upd (upd (o0.2.1 90) ((0 : Int32).toNatClampNeg) x29) ((1 : Int32).toNatClampNeg) v5) ((2 : Int32).toNatClampNeg) x140) ((3 : Int32).toNatClampNeg) (-1)) := Mt_u u144 (by intros; have tnn : (3 : Int32).toNatClampNeg = 3 := (by decide); have tvv : ((-1) : Int32).toInt = -1 := (by decide); omega)
                    refine tt_n (ix_ok (show (4 : Int) ≤ (4 : Int32).toInt ∧ (4 : Int32).toInt ≤ 4 by decide) (by decide) (by decide)) ?_
                    refine tt_ko ?_
                    have k148 := ok_xp (k := 90) (i := (4 : Int32).toNatClampNeg) (v := (-1)) k145 (iv_w (a := (-2147483648)) (b := 2147483647) (by decide) (by decide) (show ((-1) : Int) ≤ ((-1) : Int32).toInt ∧ ((-1) : Int32).toInt ≤ (-1) by decide))
                    have r149 := fr_xp (k := 90) (i := (4 : Int32).toNatClampNeg) (v := (-1)) r146 rfl
                    have u150 : Mt (upd (upd (upd (upd (upd (o0.2.1 90) ((0 : Int32).toNatClampNeg) x29) ((1 : Int32).toNatClampNeg) v5) ((2 : Int32).toNatClampNeg) x140) ((3 : Int32).toNatClampNeg) (-1)) ((4 : Int32).toNatClampNeg) (-1)) := Mt_u u147 (by intros; have tnn : (4 : Int32).toNatClampNeg = 4 := (by decide); have tvv : ((-1) : Int32).toInt = -1 := (by decide); omega)
                    refine tt_b (sM_keepMatch_M87 _ _ k148 i32 f_o0_0 f_o0_38 f_o0_78 i3 f_o0_95 x_0 u150 (show x31.toInt % 5 = 0 by omega)) (fun q151 hq151 => ?_)
                    obtain ⟨k_q151, n_q151, zq151_0, zq151_1, -⟩ := hq151
                    have r_q151 := fr_tr r149 n_q151 rfl rfl rfl
                    have f_q151_0 : (0 : Int) ≤ (q151.1 0).toInt ∧ (q151.1 0).toInt ≤ 0 := by rw [n_q151.1 0 rfl]; exact f_o0_0
                    have f_q151_82 : (1 : Int) ≤ (q151.1 82).toInt ∧ (q151.1 82).toInt ≤ 12 := by rw [n_q151.1 82 rfl]; exact i3
                    have f_q151_38 : (1 : Int) ≤ (q151.1 38).toInt ∧ (q151.1 38).toInt ≤ 1 := by rw [n_q151.1 38 rfl]; exact f_o0_38
                    have f_q151_78 : (1 : Int) ≤ (q151.1 78).toInt ∧ (q151.1 78).toInt ≤ 1 := by rw [n_q151.1 78 rfl]; exact f_o0_78
                    have f_q151_95 : (0 : Int) ≤ (q151.1 95).toInt ∧ (q151.1 95).toInt ≤ 0 := by rw [n_q151.1 95 rfl]; exact f_o0_95
                    have e_q151_39 : (q151.1 39).toInt = (o0.1 39).toInt := congrArg Int32.toInt (n_q151.1 39 rfl)
                    have g_q151_39 : (0 : Int) ≤ (q151.1 39).toInt ∧ (q151.1 39).toInt ≤ 8 := k_q151.1 39
                    have zq151_0 : Mt (q151.2.1 87) := zq151_0
                    have zq151_1 : Km x31.toInt 5 (q151.2.1 90) (o0.2.1 87) (q151.2.1 87) := zq151_1
                    have u152 : Mt (q151.2.1 89) := by rw [n_q151.2.1 89 rfl]; exact x_1
                    have u153 : Cm v3.toInt v1.toInt (q151.1 39).toInt (q151.2.1 88) := by rw [n_q151.1 39 rfl, n_q151.2.1 88 rfl]; exact x_10
                    have u154 : Mt (q151.2.1 90) := by rw [n_q151.2.1 90 rfl]; exact u150
                    try unfold fM_make_302
                    refine tt_kv (P := fun z => ((1 : Int) ≤ z.toInt ∧ z.toInt ≤ 12) ∧ z.toInt = v5.toInt + 1) ⟨iv_add i2 (show (1 : Int) ≤ (1 : Int32).toInt ∧ (1 : Int32).toInt ≤ 1 by decide) (by decide) (by decide) (by decide) (by decide), iq_add i2 (show (1 : Int) ≤ (1 : Int32).toInt ∧ (1 : Int32).toInt ≤ 1 by decide) (by decide) (by decide)⟩ (fun x155 qi156 => ?_)
                    obtain ⟨i156, ei156⟩ := qi156
                    have p157 : Pl (q151.2.1 84) (q151.2.1 88) (q151.2.1 89) (q151.2.1 86) := by rw [(show Fr (fr_M [] [87] []) _ _ by assumption).2.1 84 rfl, (show Fr (fr_M [] [87] []) _ _ by assumption).2.1 88 rfl, (show Fr (fr_M [] [87] []) _ _ by assumption).2.1 89 rfl, (show Fr (fr_M [] [87] []) _ _ by assumption).2.1 86 rfl]; exact Pl_m x_3 (Or.inr (by decide))
                    have p158 : Md (q151.1 39).toInt (q151.2.1 84) (q151.2.1 86) (q151.2.1 87) (q151.2.1 88) := by rw [(show Fr (fr_M [] [87] []) _ _ by assumption).1 39 rfl, (show Fr (fr_M [] [87] []) _ _ by assumption).2.1 84 rfl, (show Fr (fr_M [] [87] []) _ _ by assumption).2.1 86 rfl, (show Fr (fr_M [] [87] []) _ _ by assumption).2.1 88 rfl]; exact Md_n x_4 (by assumption) (by rw [tn_n]; omega) (by decide) (by rw [(show Fr (fr_M [] [87] []) _ _ by assumption).2.1 90 rfl]; exact Ms_1 (pin84.symm.trans (by omega)) (by omega) (by decide) (by decide)) x_10 (by omega) (by rw [tn_n]; omega) (by rw [(show Fr (fr_M [] [87] []) _ _ by assumption).2.1 90 rfl]; assumption)
                    have p159 : Fu (yv1.toInt + 1) (q151.1 39).toInt (q151.2.1 86) := by rw [(show Fr (fr_M [] [87] []) _ _ by assumption).1 39 rfl, (show Fr (fr_M [] [87] []) _ _ by assumption).2.1 86 rfl]; exact Fu_m x_5 (by have := tn_n v1; omega) (by omega)
                    have p160 : Hl (yv1.toInt + 1) (yv1.toInt / 2 * 2 + 2) (q151.2.1 88) (q151.2.1 86) := by rw [(show Fr (fr_M [] [87] []) _ _ by assumption).2.1 88 rfl, (show Fr (fr_M [] [87] []) _ _ by assumption).2.1 86 rfl]; exact Hl_m x_6 (Or.inr (by decide)) (fun _ => by decide) (Or.inr rfl) (by omega)
                    exact H.2 _ _ _ _ _ k_q151 r_q151 i_v1 (iv_w (a := 0) (b := 1) (by decide) (by decide) i6) (iv_w (a := 0) (b := 12) (by decide) (by decide) i156) f_q151_0 f_q151_38 f_q151_78 f_q151_95 zq151_0 u152 u154 p157 p158 p159 p160 (show v1.toInt = yv1.toInt by omega) (show 2 ≤ v1.toInt by omega) (show v1.toInt ≤ 417 by omega) u153 (show 0 + (12 - x155.toInt) * 2 < (n : Int) by omega)
              · have wc109 : ¬ x29.toInt = x105.toInt := c_ne c109
                try unfold fM_make_238
                try unfold fM_make_239
                refine tt_if (fun c161 => ?_) (fun c161 => ?_)
                · have wc161 : (0 : Int) = (0 : Int) := c_eq c161
                  try unfold fM_make_302
                  refine tt_kv (P := fun z => ((1 : Int) ≤ z.toInt ∧ z.toInt ≤ 12) ∧ z.toInt = v5.toInt + 1) ⟨iv_add i2 (show (1 : Int) ≤ (1 : Int32).toInt ∧ (1 : Int32).toInt ≤ 1 by decide) (by decide) (by decide) (by decide) (by decide), iq_add i2 (show (1 : Int) ≤ (1 : Int32).toInt ∧ (1 : Int32).toInt ≤ 1 by decide) (by decide) (by decide)⟩ (fun x162 qi163 => ?_)
                  obtain ⟨i163, ei163⟩ := qi163
                  exact H.2 _ _ _ _ _ k_o0 r_o0 i_v1 (iv_w (a := 0) (b := 1) (by decide) (by decide) i6) (iv_w (a := 0) (b := 12) (by decide) (by decide) i163) f_o0_0 f_o0_38 f_o0_78 f_o0_95 x_0 x_1 x_2 x_3 x_4 x_5 x_6 (show v1.toInt = yv1.toInt by omega) (show 2 ≤ v1.toInt by omega) (show v1.toInt ≤ 417 by omega) x_10 (show 0 + (12 - x162.toInt) * 2 < (n : Int) by omega)
                · have wc161 : ¬ (0 : Int) = (0 : Int) := c_ne c161
                  exact (dd_ne c161 (show (0 : Int) ≤ (0 : Int32).toInt ∧ (0 : Int32).toInt ≤ 0 by decide) (show (0 : Int) ≤ (0 : Int32).toInt ∧ (0 : Int32).toInt ≤ 0 by decide)).elim
        · have wc21 : ¬ x19.toInt = (1 : Int) := c_ne c21
          try unfold fM_make_302
          refine tt_kv (P := fun z => ((1 : Int) ≤ z.toInt ∧ z.toInt ≤ 12) ∧ z.toInt = v5.toInt + 1) ⟨iv_add i2 (show (1 : Int) ≤ (1 : Int32).toInt ∧ (1 : Int32).toInt ≤ 1 by decide) (by decide) (by decide) (by decide) (by decide), iq_add i2 (show (1 : Int) ≤ (1 : Int32).toInt ∧ (1 : Int32).toInt ≤ 1 by decide) (by decide) (by decide)⟩ (fun x164 qi165 => ?_)
          obtain ⟨i165, ei165⟩ := qi165
          exact H.2 _ _ _ _ _ k_o0 r_o0 i_v1 (iv_w (a := 0) (b := 1) (by decide) (by decide) i6) (iv_w (a := 0) (b := 12) (by decide) (by decide) i165) f_o0_0 f_o0_38 f_o0_78 f_o0_95 x_0 x_1 x_2 x_3 x_4 x_5 x_6 (show v1.toInt = yv1.toInt by omega) (show 2 ≤ v1.toInt by omega) (show v1.toInt ≤ 417 by omega) x_10 (show 0 + (12 - x164.toInt) * 2 < (n : Int) by omega)
      · have wc13 : ¬ x11.toInt = (1 : Int) := c_ne c13
        try unfold fM_make_302
        refine tt_kv (P := fun z => ((1 : Int) ≤ z.toInt ∧ z.toInt ≤ 12) ∧ z.toInt = v5.toInt + 1) ⟨iv_add i2 (show (1 : Int) ≤ (1 : Int32).toInt ∧ (1 : Int32).toInt ≤ 1 by decide) (by decide) (by decide) (by decide) (by decide), iq_add i2 (show (1 : Int) ≤ (1 : Int32).toInt ∧ (1 : Int32).toInt ≤ 1 by decide) (by decide) (by decide)⟩ (fun x166 qi167 => ?_)
        obtain ⟨i167, ei167⟩ := qi167
        exact H.2 _ _ _ _ _ k_o0 r_o0 i_v1 (iv_w (a := 0) (b := 1) (by decide) (by decide) i6) (iv_w (a := 0) (b := 12) (by decide) (by decide) i167) f_o0_0 f_o0_38 f_o0_78 f_o0_95 x_0 x_1 x_2 x_3 x_4 x_5 x_6 (show v1.toInt = yv1.toInt by omega) (show 2 ≤ v1.toInt by omega) (show v1.toInt ≤ 417 by omega) x_10 (show 0 + (12 - x166.toInt) * 2 < (n : Int) by omega)
set_option maxHeartbeats 4000000 in
set_option maxRecDepth 100000 in
theorem tM_make_14 {yv1 : Int32} {yo0 : cf_O} {n : Nat} (H : HM_make yv1 yo0 n) (v1 : Int32) (v2 : Int32) (o0 : cf_O) (k_o0 : okO I_M o0) (r_o0 : Fr (fr_M [] [86, 87, 90] []) yo0 o0) (i_v1 : (2 : Int) ≤ v1.toInt ∧ v1.toInt ≤ 417) (i_v2 : (0 : Int) ≤ v2.toInt ∧ v2.toInt ≤ 5) (f_o0_0 : (0 : Int) ≤ (o0.1 0).toInt ∧ (o0.1 0).toInt ≤ 0) (f_o0_38 : (1 : Int) ≤ (o0.1 38).toInt ∧ (o0.1 38).toInt ≤ 1) (f_o0_78 : (1 : Int) ≤ (o0.1 78).toInt ∧ (o0.1 78).toInt ≤ 1) (f_o0_95 : (0 : Int) ≤ (o0.1 95).toInt ∧ (o0.1 95).toInt ≤ 0) (x_0 : Mt (o0.2.1 87)) (x_1 : Mt (o0.2.1 89)) (x_2 : Mt (o0.2.1 90)) (x_3 : Pl (o0.2.1 84) (o0.2.1 88) (o0.2.1 89) (o0.2.1 86)) (x_4 : Mc v1.toInt v2.toInt (o0.1 39).toInt (o0.2.1 84) (o0.2.1 86) (o0.2.1 87) (o0.2.1 88) (o0.2.1 89)) (x_5 : Fu (yv1.toInt + 1) (o0.1 39).toInt (o0.2.1 86)) (x_6 : Hl (yv1.toInt + 1) (yv1.toInt / 2 * 2 + 2) (o0.2.1 88) (o0.2.1 86)) (x_7 : v1.toInt = yv1.toInt) (x_8 : 2 ≤ v1.toInt) (x_9 : v1.toInt ≤ 417) (hm : 26 + (5 - v2.toInt) * 2 ≤ (n : Int)) : tt (fM_make_14 (gM_make n) v1 v2 o0) (QM_make yv1 yo0) := by
  unfold fM_make_14
  have g_o0_39 : (0 : Int) ≤ (o0.1 39).toInt ∧ (o0.1 39).toInt ≤ 8 := k_o0.1 39
  have ey_o0_39 : (o0.1 39).toInt = (yo0.1 39).toInt := congrArg Int32.toInt (r_o0.1 39 rfl)
  refine tt_if (fun c1 => ?_) (fun c1 => ?_)
  · have wc1 : (5 : Int) ≤ v2.toInt := c_le c1
    have i2 : (5 : Int) ≤ v2.toInt ∧ v2.toInt ≤ 5 := nr_ler c1 (show (5 : Int) ≤ (5 : Int32).toInt ∧ (5 : Int32).toInt ≤ 5 by decide) i_v2 (by decide) (by decide)
    try unfold fM_make_54
    refine tt_kv (P := fun z => ((2 : Int) ≤ z.toInt ∧ z.toInt ≤ 417) ∧ z.toInt = v1.toInt + 1 - 2 * (v1.toInt % 2)) ⟨iv_x1 i_v1 (show (1 : Int) ≤ (1 : Int32).toInt ∧ (1 : Int32).toInt ≤ 1 by decide) (by decide) (by decide) (by decide) (by decide) (by decide), i_x1 (Int.le_trans (by decide) i_v1.1)⟩ (fun x3 qi4 => ?_)
    obtain ⟨i4, ei4⟩ := qi4
    try unfold fM_isGiven
    try unfold fM_isGiven_0
    refine tt_bkv (P := fun z => ((0 : Int) ≤ z.toInt ∧ z.toInt ≤ 1) ∧ z.toInt = x3.toInt % 2) ⟨iv_rem (k := 2) i4 (show (2 : Int) ≤ (2 : Int32).toInt ∧ (2 : Int32).toInt ≤ 2 by decide) (by decide) (by decide) (by decide) (by decide), i_rem (x := x3) (y := 2) (Int.le_trans (by decide) i4.1) (by decide)⟩ (fun x5 qi6 => ?_)
    obtain ⟨i6, ei6⟩ := qi6
    refine tt_bif (fun c7 => ?_) (fun c7 => ?_)
    · have wc7 : x5.toInt = (0 : Int) := c_eq c7
      have i8 : (0 : Int) ≤ x5.toInt ∧ x5.toInt ≤ 0 := nr_eql c7 i6 (show (0 : Int) ≤ (0 : Int32).toInt ∧ (0 : Int32).toInt ≤ 0 by decide) (by decide) (by decide)
      refine tt_bkv (P := fun z => ((1 : Int) ≤ z.toInt ∧ z.toInt ≤ 208) ∧ z.toInt = x3.toInt / 2) ⟨iv_div (k := 2) i4 (show (2 : Int) ≤ (2 : Int32).toInt ∧ (2 : Int32).toInt ≤ 2 by decide) (by decide) (by decide) (by decide) (by decide), i_dv (Int.le_trans (by decide) i4.1) (by decide)⟩ (fun x9 qi10 => ?_)
      obtain ⟨i10, ei10⟩ := qi10
      refine tt_bb ?_
      try unfold fM_in
      try unfold fM_in_0
      refine tt_bif (fun c11 => ?_) (fun c11 => ?_)
      · have wc11 : x9.toInt < (1 : Int) := c_lt c11
        exact (dd_lt c11 i10 (show (1 : Int) ≤ (1 : Int32).toInt ∧ (1 : Int32).toInt ≤ 1 by decide) (by decide)).elim
      · have wc11 : (1 : Int) ≤ x9.toInt := c_nlt c11
        refine tt_bif (fun c12 => ?_) (fun c12 => ?_)
        · have wc12 : (o0.1 39).toInt < x9.toInt := c_lt c12
          try unfold fM_in_14
          try unfold fM_in_15
          refine tt_bw (iv_b (show (0 : Int) ≤ (0 : Int32).toInt ∧ (0 : Int32).toInt ≤ 0 by decide) (by decide) (by decide)) ?_
          refine tt_bs ?_
          refine tt_bif (fun c13 => ?_) (fun c13 => ?_)
          · have wc13 : (0 : Int) = (0 : Int) := c_eq c13
            try unfold fM_isGiven_24
            try unfold fM_isGiven_25
            refine tt_bw (iv_b (show (0 : Int) ≤ (0 : Int32).toInt ∧ (0 : Int32).toInt ≤ 0 by decide) (by decide) (by decide)) ?_
            refine tt_bs ?_
            refine tt_if (fun c14 => ?_) (fun c14 => ?_)
            · have wc14 : (0 : Int) = (0 : Int) := c_eq c14
              refine tt_kv (P := fun z => ((2 : Int) ≤ z.toInt ∧ z.toInt ≤ 417) ∧ z.toInt = v1.toInt + 1 - 2 * (v1.toInt % 2)) ⟨iv_x1 i_v1 (show (1 : Int) ≤ (1 : Int32).toInt ∧ (1 : Int32).toInt ≤ 1 by decide) (by decide) (by decide) (by decide) (by decide) (by decide), i_x1 (Int.le_trans (by decide) i_v1.1)⟩ (fun x15 qi16 => ?_)
              obtain ⟨i16, ei16⟩ := qi16
              refine tt_n (ix_ok i16 (by decide) (by decide)) ?_
              refine tt_kv (P := fun z => ((0 : Int) ≤ z.toInt ∧ z.toInt ≤ 1) ∧ z.toInt = (o0.2.1 88 x15.toNatClampNeg).toInt) ⟨(k_o0.2 88 _), rfl⟩ (fun x17 qi18 => ?_)
              obtain ⟨i18, ei18⟩ := qi18
              refine tt_if (fun c19 => ?_) (fun c19 => ?_)
              · have wc19 : x17.toInt = (0 : Int) := c_eq c19
                have i20 : (0 : Int) ≤ x17.toInt ∧ x17.toInt ≤ 0 := nr_eql c19 i18 (show (0 : Int) ≤ (0 : Int32).toInt ∧ (0 : Int32).toInt ≤ 0 by decide) (by decide) (by decide)
                try unfold fM_make_82
                refine tt_if (fun c21 => ?_) (fun c21 => ?_)
                · have wc21 : (0 : Int) = (0 : Int) := c_eq c21
                  refine tt_kv (P := fun z => ((2 : Int) ≤ z.toInt ∧ z.toInt ≤ 417) ∧ z.toInt = v1.toInt + 1 - 2 * (v1.toInt % 2)) ⟨iv_x1 i_v1 (show (1 : Int) ≤ (1 : Int32).toInt ∧ (1 : Int32).toInt ≤ 1 by decide) (by decide) (by decide) (by decide) (by decide) (by decide), i_x1 (Int.le_trans (by decide) i_v1.1)⟩ (fun x22 qi23 => ?_)
                  obtain ⟨i23, ei23⟩ := qi23
                  refine tt_kv (P := fun z => ((10 : Int) ≤ z.toInt ∧ z.toInt ≤ 2085) ∧ z.toInt = 5 * x22.toInt) ⟨iv_mul (show (5 : Int) ≤ (5 : Int32).toInt ∧ (5 : Int32).toInt ≤ 5 by decide) i23 (by decide) (by decide) (by decide) (by decide) (by decide), iq_mul (show (5 : Int) ≤ (5 : Int32).toInt ∧ (5 : Int32).toInt ≤ 5 by decide) i23 (by decide) (by decide) (by decide) (by decide)⟩ (fun x24 qi25 => ?_)
                  obtain ⟨i25, ei25⟩ := qi25
                  refine tt_n (ix_ok i25 (by decide) (by decide)) ?_
                  refine tt_kv (P := fun z => (((-2147483648) : Int) ≤ z.toInt ∧ z.toInt ≤ 2147483647) ∧ z.toInt = (o0.2.1 89 x24.toNatClampNeg).toInt) ⟨(k_o0.2 89 _), rfl⟩ (fun x26 qi27 => ?_)
                  obtain ⟨i27, ei27⟩ := qi27
                  have t28 := tn_n x24
                  have t29 := x_1 (x24.toNatClampNeg)
                  try unfold fM_make_101
                  have p30 : Md (o0.1 39).toInt (o0.2.1 84) (o0.2.1 86) (o0.2.1 87) (o0.2.1 88) := by exact Mc_e x_4 x_3 (by omega) (by first | exact Or.inl (by omega) | exact Or.inr (show (o0.2.1 86 v1.toNatClampNeg).toInt = 0 by omega))
                  have p31 : Cm 0 v1.toInt (o0.1 39).toInt (o0.2.1 88) := by first | exact Or.inl rfl | exact Cm_g (by omega) | (refine Cm_h ?_ ?_ (by assumption) (by assumption) <;> omega)
                  exact H.2 _ _ _ _ _ k_o0 r_o0 i_v1 (iv_w (a := 0) (b := 1) (by decide) (by decide) (show (0 : Int) ≤ (0 : Int32).toInt ∧ (0 : Int32).toInt ≤ 0 by decide)) (iv_w (a := 0) (b := 12) (by decide) (by decide) (show (0 : Int) ≤ (0 : Int32).toInt ∧ (0 : Int32).toInt ≤ 0 by decide)) f_o0_0 f_o0_38 f_o0_78 f_o0_95 x_0 x_1 x_2 x_3 p30 x_5 x_6 (show v1.toInt = yv1.toInt by omega) (show 2 ≤ v1.toInt by omega) (show v1.toInt ≤ 417 by omega) p31 (show 0 + (12 - 0) * 2 < (n : Int) by omega)
                · have wc21 : ¬ (0 : Int) = (0 : Int) := c_ne c21
                  exact (dd_ne c21 (show (0 : Int) ≤ (0 : Int32).toInt ∧ (0 : Int32).toInt ≤ 0 by decide) (show (0 : Int) ≤ (0 : Int32).toInt ∧ (0 : Int32).toInt ≤ 0 by decide)).elim
              · have wc19 : ¬ x17.toInt = (0 : Int) := c_ne c19
                have i32 : (1 : Int) ≤ x17.toInt ∧ x17.toInt ≤ 1 := nr_nela c19 i18 (show (0 : Int) ≤ (0 : Int32).toInt ∧ (0 : Int32).toInt ≤ 0 by decide) (by decide) (by decide)
                try unfold fM_make_77
                try unfold fM_make_82
                refine tt_if (fun c33 => ?_) (fun c33 => ?_)
                · have wc33 : (0 : Int) = (0 : Int) := c_eq c33
                  refine tt_kv (P := fun z => ((2 : Int) ≤ z.toInt ∧ z.toInt ≤ 417) ∧ z.toInt = v1.toInt + 1 - 2 * (v1.toInt % 2)) ⟨iv_x1 i_v1 (show (1 : Int) ≤ (1 : Int32).toInt ∧ (1 : Int32).toInt ≤ 1 by decide) (by decide) (by decide) (by decide) (by decide) (by decide), i_x1 (Int.le_trans (by decide) i_v1.1)⟩ (fun x34 qi35 => ?_)
                  obtain ⟨i35, ei35⟩ := qi35
                  refine tt_kv (P := fun z => ((10 : Int) ≤ z.toInt ∧ z.toInt ≤ 2085) ∧ z.toInt = 5 * x34.toInt) ⟨iv_mul (show (5 : Int) ≤ (5 : Int32).toInt ∧ (5 : Int32).toInt ≤ 5 by decide) i35 (by decide) (by decide) (by decide) (by decide) (by decide), iq_mul (show (5 : Int) ≤ (5 : Int32).toInt ∧ (5 : Int32).toInt ≤ 5 by decide) i35 (by decide) (by decide) (by decide) (by decide)⟩ (fun x36 qi37 => ?_)
                  obtain ⟨i37, ei37⟩ := qi37
                  refine tt_n (ix_ok i37 (by decide) (by decide)) ?_
                  refine tt_kv (P := fun z => (((-2147483648) : Int) ≤ z.toInt ∧ z.toInt ≤ 2147483647) ∧ z.toInt = (o0.2.1 89 x36.toNatClampNeg).toInt) ⟨(k_o0.2 89 _), rfl⟩ (fun x38 qi39 => ?_)
                  obtain ⟨i39, ei39⟩ := qi39
                  have t40 := tn_n x36
                  have t41 := x_1 (x36.toNatClampNeg)
                  try unfold fM_make_101
                  have p42 : Md (o0.1 39).toInt (o0.2.1 84) (o0.2.1 86) (o0.2.1 87) (o0.2.1 88) := by exact Mc_e x_4 x_3 (by omega) (by first | exact Or.inl (by omega) | exact Or.inr (show (o0.2.1 86 v1.toNatClampNeg).toInt = 0 by omega))
                  have p43 : Cm 1 v1.toInt (o0.1 39).toInt (o0.2.1 88) := by first | exact Or.inl rfl | exact Cm_g (by omega) | (refine Cm_h ?_ ?_ (by assumption) (by assumption) <;> omega)
                  exact H.2 _ _ _ _ _ k_o0 r_o0 i_v1 (iv_w (a := 0) (b := 1) (by decide) (by decide) (show (1 : Int) ≤ (1 : Int32).toInt ∧ (1 : Int32).toInt ≤ 1 by decide)) (iv_w (a := 0) (b := 12) (by decide) (by decide) (show (0 : Int) ≤ (0 : Int32).toInt ∧ (0 : Int32).toInt ≤ 0 by decide)) f_o0_0 f_o0_38 f_o0_78 f_o0_95 x_0 x_1 x_2 x_3 p42 x_5 x_6 (show v1.toInt = yv1.toInt by omega) (show 2 ≤ v1.toInt by omega) (show v1.toInt ≤ 417 by omega) p43 (show 0 + (12 - 0) * 2 < (n : Int) by omega)
                · have wc33 : ¬ (0 : Int) = (0 : Int) := c_ne c33
                  exact (dd_ne c33 (show (0 : Int) ≤ (0 : Int32).toInt ∧ (0 : Int32).toInt ≤ 0 by decide) (show (0 : Int) ≤ (0 : Int32).toInt ∧ (0 : Int32).toInt ≤ 0 by decide)).elim
            · have wc14 : ¬ (0 : Int) = (0 : Int) := c_ne c14
              exact (dd_ne c14 (show (0 : Int) ≤ (0 : Int32).toInt ∧ (0 : Int32).toInt ≤ 0 by decide) (show (0 : Int) ≤ (0 : Int32).toInt ∧ (0 : Int32).toInt ≤ 0 by decide)).elim
          · have wc13 : ¬ (0 : Int) = (0 : Int) := c_ne c13
            exact (dd_ne c13 (show (0 : Int) ≤ (0 : Int32).toInt ∧ (0 : Int32).toInt ≤ 0 by decide) (show (0 : Int) ≤ (0 : Int32).toInt ∧ (0 : Int32).toInt ≤ 0 by decide)).elim
        · have wc12 : x9.toInt ≤ (o0.1 39).toInt := c_nlt c12
          have i44 : (1 : Int) ≤ x9.toInt ∧ x9.toInt ≤ 8 := nr_nltl c12 i10 (k_o0.1 39) (by decide) (by decide)
          have i45 : (1 : Int) ≤ (o0.1 39).toInt ∧ (o0.1 39).toInt ≤ 8 := nr_nltr c12 i10 (k_o0.1 39) (by decide) (by decide)
          try unfold fM_in_15
          refine tt_bw (iv_b (show (1 : Int) ≤ (1 : Int32).toInt ∧ (1 : Int32).toInt ≤ 1 by decide) (by decide) (by decide)) ?_
          refine tt_bs ?_
          refine tt_bif (fun c46 => ?_) (fun c46 => ?_)
          · have wc46 : (1 : Int) = (0 : Int) := c_eq c46
            exact (dd_eq c46 (show (1 : Int) ≤ (1 : Int32).toInt ∧ (1 : Int32).toInt ≤ 1 by decide) (show (0 : Int) ≤ (0 : Int32).toInt ∧ (0 : Int32).toInt ≤ 0 by decide) (by decide)).elim
          · have wc46 : ¬ (1 : Int) = (0 : Int) := c_ne c46
            try unfold fM_isGiven_25
            refine tt_bw (iv_b (show (1 : Int) ≤ (1 : Int32).toInt ∧ (1 : Int32).toInt ≤ 1 by decide) (by decide) (by decide)) ?_
            refine tt_bs ?_
            refine tt_if (fun c47 => ?_) (fun c47 => ?_)
            · have wc47 : (1 : Int) = (0 : Int) := c_eq c47
              exact (dd_eq c47 (show (1 : Int) ≤ (1 : Int32).toInt ∧ (1 : Int32).toInt ≤ 1 by decide) (show (0 : Int) ≤ (0 : Int32).toInt ∧ (0 : Int32).toInt ≤ 0 by decide) (by decide)).elim
            · have wc47 : ¬ (1 : Int) = (0 : Int) := c_ne c47
              try unfold fM_make_77
              try unfold fM_make_82
              refine tt_if (fun c48 => ?_) (fun c48 => ?_)
              · have wc48 : (1 : Int) = (0 : Int) := c_eq c48
                exact (dd_eq c48 (show (1 : Int) ≤ (1 : Int32).toInt ∧ (1 : Int32).toInt ≤ 1 by decide) (show (0 : Int) ≤ (0 : Int32).toInt ∧ (0 : Int32).toInt ≤ 0 by decide) (by decide)).elim
              · have wc48 : ¬ (1 : Int) = (0 : Int) := c_ne c48
                try unfold fM_make_101
                have p49 : Md (o0.1 39).toInt (o0.2.1 84) (o0.2.1 86) (o0.2.1 87) (o0.2.1 88) := by exact Mc_e x_4 x_3 (by omega) (by first | exact Or.inl (by omega) | exact Or.inr (show (o0.2.1 86 v1.toNatClampNeg).toInt = 0 by omega))
                have p50 : Cm 1 v1.toInt (o0.1 39).toInt (o0.2.1 88) := by first | exact Or.inl rfl | exact Cm_g (by omega) | (refine Cm_h ?_ ?_ (by assumption) (by assumption) <;> omega)
                exact H.2 _ _ _ _ _ k_o0 r_o0 i_v1 (iv_w (a := 0) (b := 1) (by decide) (by decide) (show (1 : Int) ≤ (1 : Int32).toInt ∧ (1 : Int32).toInt ≤ 1 by decide)) (iv_w (a := 0) (b := 12) (by decide) (by decide) (show (0 : Int) ≤ (0 : Int32).toInt ∧ (0 : Int32).toInt ≤ 0 by decide)) f_o0_0 f_o0_38 f_o0_78 f_o0_95 x_0 x_1 x_2 x_3 p49 x_5 x_6 (show v1.toInt = yv1.toInt by omega) (show 2 ≤ v1.toInt by omega) (show v1.toInt ≤ 417 by omega) p50 (show 0 + (12 - 0) * 2 < (n : Int) by omega)
    · have wc7 : ¬ x5.toInt = (0 : Int) := c_ne c7
      have i51 : (1 : Int) ≤ x5.toInt ∧ x5.toInt ≤ 1 := nr_nela c7 i6 (show (0 : Int) ≤ (0 : Int32).toInt ∧ (0 : Int32).toInt ≤ 0 by decide) (by decide) (by decide)
      try unfold fM_isGiven_24
      try unfold fM_isGiven_25
      refine tt_bw (iv_b (show (0 : Int) ≤ (0 : Int32).toInt ∧ (0 : Int32).toInt ≤ 0 by decide) (by decide) (by decide)) ?_
      refine tt_bs ?_
      refine tt_if (fun c52 => ?_) (fun c52 => ?_)
      · have wc52 : (0 : Int) = (0 : Int) := c_eq c52
        refine tt_kv (P := fun z => ((2 : Int) ≤ z.toInt ∧ z.toInt ≤ 417) ∧ z.toInt = v1.toInt + 1 - 2 * (v1.toInt % 2)) ⟨iv_x1 i_v1 (show (1 : Int) ≤ (1 : Int32).toInt ∧ (1 : Int32).toInt ≤ 1 by decide) (by decide) (by decide) (by decide) (by decide) (by decide), i_x1 (Int.le_trans (by decide) i_v1.1)⟩ (fun x53 qi54 => ?_)
        obtain ⟨i54, ei54⟩ := qi54
        refine tt_n (ix_ok i54 (by decide) (by decide)) ?_
        refine tt_kv (P := fun z => ((0 : Int) ≤ z.toInt ∧ z.toInt ≤ 1) ∧ z.toInt = (o0.2.1 88 x53.toNatClampNeg).toInt) ⟨(k_o0.2 88 _), rfl⟩ (fun x55 qi56 => ?_)
        obtain ⟨i56, ei56⟩ := qi56
        refine tt_if (fun c57 => ?_) (fun c57 => ?_)
        · have wc57 : x55.toInt = (0 : Int) := c_eq c57
          have i58 : (0 : Int) ≤ x55.toInt ∧ x55.toInt ≤ 0 := nr_eql c57 i56 (show (0 : Int) ≤ (0 : Int32).toInt ∧ (0 : Int32).toInt ≤ 0 by decide) (by decide) (by decide)
          try unfold fM_make_82
          refine tt_if (fun c59 => ?_) (fun c59 => ?_)
          · have wc59 : (0 : Int) = (0 : Int) := c_eq c59
            refine tt_kv (P := fun z => ((2 : Int) ≤ z.toInt ∧ z.toInt ≤ 417) ∧ z.toInt = v1.toInt + 1 - 2 * (v1.toInt % 2)) ⟨iv_x1 i_v1 (show (1 : Int) ≤ (1 : Int32).toInt ∧ (1 : Int32).toInt ≤ 1 by decide) (by decide) (by decide) (by decide) (by decide) (by decide), i_x1 (Int.le_trans (by decide) i_v1.1)⟩ (fun x60 qi61 => ?_)
            obtain ⟨i61, ei61⟩ := qi61
            refine tt_kv (P := fun z => ((10 : Int) ≤ z.toInt ∧ z.toInt ≤ 2085) ∧ z.toInt = 5 * x60.toInt) ⟨iv_mul (show (5 : Int) ≤ (5 : Int32).toInt ∧ (5 : Int32).toInt ≤ 5 by decide) i61 (by decide) (by decide) (by decide) (by decide) (by decide), iq_mul (show (5 : Int) ≤ (5 : Int32).toInt ∧ (5 : Int32).toInt ≤ 5 by decide) i61 (by decide) (by decide) (by decide) (by decide)⟩ (fun x62 qi63 => ?_)
            obtain ⟨i63, ei63⟩ := qi63
            refine tt_n (ix_ok i63 (by decide) (by decide)) ?_
            refine tt_kv (P := fun z => (((-2147483648) : Int) ≤ z.toInt ∧ z.toInt ≤ 2147483647) ∧ z.toInt = (o0.2.1 89 x62.toNatClampNeg).toInt) ⟨(k_o0.2 89 _), rfl⟩ (fun x64 qi65 => ?_)
            obtain ⟨i65, ei65⟩ := qi65
            have t66 := tn_n x62
            have t67 := x_1 (x62.toNatClampNeg)
            try unfold fM_make_101
            have p68 : Md (o0.1 39).toInt (o0.2.1 84) (o0.2.1 86) (o0.2.1 87) (o0.2.1 88) := by exact Mc_e x_4 x_3 (by omega) (by first | exact Or.inl (by omega) | exact Or.inr (show (o0.2.1 86 v1.toNatClampNeg).toInt = 0 by omega))
            have p69 : Cm 0 v1.toInt (o0.1 39).toInt (o0.2.1 88) := by first | exact Or.inl rfl | exact Cm_g (by omega) | (refine Cm_h ?_ ?_ (by assumption) (by assumption) <;> omega)
            exact H.2 _ _ _ _ _ k_o0 r_o0 i_v1 (iv_w (a := 0) (b := 1) (by decide) (by decide) (show (0 : Int) ≤ (0 : Int32).toInt ∧ (0 : Int32).toInt ≤ 0 by decide)) (iv_w (a := 0) (b := 12) (by decide) (by decide) (show (0 : Int) ≤ (0 : Int32).toInt ∧ (0 : Int32).toInt ≤ 0 by decide)) f_o0_0 f_o0_38 f_o0_78 f_o0_95 x_0 x_1 x_2 x_3 p68 x_5 x_6 (show v1.toInt = yv1.toInt by omega) (show 2 ≤ v1.toInt by omega) (show v1.toInt ≤ 417 by omega) p69 (show 0 + (12 - 0) * 2 < (n : Int) by omega)
          · have wc59 : ¬ (0 : Int) = (0 : Int) := c_ne c59
            exact (dd_ne c59 (show (0 : Int) ≤ (0 : Int32).toInt ∧ (0 : Int32).toInt ≤ 0 by decide) (show (0 : Int) ≤ (0 : Int32).toInt ∧ (0 : Int32).toInt ≤ 0 by decide)).elim
        · have wc57 : ¬ x55.toInt = (0 : Int) := c_ne c57
          have i70 : (1 : Int) ≤ x55.toInt ∧ x55.toInt ≤ 1 := nr_nela c57 i56 (show (0 : Int) ≤ (0 : Int32).toInt ∧ (0 : Int32).toInt ≤ 0 by decide) (by decide) (by decide)
          try unfold fM_make_77
          try unfold fM_make_82
          refine tt_if (fun c71 => ?_) (fun c71 => ?_)
          · have wc71 : (0 : Int) = (0 : Int) := c_eq c71
            refine tt_kv (P := fun z => ((2 : Int) ≤ z.toInt ∧ z.toInt ≤ 417) ∧ z.toInt = v1.toInt + 1 - 2 * (v1.toInt % 2)) ⟨iv_x1 i_v1 (show (1 : Int) ≤ (1 : Int32).toInt ∧ (1 : Int32).toInt ≤ 1 by decide) (by decide) (by decide) (by decide) (by decide) (by decide), i_x1 (Int.le_trans (by decide) i_v1.1)⟩ (fun x72 qi73 => ?_)
            obtain ⟨i73, ei73⟩ := qi73
            refine tt_kv (P := fun z => ((10 : Int) ≤ z.toInt ∧ z.toInt ≤ 2085) ∧ z.toInt = 5 * x72.toInt) ⟨iv_mul (show (5 : Int) ≤ (5 : Int32).toInt ∧ (5 : Int32).toInt ≤ 5 by decide) i73 (by decide) (by decide) (by decide) (by decide) (by decide), iq_mul (show (5 : Int) ≤ (5 : Int32).toInt ∧ (5 : Int32).toInt ≤ 5 by decide) i73 (by decide) (by decide) (by decide) (by decide)⟩ (fun x74 qi75 => ?_)
            obtain ⟨i75, ei75⟩ := qi75
            refine tt_n (ix_ok i75 (by decide) (by decide)) ?_
            refine tt_kv (P := fun z => (((-2147483648) : Int) ≤ z.toInt ∧ z.toInt ≤ 2147483647) ∧ z.toInt = (o0.2.1 89 x74.toNatClampNeg).toInt) ⟨(k_o0.2 89 _), rfl⟩ (fun x76 qi77 => ?_)
            obtain ⟨i77, ei77⟩ := qi77
            have t78 := tn_n x74
            have t79 := x_1 (x74.toNatClampNeg)
            try unfold fM_make_101
            have p80 : Md (o0.1 39).toInt (o0.2.1 84) (o0.2.1 86) (o0.2.1 87) (o0.2.1 88) := by exact Mc_e x_4 x_3 (by omega) (by first | exact Or.inl (by omega) | exact Or.inr (show (o0.2.1 86 v1.toNatClampNeg).toInt = 0 by omega))
            have p81 : Cm 1 v1.toInt (o0.1 39).toInt (o0.2.1 88) := by first | exact Or.inl rfl | exact Cm_g (by omega) | (refine Cm_h ?_ ?_ (by assumption) (by assumption) <;> omega)
            exact H.2 _ _ _ _ _ k_o0 r_o0 i_v1 (iv_w (a := 0) (b := 1) (by decide) (by decide) (show (1 : Int) ≤ (1 : Int32).toInt ∧ (1 : Int32).toInt ≤ 1 by decide)) (iv_w (a := 0) (b := 12) (by decide) (by decide) (show (0 : Int) ≤ (0 : Int32).toInt ∧ (0 : Int32).toInt ≤ 0 by decide)) f_o0_0 f_o0_38 f_o0_78 f_o0_95 x_0 x_1 x_2 x_3 p80 x_5 x_6 (show v1.toInt = yv1.toInt by omega) (show 2 ≤ v1.toInt by omega) (show v1.toInt ≤ 417 by omega) p81 (show 0 + (12 - 0) * 2 < (n : Int) by omega)
          · have wc71 : ¬ (0 : Int) = (0 : Int) := c_ne c71
            exact (dd_ne c71 (show (0 : Int) ≤ (0 : Int32).toInt ∧ (0 : Int32).toInt ≤ 0 by decide) (show (0 : Int) ≤ (0 : Int32).toInt ∧ (0 : Int32).toInt ≤ 0 by decide)).elim
      · have wc52 : ¬ (0 : Int) = (0 : Int) := c_ne c52
        exact (dd_ne c52 (show (0 : Int) ≤ (0 : Int32).toInt ∧ (0 : Int32).toInt ≤ 0 by decide) (show (0 : Int) ≤ (0 : Int32).toInt ∧ (0 : Int32).toInt ≤ 0 by decide)).elim
  · have wc1 : v2.toInt < (5 : Int) := c_nle c1
    have i82 : (0 : Int) ≤ v2.toInt ∧ v2.toInt ≤ 4 := nr_nlel c1 i_v2 (show (5 : Int) ≤ (5 : Int32).toInt ∧ (5 : Int32).toInt ≤ 5 by decide) (by decide) (by decide)
    refine tt_n (ix_ok i_v1 (by decide) (by decide)) ?_
    refine tt_kv (P := fun z => ((0 : Int) ≤ z.toInt ∧ z.toInt ≤ 1) ∧ z.toInt = (o0.2.1 86 v1.toNatClampNeg).toInt) ⟨(k_o0.2 86 _), rfl⟩ (fun x83 qi84 => ?_)
    obtain ⟨i84, ei84⟩ := qi84
    refine tt_if (fun c85 => ?_) (fun c85 => ?_)
    · have wc85 : x83.toInt = (0 : Int) := c_eq c85
      have i86 : (0 : Int) ≤ x83.toInt ∧ x83.toInt ≤ 0 := nr_eql c85 i84 (show (0 : Int) ≤ (0 : Int32).toInt ∧ (0 : Int32).toInt ≤ 0 by decide) (by decide) (by decide)
      try unfold fM_make_54
      refine tt_kv (P := fun z => ((2 : Int) ≤ z.toInt ∧ z.toInt ≤ 417) ∧ z.toInt = v1.toInt + 1 - 2 * (v1.toInt % 2)) ⟨iv_x1 i_v1 (show (1 : Int) ≤ (1 : Int32).toInt ∧ (1 : Int32).toInt ≤ 1 by decide) (by decide) (by decide) (by decide) (by decide) (by decide), i_x1 (Int.le_trans (by decide) i_v1.1)⟩ (fun x87 qi88 => ?_)
      obtain ⟨i88, ei88⟩ := qi88
      try unfold fM_isGiven
      try unfold fM_isGiven_0
      refine tt_bkv (P := fun z => ((0 : Int) ≤ z.toInt ∧ z.toInt ≤ 1) ∧ z.toInt = x87.toInt % 2) ⟨iv_rem (k := 2) i88 (show (2 : Int) ≤ (2 : Int32).toInt ∧ (2 : Int32).toInt ≤ 2 by decide) (by decide) (by decide) (by decide) (by decide), i_rem (x := x87) (y := 2) (Int.le_trans (by decide) i88.1) (by decide)⟩ (fun x89 qi90 => ?_)
      obtain ⟨i90, ei90⟩ := qi90
      refine tt_bif (fun c91 => ?_) (fun c91 => ?_)
      · have wc91 : x89.toInt = (0 : Int) := c_eq c91
        have i92 : (0 : Int) ≤ x89.toInt ∧ x89.toInt ≤ 0 := nr_eql c91 i90 (show (0 : Int) ≤ (0 : Int32).toInt ∧ (0 : Int32).toInt ≤ 0 by decide) (by decide) (by decide)
        refine tt_bkv (P := fun z => ((1 : Int) ≤ z.toInt ∧ z.toInt ≤ 208) ∧ z.toInt = x87.toInt / 2) ⟨iv_div (k := 2) i88 (show (2 : Int) ≤ (2 : Int32).toInt ∧ (2 : Int32).toInt ≤ 2 by decide) (by decide) (by decide) (by decide) (by decide), i_dv (Int.le_trans (by decide) i88.1) (by decide)⟩ (fun x93 qi94 => ?_)
        obtain ⟨i94, ei94⟩ := qi94
        refine tt_bb ?_
        try unfold fM_in
        try unfold fM_in_0
        refine tt_bif (fun c95 => ?_) (fun c95 => ?_)
        · have wc95 : x93.toInt < (1 : Int) := c_lt c95
          exact (dd_lt c95 i94 (show (1 : Int) ≤ (1 : Int32).toInt ∧ (1 : Int32).toInt ≤ 1 by decide) (by decide)).elim
        · have wc95 : (1 : Int) ≤ x93.toInt := c_nlt c95
          refine tt_bif (fun c96 => ?_) (fun c96 => ?_)
          · have wc96 : (o0.1 39).toInt < x93.toInt := c_lt c96
            try unfold fM_in_14
            try unfold fM_in_15
            refine tt_bw (iv_b (show (0 : Int) ≤ (0 : Int32).toInt ∧ (0 : Int32).toInt ≤ 0 by decide) (by decide) (by decide)) ?_
            refine tt_bs ?_
            refine tt_bif (fun c97 => ?_) (fun c97 => ?_)
            · have wc97 : (0 : Int) = (0 : Int) := c_eq c97
              try unfold fM_isGiven_24
              try unfold fM_isGiven_25
              refine tt_bw (iv_b (show (0 : Int) ≤ (0 : Int32).toInt ∧ (0 : Int32).toInt ≤ 0 by decide) (by decide) (by decide)) ?_
              refine tt_bs ?_
              refine tt_if (fun c98 => ?_) (fun c98 => ?_)
              · have wc98 : (0 : Int) = (0 : Int) := c_eq c98
                refine tt_kv (P := fun z => ((2 : Int) ≤ z.toInt ∧ z.toInt ≤ 417) ∧ z.toInt = v1.toInt + 1 - 2 * (v1.toInt % 2)) ⟨iv_x1 i_v1 (show (1 : Int) ≤ (1 : Int32).toInt ∧ (1 : Int32).toInt ≤ 1 by decide) (by decide) (by decide) (by decide) (by decide) (by decide), i_x1 (Int.le_trans (by decide) i_v1.1)⟩ (fun x99 qi100 => ?_)
                obtain ⟨i100, ei100⟩ := qi100
                refine tt_n (ix_ok i100 (by decide) (by decide)) ?_
                refine tt_kv (P := fun z => ((0 : Int) ≤ z.toInt ∧ z.toInt ≤ 1) ∧ z.toInt = (o0.2.1 88 x99.toNatClampNeg).toInt) ⟨(k_o0.2 88 _), rfl⟩ (fun x101 qi102 => ?_)
                obtain ⟨i102, ei102⟩ := qi102
                refine tt_if (fun c103 => ?_) (fun c103 => ?_)
                · have wc103 : x101.toInt = (0 : Int) := c_eq c103
                  have i104 : (0 : Int) ≤ x101.toInt ∧ x101.toInt ≤ 0 := nr_eql c103 i102 (show (0 : Int) ≤ (0 : Int32).toInt ∧ (0 : Int32).toInt ≤ 0 by decide) (by decide) (by decide)
                  try unfold fM_make_82
                  refine tt_if (fun c105 => ?_) (fun c105 => ?_)
                  · have wc105 : (0 : Int) = (0 : Int) := c_eq c105
                    refine tt_kv (P := fun z => ((2 : Int) ≤ z.toInt ∧ z.toInt ≤ 417) ∧ z.toInt = v1.toInt + 1 - 2 * (v1.toInt % 2)) ⟨iv_x1 i_v1 (show (1 : Int) ≤ (1 : Int32).toInt ∧ (1 : Int32).toInt ≤ 1 by decide) (by decide) (by decide) (by decide) (by decide) (by decide), i_x1 (Int.le_trans (by decide) i_v1.1)⟩ (fun x106 qi107 => ?_)
                    obtain ⟨i107, ei107⟩ := qi107
                    refine tt_kv (P := fun z => ((10 : Int) ≤ z.toInt ∧ z.toInt ≤ 2085) ∧ z.toInt = 5 * x106.toInt) ⟨iv_mul (show (5 : Int) ≤ (5 : Int32).toInt ∧ (5 : Int32).toInt ≤ 5 by decide) i107 (by decide) (by decide) (by decide) (by decide) (by decide), iq_mul (show (5 : Int) ≤ (5 : Int32).toInt ∧ (5 : Int32).toInt ≤ 5 by decide) i107 (by decide) (by decide) (by decide) (by decide)⟩ (fun x108 qi109 => ?_)
                    obtain ⟨i109, ei109⟩ := qi109
                    refine tt_n (ix_ok i109 (by decide) (by decide)) ?_
                    refine tt_kv (P := fun z => (((-2147483648) : Int) ≤ z.toInt ∧ z.toInt ≤ 2147483647) ∧ z.toInt = (o0.2.1 89 x108.toNatClampNeg).toInt) ⟨(k_o0.2 89 _), rfl⟩ (fun x110 qi111 => ?_)
                    obtain ⟨i111, ei111⟩ := qi111
                    have t112 := tn_n x108
                    have t113 := x_1 (x108.toNatClampNeg)
                    try unfold fM_make_101
                    have p114 : Md (o0.1 39).toInt (o0.2.1 84) (o0.2.1 86) (o0.2.1 87) (o0.2.1 88) := by exact Mc_e x_4 x_3 (by omega) (by first | exact Or.inl (by omega) | exact Or.inr (show (o0.2.1 86 v1.toNatClampNeg).toInt = 0 by omega))
                    have p115 : Cm 0 v1.toInt (o0.1 39).toInt (o0.2.1 88) := by first | exact Or.inl rfl | exact Cm_g (by omega) | (refine Cm_h ?_ ?_ (by assumption) (by assumption) <;> omega)
                    exact H.2 _ _ _ _ _ k_o0 r_o0 i_v1 (iv_w (a := 0) (b := 1) (by decide) (by decide) (show (0 : Int) ≤ (0 : Int32).toInt ∧ (0 : Int32).toInt ≤ 0 by decide)) (iv_w (a := 0) (b := 12) (by decide) (by decide) (show (0 : Int) ≤ (0 : Int32).toInt ∧ (0 : Int32).toInt ≤ 0 by decide)) f_o0_0 f_o0_38 f_o0_78 f_o0_95 x_0 x_1 x_2 x_3 p114 x_5 x_6 (show v1.toInt = yv1.toInt by omega) (show 2 ≤ v1.toInt by omega) (show v1.toInt ≤ 417 by omega) p115 (show 0 + (12 - 0) * 2 < (n : Int) by omega)
                  · have wc105 : ¬ (0 : Int) = (0 : Int) := c_ne c105
                    exact (dd_ne c105 (show (0 : Int) ≤ (0 : Int32).toInt ∧ (0 : Int32).toInt ≤ 0 by decide) (show (0 : Int) ≤ (0 : Int32).toInt ∧ (0 : Int32).toInt ≤ 0 by decide)).elim
                · have wc103 : ¬ x101.toInt = (0 : Int) := c_ne c103
                  have i116 : (1 : Int) ≤ x101.toInt ∧ x101.toInt ≤ 1 := nr_nela c103 i102 (show (0 : Int) ≤ (0 : Int32).toInt ∧ (0 : Int32).toInt ≤ 0 by decide) (by decide) (by decide)
                  try unfold fM_make_77
                  try unfold fM_make_82
                  refine tt_if (fun c117 => ?_) (fun c117 => ?_)
                  · have wc117 : (0 : Int) = (0 : Int) := c_eq c117
                    refine tt_kv (P := fun z => ((2 : Int) ≤ z.toInt ∧ z.toInt ≤ 417) ∧ z.toInt = v1.toInt + 1 - 2 * (v1.toInt % 2)) ⟨iv_x1 i_v1 (show (1 : Int) ≤ (1 : Int32).toInt ∧ (1 : Int32).toInt ≤ 1 by decide) (by decide) (by decide) (by decide) (by decide) (by decide), i_x1 (Int.le_trans (by decide) i_v1.1)⟩ (fun x118 qi119 => ?_)
                    obtain ⟨i119, ei119⟩ := qi119
                    refine tt_kv (P := fun z => ((10 : Int) ≤ z.toInt ∧ z.toInt ≤ 2085) ∧ z.toInt = 5 * x118.toInt) ⟨iv_mul (show (5 : Int) ≤ (5 : Int32).toInt ∧ (5 : Int32).toInt ≤ 5 by decide) i119 (by decide) (by decide) (by decide) (by decide) (by decide), iq_mul (show (5 : Int) ≤ (5 : Int32).toInt ∧ (5 : Int32).toInt ≤ 5 by decide) i119 (by decide) (by decide) (by decide) (by decide)⟩ (fun x120 qi121 => ?_)
                    obtain ⟨i121, ei121⟩ := qi121
                    refine tt_n (ix_ok i121 (by decide) (by decide)) ?_
                    refine tt_kv (P := fun z => (((-2147483648) : Int) ≤ z.toInt ∧ z.toInt ≤ 2147483647) ∧ z.toInt = (o0.2.1 89 x120.toNatClampNeg).toInt) ⟨(k_o0.2 89 _), rfl⟩ (fun x122 qi123 => ?_)
                    obtain ⟨i123, ei123⟩ := qi123
                    have t124 := tn_n x120
                    have t125 := x_1 (x120.toNatClampNeg)
                    try unfold fM_make_101
                    have p126 : Md (o0.1 39).toInt (o0.2.1 84) (o0.2.1 86) (o0.2.1 87) (o0.2.1 88) := by exact Mc_e x_4 x_3 (by omega) (by first | exact Or.inl (by omega) | exact Or.inr (show (o0.2.1 86 v1.toNatClampNeg).toInt = 0 by omega))
                    have p127 : Cm 1 v1.toInt (o0.1 39).toInt (o0.2.1 88) := by first | exact Or.inl rfl | exact Cm_g (by omega) | (refine Cm_h ?_ ?_ (by assumption) (by assumption) <;> omega)
                    exact H.2 _ _ _ _ _ k_o0 r_o0 i_v1 (iv_w (a := 0) (b := 1) (by decide) (by decide) (show (1 : Int) ≤ (1 : Int32).toInt ∧ (1 : Int32).toInt ≤ 1 by decide)) (iv_w (a := 0) (b := 12) (by decide) (by decide) (show (0 : Int) ≤ (0 : Int32).toInt ∧ (0 : Int32).toInt ≤ 0 by decide)) f_o0_0 f_o0_38 f_o0_78 f_o0_95 x_0 x_1 x_2 x_3 p126 x_5 x_6 (show v1.toInt = yv1.toInt by omega) (show 2 ≤ v1.toInt by omega) (show v1.toInt ≤ 417 by omega) p127 (show 0 + (12 - 0) * 2 < (n : Int) by omega)
                  · have wc117 : ¬ (0 : Int) = (0 : Int) := c_ne c117
                    exact (dd_ne c117 (show (0 : Int) ≤ (0 : Int32).toInt ∧ (0 : Int32).toInt ≤ 0 by decide) (show (0 : Int) ≤ (0 : Int32).toInt ∧ (0 : Int32).toInt ≤ 0 by decide)).elim
              · have wc98 : ¬ (0 : Int) = (0 : Int) := c_ne c98
                exact (dd_ne c98 (show (0 : Int) ≤ (0 : Int32).toInt ∧ (0 : Int32).toInt ≤ 0 by decide) (show (0 : Int) ≤ (0 : Int32).toInt ∧ (0 : Int32).toInt ≤ 0 by decide)).elim
            · have wc97 : ¬ (0 : Int) = (0 : Int) := c_ne c97
              exact (dd_ne c97 (show (0 : Int) ≤ (0 : Int32).toInt ∧ (0 : Int32).toInt ≤ 0 by decide) (show (0 : Int) ≤ (0 : Int32).toInt ∧ (0 : Int32).toInt ≤ 0 by decide)).elim
          · have wc96 : x93.toInt ≤ (o0.1 39).toInt := c_nlt c96
            have i128 : (1 : Int) ≤ x93.toInt ∧ x93.toInt ≤ 8 := nr_nltl c96 i94 (k_o0.1 39) (by decide) (by decide)
            have i129 : (1 : Int) ≤ (o0.1 39).toInt ∧ (o0.1 39).toInt ≤ 8 := nr_nltr c96 i94 (k_o0.1 39) (by decide) (by decide)
            try unfold fM_in_15
            refine tt_bw (iv_b (show (1 : Int) ≤ (1 : Int32).toInt ∧ (1 : Int32).toInt ≤ 1 by decide) (by decide) (by decide)) ?_
            refine tt_bs ?_
            refine tt_bif (fun c130 => ?_) (fun c130 => ?_)
            · have wc130 : (1 : Int) = (0 : Int) := c_eq c130
              exact (dd_eq c130 (show (1 : Int) ≤ (1 : Int32).toInt ∧ (1 : Int32).toInt ≤ 1 by decide) (show (0 : Int) ≤ (0 : Int32).toInt ∧ (0 : Int32).toInt ≤ 0 by decide) (by decide)).elim
            · have wc130 : ¬ (1 : Int) = (0 : Int) := c_ne c130
              try unfold fM_isGiven_25
              refine tt_bw (iv_b (show (1 : Int) ≤ (1 : Int32).toInt ∧ (1 : Int32).toInt ≤ 1 by decide) (by decide) (by decide)) ?_
              refine tt_bs ?_
              refine tt_if (fun c131 => ?_) (fun c131 => ?_)
              · have wc131 : (1 : Int) = (0 : Int) := c_eq c131
                exact (dd_eq c131 (show (1 : Int) ≤ (1 : Int32).toInt ∧ (1 : Int32).toInt ≤ 1 by decide) (show (0 : Int) ≤ (0 : Int32).toInt ∧ (0 : Int32).toInt ≤ 0 by decide) (by decide)).elim
              · have wc131 : ¬ (1 : Int) = (0 : Int) := c_ne c131
                try unfold fM_make_77
                try unfold fM_make_82
                refine tt_if (fun c132 => ?_) (fun c132 => ?_)
                · have wc132 : (1 : Int) = (0 : Int) := c_eq c132
                  exact (dd_eq c132 (show (1 : Int) ≤ (1 : Int32).toInt ∧ (1 : Int32).toInt ≤ 1 by decide) (show (0 : Int) ≤ (0 : Int32).toInt ∧ (0 : Int32).toInt ≤ 0 by decide) (by decide)).elim
                · have wc132 : ¬ (1 : Int) = (0 : Int) := c_ne c132
                  try unfold fM_make_101
                  have p133 : Md (o0.1 39).toInt (o0.2.1 84) (o0.2.1 86) (o0.2.1 87) (o0.2.1 88) := by exact Mc_e x_4 x_3 (by omega) (by first | exact Or.inl (by omega) | exact Or.inr (show (o0.2.1 86 v1.toNatClampNeg).toInt = 0 by omega))
                  have p134 : Cm 1 v1.toInt (o0.1 39).toInt (o0.2.1 88) := by first | exact Or.inl rfl | exact Cm_g (by omega) | (refine Cm_h ?_ ?_ (by assumption) (by assumption) <;> omega)
                  exact H.2 _ _ _ _ _ k_o0 r_o0 i_v1 (iv_w (a := 0) (b := 1) (by decide) (by decide) (show (1 : Int) ≤ (1 : Int32).toInt ∧ (1 : Int32).toInt ≤ 1 by decide)) (iv_w (a := 0) (b := 12) (by decide) (by decide) (show (0 : Int) ≤ (0 : Int32).toInt ∧ (0 : Int32).toInt ≤ 0 by decide)) f_o0_0 f_o0_38 f_o0_78 f_o0_95 x_0 x_1 x_2 x_3 p133 x_5 x_6 (show v1.toInt = yv1.toInt by omega) (show 2 ≤ v1.toInt by omega) (show v1.toInt ≤ 417 by omega) p134 (show 0 + (12 - 0) * 2 < (n : Int) by omega)
      · have wc91 : ¬ x89.toInt = (0 : Int) := c_ne c91
        have i135 : (1 : Int) ≤ x89.toInt ∧ x89.toInt ≤ 1 := nr_nela c91 i90 (show (0 : Int) ≤ (0 : Int32).toInt ∧ (0 : Int32).toInt ≤ 0 by decide) (by decide) (by decide)
        try unfold fM_isGiven_24
        try unfold fM_isGiven_25
        refine tt_bw (iv_b (show (0 : Int) ≤ (0 : Int32).toInt ∧ (0 : Int32).toInt ≤ 0 by decide) (by decide) (by decide)) ?_
        refine tt_bs ?_
        refine tt_if (fun c136 => ?_) (fun c136 => ?_)
        · have wc136 : (0 : Int) = (0 : Int) := c_eq c136
          refine tt_kv (P := fun z => ((2 : Int) ≤ z.toInt ∧ z.toInt ≤ 417) ∧ z.toInt = v1.toInt + 1 - 2 * (v1.toInt % 2)) ⟨iv_x1 i_v1 (show (1 : Int) ≤ (1 : Int32).toInt ∧ (1 : Int32).toInt ≤ 1 by decide) (by decide) (by decide) (by decide) (by decide) (by decide), i_x1 (Int.le_trans (by decide) i_v1.1)⟩ (fun x137 qi138 => ?_)
          obtain ⟨i138, ei138⟩ := qi138
          refine tt_n (ix_ok i138 (by decide) (by decide)) ?_
          refine tt_kv (P := fun z => ((0 : Int) ≤ z.toInt ∧ z.toInt ≤ 1) ∧ z.toInt = (o0.2.1 88 x137.toNatClampNeg).toInt) ⟨(k_o0.2 88 _), rfl⟩ (fun x139 qi140 => ?_)
          obtain ⟨i140, ei140⟩ := qi140
          refine tt_if (fun c141 => ?_) (fun c141 => ?_)
          · have wc141 : x139.toInt = (0 : Int) := c_eq c141
            have i142 : (0 : Int) ≤ x139.toInt ∧ x139.toInt ≤ 0 := nr_eql c141 i140 (show (0 : Int) ≤ (0 : Int32).toInt ∧ (0 : Int32).toInt ≤ 0 by decide) (by decide) (by decide)
            try unfold fM_make_82
            refine tt_if (fun c143 => ?_) (fun c143 => ?_)
            · have wc143 : (0 : Int) = (0 : Int) := c_eq c143
              refine tt_kv (P := fun z => ((2 : Int) ≤ z.toInt ∧ z.toInt ≤ 417) ∧ z.toInt = v1.toInt + 1 - 2 * (v1.toInt % 2)) ⟨iv_x1 i_v1 (show (1 : Int) ≤ (1 : Int32).toInt ∧ (1 : Int32).toInt ≤ 1 by decide) (by decide) (by decide) (by decide) (by decide) (by decide), i_x1 (Int.le_trans (by decide) i_v1.1)⟩ (fun x144 qi145 => ?_)
              obtain ⟨i145, ei145⟩ := qi145
              refine tt_kv (P := fun z => ((10 : Int) ≤ z.toInt ∧ z.toInt ≤ 2085) ∧ z.toInt = 5 * x144.toInt) ⟨iv_mul (show (5 : Int) ≤ (5 : Int32).toInt ∧ (5 : Int32).toInt ≤ 5 by decide) i145 (by decide) (by decide) (by decide) (by decide) (by decide), iq_mul (show (5 : Int) ≤ (5 : Int32).toInt ∧ (5 : Int32).toInt ≤ 5 by decide) i145 (by decide) (by decide) (by decide) (by decide)⟩ (fun x146 qi147 => ?_)
              obtain ⟨i147, ei147⟩ := qi147
              refine tt_n (ix_ok i147 (by decide) (by decide)) ?_
              refine tt_kv (P := fun z => (((-2147483648) : Int) ≤ z.toInt ∧ z.toInt ≤ 2147483647) ∧ z.toInt = (o0.2.1 89 x146.toNatClampNeg).toInt) ⟨(k_o0.2 89 _), rfl⟩ (fun x148 qi149 => ?_)
              obtain ⟨i149, ei149⟩ := qi149
              have t150 := tn_n x146
              have t151 := x_1 (x146.toNatClampNeg)
              try unfold fM_make_101
              have p152 : Md (o0.1 39).toInt (o0.2.1 84) (o0.2.1 86) (o0.2.1 87) (o0.2.1 88) := by exact Mc_e x_4 x_3 (by omega) (by first | exact Or.inl (by omega) | exact Or.inr (show (o0.2.1 86 v1.toNatClampNeg).toInt = 0 by omega))
              have p153 : Cm 0 v1.toInt (o0.1 39).toInt (o0.2.1 88) := by first | exact Or.inl rfl | exact Cm_g (by omega) | (refine Cm_h ?_ ?_ (by assumption) (by assumption) <;> omega)
              exact H.2 _ _ _ _ _ k_o0 r_o0 i_v1 (iv_w (a := 0) (b := 1) (by decide) (by decide) (show (0 : Int) ≤ (0 : Int32).toInt ∧ (0 : Int32).toInt ≤ 0 by decide)) (iv_w (a := 0) (b := 12) (by decide) (by decide) (show (0 : Int) ≤ (0 : Int32).toInt ∧ (0 : Int32).toInt ≤ 0 by decide)) f_o0_0 f_o0_38 f_o0_78 f_o0_95 x_0 x_1 x_2 x_3 p152 x_5 x_6 (show v1.toInt = yv1.toInt by omega) (show 2 ≤ v1.toInt by omega) (show v1.toInt ≤ 417 by omega) p153 (show 0 + (12 - 0) * 2 < (n : Int) by omega)
            · have wc143 : ¬ (0 : Int) = (0 : Int) := c_ne c143
              exact (dd_ne c143 (show (0 : Int) ≤ (0 : Int32).toInt ∧ (0 : Int32).toInt ≤ 0 by decide) (show (0 : Int) ≤ (0 : Int32).toInt ∧ (0 : Int32).toInt ≤ 0 by decide)).elim
          · have wc141 : ¬ x139.toInt = (0 : Int) := c_ne c141
            have i154 : (1 : Int) ≤ x139.toInt ∧ x139.toInt ≤ 1 := nr_nela c141 i140 (show (0 : Int) ≤ (0 : Int32).toInt ∧ (0 : Int32).toInt ≤ 0 by decide) (by decide) (by decide)
            try unfold fM_make_77
            try unfold fM_make_82
            refine tt_if (fun c155 => ?_) (fun c155 => ?_)
            · have wc155 : (0 : Int) = (0 : Int) := c_eq c155
              refine tt_kv (P := fun z => ((2 : Int) ≤ z.toInt ∧ z.toInt ≤ 417) ∧ z.toInt = v1.toInt + 1 - 2 * (v1.toInt % 2)) ⟨iv_x1 i_v1 (show (1 : Int) ≤ (1 : Int32).toInt ∧ (1 : Int32).toInt ≤ 1 by decide) (by decide) (by decide) (by decide) (by decide) (by decide), i_x1 (Int.le_trans (by decide) i_v1.1)⟩ (fun x156 qi157 => ?_)
              obtain ⟨i157, ei157⟩ := qi157
              refine tt_kv (P := fun z => ((10 : Int) ≤ z.toInt ∧ z.toInt ≤ 2085) ∧ z.toInt = 5 * x156.toInt) ⟨iv_mul (show (5 : Int) ≤ (5 : Int32).toInt ∧ (5 : Int32).toInt ≤ 5 by decide) i157 (by decide) (by decide) (by decide) (by decide) (by decide), iq_mul (show (5 : Int) ≤ (5 : Int32).toInt ∧ (5 : Int32).toInt ≤ 5 by decide) i157 (by decide) (by decide) (by decide) (by decide)⟩ (fun x158 qi159 => ?_)
              obtain ⟨i159, ei159⟩ := qi159
              refine tt_n (ix_ok i159 (by decide) (by decide)) ?_
              refine tt_kv (P := fun z => (((-2147483648) : Int) ≤ z.toInt ∧ z.toInt ≤ 2147483647) ∧ z.toInt = (o0.2.1 89 x158.toNatClampNeg).toInt) ⟨(k_o0.2 89 _), rfl⟩ (fun x160 qi161 => ?_)
              obtain ⟨i161, ei161⟩ := qi161
              have t162 := tn_n x158
              have t163 := x_1 (x158.toNatClampNeg)
              try unfold fM_make_101
              have p164 : Md (o0.1 39).toInt (o0.2.1 84) (o0.2.1 86) (o0.2.1 87) (o0.2.1 88) := by exact Mc_e x_4 x_3 (by omega) (by first | exact Or.inl (by omega) | exact Or.inr (show (o0.2.1 86 v1.toNatClampNeg).toInt = 0 by omega))
              have p165 : Cm 1 v1.toInt (o0.1 39).toInt (o0.2.1 88) := by first | exact Or.inl rfl | exact Cm_g (by omega) | (refine Cm_h ?_ ?_ (by assumption) (by assumption) <;> omega)
              exact H.2 _ _ _ _ _ k_o0 r_o0 i_v1 (iv_w (a := 0) (b := 1) (by decide) (by decide) (show (1 : Int) ≤ (1 : Int32).toInt ∧ (1 : Int32).toInt ≤ 1 by decide)) (iv_w (a := 0) (b := 12) (by decide) (by decide) (show (0 : Int) ≤ (0 : Int32).toInt ∧ (0 : Int32).toInt ≤ 0 by decide)) f_o0_0 f_o0_38 f_o0_78 f_o0_95 x_0 x_1 x_2 x_3 p164 x_5 x_6 (show v1.toInt = yv1.toInt by omega) (show 2 ≤ v1.toInt by omega) (show v1.toInt ≤ 417 by omega) p165 (show 0 + (12 - 0) * 2 < (n : Int) by omega)
            · have wc155 : ¬ (0 : Int) = (0 : Int) := c_ne c155
              exact (dd_ne c155 (show (0 : Int) ≤ (0 : Int32).toInt ∧ (0 : Int32).toInt ≤ 0 by decide) (show (0 : Int) ≤ (0 : Int32).toInt ∧ (0 : Int32).toInt ≤ 0 by decide)).elim
        · have wc136 : ¬ (0 : Int) = (0 : Int) := c_ne c136
          exact (dd_ne c136 (show (0 : Int) ≤ (0 : Int32).toInt ∧ (0 : Int32).toInt ≤ 0 by decide) (show (0 : Int) ≤ (0 : Int32).toInt ∧ (0 : Int32).toInt ≤ 0 by decide)).elim
    · have wc85 : ¬ x83.toInt = (0 : Int) := c_ne c85
      have i166 : (1 : Int) ≤ x83.toInt ∧ x83.toInt ≤ 1 := nr_nela c85 i84 (show (0 : Int) ≤ (0 : Int32).toInt ∧ (0 : Int32).toInt ≤ 0 by decide) (by decide) (by decide)
      refine tt_kv (P := fun z => ((10 : Int) ≤ z.toInt ∧ z.toInt ≤ 2085) ∧ z.toInt = 5 * v1.toInt) ⟨iv_mul (show (5 : Int) ≤ (5 : Int32).toInt ∧ (5 : Int32).toInt ≤ 5 by decide) i_v1 (by decide) (by decide) (by decide) (by decide) (by decide), iq_mul (show (5 : Int) ≤ (5 : Int32).toInt ∧ (5 : Int32).toInt ≤ 5 by decide) i_v1 (by decide) (by decide) (by decide) (by decide)⟩ (fun x167 qi168 => ?_)
      obtain ⟨i168, ei168⟩ := qi168
      refine tt_kv (P := fun z => ((10 : Int) ≤ z.toInt ∧ z.toInt ≤ 2089) ∧ z.toInt = x167.toInt + v2.toInt) ⟨iv_add i168 i82 (by decide) (by decide) (by decide) (by decide), iq_add i168 i82 (by decide) (by decide)⟩ (fun x169 qi170 => ?_)
      obtain ⟨i170, ei170⟩ := qi170
      refine tt_kv (P := fun z => ((10 : Int) ≤ z.toInt ∧ z.toInt ≤ 2085) ∧ z.toInt = 5 * v1.toInt) ⟨iv_mul (show (5 : Int) ≤ (5 : Int32).toInt ∧ (5 : Int32).toInt ≤ 5 by decide) i_v1 (by decide) (by decide) (by decide) (by decide) (by decide), iq_mul (show (5 : Int) ≤ (5 : Int32).toInt ∧ (5 : Int32).toInt ≤ 5 by decide) i_v1 (by decide) (by decide) (by decide) (by decide)⟩ (fun x171 qi172 => ?_)
      obtain ⟨i172, ei172⟩ := qi172
      refine tt_kv (P := fun z => ((10 : Int) ≤ z.toInt ∧ z.toInt ≤ 2089) ∧ z.toInt = x171.toInt + v2.toInt) ⟨iv_add i172 i82 (by decide) (by decide) (by decide) (by decide), iq_add i172 i82 (by decide) (by decide)⟩ (fun x173 qi174 => ?_)
      obtain ⟨i174, ei174⟩ := qi174
      refine tt_n (ix_ok i174 (by decide) (by decide)) ?_
      refine tt_kv (P := fun z => (((-2147483648) : Int) ≤ z.toInt ∧ z.toInt ≤ 2147483647) ∧ z.toInt = (o0.2.1 89 x173.toNatClampNeg).toInt) ⟨(k_o0.2 89 _), rfl⟩ (fun x175 qi176 => ?_)
      obtain ⟨i176, ei176⟩ := qi176
      have t177 := tn_n x173
      have t178 := x_1 (x173.toNatClampNeg)
      refine tt_n (ix_ok i170 (by decide) (by decide)) ?_
      refine tt_ko ?_
      have k179 := ok_xp (k := 87) (i := x169.toNatClampNeg) (v := x175) k_o0 i176
      have r180 := fr_xp (k := 87) (i := x169.toNatClampNeg) (v := x175) r_o0 rfl
      have u181 : Mt (upd (o0.2.1 87) (x169.toNatClampNeg) x175) := Mt_u x_0 (by intros; have tnn := tn_n x169; omega)
      refine tt_kv (P := fun z => ((1 : Int) ≤ z.toInt ∧ z.toInt ≤ 5) ∧ z.toInt = v2.toInt + 1) ⟨iv_add i82 (show (1 : Int) ≤ (1 : Int32).toInt ∧ (1 : Int32).toInt ≤ 1 by decide) (by decide) (by decide) (by decide) (by decide), iq_add i82 (show (1 : Int) ≤ (1 : Int32).toInt ∧ (1 : Int32).toInt ≤ 1 by decide) (by decide) (by decide)⟩ (fun x182 qi183 => ?_)
      obtain ⟨i183, ei183⟩ := qi183
      have p184 : Mc v1.toInt x182.toInt (o0.1 39).toInt (o0.2.1 84) (o0.2.1 86) (upd (o0.2.1 87) (x169.toNatClampNeg) x175) (o0.2.1 88) (o0.2.1 89) := by refine Mc_s x_4 (by omega) (by omega) (by omega) (by rw [tn_n]; omega) ?_ (i_eq (by assumption)); exact congrArg Int32.toNatClampNeg (i_eq (by omega))
      exact H.1 _ _ _ k179 r180 i_v1 (iv_w (a := 0) (b := 5) (by decide) (by decide) i183) f_o0_0 f_o0_38 f_o0_78 f_o0_95 u181 x_1 x_2 x_3 p184 x_5 x_6 (show v1.toInt = yv1.toInt by omega) (show 2 ≤ v1.toInt by omega) (show v1.toInt ≤ 417 by omega) (show 26 + (5 - x182.toInt) * 2 < (n : Int) by omega)
set_option maxHeartbeats 4000000 in
set_option maxRecDepth 100000 in
theorem hM_make (yv1 : Int32) (yo0 : cf_O) : ∀ n, HM_make yv1 yo0 n := by
  intro n
  induction n with
  | zero => exact ⟨(fun v1 v2 o0 k_o0 r_o0 i_v1 i_v2 f_o0_0 f_o0_38 f_o0_78 f_o0_95 x_0 x_1 x_2 x_3 x_4 x_5 x_6 x_7 x_8 x_9 hm => by exact absurd (show 26 + (5 - v2.toInt) * 2 < (0 : Int) from hm) (by omega)), (fun v1 v3 v4 v5 o0 k_o0 r_o0 i_v1 i_v3 i_v5 f_o0_0 f_o0_38 f_o0_78 f_o0_95 x_0 x_1 x_2 x_3 x_4 x_5 x_6 x_7 x_8 x_9 x_10 hm => by exact absurd (show 0 + (12 - v5.toInt) * 2 < (0 : Int) from hm) (by omega))⟩
  | succ n ih => exact ⟨(fun v1 v2 o0 k_o0 r_o0 i_v1 i_v2 f_o0_0 f_o0_38 f_o0_78 f_o0_95 x_0 x_1 x_2 x_3 x_4 x_5 x_6 x_7 x_8 x_9 hm => tM_make_14 ih v1 v2 o0 k_o0 r_o0 i_v1 i_v2 f_o0_0 f_o0_38 f_o0_78 f_o0_95 x_0 x_1 x_2 x_3 x_4 x_5 x_6 x_7 x_8 x_9 (by omega)), (fun v1 v3 v4 v5 o0 k_o0 r_o0 i_v1 i_v3 i_v5 f_o0_0 f_o0_38 f_o0_78 f_o0_95 x_0 x_1 x_2 x_3 x_4 x_5 x_6 x_7 x_8 x_9 x_10 hm => tM_make_106 ih v1 v3 v4 v5 o0 k_o0 r_o0 i_v1 i_v3 i_v5 f_o0_0 f_o0_38 f_o0_78 f_o0_95 x_0 x_1 x_2 x_3 x_4 x_5 x_6 x_7 x_8 x_9 x_10 (by omega))⟩
set_option maxHeartbeats 4000000 in
set_option maxRecDepth 100000 in
theorem sM_make (v1 : Int32) (o0 : cf_O) (k_o0 : okO I_M o0) (i_v1 : (2 : Int) ≤ v1.toInt ∧ v1.toInt ≤ 417) (f_o0_0 : (0 : Int) ≤ (o0.1 0).toInt ∧ (o0.1 0).toInt ≤ 0) (f_o0_38 : (1 : Int) ≤ (o0.1 38).toInt ∧ (o0.1 38).toInt ≤ 1) (f_o0_78 : (1 : Int) ≤ (o0.1 78).toInt ∧ (o0.1 78).toInt ≤ 1) (f_o0_95 : (0 : Int) ≤ (o0.1 95).toInt ∧ (o0.1 95).toInt ≤ 0) (x_0 : Mt (o0.2.1 87)) (x_1 : Mt (o0.2.1 89)) (x_2 : Mt (o0.2.1 90)) (x_3 : Pl (o0.2.1 84) (o0.2.1 88) (o0.2.1 89) (o0.2.1 86)) (x_4 : Md (o0.1 39).toInt (o0.2.1 84) (o0.2.1 86) (o0.2.1 87) (o0.2.1 88)) (x_5 : Fu v1.toInt (o0.1 39).toInt (o0.2.1 86)) (x_6 : Hl v1.toInt (v1.toInt / 2 * 2 + 2) (o0.2.1 88) (o0.2.1 86)) (x_7 : 2 ≤ v1.toInt) (x_8 : v1.toInt ≤ 417) (x_9 : v1.toInt % 2 = 1 ∨ (o0.1 39).toInt < v1.toInt / 2) : tt (fM_make v1 o0) (QM_make v1 o0) := by
  have H := hM_make v1 o0 cfFU
  have hm : (39 : Int) ≤ (cfFU : Nat) := by decide
  have r_o0 : Fr (fr_M [] [86, 87, 90] []) o0 o0 := fr_rfl
  unfold fM_make fM_make_0
  have g_o0_39 : (0 : Int) ≤ (o0.1 39).toInt ∧ (o0.1 39).toInt ≤ 8 := k_o0.1 39
  refine tt_n (ix_ok i_v1 (by decide) (by decide)) ?_
  refine tt_kv (P := fun z => ((0 : Int) ≤ z.toInt ∧ z.toInt ≤ 1) ∧ z.toInt = (o0.2.1 88 v1.toNatClampNeg).toInt) ⟨(k_o0.2 88 _), rfl⟩ (fun x1 qi2 => ?_)
  obtain ⟨i2, ei2⟩ := qi2
  refine tt_n (ix_ok i_v1 (by decide) (by decide)) ?_
  refine tt_ko ?_
  have k3 := ok_xp (k := 86) (i := v1.toNatClampNeg) (v := (vp_nar .boolean x1)) k_o0 (iv_nz _)
  have r4 := fr_xp (k := 86) (i := v1.toNatClampNeg) (v := (vp_nar .boolean x1)) r_o0 rfl
  have p5 : Pl (o0.2.1 84) (o0.2.1 88) (o0.2.1 89) (upd (o0.2.1 86) (v1.toNatClampNeg) (vp_nar .boolean x1)) := by have hz := md_0 x_5 (x := v1.toNatClampNeg) (by have := tn_n v1; omega) (by have := tn_n v1; omega) (by have := tn_n v1; omega); exact Pl_m x_3 (Or.inl hz)
  have p6 : Mc v1.toInt 0 (o0.1 39).toInt (o0.2.1 84) (upd (o0.2.1 86) (v1.toNatClampNeg) (vp_nar .boolean x1)) (o0.2.1 87) (o0.2.1 88) (o0.2.1 89) := by have hz := md_0 x_5 (x := v1.toNatClampNeg) (by have := tn_n v1; omega) (by have := tn_n v1; omega) (by have := tn_n v1; omega); exact Mc_0 x_4 (by have := tn_n v1; omega) hz (by rw [nb_v] <;> first | assumption | omega)
  have p7 : Fu (v1.toInt + 1) (o0.1 39).toInt (upd (o0.2.1 86) (v1.toNatClampNeg) (vp_nar .boolean x1)) := by exact Fu_m x_5 (by have := tn_n v1; omega) (by omega)
  have p8 : Hl (v1.toInt + 1) (v1.toInt / 2 * 2 + 2) (o0.2.1 88) (upd (o0.2.1 86) (v1.toNatClampNeg) (vp_nar .boolean x1)) := by have hz := md_0 x_5 (x := v1.toNatClampNeg) (by have := tn_n v1; omega) (by have := tn_n v1; omega) (by have := tn_n v1; omega); exact Hl_m x_6 (Or.inl hz) (by rw [nb_v] <;> omega) (Or.inl (by have := tn_n v1; omega)) (by omega)
  exact H.1 _ _ _ k3 r4 i_v1 (iv_w (a := 0) (b := 5) (by decide) (by decide) (show (0 : Int) ≤ (0 : Int32).toInt ∧ (0 : Int32).toInt ≤ 0 by decide)) f_o0_0 f_o0_38 f_o0_78 f_o0_95 x_0 x_1 x_2 p5 p6 p7 p8 (show v1.toInt = v1.toInt by omega) (show 2 ≤ v1.toInt by omega) (show v1.toInt ≤ 417 by omega) (show 26 + (5 - 0) * 2 < ((cfFU : Nat) : Int) by omega)
def QM_makeAll (o0 : cf_O) (r : (cf_O)) : Prop := (okO I_M r) ∧ (Fr (fr_M [] [86, 87, 88, 89, 90, 91, 98] []) o0 r) ∧ (Mt (r.2.1 87)) ∧ (Mt (r.2.1 89)) ∧ (Mt (r.2.1 90)) ∧ (Md (r.1 39).toInt (r.2.1 84) (r.2.1 86) (r.2.1 87) (r.2.1 88)) ∧ (Hl 0 0 (r.2.1 88) (r.2.1 86)) ∧ True
def HM_makeAll (yo0 : cf_O) (n : Nat) : Prop := (∀ (v1 : Int32) (o0 : cf_O), (okO I_M o0) → (Fr (fr_M [] [86, 87, 88, 89, 90, 91, 98] []) yo0 o0) → ((0 : Int) ≤ v1.toInt ∧ v1.toInt ≤ 420) → ((0 : Int) ≤ (o0.1 0).toInt ∧ (o0.1 0).toInt ≤ 0) → ((1 : Int) ≤ (o0.1 38).toInt ∧ (o0.1 38).toInt ≤ 1) → ((1 : Int) ≤ (o0.1 78).toInt ∧ (o0.1 78).toInt ≤ 1) → ((0 : Int) ≤ (o0.1 95).toInt ∧ (o0.1 95).toInt ≤ 0) → (Mt (o0.2.1 87)) → (Mt (o0.2.1 89)) → (Mt (o0.2.1 90)) → (Fp (o0.2.1 84)) → (Cn (o0.2.1 59) (o0.2.1 58)) → (Rs v1.toInt (o0.1 39).toInt (o0.2.1 88) (o0.2.1 86)) → 436 + (420 - v1.toInt) * 2 < (n : Int) → tt (gM_makeAll n 0 v1 o0) (QM_makeAll yo0)) ∧ (∀ (v1 : Int32) (o0 : cf_O), (okO I_M o0) → (Fr (fr_M [] [86, 87, 88, 89, 90, 91, 98] []) yo0 o0) → ((1 : Int) ≤ v1.toInt ∧ v1.toInt ≤ 9) → ((0 : Int) ≤ (o0.1 0).toInt ∧ (o0.1 0).toInt ≤ 0) → ((1 : Int) ≤ (o0.1 38).toInt ∧ (o0.1 38).toInt ≤ 1) → ((1 : Int) ≤ (o0.1 78).toInt ∧ (o0.1 78).toInt ≤ 1) → ((0 : Int) ≤ (o0.1 95).toInt ∧ (o0.1 95).toInt ≤ 0) → (Mt (o0.2.1 87)) → (Mt (o0.2.1 89)) → (Mt (o0.2.1 90)) → (Fp (o0.2.1 84)) → (Cn (o0.2.1 59) (o0.2.1 58)) → (Pl (o0.2.1 84) (o0.2.1 88) (o0.2.1 89) (o0.2.1 86)) → (Md (o0.1 39).toInt (o0.2.1 84) (o0.2.1 86) (o0.2.1 87) (o0.2.1 88)) → (Fu (2 * v1.toInt) (o0.1 39).toInt (o0.2.1 86)) → (Hl 0 0 (o0.2.1 88) (o0.2.1 86)) → (v1.toInt ≤ (o0.1 39).toInt + 1) → 418 + (9 - v1.toInt) * 2 < (n : Int) → tt (gM_makeAll n 1 v1 o0) (QM_makeAll yo0)) ∧ (∀ (v1 : Int32) (o0 : cf_O), (okO I_M o0) → (Fr (fr_M [] [86, 87, 88, 89, 90, 91, 98] []) yo0 o0) → ((1 : Int) ≤ v1.toInt ∧ v1.toInt ≤ 209) → ((0 : Int) ≤ (o0.1 0).toInt ∧ (o0.1 0).toInt ≤ 0) → ((1 : Int) ≤ (o0.1 38).toInt ∧ (o0.1 38).toInt ≤ 1) → ((1 : Int) ≤ (o0.1 78).toInt ∧ (o0.1 78).toInt ≤ 1) → ((0 : Int) ≤ (o0.1 95).toInt ∧ (o0.1 95).toInt ≤ 0) → (Mt (o0.2.1 87)) → (Mt (o0.2.1 89)) → (Mt (o0.2.1 90)) → (Fp (o0.2.1 84)) → (Cn (o0.2.1 59) (o0.2.1 58)) → (Pl (o0.2.1 84) (o0.2.1 88) (o0.2.1 89) (o0.2.1 86)) → (Md (o0.1 39).toInt (o0.2.1 84) (o0.2.1 86) (o0.2.1 87) (o0.2.1 88)) → (Fu (2 * v1.toInt) (o0.1 39).toInt (o0.2.1 86)) → (Hl 0 0 (o0.2.1 88) (o0.2.1 86)) → ((o0.1 39).toInt + 1 ≤ v1.toInt) → 0 + (209 - v1.toInt) * 2 < (n : Int) → tt (gM_makeAll n 2 v1 o0) (QM_makeAll yo0))
set_option maxHeartbeats 4000000 in
set_option maxRecDepth 100000 in
theorem tM_makeAll_63 {yo0 : cf_O} {n : Nat} (H : HM_makeAll yo0 n) (v1 : Int32) (o0 : cf_O) (k_o0 : okO I_M o0) (r_o0 : Fr (fr_M [] [86, 87, 88, 89, 90, 91, 98] []) yo0 o0) (i_v1 : (1 : Int) ≤ v1.toInt ∧ v1.toInt ≤ 209) (f_o0_0 : (0 : Int) ≤ (o0.1 0).toInt ∧ (o0.1 0).toInt ≤ 0) (f_o0_38 : (1 : Int) ≤ (o0.1 38).toInt ∧ (o0.1 38).toInt ≤ 1) (f_o0_78 : (1 : Int) ≤ (o0.1 78).toInt ∧ (o0.1 78).toInt ≤ 1) (f_o0_95 : (0 : Int) ≤ (o0.1 95).toInt ∧ (o0.1 95).toInt ≤ 0) (x_0 : Mt (o0.2.1 87)) (x_1 : Mt (o0.2.1 89)) (x_2 : Mt (o0.2.1 90)) (x_3 : Fp (o0.2.1 84)) (x_4 : Cn (o0.2.1 59) (o0.2.1 58)) (x_5 : Pl (o0.2.1 84) (o0.2.1 88) (o0.2.1 89) (o0.2.1 86)) (x_6 : Md (o0.1 39).toInt (o0.2.1 84) (o0.2.1 86) (o0.2.1 87) (o0.2.1 88)) (x_7 : Fu (2 * v1.toInt) (o0.1 39).toInt (o0.2.1 86)) (x_8 : Hl 0 0 (o0.2.1 88) (o0.2.1 86)) (x_9 : (o0.1 39).toInt + 1 ≤ v1.toInt) (hm : 0 + (209 - v1.toInt) * 2 ≤ (n : Int)) : tt (fM_makeAll_63 (gM_makeAll n) v1 o0) (QM_makeAll yo0) := by
  unfold fM_makeAll_63
  have g_o0_39 : (0 : Int) ≤ (o0.1 39).toInt ∧ (o0.1 39).toInt ≤ 8 := k_o0.1 39
  have ey_o0_39 : (o0.1 39).toInt = (yo0.1 39).toInt := congrArg Int32.toInt (r_o0.1 39 rfl)
  have g_o0_43 : (0 : Int) ≤ (o0.1 43).toInt ∧ (o0.1 43).toInt ≤ 200 := k_o0.1 43
  have ey_o0_43 : (o0.1 43).toInt = (yo0.1 43).toInt := congrArg Int32.toInt (r_o0.1 43 rfl)
  try unfold fM_base
  try unfold fM_base_0
  refine tt_bkv (P := fun z => ((1 : Int) ≤ z.toInt ∧ z.toInt ≤ 9) ∧ z.toInt = (o0.1 39).toInt + 1) ⟨iv_add (k_o0.1 39) (show (1 : Int) ≤ (1 : Int32).toInt ∧ (1 : Int32).toInt ≤ 1 by decide) (by decide) (by decide) (by decide) (by decide), iq_add (k_o0.1 39) (show (1 : Int) ≤ (1 : Int32).toInt ∧ (1 : Int32).toInt ≤ 1 by decide) (by decide) (by decide)⟩ (fun x1 qi2 => ?_)
  obtain ⟨i2, ei2⟩ := qi2
  refine tt_bs ?_
  refine tt_kv (P := fun z => ((1 : Int) ≤ z.toInt ∧ z.toInt ≤ 209) ∧ z.toInt = x1.toInt + (o0.1 43).toInt) ⟨iv_add i2 (k_o0.1 43) (by decide) (by decide) (by decide) (by decide), iq_add i2 (k_o0.1 43) (by decide) (by decide)⟩ (fun x3 qi4 => ?_)
  obtain ⟨i4, ei4⟩ := qi4
  refine tt_if (fun c5 => ?_) (fun c5 => ?_)
  · have wc5 : x3.toInt ≤ v1.toInt := c_le c5
    exact tt_some ⟨k_o0, r_o0, x_0, x_1, x_2, x_6, x_8, trivial⟩
  · have wc5 : v1.toInt < x3.toInt := c_nle c5
    have i6 : (1 : Int) ≤ v1.toInt ∧ v1.toInt ≤ 208 := nr_nlel c5 i_v1 i4 (by decide) (by decide)
    have i7 : (2 : Int) ≤ x3.toInt ∧ x3.toInt ≤ 209 := nr_nler c5 i_v1 i4 (by decide) (by decide)
    have p8 : Hl (2 * v1.toInt) (2 * v1.toInt + 2) (o0.2.1 88) (o0.2.1 86) := by exact Hl_w (by assumption) (by omega)
    refine tt_b (sM_plainMatches _ _ k_o0 i6 f_o0_0 f_o0_38 f_o0_78 f_o0_95 (show v1.toInt ≤ (o0.1 39).toInt + (o0.1 43).toInt by omega) x_2 x_1 x_3 x_5 x_6 p8 x_4) (fun q9 hq9 => ?_)
    obtain ⟨k_q9, n_q9, zq9_0, zq9_1, zq9_2, zq9_3, zq9_4, -⟩ := hq9
    have r_q9 := fr_tr r_o0 n_q9 rfl rfl rfl
    have f_q9_0 : (0 : Int) ≤ (q9.1 0).toInt ∧ (q9.1 0).toInt ≤ 0 := by rw [n_q9.1 0 rfl]; exact f_o0_0
    have f_q9_78 : (1 : Int) ≤ (q9.1 78).toInt ∧ (q9.1 78).toInt ≤ 1 := by rw [n_q9.1 78 rfl]; exact f_o0_78
    have f_q9_38 : (1 : Int) ≤ (q9.1 38).toInt ∧ (q9.1 38).toInt ≤ 1 := by rw [n_q9.1 38 rfl]; exact f_o0_38
    have f_q9_95 : (0 : Int) ≤ (q9.1 95).toInt ∧ (q9.1 95).toInt ≤ 0 := by rw [n_q9.1 95 rfl]; exact f_o0_95
    have e_q9_39 : (q9.1 39).toInt = (o0.1 39).toInt := congrArg Int32.toInt (n_q9.1 39 rfl)
    have g_q9_39 : (0 : Int) ≤ (q9.1 39).toInt ∧ (q9.1 39).toInt ≤ 8 := k_q9.1 39
    have e_q9_43 : (q9.1 43).toInt = (o0.1 43).toInt := congrArg Int32.toInt (n_q9.1 43 rfl)
    have g_q9_43 : (0 : Int) ≤ (q9.1 43).toInt ∧ (q9.1 43).toInt ≤ 200 := k_q9.1 43
    have u10 : Mt (q9.2.1 87) := by rw [n_q9.2.1 87 rfl]; exact x_0
    have u11 : Fp (q9.2.1 84) := by rw [n_q9.2.1 84 rfl]; exact x_3
    have u12 : Cn (q9.2.1 59) (q9.2.1 58) := by rw [n_q9.2.1 58 rfl, n_q9.2.1 59 rfl]; exact x_4
    have u13 : Fu (2 * v1.toInt) (q9.1 39).toInt (q9.2.1 86) := by rw [n_q9.1 39 rfl, n_q9.2.1 86 rfl]; exact x_7
    refine tt_kv (P := fun z => ((2 : Int) ≤ z.toInt ∧ z.toInt ≤ 416) ∧ z.toInt = 2 * v1.toInt) ⟨iv_mul (show (2 : Int) ≤ (2 : Int32).toInt ∧ (2 : Int32).toInt ≤ 2 by decide) i6 (by decide) (by decide) (by decide) (by decide) (by decide), iq_mul (show (2 : Int) ≤ (2 : Int32).toInt ∧ (2 : Int32).toInt ≤ 2 by decide) i6 (by decide) (by decide) (by decide) (by decide)⟩ (fun x14 qi15 => ?_)
    obtain ⟨i15, ei15⟩ := qi15
    have p16 : Fu x14.toInt (q9.1 39).toInt (q9.2.1 86) := by exact Fu_w (by assumption) (by omega)
    have p17 : Hl x14.toInt (x14.toInt / 2 * 2 + 2) (q9.2.1 88) (q9.2.1 86) := by exact Hl_w (by assumption) (by omega)
    refine tt_b (sM_make _ _ k_q9 (iv_w (a := 2) (b := 417) (by decide) (by decide) i15) f_q9_0 f_q9_38 f_q9_78 f_q9_95 u10 zq9_1 zq9_0 zq9_2 zq9_3 p16 p17 (show 2 ≤ x14.toInt by omega) (show x14.toInt ≤ 417 by omega) (show x14.toInt % 2 = 1 ∨ (q9.1 39).toInt < x14.toInt / 2 by omega)) (fun q18 hq18 => ?_)
    obtain ⟨k_q18, n_q18, zq18_0, zq18_1, zq18_2, zq18_3, zq18_4, zq18_5, -⟩ := hq18
    have r_q18 := fr_tr r_q9 n_q18 rfl rfl rfl
    have f_q18_0 : (0 : Int) ≤ (q18.1 0).toInt ∧ (q18.1 0).toInt ≤ 0 := by rw [n_q18.1 0 rfl]; exact f_q9_0
    have f_q18_38 : (1 : Int) ≤ (q18.1 38).toInt ∧ (q18.1 38).toInt ≤ 1 := by rw [n_q18.1 38 rfl]; exact f_q9_38
    have f_q18_78 : (1 : Int) ≤ (q18.1 78).toInt ∧ (q18.1 78).toInt ≤ 1 := by rw [n_q18.1 78 rfl]; exact f_q9_78
    have f_q18_95 : (0 : Int) ≤ (q18.1 95).toInt ∧ (q18.1 95).toInt ≤ 0 := by rw [n_q18.1 95 rfl]; exact f_q9_95
    have e_q18_39 : (q18.1 39).toInt = (q9.1 39).toInt := congrArg Int32.toInt (n_q18.1 39 rfl)
    have g_q18_39 : (0 : Int) ≤ (q18.1 39).toInt ∧ (q18.1 39).toInt ≤ 8 := k_q18.1 39
    have e_q18_43 : (q18.1 43).toInt = (q9.1 43).toInt := congrArg Int32.toInt (n_q18.1 43 rfl)
    have g_q18_43 : (0 : Int) ≤ (q18.1 43).toInt ∧ (q18.1 43).toInt ≤ 200 := k_q18.1 43
    have u19 : Mt (q18.2.1 89) := by rw [n_q18.2.1 89 rfl]; exact zq9_1
    have u20 : Fp (q18.2.1 84) := by rw [n_q18.2.1 84 rfl]; exact u11
    have u21 : Cn (q18.2.1 59) (q18.2.1 58) := by rw [n_q18.2.1 58 rfl, n_q18.2.1 59 rfl]; exact u12
    refine tt_kv (P := fun z => ((2 : Int) ≤ z.toInt ∧ z.toInt ≤ 416) ∧ z.toInt = 2 * v1.toInt) ⟨iv_mul (show (2 : Int) ≤ (2 : Int32).toInt ∧ (2 : Int32).toInt ≤ 2 by decide) i6 (by decide) (by decide) (by decide) (by decide) (by decide), iq_mul (show (2 : Int) ≤ (2 : Int32).toInt ∧ (2 : Int32).toInt ≤ 2 by decide) i6 (by decide) (by decide) (by decide) (by decide)⟩ (fun x22 qi23 => ?_)
    obtain ⟨i23, ei23⟩ := qi23
    refine tt_kv (P := fun z => ((3 : Int) ≤ z.toInt ∧ z.toInt ≤ 417) ∧ z.toInt = x22.toInt + 1) ⟨iv_add i23 (show (1 : Int) ≤ (1 : Int32).toInt ∧ (1 : Int32).toInt ≤ 1 by decide) (by decide) (by decide) (by decide) (by decide), iq_add i23 (show (1 : Int) ≤ (1 : Int32).toInt ∧ (1 : Int32).toInt ≤ 1 by decide) (by decide) (by decide)⟩ (fun x24 qi25 => ?_)
    obtain ⟨i25, ei25⟩ := qi25
    have p26 : Fu x24.toInt (q18.1 39).toInt (q18.2.1 86) := by exact Fu_w (by assumption) (by omega)
    have p27 : Hl x24.toInt (x24.toInt / 2 * 2 + 2) (q18.2.1 88) (q18.2.1 86) := by exact Hl_w (by assumption) (by omega)
    refine tt_b (sM_make _ _ k_q18 (iv_w (a := 2) (b := 417) (by decide) (by decide) i25) f_q18_0 f_q18_38 f_q18_78 f_q18_95 zq18_0 u19 zq18_1 zq18_2 zq18_3 p26 p27 (show 2 ≤ x24.toInt by omega) (show x24.toInt ≤ 417 by omega) (show x24.toInt % 2 = 1 ∨ (q18.1 39).toInt < x24.toInt / 2 by omega)) (fun q28 hq28 => ?_)
    obtain ⟨k_q28, n_q28, zq28_0, zq28_1, zq28_2, zq28_3, zq28_4, zq28_5, -⟩ := hq28
    have r_q28 := fr_tr r_q18 n_q28 rfl rfl rfl
    have f_q28_0 : (0 : Int) ≤ (q28.1 0).toInt ∧ (q28.1 0).toInt ≤ 0 := by rw [n_q28.1 0 rfl]; exact f_q18_0
    have f_q28_78 : (1 : Int) ≤ (q28.1 78).toInt ∧ (q28.1 78).toInt ≤ 1 := by rw [n_q28.1 78 rfl]; exact f_q18_78
    have f_q28_38 : (1 : Int) ≤ (q28.1 38).toInt ∧ (q28.1 38).toInt ≤ 1 := by rw [n_q28.1 38 rfl]; exact f_q18_38
    have f_q28_95 : (0 : Int) ≤ (q28.1 95).toInt ∧ (q28.1 95).toInt ≤ 0 := by rw [n_q28.1 95 rfl]; exact f_q18_95
    have e_q28_39 : (q28.1 39).toInt = (q18.1 39).toInt := congrArg Int32.toInt (n_q28.1 39 rfl)
    have g_q28_39 : (0 : Int) ≤ (q28.1 39).toInt ∧ (q28.1 39).toInt ≤ 8 := k_q28.1 39
    have e_q28_43 : (q28.1 43).toInt = (q18.1 43).toInt := congrArg Int32.toInt (n_q28.1 43 rfl)
    have g_q28_43 : (0 : Int) ≤ (q28.1 43).toInt ∧ (q28.1 43).toInt ≤ 200 := k_q28.1 43
    have u29 : Mt (q28.2.1 89) := by rw [n_q28.2.1 89 rfl]; exact u19
    have u30 : Fp (q28.2.1 84) := by rw [n_q28.2.1 84 rfl]; exact u20
    have u31 : Cn (q28.2.1 59) (q28.2.1 58) := by rw [n_q28.2.1 58 rfl, n_q28.2.1 59 rfl]; exact u21
    refine tt_kv (P := fun z => ((2 : Int) ≤ z.toInt ∧ z.toInt ≤ 209) ∧ z.toInt = v1.toInt + 1) ⟨iv_add i6 (show (1 : Int) ≤ (1 : Int32).toInt ∧ (1 : Int32).toInt ≤ 1 by decide) (by decide) (by decide) (by decide) (by decide), iq_add i6 (show (1 : Int) ≤ (1 : Int32).toInt ∧ (1 : Int32).toInt ≤ 1 by decide) (by decide) (by decide)⟩ (fun x32 qi33 => ?_)
    obtain ⟨i33, ei33⟩ := qi33
    have p34 : Fu (2 * x32.toInt) (q28.1 39).toInt (q28.2.1 86) := by exact Fu_w (by assumption) (by omega)
    have p35 : Hl 0 0 (q28.2.1 88) (q28.2.1 86) := by exact Hl_w (by assumption) (by omega)
    exact H.2.2 _ _ k_q28 r_q28 (iv_w (a := 1) (b := 209) (by decide) (by decide) i33) f_q28_0 f_q28_38 f_q28_78 f_q28_95 zq28_0 u29 zq28_1 u30 u31 zq28_2 zq28_3 p34 p35 (show (q28.1 39).toInt + 1 ≤ x32.toInt by omega) (show 0 + (209 - x32.toInt) * 2 < (n : Int) by omega)
set_option maxHeartbeats 4000000 in
set_option maxRecDepth 100000 in
theorem tM_makeAll_35 {yo0 : cf_O} {n : Nat} (H : HM_makeAll yo0 n) (v1 : Int32) (o0 : cf_O) (k_o0 : okO I_M o0) (r_o0 : Fr (fr_M [] [86, 87, 88, 89, 90, 91, 98] []) yo0 o0) (i_v1 : (1 : Int) ≤ v1.toInt ∧ v1.toInt ≤ 9) (f_o0_0 : (0 : Int) ≤ (o0.1 0).toInt ∧ (o0.1 0).toInt ≤ 0) (f_o0_38 : (1 : Int) ≤ (o0.1 38).toInt ∧ (o0.1 38).toInt ≤ 1) (f_o0_78 : (1 : Int) ≤ (o0.1 78).toInt ∧ (o0.1 78).toInt ≤ 1) (f_o0_95 : (0 : Int) ≤ (o0.1 95).toInt ∧ (o0.1 95).toInt ≤ 0) (x_0 : Mt (o0.2.1 87)) (x_1 : Mt (o0.2.1 89)) (x_2 : Mt (o0.2.1 90)) (x_3 : Fp (o0.2.1 84)) (x_4 : Cn (o0.2.1 59) (o0.2.1 58)) (x_5 : Pl (o0.2.1 84) (o0.2.1 88) (o0.2.1 89) (o0.2.1 86)) (x_6 : Md (o0.1 39).toInt (o0.2.1 84) (o0.2.1 86) (o0.2.1 87) (o0.2.1 88)) (x_7 : Fu (2 * v1.toInt) (o0.1 39).toInt (o0.2.1 86)) (x_8 : Hl 0 0 (o0.2.1 88) (o0.2.1 86)) (x_9 : v1.toInt ≤ (o0.1 39).toInt + 1) (hm : 418 + (9 - v1.toInt) * 2 ≤ (n : Int)) : tt (fM_makeAll_35 (gM_makeAll n) v1 o0) (QM_makeAll yo0) := by
  unfold fM_makeAll_35
  have g_o0_39 : (0 : Int) ≤ (o0.1 39).toInt ∧ (o0.1 39).toInt ≤ 8 := k_o0.1 39
  have ey_o0_39 : (o0.1 39).toInt = (yo0.1 39).toInt := congrArg Int32.toInt (r_o0.1 39 rfl)
  have g_o0_43 : (0 : Int) ≤ (o0.1 43).toInt ∧ (o0.1 43).toInt ≤ 200 := k_o0.1 43
  have ey_o0_43 : (o0.1 43).toInt = (yo0.1 43).toInt := congrArg Int32.toInt (r_o0.1 43 rfl)
  try unfold fM_base
  try unfold fM_base_0
  refine tt_bkv (P := fun z => ((1 : Int) ≤ z.toInt ∧ z.toInt ≤ 9) ∧ z.toInt = (o0.1 39).toInt + 1) ⟨iv_add (k_o0.1 39) (show (1 : Int) ≤ (1 : Int32).toInt ∧ (1 : Int32).toInt ≤ 1 by decide) (by decide) (by decide) (by decide) (by decide), iq_add (k_o0.1 39) (show (1 : Int) ≤ (1 : Int32).toInt ∧ (1 : Int32).toInt ≤ 1 by decide) (by decide) (by decide)⟩ (fun x1 qi2 => ?_)
  obtain ⟨i2, ei2⟩ := qi2
  refine tt_bs ?_
  refine tt_if (fun c3 => ?_) (fun c3 => ?_)
  · have wc3 : x1.toInt ≤ v1.toInt := c_le c3
    try unfold fM_base
    try unfold fM_base_0
    refine tt_bkv (P := fun z => ((1 : Int) ≤ z.toInt ∧ z.toInt ≤ 9) ∧ z.toInt = (o0.1 39).toInt + 1) ⟨iv_add (k_o0.1 39) (show (1 : Int) ≤ (1 : Int32).toInt ∧ (1 : Int32).toInt ≤ 1 by decide) (by decide) (by decide) (by decide) (by decide), iq_add (k_o0.1 39) (show (1 : Int) ≤ (1 : Int32).toInt ∧ (1 : Int32).toInt ≤ 1 by decide) (by decide) (by decide)⟩ (fun x4 qi5 => ?_)
    obtain ⟨i5, ei5⟩ := qi5
    refine tt_bs ?_
    have p6 : Fu (2 * x4.toInt) (o0.1 39).toInt (o0.2.1 86) := by exact Fu_w (by assumption) (by omega)
    exact H.2.2 _ _ k_o0 r_o0 (iv_w (a := 1) (b := 209) (by decide) (by decide) i5) f_o0_0 f_o0_38 f_o0_78 f_o0_95 x_0 x_1 x_2 x_3 x_4 x_5 x_6 p6 x_8 (show (o0.1 39).toInt + 1 ≤ x4.toInt by omega) (show 0 + (209 - x4.toInt) * 2 < (n : Int) by omega)
  · have wc3 : v1.toInt < x1.toInt := c_nle c3
    have i7 : (1 : Int) ≤ v1.toInt ∧ v1.toInt ≤ 8 := nr_nlel c3 i_v1 i2 (by decide) (by decide)
    have i8 : (2 : Int) ≤ x1.toInt ∧ x1.toInt ≤ 9 := nr_nler c3 i_v1 i2 (by decide) (by decide)
    have i9 : (1 : Int) ≤ (o0.1 39).toInt ∧ (o0.1 39).toInt ≤ 8 := by omega
    refine tt_kv (P := fun z => ((2 : Int) ≤ z.toInt ∧ z.toInt ≤ 16) ∧ z.toInt = 2 * v1.toInt) ⟨iv_mul (show (2 : Int) ≤ (2 : Int32).toInt ∧ (2 : Int32).toInt ≤ 2 by decide) i7 (by decide) (by decide) (by decide) (by decide) (by decide), iq_mul (show (2 : Int) ≤ (2 : Int32).toInt ∧ (2 : Int32).toInt ≤ 2 by decide) i7 (by decide) (by decide) (by decide) (by decide)⟩ (fun x10 qi11 => ?_)
    obtain ⟨i11, ei11⟩ := qi11
    refine tt_kv (P := fun z => ((3 : Int) ≤ z.toInt ∧ z.toInt ≤ 17) ∧ z.toInt = x10.toInt + 1) ⟨iv_add i11 (show (1 : Int) ≤ (1 : Int32).toInt ∧ (1 : Int32).toInt ≤ 1 by decide) (by decide) (by decide) (by decide) (by decide), iq_add i11 (show (1 : Int) ≤ (1 : Int32).toInt ∧ (1 : Int32).toInt ≤ 1 by decide) (by decide) (by decide)⟩ (fun x12 qi13 => ?_)
    obtain ⟨i13, ei13⟩ := qi13
    have p14 : Fu x12.toInt (o0.1 39).toInt (o0.2.1 86) := by exact Fu_w (by assumption) (by omega)
    have p15 : Hl x12.toInt (x12.toInt / 2 * 2 + 2) (o0.2.1 88) (o0.2.1 86) := by exact Hl_w (by assumption) (by omega)
    refine tt_b (sM_make _ _ k_o0 (iv_w (a := 2) (b := 417) (by decide) (by decide) i13) f_o0_0 f_o0_38 f_o0_78 f_o0_95 x_0 x_1 x_2 x_5 x_6 p14 p15 (show 2 ≤ x12.toInt by omega) (show x12.toInt ≤ 417 by omega) (show x12.toInt % 2 = 1 ∨ (o0.1 39).toInt < x12.toInt / 2 by omega)) (fun q16 hq16 => ?_)
    obtain ⟨k_q16, n_q16, zq16_0, zq16_1, zq16_2, zq16_3, zq16_4, zq16_5, -⟩ := hq16
    have r_q16 := fr_tr r_o0 n_q16 rfl rfl rfl
    have f_q16_0 : (0 : Int) ≤ (q16.1 0).toInt ∧ (q16.1 0).toInt ≤ 0 := by rw [n_q16.1 0 rfl]; exact f_o0_0
    have f_q16_38 : (1 : Int) ≤ (q16.1 38).toInt ∧ (q16.1 38).toInt ≤ 1 := by rw [n_q16.1 38 rfl]; exact f_o0_38
    have f_q16_39 : (1 : Int) ≤ (q16.1 39).toInt ∧ (q16.1 39).toInt ≤ 8 := by rw [n_q16.1 39 rfl]; exact i9
    have f_q16_78 : (1 : Int) ≤ (q16.1 78).toInt ∧ (q16.1 78).toInt ≤ 1 := by rw [n_q16.1 78 rfl]; exact f_o0_78
    have f_q16_95 : (0 : Int) ≤ (q16.1 95).toInt ∧ (q16.1 95).toInt ≤ 0 := by rw [n_q16.1 95 rfl]; exact f_o0_95
    have e_q16_39 : (q16.1 39).toInt = (o0.1 39).toInt := congrArg Int32.toInt (n_q16.1 39 rfl)
    have e_q16_43 : (q16.1 43).toInt = (o0.1 43).toInt := congrArg Int32.toInt (n_q16.1 43 rfl)
    have g_q16_43 : (0 : Int) ≤ (q16.1 43).toInt ∧ (q16.1 43).toInt ≤ 200 := k_q16.1 43
    have u17 : Mt (q16.2.1 89) := by rw [n_q16.2.1 89 rfl]; exact x_1
    have u18 : Fp (q16.2.1 84) := by rw [n_q16.2.1 84 rfl]; exact x_3
    have u19 : Cn (q16.2.1 59) (q16.2.1 58) := by rw [n_q16.2.1 58 rfl, n_q16.2.1 59 rfl]; exact x_4
    refine tt_kv (P := fun z => ((2 : Int) ≤ z.toInt ∧ z.toInt ≤ 9) ∧ z.toInt = v1.toInt + 1) ⟨iv_add i7 (show (1 : Int) ≤ (1 : Int32).toInt ∧ (1 : Int32).toInt ≤ 1 by decide) (by decide) (by decide) (by decide) (by decide), iq_add i7 (show (1 : Int) ≤ (1 : Int32).toInt ∧ (1 : Int32).toInt ≤ 1 by decide) (by decide) (by decide)⟩ (fun x20 qi21 => ?_)
    obtain ⟨i21, ei21⟩ := qi21
    have p22 : Fu (2 * x20.toInt) (q16.1 39).toInt (q16.2.1 86) := by exact Fu_w (by assumption) (by omega)
    have p23 : Hl 0 0 (q16.2.1 88) (q16.2.1 86) := by exact Hl_w (by assumption) (by omega)
    exact H.2.1 _ _ k_q16 r_q16 (iv_w (a := 1) (b := 9) (by decide) (by decide) i21) f_q16_0 f_q16_38 f_q16_78 f_q16_95 zq16_0 u17 zq16_1 u18 u19 zq16_2 zq16_3 p22 p23 (show x20.toInt ≤ (q16.1 39).toInt + 1 by omega) (show 418 + (9 - x20.toInt) * 2 < (n : Int) by omega)
set_option maxHeartbeats 4000000 in
set_option maxRecDepth 100000 in
theorem tM_makeAll_2 {yo0 : cf_O} {n : Nat} (H : HM_makeAll yo0 n) (v1 : Int32) (o0 : cf_O) (k_o0 : okO I_M o0) (r_o0 : Fr (fr_M [] [86, 87, 88, 89, 90, 91, 98] []) yo0 o0) (i_v1 : (0 : Int) ≤ v1.toInt ∧ v1.toInt ≤ 420) (f_o0_0 : (0 : Int) ≤ (o0.1 0).toInt ∧ (o0.1 0).toInt ≤ 0) (f_o0_38 : (1 : Int) ≤ (o0.1 38).toInt ∧ (o0.1 38).toInt ≤ 1) (f_o0_78 : (1 : Int) ≤ (o0.1 78).toInt ∧ (o0.1 78).toInt ≤ 1) (f_o0_95 : (0 : Int) ≤ (o0.1 95).toInt ∧ (o0.1 95).toInt ≤ 0) (x_0 : Mt (o0.2.1 87)) (x_1 : Mt (o0.2.1 89)) (x_2 : Mt (o0.2.1 90)) (x_3 : Fp (o0.2.1 84)) (x_4 : Cn (o0.2.1 59) (o0.2.1 58)) (x_5 : Rs v1.toInt (o0.1 39).toInt (o0.2.1 88) (o0.2.1 86)) (hm : 436 + (420 - v1.toInt) * 2 ≤ (n : Int)) : tt (fM_makeAll_2 (gM_makeAll n) v1 o0) (QM_makeAll yo0) := by
  unfold fM_makeAll_2
  have g_o0_39 : (0 : Int) ≤ (o0.1 39).toInt ∧ (o0.1 39).toInt ≤ 8 := k_o0.1 39
  have ey_o0_39 : (o0.1 39).toInt = (yo0.1 39).toInt := congrArg Int32.toInt (r_o0.1 39 rfl)
  have g_o0_43 : (0 : Int) ≤ (o0.1 43).toInt ∧ (o0.1 43).toInt ≤ 200 := k_o0.1 43
  have ey_o0_43 : (o0.1 43).toInt = (yo0.1 43).toInt := congrArg Int32.toInt (r_o0.1 43 rfl)
  refine tt_if (fun c1 => ?_) (fun c1 => ?_)
  · have wc1 : (420 : Int) ≤ v1.toInt := c_le c1
    have i2 : (420 : Int) ≤ v1.toInt ∧ v1.toInt ≤ 420 := nr_ler c1 (show (420 : Int) ≤ (420 : Int32).toInt ∧ (420 : Int32).toInt ≤ 420 by decide) i_v1 (by decide) (by decide)
    have p3 : Pl (o0.2.1 84) (o0.2.1 88) (o0.2.1 89) (o0.2.1 86) := by exact Rs_P x_5 (by omega)
    have p4 : Md (o0.1 39).toInt (o0.2.1 84) (o0.2.1 86) (o0.2.1 87) (o0.2.1 88) := by exact Rs_M x_5 (by omega)
    have p5 : Fu (2 * 1) (o0.1 39).toInt (o0.2.1 86) := by exact Rs_F x_5 (by omega)
    have p6 : Hl 0 0 (o0.2.1 88) (o0.2.1 86) := by exact Rs_H x_5 (by omega)
    exact H.2.1 _ _ k_o0 r_o0 (iv_w (a := 1) (b := 9) (by decide) (by decide) (show (1 : Int) ≤ (1 : Int32).toInt ∧ (1 : Int32).toInt ≤ 1 by decide)) f_o0_0 f_o0_38 f_o0_78 f_o0_95 x_0 x_1 x_2 x_3 x_4 p3 p4 p5 p6 (show 1 ≤ (o0.1 39).toInt + 1 by omega) (show 418 + (9 - 1) * 2 < (n : Int) by omega)
  · have wc1 : v1.toInt < (420 : Int) := c_nle c1
    have i7 : (0 : Int) ≤ v1.toInt ∧ v1.toInt ≤ 419 := nr_nlel c1 i_v1 (show (420 : Int) ≤ (420 : Int32).toInt ∧ (420 : Int32).toInt ≤ 420 by decide) (by decide) (by decide)
    try unfold fM_isGiven
    try unfold fM_isGiven_0
    refine tt_bkv (P := fun z => ((0 : Int) ≤ z.toInt ∧ z.toInt ≤ 1) ∧ z.toInt = v1.toInt % 2) ⟨iv_rem (k := 2) i7 (show (2 : Int) ≤ (2 : Int32).toInt ∧ (2 : Int32).toInt ≤ 2 by decide) (by decide) (by decide) (by decide) (by decide), i_rem (x := v1) (y := 2) (Int.le_trans (by decide) i7.1) (by decide)⟩ (fun x8 qi9 => ?_)
    obtain ⟨i9, ei9⟩ := qi9
    refine tt_bif (fun c10 => ?_) (fun c10 => ?_)
    · have wc10 : x8.toInt = (0 : Int) := c_eq c10
      have i11 : (0 : Int) ≤ x8.toInt ∧ x8.toInt ≤ 0 := nr_eql c10 i9 (show (0 : Int) ≤ (0 : Int32).toInt ∧ (0 : Int32).toInt ≤ 0 by decide) (by decide) (by decide)
      refine tt_bkv (P := fun z => ((0 : Int) ≤ z.toInt ∧ z.toInt ≤ 209) ∧ z.toInt = v1.toInt / 2) ⟨iv_div (k := 2) i7 (show (2 : Int) ≤ (2 : Int32).toInt ∧ (2 : Int32).toInt ≤ 2 by decide) (by decide) (by decide) (by decide) (by decide), i_dv (Int.le_trans (by decide) i7.1) (by decide)⟩ (fun x12 qi13 => ?_)
      obtain ⟨i13, ei13⟩ := qi13
      refine tt_bb ?_
      try unfold fM_in
      try unfold fM_in_0
      refine tt_bif (fun c14 => ?_) (fun c14 => ?_)
      · have wc14 : x12.toInt < (1 : Int) := c_lt c14
        have i15 : (0 : Int) ≤ x12.toInt ∧ x12.toInt ≤ 0 := nr_ltl c14 i13 (show (1 : Int) ≤ (1 : Int32).toInt ∧ (1 : Int32).toInt ≤ 1 by decide) (by decide) (by decide)
        try unfold fM_in_14
        try unfold fM_in_15
        refine tt_bw (iv_b (show (0 : Int) ≤ (0 : Int32).toInt ∧ (0 : Int32).toInt ≤ 0 by decide) (by decide) (by decide)) ?_
        refine tt_bs ?_
        refine tt_bif (fun c16 => ?_) (fun c16 => ?_)
        · have wc16 : (0 : Int) = (0 : Int) := c_eq c16
          try unfold fM_isGiven_24
          try unfold fM_isGiven_25
          refine tt_bw (iv_b (show (0 : Int) ≤ (0 : Int32).toInt ∧ (0 : Int32).toInt ≤ 0 by decide) (by decide) (by decide)) ?_
          refine tt_bs ?_
          refine tt_n (ix_ok i7 (by decide) (by decide)) ?_
          refine tt_ko ?_
          have k17 := ok_xp (k := 86) (i := v1.toNatClampNeg) (v := (vp_nar .boolean 0)) k_o0 (iv_nz _)
          have r18 := fr_xp (k := 86) (i := v1.toNatClampNeg) (v := (vp_nar .boolean 0)) r_o0 rfl
          refine tt_n (ix_ok i7 (by decide) (by decide)) ?_
          refine tt_ko ?_
          have k19 := ok_xp (k := 88) (i := v1.toNatClampNeg) (v := (vp_nar .boolean 0)) k17 (iv_nz _)
          have r20 := fr_xp (k := 88) (i := v1.toNatClampNeg) (v := (vp_nar .boolean 0)) r18 rfl
          refine tt_kv (P := fun z => ((1 : Int) ≤ z.toInt ∧ z.toInt ≤ 420) ∧ z.toInt = v1.toInt + 1) ⟨iv_add i7 (show (1 : Int) ≤ (1 : Int32).toInt ∧ (1 : Int32).toInt ≤ 1 by decide) (by decide) (by decide) (by decide) (by decide), iq_add i7 (show (1 : Int) ≤ (1 : Int32).toInt ∧ (1 : Int32).toInt ≤ 1 by decide) (by decide) (by decide)⟩ (fun x21 qi22 => ?_)
          obtain ⟨i22, ei22⟩ := qi22
          have p23 : Rs x21.toInt (o0.1 39).toInt (upd (o0.2.1 88) (v1.toNatClampNeg) (vp_nar .boolean 0)) (upd (o0.2.1 86) (v1.toNatClampNeg) (vp_nar .boolean 0)) := by exact Rs_s x_5 (by omega) (by rw [tn_n]; omega) rfl (by decide) (by first | exact fun q => absurd (by decide) q | exact fun _ => by omega)
          exact H.1 _ _ k19 r20 (iv_w (a := 0) (b := 420) (by decide) (by decide) i22) f_o0_0 f_o0_38 f_o0_78 f_o0_95 x_0 x_1 x_2 x_3 x_4 p23 (show 436 + (420 - x21.toInt) * 2 < (n : Int) by omega)
        · have wc16 : ¬ (0 : Int) = (0 : Int) := c_ne c16
          exact (dd_ne c16 (show (0 : Int) ≤ (0 : Int32).toInt ∧ (0 : Int32).toInt ≤ 0 by decide) (show (0 : Int) ≤ (0 : Int32).toInt ∧ (0 : Int32).toInt ≤ 0 by decide)).elim
      · have wc14 : (1 : Int) ≤ x12.toInt := c_nlt c14
        have i24 : (1 : Int) ≤ x12.toInt ∧ x12.toInt ≤ 209 := nr_nltr c14 (show (1 : Int) ≤ (1 : Int32).toInt ∧ (1 : Int32).toInt ≤ 1 by decide) i13 (by decide) (by decide)
        refine tt_bif (fun c25 => ?_) (fun c25 => ?_)
        · have wc25 : (o0.1 39).toInt < x12.toInt := c_lt c25
          try unfold fM_in_14
          try unfold fM_in_15
          refine tt_bw (iv_b (show (0 : Int) ≤ (0 : Int32).toInt ∧ (0 : Int32).toInt ≤ 0 by decide) (by decide) (by decide)) ?_
          refine tt_bs ?_
          refine tt_bif (fun c26 => ?_) (fun c26 => ?_)
          · have wc26 : (0 : Int) = (0 : Int) := c_eq c26
            try unfold fM_isGiven_24
            try unfold fM_isGiven_25
            refine tt_bw (iv_b (show (0 : Int) ≤ (0 : Int32).toInt ∧ (0 : Int32).toInt ≤ 0 by decide) (by decide) (by decide)) ?_
            refine tt_bs ?_
            refine tt_n (ix_ok i7 (by decide) (by decide)) ?_
            refine tt_ko ?_
            have k27 := ok_xp (k := 86) (i := v1.toNatClampNeg) (v := (vp_nar .boolean 0)) k_o0 (iv_nz _)
            have r28 := fr_xp (k := 86) (i := v1.toNatClampNeg) (v := (vp_nar .boolean 0)) r_o0 rfl
            refine tt_n (ix_ok i7 (by decide) (by decide)) ?_
            refine tt_ko ?_
            have k29 := ok_xp (k := 88) (i := v1.toNatClampNeg) (v := (vp_nar .boolean 0)) k27 (iv_nz _)
            have r30 := fr_xp (k := 88) (i := v1.toNatClampNeg) (v := (vp_nar .boolean 0)) r28 rfl
            refine tt_kv (P := fun z => ((1 : Int) ≤ z.toInt ∧ z.toInt ≤ 420) ∧ z.toInt = v1.toInt + 1) ⟨iv_add i7 (show (1 : Int) ≤ (1 : Int32).toInt ∧ (1 : Int32).toInt ≤ 1 by decide) (by decide) (by decide) (by decide) (by decide), iq_add i7 (show (1 : Int) ≤ (1 : Int32).toInt ∧ (1 : Int32).toInt ≤ 1 by decide) (by decide) (by decide)⟩ (fun x31 qi32 => ?_)
            obtain ⟨i32, ei32⟩ := qi32
            have p33 : Rs x31.toInt (o0.1 39).toInt (upd (o0.2.1 88) (v1.toNatClampNeg) (vp_nar .boolean 0)) (upd (o0.2.1 86) (v1.toNatClampNeg) (vp_nar .boolean 0)) := by exact Rs_s x_5 (by omega) (by rw [tn_n]; omega) rfl (by decide) (by first | exact fun q => absurd (by decide) q | exact fun _ => by omega)
            exact H.1 _ _ k29 r30 (iv_w (a := 0) (b := 420) (by decide) (by decide) i32) f_o0_0 f_o0_38 f_o0_78 f_o0_95 x_0 x_1 x_2 x_3 x_4 p33 (show 436 + (420 - x31.toInt) * 2 < (n : Int) by omega)
          · have wc26 : ¬ (0 : Int) = (0 : Int) := c_ne c26
            exact (dd_ne c26 (show (0 : Int) ≤ (0 : Int32).toInt ∧ (0 : Int32).toInt ≤ 0 by decide) (show (0 : Int) ≤ (0 : Int32).toInt ∧ (0 : Int32).toInt ≤ 0 by decide)).elim
        · have wc25 : x12.toInt ≤ (o0.1 39).toInt := c_nlt c25
          have i34 : (1 : Int) ≤ x12.toInt ∧ x12.toInt ≤ 8 := nr_nltl c25 i24 (k_o0.1 39) (by decide) (by decide)
          have i35 : (1 : Int) ≤ (o0.1 39).toInt ∧ (o0.1 39).toInt ≤ 8 := nr_nltr c25 i24 (k_o0.1 39) (by decide) (by decide)
          try unfold fM_in_15
          refine tt_bw (iv_b (show (1 : Int) ≤ (1 : Int32).toInt ∧ (1 : Int32).toInt ≤ 1 by decide) (by decide) (by decide)) ?_
          refine tt_bs ?_
          refine tt_bif (fun c36 => ?_) (fun c36 => ?_)
          · have wc36 : (1 : Int) = (0 : Int) := c_eq c36
            exact (dd_eq c36 (show (1 : Int) ≤ (1 : Int32).toInt ∧ (1 : Int32).toInt ≤ 1 by decide) (show (0 : Int) ≤ (0 : Int32).toInt ∧ (0 : Int32).toInt ≤ 0 by decide) (by decide)).elim
          · have wc36 : ¬ (1 : Int) = (0 : Int) := c_ne c36
            try unfold fM_isGiven_25
            refine tt_bw (iv_b (show (1 : Int) ≤ (1 : Int32).toInt ∧ (1 : Int32).toInt ≤ 1 by decide) (by decide) (by decide)) ?_
            refine tt_bs ?_
            refine tt_n (ix_ok i7 (by decide) (by decide)) ?_
            refine tt_ko ?_
            have k37 := ok_xp (k := 86) (i := v1.toNatClampNeg) (v := (vp_nar .boolean 1)) k_o0 (iv_nz _)
            have r38 := fr_xp (k := 86) (i := v1.toNatClampNeg) (v := (vp_nar .boolean 1)) r_o0 rfl
            refine tt_n (ix_ok i7 (by decide) (by decide)) ?_
            refine tt_ko ?_
            have k39 := ok_xp (k := 88) (i := v1.toNatClampNeg) (v := (vp_nar .boolean 0)) k37 (iv_nz _)
            have r40 := fr_xp (k := 88) (i := v1.toNatClampNeg) (v := (vp_nar .boolean 0)) r38 rfl
            refine tt_kv (P := fun z => ((1 : Int) ≤ z.toInt ∧ z.toInt ≤ 420) ∧ z.toInt = v1.toInt + 1) ⟨iv_add i7 (show (1 : Int) ≤ (1 : Int32).toInt ∧ (1 : Int32).toInt ≤ 1 by decide) (by decide) (by decide) (by decide) (by decide), iq_add i7 (show (1 : Int) ≤ (1 : Int32).toInt ∧ (1 : Int32).toInt ≤ 1 by decide) (by decide) (by decide)⟩ (fun x41 qi42 => ?_)
            obtain ⟨i42, ei42⟩ := qi42
            have p43 : Rs x41.toInt (o0.1 39).toInt (upd (o0.2.1 88) (v1.toNatClampNeg) (vp_nar .boolean 0)) (upd (o0.2.1 86) (v1.toNatClampNeg) (vp_nar .boolean 1)) := by exact Rs_s x_5 (by omega) (by rw [tn_n]; omega) rfl (by decide) (by first | exact fun q => absurd (by decide) q | exact fun _ => by omega)
            exact H.1 _ _ k39 r40 (iv_w (a := 0) (b := 420) (by decide) (by decide) i42) f_o0_0 f_o0_38 f_o0_78 f_o0_95 x_0 x_1 x_2 x_3 x_4 p43 (show 436 + (420 - x41.toInt) * 2 < (n : Int) by omega)
    · have wc10 : ¬ x8.toInt = (0 : Int) := c_ne c10
      have i44 : (1 : Int) ≤ x8.toInt ∧ x8.toInt ≤ 1 := nr_nela c10 i9 (show (0 : Int) ≤ (0 : Int32).toInt ∧ (0 : Int32).toInt ≤ 0 by decide) (by decide) (by decide)
      try unfold fM_isGiven_24
      try unfold fM_isGiven_25
      refine tt_bw (iv_b (show (0 : Int) ≤ (0 : Int32).toInt ∧ (0 : Int32).toInt ≤ 0 by decide) (by decide) (by decide)) ?_
      refine tt_bs ?_
      refine tt_n (ix_ok i7 (by decide) (by decide)) ?_
      refine tt_ko ?_
      have k45 := ok_xp (k := 86) (i := v1.toNatClampNeg) (v := (vp_nar .boolean 0)) k_o0 (iv_nz _)
      have r46 := fr_xp (k := 86) (i := v1.toNatClampNeg) (v := (vp_nar .boolean 0)) r_o0 rfl
      refine tt_n (ix_ok i7 (by decide) (by decide)) ?_
      refine tt_ko ?_
      have k47 := ok_xp (k := 88) (i := v1.toNatClampNeg) (v := (vp_nar .boolean 0)) k45 (iv_nz _)
      have r48 := fr_xp (k := 88) (i := v1.toNatClampNeg) (v := (vp_nar .boolean 0)) r46 rfl
      refine tt_kv (P := fun z => ((1 : Int) ≤ z.toInt ∧ z.toInt ≤ 420) ∧ z.toInt = v1.toInt + 1) ⟨iv_add i7 (show (1 : Int) ≤ (1 : Int32).toInt ∧ (1 : Int32).toInt ≤ 1 by decide) (by decide) (by decide) (by decide) (by decide), iq_add i7 (show (1 : Int) ≤ (1 : Int32).toInt ∧ (1 : Int32).toInt ≤ 1 by decide) (by decide) (by decide)⟩ (fun x49 qi50 => ?_)
      obtain ⟨i50, ei50⟩ := qi50
      have p51 : Rs x49.toInt (o0.1 39).toInt (upd (o0.2.1 88) (v1.toNatClampNeg) (vp_nar .boolean 0)) (upd (o0.2.1 86) (v1.toNatClampNeg) (vp_nar .boolean 0)) := by exact Rs_s x_5 (by omega) (by rw [tn_n]; omega) rfl (by decide) (by first | exact fun q => absurd (by decide) q | exact fun _ => by omega)
      exact H.1 _ _ k47 r48 (iv_w (a := 0) (b := 420) (by decide) (by decide) i50) f_o0_0 f_o0_38 f_o0_78 f_o0_95 x_0 x_1 x_2 x_3 x_4 p51 (show 436 + (420 - x49.toInt) * 2 < (n : Int) by omega)
set_option maxHeartbeats 4000000 in
set_option maxRecDepth 100000 in
theorem hM_makeAll (yo0 : cf_O) : ∀ n, HM_makeAll yo0 n := by
  intro n
  induction n with
  | zero => exact ⟨(fun v1 o0 k_o0 r_o0 i_v1 f_o0_0 f_o0_38 f_o0_78 f_o0_95 x_0 x_1 x_2 x_3 x_4 x_5 hm => by exact absurd (show 436 + (420 - v1.toInt) * 2 < (0 : Int) from hm) (by omega)), (fun v1 o0 k_o0 r_o0 i_v1 f_o0_0 f_o0_38 f_o0_78 f_o0_95 x_0 x_1 x_2 x_3 x_4 x_5 x_6 x_7 x_8 x_9 hm => by exact absurd (show 418 + (9 - v1.toInt) * 2 < (0 : Int) from hm) (by omega)), (fun v1 o0 k_o0 r_o0 i_v1 f_o0_0 f_o0_38 f_o0_78 f_o0_95 x_0 x_1 x_2 x_3 x_4 x_5 x_6 x_7 x_8 x_9 hm => by exact absurd (show 0 + (209 - v1.toInt) * 2 < (0 : Int) from hm) (by omega))⟩
  | succ n ih => exact ⟨(fun v1 o0 k_o0 r_o0 i_v1 f_o0_0 f_o0_38 f_o0_78 f_o0_95 x_0 x_1 x_2 x_3 x_4 x_5 hm => tM_makeAll_2 ih v1 o0 k_o0 r_o0 i_v1 f_o0_0 f_o0_38 f_o0_78 f_o0_95 x_0 x_1 x_2 x_3 x_4 x_5 (by omega)), (fun v1 o0 k_o0 r_o0 i_v1 f_o0_0 f_o0_38 f_o0_78 f_o0_95 x_0 x_1 x_2 x_3 x_4 x_5 x_6 x_7 x_8 x_9 hm => tM_makeAll_35 ih v1 o0 k_o0 r_o0 i_v1 f_o0_0 f_o0_38 f_o0_78 f_o0_95 x_0 x_1 x_2 x_3 x_4 x_5 x_6 x_7 x_8 x_9 (by omega)), (fun v1 o0 k_o0 r_o0 i_v1 f_o0_0 f_o0_38 f_o0_78 f_o0_95 x_0 x_1 x_2 x_3 x_4 x_5 x_6 x_7 x_8 x_9 hm => tM_makeAll_63 ih v1 o0 k_o0 r_o0 i_v1 f_o0_0 f_o0_38 f_o0_78 f_o0_95 x_0 x_1 x_2 x_3 x_4 x_5 x_6 x_7 x_8 x_9 (by omega))⟩
set_option maxHeartbeats 4000000 in
set_option maxRecDepth 100000 in
theorem sM_makeAll (o0 : cf_O) (k_o0 : okO I_M o0) (f_o0_0 : (0 : Int) ≤ (o0.1 0).toInt ∧ (o0.1 0).toInt ≤ 0) (f_o0_36 : (0 : Int) ≤ (o0.1 36).toInt ∧ (o0.1 36).toInt ≤ 1) (f_o0_38 : (1 : Int) ≤ (o0.1 38).toInt ∧ (o0.1 38).toInt ≤ 1) (f_o0_78 : (1 : Int) ≤ (o0.1 78).toInt ∧ (o0.1 78).toInt ≤ 1) (f_o0_95 : (0 : Int) ≤ (o0.1 95).toInt ∧ (o0.1 95).toInt ≤ 0) (x_0 : Mt (o0.2.1 87)) (x_1 : Mt (o0.2.1 89)) (x_2 : Mt (o0.2.1 90)) (x_3 : Fp (o0.2.1 84)) (x_4 : Cn (o0.2.1 59) (o0.2.1 58)) : tt (fM_makeAll o0) (QM_makeAll o0) := by
  have H := hM_makeAll o0 cfFU
  have hm : (1279 : Int) ≤ (cfFU : Nat) := by decide
  have r_o0 : Fr (fr_M [] [86, 87, 88, 89, 90, 91, 98] []) o0 o0 := fr_rfl
  unfold fM_makeAll fM_makeAll_0
  have g_o0_39 : (0 : Int) ≤ (o0.1 39).toInt ∧ (o0.1 39).toInt ≤ 8 := k_o0.1 39
  have g_o0_43 : (0 : Int) ≤ (o0.1 43).toInt ∧ (o0.1 43).toInt ≤ 200 := k_o0.1 43
  have p1 : Rs 0 (o0.1 39).toInt (o0.2.1 88) (o0.2.1 86) := by exact Rs_0 _ _ _
  exact H.1 _ _ k_o0 r_o0 (iv_w (a := 0) (b := 420) (by decide) (by decide) (show (0 : Int) ≤ (0 : Int32).toInt ∧ (0 : Int32).toInt ≤ 0 by decide)) f_o0_0 f_o0_38 f_o0_78 f_o0_95 x_0 x_1 x_2 x_3 x_4 p1 (show 436 + (420 - 0) * 2 < ((cfFU : Nat) : Int) by omega)
def QM_markAll (o0 : cf_O) (r : (Int32 × cf_O)) : Prop := ((0 : Int) ≤ r.1.toInt ∧ r.1.toInt ≤ 1) ∧ (okO I_M r.2) ∧ (Fr (fr_M [] [92] []) o0 r.2) ∧ (Iv r.1.toInt (r.2.2.1 92) (r.2.2.1 87) (r.2.2.1 84)) ∧ True
def HM_markAll (yo0 : cf_O) (n : Nat) : Prop := (∀ (v1 : Int32) (o0 : cf_O), (okO I_M o0) → (Fr (fr_M [] [92] []) yo0 o0) → ((0 : Int) ≤ v1.toInt ∧ v1.toInt ≤ 420) → ((0 : Int) ≤ (o0.1 0).toInt ∧ (o0.1 0).toInt ≤ 0) → ((1 : Int) ≤ (o0.1 38).toInt ∧ (o0.1 38).toInt ≤ 1) → ((1 : Int) ≤ (o0.1 78).toInt ∧ (o0.1 78).toInt ≤ 1) → ((0 : Int) ≤ (o0.1 95).toInt ∧ (o0.1 95).toInt ≤ 0) → (Mt (o0.2.1 87)) → (Md (o0.1 39).toInt (o0.2.1 84) (o0.2.1 86) (o0.2.1 87) (o0.2.1 88)) → (Hl 0 0 (o0.2.1 88) (o0.2.1 86)) → (Iz0 v1.toInt (o0.2.1 92)) → 6000000 + (421 - v1.toInt) < (n : Int) → tt (gM_markAll n 0 v1 0 0 0 o0) (QM_markAll yo0)) ∧ (∀ (v1 : Int32) (v2 : Int32) (o0 : cf_O), (okO I_M o0) → (Fr (fr_M [] [92] []) yo0 o0) → ((0 : Int) ≤ v1.toInt ∧ v1.toInt ≤ 1) → ((0 : Int) ≤ v2.toInt ∧ v2.toInt ≤ 6) → ((0 : Int) ≤ (o0.1 0).toInt ∧ (o0.1 0).toInt ≤ 0) → ((1 : Int) ≤ (o0.1 38).toInt ∧ (o0.1 38).toInt ≤ 1) → ((1 : Int) ≤ (o0.1 78).toInt ∧ (o0.1 78).toInt ≤ 1) → ((0 : Int) ≤ (o0.1 95).toInt ∧ (o0.1 95).toInt ≤ 0) → (Mt (o0.2.1 87)) → (Md (o0.1 39).toInt (o0.2.1 84) (o0.2.1 86) (o0.2.1 87) (o0.2.1 88)) → (Hl 0 0 (o0.2.1 88) (o0.2.1 86)) → (In v1.toInt (o0.1 39).toInt (o0.2.1 86) (o0.2.1 92)) → 5000000 + (7 - v2.toInt) < (n : Int) → tt (gM_markAll n 1 v1 v2 0 0 o0) (QM_markAll yo0)) ∧ (∀ (v1 : Int32) (v2 : Int32) (o0 : cf_O), (okO I_M o0) → (Fr (fr_M [] [92] []) yo0 o0) → ((0 : Int) ≤ v1.toInt ∧ v1.toInt ≤ 1) → ((0 : Int) ≤ v2.toInt ∧ v2.toInt ≤ 1) → ((0 : Int) ≤ (o0.1 0).toInt ∧ (o0.1 0).toInt ≤ 0) → ((1 : Int) ≤ (o0.1 38).toInt ∧ (o0.1 38).toInt ≤ 1) → ((1 : Int) ≤ (o0.1 78).toInt ∧ (o0.1 78).toInt ≤ 1) → ((0 : Int) ≤ (o0.1 95).toInt ∧ (o0.1 95).toInt ≤ 0) → (Mt (o0.2.1 87)) → (Md (o0.1 39).toInt (o0.2.1 84) (o0.2.1 86) (o0.2.1 87) (o0.2.1 88)) → (Hl 0 0 (o0.2.1 88) (o0.2.1 86)) → (In v1.toInt (o0.1 39).toInt (o0.2.1 86) (o0.2.1 92)) → (nz (o0.2.1 92) 420 + v2.toInt) * 10000 < (n : Int) → tt (gM_markAll n 2 v1 v2 0 0 o0) (QM_markAll yo0)) ∧ (∀ (v1 : Int32) (v2 : Int32) (v3 : Int32) (o0 : cf_O), (okO I_M o0) → (Fr (fr_M [] [92] []) yo0 o0) → ((0 : Int) ≤ v1.toInt ∧ v1.toInt ≤ 1) → ((0 : Int) ≤ v2.toInt ∧ v2.toInt ≤ 1) → (((-1) : Int) ≤ v3.toInt ∧ v3.toInt ≤ 419) → ((0 : Int) ≤ (o0.1 0).toInt ∧ (o0.1 0).toInt ≤ 0) → ((1 : Int) ≤ (o0.1 38).toInt ∧ (o0.1 38).toInt ≤ 1) → ((1 : Int) ≤ (o0.1 78).toInt ∧ (o0.1 78).toInt ≤ 1) → ((0 : Int) ≤ (o0.1 95).toInt ∧ (o0.1 95).toInt ≤ 0) → (Mt (o0.2.1 87)) → (Md (o0.1 39).toInt (o0.2.1 84) (o0.2.1 86) (o0.2.1 87) (o0.2.1 88)) → (Hl 0 0 (o0.2.1 88) (o0.2.1 86)) → (In v1.toInt (o0.1 39).toInt (o0.2.1 86) (o0.2.1 92)) → (nz (o0.2.1 92) 420 + v2.toInt) * 10000 + 1 + (v3.toInt + 1) * 20 < (n : Int) → tt (gM_markAll n 3 v1 v2 v3 0 o0) (QM_markAll yo0)) ∧ (∀ (v1 : Int32) (v2 : Int32) (v3 : Int32) (v4 : Int32) (o0 : cf_O), (okO I_M o0) → (Fr (fr_M [] [92] []) yo0 o0) → ((0 : Int) ≤ v1.toInt ∧ v1.toInt ≤ 1) → ((0 : Int) ≤ v2.toInt ∧ v2.toInt ≤ 1) → ((0 : Int) ≤ v3.toInt ∧ v3.toInt ≤ 419) → ((0 : Int) ≤ v4.toInt ∧ v4.toInt ≤ 3) → ((0 : Int) ≤ (o0.1 0).toInt ∧ (o0.1 0).toInt ≤ 0) → ((1 : Int) ≤ (o0.1 38).toInt ∧ (o0.1 38).toInt ≤ 1) → ((1 : Int) ≤ (o0.1 78).toInt ∧ (o0.1 78).toInt ≤ 1) → ((0 : Int) ≤ (o0.1 95).toInt ∧ (o0.1 95).toInt ≤ 0) → (Mt (o0.2.1 87)) → (Md (o0.1 39).toInt (o0.2.1 84) (o0.2.1 86) (o0.2.1 87) (o0.2.1 88)) → (Hl 0 0 (o0.2.1 88) (o0.2.1 86)) → (In v1.toInt (o0.1 39).toInt (o0.2.1 86) (o0.2.1 92)) → (nz (o0.2.1 92) 420 + v2.toInt) * 10000 + 1 + v3.toInt * 20 + 1 + (4 - v4.toInt) * 2 < (n : Int) → tt (gM_markAll n 4 v1 v2 v3 v4 o0) (QM_markAll yo0))
set_option maxHeartbeats 4000000 in
set_option maxRecDepth 100000 in
theorem tM_markAll_139 {yo0 : cf_O} {n : Nat} (H : HM_markAll yo0 n) (v1 : Int32) (v2 : Int32) (v3 : Int32) (v4 : Int32) (o0 : cf_O) (k_o0 : okO I_M o0) (r_o0 : Fr (fr_M [] [92] []) yo0 o0) (i_v1 : (0 : Int) ≤ v1.toInt ∧ v1.toInt ≤ 1) (i_v2 : (0 : Int) ≤ v2.toInt ∧ v2.toInt ≤ 1) (i_v3 : (0 : Int) ≤ v3.toInt ∧ v3.toInt ≤ 419) (i_v4 : (0 : Int) ≤ v4.toInt ∧ v4.toInt ≤ 3) (f_o0_0 : (0 : Int) ≤ (o0.1 0).toInt ∧ (o0.1 0).toInt ≤ 0) (f_o0_38 : (1 : Int) ≤ (o0.1 38).toInt ∧ (o0.1 38).toInt ≤ 1) (f_o0_78 : (1 : Int) ≤ (o0.1 78).toInt ∧ (o0.1 78).toInt ≤ 1) (f_o0_95 : (0 : Int) ≤ (o0.1 95).toInt ∧ (o0.1 95).toInt ≤ 0) (x_0 : Mt (o0.2.1 87)) (x_1 : Md (o0.1 39).toInt (o0.2.1 84) (o0.2.1 86) (o0.2.1 87) (o0.2.1 88)) (x_2 : Hl 0 0 (o0.2.1 88) (o0.2.1 86)) (x_3 : In v1.toInt (o0.1 39).toInt (o0.2.1 86) (o0.2.1 92)) (hm : (nz (o0.2.1 92) 420 + v2.toInt) * 10000 + 1 + v3.toInt * 20 + 1 + (4 - v4.toInt) * 2 ≤ (n : Int)) : tt (fM_markAll_139 (gM_markAll n) v1 v2 v3 v4 o0) (QM_markAll yo0) := by
  unfold fM_markAll_139
  have g_o0_39 : (0 : Int) ≤ (o0.1 39).toInt ∧ (o0.1 39).toInt ≤ 8 := k_o0.1 39
  have ey_o0_39 : (o0.1 39).toInt = (yo0.1 39).toInt := congrArg Int32.toInt (r_o0.1 39 rfl)
  have t1 := nz_b (o0.2.1 92) 420
  refine tt_if (fun c2 => ?_) (fun c2 => ?_)
  · have wc2 : (3 : Int) ≤ v4.toInt := c_le c2
    have i3 : (3 : Int) ≤ v4.toInt ∧ v4.toInt ≤ 3 := nr_ler c2 (show (3 : Int) ≤ (3 : Int32).toInt ∧ (3 : Int32).toInt ≤ 3 by decide) i_v4 (by decide) (by decide)
    try unfold fM_markAll_209
    refine tt_kv (P := fun z => (((-1) : Int) ≤ z.toInt ∧ z.toInt ≤ 418) ∧ z.toInt = v3.toInt + (-1)) ⟨iv_add i_v3 (show ((-1) : Int) ≤ ((-1) : Int32).toInt ∧ ((-1) : Int32).toInt ≤ (-1) by decide) (by decide) (by decide) (by decide) (by decide), iq_add i_v3 (show ((-1) : Int) ≤ ((-1) : Int32).toInt ∧ ((-1) : Int32).toInt ≤ (-1) by decide) (by decide) (by decide)⟩ (fun x4 qi5 => ?_)
    obtain ⟨i5, ei5⟩ := qi5
    exact H.2.2.2.1 _ _ _ _ k_o0 r_o0 i_v1 i_v2 (iv_w (a := (-1)) (b := 419) (by decide) (by decide) i5) f_o0_0 f_o0_38 f_o0_78 f_o0_95 x_0 x_1 x_2 x_3 (show (nz (o0.2.1 92) 420 + v2.toInt) * 10000 + 1 + (x4.toInt + 1) * 20 < (n : Int) by omega)
  · have wc2 : v4.toInt < (3 : Int) := c_nle c2
    have i6 : (0 : Int) ≤ v4.toInt ∧ v4.toInt ≤ 2 := nr_nlel c2 i_v4 (show (3 : Int) ≤ (3 : Int32).toInt ∧ (3 : Int32).toInt ≤ 3 by decide) (by decide) (by decide)
    refine tt_n (ix_ok i_v3 (by decide) (by decide)) ?_
    refine tt_kv (P := fun z => ((0 : Int) ≤ z.toInt ∧ z.toInt ≤ 1) ∧ z.toInt = (o0.2.1 92 v3.toNatClampNeg).toInt) ⟨(k_o0.2 92 _), rfl⟩ (fun x7 qi8 => ?_)
    obtain ⟨i8, ei8⟩ := qi8
    refine tt_if (fun c9 => ?_) (fun c9 => ?_)
    · have wc9 : x7.toInt = (0 : Int) := c_eq c9
      have i10 : (0 : Int) ≤ x7.toInt ∧ x7.toInt ≤ 0 := nr_eql c9 i8 (show (0 : Int) ≤ (0 : Int32).toInt ∧ (0 : Int32).toInt ≤ 0 by decide) (by decide) (by decide)
      try unfold fM_markAll_209
      refine tt_kv (P := fun z => (((-1) : Int) ≤ z.toInt ∧ z.toInt ≤ 418) ∧ z.toInt = v3.toInt + (-1)) ⟨iv_add i_v3 (show ((-1) : Int) ≤ ((-1) : Int32).toInt ∧ ((-1) : Int32).toInt ≤ (-1) by decide) (by decide) (by decide) (by decide) (by decide), iq_add i_v3 (show ((-1) : Int) ≤ ((-1) : Int32).toInt ∧ ((-1) : Int32).toInt ≤ (-1) by decide) (by decide) (by decide)⟩ (fun x11 qi12 => ?_)
      obtain ⟨i12, ei12⟩ := qi12
      exact H.2.2.2.1 _ _ _ _ k_o0 r_o0 i_v1 i_v2 (iv_w (a := (-1)) (b := 419) (by decide) (by decide) i12) f_o0_0 f_o0_38 f_o0_78 f_o0_95 x_0 x_1 x_2 x_3 (show (nz (o0.2.1 92) 420 + v2.toInt) * 10000 + 1 + (x11.toInt + 1) * 20 < (n : Int) by omega)
    · have wc9 : ¬ x7.toInt = (0 : Int) := c_ne c9
      have i13 : (1 : Int) ≤ x7.toInt ∧ x7.toInt ≤ 1 := nr_nela c9 i8 (show (0 : Int) ≤ (0 : Int32).toInt ∧ (0 : Int32).toInt ≤ 0 by decide) (by decide) (by decide)
      refine tt_kv (P := fun z => ((0 : Int) ≤ z.toInt ∧ z.toInt ≤ 2095) ∧ z.toInt = 5 * v3.toInt) ⟨iv_mul (show (5 : Int) ≤ (5 : Int32).toInt ∧ (5 : Int32).toInt ≤ 5 by decide) i_v3 (by decide) (by decide) (by decide) (by decide) (by decide), iq_mul (show (5 : Int) ≤ (5 : Int32).toInt ∧ (5 : Int32).toInt ≤ 5 by decide) i_v3 (by decide) (by decide) (by decide) (by decide)⟩ (fun x14 qi15 => ?_)
      obtain ⟨i15, ei15⟩ := qi15
      refine tt_kv (P := fun z => ((2 : Int) ≤ z.toInt ∧ z.toInt ≤ 2097) ∧ z.toInt = x14.toInt + 2) ⟨iv_add i15 (show (2 : Int) ≤ (2 : Int32).toInt ∧ (2 : Int32).toInt ≤ 2 by decide) (by decide) (by decide) (by decide) (by decide), iq_add i15 (show (2 : Int) ≤ (2 : Int32).toInt ∧ (2 : Int32).toInt ≤ 2 by decide) (by decide) (by decide)⟩ (fun x16 qi17 => ?_)
      obtain ⟨i17, ei17⟩ := qi17
      refine tt_kv (P := fun z => ((2 : Int) ≤ z.toInt ∧ z.toInt ≤ 2099) ∧ z.toInt = x16.toInt + v4.toInt) ⟨iv_add i17 i6 (by decide) (by decide) (by decide) (by decide), iq_add i17 i6 (by decide) (by decide)⟩ (fun x18 qi19 => ?_)
      obtain ⟨i19, ei19⟩ := qi19
      refine tt_n (ix_ok i19 (by decide) (by decide)) ?_
      refine tt_kv (P := fun z => (((-2147483648) : Int) ≤ z.toInt ∧ z.toInt ≤ 2147483647) ∧ z.toInt = (o0.2.1 87 x18.toNatClampNeg).toInt) ⟨(k_o0.2 87 _), rfl⟩ (fun x20 qi21 => ?_)
      obtain ⟨i21, ei21⟩ := qi21
      have t22 := tn_n x18
      have t23 := x_0 (x18.toNatClampNeg)
      have i24 : ((-1) : Int) ≤ x20.toInt ∧ x20.toInt ≤ 417 := by omega
      refine tt_if (fun c25 => ?_) (fun c25 => ?_)
      · have wc25 : x20.toInt < (0 : Int) := c_lt c25
        have i26 : ((-1) : Int) ≤ x20.toInt ∧ x20.toInt ≤ (-1) := nr_ltl c25 i24 (show (0 : Int) ≤ (0 : Int32).toInt ∧ (0 : Int32).toInt ≤ 0 by decide) (by decide) (by decide)
        try unfold fM_markAll_203
        refine tt_kv (P := fun z => ((1 : Int) ≤ z.toInt ∧ z.toInt ≤ 3) ∧ z.toInt = v4.toInt + 1) ⟨iv_add i6 (show (1 : Int) ≤ (1 : Int32).toInt ∧ (1 : Int32).toInt ≤ 1 by decide) (by decide) (by decide) (by decide) (by decide), iq_add i6 (show (1 : Int) ≤ (1 : Int32).toInt ∧ (1 : Int32).toInt ≤ 1 by decide) (by decide) (by decide)⟩ (fun x27 qi28 => ?_)
        obtain ⟨i28, ei28⟩ := qi28
        exact H.2.2.2.2 _ _ _ _ _ k_o0 r_o0 i_v1 i_v2 i_v3 (iv_w (a := 0) (b := 3) (by decide) (by decide) i28) f_o0_0 f_o0_38 f_o0_78 f_o0_95 x_0 x_1 x_2 x_3 (show (nz (o0.2.1 92) 420 + v2.toInt) * 10000 + 1 + v3.toInt * 20 + 1 + (4 - x27.toInt) * 2 < (n : Int) by omega)
      · have wc25 : (0 : Int) ≤ x20.toInt := c_nlt c25
        have i29 : (0 : Int) ≤ x20.toInt ∧ x20.toInt ≤ 417 := nr_nltr c25 (show (0 : Int) ≤ (0 : Int32).toInt ∧ (0 : Int32).toInt ≤ 0 by decide) i24 (by decide) (by decide)
        try unfold fM_isWanted
        try unfold fM_isWanted_0
        refine tt_bif (fun c30 => ?_) (fun c30 => ?_)
        · have wc30 : x20.toInt ≤ (1 : Int) := c_le c30
          have i31 : (0 : Int) ≤ x20.toInt ∧ x20.toInt ≤ 1 := nr_lel c30 i29 (show (1 : Int) ≤ (1 : Int32).toInt ∧ (1 : Int32).toInt ≤ 1 by decide) (by decide) (by decide)
          try unfold fM_isWanted_17
          try unfold fM_isWanted_18
          refine tt_bw (iv_b (show (0 : Int) ≤ (0 : Int32).toInt ∧ (0 : Int32).toInt ≤ 0 by decide) (by decide) (by decide)) ?_
          refine tt_bs ?_
          refine tt_if (fun c32 => ?_) (fun c32 => ?_)
          · have wc32 : (0 : Int) = (0 : Int) := c_eq c32
            try unfold fM_markAll_203
            refine tt_kv (P := fun z => ((1 : Int) ≤ z.toInt ∧ z.toInt ≤ 3) ∧ z.toInt = v4.toInt + 1) ⟨iv_add i6 (show (1 : Int) ≤ (1 : Int32).toInt ∧ (1 : Int32).toInt ≤ 1 by decide) (by decide) (by decide) (by decide) (by decide), iq_add i6 (show (1 : Int) ≤ (1 : Int32).toInt ∧ (1 : Int32).toInt ≤ 1 by decide) (by decide) (by decide)⟩ (fun x33 qi34 => ?_)
            obtain ⟨i34, ei34⟩ := qi34
            exact H.2.2.2.2 _ _ _ _ _ k_o0 r_o0 i_v1 i_v2 i_v3 (iv_w (a := 0) (b := 3) (by decide) (by decide) i34) f_o0_0 f_o0_38 f_o0_78 f_o0_95 x_0 x_1 x_2 x_3 (show (nz (o0.2.1 92) 420 + v2.toInt) * 10000 + 1 + v3.toInt * 20 + 1 + (4 - x33.toInt) * 2 < (n : Int) by omega)
          · have wc32 : ¬ (0 : Int) = (0 : Int) := c_ne c32
            exact (dd_ne c32 (show (0 : Int) ≤ (0 : Int32).toInt ∧ (0 : Int32).toInt ≤ 0 by decide) (show (0 : Int) ≤ (0 : Int32).toInt ∧ (0 : Int32).toInt ≤ 0 by decide)).elim
        · have wc30 : (1 : Int) < x20.toInt := c_nle c30
          have i35 : (2 : Int) ≤ x20.toInt ∧ x20.toInt ≤ 417 := nr_nler c30 (show (1 : Int) ≤ (1 : Int32).toInt ∧ (1 : Int32).toInt ≤ 1 by decide) i29 (by decide) (by decide)
          refine tt_bb ?_
          try unfold fM_isGiven
          try unfold fM_isGiven_0
          refine tt_bkv (P := fun z => ((0 : Int) ≤ z.toInt ∧ z.toInt ≤ 1) ∧ z.toInt = x20.toInt % 2) ⟨iv_rem (k := 2) i35 (show (2 : Int) ≤ (2 : Int32).toInt ∧ (2 : Int32).toInt ≤ 2 by decide) (by decide) (by decide) (by decide) (by decide), i_rem (x := x20) (y := 2) (Int.le_trans (by decide) i35.1) (by decide)⟩ (fun x36 qi37 => ?_)
          obtain ⟨i37, ei37⟩ := qi37
          refine tt_bif (fun c38 => ?_) (fun c38 => ?_)
          · have wc38 : x36.toInt = (0 : Int) := c_eq c38
            have i39 : (0 : Int) ≤ x36.toInt ∧ x36.toInt ≤ 0 := nr_eql c38 i37 (show (0 : Int) ≤ (0 : Int32).toInt ∧ (0 : Int32).toInt ≤ 0 by decide) (by decide) (by decide)
            refine tt_bkv (P := fun z => ((1 : Int) ≤ z.toInt ∧ z.toInt ≤ 208) ∧ z.toInt = x20.toInt / 2) ⟨iv_div (k := 2) i35 (show (2 : Int) ≤ (2 : Int32).toInt ∧ (2 : Int32).toInt ≤ 2 by decide) (by decide) (by decide) (by decide) (by decide), i_dv (Int.le_trans (by decide) i35.1) (by decide)⟩ (fun x40 qi41 => ?_)
            obtain ⟨i41, ei41⟩ := qi41
            refine tt_bb ?_
            try unfold fM_in
            try unfold fM_in_0
            refine tt_bif (fun c42 => ?_) (fun c42 => ?_)
            · have wc42 : x40.toInt < (1 : Int) := c_lt c42
              exact (dd_lt c42 i41 (show (1 : Int) ≤ (1 : Int32).toInt ∧ (1 : Int32).toInt ≤ 1 by decide) (by decide)).elim
            · have wc42 : (1 : Int) ≤ x40.toInt := c_nlt c42
              refine tt_bif (fun c43 => ?_) (fun c43 => ?_)
              · have wc43 : (o0.1 39).toInt < x40.toInt := c_lt c43
                try unfold fM_in_14
                try unfold fM_in_15
                refine tt_bw (iv_b (show (0 : Int) ≤ (0 : Int32).toInt ∧ (0 : Int32).toInt ≤ 0 by decide) (by decide) (by decide)) ?_
                refine tt_bs ?_
                refine tt_bif (fun c44 => ?_) (fun c44 => ?_)
                · have wc44 : (0 : Int) = (0 : Int) := c_eq c44
                  try unfold fM_isGiven_24
                  try unfold fM_isGiven_25
                  refine tt_bw (iv_b (show (0 : Int) ≤ (0 : Int32).toInt ∧ (0 : Int32).toInt ≤ 0 by decide) (by decide) (by decide)) ?_
                  refine tt_bs ?_
                  refine tt_bif (fun c45 => ?_) (fun c45 => ?_)
                  · have wc45 : (0 : Int) = (0 : Int) := c_eq c45
                    try unfold fM_isWanted_18
                    refine tt_bw (iv_b (show (1 : Int) ≤ (1 : Int32).toInt ∧ (1 : Int32).toInt ≤ 1 by decide) (by decide) (by decide)) ?_
                    refine tt_bs ?_
                    refine tt_if (fun c46 => ?_) (fun c46 => ?_)
                    · have wc46 : (1 : Int) = (0 : Int) := c_eq c46
                      exact (dd_eq c46 (show (1 : Int) ≤ (1 : Int32).toInt ∧ (1 : Int32).toInt ≤ 1 by decide) (show (0 : Int) ≤ (0 : Int32).toInt ∧ (0 : Int32).toInt ≤ 0 by decide) (by decide)).elim
                    · have wc46 : ¬ (1 : Int) = (0 : Int) := c_ne c46
                      refine tt_n (ix_ok i35 (by decide) (by decide)) ?_
                      refine tt_kv (P := fun z => ((0 : Int) ≤ z.toInt ∧ z.toInt ≤ 1) ∧ z.toInt = (o0.2.1 92 x20.toNatClampNeg).toInt) ⟨(k_o0.2 92 _), rfl⟩ (fun x47 qi48 => ?_)
                      obtain ⟨i48, ei48⟩ := qi48
                      refine tt_if (fun c49 => ?_) (fun c49 => ?_)
                      · have wc49 : x47.toInt = (0 : Int) := c_eq c49
                        have i50 : (0 : Int) ≤ x47.toInt ∧ x47.toInt ≤ 0 := nr_eql c49 i48 (show (0 : Int) ≤ (0 : Int32).toInt ∧ (0 : Int32).toInt ≤ 0 by decide) (by decide) (by decide)
                        refine tt_n (ix_ok i35 (by decide) (by decide)) ?_
                        refine tt_ko ?_
                        have k51 := ok_xp (k := 92) (i := x20.toNatClampNeg) (v := (vp_nar .boolean 1)) k_o0 (iv_nz _)
                        have r52 := fr_xp (k := 92) (i := x20.toNatClampNeg) (v := (vp_nar .boolean 1)) r_o0 rfl
                        have t53 := tn_n x20
                        have t54 : ((vp_nar .boolean 1) : Int32).toInt = 1 := (by decide)
                        have t55 := nz_w (f := (o0.2.1 92)) (i := x20.toNatClampNeg) (n := 420) (v := (vp_nar .boolean 1))
                        try unfold fM_markAll_203
                        refine tt_kv (P := fun z => ((1 : Int) ≤ z.toInt ∧ z.toInt ≤ 3) ∧ z.toInt = v4.toInt + 1) ⟨iv_add i6 (show (1 : Int) ≤ (1 : Int32).toInt ∧ (1 : Int32).toInt ≤ 1 by decide) (by decide) (by decide) (by decide) (by decide), iq_add i6 (show (1 : Int) ≤ (1 : Int32).toInt ∧ (1 : Int32).toInt ≤ 1 by decide) (by decide) (by decide)⟩ (fun x56 qi57 => ?_)
                        obtain ⟨i57, ei57⟩ := qi57
                        have p58 : In v1.toInt (o0.1 39).toInt (o0.2.1 86) (upd (o0.2.1 92) (x20.toNatClampNeg) (vp_nar .boolean 1)) := by exact In_p (l := v3) (k := v4.toInt) x_3 x_1 x_2 (by assumption) (by omega) (by omega) (by assumption) (by rw [tn_n]; omega) (by omega) (by omega) (by omega) (by omega)
                        exact H.2.2.2.2 _ _ _ _ _ k51 r52 i_v1 (iv_w (a := 0) (b := 1) (by decide) (by decide) (show (1 : Int) ≤ (1 : Int32).toInt ∧ (1 : Int32).toInt ≤ 1 by decide)) i_v3 (iv_w (a := 0) (b := 3) (by decide) (by decide) i57) f_o0_0 f_o0_38 f_o0_78 f_o0_95 x_0 x_1 x_2 p58 (show (nz (upd (o0.2.1 92) (x20.toNatClampNeg) (vp_nar .boolean 1)) 420 + 1) * 10000 + 1 + v3.toInt * 20 + 1 + (4 - x56.toInt) * 2 < (n : Int) by omega)
                      · have wc49 : ¬ x47.toInt = (0 : Int) := c_ne c49
                        have i59 : (1 : Int) ≤ x47.toInt ∧ x47.toInt ≤ 1 := nr_nela c49 i48 (show (0 : Int) ≤ (0 : Int32).toInt ∧ (0 : Int32).toInt ≤ 0 by decide) (by decide) (by decide)
                        try unfold fM_markAll_203
                        refine tt_kv (P := fun z => ((1 : Int) ≤ z.toInt ∧ z.toInt ≤ 3) ∧ z.toInt = v4.toInt + 1) ⟨iv_add i6 (show (1 : Int) ≤ (1 : Int32).toInt ∧ (1 : Int32).toInt ≤ 1 by decide) (by decide) (by decide) (by decide) (by decide), iq_add i6 (show (1 : Int) ≤ (1 : Int32).toInt ∧ (1 : Int32).toInt ≤ 1 by decide) (by decide) (by decide)⟩ (fun x60 qi61 => ?_)
                        obtain ⟨i61, ei61⟩ := qi61
                        exact H.2.2.2.2 _ _ _ _ _ k_o0 r_o0 i_v1 i_v2 i_v3 (iv_w (a := 0) (b := 3) (by decide) (by decide) i61) f_o0_0 f_o0_38 f_o0_78 f_o0_95 x_0 x_1 x_2 x_3 (show (nz (o0.2.1 92) 420 + v2.toInt) * 10000 + 1 + v3.toInt * 20 + 1 + (4 - x60.toInt) * 2 < (n : Int) by omega)
                  · have wc45 : ¬ (0 : Int) = (0 : Int) := c_ne c45
                    exact (dd_ne c45 (show (0 : Int) ≤ (0 : Int32).toInt ∧ (0 : Int32).toInt ≤ 0 by decide) (show (0 : Int) ≤ (0 : Int32).toInt ∧ (0 : Int32).toInt ≤ 0 by decide)).elim
                · have wc44 : ¬ (0 : Int) = (0 : Int) := c_ne c44
                  exact (dd_ne c44 (show (0 : Int) ≤ (0 : Int32).toInt ∧ (0 : Int32).toInt ≤ 0 by decide) (show (0 : Int) ≤ (0 : Int32).toInt ∧ (0 : Int32).toInt ≤ 0 by decide)).elim
              · have wc43 : x40.toInt ≤ (o0.1 39).toInt := c_nlt c43
                have i62 : (1 : Int) ≤ x40.toInt ∧ x40.toInt ≤ 8 := nr_nltl c43 i41 (k_o0.1 39) (by decide) (by decide)
                have i63 : (1 : Int) ≤ (o0.1 39).toInt ∧ (o0.1 39).toInt ≤ 8 := nr_nltr c43 i41 (k_o0.1 39) (by decide) (by decide)
                try unfold fM_in_15
                refine tt_bw (iv_b (show (1 : Int) ≤ (1 : Int32).toInt ∧ (1 : Int32).toInt ≤ 1 by decide) (by decide) (by decide)) ?_
                refine tt_bs ?_
                refine tt_bif (fun c64 => ?_) (fun c64 => ?_)
                · have wc64 : (1 : Int) = (0 : Int) := c_eq c64
                  exact (dd_eq c64 (show (1 : Int) ≤ (1 : Int32).toInt ∧ (1 : Int32).toInt ≤ 1 by decide) (show (0 : Int) ≤ (0 : Int32).toInt ∧ (0 : Int32).toInt ≤ 0 by decide) (by decide)).elim
                · have wc64 : ¬ (1 : Int) = (0 : Int) := c_ne c64
                  try unfold fM_isGiven_25
                  refine tt_bw (iv_b (show (1 : Int) ≤ (1 : Int32).toInt ∧ (1 : Int32).toInt ≤ 1 by decide) (by decide) (by decide)) ?_
                  refine tt_bs ?_
                  refine tt_bif (fun c65 => ?_) (fun c65 => ?_)
                  · have wc65 : (1 : Int) = (0 : Int) := c_eq c65
                    exact (dd_eq c65 (show (1 : Int) ≤ (1 : Int32).toInt ∧ (1 : Int32).toInt ≤ 1 by decide) (show (0 : Int) ≤ (0 : Int32).toInt ∧ (0 : Int32).toInt ≤ 0 by decide) (by decide)).elim
                  · have wc65 : ¬ (1 : Int) = (0 : Int) := c_ne c65
                    try unfold fM_isWanted_17
                    try unfold fM_isWanted_18
                    refine tt_bw (iv_b (show (0 : Int) ≤ (0 : Int32).toInt ∧ (0 : Int32).toInt ≤ 0 by decide) (by decide) (by decide)) ?_
                    refine tt_bs ?_
                    refine tt_if (fun c66 => ?_) (fun c66 => ?_)
                    · have wc66 : (0 : Int) = (0 : Int) := c_eq c66
                      try unfold fM_markAll_203
                      refine tt_kv (P := fun z => ((1 : Int) ≤ z.toInt ∧ z.toInt ≤ 3) ∧ z.toInt = v4.toInt + 1) ⟨iv_add i6 (show (1 : Int) ≤ (1 : Int32).toInt ∧ (1 : Int32).toInt ≤ 1 by decide) (by decide) (by decide) (by decide) (by decide), iq_add i6 (show (1 : Int) ≤ (1 : Int32).toInt ∧ (1 : Int32).toInt ≤ 1 by decide) (by decide) (by decide)⟩ (fun x67 qi68 => ?_)
                      obtain ⟨i68, ei68⟩ := qi68
                      exact H.2.2.2.2 _ _ _ _ _ k_o0 r_o0 i_v1 i_v2 i_v3 (iv_w (a := 0) (b := 3) (by decide) (by decide) i68) f_o0_0 f_o0_38 f_o0_78 f_o0_95 x_0 x_1 x_2 x_3 (show (nz (o0.2.1 92) 420 + v2.toInt) * 10000 + 1 + v3.toInt * 20 + 1 + (4 - x67.toInt) * 2 < (n : Int) by omega)
                    · have wc66 : ¬ (0 : Int) = (0 : Int) := c_ne c66
                      exact (dd_ne c66 (show (0 : Int) ≤ (0 : Int32).toInt ∧ (0 : Int32).toInt ≤ 0 by decide) (show (0 : Int) ≤ (0 : Int32).toInt ∧ (0 : Int32).toInt ≤ 0 by decide)).elim
          · have wc38 : ¬ x36.toInt = (0 : Int) := c_ne c38
            have i69 : (1 : Int) ≤ x36.toInt ∧ x36.toInt ≤ 1 := nr_nela c38 i37 (show (0 : Int) ≤ (0 : Int32).toInt ∧ (0 : Int32).toInt ≤ 0 by decide) (by decide) (by decide)
            try unfold fM_isGiven_24
            try unfold fM_isGiven_25
            refine tt_bw (iv_b (show (0 : Int) ≤ (0 : Int32).toInt ∧ (0 : Int32).toInt ≤ 0 by decide) (by decide) (by decide)) ?_
            refine tt_bs ?_
            refine tt_bif (fun c70 => ?_) (fun c70 => ?_)
            · have wc70 : (0 : Int) = (0 : Int) := c_eq c70
              try unfold fM_isWanted_18
              refine tt_bw (iv_b (show (1 : Int) ≤ (1 : Int32).toInt ∧ (1 : Int32).toInt ≤ 1 by decide) (by decide) (by decide)) ?_
              refine tt_bs ?_
              refine tt_if (fun c71 => ?_) (fun c71 => ?_)
              · have wc71 : (1 : Int) = (0 : Int) := c_eq c71
                exact (dd_eq c71 (show (1 : Int) ≤ (1 : Int32).toInt ∧ (1 : Int32).toInt ≤ 1 by decide) (show (0 : Int) ≤ (0 : Int32).toInt ∧ (0 : Int32).toInt ≤ 0 by decide) (by decide)).elim
              · have wc71 : ¬ (1 : Int) = (0 : Int) := c_ne c71
                refine tt_n (ix_ok i35 (by decide) (by decide)) ?_
                refine tt_kv (P := fun z => ((0 : Int) ≤ z.toInt ∧ z.toInt ≤ 1) ∧ z.toInt = (o0.2.1 92 x20.toNatClampNeg).toInt) ⟨(k_o0.2 92 _), rfl⟩ (fun x72 qi73 => ?_)
                obtain ⟨i73, ei73⟩ := qi73
                refine tt_if (fun c74 => ?_) (fun c74 => ?_)
                · have wc74 : x72.toInt = (0 : Int) := c_eq c74
                  have i75 : (0 : Int) ≤ x72.toInt ∧ x72.toInt ≤ 0 := nr_eql c74 i73 (show (0 : Int) ≤ (0 : Int32).toInt ∧ (0 : Int32).toInt ≤ 0 by decide) (by decide) (by decide)
                  refine tt_n (ix_ok i35 (by decide) (by decide)) ?_
                  refine tt_ko ?_
                  have k76 := ok_xp (k := 92) (i := x20.toNatClampNeg) (v := (vp_nar .boolean 1)) k_o0 (iv_nz _)
                  have r77 := fr_xp (k := 92) (i := x20.toNatClampNeg) (v := (vp_nar .boolean 1)) r_o0 rfl
                  have t78 := tn_n x20
                  have t79 : ((vp_nar .boolean 1) : Int32).toInt = 1 := (by decide)
                  have t80 := nz_w (f := (o0.2.1 92)) (i := x20.toNatClampNeg) (n := 420) (v := (vp_nar .boolean 1))
                  try unfold fM_markAll_203
                  refine tt_kv (P := fun z => ((1 : Int) ≤ z.toInt ∧ z.toInt ≤ 3) ∧ z.toInt = v4.toInt + 1) ⟨iv_add i6 (show (1 : Int) ≤ (1 : Int32).toInt ∧ (1 : Int32).toInt ≤ 1 by decide) (by decide) (by decide) (by decide) (by decide), iq_add i6 (show (1 : Int) ≤ (1 : Int32).toInt ∧ (1 : Int32).toInt ≤ 1 by decide) (by decide) (by decide)⟩ (fun x81 qi82 => ?_)
                  obtain ⟨i82, ei82⟩ := qi82
                  have p83 : In v1.toInt (o0.1 39).toInt (o0.2.1 86) (upd (o0.2.1 92) (x20.toNatClampNeg) (vp_nar .boolean 1)) := by exact In_p (l := v3) (k := v4.toInt) x_3 x_1 x_2 (by assumption) (by omega) (by omega) (by assumption) (by rw [tn_n]; omega) (by omega) (by omega) (by omega) (by omega)
                  exact H.2.2.2.2 _ _ _ _ _ k76 r77 i_v1 (iv_w (a := 0) (b := 1) (by decide) (by decide) (show (1 : Int) ≤ (1 : Int32).toInt ∧ (1 : Int32).toInt ≤ 1 by decide)) i_v3 (iv_w (a := 0) (b := 3) (by decide) (by decide) i82) f_o0_0 f_o0_38 f_o0_78 f_o0_95 x_0 x_1 x_2 p83 (show (nz (upd (o0.2.1 92) (x20.toNatClampNeg) (vp_nar .boolean 1)) 420 + 1) * 10000 + 1 + v3.toInt * 20 + 1 + (4 - x81.toInt) * 2 < (n : Int) by omega)
                · have wc74 : ¬ x72.toInt = (0 : Int) := c_ne c74
                  have i84 : (1 : Int) ≤ x72.toInt ∧ x72.toInt ≤ 1 := nr_nela c74 i73 (show (0 : Int) ≤ (0 : Int32).toInt ∧ (0 : Int32).toInt ≤ 0 by decide) (by decide) (by decide)
                  try unfold fM_markAll_203
                  refine tt_kv (P := fun z => ((1 : Int) ≤ z.toInt ∧ z.toInt ≤ 3) ∧ z.toInt = v4.toInt + 1) ⟨iv_add i6 (show (1 : Int) ≤ (1 : Int32).toInt ∧ (1 : Int32).toInt ≤ 1 by decide) (by decide) (by decide) (by decide) (by decide), iq_add i6 (show (1 : Int) ≤ (1 : Int32).toInt ∧ (1 : Int32).toInt ≤ 1 by decide) (by decide) (by decide)⟩ (fun x85 qi86 => ?_)
                  obtain ⟨i86, ei86⟩ := qi86
                  exact H.2.2.2.2 _ _ _ _ _ k_o0 r_o0 i_v1 i_v2 i_v3 (iv_w (a := 0) (b := 3) (by decide) (by decide) i86) f_o0_0 f_o0_38 f_o0_78 f_o0_95 x_0 x_1 x_2 x_3 (show (nz (o0.2.1 92) 420 + v2.toInt) * 10000 + 1 + v3.toInt * 20 + 1 + (4 - x85.toInt) * 2 < (n : Int) by omega)
            · have wc70 : ¬ (0 : Int) = (0 : Int) := c_ne c70
              exact (dd_ne c70 (show (0 : Int) ≤ (0 : Int32).toInt ∧ (0 : Int32).toInt ≤ 0 by decide) (show (0 : Int) ≤ (0 : Int32).toInt ∧ (0 : Int32).toInt ≤ 0 by decide)).elim
set_option maxHeartbeats 4000000 in
set_option maxRecDepth 100000 in
theorem tM_markAll_132 {yo0 : cf_O} {n : Nat} (H : HM_markAll yo0 n) (v1 : Int32) (v2 : Int32) (v3 : Int32) (o0 : cf_O) (k_o0 : okO I_M o0) (r_o0 : Fr (fr_M [] [92] []) yo0 o0) (i_v1 : (0 : Int) ≤ v1.toInt ∧ v1.toInt ≤ 1) (i_v2 : (0 : Int) ≤ v2.toInt ∧ v2.toInt ≤ 1) (i_v3 : ((-1) : Int) ≤ v3.toInt ∧ v3.toInt ≤ 419) (f_o0_0 : (0 : Int) ≤ (o0.1 0).toInt ∧ (o0.1 0).toInt ≤ 0) (f_o0_38 : (1 : Int) ≤ (o0.1 38).toInt ∧ (o0.1 38).toInt ≤ 1) (f_o0_78 : (1 : Int) ≤ (o0.1 78).toInt ∧ (o0.1 78).toInt ≤ 1) (f_o0_95 : (0 : Int) ≤ (o0.1 95).toInt ∧ (o0.1 95).toInt ≤ 0) (x_0 : Mt (o0.2.1 87)) (x_1 : Md (o0.1 39).toInt (o0.2.1 84) (o0.2.1 86) (o0.2.1 87) (o0.2.1 88)) (x_2 : Hl 0 0 (o0.2.1 88) (o0.2.1 86)) (x_3 : In v1.toInt (o0.1 39).toInt (o0.2.1 86) (o0.2.1 92)) (hm : (nz (o0.2.1 92) 420 + v2.toInt) * 10000 + 1 + (v3.toInt + 1) * 20 ≤ (n : Int)) : tt (fM_markAll_132 (gM_markAll n) v1 v2 v3 o0) (QM_markAll yo0) := by
  unfold fM_markAll_132
  have g_o0_39 : (0 : Int) ≤ (o0.1 39).toInt ∧ (o0.1 39).toInt ≤ 8 := k_o0.1 39
  have ey_o0_39 : (o0.1 39).toInt = (yo0.1 39).toInt := congrArg Int32.toInt (r_o0.1 39 rfl)
  have t1 := nz_b (o0.2.1 92) 420
  refine tt_if (fun c2 => ?_) (fun c2 => ?_)
  · have wc2 : v3.toInt < (0 : Int) := c_lt c2
    have i3 : ((-1) : Int) ≤ v3.toInt ∧ v3.toInt ≤ (-1) := nr_ltl c2 i_v3 (show (0 : Int) ≤ (0 : Int32).toInt ∧ (0 : Int32).toInt ≤ 0 by decide) (by decide) (by decide)
    exact H.2.2.1 _ _ _ k_o0 r_o0 i_v1 i_v2 f_o0_0 f_o0_38 f_o0_78 f_o0_95 x_0 x_1 x_2 x_3 (show (nz (o0.2.1 92) 420 + v2.toInt) * 10000 < (n : Int) by omega)
  · have wc2 : (0 : Int) ≤ v3.toInt := c_nlt c2
    have i4 : (0 : Int) ≤ v3.toInt ∧ v3.toInt ≤ 419 := nr_nltr c2 (show (0 : Int) ≤ (0 : Int32).toInt ∧ (0 : Int32).toInt ≤ 0 by decide) i_v3 (by decide) (by decide)
    exact H.2.2.2.2 _ _ _ _ _ k_o0 r_o0 i_v1 i_v2 i4 (iv_w (a := 0) (b := 3) (by decide) (by decide) (show (0 : Int) ≤ (0 : Int32).toInt ∧ (0 : Int32).toInt ≤ 0 by decide)) f_o0_0 f_o0_38 f_o0_78 f_o0_95 x_0 x_1 x_2 x_3 (show (nz (o0.2.1 92) 420 + v2.toInt) * 10000 + 1 + v3.toInt * 20 + 1 + (4 - 0) * 2 < (n : Int) by omega)
set_option maxHeartbeats 4000000 in
set_option maxRecDepth 100000 in
theorem tM_markAll_122 {yo0 : cf_O} {n : Nat} (H : HM_markAll yo0 n) (v1 : Int32) (v2 : Int32) (o0 : cf_O) (k_o0 : okO I_M o0) (r_o0 : Fr (fr_M [] [92] []) yo0 o0) (i_v1 : (0 : Int) ≤ v1.toInt ∧ v1.toInt ≤ 1) (i_v2 : (0 : Int) ≤ v2.toInt ∧ v2.toInt ≤ 1) (f_o0_0 : (0 : Int) ≤ (o0.1 0).toInt ∧ (o0.1 0).toInt ≤ 0) (f_o0_38 : (1 : Int) ≤ (o0.1 38).toInt ∧ (o0.1 38).toInt ≤ 1) (f_o0_78 : (1 : Int) ≤ (o0.1 78).toInt ∧ (o0.1 78).toInt ≤ 1) (f_o0_95 : (0 : Int) ≤ (o0.1 95).toInt ∧ (o0.1 95).toInt ≤ 0) (x_0 : Mt (o0.2.1 87)) (x_1 : Md (o0.1 39).toInt (o0.2.1 84) (o0.2.1 86) (o0.2.1 87) (o0.2.1 88)) (x_2 : Hl 0 0 (o0.2.1 88) (o0.2.1 86)) (x_3 : In v1.toInt (o0.1 39).toInt (o0.2.1 86) (o0.2.1 92)) (hm : (nz (o0.2.1 92) 420 + v2.toInt) * 10000 ≤ (n : Int)) : tt (fM_markAll_122 (gM_markAll n) v1 v2 o0) (QM_markAll yo0) := by
  unfold fM_markAll_122
  have g_o0_39 : (0 : Int) ≤ (o0.1 39).toInt ∧ (o0.1 39).toInt ≤ 8 := k_o0.1 39
  have ey_o0_39 : (o0.1 39).toInt = (yo0.1 39).toInt := congrArg Int32.toInt (r_o0.1 39 rfl)
  have t1 := nz_b (o0.2.1 92) 420
  refine tt_if (fun c2 => ?_) (fun c2 => ?_)
  · have wc2 : v2.toInt = (0 : Int) := c_eq c2
    have i3 : (0 : Int) ≤ v2.toInt ∧ v2.toInt ≤ 0 := nr_eql c2 i_v2 (show (0 : Int) ≤ (0 : Int32).toInt ∧ (0 : Int32).toInt ≤ 0 by decide) (by decide) (by decide)
    refine tt_w (iv_b i_v1 (by decide) (by decide)) ?_
    have p4 : Iv v1.toInt (o0.2.1 92) (o0.2.1 87) (o0.2.1 84) := by exact In_e x_3 x_1 rfl
    exact tt_some ⟨i_v1, k_o0, r_o0, p4, trivial⟩
  · have wc2 : ¬ v2.toInt = (0 : Int) := c_ne c2
    have i5 : (1 : Int) ≤ v2.toInt ∧ v2.toInt ≤ 1 := nr_nela c2 i_v2 (show (0 : Int) ≤ (0 : Int32).toInt ∧ (0 : Int32).toInt ≤ 0 by decide) (by decide) (by decide)
    exact H.2.2.2.1 _ _ _ _ k_o0 r_o0 i_v1 (iv_w (a := 0) (b := 1) (by decide) (by decide) (show (0 : Int) ≤ (0 : Int32).toInt ∧ (0 : Int32).toInt ≤ 0 by decide)) (iv_w (a := (-1)) (b := 419) (by decide) (by decide) (show (419 : Int) ≤ (419 : Int32).toInt ∧ (419 : Int32).toInt ≤ 419 by decide)) f_o0_0 f_o0_38 f_o0_78 f_o0_95 x_0 x_1 x_2 x_3 (show (nz (o0.2.1 92) 420 + 0) * 10000 + 1 + (419 + 1) * 20 < (n : Int) by omega)
set_option maxHeartbeats 4000000 in
set_option maxRecDepth 100000 in
theorem tM_markAll_26 {yo0 : cf_O} {n : Nat} (H : HM_markAll yo0 n) (v1 : Int32) (v2 : Int32) (o0 : cf_O) (k_o0 : okO I_M o0) (r_o0 : Fr (fr_M [] [92] []) yo0 o0) (i_v1 : (0 : Int) ≤ v1.toInt ∧ v1.toInt ≤ 1) (i_v2 : (0 : Int) ≤ v2.toInt ∧ v2.toInt ≤ 6) (f_o0_0 : (0 : Int) ≤ (o0.1 0).toInt ∧ (o0.1 0).toInt ≤ 0) (f_o0_38 : (1 : Int) ≤ (o0.1 38).toInt ∧ (o0.1 38).toInt ≤ 1) (f_o0_78 : (1 : Int) ≤ (o0.1 78).toInt ∧ (o0.1 78).toInt ≤ 1) (f_o0_95 : (0 : Int) ≤ (o0.1 95).toInt ∧ (o0.1 95).toInt ≤ 0) (x_0 : Mt (o0.2.1 87)) (x_1 : Md (o0.1 39).toInt (o0.2.1 84) (o0.2.1 86) (o0.2.1 87) (o0.2.1 88)) (x_2 : Hl 0 0 (o0.2.1 88) (o0.2.1 86)) (x_3 : In v1.toInt (o0.1 39).toInt (o0.2.1 86) (o0.2.1 92)) (hm : 5000000 + (7 - v2.toInt) ≤ (n : Int)) : tt (fM_markAll_26 (gM_markAll n) v1 v2 o0) (QM_markAll yo0) := by
  unfold fM_markAll_26
  have g_o0_39 : (0 : Int) ≤ (o0.1 39).toInt ∧ (o0.1 39).toInt ≤ 8 := k_o0.1 39
  have ey_o0_39 : (o0.1 39).toInt = (yo0.1 39).toInt := congrArg Int32.toInt (r_o0.1 39 rfl)
  have t1 := nz_b (o0.2.1 92) 420
  refine tt_if (fun c2 => ?_) (fun c2 => ?_)
  · have wc2 : (o0.1 40).toInt ≤ v2.toInt := c_le c2
    exact H.2.2.1 _ _ _ k_o0 r_o0 i_v1 i_v1 f_o0_0 f_o0_38 f_o0_78 f_o0_95 x_0 x_1 x_2 x_3 (show (nz (o0.2.1 92) 420 + v1.toInt) * 10000 < (n : Int) by omega)
  · have wc2 : v2.toInt < (o0.1 40).toInt := c_nle c2
    have i3 : (0 : Int) ≤ v2.toInt ∧ v2.toInt ≤ 5 := nr_nlel c2 i_v2 (k_o0.1 40) (by decide) (by decide)
    have i4 : (1 : Int) ≤ (o0.1 40).toInt ∧ (o0.1 40).toInt ≤ 6 := nr_nler c2 i_v2 (k_o0.1 40) (by decide) (by decide)
    refine tt_n (ix_ok i3 (by decide) (by decide)) ?_
    refine tt_kv (P := fun z => ((0 : Int) ≤ z.toInt ∧ z.toInt ≤ 417) ∧ z.toInt = (o0.2.1 47 v2.toNatClampNeg).toInt) ⟨(k_o0.2 47 _), rfl⟩ (fun x5 qi6 => ?_)
    obtain ⟨i6, ei6⟩ := qi6
    refine tt_n (ix_ok i3 (by decide) (by decide)) ?_
    refine tt_kv (P := fun z => x5 = z ∧ True) ⟨(i_eq ei6), trivial⟩ (fun x7 hx7 => ?_)
    obtain ⟨rfl, -⟩ := hx7
    refine tt_n (ix_ok i6 (by decide) (by decide)) ?_
    refine tt_kv (P := fun z => ((0 : Int) ≤ z.toInt ∧ z.toInt ≤ 1) ∧ z.toInt = (o0.2.1 92 x5.toNatClampNeg).toInt) ⟨(k_o0.2 92 _), rfl⟩ (fun x8 qi9 => ?_)
    obtain ⟨i9, ei9⟩ := qi9
    refine tt_if (fun c10 => ?_) (fun c10 => ?_)
    · have wc10 : x8.toInt = (0 : Int) := c_eq c10
      have i11 : (0 : Int) ≤ x8.toInt ∧ x8.toInt ≤ 0 := nr_eql c10 i9 (show (0 : Int) ≤ (0 : Int32).toInt ∧ (0 : Int32).toInt ≤ 0 by decide) (by decide) (by decide)
      refine tt_n (ix_ok i3 (by decide) (by decide)) ?_
      refine tt_kv (P := fun z => x5 = z ∧ True) ⟨(i_eq ei6), trivial⟩ (fun x12 hx12 => ?_)
      obtain ⟨rfl, -⟩ := hx12
      try unfold fM_isWanted
      try unfold fM_isWanted_0
      refine tt_bif (fun c13 => ?_) (fun c13 => ?_)
      · have wc13 : x5.toInt ≤ (1 : Int) := c_le c13
        have i14 : (0 : Int) ≤ x5.toInt ∧ x5.toInt ≤ 1 := nr_lel c13 i6 (show (1 : Int) ≤ (1 : Int32).toInt ∧ (1 : Int32).toInt ≤ 1 by decide) (by decide) (by decide)
        try unfold fM_isWanted_17
        try unfold fM_isWanted_18
        refine tt_bw (iv_b (show (0 : Int) ≤ (0 : Int32).toInt ∧ (0 : Int32).toInt ≤ 0 by decide) (by decide) (by decide)) ?_
        refine tt_bs ?_
        refine tt_if (fun c15 => ?_) (fun c15 => ?_)
        · have wc15 : (0 : Int) = (0 : Int) := c_eq c15
          try unfold fM_markAll_76
          refine tt_n (ix_ok i14 (by decide) (by decide)) ?_
          refine tt_ko ?_
          have k16 := ok_xp (k := 92) (i := x5.toNatClampNeg) (v := (vp_nar .boolean 0)) k_o0 (iv_nz _)
          have r17 := fr_xp (k := 92) (i := x5.toNatClampNeg) (v := (vp_nar .boolean 0)) r_o0 rfl
          have t18 := tn_n x5
          have t19 : ((vp_nar .boolean 0) : Int32).toInt = 0 := (by decide)
          have t20 := nz_w (f := (o0.2.1 92)) (i := x5.toNatClampNeg) (n := 420) (v := (vp_nar .boolean 0))
          refine tt_if (fun c21 => ?_) (fun c21 => ?_)
          · have wc21 : v1.toInt = (0 : Int) := c_eq c21
            have i22 : (0 : Int) ≤ v1.toInt ∧ v1.toInt ≤ 0 := nr_eql c21 i_v1 (show (0 : Int) ≤ (0 : Int32).toInt ∧ (0 : Int32).toInt ≤ 0 by decide) (by decide) (by decide)
            try unfold fM_markAll_112
            try unfold fM_markAll_113
            refine tt_kv (P := fun z => ((1 : Int) ≤ z.toInt ∧ z.toInt ≤ 6) ∧ z.toInt = v2.toInt + 1) ⟨iv_add i3 (show (1 : Int) ≤ (1 : Int32).toInt ∧ (1 : Int32).toInt ≤ 1 by decide) (by decide) (by decide) (by decide) (by decide), iq_add i3 (show (1 : Int) ≤ (1 : Int32).toInt ∧ (1 : Int32).toInt ≤ 1 by decide) (by decide) (by decide)⟩ (fun x23 qi24 => ?_)
            obtain ⟨i24, ei24⟩ := qi24
            have p25 : In 0 (o0.1 39).toInt (o0.2.1 86) (upd (o0.2.1 92) (x5.toNatClampNeg) (vp_nar .boolean 0)) := by first | exact In_z rfl | exact In_u x_3 (by omega) (by omega) (Or.inl (by decide)) | exact In_u x_3 (by omega) (by omega) (Or.inr (by omega))
            exact H.2.1 _ _ _ k16 r17 (iv_w (a := 0) (b := 1) (by decide) (by decide) (show (0 : Int) ≤ (0 : Int32).toInt ∧ (0 : Int32).toInt ≤ 0 by decide)) (iv_w (a := 0) (b := 6) (by decide) (by decide) i24) f_o0_0 f_o0_38 f_o0_78 f_o0_95 x_0 x_1 x_2 p25 (show 5000000 + (7 - x23.toInt) < (n : Int) by omega)
          · have wc21 : ¬ v1.toInt = (0 : Int) := c_ne c21
            have i26 : (1 : Int) ≤ v1.toInt ∧ v1.toInt ≤ 1 := nr_nela c21 i_v1 (show (0 : Int) ≤ (0 : Int32).toInt ∧ (0 : Int32).toInt ≤ 0 by decide) (by decide) (by decide)
            refine tt_n (ix_ok i3 (by decide) (by decide)) ?_
            refine tt_kv (P := fun z => x5 = z ∧ True) ⟨(i_eq ei6), trivial⟩ (fun x27 hx27 => ?_)
            obtain ⟨rfl, -⟩ := hx27
            try unfold fM_isWanted
            try unfold fM_isWanted_0
            refine tt_bif (fun c28 => ?_) (fun c28 => ?_)
            · have wc28 : x5.toInt ≤ (1 : Int) := c_le c28
              try unfold fM_isWanted_17
              try unfold fM_isWanted_18
              refine tt_bw (iv_b (show (0 : Int) ≤ (0 : Int32).toInt ∧ (0 : Int32).toInt ≤ 0 by decide) (by decide) (by decide)) ?_
              refine tt_bs ?_
              refine tt_if (fun c29 => ?_) (fun c29 => ?_)
              · have wc29 : (0 : Int) = (0 : Int) := c_eq c29
                try unfold fM_markAll_108
                try unfold fM_markAll_113
                refine tt_kv (P := fun z => ((1 : Int) ≤ z.toInt ∧ z.toInt ≤ 6) ∧ z.toInt = v2.toInt + 1) ⟨iv_add i3 (show (1 : Int) ≤ (1 : Int32).toInt ∧ (1 : Int32).toInt ≤ 1 by decide) (by decide) (by decide) (by decide) (by decide), iq_add i3 (show (1 : Int) ≤ (1 : Int32).toInt ∧ (1 : Int32).toInt ≤ 1 by decide) (by decide) (by decide)⟩ (fun x30 qi31 => ?_)
                obtain ⟨i31, ei31⟩ := qi31
                have p32 : In 1 (o0.1 39).toInt (o0.2.1 86) (upd (o0.2.1 92) (x5.toNatClampNeg) (vp_nar .boolean 0)) := by first | exact In_z rfl | exact In_u x_3 (by omega) (by omega) (Or.inl (by decide)) | exact In_u x_3 (by omega) (by omega) (Or.inr (by omega))
                exact H.2.1 _ _ _ k16 r17 (iv_w (a := 0) (b := 1) (by decide) (by decide) (show (1 : Int) ≤ (1 : Int32).toInt ∧ (1 : Int32).toInt ≤ 1 by decide)) (iv_w (a := 0) (b := 6) (by decide) (by decide) i31) f_o0_0 f_o0_38 f_o0_78 f_o0_95 x_0 x_1 x_2 p32 (show 5000000 + (7 - x30.toInt) < (n : Int) by omega)
              · have wc29 : ¬ (0 : Int) = (0 : Int) := c_ne c29
                exact (dd_ne c29 (show (0 : Int) ≤ (0 : Int32).toInt ∧ (0 : Int32).toInt ≤ 0 by decide) (show (0 : Int) ≤ (0 : Int32).toInt ∧ (0 : Int32).toInt ≤ 0 by decide)).elim
            · have wc28 : (1 : Int) < x5.toInt := c_nle c28
              exact (dd_nle c28 (show (1 : Int) ≤ (1 : Int32).toInt ∧ (1 : Int32).toInt ≤ 1 by decide) i14 (by decide)).elim
        · have wc15 : ¬ (0 : Int) = (0 : Int) := c_ne c15
          exact (dd_ne c15 (show (0 : Int) ≤ (0 : Int32).toInt ∧ (0 : Int32).toInt ≤ 0 by decide) (show (0 : Int) ≤ (0 : Int32).toInt ∧ (0 : Int32).toInt ≤ 0 by decide)).elim
      · have wc13 : (1 : Int) < x5.toInt := c_nle c13
        have i33 : (2 : Int) ≤ x5.toInt ∧ x5.toInt ≤ 417 := nr_nler c13 (show (1 : Int) ≤ (1 : Int32).toInt ∧ (1 : Int32).toInt ≤ 1 by decide) i6 (by decide) (by decide)
        refine tt_bb ?_
        try unfold fM_isGiven
        try unfold fM_isGiven_0
        refine tt_bkv (P := fun z => ((0 : Int) ≤ z.toInt ∧ z.toInt ≤ 1) ∧ z.toInt = x5.toInt % 2) ⟨iv_rem (k := 2) i33 (show (2 : Int) ≤ (2 : Int32).toInt ∧ (2 : Int32).toInt ≤ 2 by decide) (by decide) (by decide) (by decide) (by decide), i_rem (x := x5) (y := 2) (Int.le_trans (by decide) i33.1) (by decide)⟩ (fun x34 qi35 => ?_)
        obtain ⟨i35, ei35⟩ := qi35
        refine tt_bif (fun c36 => ?_) (fun c36 => ?_)
        · have wc36 : x34.toInt = (0 : Int) := c_eq c36
          have i37 : (0 : Int) ≤ x34.toInt ∧ x34.toInt ≤ 0 := nr_eql c36 i35 (show (0 : Int) ≤ (0 : Int32).toInt ∧ (0 : Int32).toInt ≤ 0 by decide) (by decide) (by decide)
          refine tt_bkv (P := fun z => ((1 : Int) ≤ z.toInt ∧ z.toInt ≤ 208) ∧ z.toInt = x5.toInt / 2) ⟨iv_div (k := 2) i33 (show (2 : Int) ≤ (2 : Int32).toInt ∧ (2 : Int32).toInt ≤ 2 by decide) (by decide) (by decide) (by decide) (by decide), i_dv (Int.le_trans (by decide) i33.1) (by decide)⟩ (fun x38 qi39 => ?_)
          obtain ⟨i39, ei39⟩ := qi39
          refine tt_bb ?_
          try unfold fM_in
          try unfold fM_in_0
          refine tt_bif (fun c40 => ?_) (fun c40 => ?_)
          · have wc40 : x38.toInt < (1 : Int) := c_lt c40
            exact (dd_lt c40 i39 (show (1 : Int) ≤ (1 : Int32).toInt ∧ (1 : Int32).toInt ≤ 1 by decide) (by decide)).elim
          · have wc40 : (1 : Int) ≤ x38.toInt := c_nlt c40
            refine tt_bif (fun c41 => ?_) (fun c41 => ?_)
            · have wc41 : (o0.1 39).toInt < x38.toInt := c_lt c41
              try unfold fM_in_14
              try unfold fM_in_15
              refine tt_bw (iv_b (show (0 : Int) ≤ (0 : Int32).toInt ∧ (0 : Int32).toInt ≤ 0 by decide) (by decide) (by decide)) ?_
              refine tt_bs ?_
              refine tt_bif (fun c42 => ?_) (fun c42 => ?_)
              · have wc42 : (0 : Int) = (0 : Int) := c_eq c42
                try unfold fM_isGiven_24
                try unfold fM_isGiven_25
                refine tt_bw (iv_b (show (0 : Int) ≤ (0 : Int32).toInt ∧ (0 : Int32).toInt ≤ 0 by decide) (by decide) (by decide)) ?_
                refine tt_bs ?_
                refine tt_bif (fun c43 => ?_) (fun c43 => ?_)
                · have wc43 : (0 : Int) = (0 : Int) := c_eq c43
                  try unfold fM_isWanted_18
                  refine tt_bw (iv_b (show (1 : Int) ≤ (1 : Int32).toInt ∧ (1 : Int32).toInt ≤ 1 by decide) (by decide) (by decide)) ?_
                  refine tt_bs ?_
                  refine tt_if (fun c44 => ?_) (fun c44 => ?_)
                  · have wc44 : (1 : Int) = (0 : Int) := c_eq c44
                    exact (dd_eq c44 (show (1 : Int) ≤ (1 : Int32).toInt ∧ (1 : Int32).toInt ≤ 1 by decide) (show (0 : Int) ≤ (0 : Int32).toInt ∧ (0 : Int32).toInt ≤ 0 by decide) (by decide)).elim
                  · have wc44 : ¬ (1 : Int) = (0 : Int) := c_ne c44
                    try unfold fM_markAll_71
                    try unfold fM_markAll_76
                    refine tt_n (ix_ok i33 (by decide) (by decide)) ?_
                    refine tt_ko ?_
                    have k45 := ok_xp (k := 92) (i := x5.toNatClampNeg) (v := (vp_nar .boolean 1)) k_o0 (iv_nz _)
                    have r46 := fr_xp (k := 92) (i := x5.toNatClampNeg) (v := (vp_nar .boolean 1)) r_o0 rfl
                    have t47 := tn_n x5
                    have t48 : ((vp_nar .boolean 1) : Int32).toInt = 1 := (by decide)
                    have t49 := nz_w (f := (o0.2.1 92)) (i := x5.toNatClampNeg) (n := 420) (v := (vp_nar .boolean 1))
                    refine tt_if (fun c50 => ?_) (fun c50 => ?_)
                    · have wc50 : v1.toInt = (0 : Int) := c_eq c50
                      have i51 : (0 : Int) ≤ v1.toInt ∧ v1.toInt ≤ 0 := nr_eql c50 i_v1 (show (0 : Int) ≤ (0 : Int32).toInt ∧ (0 : Int32).toInt ≤ 0 by decide) (by decide) (by decide)
                      try unfold fM_markAll_112
                      try unfold fM_markAll_113
                      refine tt_kv (P := fun z => ((1 : Int) ≤ z.toInt ∧ z.toInt ≤ 6) ∧ z.toInt = v2.toInt + 1) ⟨iv_add i3 (show (1 : Int) ≤ (1 : Int32).toInt ∧ (1 : Int32).toInt ≤ 1 by decide) (by decide) (by decide) (by decide) (by decide), iq_add i3 (show (1 : Int) ≤ (1 : Int32).toInt ∧ (1 : Int32).toInt ≤ 1 by decide) (by decide) (by decide)⟩ (fun x52 qi53 => ?_)
                      obtain ⟨i53, ei53⟩ := qi53
                      have p54 : In 0 (o0.1 39).toInt (o0.2.1 86) (upd (o0.2.1 92) (x5.toNatClampNeg) (vp_nar .boolean 1)) := by first | exact In_z rfl | exact In_u x_3 (by omega) (by omega) (Or.inl (by decide)) | exact In_u x_3 (by omega) (by omega) (Or.inr (by omega))
                      exact H.2.1 _ _ _ k45 r46 (iv_w (a := 0) (b := 1) (by decide) (by decide) (show (0 : Int) ≤ (0 : Int32).toInt ∧ (0 : Int32).toInt ≤ 0 by decide)) (iv_w (a := 0) (b := 6) (by decide) (by decide) i53) f_o0_0 f_o0_38 f_o0_78 f_o0_95 x_0 x_1 x_2 p54 (show 5000000 + (7 - x52.toInt) < (n : Int) by omega)
                    · have wc50 : ¬ v1.toInt = (0 : Int) := c_ne c50
                      have i55 : (1 : Int) ≤ v1.toInt ∧ v1.toInt ≤ 1 := nr_nela c50 i_v1 (show (0 : Int) ≤ (0 : Int32).toInt ∧ (0 : Int32).toInt ≤ 0 by decide) (by decide) (by decide)
                      refine tt_n (ix_ok i3 (by decide) (by decide)) ?_
                      refine tt_kv (P := fun z => x5 = z ∧ True) ⟨(i_eq ei6), trivial⟩ (fun x56 hx56 => ?_)
                      obtain ⟨rfl, -⟩ := hx56
                      try unfold fM_isWanted
                      try unfold fM_isWanted_0
                      refine tt_bif (fun c57 => ?_) (fun c57 => ?_)
                      · have wc57 : x5.toInt ≤ (1 : Int) := c_le c57
                        exact (dd_le c57 i33 (show (1 : Int) ≤ (1 : Int32).toInt ∧ (1 : Int32).toInt ≤ 1 by decide) (by decide)).elim
                      · have wc57 : (1 : Int) < x5.toInt := c_nle c57
                        refine tt_bb ?_
                        try unfold fM_isGiven
                        try unfold fM_isGiven_0
                        refine tt_bkv (P := fun z => ((0 : Int) ≤ z.toInt ∧ z.toInt ≤ 1) ∧ z.toInt = x5.toInt % 2) ⟨iv_rem (k := 2) i33 (show (2 : Int) ≤ (2 : Int32).toInt ∧ (2 : Int32).toInt ≤ 2 by decide) (by decide) (by decide) (by decide) (by decide), i_rem (x := x5) (y := 2) (Int.le_trans (by decide) i33.1) (by decide)⟩ (fun x58 qi59 => ?_)
                        obtain ⟨i59, ei59⟩ := qi59
                        refine tt_bif (fun c60 => ?_) (fun c60 => ?_)
                        · have wc60 : x58.toInt = (0 : Int) := c_eq c60
                          have i61 : (0 : Int) ≤ x58.toInt ∧ x58.toInt ≤ 0 := nr_eql c60 i59 (show (0 : Int) ≤ (0 : Int32).toInt ∧ (0 : Int32).toInt ≤ 0 by decide) (by decide) (by decide)
                          refine tt_bkv (P := fun z => ((1 : Int) ≤ z.toInt ∧ z.toInt ≤ 208) ∧ z.toInt = x5.toInt / 2) ⟨iv_div (k := 2) i33 (show (2 : Int) ≤ (2 : Int32).toInt ∧ (2 : Int32).toInt ≤ 2 by decide) (by decide) (by decide) (by decide) (by decide), i_dv (Int.le_trans (by decide) i33.1) (by decide)⟩ (fun x62 qi63 => ?_)
                          obtain ⟨i63, ei63⟩ := qi63
                          refine tt_bb ?_
                          try unfold fM_in
                          try unfold fM_in_0
                          refine tt_bif (fun c64 => ?_) (fun c64 => ?_)
                          · have wc64 : x62.toInt < (1 : Int) := c_lt c64
                            exact (dd_lt c64 i63 (show (1 : Int) ≤ (1 : Int32).toInt ∧ (1 : Int32).toInt ≤ 1 by decide) (by decide)).elim
                          · have wc64 : (1 : Int) ≤ x62.toInt := c_nlt c64
                            refine tt_bif (fun c65 => ?_) (fun c65 => ?_)
                            · have wc65 : (o0.1 39).toInt < x62.toInt := c_lt c65
                              try unfold fM_in_14
                              try unfold fM_in_15
                              refine tt_bw (iv_b (show (0 : Int) ≤ (0 : Int32).toInt ∧ (0 : Int32).toInt ≤ 0 by decide) (by decide) (by decide)) ?_
                              refine tt_bs ?_
                              refine tt_bif (fun c66 => ?_) (fun c66 => ?_)
                              · have wc66 : (0 : Int) = (0 : Int) := c_eq c66
                                try unfold fM_isGiven_24
                                try unfold fM_isGiven_25
                                refine tt_bw (iv_b (show (0 : Int) ≤ (0 : Int32).toInt ∧ (0 : Int32).toInt ≤ 0 by decide) (by decide) (by decide)) ?_
                                refine tt_bs ?_
                                refine tt_bif (fun c67 => ?_) (fun c67 => ?_)
                                · have wc67 : (0 : Int) = (0 : Int) := c_eq c67
                                  try unfold fM_isWanted_18
                                  refine tt_bw (iv_b (show (1 : Int) ≤ (1 : Int32).toInt ∧ (1 : Int32).toInt ≤ 1 by decide) (by decide) (by decide)) ?_
                                  refine tt_bs ?_
                                  refine tt_if (fun c68 => ?_) (fun c68 => ?_)
                                  · have wc68 : (1 : Int) = (0 : Int) := c_eq c68
                                    exact (dd_eq c68 (show (1 : Int) ≤ (1 : Int32).toInt ∧ (1 : Int32).toInt ≤ 1 by decide) (show (0 : Int) ≤ (0 : Int32).toInt ∧ (0 : Int32).toInt ≤ 0 by decide) (by decide)).elim
                                  · have wc68 : ¬ (1 : Int) = (0 : Int) := c_ne c68
                                    refine tt_n (ix_ok i3 (by decide) (by decide)) ?_
                                    refine tt_kv (P := fun z => x5 = z ∧ True) ⟨(i_eq ei6), trivial⟩ (fun x69 hx69 => ?_)
                                    obtain ⟨rfl, -⟩ := hx69
                                    refine tt_n (ix_ok i33 (by decide) (by decide)) ?_
                                    refine tt_kv (P := fun z => ((0 : Int) ≤ z.toInt ∧ z.toInt ≤ 1) ∧ z.toInt = (o0.2.1 86 x5.toNatClampNeg).toInt) ⟨(k45.2 86 _), rfl⟩ (fun x70 qi71 => ?_)
                                    obtain ⟨i71, ei71⟩ := qi71
                                    refine tt_if (fun c72 => ?_) (fun c72 => ?_)
                                    · have wc72 : x70.toInt = (0 : Int) := c_eq c72
                                      have i73 : (0 : Int) ≤ x70.toInt ∧ x70.toInt ≤ 0 := nr_eql c72 i71 (show (0 : Int) ≤ (0 : Int32).toInt ∧ (0 : Int32).toInt ≤ 0 by decide) (by decide) (by decide)
                                      try unfold fM_markAll_112
                                      try unfold fM_markAll_113
                                      refine tt_kv (P := fun z => ((1 : Int) ≤ z.toInt ∧ z.toInt ≤ 6) ∧ z.toInt = v2.toInt + 1) ⟨iv_add i3 (show (1 : Int) ≤ (1 : Int32).toInt ∧ (1 : Int32).toInt ≤ 1 by decide) (by decide) (by decide) (by decide) (by decide), iq_add i3 (show (1 : Int) ≤ (1 : Int32).toInt ∧ (1 : Int32).toInt ≤ 1 by decide) (by decide) (by decide)⟩ (fun x74 qi75 => ?_)
                                      obtain ⟨i75, ei75⟩ := qi75
                                      have p76 : In 0 (o0.1 39).toInt (o0.2.1 86) (upd (o0.2.1 92) (x5.toNatClampNeg) (vp_nar .boolean 1)) := by first | exact In_z rfl | exact In_u x_3 (by omega) (by omega) (Or.inl (by decide)) | exact In_u x_3 (by omega) (by omega) (Or.inr (by omega))
                                      exact H.2.1 _ _ _ k45 r46 (iv_w (a := 0) (b := 1) (by decide) (by decide) (show (0 : Int) ≤ (0 : Int32).toInt ∧ (0 : Int32).toInt ≤ 0 by decide)) (iv_w (a := 0) (b := 6) (by decide) (by decide) i75) f_o0_0 f_o0_38 f_o0_78 f_o0_95 x_0 x_1 x_2 p76 (show 5000000 + (7 - x74.toInt) < (n : Int) by omega)
                                    · have wc72 : ¬ x70.toInt = (0 : Int) := c_ne c72
                                      have i77 : (1 : Int) ≤ x70.toInt ∧ x70.toInt ≤ 1 := nr_nela c72 i71 (show (0 : Int) ≤ (0 : Int32).toInt ∧ (0 : Int32).toInt ≤ 0 by decide) (by decide) (by decide)
                                      try unfold fM_markAll_108
                                      try unfold fM_markAll_113
                                      refine tt_kv (P := fun z => ((1 : Int) ≤ z.toInt ∧ z.toInt ≤ 6) ∧ z.toInt = v2.toInt + 1) ⟨iv_add i3 (show (1 : Int) ≤ (1 : Int32).toInt ∧ (1 : Int32).toInt ≤ 1 by decide) (by decide) (by decide) (by decide) (by decide), iq_add i3 (show (1 : Int) ≤ (1 : Int32).toInt ∧ (1 : Int32).toInt ≤ 1 by decide) (by decide) (by decide)⟩ (fun x78 qi79 => ?_)
                                      obtain ⟨i79, ei79⟩ := qi79
                                      have p80 : In 1 (o0.1 39).toInt (o0.2.1 86) (upd (o0.2.1 92) (x5.toNatClampNeg) (vp_nar .boolean 1)) := by first | exact In_z rfl | exact In_u x_3 (by omega) (by omega) (Or.inl (by decide)) | exact In_u x_3 (by omega) (by omega) (Or.inr (by omega))
                                      exact H.2.1 _ _ _ k45 r46 (iv_w (a := 0) (b := 1) (by decide) (by decide) (show (1 : Int) ≤ (1 : Int32).toInt ∧ (1 : Int32).toInt ≤ 1 by decide)) (iv_w (a := 0) (b := 6) (by decide) (by decide) i79) f_o0_0 f_o0_38 f_o0_78 f_o0_95 x_0 x_1 x_2 p80 (show 5000000 + (7 - x78.toInt) < (n : Int) by omega)
                                · have wc67 : ¬ (0 : Int) = (0 : Int) := c_ne c67
                                  exact (dd_ne c67 (show (0 : Int) ≤ (0 : Int32).toInt ∧ (0 : Int32).toInt ≤ 0 by decide) (show (0 : Int) ≤ (0 : Int32).toInt ∧ (0 : Int32).toInt ≤ 0 by decide)).elim
                              · have wc66 : ¬ (0 : Int) = (0 : Int) := c_ne c66
                                exact (dd_ne c66 (show (0 : Int) ≤ (0 : Int32).toInt ∧ (0 : Int32).toInt ≤ 0 by decide) (show (0 : Int) ≤ (0 : Int32).toInt ∧ (0 : Int32).toInt ≤ 0 by decide)).elim
                            · have wc65 : x62.toInt ≤ (o0.1 39).toInt := c_nlt c65
                              have i81 : (1 : Int) ≤ x62.toInt ∧ x62.toInt ≤ 8 := nr_nltl c65 i63 (k_o0.1 39) (by decide) (by decide)
                              have i82 : (1 : Int) ≤ (o0.1 39).toInt ∧ (o0.1 39).toInt ≤ 8 := nr_nltr c65 i63 (k_o0.1 39) (by decide) (by decide)
                              try unfold fM_in_15
                              refine tt_bw (iv_b (show (1 : Int) ≤ (1 : Int32).toInt ∧ (1 : Int32).toInt ≤ 1 by decide) (by decide) (by decide)) ?_
                              refine tt_bs ?_
                              refine tt_bif (fun c83 => ?_) (fun c83 => ?_)
                              · have wc83 : (1 : Int) = (0 : Int) := c_eq c83
                                exact (dd_eq c83 (show (1 : Int) ≤ (1 : Int32).toInt ∧ (1 : Int32).toInt ≤ 1 by decide) (show (0 : Int) ≤ (0 : Int32).toInt ∧ (0 : Int32).toInt ≤ 0 by decide) (by decide)).elim
                              · have wc83 : ¬ (1 : Int) = (0 : Int) := c_ne c83
                                try unfold fM_isGiven_25
                                refine tt_bw (iv_b (show (1 : Int) ≤ (1 : Int32).toInt ∧ (1 : Int32).toInt ≤ 1 by decide) (by decide) (by decide)) ?_
                                refine tt_bs ?_
                                refine tt_bif (fun c84 => ?_) (fun c84 => ?_)
                                · have wc84 : (1 : Int) = (0 : Int) := c_eq c84
                                  exact (dd_eq c84 (show (1 : Int) ≤ (1 : Int32).toInt ∧ (1 : Int32).toInt ≤ 1 by decide) (show (0 : Int) ≤ (0 : Int32).toInt ∧ (0 : Int32).toInt ≤ 0 by decide) (by decide)).elim
                                · have wc84 : ¬ (1 : Int) = (0 : Int) := c_ne c84
                                  try unfold fM_isWanted_17
                                  try unfold fM_isWanted_18
                                  refine tt_bw (iv_b (show (0 : Int) ≤ (0 : Int32).toInt ∧ (0 : Int32).toInt ≤ 0 by decide) (by decide) (by decide)) ?_
                                  refine tt_bs ?_
                                  refine tt_if (fun c85 => ?_) (fun c85 => ?_)
                                  · have wc85 : (0 : Int) = (0 : Int) := c_eq c85
                                    try unfold fM_markAll_108
                                    try unfold fM_markAll_113
                                    refine tt_kv (P := fun z => ((1 : Int) ≤ z.toInt ∧ z.toInt ≤ 6) ∧ z.toInt = v2.toInt + 1) ⟨iv_add i3 (show (1 : Int) ≤ (1 : Int32).toInt ∧ (1 : Int32).toInt ≤ 1 by decide) (by decide) (by decide) (by decide) (by decide), iq_add i3 (show (1 : Int) ≤ (1 : Int32).toInt ∧ (1 : Int32).toInt ≤ 1 by decide) (by decide) (by decide)⟩ (fun x86 qi87 => ?_)
                                    obtain ⟨i87, ei87⟩ := qi87
                                    have p88 : In 1 (o0.1 39).toInt (o0.2.1 86) (upd (o0.2.1 92) (x5.toNatClampNeg) (vp_nar .boolean 1)) := by first | exact In_z rfl | exact In_u x_3 (by omega) (by omega) (Or.inl (by decide)) | exact In_u x_3 (by omega) (by omega) (Or.inr (by omega))
                                    exact H.2.1 _ _ _ k45 r46 (iv_w (a := 0) (b := 1) (by decide) (by decide) (show (1 : Int) ≤ (1 : Int32).toInt ∧ (1 : Int32).toInt ≤ 1 by decide)) (iv_w (a := 0) (b := 6) (by decide) (by decide) i87) f_o0_0 f_o0_38 f_o0_78 f_o0_95 x_0 x_1 x_2 p88 (show 5000000 + (7 - x86.toInt) < (n : Int) by omega)
                                  · have wc85 : ¬ (0 : Int) = (0 : Int) := c_ne c85
                                    exact (dd_ne c85 (show (0 : Int) ≤ (0 : Int32).toInt ∧ (0 : Int32).toInt ≤ 0 by decide) (show (0 : Int) ≤ (0 : Int32).toInt ∧ (0 : Int32).toInt ≤ 0 by decide)).elim
                        · have wc60 : ¬ x58.toInt = (0 : Int) := c_ne c60
                          have i89 : (1 : Int) ≤ x58.toInt ∧ x58.toInt ≤ 1 := nr_nela c60 i59 (show (0 : Int) ≤ (0 : Int32).toInt ∧ (0 : Int32).toInt ≤ 0 by decide) (by decide) (by decide)
                          try unfold fM_isGiven_24
                          try unfold fM_isGiven_25
                          refine tt_bw (iv_b (show (0 : Int) ≤ (0 : Int32).toInt ∧ (0 : Int32).toInt ≤ 0 by decide) (by decide) (by decide)) ?_
                          refine tt_bs ?_
                          refine tt_bif (fun c90 => ?_) (fun c90 => ?_)
                          · have wc90 : (0 : Int) = (0 : Int) := c_eq c90
                            try unfold fM_isWanted_18
                            refine tt_bw (iv_b (show (1 : Int) ≤ (1 : Int32).toInt ∧ (1 : Int32).toInt ≤ 1 by decide) (by decide) (by decide)) ?_
                            refine tt_bs ?_
                            refine tt_if (fun c91 => ?_) (fun c91 => ?_)
                            · have wc91 : (1 : Int) = (0 : Int) := c_eq c91
                              exact (dd_eq c91 (show (1 : Int) ≤ (1 : Int32).toInt ∧ (1 : Int32).toInt ≤ 1 by decide) (show (0 : Int) ≤ (0 : Int32).toInt ∧ (0 : Int32).toInt ≤ 0 by decide) (by decide)).elim
                            · have wc91 : ¬ (1 : Int) = (0 : Int) := c_ne c91
                              refine tt_n (ix_ok i3 (by decide) (by decide)) ?_
                              refine tt_kv (P := fun z => x5 = z ∧ True) ⟨(i_eq ei6), trivial⟩ (fun x92 hx92 => ?_)
                              obtain ⟨rfl, -⟩ := hx92
                              refine tt_n (ix_ok i33 (by decide) (by decide)) ?_
                              refine tt_kv (P := fun z => ((0 : Int) ≤ z.toInt ∧ z.toInt ≤ 1) ∧ z.toInt = (o0.2.1 86 x5.toNatClampNeg).toInt) ⟨(k45.2 86 _), rfl⟩ (fun x93 qi94 => ?_)
                              obtain ⟨i94, ei94⟩ := qi94
                              refine tt_if (fun c95 => ?_) (fun c95 => ?_)
                              · have wc95 : x93.toInt = (0 : Int) := c_eq c95
                                have i96 : (0 : Int) ≤ x93.toInt ∧ x93.toInt ≤ 0 := nr_eql c95 i94 (show (0 : Int) ≤ (0 : Int32).toInt ∧ (0 : Int32).toInt ≤ 0 by decide) (by decide) (by decide)
                                try unfold fM_markAll_112
                                try unfold fM_markAll_113
                                refine tt_kv (P := fun z => ((1 : Int) ≤ z.toInt ∧ z.toInt ≤ 6) ∧ z.toInt = v2.toInt + 1) ⟨iv_add i3 (show (1 : Int) ≤ (1 : Int32).toInt ∧ (1 : Int32).toInt ≤ 1 by decide) (by decide) (by decide) (by decide) (by decide), iq_add i3 (show (1 : Int) ≤ (1 : Int32).toInt ∧ (1 : Int32).toInt ≤ 1 by decide) (by decide) (by decide)⟩ (fun x97 qi98 => ?_)
                                obtain ⟨i98, ei98⟩ := qi98
                                have p99 : In 0 (o0.1 39).toInt (o0.2.1 86) (upd (o0.2.1 92) (x5.toNatClampNeg) (vp_nar .boolean 1)) := by first | exact In_z rfl | exact In_u x_3 (by omega) (by omega) (Or.inl (by decide)) | exact In_u x_3 (by omega) (by omega) (Or.inr (by omega))
                                exact H.2.1 _ _ _ k45 r46 (iv_w (a := 0) (b := 1) (by decide) (by decide) (show (0 : Int) ≤ (0 : Int32).toInt ∧ (0 : Int32).toInt ≤ 0 by decide)) (iv_w (a := 0) (b := 6) (by decide) (by decide) i98) f_o0_0 f_o0_38 f_o0_78 f_o0_95 x_0 x_1 x_2 p99 (show 5000000 + (7 - x97.toInt) < (n : Int) by omega)
                              · have wc95 : ¬ x93.toInt = (0 : Int) := c_ne c95
                                have i100 : (1 : Int) ≤ x93.toInt ∧ x93.toInt ≤ 1 := nr_nela c95 i94 (show (0 : Int) ≤ (0 : Int32).toInt ∧ (0 : Int32).toInt ≤ 0 by decide) (by decide) (by decide)
                                try unfold fM_markAll_108
                                try unfold fM_markAll_113
                                refine tt_kv (P := fun z => ((1 : Int) ≤ z.toInt ∧ z.toInt ≤ 6) ∧ z.toInt = v2.toInt + 1) ⟨iv_add i3 (show (1 : Int) ≤ (1 : Int32).toInt ∧ (1 : Int32).toInt ≤ 1 by decide) (by decide) (by decide) (by decide) (by decide), iq_add i3 (show (1 : Int) ≤ (1 : Int32).toInt ∧ (1 : Int32).toInt ≤ 1 by decide) (by decide) (by decide)⟩ (fun x101 qi102 => ?_)
                                obtain ⟨i102, ei102⟩ := qi102
                                have p103 : In 1 (o0.1 39).toInt (o0.2.1 86) (upd (o0.2.1 92) (x5.toNatClampNeg) (vp_nar .boolean 1)) := by first | exact In_z rfl | exact In_u x_3 (by omega) (by omega) (Or.inl (by decide)) | exact In_u x_3 (by omega) (by omega) (Or.inr (by omega))
                                exact H.2.1 _ _ _ k45 r46 (iv_w (a := 0) (b := 1) (by decide) (by decide) (show (1 : Int) ≤ (1 : Int32).toInt ∧ (1 : Int32).toInt ≤ 1 by decide)) (iv_w (a := 0) (b := 6) (by decide) (by decide) i102) f_o0_0 f_o0_38 f_o0_78 f_o0_95 x_0 x_1 x_2 p103 (show 5000000 + (7 - x101.toInt) < (n : Int) by omega)
                          · have wc90 : ¬ (0 : Int) = (0 : Int) := c_ne c90
                            exact (dd_ne c90 (show (0 : Int) ≤ (0 : Int32).toInt ∧ (0 : Int32).toInt ≤ 0 by decide) (show (0 : Int) ≤ (0 : Int32).toInt ∧ (0 : Int32).toInt ≤ 0 by decide)).elim
                · have wc43 : ¬ (0 : Int) = (0 : Int) := c_ne c43
                  exact (dd_ne c43 (show (0 : Int) ≤ (0 : Int32).toInt ∧ (0 : Int32).toInt ≤ 0 by decide) (show (0 : Int) ≤ (0 : Int32).toInt ∧ (0 : Int32).toInt ≤ 0 by decide)).elim
              · have wc42 : ¬ (0 : Int) = (0 : Int) := c_ne c42
                exact (dd_ne c42 (show (0 : Int) ≤ (0 : Int32).toInt ∧ (0 : Int32).toInt ≤ 0 by decide) (show (0 : Int) ≤ (0 : Int32).toInt ∧ (0 : Int32).toInt ≤ 0 by decide)).elim
            · have wc41 : x38.toInt ≤ (o0.1 39).toInt := c_nlt c41
              have i104 : (1 : Int) ≤ x38.toInt ∧ x38.toInt ≤ 8 := nr_nltl c41 i39 (k_o0.1 39) (by decide) (by decide)
              have i105 : (1 : Int) ≤ (o0.1 39).toInt ∧ (o0.1 39).toInt ≤ 8 := nr_nltr c41 i39 (k_o0.1 39) (by decide) (by decide)
              try unfold fM_in_15
              refine tt_bw (iv_b (show (1 : Int) ≤ (1 : Int32).toInt ∧ (1 : Int32).toInt ≤ 1 by decide) (by decide) (by decide)) ?_
              refine tt_bs ?_
              refine tt_bif (fun c106 => ?_) (fun c106 => ?_)
              · have wc106 : (1 : Int) = (0 : Int) := c_eq c106
                exact (dd_eq c106 (show (1 : Int) ≤ (1 : Int32).toInt ∧ (1 : Int32).toInt ≤ 1 by decide) (show (0 : Int) ≤ (0 : Int32).toInt ∧ (0 : Int32).toInt ≤ 0 by decide) (by decide)).elim
              · have wc106 : ¬ (1 : Int) = (0 : Int) := c_ne c106
                try unfold fM_isGiven_25
                refine tt_bw (iv_b (show (1 : Int) ≤ (1 : Int32).toInt ∧ (1 : Int32).toInt ≤ 1 by decide) (by decide) (by decide)) ?_
                refine tt_bs ?_
                refine tt_bif (fun c107 => ?_) (fun c107 => ?_)
                · have wc107 : (1 : Int) = (0 : Int) := c_eq c107
                  exact (dd_eq c107 (show (1 : Int) ≤ (1 : Int32).toInt ∧ (1 : Int32).toInt ≤ 1 by decide) (show (0 : Int) ≤ (0 : Int32).toInt ∧ (0 : Int32).toInt ≤ 0 by decide) (by decide)).elim
                · have wc107 : ¬ (1 : Int) = (0 : Int) := c_ne c107
                  try unfold fM_isWanted_17
                  try unfold fM_isWanted_18
                  refine tt_bw (iv_b (show (0 : Int) ≤ (0 : Int32).toInt ∧ (0 : Int32).toInt ≤ 0 by decide) (by decide) (by decide)) ?_
                  refine tt_bs ?_
                  refine tt_if (fun c108 => ?_) (fun c108 => ?_)
                  · have wc108 : (0 : Int) = (0 : Int) := c_eq c108
                    try unfold fM_markAll_76
                    refine tt_n (ix_ok i33 (by decide) (by decide)) ?_
                    refine tt_ko ?_
                    have k109 := ok_xp (k := 92) (i := x5.toNatClampNeg) (v := (vp_nar .boolean 0)) k_o0 (iv_nz _)
                    have r110 := fr_xp (k := 92) (i := x5.toNatClampNeg) (v := (vp_nar .boolean 0)) r_o0 rfl
                    have t111 := tn_n x5
                    have t112 : ((vp_nar .boolean 0) : Int32).toInt = 0 := (by decide)
                    have t113 := nz_w (f := (o0.2.1 92)) (i := x5.toNatClampNeg) (n := 420) (v := (vp_nar .boolean 0))
                    refine tt_if (fun c114 => ?_) (fun c114 => ?_)
                    · have wc114 : v1.toInt = (0 : Int) := c_eq c114
                      have i115 : (0 : Int) ≤ v1.toInt ∧ v1.toInt ≤ 0 := nr_eql c114 i_v1 (show (0 : Int) ≤ (0 : Int32).toInt ∧ (0 : Int32).toInt ≤ 0 by decide) (by decide) (by decide)
                      try unfold fM_markAll_112
                      try unfold fM_markAll_113
                      refine tt_kv (P := fun z => ((1 : Int) ≤ z.toInt ∧ z.toInt ≤ 6) ∧ z.toInt = v2.toInt + 1) ⟨iv_add i3 (show (1 : Int) ≤ (1 : Int32).toInt ∧ (1 : Int32).toInt ≤ 1 by decide) (by decide) (by decide) (by decide) (by decide), iq_add i3 (show (1 : Int) ≤ (1 : Int32).toInt ∧ (1 : Int32).toInt ≤ 1 by decide) (by decide) (by decide)⟩ (fun x116 qi117 => ?_)
                      obtain ⟨i117, ei117⟩ := qi117
                      have p118 : In 0 (o0.1 39).toInt (o0.2.1 86) (upd (o0.2.1 92) (x5.toNatClampNeg) (vp_nar .boolean 0)) := by first | exact In_z rfl | exact In_u x_3 (by omega) (by omega) (Or.inl (by decide)) | exact In_u x_3 (by omega) (by omega) (Or.inr (by omega))
                      exact H.2.1 _ _ _ k109 r110 (iv_w (a := 0) (b := 1) (by decide) (by decide) (show (0 : Int) ≤ (0 : Int32).toInt ∧ (0 : Int32).toInt ≤ 0 by decide)) (iv_w (a := 0) (b := 6) (by decide) (by decide) i117) f_o0_0 f_o0_38 f_o0_78 f_o0_95 x_0 x_1 x_2 p118 (show 5000000 + (7 - x116.toInt) < (n : Int) by omega)
                    · have wc114 : ¬ v1.toInt = (0 : Int) := c_ne c114
                      have i119 : (1 : Int) ≤ v1.toInt ∧ v1.toInt ≤ 1 := nr_nela c114 i_v1 (show (0 : Int) ≤ (0 : Int32).toInt ∧ (0 : Int32).toInt ≤ 0 by decide) (by decide) (by decide)
                      refine tt_n (ix_ok i3 (by decide) (by decide)) ?_
                      refine tt_kv (P := fun z => x5 = z ∧ True) ⟨(i_eq ei6), trivial⟩ (fun x120 hx120 => ?_)
                      obtain ⟨rfl, -⟩ := hx120
                      try unfold fM_isWanted
                      try unfold fM_isWanted_0
                      refine tt_bif (fun c121 => ?_) (fun c121 => ?_)
                      · have wc121 : x5.toInt ≤ (1 : Int) := c_le c121
                        exact (dd_le c121 i33 (show (1 : Int) ≤ (1 : Int32).toInt ∧ (1 : Int32).toInt ≤ 1 by decide) (by decide)).elim
                      · have wc121 : (1 : Int) < x5.toInt := c_nle c121
                        refine tt_bb ?_
                        try unfold fM_isGiven
                        try unfold fM_isGiven_0
                        refine tt_bkv (P := fun z => ((0 : Int) ≤ z.toInt ∧ z.toInt ≤ 1) ∧ z.toInt = x5.toInt % 2) ⟨iv_rem (k := 2) i33 (show (2 : Int) ≤ (2 : Int32).toInt ∧ (2 : Int32).toInt ≤ 2 by decide) (by decide) (by decide) (by decide) (by decide), i_rem (x := x5) (y := 2) (Int.le_trans (by decide) i33.1) (by decide)⟩ (fun x122 qi123 => ?_)
                        obtain ⟨i123, ei123⟩ := qi123
                        refine tt_bif (fun c124 => ?_) (fun c124 => ?_)
                        · have wc124 : x122.toInt = (0 : Int) := c_eq c124
                          have i125 : (0 : Int) ≤ x122.toInt ∧ x122.toInt ≤ 0 := nr_eql c124 i123 (show (0 : Int) ≤ (0 : Int32).toInt ∧ (0 : Int32).toInt ≤ 0 by decide) (by decide) (by decide)
                          refine tt_bkv (P := fun z => ((1 : Int) ≤ z.toInt ∧ z.toInt ≤ 208) ∧ z.toInt = x5.toInt / 2) ⟨iv_div (k := 2) i33 (show (2 : Int) ≤ (2 : Int32).toInt ∧ (2 : Int32).toInt ≤ 2 by decide) (by decide) (by decide) (by decide) (by decide), i_dv (Int.le_trans (by decide) i33.1) (by decide)⟩ (fun x126 qi127 => ?_)
                          obtain ⟨i127, ei127⟩ := qi127
                          refine tt_bb ?_
                          try unfold fM_in
                          try unfold fM_in_0
                          refine tt_bif (fun c128 => ?_) (fun c128 => ?_)
                          · have wc128 : x126.toInt < (1 : Int) := c_lt c128
                            exact (dd_lt c128 i127 (show (1 : Int) ≤ (1 : Int32).toInt ∧ (1 : Int32).toInt ≤ 1 by decide) (by decide)).elim
                          · have wc128 : (1 : Int) ≤ x126.toInt := c_nlt c128
                            refine tt_bif (fun c129 => ?_) (fun c129 => ?_)
                            · have wc129 : (o0.1 39).toInt < x126.toInt := c_lt c129
                              have i130 : (2 : Int) ≤ x126.toInt ∧ x126.toInt ≤ 208 := nr_ltr c129 i105 i127 (by decide) (by decide)
                              try unfold fM_in_14
                              try unfold fM_in_15
                              refine tt_bw (iv_b (show (0 : Int) ≤ (0 : Int32).toInt ∧ (0 : Int32).toInt ≤ 0 by decide) (by decide) (by decide)) ?_
                              refine tt_bs ?_
                              refine tt_bif (fun c131 => ?_) (fun c131 => ?_)
                              · have wc131 : (0 : Int) = (0 : Int) := c_eq c131
                                try unfold fM_isGiven_24
                                try unfold fM_isGiven_25
                                refine tt_bw (iv_b (show (0 : Int) ≤ (0 : Int32).toInt ∧ (0 : Int32).toInt ≤ 0 by decide) (by decide) (by decide)) ?_
                                refine tt_bs ?_
                                refine tt_bif (fun c132 => ?_) (fun c132 => ?_)
                                · have wc132 : (0 : Int) = (0 : Int) := c_eq c132
                                  try unfold fM_isWanted_18
                                  refine tt_bw (iv_b (show (1 : Int) ≤ (1 : Int32).toInt ∧ (1 : Int32).toInt ≤ 1 by decide) (by decide) (by decide)) ?_
                                  refine tt_bs ?_
                                  refine tt_if (fun c133 => ?_) (fun c133 => ?_)
                                  · have wc133 : (1 : Int) = (0 : Int) := c_eq c133
                                    exact (dd_eq c133 (show (1 : Int) ≤ (1 : Int32).toInt ∧ (1 : Int32).toInt ≤ 1 by decide) (show (0 : Int) ≤ (0 : Int32).toInt ∧ (0 : Int32).toInt ≤ 0 by decide) (by decide)).elim
                                  · have wc133 : ¬ (1 : Int) = (0 : Int) := c_ne c133
                                    refine tt_n (ix_ok i3 (by decide) (by decide)) ?_
                                    refine tt_kv (P := fun z => x5 = z ∧ True) ⟨(i_eq ei6), trivial⟩ (fun x134 hx134 => ?_)
                                    obtain ⟨rfl, -⟩ := hx134
                                    refine tt_n (ix_ok i33 (by decide) (by decide)) ?_
                                    refine tt_kv (P := fun z => ((0 : Int) ≤ z.toInt ∧ z.toInt ≤ 1) ∧ z.toInt = (o0.2.1 86 x5.toNatClampNeg).toInt) ⟨(k109.2 86 _), rfl⟩ (fun x135 qi136 => ?_)
                                    obtain ⟨i136, ei136⟩ := qi136
                                    refine tt_if (fun c137 => ?_) (fun c137 => ?_)
                                    · have wc137 : x135.toInt = (0 : Int) := c_eq c137
                                      have i138 : (0 : Int) ≤ x135.toInt ∧ x135.toInt ≤ 0 := nr_eql c137 i136 (show (0 : Int) ≤ (0 : Int32).toInt ∧ (0 : Int32).toInt ≤ 0 by decide) (by decide) (by decide)
                                      try unfold fM_markAll_112
                                      try unfold fM_markAll_113
                                      refine tt_kv (P := fun z => ((1 : Int) ≤ z.toInt ∧ z.toInt ≤ 6) ∧ z.toInt = v2.toInt + 1) ⟨iv_add i3 (show (1 : Int) ≤ (1 : Int32).toInt ∧ (1 : Int32).toInt ≤ 1 by decide) (by decide) (by decide) (by decide) (by decide), iq_add i3 (show (1 : Int) ≤ (1 : Int32).toInt ∧ (1 : Int32).toInt ≤ 1 by decide) (by decide) (by decide)⟩ (fun x139 qi140 => ?_)
                                      obtain ⟨i140, ei140⟩ := qi140
                                      have p141 : In 0 (o0.1 39).toInt (o0.2.1 86) (upd (o0.2.1 92) (x5.toNatClampNeg) (vp_nar .boolean 0)) := by first | exact In_z rfl | exact In_u x_3 (by omega) (by omega) (Or.inl (by decide)) | exact In_u x_3 (by omega) (by omega) (Or.inr (by omega))
                                      exact H.2.1 _ _ _ k109 r110 (iv_w (a := 0) (b := 1) (by decide) (by decide) (show (0 : Int) ≤ (0 : Int32).toInt ∧ (0 : Int32).toInt ≤ 0 by decide)) (iv_w (a := 0) (b := 6) (by decide) (by decide) i140) f_o0_0 f_o0_38 f_o0_78 f_o0_95 x_0 x_1 x_2 p141 (show 5000000 + (7 - x139.toInt) < (n : Int) by omega)
                                    · have wc137 : ¬ x135.toInt = (0 : Int) := c_ne c137
                                      have i142 : (1 : Int) ≤ x135.toInt ∧ x135.toInt ≤ 1 := nr_nela c137 i136 (show (0 : Int) ≤ (0 : Int32).toInt ∧ (0 : Int32).toInt ≤ 0 by decide) (by decide) (by decide)
                                      try unfold fM_markAll_108
                                      try unfold fM_markAll_113
                                      refine tt_kv (P := fun z => ((1 : Int) ≤ z.toInt ∧ z.toInt ≤ 6) ∧ z.toInt = v2.toInt + 1) ⟨iv_add i3 (show (1 : Int) ≤ (1 : Int32).toInt ∧ (1 : Int32).toInt ≤ 1 by decide) (by decide) (by decide) (by decide) (by decide), iq_add i3 (show (1 : Int) ≤ (1 : Int32).toInt ∧ (1 : Int32).toInt ≤ 1 by decide) (by decide) (by decide)⟩ (fun x143 qi144 => ?_)
                                      obtain ⟨i144, ei144⟩ := qi144
                                      have p145 : In 1 (o0.1 39).toInt (o0.2.1 86) (upd (o0.2.1 92) (x5.toNatClampNeg) (vp_nar .boolean 0)) := by first | exact In_z rfl | exact In_u x_3 (by omega) (by omega) (Or.inl (by decide)) | exact In_u x_3 (by omega) (by omega) (Or.inr (by omega))
                                      exact H.2.1 _ _ _ k109 r110 (iv_w (a := 0) (b := 1) (by decide) (by decide) (show (1 : Int) ≤ (1 : Int32).toInt ∧ (1 : Int32).toInt ≤ 1 by decide)) (iv_w (a := 0) (b := 6) (by decide) (by decide) i144) f_o0_0 f_o0_38 f_o0_78 f_o0_95 x_0 x_1 x_2 p145 (show 5000000 + (7 - x143.toInt) < (n : Int) by omega)
                                · have wc132 : ¬ (0 : Int) = (0 : Int) := c_ne c132
                                  exact (dd_ne c132 (show (0 : Int) ≤ (0 : Int32).toInt ∧ (0 : Int32).toInt ≤ 0 by decide) (show (0 : Int) ≤ (0 : Int32).toInt ∧ (0 : Int32).toInt ≤ 0 by decide)).elim
                              · have wc131 : ¬ (0 : Int) = (0 : Int) := c_ne c131
                                exact (dd_ne c131 (show (0 : Int) ≤ (0 : Int32).toInt ∧ (0 : Int32).toInt ≤ 0 by decide) (show (0 : Int) ≤ (0 : Int32).toInt ∧ (0 : Int32).toInt ≤ 0 by decide)).elim
                            · have wc129 : x126.toInt ≤ (o0.1 39).toInt := c_nlt c129
                              have i146 : (1 : Int) ≤ x126.toInt ∧ x126.toInt ≤ 8 := nr_nltl c129 i127 i105 (by decide) (by decide)
                              try unfold fM_in_15
                              refine tt_bw (iv_b (show (1 : Int) ≤ (1 : Int32).toInt ∧ (1 : Int32).toInt ≤ 1 by decide) (by decide) (by decide)) ?_
                              refine tt_bs ?_
                              refine tt_bif (fun c147 => ?_) (fun c147 => ?_)
                              · have wc147 : (1 : Int) = (0 : Int) := c_eq c147
                                exact (dd_eq c147 (show (1 : Int) ≤ (1 : Int32).toInt ∧ (1 : Int32).toInt ≤ 1 by decide) (show (0 : Int) ≤ (0 : Int32).toInt ∧ (0 : Int32).toInt ≤ 0 by decide) (by decide)).elim
                              · have wc147 : ¬ (1 : Int) = (0 : Int) := c_ne c147
                                try unfold fM_isGiven_25
                                refine tt_bw (iv_b (show (1 : Int) ≤ (1 : Int32).toInt ∧ (1 : Int32).toInt ≤ 1 by decide) (by decide) (by decide)) ?_
                                refine tt_bs ?_
                                refine tt_bif (fun c148 => ?_) (fun c148 => ?_)
                                · have wc148 : (1 : Int) = (0 : Int) := c_eq c148
                                  exact (dd_eq c148 (show (1 : Int) ≤ (1 : Int32).toInt ∧ (1 : Int32).toInt ≤ 1 by decide) (show (0 : Int) ≤ (0 : Int32).toInt ∧ (0 : Int32).toInt ≤ 0 by decide) (by decide)).elim
                                · have wc148 : ¬ (1 : Int) = (0 : Int) := c_ne c148
                                  try unfold fM_isWanted_17
                                  try unfold fM_isWanted_18
                                  refine tt_bw (iv_b (show (0 : Int) ≤ (0 : Int32).toInt ∧ (0 : Int32).toInt ≤ 0 by decide) (by decide) (by decide)) ?_
                                  refine tt_bs ?_
                                  refine tt_if (fun c149 => ?_) (fun c149 => ?_)
                                  · have wc149 : (0 : Int) = (0 : Int) := c_eq c149
                                    try unfold fM_markAll_108
                                    try unfold fM_markAll_113
                                    refine tt_kv (P := fun z => ((1 : Int) ≤ z.toInt ∧ z.toInt ≤ 6) ∧ z.toInt = v2.toInt + 1) ⟨iv_add i3 (show (1 : Int) ≤ (1 : Int32).toInt ∧ (1 : Int32).toInt ≤ 1 by decide) (by decide) (by decide) (by decide) (by decide), iq_add i3 (show (1 : Int) ≤ (1 : Int32).toInt ∧ (1 : Int32).toInt ≤ 1 by decide) (by decide) (by decide)⟩ (fun x150 qi151 => ?_)
                                    obtain ⟨i151, ei151⟩ := qi151
                                    have p152 : In 1 (o0.1 39).toInt (o0.2.1 86) (upd (o0.2.1 92) (x5.toNatClampNeg) (vp_nar .boolean 0)) := by first | exact In_z rfl | exact In_u x_3 (by omega) (by omega) (Or.inl (by decide)) | exact In_u x_3 (by omega) (by omega) (Or.inr (by omega))
                                    exact H.2.1 _ _ _ k109 r110 (iv_w (a := 0) (b := 1) (by decide) (by decide) (show (1 : Int) ≤ (1 : Int32).toInt ∧ (1 : Int32).toInt ≤ 1 by decide)) (iv_w (a := 0) (b := 6) (by decide) (by decide) i151) f_o0_0 f_o0_38 f_o0_78 f_o0_95 x_0 x_1 x_2 p152 (show 5000000 + (7 - x150.toInt) < (n : Int) by omega)
                                  · have wc149 : ¬ (0 : Int) = (0 : Int) := c_ne c149
                                    exact (dd_ne c149 (show (0 : Int) ≤ (0 : Int32).toInt ∧ (0 : Int32).toInt ≤ 0 by decide) (show (0 : Int) ≤ (0 : Int32).toInt ∧ (0 : Int32).toInt ≤ 0 by decide)).elim
                        · have wc124 : ¬ x122.toInt = (0 : Int) := c_ne c124
                          have i153 : (1 : Int) ≤ x122.toInt ∧ x122.toInt ≤ 1 := nr_nela c124 i123 (show (0 : Int) ≤ (0 : Int32).toInt ∧ (0 : Int32).toInt ≤ 0 by decide) (by decide) (by decide)
                          try unfold fM_isGiven_24
                          try unfold fM_isGiven_25
                          refine tt_bw (iv_b (show (0 : Int) ≤ (0 : Int32).toInt ∧ (0 : Int32).toInt ≤ 0 by decide) (by decide) (by decide)) ?_
                          refine tt_bs ?_
                          refine tt_bif (fun c154 => ?_) (fun c154 => ?_)
                          · have wc154 : (0 : Int) = (0 : Int) := c_eq c154
                            try unfold fM_isWanted_18
                            refine tt_bw (iv_b (show (1 : Int) ≤ (1 : Int32).toInt ∧ (1 : Int32).toInt ≤ 1 by decide) (by decide) (by decide)) ?_
                            refine tt_bs ?_
                            refine tt_if (fun c155 => ?_) (fun c155 => ?_)
                            · have wc155 : (1 : Int) = (0 : Int) := c_eq c155
                              exact (dd_eq c155 (show (1 : Int) ≤ (1 : Int32).toInt ∧ (1 : Int32).toInt ≤ 1 by decide) (show (0 : Int) ≤ (0 : Int32).toInt ∧ (0 : Int32).toInt ≤ 0 by decide) (by decide)).elim
                            · have wc155 : ¬ (1 : Int) = (0 : Int) := c_ne c155
                              refine tt_n (ix_ok i3 (by decide) (by decide)) ?_
                              refine tt_kv (P := fun z => x5 = z ∧ True) ⟨(i_eq ei6), trivial⟩ (fun x156 hx156 => ?_)
                              obtain ⟨rfl, -⟩ := hx156
                              refine tt_n (ix_ok i33 (by decide) (by decide)) ?_
                              refine tt_kv (P := fun z => ((0 : Int) ≤ z.toInt ∧ z.toInt ≤ 1) ∧ z.toInt = (o0.2.1 86 x5.toNatClampNeg).toInt) ⟨(k109.2 86 _), rfl⟩ (fun x157 qi158 => ?_)
                              obtain ⟨i158, ei158⟩ := qi158
                              refine tt_if (fun c159 => ?_) (fun c159 => ?_)
                              · have wc159 : x157.toInt = (0 : Int) := c_eq c159
                                have i160 : (0 : Int) ≤ x157.toInt ∧ x157.toInt ≤ 0 := nr_eql c159 i158 (show (0 : Int) ≤ (0 : Int32).toInt ∧ (0 : Int32).toInt ≤ 0 by decide) (by decide) (by decide)
                                try unfold fM_markAll_112
                                try unfold fM_markAll_113
                                refine tt_kv (P := fun z => ((1 : Int) ≤ z.toInt ∧ z.toInt ≤ 6) ∧ z.toInt = v2.toInt + 1) ⟨iv_add i3 (show (1 : Int) ≤ (1 : Int32).toInt ∧ (1 : Int32).toInt ≤ 1 by decide) (by decide) (by decide) (by decide) (by decide), iq_add i3 (show (1 : Int) ≤ (1 : Int32).toInt ∧ (1 : Int32).toInt ≤ 1 by decide) (by decide) (by decide)⟩ (fun x161 qi162 => ?_)
                                obtain ⟨i162, ei162⟩ := qi162
                                have p163 : In 0 (o0.1 39).toInt (o0.2.1 86) (upd (o0.2.1 92) (x5.toNatClampNeg) (vp_nar .boolean 0)) := by first | exact In_z rfl | exact In_u x_3 (by omega) (by omega) (Or.inl (by decide)) | exact In_u x_3 (by omega) (by omega) (Or.inr (by omega))
                                exact H.2.1 _ _ _ k109 r110 (iv_w (a := 0) (b := 1) (by decide) (by decide) (show (0 : Int) ≤ (0 : Int32).toInt ∧ (0 : Int32).toInt ≤ 0 by decide)) (iv_w (a := 0) (b := 6) (by decide) (by decide) i162) f_o0_0 f_o0_38 f_o0_78 f_o0_95 x_0 x_1 x_2 p163 (show 5000000 + (7 - x161.toInt) < (n : Int) by omega)
                              · have wc159 : ¬ x157.toInt = (0 : Int) := c_ne c159
                                have i164 : (1 : Int) ≤ x157.toInt ∧ x157.toInt ≤ 1 := nr_nela c159 i158 (show (0 : Int) ≤ (0 : Int32).toInt ∧ (0 : Int32).toInt ≤ 0 by decide) (by decide) (by decide)
                                try unfold fM_markAll_108
                                try unfold fM_markAll_113
                                refine tt_kv (P := fun z => ((1 : Int) ≤ z.toInt ∧ z.toInt ≤ 6) ∧ z.toInt = v2.toInt + 1) ⟨iv_add i3 (show (1 : Int) ≤ (1 : Int32).toInt ∧ (1 : Int32).toInt ≤ 1 by decide) (by decide) (by decide) (by decide) (by decide), iq_add i3 (show (1 : Int) ≤ (1 : Int32).toInt ∧ (1 : Int32).toInt ≤ 1 by decide) (by decide) (by decide)⟩ (fun x165 qi166 => ?_)
                                obtain ⟨i166, ei166⟩ := qi166
                                have p167 : In 1 (o0.1 39).toInt (o0.2.1 86) (upd (o0.2.1 92) (x5.toNatClampNeg) (vp_nar .boolean 0)) := by first | exact In_z rfl | exact In_u x_3 (by omega) (by omega) (Or.inl (by decide)) | exact In_u x_3 (by omega) (by omega) (Or.inr (by omega))
                                exact H.2.1 _ _ _ k109 r110 (iv_w (a := 0) (b := 1) (by decide) (by decide) (show (1 : Int) ≤ (1 : Int32).toInt ∧ (1 : Int32).toInt ≤ 1 by decide)) (iv_w (a := 0) (b := 6) (by decide) (by decide) i166) f_o0_0 f_o0_38 f_o0_78 f_o0_95 x_0 x_1 x_2 p167 (show 5000000 + (7 - x165.toInt) < (n : Int) by omega)
                          · have wc154 : ¬ (0 : Int) = (0 : Int) := c_ne c154
                            exact (dd_ne c154 (show (0 : Int) ≤ (0 : Int32).toInt ∧ (0 : Int32).toInt ≤ 0 by decide) (show (0 : Int) ≤ (0 : Int32).toInt ∧ (0 : Int32).toInt ≤ 0 by decide)).elim
                  · have wc108 : ¬ (0 : Int) = (0 : Int) := c_ne c108
                    exact (dd_ne c108 (show (0 : Int) ≤ (0 : Int32).toInt ∧ (0 : Int32).toInt ≤ 0 by decide) (show (0 : Int) ≤ (0 : Int32).toInt ∧ (0 : Int32).toInt ≤ 0 by decide)).elim
        · have wc36 : ¬ x34.toInt = (0 : Int) := c_ne c36
          have i168 : (1 : Int) ≤ x34.toInt ∧ x34.toInt ≤ 1 := nr_nela c36 i35 (show (0 : Int) ≤ (0 : Int32).toInt ∧ (0 : Int32).toInt ≤ 0 by decide) (by decide) (by decide)
          try unfold fM_isGiven_24
          try unfold fM_isGiven_25
          refine tt_bw (iv_b (show (0 : Int) ≤ (0 : Int32).toInt ∧ (0 : Int32).toInt ≤ 0 by decide) (by decide) (by decide)) ?_
          refine tt_bs ?_
          refine tt_bif (fun c169 => ?_) (fun c169 => ?_)
          · have wc169 : (0 : Int) = (0 : Int) := c_eq c169
            try unfold fM_isWanted_18
            refine tt_bw (iv_b (show (1 : Int) ≤ (1 : Int32).toInt ∧ (1 : Int32).toInt ≤ 1 by decide) (by decide) (by decide)) ?_
            refine tt_bs ?_
            refine tt_if (fun c170 => ?_) (fun c170 => ?_)
            · have wc170 : (1 : Int) = (0 : Int) := c_eq c170
              exact (dd_eq c170 (show (1 : Int) ≤ (1 : Int32).toInt ∧ (1 : Int32).toInt ≤ 1 by decide) (show (0 : Int) ≤ (0 : Int32).toInt ∧ (0 : Int32).toInt ≤ 0 by decide) (by decide)).elim
            · have wc170 : ¬ (1 : Int) = (0 : Int) := c_ne c170
              try unfold fM_markAll_71
              try unfold fM_markAll_76
              refine tt_n (ix_ok i33 (by decide) (by decide)) ?_
              refine tt_ko ?_
              have k171 := ok_xp (k := 92) (i := x5.toNatClampNeg) (v := (vp_nar .boolean 1)) k_o0 (iv_nz _)
              have r172 := fr_xp (k := 92) (i := x5.toNatClampNeg) (v := (vp_nar .boolean 1)) r_o0 rfl
              have t173 := tn_n x5
              have t174 : ((vp_nar .boolean 1) : Int32).toInt = 1 := (by decide)
              have t175 := nz_w (f := (o0.2.1 92)) (i := x5.toNatClampNeg) (n := 420) (v := (vp_nar .boolean 1))
              refine tt_if (fun c176 => ?_) (fun c176 => ?_)
              · have wc176 : v1.toInt = (0 : Int) := c_eq c176
                have i177 : (0 : Int) ≤ v1.toInt ∧ v1.toInt ≤ 0 := nr_eql c176 i_v1 (show (0 : Int) ≤ (0 : Int32).toInt ∧ (0 : Int32).toInt ≤ 0 by decide) (by decide) (by decide)
                try unfold fM_markAll_112
                try unfold fM_markAll_113
                refine tt_kv (P := fun z => ((1 : Int) ≤ z.toInt ∧ z.toInt ≤ 6) ∧ z.toInt = v2.toInt + 1) ⟨iv_add i3 (show (1 : Int) ≤ (1 : Int32).toInt ∧ (1 : Int32).toInt ≤ 1 by decide) (by decide) (by decide) (by decide) (by decide), iq_add i3 (show (1 : Int) ≤ (1 : Int32).toInt ∧ (1 : Int32).toInt ≤ 1 by decide) (by decide) (by decide)⟩ (fun x178 qi179 => ?_)
                obtain ⟨i179, ei179⟩ := qi179
                have p180 : In 0 (o0.1 39).toInt (o0.2.1 86) (upd (o0.2.1 92) (x5.toNatClampNeg) (vp_nar .boolean 1)) := by first | exact In_z rfl | exact In_u x_3 (by omega) (by omega) (Or.inl (by decide)) | exact In_u x_3 (by omega) (by omega) (Or.inr (by omega))
                exact H.2.1 _ _ _ k171 r172 (iv_w (a := 0) (b := 1) (by decide) (by decide) (show (0 : Int) ≤ (0 : Int32).toInt ∧ (0 : Int32).toInt ≤ 0 by decide)) (iv_w (a := 0) (b := 6) (by decide) (by decide) i179) f_o0_0 f_o0_38 f_o0_78 f_o0_95 x_0 x_1 x_2 p180 (show 5000000 + (7 - x178.toInt) < (n : Int) by omega)
              · have wc176 : ¬ v1.toInt = (0 : Int) := c_ne c176
                have i181 : (1 : Int) ≤ v1.toInt ∧ v1.toInt ≤ 1 := nr_nela c176 i_v1 (show (0 : Int) ≤ (0 : Int32).toInt ∧ (0 : Int32).toInt ≤ 0 by decide) (by decide) (by decide)
                refine tt_n (ix_ok i3 (by decide) (by decide)) ?_
                refine tt_kv (P := fun z => x5 = z ∧ True) ⟨(i_eq ei6), trivial⟩ (fun x182 hx182 => ?_)
                obtain ⟨rfl, -⟩ := hx182
                try unfold fM_isWanted
                try unfold fM_isWanted_0
                refine tt_bif (fun c183 => ?_) (fun c183 => ?_)
                · have wc183 : x5.toInt ≤ (1 : Int) := c_le c183
                  exact (dd_le c183 i33 (show (1 : Int) ≤ (1 : Int32).toInt ∧ (1 : Int32).toInt ≤ 1 by decide) (by decide)).elim
                · have wc183 : (1 : Int) < x5.toInt := c_nle c183
                  refine tt_bb ?_
                  try unfold fM_isGiven
                  try unfold fM_isGiven_0
                  refine tt_bkv (P := fun z => ((0 : Int) ≤ z.toInt ∧ z.toInt ≤ 1) ∧ z.toInt = x5.toInt % 2) ⟨iv_rem (k := 2) i33 (show (2 : Int) ≤ (2 : Int32).toInt ∧ (2 : Int32).toInt ≤ 2 by decide) (by decide) (by decide) (by decide) (by decide), i_rem (x := x5) (y := 2) (Int.le_trans (by decide) i33.1) (by decide)⟩ (fun x184 qi185 => ?_)
                  obtain ⟨i185, ei185⟩ := qi185
                  refine tt_bif (fun c186 => ?_) (fun c186 => ?_)
                  · have wc186 : x184.toInt = (0 : Int) := c_eq c186
                    have i187 : (0 : Int) ≤ x184.toInt ∧ x184.toInt ≤ 0 := nr_eql c186 i185 (show (0 : Int) ≤ (0 : Int32).toInt ∧ (0 : Int32).toInt ≤ 0 by decide) (by decide) (by decide)
                    refine tt_bkv (P := fun z => ((1 : Int) ≤ z.toInt ∧ z.toInt ≤ 208) ∧ z.toInt = x5.toInt / 2) ⟨iv_div (k := 2) i33 (show (2 : Int) ≤ (2 : Int32).toInt ∧ (2 : Int32).toInt ≤ 2 by decide) (by decide) (by decide) (by decide) (by decide), i_dv (Int.le_trans (by decide) i33.1) (by decide)⟩ (fun x188 qi189 => ?_)
                    obtain ⟨i189, ei189⟩ := qi189
                    refine tt_bb ?_
                    try unfold fM_in
                    try unfold fM_in_0
                    refine tt_bif (fun c190 => ?_) (fun c190 => ?_)
                    · have wc190 : x188.toInt < (1 : Int) := c_lt c190
                      exact (dd_lt c190 i189 (show (1 : Int) ≤ (1 : Int32).toInt ∧ (1 : Int32).toInt ≤ 1 by decide) (by decide)).elim
                    · have wc190 : (1 : Int) ≤ x188.toInt := c_nlt c190
                      refine tt_bif (fun c191 => ?_) (fun c191 => ?_)
                      · have wc191 : (o0.1 39).toInt < x188.toInt := c_lt c191
                        try unfold fM_in_14
                        try unfold fM_in_15
                        refine tt_bw (iv_b (show (0 : Int) ≤ (0 : Int32).toInt ∧ (0 : Int32).toInt ≤ 0 by decide) (by decide) (by decide)) ?_
                        refine tt_bs ?_
                        refine tt_bif (fun c192 => ?_) (fun c192 => ?_)
                        · have wc192 : (0 : Int) = (0 : Int) := c_eq c192
                          try unfold fM_isGiven_24
                          try unfold fM_isGiven_25
                          refine tt_bw (iv_b (show (0 : Int) ≤ (0 : Int32).toInt ∧ (0 : Int32).toInt ≤ 0 by decide) (by decide) (by decide)) ?_
                          refine tt_bs ?_
                          refine tt_bif (fun c193 => ?_) (fun c193 => ?_)
                          · have wc193 : (0 : Int) = (0 : Int) := c_eq c193
                            try unfold fM_isWanted_18
                            refine tt_bw (iv_b (show (1 : Int) ≤ (1 : Int32).toInt ∧ (1 : Int32).toInt ≤ 1 by decide) (by decide) (by decide)) ?_
                            refine tt_bs ?_
                            refine tt_if (fun c194 => ?_) (fun c194 => ?_)
                            · have wc194 : (1 : Int) = (0 : Int) := c_eq c194
                              exact (dd_eq c194 (show (1 : Int) ≤ (1 : Int32).toInt ∧ (1 : Int32).toInt ≤ 1 by decide) (show (0 : Int) ≤ (0 : Int32).toInt ∧ (0 : Int32).toInt ≤ 0 by decide) (by decide)).elim
                            · have wc194 : ¬ (1 : Int) = (0 : Int) := c_ne c194
                              refine tt_n (ix_ok i3 (by decide) (by decide)) ?_
                              refine tt_kv (P := fun z => x5 = z ∧ True) ⟨(i_eq ei6), trivial⟩ (fun x195 hx195 => ?_)
                              obtain ⟨rfl, -⟩ := hx195
                              refine tt_n (ix_ok i33 (by decide) (by decide)) ?_
                              refine tt_kv (P := fun z => ((0 : Int) ≤ z.toInt ∧ z.toInt ≤ 1) ∧ z.toInt = (o0.2.1 86 x5.toNatClampNeg).toInt) ⟨(k171.2 86 _), rfl⟩ (fun x196 qi197 => ?_)
                              obtain ⟨i197, ei197⟩ := qi197
                              refine tt_if (fun c198 => ?_) (fun c198 => ?_)
                              · have wc198 : x196.toInt = (0 : Int) := c_eq c198
                                have i199 : (0 : Int) ≤ x196.toInt ∧ x196.toInt ≤ 0 := nr_eql c198 i197 (show (0 : Int) ≤ (0 : Int32).toInt ∧ (0 : Int32).toInt ≤ 0 by decide) (by decide) (by decide)
                                try unfold fM_markAll_112
                                try unfold fM_markAll_113
                                refine tt_kv (P := fun z => ((1 : Int) ≤ z.toInt ∧ z.toInt ≤ 6) ∧ z.toInt = v2.toInt + 1) ⟨iv_add i3 (show (1 : Int) ≤ (1 : Int32).toInt ∧ (1 : Int32).toInt ≤ 1 by decide) (by decide) (by decide) (by decide) (by decide), iq_add i3 (show (1 : Int) ≤ (1 : Int32).toInt ∧ (1 : Int32).toInt ≤ 1 by decide) (by decide) (by decide)⟩ (fun x200 qi201 => ?_)
                                obtain ⟨i201, ei201⟩ := qi201
                                have p202 : In 0 (o0.1 39).toInt (o0.2.1 86) (upd (o0.2.1 92) (x5.toNatClampNeg) (vp_nar .boolean 1)) := by first | exact In_z rfl | exact In_u x_3 (by omega) (by omega) (Or.inl (by decide)) | exact In_u x_3 (by omega) (by omega) (Or.inr (by omega))
                                exact H.2.1 _ _ _ k171 r172 (iv_w (a := 0) (b := 1) (by decide) (by decide) (show (0 : Int) ≤ (0 : Int32).toInt ∧ (0 : Int32).toInt ≤ 0 by decide)) (iv_w (a := 0) (b := 6) (by decide) (by decide) i201) f_o0_0 f_o0_38 f_o0_78 f_o0_95 x_0 x_1 x_2 p202 (show 5000000 + (7 - x200.toInt) < (n : Int) by omega)
                              · have wc198 : ¬ x196.toInt = (0 : Int) := c_ne c198
                                have i203 : (1 : Int) ≤ x196.toInt ∧ x196.toInt ≤ 1 := nr_nela c198 i197 (show (0 : Int) ≤ (0 : Int32).toInt ∧ (0 : Int32).toInt ≤ 0 by decide) (by decide) (by decide)
                                try unfold fM_markAll_108
                                try unfold fM_markAll_113
                                refine tt_kv (P := fun z => ((1 : Int) ≤ z.toInt ∧ z.toInt ≤ 6) ∧ z.toInt = v2.toInt + 1) ⟨iv_add i3 (show (1 : Int) ≤ (1 : Int32).toInt ∧ (1 : Int32).toInt ≤ 1 by decide) (by decide) (by decide) (by decide) (by decide), iq_add i3 (show (1 : Int) ≤ (1 : Int32).toInt ∧ (1 : Int32).toInt ≤ 1 by decide) (by decide) (by decide)⟩ (fun x204 qi205 => ?_)
                                obtain ⟨i205, ei205⟩ := qi205
                                have p206 : In 1 (o0.1 39).toInt (o0.2.1 86) (upd (o0.2.1 92) (x5.toNatClampNeg) (vp_nar .boolean 1)) := by first | exact In_z rfl | exact In_u x_3 (by omega) (by omega) (Or.inl (by decide)) | exact In_u x_3 (by omega) (by omega) (Or.inr (by omega))
                                exact H.2.1 _ _ _ k171 r172 (iv_w (a := 0) (b := 1) (by decide) (by decide) (show (1 : Int) ≤ (1 : Int32).toInt ∧ (1 : Int32).toInt ≤ 1 by decide)) (iv_w (a := 0) (b := 6) (by decide) (by decide) i205) f_o0_0 f_o0_38 f_o0_78 f_o0_95 x_0 x_1 x_2 p206 (show 5000000 + (7 - x204.toInt) < (n : Int) by omega)
                          · have wc193 : ¬ (0 : Int) = (0 : Int) := c_ne c193
                            exact (dd_ne c193 (show (0 : Int) ≤ (0 : Int32).toInt ∧ (0 : Int32).toInt ≤ 0 by decide) (show (0 : Int) ≤ (0 : Int32).toInt ∧ (0 : Int32).toInt ≤ 0 by decide)).elim
                        · have wc192 : ¬ (0 : Int) = (0 : Int) := c_ne c192
                          exact (dd_ne c192 (show (0 : Int) ≤ (0 : Int32).toInt ∧ (0 : Int32).toInt ≤ 0 by decide) (show (0 : Int) ≤ (0 : Int32).toInt ∧ (0 : Int32).toInt ≤ 0 by decide)).elim
                      · have wc191 : x188.toInt ≤ (o0.1 39).toInt := c_nlt c191
                        have i207 : (1 : Int) ≤ x188.toInt ∧ x188.toInt ≤ 8 := nr_nltl c191 i189 (k_o0.1 39) (by decide) (by decide)
                        have i208 : (1 : Int) ≤ (o0.1 39).toInt ∧ (o0.1 39).toInt ≤ 8 := nr_nltr c191 i189 (k_o0.1 39) (by decide) (by decide)
                        try unfold fM_in_15
                        refine tt_bw (iv_b (show (1 : Int) ≤ (1 : Int32).toInt ∧ (1 : Int32).toInt ≤ 1 by decide) (by decide) (by decide)) ?_
                        refine tt_bs ?_
                        refine tt_bif (fun c209 => ?_) (fun c209 => ?_)
                        · have wc209 : (1 : Int) = (0 : Int) := c_eq c209
                          exact (dd_eq c209 (show (1 : Int) ≤ (1 : Int32).toInt ∧ (1 : Int32).toInt ≤ 1 by decide) (show (0 : Int) ≤ (0 : Int32).toInt ∧ (0 : Int32).toInt ≤ 0 by decide) (by decide)).elim
                        · have wc209 : ¬ (1 : Int) = (0 : Int) := c_ne c209
                          try unfold fM_isGiven_25
                          refine tt_bw (iv_b (show (1 : Int) ≤ (1 : Int32).toInt ∧ (1 : Int32).toInt ≤ 1 by decide) (by decide) (by decide)) ?_
                          refine tt_bs ?_
                          refine tt_bif (fun c210 => ?_) (fun c210 => ?_)
                          · have wc210 : (1 : Int) = (0 : Int) := c_eq c210
                            exact (dd_eq c210 (show (1 : Int) ≤ (1 : Int32).toInt ∧ (1 : Int32).toInt ≤ 1 by decide) (show (0 : Int) ≤ (0 : Int32).toInt ∧ (0 : Int32).toInt ≤ 0 by decide) (by decide)).elim
                          · have wc210 : ¬ (1 : Int) = (0 : Int) := c_ne c210
                            try unfold fM_isWanted_17
                            try unfold fM_isWanted_18
                            refine tt_bw (iv_b (show (0 : Int) ≤ (0 : Int32).toInt ∧ (0 : Int32).toInt ≤ 0 by decide) (by decide) (by decide)) ?_
                            refine tt_bs ?_
                            refine tt_if (fun c211 => ?_) (fun c211 => ?_)
                            · have wc211 : (0 : Int) = (0 : Int) := c_eq c211
                              try unfold fM_markAll_108
                              try unfold fM_markAll_113
                              refine tt_kv (P := fun z => ((1 : Int) ≤ z.toInt ∧ z.toInt ≤ 6) ∧ z.toInt = v2.toInt + 1) ⟨iv_add i3 (show (1 : Int) ≤ (1 : Int32).toInt ∧ (1 : Int32).toInt ≤ 1 by decide) (by decide) (by decide) (by decide) (by decide), iq_add i3 (show (1 : Int) ≤ (1 : Int32).toInt ∧ (1 : Int32).toInt ≤ 1 by decide) (by decide) (by decide)⟩ (fun x212 qi213 => ?_)
                              obtain ⟨i213, ei213⟩ := qi213
                              have p214 : In 1 (o0.1 39).toInt (o0.2.1 86) (upd (o0.2.1 92) (x5.toNatClampNeg) (vp_nar .boolean 1)) := by first | exact In_z rfl | exact In_u x_3 (by omega) (by omega) (Or.inl (by decide)) | exact In_u x_3 (by omega) (by omega) (Or.inr (by omega))
                              exact H.2.1 _ _ _ k171 r172 (iv_w (a := 0) (b := 1) (by decide) (by decide) (show (1 : Int) ≤ (1 : Int32).toInt ∧ (1 : Int32).toInt ≤ 1 by decide)) (iv_w (a := 0) (b := 6) (by decide) (by decide) i213) f_o0_0 f_o0_38 f_o0_78 f_o0_95 x_0 x_1 x_2 p214 (show 5000000 + (7 - x212.toInt) < (n : Int) by omega)
                            · have wc211 : ¬ (0 : Int) = (0 : Int) := c_ne c211
                              exact (dd_ne c211 (show (0 : Int) ≤ (0 : Int32).toInt ∧ (0 : Int32).toInt ≤ 0 by decide) (show (0 : Int) ≤ (0 : Int32).toInt ∧ (0 : Int32).toInt ≤ 0 by decide)).elim
                  · have wc186 : ¬ x184.toInt = (0 : Int) := c_ne c186
                    have i215 : (1 : Int) ≤ x184.toInt ∧ x184.toInt ≤ 1 := nr_nela c186 i185 (show (0 : Int) ≤ (0 : Int32).toInt ∧ (0 : Int32).toInt ≤ 0 by decide) (by decide) (by decide)
                    try unfold fM_isGiven_24
                    try unfold fM_isGiven_25
                    refine tt_bw (iv_b (show (0 : Int) ≤ (0 : Int32).toInt ∧ (0 : Int32).toInt ≤ 0 by decide) (by decide) (by decide)) ?_
                    refine tt_bs ?_
                    refine tt_bif (fun c216 => ?_) (fun c216 => ?_)
                    · have wc216 : (0 : Int) = (0 : Int) := c_eq c216
                      try unfold fM_isWanted_18
                      refine tt_bw (iv_b (show (1 : Int) ≤ (1 : Int32).toInt ∧ (1 : Int32).toInt ≤ 1 by decide) (by decide) (by decide)) ?_
                      refine tt_bs ?_
                      refine tt_if (fun c217 => ?_) (fun c217 => ?_)
                      · have wc217 : (1 : Int) = (0 : Int) := c_eq c217
                        exact (dd_eq c217 (show (1 : Int) ≤ (1 : Int32).toInt ∧ (1 : Int32).toInt ≤ 1 by decide) (show (0 : Int) ≤ (0 : Int32).toInt ∧ (0 : Int32).toInt ≤ 0 by decide) (by decide)).elim
                      · have wc217 : ¬ (1 : Int) = (0 : Int) := c_ne c217
                        refine tt_n (ix_ok i3 (by decide) (by decide)) ?_
                        refine tt_kv (P := fun z => x5 = z ∧ True) ⟨(i_eq ei6), trivial⟩ (fun x218 hx218 => ?_)
                        obtain ⟨rfl, -⟩ := hx218
                        refine tt_n (ix_ok i33 (by decide) (by decide)) ?_
                        refine tt_kv (P := fun z => ((0 : Int) ≤ z.toInt ∧ z.toInt ≤ 1) ∧ z.toInt = (o0.2.1 86 x5.toNatClampNeg).toInt) ⟨(k171.2 86 _), rfl⟩ (fun x219 qi220 => ?_)
                        obtain ⟨i220, ei220⟩ := qi220
                        refine tt_if (fun c221 => ?_) (fun c221 => ?_)
                        · have wc221 : x219.toInt = (0 : Int) := c_eq c221
                          have i222 : (0 : Int) ≤ x219.toInt ∧ x219.toInt ≤ 0 := nr_eql c221 i220 (show (0 : Int) ≤ (0 : Int32).toInt ∧ (0 : Int32).toInt ≤ 0 by decide) (by decide) (by decide)
                          try unfold fM_markAll_112
                          try unfold fM_markAll_113
                          refine tt_kv (P := fun z => ((1 : Int) ≤ z.toInt ∧ z.toInt ≤ 6) ∧ z.toInt = v2.toInt + 1) ⟨iv_add i3 (show (1 : Int) ≤ (1 : Int32).toInt ∧ (1 : Int32).toInt ≤ 1 by decide) (by decide) (by decide) (by decide) (by decide), iq_add i3 (show (1 : Int) ≤ (1 : Int32).toInt ∧ (1 : Int32).toInt ≤ 1 by decide) (by decide) (by decide)⟩ (fun x223 qi224 => ?_)
                          obtain ⟨i224, ei224⟩ := qi224
                          have p225 : In 0 (o0.1 39).toInt (o0.2.1 86) (upd (o0.2.1 92) (x5.toNatClampNeg) (vp_nar .boolean 1)) := by first | exact In_z rfl | exact In_u x_3 (by omega) (by omega) (Or.inl (by decide)) | exact In_u x_3 (by omega) (by omega) (Or.inr (by omega))
                          exact H.2.1 _ _ _ k171 r172 (iv_w (a := 0) (b := 1) (by decide) (by decide) (show (0 : Int) ≤ (0 : Int32).toInt ∧ (0 : Int32).toInt ≤ 0 by decide)) (iv_w (a := 0) (b := 6) (by decide) (by decide) i224) f_o0_0 f_o0_38 f_o0_78 f_o0_95 x_0 x_1 x_2 p225 (show 5000000 + (7 - x223.toInt) < (n : Int) by omega)
                        · have wc221 : ¬ x219.toInt = (0 : Int) := c_ne c221
                          have i226 : (1 : Int) ≤ x219.toInt ∧ x219.toInt ≤ 1 := nr_nela c221 i220 (show (0 : Int) ≤ (0 : Int32).toInt ∧ (0 : Int32).toInt ≤ 0 by decide) (by decide) (by decide)
                          try unfold fM_markAll_108
                          try unfold fM_markAll_113
                          refine tt_kv (P := fun z => ((1 : Int) ≤ z.toInt ∧ z.toInt ≤ 6) ∧ z.toInt = v2.toInt + 1) ⟨iv_add i3 (show (1 : Int) ≤ (1 : Int32).toInt ∧ (1 : Int32).toInt ≤ 1 by decide) (by decide) (by decide) (by decide) (by decide), iq_add i3 (show (1 : Int) ≤ (1 : Int32).toInt ∧ (1 : Int32).toInt ≤ 1 by decide) (by decide) (by decide)⟩ (fun x227 qi228 => ?_)
                          obtain ⟨i228, ei228⟩ := qi228
                          have p229 : In 1 (o0.1 39).toInt (o0.2.1 86) (upd (o0.2.1 92) (x5.toNatClampNeg) (vp_nar .boolean 1)) := by first | exact In_z rfl | exact In_u x_3 (by omega) (by omega) (Or.inl (by decide)) | exact In_u x_3 (by omega) (by omega) (Or.inr (by omega))
                          exact H.2.1 _ _ _ k171 r172 (iv_w (a := 0) (b := 1) (by decide) (by decide) (show (1 : Int) ≤ (1 : Int32).toInt ∧ (1 : Int32).toInt ≤ 1 by decide)) (iv_w (a := 0) (b := 6) (by decide) (by decide) i228) f_o0_0 f_o0_38 f_o0_78 f_o0_95 x_0 x_1 x_2 p229 (show 5000000 + (7 - x227.toInt) < (n : Int) by omega)
                    · have wc216 : ¬ (0 : Int) = (0 : Int) := c_ne c216
                      exact (dd_ne c216 (show (0 : Int) ≤ (0 : Int32).toInt ∧ (0 : Int32).toInt ≤ 0 by decide) (show (0 : Int) ≤ (0 : Int32).toInt ∧ (0 : Int32).toInt ≤ 0 by decide)).elim
          · have wc169 : ¬ (0 : Int) = (0 : Int) := c_ne c169
            exact (dd_ne c169 (show (0 : Int) ≤ (0 : Int32).toInt ∧ (0 : Int32).toInt ≤ 0 by decide) (show (0 : Int) ≤ (0 : Int32).toInt ∧ (0 : Int32).toInt ≤ 0 by decide)).elim
    · have wc10 : ¬ x8.toInt = (0 : Int) := c_ne c10
      have i230 : (1 : Int) ≤ x8.toInt ∧ x8.toInt ≤ 1 := nr_nela c10 i9 (show (0 : Int) ≤ (0 : Int32).toInt ∧ (0 : Int32).toInt ≤ 0 by decide) (by decide) (by decide)
      try unfold fM_markAll_71
      try unfold fM_markAll_76
      refine tt_n (ix_ok i6 (by decide) (by decide)) ?_
      refine tt_ko ?_
      have k231 := ok_xp (k := 92) (i := x5.toNatClampNeg) (v := (vp_nar .boolean 1)) k_o0 (iv_nz _)
      have r232 := fr_xp (k := 92) (i := x5.toNatClampNeg) (v := (vp_nar .boolean 1)) r_o0 rfl
      have t233 := tn_n x5
      have t234 : ((vp_nar .boolean 1) : Int32).toInt = 1 := (by decide)
      have t235 := nz_w (f := (o0.2.1 92)) (i := x5.toNatClampNeg) (n := 420) (v := (vp_nar .boolean 1))
      refine tt_if (fun c236 => ?_) (fun c236 => ?_)
      · have wc236 : v1.toInt = (0 : Int) := c_eq c236
        have i237 : (0 : Int) ≤ v1.toInt ∧ v1.toInt ≤ 0 := nr_eql c236 i_v1 (show (0 : Int) ≤ (0 : Int32).toInt ∧ (0 : Int32).toInt ≤ 0 by decide) (by decide) (by decide)
        try unfold fM_markAll_112
        try unfold fM_markAll_113
        refine tt_kv (P := fun z => ((1 : Int) ≤ z.toInt ∧ z.toInt ≤ 6) ∧ z.toInt = v2.toInt + 1) ⟨iv_add i3 (show (1 : Int) ≤ (1 : Int32).toInt ∧ (1 : Int32).toInt ≤ 1 by decide) (by decide) (by decide) (by decide) (by decide), iq_add i3 (show (1 : Int) ≤ (1 : Int32).toInt ∧ (1 : Int32).toInt ≤ 1 by decide) (by decide) (by decide)⟩ (fun x238 qi239 => ?_)
        obtain ⟨i239, ei239⟩ := qi239
        have p240 : In 0 (o0.1 39).toInt (o0.2.1 86) (upd (o0.2.1 92) (x5.toNatClampNeg) (vp_nar .boolean 1)) := by first | exact In_z rfl | exact In_u x_3 (by omega) (by omega) (Or.inl (by decide)) | exact In_u x_3 (by omega) (by omega) (Or.inr (by omega))
        exact H.2.1 _ _ _ k231 r232 (iv_w (a := 0) (b := 1) (by decide) (by decide) (show (0 : Int) ≤ (0 : Int32).toInt ∧ (0 : Int32).toInt ≤ 0 by decide)) (iv_w (a := 0) (b := 6) (by decide) (by decide) i239) f_o0_0 f_o0_38 f_o0_78 f_o0_95 x_0 x_1 x_2 p240 (show 5000000 + (7 - x238.toInt) < (n : Int) by omega)
      · have wc236 : ¬ v1.toInt = (0 : Int) := c_ne c236
        have i241 : (1 : Int) ≤ v1.toInt ∧ v1.toInt ≤ 1 := nr_nela c236 i_v1 (show (0 : Int) ≤ (0 : Int32).toInt ∧ (0 : Int32).toInt ≤ 0 by decide) (by decide) (by decide)
        refine tt_n (ix_ok i3 (by decide) (by decide)) ?_
        refine tt_kv (P := fun z => x5 = z ∧ True) ⟨(i_eq ei6), trivial⟩ (fun x242 hx242 => ?_)
        obtain ⟨rfl, -⟩ := hx242
        try unfold fM_isWanted
        try unfold fM_isWanted_0
        refine tt_bif (fun c243 => ?_) (fun c243 => ?_)
        · have wc243 : x5.toInt ≤ (1 : Int) := c_le c243
          have i244 : (0 : Int) ≤ x5.toInt ∧ x5.toInt ≤ 1 := nr_lel c243 i6 (show (1 : Int) ≤ (1 : Int32).toInt ∧ (1 : Int32).toInt ≤ 1 by decide) (by decide) (by decide)
          try unfold fM_isWanted_17
          try unfold fM_isWanted_18
          refine tt_bw (iv_b (show (0 : Int) ≤ (0 : Int32).toInt ∧ (0 : Int32).toInt ≤ 0 by decide) (by decide) (by decide)) ?_
          refine tt_bs ?_
          refine tt_if (fun c245 => ?_) (fun c245 => ?_)
          · have wc245 : (0 : Int) = (0 : Int) := c_eq c245
            try unfold fM_markAll_108
            try unfold fM_markAll_113
            refine tt_kv (P := fun z => ((1 : Int) ≤ z.toInt ∧ z.toInt ≤ 6) ∧ z.toInt = v2.toInt + 1) ⟨iv_add i3 (show (1 : Int) ≤ (1 : Int32).toInt ∧ (1 : Int32).toInt ≤ 1 by decide) (by decide) (by decide) (by decide) (by decide), iq_add i3 (show (1 : Int) ≤ (1 : Int32).toInt ∧ (1 : Int32).toInt ≤ 1 by decide) (by decide) (by decide)⟩ (fun x246 qi247 => ?_)
            obtain ⟨i247, ei247⟩ := qi247
            have p248 : In 1 (o0.1 39).toInt (o0.2.1 86) (upd (o0.2.1 92) (x5.toNatClampNeg) (vp_nar .boolean 1)) := by first | exact In_z rfl | exact In_u x_3 (by omega) (by omega) (Or.inl (by decide)) | exact In_u x_3 (by omega) (by omega) (Or.inr (by omega))
            exact H.2.1 _ _ _ k231 r232 (iv_w (a := 0) (b := 1) (by decide) (by decide) (show (1 : Int) ≤ (1 : Int32).toInt ∧ (1 : Int32).toInt ≤ 1 by decide)) (iv_w (a := 0) (b := 6) (by decide) (by decide) i247) f_o0_0 f_o0_38 f_o0_78 f_o0_95 x_0 x_1 x_2 p248 (show 5000000 + (7 - x246.toInt) < (n : Int) by omega)
          · have wc245 : ¬ (0 : Int) = (0 : Int) := c_ne c245
            exact (dd_ne c245 (show (0 : Int) ≤ (0 : Int32).toInt ∧ (0 : Int32).toInt ≤ 0 by decide) (show (0 : Int) ≤ (0 : Int32).toInt ∧ (0 : Int32).toInt ≤ 0 by decide)).elim
        · have wc243 : (1 : Int) < x5.toInt := c_nle c243
          have i249 : (2 : Int) ≤ x5.toInt ∧ x5.toInt ≤ 417 := nr_nler c243 (show (1 : Int) ≤ (1 : Int32).toInt ∧ (1 : Int32).toInt ≤ 1 by decide) i6 (by decide) (by decide)
          refine tt_bb ?_
          try unfold fM_isGiven
          try unfold fM_isGiven_0
          refine tt_bkv (P := fun z => ((0 : Int) ≤ z.toInt ∧ z.toInt ≤ 1) ∧ z.toInt = x5.toInt % 2) ⟨iv_rem (k := 2) i249 (show (2 : Int) ≤ (2 : Int32).toInt ∧ (2 : Int32).toInt ≤ 2 by decide) (by decide) (by decide) (by decide) (by decide), i_rem (x := x5) (y := 2) (Int.le_trans (by decide) i249.1) (by decide)⟩ (fun x250 qi251 => ?_)
          obtain ⟨i251, ei251⟩ := qi251
          refine tt_bif (fun c252 => ?_) (fun c252 => ?_)
          · have wc252 : x250.toInt = (0 : Int) := c_eq c252
            have i253 : (0 : Int) ≤ x250.toInt ∧ x250.toInt ≤ 0 := nr_eql c252 i251 (show (0 : Int) ≤ (0 : Int32).toInt ∧ (0 : Int32).toInt ≤ 0 by decide) (by decide) (by decide)
            refine tt_bkv (P := fun z => ((1 : Int) ≤ z.toInt ∧ z.toInt ≤ 208) ∧ z.toInt = x5.toInt / 2) ⟨iv_div (k := 2) i249 (show (2 : Int) ≤ (2 : Int32).toInt ∧ (2 : Int32).toInt ≤ 2 by decide) (by decide) (by decide) (by decide) (by decide), i_dv (Int.le_trans (by decide) i249.1) (by decide)⟩ (fun x254 qi255 => ?_)
            obtain ⟨i255, ei255⟩ := qi255
            refine tt_bb ?_
            try unfold fM_in
            try unfold fM_in_0
            refine tt_bif (fun c256 => ?_) (fun c256 => ?_)
            · have wc256 : x254.toInt < (1 : Int) := c_lt c256
              exact (dd_lt c256 i255 (show (1 : Int) ≤ (1 : Int32).toInt ∧ (1 : Int32).toInt ≤ 1 by decide) (by decide)).elim
            · have wc256 : (1 : Int) ≤ x254.toInt := c_nlt c256
              refine tt_bif (fun c257 => ?_) (fun c257 => ?_)
              · have wc257 : (o0.1 39).toInt < x254.toInt := c_lt c257
                try unfold fM_in_14
                try unfold fM_in_15
                refine tt_bw (iv_b (show (0 : Int) ≤ (0 : Int32).toInt ∧ (0 : Int32).toInt ≤ 0 by decide) (by decide) (by decide)) ?_
                refine tt_bs ?_
                refine tt_bif (fun c258 => ?_) (fun c258 => ?_)
                · have wc258 : (0 : Int) = (0 : Int) := c_eq c258
                  try unfold fM_isGiven_24
                  try unfold fM_isGiven_25
                  refine tt_bw (iv_b (show (0 : Int) ≤ (0 : Int32).toInt ∧ (0 : Int32).toInt ≤ 0 by decide) (by decide) (by decide)) ?_
                  refine tt_bs ?_
                  refine tt_bif (fun c259 => ?_) (fun c259 => ?_)
                  · have wc259 : (0 : Int) = (0 : Int) := c_eq c259
                    try unfold fM_isWanted_18
                    refine tt_bw (iv_b (show (1 : Int) ≤ (1 : Int32).toInt ∧ (1 : Int32).toInt ≤ 1 by decide) (by decide) (by decide)) ?_
                    refine tt_bs ?_
                    refine tt_if (fun c260 => ?_) (fun c260 => ?_)
                    · have wc260 : (1 : Int) = (0 : Int) := c_eq c260
                      exact (dd_eq c260 (show (1 : Int) ≤ (1 : Int32).toInt ∧ (1 : Int32).toInt ≤ 1 by decide) (show (0 : Int) ≤ (0 : Int32).toInt ∧ (0 : Int32).toInt ≤ 0 by decide) (by decide)).elim
                    · have wc260 : ¬ (1 : Int) = (0 : Int) := c_ne c260
                      refine tt_n (ix_ok i3 (by decide) (by decide)) ?_
                      refine tt_kv (P := fun z => x5 = z ∧ True) ⟨(i_eq ei6), trivial⟩ (fun x261 hx261 => ?_)
                      obtain ⟨rfl, -⟩ := hx261
                      refine tt_n (ix_ok i249 (by decide) (by decide)) ?_
                      refine tt_kv (P := fun z => ((0 : Int) ≤ z.toInt ∧ z.toInt ≤ 1) ∧ z.toInt = (o0.2.1 86 x5.toNatClampNeg).toInt) ⟨(k231.2 86 _), rfl⟩ (fun x262 qi263 => ?_)
                      obtain ⟨i263, ei263⟩ := qi263
                      refine tt_if (fun c264 => ?_) (fun c264 => ?_)
                      · have wc264 : x262.toInt = (0 : Int) := c_eq c264
                        have i265 : (0 : Int) ≤ x262.toInt ∧ x262.toInt ≤ 0 := nr_eql c264 i263 (show (0 : Int) ≤ (0 : Int32).toInt ∧ (0 : Int32).toInt ≤ 0 by decide) (by decide) (by decide)
                        try unfold fM_markAll_112
                        try unfold fM_markAll_113
                        refine tt_kv (P := fun z => ((1 : Int) ≤ z.toInt ∧ z.toInt ≤ 6) ∧ z.toInt = v2.toInt + 1) ⟨iv_add i3 (show (1 : Int) ≤ (1 : Int32).toInt ∧ (1 : Int32).toInt ≤ 1 by decide) (by decide) (by decide) (by decide) (by decide), iq_add i3 (show (1 : Int) ≤ (1 : Int32).toInt ∧ (1 : Int32).toInt ≤ 1 by decide) (by decide) (by decide)⟩ (fun x266 qi267 => ?_)
                        obtain ⟨i267, ei267⟩ := qi267
                        have p268 : In 0 (o0.1 39).toInt (o0.2.1 86) (upd (o0.2.1 92) (x5.toNatClampNeg) (vp_nar .boolean 1)) := by first | exact In_z rfl | exact In_u x_3 (by omega) (by omega) (Or.inl (by decide)) | exact In_u x_3 (by omega) (by omega) (Or.inr (by omega))
                        exact H.2.1 _ _ _ k231 r232 (iv_w (a := 0) (b := 1) (by decide) (by decide) (show (0 : Int) ≤ (0 : Int32).toInt ∧ (0 : Int32).toInt ≤ 0 by decide)) (iv_w (a := 0) (b := 6) (by decide) (by decide) i267) f_o0_0 f_o0_38 f_o0_78 f_o0_95 x_0 x_1 x_2 p268 (show 5000000 + (7 - x266.toInt) < (n : Int) by omega)
                      · have wc264 : ¬ x262.toInt = (0 : Int) := c_ne c264
                        have i269 : (1 : Int) ≤ x262.toInt ∧ x262.toInt ≤ 1 := nr_nela c264 i263 (show (0 : Int) ≤ (0 : Int32).toInt ∧ (0 : Int32).toInt ≤ 0 by decide) (by decide) (by decide)
                        try unfold fM_markAll_108
                        try unfold fM_markAll_113
                        refine tt_kv (P := fun z => ((1 : Int) ≤ z.toInt ∧ z.toInt ≤ 6) ∧ z.toInt = v2.toInt + 1) ⟨iv_add i3 (show (1 : Int) ≤ (1 : Int32).toInt ∧ (1 : Int32).toInt ≤ 1 by decide) (by decide) (by decide) (by decide) (by decide), iq_add i3 (show (1 : Int) ≤ (1 : Int32).toInt ∧ (1 : Int32).toInt ≤ 1 by decide) (by decide) (by decide)⟩ (fun x270 qi271 => ?_)
                        obtain ⟨i271, ei271⟩ := qi271
                        have p272 : In 1 (o0.1 39).toInt (o0.2.1 86) (upd (o0.2.1 92) (x5.toNatClampNeg) (vp_nar .boolean 1)) := by first | exact In_z rfl | exact In_u x_3 (by omega) (by omega) (Or.inl (by decide)) | exact In_u x_3 (by omega) (by omega) (Or.inr (by omega))
                        exact H.2.1 _ _ _ k231 r232 (iv_w (a := 0) (b := 1) (by decide) (by decide) (show (1 : Int) ≤ (1 : Int32).toInt ∧ (1 : Int32).toInt ≤ 1 by decide)) (iv_w (a := 0) (b := 6) (by decide) (by decide) i271) f_o0_0 f_o0_38 f_o0_78 f_o0_95 x_0 x_1 x_2 p272 (show 5000000 + (7 - x270.toInt) < (n : Int) by omega)
                  · have wc259 : ¬ (0 : Int) = (0 : Int) := c_ne c259
                    exact (dd_ne c259 (show (0 : Int) ≤ (0 : Int32).toInt ∧ (0 : Int32).toInt ≤ 0 by decide) (show (0 : Int) ≤ (0 : Int32).toInt ∧ (0 : Int32).toInt ≤ 0 by decide)).elim
                · have wc258 : ¬ (0 : Int) = (0 : Int) := c_ne c258
                  exact (dd_ne c258 (show (0 : Int) ≤ (0 : Int32).toInt ∧ (0 : Int32).toInt ≤ 0 by decide) (show (0 : Int) ≤ (0 : Int32).toInt ∧ (0 : Int32).toInt ≤ 0 by decide)).elim
              · have wc257 : x254.toInt ≤ (o0.1 39).toInt := c_nlt c257
                have i273 : (1 : Int) ≤ x254.toInt ∧ x254.toInt ≤ 8 := nr_nltl c257 i255 (k_o0.1 39) (by decide) (by decide)
                have i274 : (1 : Int) ≤ (o0.1 39).toInt ∧ (o0.1 39).toInt ≤ 8 := nr_nltr c257 i255 (k_o0.1 39) (by decide) (by decide)
                try unfold fM_in_15
                refine tt_bw (iv_b (show (1 : Int) ≤ (1 : Int32).toInt ∧ (1 : Int32).toInt ≤ 1 by decide) (by decide) (by decide)) ?_
                refine tt_bs ?_
                refine tt_bif (fun c275 => ?_) (fun c275 => ?_)
                · have wc275 : (1 : Int) = (0 : Int) := c_eq c275
                  exact (dd_eq c275 (show (1 : Int) ≤ (1 : Int32).toInt ∧ (1 : Int32).toInt ≤ 1 by decide) (show (0 : Int) ≤ (0 : Int32).toInt ∧ (0 : Int32).toInt ≤ 0 by decide) (by decide)).elim
                · have wc275 : ¬ (1 : Int) = (0 : Int) := c_ne c275
                  try unfold fM_isGiven_25
                  refine tt_bw (iv_b (show (1 : Int) ≤ (1 : Int32).toInt ∧ (1 : Int32).toInt ≤ 1 by decide) (by decide) (by decide)) ?_
                  refine tt_bs ?_
                  refine tt_bif (fun c276 => ?_) (fun c276 => ?_)
                  · have wc276 : (1 : Int) = (0 : Int) := c_eq c276
                    exact (dd_eq c276 (show (1 : Int) ≤ (1 : Int32).toInt ∧ (1 : Int32).toInt ≤ 1 by decide) (show (0 : Int) ≤ (0 : Int32).toInt ∧ (0 : Int32).toInt ≤ 0 by decide) (by decide)).elim
                  · have wc276 : ¬ (1 : Int) = (0 : Int) := c_ne c276
                    try unfold fM_isWanted_17
                    try unfold fM_isWanted_18
                    refine tt_bw (iv_b (show (0 : Int) ≤ (0 : Int32).toInt ∧ (0 : Int32).toInt ≤ 0 by decide) (by decide) (by decide)) ?_
                    refine tt_bs ?_
                    refine tt_if (fun c277 => ?_) (fun c277 => ?_)
                    · have wc277 : (0 : Int) = (0 : Int) := c_eq c277
                      try unfold fM_markAll_108
                      try unfold fM_markAll_113
                      refine tt_kv (P := fun z => ((1 : Int) ≤ z.toInt ∧ z.toInt ≤ 6) ∧ z.toInt = v2.toInt + 1) ⟨iv_add i3 (show (1 : Int) ≤ (1 : Int32).toInt ∧ (1 : Int32).toInt ≤ 1 by decide) (by decide) (by decide) (by decide) (by decide), iq_add i3 (show (1 : Int) ≤ (1 : Int32).toInt ∧ (1 : Int32).toInt ≤ 1 by decide) (by decide) (by decide)⟩ (fun x278 qi279 => ?_)
                      obtain ⟨i279, ei279⟩ := qi279
                      have p280 : In 1 (o0.1 39).toInt (o0.2.1 86) (upd (o0.2.1 92) (x5.toNatClampNeg) (vp_nar .boolean 1)) := by first | exact In_z rfl | exact In_u x_3 (by omega) (by omega) (Or.inl (by decide)) | exact In_u x_3 (by omega) (by omega) (Or.inr (by omega))
                      exact H.2.1 _ _ _ k231 r232 (iv_w (a := 0) (b := 1) (by decide) (by decide) (show (1 : Int) ≤ (1 : Int32).toInt ∧ (1 : Int32).toInt ≤ 1 by decide)) (iv_w (a := 0) (b := 6) (by decide) (by decide) i279) f_o0_0 f_o0_38 f_o0_78 f_o0_95 x_0 x_1 x_2 p280 (show 5000000 + (7 - x278.toInt) < (n : Int) by omega)
                    · have wc277 : ¬ (0 : Int) = (0 : Int) := c_ne c277
                      exact (dd_ne c277 (show (0 : Int) ≤ (0 : Int32).toInt ∧ (0 : Int32).toInt ≤ 0 by decide) (show (0 : Int) ≤ (0 : Int32).toInt ∧ (0 : Int32).toInt ≤ 0 by decide)).elim
          · have wc252 : ¬ x250.toInt = (0 : Int) := c_ne c252
            have i281 : (1 : Int) ≤ x250.toInt ∧ x250.toInt ≤ 1 := nr_nela c252 i251 (show (0 : Int) ≤ (0 : Int32).toInt ∧ (0 : Int32).toInt ≤ 0 by decide) (by decide) (by decide)
            try unfold fM_isGiven_24
            try unfold fM_isGiven_25
            refine tt_bw (iv_b (show (0 : Int) ≤ (0 : Int32).toInt ∧ (0 : Int32).toInt ≤ 0 by decide) (by decide) (by decide)) ?_
            refine tt_bs ?_
            refine tt_bif (fun c282 => ?_) (fun c282 => ?_)
            · have wc282 : (0 : Int) = (0 : Int) := c_eq c282
              try unfold fM_isWanted_18
              refine tt_bw (iv_b (show (1 : Int) ≤ (1 : Int32).toInt ∧ (1 : Int32).toInt ≤ 1 by decide) (by decide) (by decide)) ?_
              refine tt_bs ?_
              refine tt_if (fun c283 => ?_) (fun c283 => ?_)
              · have wc283 : (1 : Int) = (0 : Int) := c_eq c283
                exact (dd_eq c283 (show (1 : Int) ≤ (1 : Int32).toInt ∧ (1 : Int32).toInt ≤ 1 by decide) (show (0 : Int) ≤ (0 : Int32).toInt ∧ (0 : Int32).toInt ≤ 0 by decide) (by decide)).elim
              · have wc283 : ¬ (1 : Int) = (0 : Int) := c_ne c283
                refine tt_n (ix_ok i3 (by decide) (by decide)) ?_
                refine tt_kv (P := fun z => x5 = z ∧ True) ⟨(i_eq ei6), trivial⟩ (fun x284 hx284 => ?_)
                obtain ⟨rfl, -⟩ := hx284
                refine tt_n (ix_ok i249 (by decide) (by decide)) ?_
                refine tt_kv (P := fun z => ((0 : Int) ≤ z.toInt ∧ z.toInt ≤ 1) ∧ z.toInt = (o0.2.1 86 x5.toNatClampNeg).toInt) ⟨(k231.2 86 _), rfl⟩ (fun x285 qi286 => ?_)
                obtain ⟨i286, ei286⟩ := qi286
                refine tt_if (fun c287 => ?_) (fun c287 => ?_)
                · have wc287 : x285.toInt = (0 : Int) := c_eq c287
                  have i288 : (0 : Int) ≤ x285.toInt ∧ x285.toInt ≤ 0 := nr_eql c287 i286 (show (0 : Int) ≤ (0 : Int32).toInt ∧ (0 : Int32).toInt ≤ 0 by decide) (by decide) (by decide)
                  try unfold fM_markAll_112
                  try unfold fM_markAll_113
                  refine tt_kv (P := fun z => ((1 : Int) ≤ z.toInt ∧ z.toInt ≤ 6) ∧ z.toInt = v2.toInt + 1) ⟨iv_add i3 (show (1 : Int) ≤ (1 : Int32).toInt ∧ (1 : Int32).toInt ≤ 1 by decide) (by decide) (by decide) (by decide) (by decide), iq_add i3 (show (1 : Int) ≤ (1 : Int32).toInt ∧ (1 : Int32).toInt ≤ 1 by decide) (by decide) (by decide)⟩ (fun x289 qi290 => ?_)
                  obtain ⟨i290, ei290⟩ := qi290
                  have p291 : In 0 (o0.1 39).toInt (o0.2.1 86) (upd (o0.2.1 92) (x5.toNatClampNeg) (vp_nar .boolean 1)) := by first | exact In_z rfl | exact In_u x_3 (by omega) (by omega) (Or.inl (by decide)) | exact In_u x_3 (by omega) (by omega) (Or.inr (by omega))
                  exact H.2.1 _ _ _ k231 r232 (iv_w (a := 0) (b := 1) (by decide) (by decide) (show (0 : Int) ≤ (0 : Int32).toInt ∧ (0 : Int32).toInt ≤ 0 by decide)) (iv_w (a := 0) (b := 6) (by decide) (by decide) i290) f_o0_0 f_o0_38 f_o0_78 f_o0_95 x_0 x_1 x_2 p291 (show 5000000 + (7 - x289.toInt) < (n : Int) by omega)
                · have wc287 : ¬ x285.toInt = (0 : Int) := c_ne c287
                  have i292 : (1 : Int) ≤ x285.toInt ∧ x285.toInt ≤ 1 := nr_nela c287 i286 (show (0 : Int) ≤ (0 : Int32).toInt ∧ (0 : Int32).toInt ≤ 0 by decide) (by decide) (by decide)
                  try unfold fM_markAll_108
                  try unfold fM_markAll_113
                  refine tt_kv (P := fun z => ((1 : Int) ≤ z.toInt ∧ z.toInt ≤ 6) ∧ z.toInt = v2.toInt + 1) ⟨iv_add i3 (show (1 : Int) ≤ (1 : Int32).toInt ∧ (1 : Int32).toInt ≤ 1 by decide) (by decide) (by decide) (by decide) (by decide), iq_add i3 (show (1 : Int) ≤ (1 : Int32).toInt ∧ (1 : Int32).toInt ≤ 1 by decide) (by decide) (by decide)⟩ (fun x293 qi294 => ?_)
                  obtain ⟨i294, ei294⟩ := qi294
                  have p295 : In 1 (o0.1 39).toInt (o0.2.1 86) (upd (o0.2.1 92) (x5.toNatClampNeg) (vp_nar .boolean 1)) := by first | exact In_z rfl | exact In_u x_3 (by omega) (by omega) (Or.inl (by decide)) | exact In_u x_3 (by omega) (by omega) (Or.inr (by omega))
                  exact H.2.1 _ _ _ k231 r232 (iv_w (a := 0) (b := 1) (by decide) (by decide) (show (1 : Int) ≤ (1 : Int32).toInt ∧ (1 : Int32).toInt ≤ 1 by decide)) (iv_w (a := 0) (b := 6) (by decide) (by decide) i294) f_o0_0 f_o0_38 f_o0_78 f_o0_95 x_0 x_1 x_2 p295 (show 5000000 + (7 - x293.toInt) < (n : Int) by omega)
            · have wc282 : ¬ (0 : Int) = (0 : Int) := c_ne c282
              exact (dd_ne c282 (show (0 : Int) ≤ (0 : Int32).toInt ∧ (0 : Int32).toInt ≤ 0 by decide) (show (0 : Int) ≤ (0 : Int32).toInt ∧ (0 : Int32).toInt ≤ 0 by decide)).elim
set_option maxHeartbeats 4000000 in
set_option maxRecDepth 100000 in
theorem tM_markAll_2 {yo0 : cf_O} {n : Nat} (H : HM_markAll yo0 n) (v1 : Int32) (o0 : cf_O) (k_o0 : okO I_M o0) (r_o0 : Fr (fr_M [] [92] []) yo0 o0) (i_v1 : (0 : Int) ≤ v1.toInt ∧ v1.toInt ≤ 420) (f_o0_0 : (0 : Int) ≤ (o0.1 0).toInt ∧ (o0.1 0).toInt ≤ 0) (f_o0_38 : (1 : Int) ≤ (o0.1 38).toInt ∧ (o0.1 38).toInt ≤ 1) (f_o0_78 : (1 : Int) ≤ (o0.1 78).toInt ∧ (o0.1 78).toInt ≤ 1) (f_o0_95 : (0 : Int) ≤ (o0.1 95).toInt ∧ (o0.1 95).toInt ≤ 0) (x_0 : Mt (o0.2.1 87)) (x_1 : Md (o0.1 39).toInt (o0.2.1 84) (o0.2.1 86) (o0.2.1 87) (o0.2.1 88)) (x_2 : Hl 0 0 (o0.2.1 88) (o0.2.1 86)) (x_3 : Iz0 v1.toInt (o0.2.1 92)) (hm : 6000000 + (421 - v1.toInt) ≤ (n : Int)) : tt (fM_markAll_2 (gM_markAll n) v1 o0) (QM_markAll yo0) := by
  unfold fM_markAll_2
  have g_o0_39 : (0 : Int) ≤ (o0.1 39).toInt ∧ (o0.1 39).toInt ≤ 8 := k_o0.1 39
  have ey_o0_39 : (o0.1 39).toInt = (yo0.1 39).toInt := congrArg Int32.toInt (r_o0.1 39 rfl)
  have t1 := nz_b (o0.2.1 92) 420
  refine tt_if (fun c2 => ?_) (fun c2 => ?_)
  · have wc2 : (420 : Int) ≤ v1.toInt := c_le c2
    have i3 : (420 : Int) ≤ v1.toInt ∧ v1.toInt ≤ 420 := nr_ler c2 (show (420 : Int) ≤ (420 : Int32).toInt ∧ (420 : Int32).toInt ≤ 420 by decide) i_v1 (by decide) (by decide)
    have p4 : In 1 (o0.1 39).toInt (o0.2.1 86) (o0.2.1 92) := by exact In_0 x_3 (by omega)
    exact H.2.1 _ _ _ k_o0 r_o0 (iv_w (a := 0) (b := 1) (by decide) (by decide) (show (1 : Int) ≤ (1 : Int32).toInt ∧ (1 : Int32).toInt ≤ 1 by decide)) (iv_w (a := 0) (b := 6) (by decide) (by decide) (show (0 : Int) ≤ (0 : Int32).toInt ∧ (0 : Int32).toInt ≤ 0 by decide)) f_o0_0 f_o0_38 f_o0_78 f_o0_95 x_0 x_1 x_2 p4 (show 5000000 + (7 - 0) < (n : Int) by omega)
  · have wc2 : v1.toInt < (420 : Int) := c_nle c2
    have i5 : (0 : Int) ≤ v1.toInt ∧ v1.toInt ≤ 419 := nr_nlel c2 i_v1 (show (420 : Int) ≤ (420 : Int32).toInt ∧ (420 : Int32).toInt ≤ 420 by decide) (by decide) (by decide)
    refine tt_n (ix_ok i5 (by decide) (by decide)) ?_
    refine tt_ko ?_
    have k6 := ok_xp (k := 92) (i := v1.toNatClampNeg) (v := (vp_nar .boolean 0)) k_o0 (iv_nz _)
    have r7 := fr_xp (k := 92) (i := v1.toNatClampNeg) (v := (vp_nar .boolean 0)) r_o0 rfl
    have t8 := tn_n v1
    have t9 : ((vp_nar .boolean 0) : Int32).toInt = 0 := (by decide)
    have t10 := nz_w (f := (o0.2.1 92)) (i := v1.toNatClampNeg) (n := 420) (v := (vp_nar .boolean 0))
    refine tt_kv (P := fun z => ((1 : Int) ≤ z.toInt ∧ z.toInt ≤ 420) ∧ z.toInt = v1.toInt + 1) ⟨iv_add i5 (show (1 : Int) ≤ (1 : Int32).toInt ∧ (1 : Int32).toInt ≤ 1 by decide) (by decide) (by decide) (by decide) (by decide), iq_add i5 (show (1 : Int) ≤ (1 : Int32).toInt ∧ (1 : Int32).toInt ≤ 1 by decide) (by decide) (by decide)⟩ (fun x11 qi12 => ?_)
    obtain ⟨i12, ei12⟩ := qi12
    have p13 : Iz0 x11.toInt (upd (o0.2.1 92) (v1.toNatClampNeg) (vp_nar .boolean 0)) := by exact Iz_s x_3 (by omega) (by rw [tn_n]; omega) (by decide)
    exact H.1 _ _ k6 r7 (iv_w (a := 0) (b := 420) (by decide) (by decide) i12) f_o0_0 f_o0_38 f_o0_78 f_o0_95 x_0 x_1 x_2 p13 (show 6000000 + (421 - x11.toInt) < (n : Int) by omega)
set_option maxHeartbeats 4000000 in
set_option maxRecDepth 100000 in
theorem hM_markAll (yo0 : cf_O) : ∀ n, HM_markAll yo0 n := by
  intro n
  induction n with
  | zero => exact ⟨(fun v1 o0 k_o0 r_o0 i_v1 f_o0_0 f_o0_38 f_o0_78 f_o0_95 x_0 x_1 x_2 x_3 hm => by exact absurd (show 6000000 + (421 - v1.toInt) < (0 : Int) from hm) (by have zz := nz_b (o0.2.1 92) 420; omega)), (fun v1 v2 o0 k_o0 r_o0 i_v1 i_v2 f_o0_0 f_o0_38 f_o0_78 f_o0_95 x_0 x_1 x_2 x_3 hm => by exact absurd (show 5000000 + (7 - v2.toInt) < (0 : Int) from hm) (by have zz := nz_b (o0.2.1 92) 420; omega)), (fun v1 v2 o0 k_o0 r_o0 i_v1 i_v2 f_o0_0 f_o0_38 f_o0_78 f_o0_95 x_0 x_1 x_2 x_3 hm => by exact absurd (show (nz (o0.2.1 92) 420 + v2.toInt) * 10000 < (0 : Int) from hm) (by have zz := nz_b (o0.2.1 92) 420; omega)), (fun v1 v2 v3 o0 k_o0 r_o0 i_v1 i_v2 i_v3 f_o0_0 f_o0_38 f_o0_78 f_o0_95 x_0 x_1 x_2 x_3 hm => by exact absurd (show (nz (o0.2.1 92) 420 + v2.toInt) * 10000 + 1 + (v3.toInt + 1) * 20 < (0 : Int) from hm) (by have zz := nz_b (o0.2.1 92) 420; omega)), (fun v1 v2 v3 v4 o0 k_o0 r_o0 i_v1 i_v2 i_v3 i_v4 f_o0_0 f_o0_38 f_o0_78 f_o0_95 x_0 x_1 x_2 x_3 hm => by exact absurd (show (nz (o0.2.1 92) 420 + v2.toInt) * 10000 + 1 + v3.toInt * 20 + 1 + (4 - v4.toInt) * 2 < (0 : Int) from hm) (by have zz := nz_b (o0.2.1 92) 420; omega))⟩
  | succ n ih => exact ⟨(fun v1 o0 k_o0 r_o0 i_v1 f_o0_0 f_o0_38 f_o0_78 f_o0_95 x_0 x_1 x_2 x_3 hm => tM_markAll_2 ih v1 o0 k_o0 r_o0 i_v1 f_o0_0 f_o0_38 f_o0_78 f_o0_95 x_0 x_1 x_2 x_3 (by omega)), (fun v1 v2 o0 k_o0 r_o0 i_v1 i_v2 f_o0_0 f_o0_38 f_o0_78 f_o0_95 x_0 x_1 x_2 x_3 hm => tM_markAll_26 ih v1 v2 o0 k_o0 r_o0 i_v1 i_v2 f_o0_0 f_o0_38 f_o0_78 f_o0_95 x_0 x_1 x_2 x_3 (by omega)), (fun v1 v2 o0 k_o0 r_o0 i_v1 i_v2 f_o0_0 f_o0_38 f_o0_78 f_o0_95 x_0 x_1 x_2 x_3 hm => tM_markAll_122 ih v1 v2 o0 k_o0 r_o0 i_v1 i_v2 f_o0_0 f_o0_38 f_o0_78 f_o0_95 x_0 x_1 x_2 x_3 (by omega)), (fun v1 v2 v3 o0 k_o0 r_o0 i_v1 i_v2 i_v3 f_o0_0 f_o0_38 f_o0_78 f_o0_95 x_0 x_1 x_2 x_3 hm => tM_markAll_132 ih v1 v2 v3 o0 k_o0 r_o0 i_v1 i_v2 i_v3 f_o0_0 f_o0_38 f_o0_78 f_o0_95 x_0 x_1 x_2 x_3 (by omega)), (fun v1 v2 v3 v4 o0 k_o0 r_o0 i_v1 i_v2 i_v3 i_v4 f_o0_0 f_o0_38 f_o0_78 f_o0_95 x_0 x_1 x_2 x_3 hm => tM_markAll_139 ih v1 v2 v3 v4 o0 k_o0 r_o0 i_v1 i_v2 i_v3 i_v4 f_o0_0 f_o0_38 f_o0_78 f_o0_95 x_0 x_1 x_2 x_3 (by omega))⟩
set_option maxHeartbeats 4000000 in
set_option maxRecDepth 100000 in
theorem sM_markAll (o0 : cf_O) (k_o0 : okO I_M o0) (f_o0_0 : (0 : Int) ≤ (o0.1 0).toInt ∧ (o0.1 0).toInt ≤ 0) (f_o0_36 : (0 : Int) ≤ (o0.1 36).toInt ∧ (o0.1 36).toInt ≤ 1) (f_o0_38 : (1 : Int) ≤ (o0.1 38).toInt ∧ (o0.1 38).toInt ≤ 1) (f_o0_78 : (1 : Int) ≤ (o0.1 78).toInt ∧ (o0.1 78).toInt ≤ 1) (f_o0_95 : (0 : Int) ≤ (o0.1 95).toInt ∧ (o0.1 95).toInt ≤ 0) (x_0 : Mt (o0.2.1 87)) (x_1 : Md (o0.1 39).toInt (o0.2.1 84) (o0.2.1 86) (o0.2.1 87) (o0.2.1 88)) (x_2 : Hl 0 0 (o0.2.1 88) (o0.2.1 86)) : tt (fM_markAll o0) (QM_markAll o0) := by
  have H := hM_markAll o0 cfFU
  have hm : (7000000 : Int) ≤ (cfFU : Nat) := by decide
  have r_o0 : Fr (fr_M [] [92] []) o0 o0 := fr_rfl
  unfold fM_markAll fM_markAll_0
  have g_o0_39 : (0 : Int) ≤ (o0.1 39).toInt ∧ (o0.1 39).toInt ≤ 8 := k_o0.1 39
  have p1 : Iz0 0 (o0.2.1 92) := by exact Iz_0 _
  exact H.1 _ _ k_o0 r_o0 (iv_w (a := 0) (b := 420) (by decide) (by decide) (show (0 : Int) ≤ (0 : Int32).toInt ∧ (0 : Int32).toInt ≤ 0 by decide)) f_o0_0 f_o0_38 f_o0_78 f_o0_95 x_0 x_1 x_2 p1 (show 6000000 + (421 - 0) < ((cfFU : Nat) : Int) by omega)
