def QM_join (v1 : Int32) (v2 : Int32) (o0 : cf_O) (r : (Int32 × cf_O)) : Prop := ((0 : Int) ≤ r.1.toInt ∧ r.1.toInt ≤ 11) ∧ (okO I_M r.2) ∧ (Fr (fr_M [] [61] []) o0 r.2) ∧ (Jn r.1 (r.2.2.1 61)) ∧ (Ju r.1.toInt v1 v2 (r.2.2.1 61) (o0.2.1 59) (o0.2.1 58)) ∧ (Jr r.1.toInt v1 v2 (o0.2.1 59) (o0.2.1 58)) ∧ (Mp2 r.1.toInt v1.toNatClampNeg v2.toNatClampNeg (r.2.2.1 61) (o0.2.1 59) (o0.2.1 58)) ∧ True
def HM_join (yv1 : Int32) (yv2 : Int32) (yo0 : cf_O) (n : Nat) : Prop := (∀ (v1 : Int32) (v2 : Int32) (v3 : Int32) (v4 : Int32) (v5 : Int32) (o0 : cf_O), (okO I_M o0) → (Fr (fr_M [] [61] []) yo0 o0) → ((0 : Int) ≤ v1.toInt ∧ v1.toInt ≤ 63209) → ((0 : Int) ≤ v2.toInt ∧ v2.toInt ≤ 63209) → ((0 : Int) ≤ v5.toInt ∧ v5.toInt ≤ 11) → ((0 : Int) ≤ (o0.1 0).toInt ∧ (o0.1 0).toInt ≤ 2) → ((0 : Int) ≤ (o0.1 36).toInt ∧ (o0.1 36).toInt ≤ 0) → ((1 : Int) ≤ (o0.1 38).toInt ∧ (o0.1 38).toInt ≤ 1) → ((1 : Int) ≤ (o0.1 43).toInt ∧ (o0.1 43).toInt ≤ 200) → ((0 : Int) ≤ (o0.1 95).toInt ∧ (o0.1 95).toInt ≤ 0) → (0 ≤ v3.toInt) → (v3.toInt ≤ (o0.2.1 59 v1.toNatClampNeg).toInt) → (0 ≤ v4.toInt) → (v4.toInt ≤ (o0.2.1 59 v2.toNatClampNeg).toInt) → (0 ≤ v5.toInt) → (v5.toInt ≤ v3.toInt + v4.toInt) → (Cn (o0.2.1 59) (o0.2.1 58)) → (Jn v5 (o0.2.1 61)) → (Ju v5.toInt v1 v2 (o0.2.1 61) (o0.2.1 59) (o0.2.1 58)) → (Jq v5.toInt v3.toInt v4.toInt v1 v2 (o0.2.1 59) (o0.2.1 58)) → (v1.toInt = yv1.toInt) → (v2.toInt = yv2.toInt) → (Mj v5.toInt v3.toInt v4.toInt v1.toNatClampNeg v2.toNatClampNeg (o0.2.1 61) (o0.2.1 59) (o0.2.1 58)) → 0 + (11 - v5.toInt) * 2 < (n : Int) → tt (gM_join n 0 v1 v2 v3 v4 v5 o0) (QM_join yv1 yv2 yo0))
set_option maxHeartbeats 4000000 in
set_option maxRecDepth 100000 in
theorem tM_join_8 {yv1 : Int32} {yv2 : Int32} {yo0 : cf_O} {n : Nat} (H : HM_join yv1 yv2 yo0 n) (v1 : Int32) (v2 : Int32) (v3 : Int32) (v4 : Int32) (v5 : Int32) (o0 : cf_O) (k_o0 : okO I_M o0) (r_o0 : Fr (fr_M [] [61] []) yo0 o0) (i_v1 : (0 : Int) ≤ v1.toInt ∧ v1.toInt ≤ 63209) (i_v2 : (0 : Int) ≤ v2.toInt ∧ v2.toInt ≤ 63209) (i_v5 : (0 : Int) ≤ v5.toInt ∧ v5.toInt ≤ 11) (f_o0_0 : (0 : Int) ≤ (o0.1 0).toInt ∧ (o0.1 0).toInt ≤ 2) (f_o0_36 : (0 : Int) ≤ (o0.1 36).toInt ∧ (o0.1 36).toInt ≤ 0) (f_o0_38 : (1 : Int) ≤ (o0.1 38).toInt ∧ (o0.1 38).toInt ≤ 1) (f_o0_43 : (1 : Int) ≤ (o0.1 43).toInt ∧ (o0.1 43).toInt ≤ 200) (f_o0_95 : (0 : Int) ≤ (o0.1 95).toInt ∧ (o0.1 95).toInt ≤ 0) (x_0 : 0 ≤ v3.toInt) (x_1 : v3.toInt ≤ (o0.2.1 59 v1.toNatClampNeg).toInt) (x_2 : 0 ≤ v4.toInt) (x_3 : v4.toInt ≤ (o0.2.1 59 v2.toNatClampNeg).toInt) (x_4 : 0 ≤ v5.toInt) (x_5 : v5.toInt ≤ v3.toInt + v4.toInt) (x_6 : Cn (o0.2.1 59) (o0.2.1 58)) (x_7 : Jn v5 (o0.2.1 61)) (x_8 : Ju v5.toInt v1 v2 (o0.2.1 61) (o0.2.1 59) (o0.2.1 58)) (x_9 : Jq v5.toInt v3.toInt v4.toInt v1 v2 (o0.2.1 59) (o0.2.1 58)) (x_10 : v1.toInt = yv1.toInt) (x_11 : v2.toInt = yv2.toInt) (x_12 : Mj v5.toInt v3.toInt v4.toInt v1.toNatClampNeg v2.toNatClampNeg (o0.2.1 61) (o0.2.1 59) (o0.2.1 58)) (hm : 0 + (11 - v5.toInt) * 2 ≤ (n : Int)) : tt (fM_join_8 (gM_join n) v1 v2 v3 v4 v5 o0) (QM_join yv1 yv2 yo0) := by
  unfold fM_join_8
  have i_v3 := iv_top v3
  have i_v4 := iv_top v4
  have t1 := tn_p (x := v1) (by omega)
  have t2 := tn_p (x := v2) (by omega)
  have t3 := tn_p (x := v3) (by omega)
  have t4 := tn_p (x := v4) (by omega)
  refine tt_n (ix_ok i_v1 (by decide) (by decide)) ?_
  refine tt_kv (P := fun z => ((0 : Int) ≤ z.toInt ∧ z.toInt ≤ 5) ∧ z.toInt = (o0.2.1 59 v1.toNatClampNeg).toInt) ⟨(k_o0.2 59 _), rfl⟩ (fun x5 qi6 => ?_)
  obtain ⟨i6, ei6⟩ := qi6
  refine tt_if (fun c7 => ?_) (fun c7 => ?_)
  · have wc7 : v3.toInt < x5.toInt := c_lt c7
    have i8 : ((-2147483648) : Int) ≤ v3.toInt ∧ v3.toInt ≤ 4 := nr_ltl c7 (iv_top v3) i6 (by decide) (by decide)
    try unfold fM_join_29
    refine tt_n (ix_ok i_v1 (by decide) (by decide)) ?_
    refine tt_kv (P := fun z => ((0 : Int) ≤ z.toInt ∧ z.toInt ≤ 5) ∧ z.toInt = (o0.2.1 59 v1.toNatClampNeg).toInt) ⟨(k_o0.2 59 _), rfl⟩ (fun x9 qi10 => ?_)
    obtain ⟨i10, ei10⟩ := qi10
    refine tt_if (fun c11 => ?_) (fun c11 => ?_)
    · have wc11 : x9.toInt ≤ v3.toInt := c_le c11
      have i12 : (0 : Int) ≤ x9.toInt ∧ x9.toInt ≤ 4 := nr_lel c11 i10 i8 (by decide) (by decide)
      have i13 : (0 : Int) ≤ v3.toInt ∧ v3.toInt ≤ 4 := nr_ler c11 i10 i8 (by decide) (by decide)
      try unfold fM_join_55
      refine tt_n (ix_ok i_v2 (by decide) (by decide)) ?_
      refine tt_kv (P := fun z => ((0 : Int) ≤ z.toInt ∧ z.toInt ≤ 5) ∧ z.toInt = (o0.2.1 59 v2.toNatClampNeg).toInt) ⟨(k_o0.2 59 _), rfl⟩ (fun x14 qi15 => ?_)
      obtain ⟨i15, ei15⟩ := qi15
      refine tt_if (fun c16 => ?_) (fun c16 => ?_)
      · have wc16 : x14.toInt ≤ v4.toInt := c_le c16
        have i17 : (0 : Int) ≤ v4.toInt ∧ v4.toInt ≤ 2147483647 := nr_ler c16 i15 (iv_top v4) (by decide) (by decide)
        try unfold fM_join_85
        refine tt_if (fun c18 => ?_) (fun c18 => ?_)
        · have wc18 : (999 : Int) ≤ (999 : Int) := c_le c18
          try unfold fM_join_107
          refine tt_n (ix_rel (by omega) (by omega)) ?_
          have i19 : (0 : Int) ≤ v5.toInt ∧ v5.toInt ≤ 10 := (by omega)
          refine tt_ko ?_
          have k20 := ok_xp (k := 61) (i := v5.toNatClampNeg) (v := 999) k_o0 (show (0 : Int) ≤ _ ∧ _ ≤ (208 : Int) by omega)
          have r21 := fr_xp (k := 61) (i := v5.toNatClampNeg) (v := 999) r_o0 rfl
          refine tt_kv (P := fun z => ((1 : Int) ≤ z.toInt ∧ z.toInt ≤ 11) ∧ z.toInt = v5.toInt + 1) ⟨iv_add i19 (show (1 : Int) ≤ (1 : Int32).toInt ∧ (1 : Int32).toInt ≤ 1 by decide) (by decide) (by decide) (by decide) (by decide), iq_add i19 (show (1 : Int) ≤ (1 : Int32).toInt ∧ (1 : Int32).toInt ≤ 1 by decide) (by decide) (by decide)⟩ (fun x22 qi23 => ?_)
          obtain ⟨i23, ei23⟩ := qi23
          refine tt_if (fun c24 => ?_) (fun c24 => ?_)
          · have wc24 : (999 : Int) < (999 : Int) := c_lt c24
            exact (dd_lt c24 (show (999 : Int) ≤ (999 : Int32).toInt ∧ (999 : Int32).toInt ≤ 999 by decide) (show (999 : Int) ≤ (999 : Int32).toInt ∧ (999 : Int32).toInt ≤ 999 by decide) (by decide)).elim
          · have wc24 : (999 : Int) ≤ (999 : Int) := c_nlt c24
            refine tt_kv (P := fun z => ((1 : Int) ≤ z.toInt ∧ z.toInt ≤ 5) ∧ z.toInt = v3.toInt + 1) ⟨iv_add i13 (show (1 : Int) ≤ (1 : Int32).toInt ∧ (1 : Int32).toInt ≤ 1 by decide) (by decide) (by decide) (by decide) (by decide), iq_add i13 (show (1 : Int) ≤ (1 : Int32).toInt ∧ (1 : Int32).toInt ≤ 1 by decide) (by decide) (by decide)⟩ (fun x25 qi26 => ?_)
            obtain ⟨i26, ei26⟩ := qi26
            try unfold fM_join_125
            refine tt_if (fun c27 => ?_) (fun c27 => ?_)
            · have wc27 : (999 : Int) < (999 : Int) := c_lt c27
              exact (dd_lt c27 (show (999 : Int) ≤ (999 : Int32).toInt ∧ (999 : Int32).toInt ≤ 999 by decide) (show (999 : Int) ≤ (999 : Int32).toInt ∧ (999 : Int32).toInt ≤ 999 by decide) (by decide)).elim
            · have wc27 : (999 : Int) ≤ (999 : Int) := c_nlt c27
              refine tt_kv (P := fun z => ((-2147483648) : Int) ≤ z.toInt ∧ z.toInt ≤ 2147483647) (iv_top _) (fun x28 i29 => ?_)
              try unfold fM_join_142
              have t30 : (0 : Int) ≤ (o0.2.1 59 v1.toNatClampNeg).toInt ∧ (o0.2.1 59 v1.toNatClampNeg).toInt ≤ 5 := k20.2 59 _
              have t31 : (0 : Int) ≤ (o0.2.1 59 v2.toNatClampNeg).toInt ∧ (o0.2.1 59 v2.toNatClampNeg).toInt ≤ 5 := k20.2 59 _
              have p32 : Jn x22 (upd (o0.2.1 61) (v5.toNatClampNeg) 999) := by exact Jn_s x_7 (by omega) (by rw [tn_n]; omega) (by omega)
              have p33 : Ju x22.toInt v1 v2 (upd (o0.2.1 61) (v5.toNatClampNeg) 999) (o0.2.1 59) (o0.2.1 58) := by first | exact Ju_l x_8 jx (by omega) (by rw [tn_n]; omega) (by omega) | exact Ju_r x_8 jy (by omega) (by rw [tn_n]; omega) (by omega) | (exfalso; omega)
              have p34 : Jq x22.toInt x25.toInt x28.toInt v1 v2 (o0.2.1 59) (o0.2.1 58) := by first | exact Jq_1 x_9 (by omega) (by omega) | exact Jq_2 (n := v5.toInt) (u := v3.toInt) (w := v4.toInt) jx jy (by omega) (by omega) (by omega) | (exfalso; omega)
              have p35 : Mj x22.toInt x25.toInt x28.toInt v1.toNatClampNeg v2.toNatClampNeg (upd (o0.2.1 61) (v5.toNatClampNeg) 999) (o0.2.1 59) (o0.2.1 58) := by first | exact Mj_l0 x_12 jx (by omega) (by omega) (by rw [tn_n]; omega) (by omega) (by omega) (by omega) (by omega) | exact Mj_r0 x_12 jy (by omega) (by omega) (by rw [tn_n]; omega) (by omega) (by omega) (by omega) (by omega) | exact Mj_l1 x_12 jx jy (by omega) (by omega) (by omega) (by omega) (by rw [tn_n]; omega) (by omega) (by omega) (by omega) (by omega) | exact Mj_r1 x_12 jx jy (by omega) (by omega) (by omega) (by omega) (by rw [tn_n]; omega) (by omega) (by omega) (by omega) (by omega) | exact Mj_b x_12 jx jy (by omega) (by omega) (by omega) (by omega) (by rw [tn_n]; omega) (by omega) (by omega) (by omega) (by omega) | (exfalso; omega)
              exact H _ _ _ _ _ _ k20 r21 i_v1 i_v2 (iv_w (a := 0) (b := 11) (by decide) (by decide) i23) f_o0_0 f_o0_36 f_o0_38 f_o0_43 f_o0_95 (show 0 ≤ x25.toInt by omega) (show x25.toInt ≤ (o0.2.1 59 v1.toNatClampNeg).toInt by omega) (show 0 ≤ x28.toInt by omega) (show x28.toInt ≤ (o0.2.1 59 v2.toNatClampNeg).toInt by omega) (show 0 ≤ x22.toInt by omega) (show x22.toInt ≤ x25.toInt + x28.toInt by omega) x_6 p32 p33 p34 (show v1.toInt = yv1.toInt by omega) (show v2.toInt = yv2.toInt by omega) p35 (show 0 + (11 - x22.toInt) * 2 < (n : Int) by omega)
        · have wc18 : (999 : Int) < (999 : Int) := c_nle c18
          exact (dd_nle c18 (show (999 : Int) ≤ (999 : Int32).toInt ∧ (999 : Int32).toInt ≤ 999 by decide) (show (999 : Int) ≤ (999 : Int32).toInt ∧ (999 : Int32).toInt ≤ 999 by decide) (by decide)).elim
      · have wc16 : v4.toInt < x14.toInt := c_nle c16
        have i36 : ((-2147483648) : Int) ≤ v4.toInt ∧ v4.toInt ≤ 4 := nr_nlel c16 (iv_top v4) i15 (by decide) (by decide)
        refine tt_kv (P := fun z => ((0 : Int) ≤ z.toInt ∧ z.toInt ≤ 316045) ∧ z.toInt = 5 * v2.toInt) ⟨iv_mul (show (5 : Int) ≤ (5 : Int32).toInt ∧ (5 : Int32).toInt ≤ 5 by decide) i_v2 (by decide) (by decide) (by decide) (by decide) (by decide), iq_mul (show (5 : Int) ≤ (5 : Int32).toInt ∧ (5 : Int32).toInt ≤ 5 by decide) i_v2 (by decide) (by decide) (by decide) (by decide)⟩ (fun x37 qi38 => ?_)
        obtain ⟨i38, ei38⟩ := qi38
        refine tt_kv (P := fun z => (((-2147483648) : Int) ≤ z.toInt ∧ z.toInt ≤ 316049) ∧ z.toInt = x37.toInt + v4.toInt) ⟨iv_add i38 i36 (by decide) (by decide) (by decide) (by decide), iq_add i38 i36 (by decide) (by decide)⟩ (fun x39 qi40 => ?_)
        obtain ⟨i40, ei40⟩ := qi40
        refine tt_n (ix_rel (by omega) (by omega)) ?_
        have i41 : (0 : Int) ≤ x39.toInt ∧ x39.toInt ≤ 316049 := (by omega)
        refine tt_kv (P := fun z => ((0 : Int) ≤ z.toInt ∧ z.toInt ≤ 208) ∧ z.toInt = (o0.2.1 58 x39.toNatClampNeg).toInt) ⟨(k_o0.2 58 _), rfl⟩ (fun x42 qi43 => ?_)
        obtain ⟨i43, ei43⟩ := qi43
        have jy : x42.toInt = (o0.2.1 58 (5 * v2.toNatClampNeg + v4.toNatClampNeg)).toInt := ix_e ei43 (by rw [← Int.ofNat_inj]; rw [tn_n, Int.natCast_add, Int.natCast_mul]; omega)
        have t44 := tn_n x39
        have t45 := x_6 v1.toNatClampNeg v3.toNatClampNeg (x39.toNatClampNeg)
        have t46 := x_6 v2.toNatClampNeg v4.toNatClampNeg (x39.toNatClampNeg)
        try unfold fM_join_85
        refine tt_if (fun c47 => ?_) (fun c47 => ?_)
        · have wc47 : x42.toInt ≤ (999 : Int) := c_le c47
          try unfold fM_join_107
          refine tt_n (ix_rel (by omega) (by omega)) ?_
          have i48 : (0 : Int) ≤ v5.toInt ∧ v5.toInt ≤ 10 := (by omega)
          refine tt_ko ?_
          have k49 := ok_xp (k := 61) (i := v5.toNatClampNeg) (v := x42) k_o0 i43
          have r50 := fr_xp (k := 61) (i := v5.toNatClampNeg) (v := x42) r_o0 rfl
          refine tt_kv (P := fun z => ((1 : Int) ≤ z.toInt ∧ z.toInt ≤ 11) ∧ z.toInt = v5.toInt + 1) ⟨iv_add i48 (show (1 : Int) ≤ (1 : Int32).toInt ∧ (1 : Int32).toInt ≤ 1 by decide) (by decide) (by decide) (by decide) (by decide), iq_add i48 (show (1 : Int) ≤ (1 : Int32).toInt ∧ (1 : Int32).toInt ≤ 1 by decide) (by decide) (by decide)⟩ (fun x51 qi52 => ?_)
          obtain ⟨i52, ei52⟩ := qi52
          refine tt_if (fun c53 => ?_) (fun c53 => ?_)
          · have wc53 : x42.toInt < (999 : Int) := c_lt c53
            try unfold fM_join_125
            refine tt_if (fun c54 => ?_) (fun c54 => ?_)
            · have wc54 : (999 : Int) < x42.toInt := c_lt c54
              exact (dd_lt c54 (show (999 : Int) ≤ (999 : Int32).toInt ∧ (999 : Int32).toInt ≤ 999 by decide) i43 (by decide)).elim
            · have wc54 : x42.toInt ≤ (999 : Int) := c_nlt c54
              refine tt_kv (P := fun z => (((-2147483647) : Int) ≤ z.toInt ∧ z.toInt ≤ 5) ∧ z.toInt = v4.toInt + 1) ⟨iv_add i36 (show (1 : Int) ≤ (1 : Int32).toInt ∧ (1 : Int32).toInt ≤ 1 by decide) (by decide) (by decide) (by decide) (by decide), iq_add i36 (show (1 : Int) ≤ (1 : Int32).toInt ∧ (1 : Int32).toInt ≤ 1 by decide) (by decide) (by decide)⟩ (fun x55 qi56 => ?_)
              obtain ⟨i56, ei56⟩ := qi56
              try unfold fM_join_142
              have t57 : (0 : Int) ≤ (o0.2.1 59 v1.toNatClampNeg).toInt ∧ (o0.2.1 59 v1.toNatClampNeg).toInt ≤ 5 := k49.2 59 _
              have t58 : (0 : Int) ≤ (o0.2.1 59 v2.toNatClampNeg).toInt ∧ (o0.2.1 59 v2.toNatClampNeg).toInt ≤ 5 := k49.2 59 _
              have p59 : Jn x51 (upd (o0.2.1 61) (v5.toNatClampNeg) x42) := by exact Jn_s x_7 (by omega) (by rw [tn_n]; omega) (by omega)
              have p60 : Ju x51.toInt v1 v2 (upd (o0.2.1 61) (v5.toNatClampNeg) x42) (o0.2.1 59) (o0.2.1 58) := by first | exact Ju_l x_8 jx (by omega) (by rw [tn_n]; omega) (by omega) | exact Ju_r x_8 jy (by omega) (by rw [tn_n]; omega) (by omega) | (exfalso; omega)
              have p61 : Jq x51.toInt v3.toInt x55.toInt v1 v2 (o0.2.1 59) (o0.2.1 58) := by first | exact Jq_1 x_9 (by omega) (by omega) | exact Jq_2 (n := v5.toInt) (u := v3.toInt) (w := v4.toInt) jx jy (by omega) (by omega) (by omega) | (exfalso; omega)
              have p62 : Mj x51.toInt v3.toInt x55.toInt v1.toNatClampNeg v2.toNatClampNeg (upd (o0.2.1 61) (v5.toNatClampNeg) x42) (o0.2.1 59) (o0.2.1 58) := by first | exact Mj_l0 x_12 jx (by omega) (by omega) (by rw [tn_n]; omega) (by omega) (by omega) (by omega) (by omega) | exact Mj_r0 x_12 jy (by omega) (by omega) (by rw [tn_n]; omega) (by omega) (by omega) (by omega) (by omega) | exact Mj_l1 x_12 jx jy (by omega) (by omega) (by omega) (by omega) (by rw [tn_n]; omega) (by omega) (by omega) (by omega) (by omega) | exact Mj_r1 x_12 jx jy (by omega) (by omega) (by omega) (by omega) (by rw [tn_n]; omega) (by omega) (by omega) (by omega) (by omega) | exact Mj_b x_12 jx jy (by omega) (by omega) (by omega) (by omega) (by rw [tn_n]; omega) (by omega) (by omega) (by omega) (by omega) | (exfalso; omega)
              exact H _ _ _ _ _ _ k49 r50 i_v1 i_v2 (iv_w (a := 0) (b := 11) (by decide) (by decide) i52) f_o0_0 f_o0_36 f_o0_38 f_o0_43 f_o0_95 (show 0 ≤ v3.toInt by omega) (show v3.toInt ≤ (o0.2.1 59 v1.toNatClampNeg).toInt by omega) (show 0 ≤ x55.toInt by omega) (show x55.toInt ≤ (o0.2.1 59 v2.toNatClampNeg).toInt by omega) (show 0 ≤ x51.toInt by omega) (show x51.toInt ≤ v3.toInt + x55.toInt by omega) x_6 p59 p60 p61 (show v1.toInt = yv1.toInt by omega) (show v2.toInt = yv2.toInt by omega) p62 (show 0 + (11 - x51.toInt) * 2 < (n : Int) by omega)
          · have wc53 : (999 : Int) ≤ x42.toInt := c_nlt c53
            exact (dd_nlt c53 (show (999 : Int) ≤ (999 : Int32).toInt ∧ (999 : Int32).toInt ≤ 999 by decide) i43 (by decide)).elim
        · have wc47 : (999 : Int) < x42.toInt := c_nle c47
          exact (dd_nle c47 (show (999 : Int) ≤ (999 : Int32).toInt ∧ (999 : Int32).toInt ≤ 999 by decide) i43 (by decide)).elim
    · have wc11 : v3.toInt < x9.toInt := c_nle c11
      refine tt_kv (P := fun z => ((0 : Int) ≤ z.toInt ∧ z.toInt ≤ 316045) ∧ z.toInt = 5 * v1.toInt) ⟨iv_mul (show (5 : Int) ≤ (5 : Int32).toInt ∧ (5 : Int32).toInt ≤ 5 by decide) i_v1 (by decide) (by decide) (by decide) (by decide) (by decide), iq_mul (show (5 : Int) ≤ (5 : Int32).toInt ∧ (5 : Int32).toInt ≤ 5 by decide) i_v1 (by decide) (by decide) (by decide) (by decide)⟩ (fun x63 qi64 => ?_)
      obtain ⟨i64, ei64⟩ := qi64
      refine tt_kv (P := fun z => (((-2147483648) : Int) ≤ z.toInt ∧ z.toInt ≤ 316049) ∧ z.toInt = x63.toInt + v3.toInt) ⟨iv_add i64 i8 (by decide) (by decide) (by decide) (by decide), iq_add i64 i8 (by decide) (by decide)⟩ (fun x65 qi66 => ?_)
      obtain ⟨i66, ei66⟩ := qi66
      refine tt_n (ix_rel (by omega) (by omega)) ?_
      have i67 : (0 : Int) ≤ x65.toInt ∧ x65.toInt ≤ 316049 := (by omega)
      refine tt_kv (P := fun z => ((0 : Int) ≤ z.toInt ∧ z.toInt ≤ 208) ∧ z.toInt = (o0.2.1 58 x65.toNatClampNeg).toInt) ⟨(k_o0.2 58 _), rfl⟩ (fun x68 qi69 => ?_)
      obtain ⟨i69, ei69⟩ := qi69
      have jx : x68.toInt = (o0.2.1 58 (5 * v1.toNatClampNeg + v3.toNatClampNeg)).toInt := ix_e ei69 (by rw [← Int.ofNat_inj]; rw [tn_n, Int.natCast_add, Int.natCast_mul]; omega)
      have t70 := tn_n x65
      have t71 := x_6 v1.toNatClampNeg v3.toNatClampNeg (x65.toNatClampNeg)
      have t72 := x_6 v2.toNatClampNeg v4.toNatClampNeg (x65.toNatClampNeg)
      try unfold fM_join_55
      refine tt_n (ix_ok i_v2 (by decide) (by decide)) ?_
      refine tt_kv (P := fun z => ((0 : Int) ≤ z.toInt ∧ z.toInt ≤ 5) ∧ z.toInt = (o0.2.1 59 v2.toNatClampNeg).toInt) ⟨(k_o0.2 59 _), rfl⟩ (fun x73 qi74 => ?_)
      obtain ⟨i74, ei74⟩ := qi74
      refine tt_if (fun c75 => ?_) (fun c75 => ?_)
      · have wc75 : x73.toInt ≤ v4.toInt := c_le c75
        have i76 : (0 : Int) ≤ v4.toInt ∧ v4.toInt ≤ 2147483647 := nr_ler c75 i74 (iv_top v4) (by decide) (by decide)
        try unfold fM_join_85
        refine tt_if (fun c77 => ?_) (fun c77 => ?_)
        · have wc77 : (999 : Int) ≤ x68.toInt := c_le c77
          exact (dd_le c77 (show (999 : Int) ≤ (999 : Int32).toInt ∧ (999 : Int32).toInt ≤ 999 by decide) i69 (by decide)).elim
        · have wc77 : x68.toInt < (999 : Int) := c_nle c77
          try unfold fM_join_107
          refine tt_n (ix_rel (by omega) (by omega)) ?_
          have i78 : (0 : Int) ≤ v5.toInt ∧ v5.toInt ≤ 10 := (by omega)
          refine tt_ko ?_
          have k79 := ok_xp (k := 61) (i := v5.toNatClampNeg) (v := x68) k_o0 i69
          have r80 := fr_xp (k := 61) (i := v5.toNatClampNeg) (v := x68) r_o0 rfl
          refine tt_kv (P := fun z => ((1 : Int) ≤ z.toInt ∧ z.toInt ≤ 11) ∧ z.toInt = v5.toInt + 1) ⟨iv_add i78 (show (1 : Int) ≤ (1 : Int32).toInt ∧ (1 : Int32).toInt ≤ 1 by decide) (by decide) (by decide) (by decide) (by decide), iq_add i78 (show (1 : Int) ≤ (1 : Int32).toInt ∧ (1 : Int32).toInt ≤ 1 by decide) (by decide) (by decide)⟩ (fun x81 qi82 => ?_)
          obtain ⟨i82, ei82⟩ := qi82
          refine tt_if (fun c83 => ?_) (fun c83 => ?_)
          · have wc83 : (999 : Int) < x68.toInt := c_lt c83
            exact (dd_lt c83 (show (999 : Int) ≤ (999 : Int32).toInt ∧ (999 : Int32).toInt ≤ 999 by decide) i69 (by decide)).elim
          · have wc83 : x68.toInt ≤ (999 : Int) := c_nlt c83
            refine tt_kv (P := fun z => (((-2147483647) : Int) ≤ z.toInt ∧ z.toInt ≤ 5) ∧ z.toInt = v3.toInt + 1) ⟨iv_add i8 (show (1 : Int) ≤ (1 : Int32).toInt ∧ (1 : Int32).toInt ≤ 1 by decide) (by decide) (by decide) (by decide) (by decide), iq_add i8 (show (1 : Int) ≤ (1 : Int32).toInt ∧ (1 : Int32).toInt ≤ 1 by decide) (by decide) (by decide)⟩ (fun x84 qi85 => ?_)
            obtain ⟨i85, ei85⟩ := qi85
            try unfold fM_join_125
            refine tt_if (fun c86 => ?_) (fun c86 => ?_)
            · have wc86 : x68.toInt < (999 : Int) := c_lt c86
              try unfold fM_join_142
              have t87 : (0 : Int) ≤ (o0.2.1 59 v1.toNatClampNeg).toInt ∧ (o0.2.1 59 v1.toNatClampNeg).toInt ≤ 5 := k79.2 59 _
              have t88 : (0 : Int) ≤ (o0.2.1 59 v2.toNatClampNeg).toInt ∧ (o0.2.1 59 v2.toNatClampNeg).toInt ≤ 5 := k79.2 59 _
              have p89 : Jn x81 (upd (o0.2.1 61) (v5.toNatClampNeg) x68) := by exact Jn_s x_7 (by omega) (by rw [tn_n]; omega) (by omega)
              have p90 : Ju x81.toInt v1 v2 (upd (o0.2.1 61) (v5.toNatClampNeg) x68) (o0.2.1 59) (o0.2.1 58) := by first | exact Ju_l x_8 jx (by omega) (by rw [tn_n]; omega) (by omega) | exact Ju_r x_8 jy (by omega) (by rw [tn_n]; omega) (by omega) | (exfalso; omega)
              have p91 : Jq x81.toInt x84.toInt v4.toInt v1 v2 (o0.2.1 59) (o0.2.1 58) := by first | exact Jq_1 x_9 (by omega) (by omega) | exact Jq_2 (n := v5.toInt) (u := v3.toInt) (w := v4.toInt) jx jy (by omega) (by omega) (by omega) | (exfalso; omega)
              have p92 : Mj x81.toInt x84.toInt v4.toInt v1.toNatClampNeg v2.toNatClampNeg (upd (o0.2.1 61) (v5.toNatClampNeg) x68) (o0.2.1 59) (o0.2.1 58) := by first | exact Mj_l0 x_12 jx (by omega) (by omega) (by rw [tn_n]; omega) (by omega) (by omega) (by omega) (by omega) | exact Mj_r0 x_12 jy (by omega) (by omega) (by rw [tn_n]; omega) (by omega) (by omega) (by omega) (by omega) | exact Mj_l1 x_12 jx jy (by omega) (by omega) (by omega) (by omega) (by rw [tn_n]; omega) (by omega) (by omega) (by omega) (by omega) | exact Mj_r1 x_12 jx jy (by omega) (by omega) (by omega) (by omega) (by rw [tn_n]; omega) (by omega) (by omega) (by omega) (by omega) | exact Mj_b x_12 jx jy (by omega) (by omega) (by omega) (by omega) (by rw [tn_n]; omega) (by omega) (by omega) (by omega) (by omega) | (exfalso; omega)
              exact H _ _ _ _ _ _ k79 r80 i_v1 i_v2 (iv_w (a := 0) (b := 11) (by decide) (by decide) i82) f_o0_0 f_o0_36 f_o0_38 f_o0_43 f_o0_95 (show 0 ≤ x84.toInt by omega) (show x84.toInt ≤ (o0.2.1 59 v1.toNatClampNeg).toInt by omega) (show 0 ≤ v4.toInt by omega) (show v4.toInt ≤ (o0.2.1 59 v2.toNatClampNeg).toInt by omega) (show 0 ≤ x81.toInt by omega) (show x81.toInt ≤ x84.toInt + v4.toInt by omega) x_6 p89 p90 p91 (show v1.toInt = yv1.toInt by omega) (show v2.toInt = yv2.toInt by omega) p92 (show 0 + (11 - x81.toInt) * 2 < (n : Int) by omega)
            · have wc86 : (999 : Int) ≤ x68.toInt := c_nlt c86
              exact (dd_nlt c86 (show (999 : Int) ≤ (999 : Int32).toInt ∧ (999 : Int32).toInt ≤ 999 by decide) i69 (by decide)).elim
      · have wc75 : v4.toInt < x73.toInt := c_nle c75
        have i93 : ((-2147483648) : Int) ≤ v4.toInt ∧ v4.toInt ≤ 4 := nr_nlel c75 (iv_top v4) i74 (by decide) (by decide)
        refine tt_kv (P := fun z => ((0 : Int) ≤ z.toInt ∧ z.toInt ≤ 316045) ∧ z.toInt = 5 * v2.toInt) ⟨iv_mul (show (5 : Int) ≤ (5 : Int32).toInt ∧ (5 : Int32).toInt ≤ 5 by decide) i_v2 (by decide) (by decide) (by decide) (by decide) (by decide), iq_mul (show (5 : Int) ≤ (5 : Int32).toInt ∧ (5 : Int32).toInt ≤ 5 by decide) i_v2 (by decide) (by decide) (by decide) (by decide)⟩ (fun x94 qi95 => ?_)
        obtain ⟨i95, ei95⟩ := qi95
        refine tt_kv (P := fun z => (((-2147483648) : Int) ≤ z.toInt ∧ z.toInt ≤ 316049) ∧ z.toInt = x94.toInt + v4.toInt) ⟨iv_add i95 i93 (by decide) (by decide) (by decide) (by decide), iq_add i95 i93 (by decide) (by decide)⟩ (fun x96 qi97 => ?_)
        obtain ⟨i97, ei97⟩ := qi97
        refine tt_n (ix_rel (by omega) (by omega)) ?_
        have i98 : (0 : Int) ≤ x96.toInt ∧ x96.toInt ≤ 316049 := (by omega)
        refine tt_kv (P := fun z => ((0 : Int) ≤ z.toInt ∧ z.toInt ≤ 208) ∧ z.toInt = (o0.2.1 58 x96.toNatClampNeg).toInt) ⟨(k_o0.2 58 _), rfl⟩ (fun x99 qi100 => ?_)
        obtain ⟨i100, ei100⟩ := qi100
        have jy : x99.toInt = (o0.2.1 58 (5 * v2.toNatClampNeg + v4.toNatClampNeg)).toInt := ix_e ei100 (by rw [← Int.ofNat_inj]; rw [tn_n, Int.natCast_add, Int.natCast_mul]; omega)
        have t101 := tn_n x96
        have t102 := x_6 v1.toNatClampNeg v3.toNatClampNeg (x96.toNatClampNeg)
        have t103 := x_6 v2.toNatClampNeg v4.toNatClampNeg (x96.toNatClampNeg)
        try unfold fM_join_85
        refine tt_if (fun c104 => ?_) (fun c104 => ?_)
        · have wc104 : x99.toInt ≤ x68.toInt := c_le c104
          try unfold fM_join_107
          refine tt_n (ix_rel (by omega) (by omega)) ?_
          have i105 : (0 : Int) ≤ v5.toInt ∧ v5.toInt ≤ 10 := (by omega)
          refine tt_ko ?_
          have k106 := ok_xp (k := 61) (i := v5.toNatClampNeg) (v := x99) k_o0 i100
          have r107 := fr_xp (k := 61) (i := v5.toNatClampNeg) (v := x99) r_o0 rfl
          refine tt_kv (P := fun z => ((1 : Int) ≤ z.toInt ∧ z.toInt ≤ 11) ∧ z.toInt = v5.toInt + 1) ⟨iv_add i105 (show (1 : Int) ≤ (1 : Int32).toInt ∧ (1 : Int32).toInt ≤ 1 by decide) (by decide) (by decide) (by decide) (by decide), iq_add i105 (show (1 : Int) ≤ (1 : Int32).toInt ∧ (1 : Int32).toInt ≤ 1 by decide) (by decide) (by decide)⟩ (fun x108 qi109 => ?_)
          obtain ⟨i109, ei109⟩ := qi109
          refine tt_if (fun c110 => ?_) (fun c110 => ?_)
          · have wc110 : x99.toInt < x68.toInt := c_lt c110
            have i111 : (0 : Int) ≤ x99.toInt ∧ x99.toInt ≤ 207 := nr_ltl c110 i100 i69 (by decide) (by decide)
            have i112 : (1 : Int) ≤ x68.toInt ∧ x68.toInt ≤ 208 := nr_ltr c110 i100 i69 (by decide) (by decide)
            try unfold fM_join_125
            refine tt_if (fun c113 => ?_) (fun c113 => ?_)
            · have wc113 : x68.toInt < x99.toInt := c_lt c113
              have i114 : (1 : Int) ≤ x68.toInt ∧ x68.toInt ≤ 206 := nr_ltl c113 i112 i111 (by decide) (by decide)
              have i115 : (2 : Int) ≤ x99.toInt ∧ x99.toInt ≤ 207 := nr_ltr c113 i112 i111 (by decide) (by decide)
              try unfold fM_join_142
              have t116 : (0 : Int) ≤ (o0.2.1 59 v1.toNatClampNeg).toInt ∧ (o0.2.1 59 v1.toNatClampNeg).toInt ≤ 5 := k106.2 59 _
              have t117 : (0 : Int) ≤ (o0.2.1 59 v2.toNatClampNeg).toInt ∧ (o0.2.1 59 v2.toNatClampNeg).toInt ≤ 5 := k106.2 59 _
              have p118 : Jn x108 (upd (o0.2.1 61) (v5.toNatClampNeg) x99) := by exact Jn_s x_7 (by omega) (by rw [tn_n]; omega) (by omega)
              have p119 : Ju x108.toInt v1 v2 (upd (o0.2.1 61) (v5.toNatClampNeg) x99) (o0.2.1 59) (o0.2.1 58) := by first | exact Ju_l x_8 jx (by omega) (by rw [tn_n]; omega) (by omega) | exact Ju_r x_8 jy (by omega) (by rw [tn_n]; omega) (by omega) | (exfalso; omega)
              have p120 : Jq x108.toInt v3.toInt v4.toInt v1 v2 (o0.2.1 59) (o0.2.1 58) := by first | exact Jq_1 x_9 (by omega) (by omega) | exact Jq_2 (n := v5.toInt) (u := v3.toInt) (w := v4.toInt) jx jy (by omega) (by omega) (by omega) | (exfalso; omega)
              have p121 : Mj x108.toInt v3.toInt v4.toInt v1.toNatClampNeg v2.toNatClampNeg (upd (o0.2.1 61) (v5.toNatClampNeg) x99) (o0.2.1 59) (o0.2.1 58) := by first | exact Mj_l0 x_12 jx (by omega) (by omega) (by rw [tn_n]; omega) (by omega) (by omega) (by omega) (by omega) | exact Mj_r0 x_12 jy (by omega) (by omega) (by rw [tn_n]; omega) (by omega) (by omega) (by omega) (by omega) | exact Mj_l1 x_12 jx jy (by omega) (by omega) (by omega) (by omega) (by rw [tn_n]; omega) (by omega) (by omega) (by omega) (by omega) | exact Mj_r1 x_12 jx jy (by omega) (by omega) (by omega) (by omega) (by rw [tn_n]; omega) (by omega) (by omega) (by omega) (by omega) | exact Mj_b x_12 jx jy (by omega) (by omega) (by omega) (by omega) (by rw [tn_n]; omega) (by omega) (by omega) (by omega) (by omega) | (exfalso; omega)
              exact H _ _ _ _ _ _ k106 r107 i_v1 i_v2 (iv_w (a := 0) (b := 11) (by decide) (by decide) i109) f_o0_0 f_o0_36 f_o0_38 f_o0_43 f_o0_95 (show 0 ≤ v3.toInt by omega) (show v3.toInt ≤ (o0.2.1 59 v1.toNatClampNeg).toInt by omega) (show 0 ≤ v4.toInt by omega) (show v4.toInt ≤ (o0.2.1 59 v2.toNatClampNeg).toInt by omega) (show 0 ≤ x108.toInt by omega) (show x108.toInt ≤ v3.toInt + v4.toInt by omega) x_6 p118 p119 p120 (show v1.toInt = yv1.toInt by omega) (show v2.toInt = yv2.toInt by omega) p121 (show 0 + (11 - x108.toInt) * 2 < (n : Int) by omega)
            · have wc113 : x99.toInt ≤ x68.toInt := c_nlt c113
              refine tt_kv (P := fun z => (((-2147483647) : Int) ≤ z.toInt ∧ z.toInt ≤ 5) ∧ z.toInt = v4.toInt + 1) ⟨iv_add i93 (show (1 : Int) ≤ (1 : Int32).toInt ∧ (1 : Int32).toInt ≤ 1 by decide) (by decide) (by decide) (by decide) (by decide), iq_add i93 (show (1 : Int) ≤ (1 : Int32).toInt ∧ (1 : Int32).toInt ≤ 1 by decide) (by decide) (by decide)⟩ (fun x122 qi123 => ?_)
              obtain ⟨i123, ei123⟩ := qi123
              try unfold fM_join_142
              have t124 : (0 : Int) ≤ (o0.2.1 59 v1.toNatClampNeg).toInt ∧ (o0.2.1 59 v1.toNatClampNeg).toInt ≤ 5 := k106.2 59 _
              have t125 : (0 : Int) ≤ (o0.2.1 59 v2.toNatClampNeg).toInt ∧ (o0.2.1 59 v2.toNatClampNeg).toInt ≤ 5 := k106.2 59 _
              have p126 : Jn x108 (upd (o0.2.1 61) (v5.toNatClampNeg) x99) := by exact Jn_s x_7 (by omega) (by rw [tn_n]; omega) (by omega)
              have p127 : Ju x108.toInt v1 v2 (upd (o0.2.1 61) (v5.toNatClampNeg) x99) (o0.2.1 59) (o0.2.1 58) := by first | exact Ju_l x_8 jx (by omega) (by rw [tn_n]; omega) (by omega) | exact Ju_r x_8 jy (by omega) (by rw [tn_n]; omega) (by omega) | (exfalso; omega)
              have p128 : Jq x108.toInt v3.toInt x122.toInt v1 v2 (o0.2.1 59) (o0.2.1 58) := by first | exact Jq_1 x_9 (by omega) (by omega) | exact Jq_2 (n := v5.toInt) (u := v3.toInt) (w := v4.toInt) jx jy (by omega) (by omega) (by omega) | (exfalso; omega)
              have p129 : Mj x108.toInt v3.toInt x122.toInt v1.toNatClampNeg v2.toNatClampNeg (upd (o0.2.1 61) (v5.toNatClampNeg) x99) (o0.2.1 59) (o0.2.1 58) := by first | exact Mj_l0 x_12 jx (by omega) (by omega) (by rw [tn_n]; omega) (by omega) (by omega) (by omega) (by omega) | exact Mj_r0 x_12 jy (by omega) (by omega) (by rw [tn_n]; omega) (by omega) (by omega) (by omega) (by omega) | exact Mj_l1 x_12 jx jy (by omega) (by omega) (by omega) (by omega) (by rw [tn_n]; omega) (by omega) (by omega) (by omega) (by omega) | exact Mj_r1 x_12 jx jy (by omega) (by omega) (by omega) (by omega) (by rw [tn_n]; omega) (by omega) (by omega) (by omega) (by omega) | exact Mj_b x_12 jx jy (by omega) (by omega) (by omega) (by omega) (by rw [tn_n]; omega) (by omega) (by omega) (by omega) (by omega) | (exfalso; omega)
              exact H _ _ _ _ _ _ k106 r107 i_v1 i_v2 (iv_w (a := 0) (b := 11) (by decide) (by decide) i109) f_o0_0 f_o0_36 f_o0_38 f_o0_43 f_o0_95 (show 0 ≤ v3.toInt by omega) (show v3.toInt ≤ (o0.2.1 59 v1.toNatClampNeg).toInt by omega) (show 0 ≤ x122.toInt by omega) (show x122.toInt ≤ (o0.2.1 59 v2.toNatClampNeg).toInt by omega) (show 0 ≤ x108.toInt by omega) (show x108.toInt ≤ v3.toInt + x122.toInt by omega) x_6 p126 p127 p128 (show v1.toInt = yv1.toInt by omega) (show v2.toInt = yv2.toInt by omega) p129 (show 0 + (11 - x108.toInt) * 2 < (n : Int) by omega)
          · have wc110 : x68.toInt ≤ x99.toInt := c_nlt c110
            refine tt_kv (P := fun z => (((-2147483647) : Int) ≤ z.toInt ∧ z.toInt ≤ 5) ∧ z.toInt = v3.toInt + 1) ⟨iv_add i8 (show (1 : Int) ≤ (1 : Int32).toInt ∧ (1 : Int32).toInt ≤ 1 by decide) (by decide) (by decide) (by decide) (by decide), iq_add i8 (show (1 : Int) ≤ (1 : Int32).toInt ∧ (1 : Int32).toInt ≤ 1 by decide) (by decide) (by decide)⟩ (fun x130 qi131 => ?_)
            obtain ⟨i131, ei131⟩ := qi131
            try unfold fM_join_125
            refine tt_if (fun c132 => ?_) (fun c132 => ?_)
            · have wc132 : x68.toInt < x99.toInt := c_lt c132
              have i133 : (0 : Int) ≤ x68.toInt ∧ x68.toInt ≤ 207 := nr_ltl c132 i69 i100 (by decide) (by decide)
              have i134 : (1 : Int) ≤ x99.toInt ∧ x99.toInt ≤ 208 := nr_ltr c132 i69 i100 (by decide) (by decide)
              try unfold fM_join_142
              have t135 : (0 : Int) ≤ (o0.2.1 59 v1.toNatClampNeg).toInt ∧ (o0.2.1 59 v1.toNatClampNeg).toInt ≤ 5 := k106.2 59 _
              have t136 : (0 : Int) ≤ (o0.2.1 59 v2.toNatClampNeg).toInt ∧ (o0.2.1 59 v2.toNatClampNeg).toInt ≤ 5 := k106.2 59 _
              have p137 : Jn x108 (upd (o0.2.1 61) (v5.toNatClampNeg) x99) := by exact Jn_s x_7 (by omega) (by rw [tn_n]; omega) (by omega)
              have p138 : Ju x108.toInt v1 v2 (upd (o0.2.1 61) (v5.toNatClampNeg) x99) (o0.2.1 59) (o0.2.1 58) := by first | exact Ju_l x_8 jx (by omega) (by rw [tn_n]; omega) (by omega) | exact Ju_r x_8 jy (by omega) (by rw [tn_n]; omega) (by omega) | (exfalso; omega)
              have p139 : Jq x108.toInt x130.toInt v4.toInt v1 v2 (o0.2.1 59) (o0.2.1 58) := by first | exact Jq_1 x_9 (by omega) (by omega) | exact Jq_2 (n := v5.toInt) (u := v3.toInt) (w := v4.toInt) jx jy (by omega) (by omega) (by omega) | (exfalso; omega)
              have p140 : Mj x108.toInt x130.toInt v4.toInt v1.toNatClampNeg v2.toNatClampNeg (upd (o0.2.1 61) (v5.toNatClampNeg) x99) (o0.2.1 59) (o0.2.1 58) := by first | exact Mj_l0 x_12 jx (by omega) (by omega) (by rw [tn_n]; omega) (by omega) (by omega) (by omega) (by omega) | exact Mj_r0 x_12 jy (by omega) (by omega) (by rw [tn_n]; omega) (by omega) (by omega) (by omega) (by omega) | exact Mj_l1 x_12 jx jy (by omega) (by omega) (by omega) (by omega) (by rw [tn_n]; omega) (by omega) (by omega) (by omega) (by omega) | exact Mj_r1 x_12 jx jy (by omega) (by omega) (by omega) (by omega) (by rw [tn_n]; omega) (by omega) (by omega) (by omega) (by omega) | exact Mj_b x_12 jx jy (by omega) (by omega) (by omega) (by omega) (by rw [tn_n]; omega) (by omega) (by omega) (by omega) (by omega) | (exfalso; omega)
              exact H _ _ _ _ _ _ k106 r107 i_v1 i_v2 (iv_w (a := 0) (b := 11) (by decide) (by decide) i109) f_o0_0 f_o0_36 f_o0_38 f_o0_43 f_o0_95 (show 0 ≤ x130.toInt by omega) (show x130.toInt ≤ (o0.2.1 59 v1.toNatClampNeg).toInt by omega) (show 0 ≤ v4.toInt by omega) (show v4.toInt ≤ (o0.2.1 59 v2.toNatClampNeg).toInt by omega) (show 0 ≤ x108.toInt by omega) (show x108.toInt ≤ x130.toInt + v4.toInt by omega) x_6 p137 p138 p139 (show v1.toInt = yv1.toInt by omega) (show v2.toInt = yv2.toInt by omega) p140 (show 0 + (11 - x108.toInt) * 2 < (n : Int) by omega)
            · have wc132 : x99.toInt ≤ x68.toInt := c_nlt c132
              refine tt_kv (P := fun z => (((-2147483647) : Int) ≤ z.toInt ∧ z.toInt ≤ 5) ∧ z.toInt = v4.toInt + 1) ⟨iv_add i93 (show (1 : Int) ≤ (1 : Int32).toInt ∧ (1 : Int32).toInt ≤ 1 by decide) (by decide) (by decide) (by decide) (by decide), iq_add i93 (show (1 : Int) ≤ (1 : Int32).toInt ∧ (1 : Int32).toInt ≤ 1 by decide) (by decide) (by decide)⟩ (fun x141 qi142 => ?_)
              obtain ⟨i142, ei142⟩ := qi142
              try unfold fM_join_142
              have t143 : (0 : Int) ≤ (o0.2.1 59 v1.toNatClampNeg).toInt ∧ (o0.2.1 59 v1.toNatClampNeg).toInt ≤ 5 := k106.2 59 _
              have t144 : (0 : Int) ≤ (o0.2.1 59 v2.toNatClampNeg).toInt ∧ (o0.2.1 59 v2.toNatClampNeg).toInt ≤ 5 := k106.2 59 _
              have p145 : Jn x108 (upd (o0.2.1 61) (v5.toNatClampNeg) x99) := by exact Jn_s x_7 (by omega) (by rw [tn_n]; omega) (by omega)
              have p146 : Ju x108.toInt v1 v2 (upd (o0.2.1 61) (v5.toNatClampNeg) x99) (o0.2.1 59) (o0.2.1 58) := by first | exact Ju_l x_8 jx (by omega) (by rw [tn_n]; omega) (by omega) | exact Ju_r x_8 jy (by omega) (by rw [tn_n]; omega) (by omega) | (exfalso; omega)
              have p147 : Jq x108.toInt x130.toInt x141.toInt v1 v2 (o0.2.1 59) (o0.2.1 58) := by first | exact Jq_1 x_9 (by omega) (by omega) | exact Jq_2 (n := v5.toInt) (u := v3.toInt) (w := v4.toInt) jx jy (by omega) (by omega) (by omega) | (exfalso; omega)
              have p148 : Mj x108.toInt x130.toInt x141.toInt v1.toNatClampNeg v2.toNatClampNeg (upd (o0.2.1 61) (v5.toNatClampNeg) x99) (o0.2.1 59) (o0.2.1 58) := by first | exact Mj_l0 x_12 jx (by omega) (by omega) (by rw [tn_n]; omega) (by omega) (by omega) (by omega) (by omega) | exact Mj_r0 x_12 jy (by omega) (by omega) (by rw [tn_n]; omega) (by omega) (by omega) (by omega) (by omega) | exact Mj_l1 x_12 jx jy (by omega) (by omega) (by omega) (by omega) (by rw [tn_n]; omega) (by omega) (by omega) (by omega) (by omega) | exact Mj_r1 x_12 jx jy (by omega) (by omega) (by omega) (by omega) (by rw [tn_n]; omega) (by omega) (by omega) (by omega) (by omega) | exact Mj_b x_12 jx jy (by omega) (by omega) (by omega) (by omega) (by rw [tn_n]; omega) (by omega) (by omega) (by omega) (by omega) | (exfalso; omega)
              exact H _ _ _ _ _ _ k106 r107 i_v1 i_v2 (iv_w (a := 0) (b := 11) (by decide) (by decide) i109) f_o0_0 f_o0_36 f_o0_38 f_o0_43 f_o0_95 (show 0 ≤ x130.toInt by omega) (show x130.toInt ≤ (o0.2.1 59 v1.toNatClampNeg).toInt by omega) (show 0 ≤ x141.toInt by omega) (show x141.toInt ≤ (o0.2.1 59 v2.toNatClampNeg).toInt by omega) (show 0 ≤ x108.toInt by omega) (show x108.toInt ≤ x130.toInt + x141.toInt by omega) x_6 p145 p146 p147 (show v1.toInt = yv1.toInt by omega) (show v2.toInt = yv2.toInt by omega) p148 (show 0 + (11 - x108.toInt) * 2 < (n : Int) by omega)
        · have wc104 : x68.toInt < x99.toInt := c_nle c104
          have i149 : (0 : Int) ≤ x68.toInt ∧ x68.toInt ≤ 207 := nr_nlel c104 i69 i100 (by decide) (by decide)
          have i150 : (1 : Int) ≤ x99.toInt ∧ x99.toInt ≤ 208 := nr_nler c104 i69 i100 (by decide) (by decide)
          try unfold fM_join_107
          refine tt_n (ix_rel (by omega) (by omega)) ?_
          have i151 : (0 : Int) ≤ v5.toInt ∧ v5.toInt ≤ 10 := (by omega)
          refine tt_ko ?_
          have k152 := ok_xp (k := 61) (i := v5.toNatClampNeg) (v := x68) k_o0 (iv_w (a := 0) (b := 208) (by decide) (by decide) i149)
          have r153 := fr_xp (k := 61) (i := v5.toNatClampNeg) (v := x68) r_o0 rfl
          refine tt_kv (P := fun z => ((1 : Int) ≤ z.toInt ∧ z.toInt ≤ 11) ∧ z.toInt = v5.toInt + 1) ⟨iv_add i151 (show (1 : Int) ≤ (1 : Int32).toInt ∧ (1 : Int32).toInt ≤ 1 by decide) (by decide) (by decide) (by decide) (by decide), iq_add i151 (show (1 : Int) ≤ (1 : Int32).toInt ∧ (1 : Int32).toInt ≤ 1 by decide) (by decide) (by decide)⟩ (fun x154 qi155 => ?_)
          obtain ⟨i155, ei155⟩ := qi155
          refine tt_if (fun c156 => ?_) (fun c156 => ?_)
          · have wc156 : x99.toInt < x68.toInt := c_lt c156
            have i157 : (1 : Int) ≤ x99.toInt ∧ x99.toInt ≤ 206 := nr_ltl c156 i150 i149 (by decide) (by decide)
            have i158 : (2 : Int) ≤ x68.toInt ∧ x68.toInt ≤ 207 := nr_ltr c156 i150 i149 (by decide) (by decide)
            try unfold fM_join_125
            refine tt_if (fun c159 => ?_) (fun c159 => ?_)
            · have wc159 : x68.toInt < x99.toInt := c_lt c159
              have i160 : (2 : Int) ≤ x68.toInt ∧ x68.toInt ≤ 205 := nr_ltl c159 i158 i157 (by decide) (by decide)
              have i161 : (3 : Int) ≤ x99.toInt ∧ x99.toInt ≤ 206 := nr_ltr c159 i158 i157 (by decide) (by decide)
              try unfold fM_join_142
              have t162 : (0 : Int) ≤ (o0.2.1 59 v1.toNatClampNeg).toInt ∧ (o0.2.1 59 v1.toNatClampNeg).toInt ≤ 5 := k152.2 59 _
              have t163 : (0 : Int) ≤ (o0.2.1 59 v2.toNatClampNeg).toInt ∧ (o0.2.1 59 v2.toNatClampNeg).toInt ≤ 5 := k152.2 59 _
              have p164 : Jn x154 (upd (o0.2.1 61) (v5.toNatClampNeg) x68) := by exact Jn_s x_7 (by omega) (by rw [tn_n]; omega) (by omega)
              have p165 : Ju x154.toInt v1 v2 (upd (o0.2.1 61) (v5.toNatClampNeg) x68) (o0.2.1 59) (o0.2.1 58) := by first | exact Ju_l x_8 jx (by omega) (by rw [tn_n]; omega) (by omega) | exact Ju_r x_8 jy (by omega) (by rw [tn_n]; omega) (by omega) | (exfalso; omega)
              have p166 : Jq x154.toInt v3.toInt v4.toInt v1 v2 (o0.2.1 59) (o0.2.1 58) := by first | exact Jq_1 x_9 (by omega) (by omega) | exact Jq_2 (n := v5.toInt) (u := v3.toInt) (w := v4.toInt) jx jy (by omega) (by omega) (by omega) | (exfalso; omega)
              have p167 : Mj x154.toInt v3.toInt v4.toInt v1.toNatClampNeg v2.toNatClampNeg (upd (o0.2.1 61) (v5.toNatClampNeg) x68) (o0.2.1 59) (o0.2.1 58) := by first | exact Mj_l0 x_12 jx (by omega) (by omega) (by rw [tn_n]; omega) (by omega) (by omega) (by omega) (by omega) | exact Mj_r0 x_12 jy (by omega) (by omega) (by rw [tn_n]; omega) (by omega) (by omega) (by omega) (by omega) | exact Mj_l1 x_12 jx jy (by omega) (by omega) (by omega) (by omega) (by rw [tn_n]; omega) (by omega) (by omega) (by omega) (by omega) | exact Mj_r1 x_12 jx jy (by omega) (by omega) (by omega) (by omega) (by rw [tn_n]; omega) (by omega) (by omega) (by omega) (by omega) | exact Mj_b x_12 jx jy (by omega) (by omega) (by omega) (by omega) (by rw [tn_n]; omega) (by omega) (by omega) (by omega) (by omega) | (exfalso; omega)
              exact H _ _ _ _ _ _ k152 r153 i_v1 i_v2 (iv_w (a := 0) (b := 11) (by decide) (by decide) i155) f_o0_0 f_o0_36 f_o0_38 f_o0_43 f_o0_95 (show 0 ≤ v3.toInt by omega) (show v3.toInt ≤ (o0.2.1 59 v1.toNatClampNeg).toInt by omega) (show 0 ≤ v4.toInt by omega) (show v4.toInt ≤ (o0.2.1 59 v2.toNatClampNeg).toInt by omega) (show 0 ≤ x154.toInt by omega) (show x154.toInt ≤ v3.toInt + v4.toInt by omega) x_6 p164 p165 p166 (show v1.toInt = yv1.toInt by omega) (show v2.toInt = yv2.toInt by omega) p167 (show 0 + (11 - x154.toInt) * 2 < (n : Int) by omega)
            · have wc159 : x99.toInt ≤ x68.toInt := c_nlt c159
              refine tt_kv (P := fun z => (((-2147483647) : Int) ≤ z.toInt ∧ z.toInt ≤ 5) ∧ z.toInt = v4.toInt + 1) ⟨iv_add i93 (show (1 : Int) ≤ (1 : Int32).toInt ∧ (1 : Int32).toInt ≤ 1 by decide) (by decide) (by decide) (by decide) (by decide), iq_add i93 (show (1 : Int) ≤ (1 : Int32).toInt ∧ (1 : Int32).toInt ≤ 1 by decide) (by decide) (by decide)⟩ (fun x168 qi169 => ?_)
              obtain ⟨i169, ei169⟩ := qi169
              try unfold fM_join_142
              have t170 : (0 : Int) ≤ (o0.2.1 59 v1.toNatClampNeg).toInt ∧ (o0.2.1 59 v1.toNatClampNeg).toInt ≤ 5 := k152.2 59 _
              have t171 : (0 : Int) ≤ (o0.2.1 59 v2.toNatClampNeg).toInt ∧ (o0.2.1 59 v2.toNatClampNeg).toInt ≤ 5 := k152.2 59 _
              have p172 : Jn x154 (upd (o0.2.1 61) (v5.toNatClampNeg) x68) := by exact Jn_s x_7 (by omega) (by rw [tn_n]; omega) (by omega)
              have p173 : Ju x154.toInt v1 v2 (upd (o0.2.1 61) (v5.toNatClampNeg) x68) (o0.2.1 59) (o0.2.1 58) := by first | exact Ju_l x_8 jx (by omega) (by rw [tn_n]; omega) (by omega) | exact Ju_r x_8 jy (by omega) (by rw [tn_n]; omega) (by omega) | (exfalso; omega)
              have p174 : Jq x154.toInt v3.toInt x168.toInt v1 v2 (o0.2.1 59) (o0.2.1 58) := by first | exact Jq_1 x_9 (by omega) (by omega) | exact Jq_2 (n := v5.toInt) (u := v3.toInt) (w := v4.toInt) jx jy (by omega) (by omega) (by omega) | (exfalso; omega)
              have p175 : Mj x154.toInt v3.toInt x168.toInt v1.toNatClampNeg v2.toNatClampNeg (upd (o0.2.1 61) (v5.toNatClampNeg) x68) (o0.2.1 59) (o0.2.1 58) := by first | exact Mj_l0 x_12 jx (by omega) (by omega) (by rw [tn_n]; omega) (by omega) (by omega) (by omega) (by omega) | exact Mj_r0 x_12 jy (by omega) (by omega) (by rw [tn_n]; omega) (by omega) (by omega) (by omega) (by omega) | exact Mj_l1 x_12 jx jy (by omega) (by omega) (by omega) (by omega) (by rw [tn_n]; omega) (by omega) (by omega) (by omega) (by omega) | exact Mj_r1 x_12 jx jy (by omega) (by omega) (by omega) (by omega) (by rw [tn_n]; omega) (by omega) (by omega) (by omega) (by omega) | exact Mj_b x_12 jx jy (by omega) (by omega) (by omega) (by omega) (by rw [tn_n]; omega) (by omega) (by omega) (by omega) (by omega) | (exfalso; omega)
              exact H _ _ _ _ _ _ k152 r153 i_v1 i_v2 (iv_w (a := 0) (b := 11) (by decide) (by decide) i155) f_o0_0 f_o0_36 f_o0_38 f_o0_43 f_o0_95 (show 0 ≤ v3.toInt by omega) (show v3.toInt ≤ (o0.2.1 59 v1.toNatClampNeg).toInt by omega) (show 0 ≤ x168.toInt by omega) (show x168.toInt ≤ (o0.2.1 59 v2.toNatClampNeg).toInt by omega) (show 0 ≤ x154.toInt by omega) (show x154.toInt ≤ v3.toInt + x168.toInt by omega) x_6 p172 p173 p174 (show v1.toInt = yv1.toInt by omega) (show v2.toInt = yv2.toInt by omega) p175 (show 0 + (11 - x154.toInt) * 2 < (n : Int) by omega)
          · have wc156 : x68.toInt ≤ x99.toInt := c_nlt c156
            refine tt_kv (P := fun z => (((-2147483647) : Int) ≤ z.toInt ∧ z.toInt ≤ 5) ∧ z.toInt = v3.toInt + 1) ⟨iv_add i8 (show (1 : Int) ≤ (1 : Int32).toInt ∧ (1 : Int32).toInt ≤ 1 by decide) (by decide) (by decide) (by decide) (by decide), iq_add i8 (show (1 : Int) ≤ (1 : Int32).toInt ∧ (1 : Int32).toInt ≤ 1 by decide) (by decide) (by decide)⟩ (fun x176 qi177 => ?_)
            obtain ⟨i177, ei177⟩ := qi177
            try unfold fM_join_125
            refine tt_if (fun c178 => ?_) (fun c178 => ?_)
            · have wc178 : x68.toInt < x99.toInt := c_lt c178
              try unfold fM_join_142
              have t179 : (0 : Int) ≤ (o0.2.1 59 v1.toNatClampNeg).toInt ∧ (o0.2.1 59 v1.toNatClampNeg).toInt ≤ 5 := k152.2 59 _
              have t180 : (0 : Int) ≤ (o0.2.1 59 v2.toNatClampNeg).toInt ∧ (o0.2.1 59 v2.toNatClampNeg).toInt ≤ 5 := k152.2 59 _
              have p181 : Jn x154 (upd (o0.2.1 61) (v5.toNatClampNeg) x68) := by exact Jn_s x_7 (by omega) (by rw [tn_n]; omega) (by omega)
              have p182 : Ju x154.toInt v1 v2 (upd (o0.2.1 61) (v5.toNatClampNeg) x68) (o0.2.1 59) (o0.2.1 58) := by first | exact Ju_l x_8 jx (by omega) (by rw [tn_n]; omega) (by omega) | exact Ju_r x_8 jy (by omega) (by rw [tn_n]; omega) (by omega) | (exfalso; omega)
              have p183 : Jq x154.toInt x176.toInt v4.toInt v1 v2 (o0.2.1 59) (o0.2.1 58) := by first | exact Jq_1 x_9 (by omega) (by omega) | exact Jq_2 (n := v5.toInt) (u := v3.toInt) (w := v4.toInt) jx jy (by omega) (by omega) (by omega) | (exfalso; omega)
              have p184 : Mj x154.toInt x176.toInt v4.toInt v1.toNatClampNeg v2.toNatClampNeg (upd (o0.2.1 61) (v5.toNatClampNeg) x68) (o0.2.1 59) (o0.2.1 58) := by first | exact Mj_l0 x_12 jx (by omega) (by omega) (by rw [tn_n]; omega) (by omega) (by omega) (by omega) (by omega) | exact Mj_r0 x_12 jy (by omega) (by omega) (by rw [tn_n]; omega) (by omega) (by omega) (by omega) (by omega) | exact Mj_l1 x_12 jx jy (by omega) (by omega) (by omega) (by omega) (by rw [tn_n]; omega) (by omega) (by omega) (by omega) (by omega) | exact Mj_r1 x_12 jx jy (by omega) (by omega) (by omega) (by omega) (by rw [tn_n]; omega) (by omega) (by omega) (by omega) (by omega) | exact Mj_b x_12 jx jy (by omega) (by omega) (by omega) (by omega) (by rw [tn_n]; omega) (by omega) (by omega) (by omega) (by omega) | (exfalso; omega)
              exact H _ _ _ _ _ _ k152 r153 i_v1 i_v2 (iv_w (a := 0) (b := 11) (by decide) (by decide) i155) f_o0_0 f_o0_36 f_o0_38 f_o0_43 f_o0_95 (show 0 ≤ x176.toInt by omega) (show x176.toInt ≤ (o0.2.1 59 v1.toNatClampNeg).toInt by omega) (show 0 ≤ v4.toInt by omega) (show v4.toInt ≤ (o0.2.1 59 v2.toNatClampNeg).toInt by omega) (show 0 ≤ x154.toInt by omega) (show x154.toInt ≤ x176.toInt + v4.toInt by omega) x_6 p181 p182 p183 (show v1.toInt = yv1.toInt by omega) (show v2.toInt = yv2.toInt by omega) p184 (show 0 + (11 - x154.toInt) * 2 < (n : Int) by omega)
            · have wc178 : x99.toInt ≤ x68.toInt := c_nlt c178
              have i185 : (1 : Int) ≤ x99.toInt ∧ x99.toInt ≤ 207 := nr_nltl c178 i150 i149 (by decide) (by decide)
              have i186 : (1 : Int) ≤ x68.toInt ∧ x68.toInt ≤ 207 := nr_nltr c178 i150 i149 (by decide) (by decide)
              refine tt_kv (P := fun z => (((-2147483647) : Int) ≤ z.toInt ∧ z.toInt ≤ 5) ∧ z.toInt = v4.toInt + 1) ⟨iv_add i93 (show (1 : Int) ≤ (1 : Int32).toInt ∧ (1 : Int32).toInt ≤ 1 by decide) (by decide) (by decide) (by decide) (by decide), iq_add i93 (show (1 : Int) ≤ (1 : Int32).toInt ∧ (1 : Int32).toInt ≤ 1 by decide) (by decide) (by decide)⟩ (fun x187 qi188 => ?_)
              obtain ⟨i188, ei188⟩ := qi188
              try unfold fM_join_142
              have t189 : (0 : Int) ≤ (o0.2.1 59 v1.toNatClampNeg).toInt ∧ (o0.2.1 59 v1.toNatClampNeg).toInt ≤ 5 := k152.2 59 _
              have t190 : (0 : Int) ≤ (o0.2.1 59 v2.toNatClampNeg).toInt ∧ (o0.2.1 59 v2.toNatClampNeg).toInt ≤ 5 := k152.2 59 _
              have p191 : Jn x154 (upd (o0.2.1 61) (v5.toNatClampNeg) x68) := by exact Jn_s x_7 (by omega) (by rw [tn_n]; omega) (by omega)
              have p192 : Ju x154.toInt v1 v2 (upd (o0.2.1 61) (v5.toNatClampNeg) x68) (o0.2.1 59) (o0.2.1 58) := by first | exact Ju_l x_8 jx (by omega) (by rw [tn_n]; omega) (by omega) | exact Ju_r x_8 jy (by omega) (by rw [tn_n]; omega) (by omega) | (exfalso; omega)
              have p193 : Jq x154.toInt x176.toInt x187.toInt v1 v2 (o0.2.1 59) (o0.2.1 58) := by first | exact Jq_1 x_9 (by omega) (by omega) | exact Jq_2 (n := v5.toInt) (u := v3.toInt) (w := v4.toInt) jx jy (by omega) (by omega) (by omega) | (exfalso; omega)
              have p194 : Mj x154.toInt x176.toInt x187.toInt v1.toNatClampNeg v2.toNatClampNeg (upd (o0.2.1 61) (v5.toNatClampNeg) x68) (o0.2.1 59) (o0.2.1 58) := by first | exact Mj_l0 x_12 jx (by omega) (by omega) (by rw [tn_n]; omega) (by omega) (by omega) (by omega) (by omega) | exact Mj_r0 x_12 jy (by omega) (by omega) (by rw [tn_n]; omega) (by omega) (by omega) (by omega) (by omega) | exact Mj_l1 x_12 jx jy (by omega) (by omega) (by omega) (by omega) (by rw [tn_n]; omega) (by omega) (by omega) (by omega) (by omega) | exact Mj_r1 x_12 jx jy (by omega) (by omega) (by omega) (by omega) (by rw [tn_n]; omega) (by omega) (by omega) (by omega) (by omega) | exact Mj_b x_12 jx jy (by omega) (by omega) (by omega) (by omega) (by rw [tn_n]; omega) (by omega) (by omega) (by omega) (by omega) | (exfalso; omega)
              exact H _ _ _ _ _ _ k152 r153 i_v1 i_v2 (iv_w (a := 0) (b := 11) (by decide) (by decide) i155) f_o0_0 f_o0_36 f_o0_38 f_o0_43 f_o0_95 (show 0 ≤ x176.toInt by omega) (show x176.toInt ≤ (o0.2.1 59 v1.toNatClampNeg).toInt by omega) (show 0 ≤ x187.toInt by omega) (show x187.toInt ≤ (o0.2.1 59 v2.toNatClampNeg).toInt by omega) (show 0 ≤ x154.toInt by omega) (show x154.toInt ≤ x176.toInt + x187.toInt by omega) x_6 p191 p192 p193 (show v1.toInt = yv1.toInt by omega) (show v2.toInt = yv2.toInt by omega) p194 (show 0 + (11 - x154.toInt) * 2 < (n : Int) by omega)
  · have wc7 : x5.toInt ≤ v3.toInt := c_nlt c7
    have i195 : (0 : Int) ≤ v3.toInt ∧ v3.toInt ≤ 2147483647 := nr_nltr c7 i6 (iv_top v3) (by decide) (by decide)
    refine tt_n (ix_ok i_v2 (by decide) (by decide)) ?_
    refine tt_kv (P := fun z => ((0 : Int) ≤ z.toInt ∧ z.toInt ≤ 5) ∧ z.toInt = (o0.2.1 59 v2.toNatClampNeg).toInt) ⟨(k_o0.2 59 _), rfl⟩ (fun x196 qi197 => ?_)
    obtain ⟨i197, ei197⟩ := qi197
    refine tt_if (fun c198 => ?_) (fun c198 => ?_)
    · have wc198 : x196.toInt ≤ v4.toInt := c_le c198
      have i199 : (0 : Int) ≤ v4.toInt ∧ v4.toInt ≤ 2147483647 := nr_ler c198 i197 (iv_top v4) (by decide) (by decide)
      have p200 : Ju v5.toInt yv1 yv2 (o0.2.1 61) (yo0.2.1 59) (yo0.2.1 58) := by rw [← r_o0.2.1 59 rfl, ← r_o0.2.1 58 rfl, show yv1 = v1 from (i_eq x_10).symm, show yv2 = v2 from (i_eq x_11).symm]; exact x_8
      have p201 : Jr v5.toInt yv1 yv2 (yo0.2.1 59) (yo0.2.1 58) := by rw [← r_o0.2.1 59 rfl, ← r_o0.2.1 58 rfl, show yv1 = v1 from (i_eq x_10).symm, show yv2 = v2 from (i_eq x_11).symm]; exact fun h1 h2 h3 => by have q := x_9 h1 h2 h3; omega
      have p202 : Mp2 v5.toInt yv1.toNatClampNeg yv2.toNatClampNeg (o0.2.1 61) (yo0.2.1 59) (yo0.2.1 58) := by rw [← r_o0.2.1 59 rfl, ← r_o0.2.1 58 rfl, show yv1 = v1 from (i_eq x_10).symm, show yv2 = v2 from (i_eq x_11).symm]; exact Mj_e x_12 (by omega) (by omega)
      exact tt_some ⟨i_v5, k_o0, r_o0, x_7, p200, p201, p202, trivial⟩
    · have wc198 : v4.toInt < x196.toInt := c_nle c198
      have i203 : ((-2147483648) : Int) ≤ v4.toInt ∧ v4.toInt ≤ 4 := nr_nlel c198 (iv_top v4) i197 (by decide) (by decide)
      try unfold fM_join_29
      refine tt_n (ix_ok i_v1 (by decide) (by decide)) ?_
      refine tt_kv (P := fun z => ((0 : Int) ≤ z.toInt ∧ z.toInt ≤ 5) ∧ z.toInt = (o0.2.1 59 v1.toNatClampNeg).toInt) ⟨(k_o0.2 59 _), rfl⟩ (fun x204 qi205 => ?_)
      obtain ⟨i205, ei205⟩ := qi205
      refine tt_if (fun c206 => ?_) (fun c206 => ?_)
      · have wc206 : x204.toInt ≤ v3.toInt := c_le c206
        try unfold fM_join_55
        refine tt_n (ix_ok i_v2 (by decide) (by decide)) ?_
        refine tt_kv (P := fun z => ((0 : Int) ≤ z.toInt ∧ z.toInt ≤ 5) ∧ z.toInt = (o0.2.1 59 v2.toNatClampNeg).toInt) ⟨(k_o0.2 59 _), rfl⟩ (fun x207 qi208 => ?_)
        obtain ⟨i208, ei208⟩ := qi208
        refine tt_if (fun c209 => ?_) (fun c209 => ?_)
        · have wc209 : x207.toInt ≤ v4.toInt := c_le c209
          have i210 : (0 : Int) ≤ x207.toInt ∧ x207.toInt ≤ 4 := nr_lel c209 i208 i203 (by decide) (by decide)
          have i211 : (0 : Int) ≤ v4.toInt ∧ v4.toInt ≤ 4 := nr_ler c209 i208 i203 (by decide) (by decide)
          try unfold fM_join_85
          refine tt_if (fun c212 => ?_) (fun c212 => ?_)
          · have wc212 : (999 : Int) ≤ (999 : Int) := c_le c212
            try unfold fM_join_107
            refine tt_n (ix_rel (by omega) (by omega)) ?_
            have i213 : (0 : Int) ≤ v5.toInt ∧ v5.toInt ≤ 10 := (by omega)
            refine tt_ko ?_
            have k214 := ok_xp (k := 61) (i := v5.toNatClampNeg) (v := 999) k_o0 (show (0 : Int) ≤ _ ∧ _ ≤ (208 : Int) by omega)
            have r215 := fr_xp (k := 61) (i := v5.toNatClampNeg) (v := 999) r_o0 rfl
            refine tt_kv (P := fun z => ((1 : Int) ≤ z.toInt ∧ z.toInt ≤ 11) ∧ z.toInt = v5.toInt + 1) ⟨iv_add i213 (show (1 : Int) ≤ (1 : Int32).toInt ∧ (1 : Int32).toInt ≤ 1 by decide) (by decide) (by decide) (by decide) (by decide), iq_add i213 (show (1 : Int) ≤ (1 : Int32).toInt ∧ (1 : Int32).toInt ≤ 1 by decide) (by decide) (by decide)⟩ (fun x216 qi217 => ?_)
            obtain ⟨i217, ei217⟩ := qi217
            refine tt_if (fun c218 => ?_) (fun c218 => ?_)
            · have wc218 : (999 : Int) < (999 : Int) := c_lt c218
              exact (dd_lt c218 (show (999 : Int) ≤ (999 : Int32).toInt ∧ (999 : Int32).toInt ≤ 999 by decide) (show (999 : Int) ≤ (999 : Int32).toInt ∧ (999 : Int32).toInt ≤ 999 by decide) (by decide)).elim
            · have wc218 : (999 : Int) ≤ (999 : Int) := c_nlt c218
              refine tt_kv (P := fun z => ((-2147483648) : Int) ≤ z.toInt ∧ z.toInt ≤ 2147483647) (iv_top _) (fun x219 i220 => ?_)
              try unfold fM_join_125
              refine tt_if (fun c221 => ?_) (fun c221 => ?_)
              · have wc221 : (999 : Int) < (999 : Int) := c_lt c221
                exact (dd_lt c221 (show (999 : Int) ≤ (999 : Int32).toInt ∧ (999 : Int32).toInt ≤ 999 by decide) (show (999 : Int) ≤ (999 : Int32).toInt ∧ (999 : Int32).toInt ≤ 999 by decide) (by decide)).elim
              · have wc221 : (999 : Int) ≤ (999 : Int) := c_nlt c221
                refine tt_kv (P := fun z => ((1 : Int) ≤ z.toInt ∧ z.toInt ≤ 5) ∧ z.toInt = v4.toInt + 1) ⟨iv_add i211 (show (1 : Int) ≤ (1 : Int32).toInt ∧ (1 : Int32).toInt ≤ 1 by decide) (by decide) (by decide) (by decide) (by decide), iq_add i211 (show (1 : Int) ≤ (1 : Int32).toInt ∧ (1 : Int32).toInt ≤ 1 by decide) (by decide) (by decide)⟩ (fun x222 qi223 => ?_)
                obtain ⟨i223, ei223⟩ := qi223
                try unfold fM_join_142
                have t224 : (0 : Int) ≤ (o0.2.1 59 v1.toNatClampNeg).toInt ∧ (o0.2.1 59 v1.toNatClampNeg).toInt ≤ 5 := k214.2 59 _
                have t225 : (0 : Int) ≤ (o0.2.1 59 v2.toNatClampNeg).toInt ∧ (o0.2.1 59 v2.toNatClampNeg).toInt ≤ 5 := k214.2 59 _
                have p226 : Jn x216 (upd (o0.2.1 61) (v5.toNatClampNeg) 999) := by exact Jn_s x_7 (by omega) (by rw [tn_n]; omega) (by omega)
                have p227 : Ju x216.toInt v1 v2 (upd (o0.2.1 61) (v5.toNatClampNeg) 999) (o0.2.1 59) (o0.2.1 58) := by first | exact Ju_l x_8 jx (by omega) (by rw [tn_n]; omega) (by omega) | exact Ju_r x_8 jy (by omega) (by rw [tn_n]; omega) (by omega) | (exfalso; omega)
                have p228 : Jq x216.toInt x219.toInt x222.toInt v1 v2 (o0.2.1 59) (o0.2.1 58) := by first | exact Jq_1 x_9 (by omega) (by omega) | exact Jq_2 (n := v5.toInt) (u := v3.toInt) (w := v4.toInt) jx jy (by omega) (by omega) (by omega) | (exfalso; omega)
                have p229 : Mj x216.toInt x219.toInt x222.toInt v1.toNatClampNeg v2.toNatClampNeg (upd (o0.2.1 61) (v5.toNatClampNeg) 999) (o0.2.1 59) (o0.2.1 58) := by first | exact Mj_l0 x_12 jx (by omega) (by omega) (by rw [tn_n]; omega) (by omega) (by omega) (by omega) (by omega) | exact Mj_r0 x_12 jy (by omega) (by omega) (by rw [tn_n]; omega) (by omega) (by omega) (by omega) (by omega) | exact Mj_l1 x_12 jx jy (by omega) (by omega) (by omega) (by omega) (by rw [tn_n]; omega) (by omega) (by omega) (by omega) (by omega) | exact Mj_r1 x_12 jx jy (by omega) (by omega) (by omega) (by omega) (by rw [tn_n]; omega) (by omega) (by omega) (by omega) (by omega) | exact Mj_b x_12 jx jy (by omega) (by omega) (by omega) (by omega) (by rw [tn_n]; omega) (by omega) (by omega) (by omega) (by omega) | (exfalso; omega)
                exact H _ _ _ _ _ _ k214 r215 i_v1 i_v2 (iv_w (a := 0) (b := 11) (by decide) (by decide) i217) f_o0_0 f_o0_36 f_o0_38 f_o0_43 f_o0_95 (show 0 ≤ x219.toInt by omega) (show x219.toInt ≤ (o0.2.1 59 v1.toNatClampNeg).toInt by omega) (show 0 ≤ x222.toInt by omega) (show x222.toInt ≤ (o0.2.1 59 v2.toNatClampNeg).toInt by omega) (show 0 ≤ x216.toInt by omega) (show x216.toInt ≤ x219.toInt + x222.toInt by omega) x_6 p226 p227 p228 (show v1.toInt = yv1.toInt by omega) (show v2.toInt = yv2.toInt by omega) p229 (show 0 + (11 - x216.toInt) * 2 < (n : Int) by omega)
          · have wc212 : (999 : Int) < (999 : Int) := c_nle c212
            exact (dd_nle c212 (show (999 : Int) ≤ (999 : Int32).toInt ∧ (999 : Int32).toInt ≤ 999 by decide) (show (999 : Int) ≤ (999 : Int32).toInt ∧ (999 : Int32).toInt ≤ 999 by decide) (by decide)).elim
        · have wc209 : v4.toInt < x207.toInt := c_nle c209
          refine tt_kv (P := fun z => ((0 : Int) ≤ z.toInt ∧ z.toInt ≤ 316045) ∧ z.toInt = 5 * v2.toInt) ⟨iv_mul (show (5 : Int) ≤ (5 : Int32).toInt ∧ (5 : Int32).toInt ≤ 5 by decide) i_v2 (by decide) (by decide) (by decide) (by decide) (by decide), iq_mul (show (5 : Int) ≤ (5 : Int32).toInt ∧ (5 : Int32).toInt ≤ 5 by decide) i_v2 (by decide) (by decide) (by decide) (by decide)⟩ (fun x230 qi231 => ?_)
          obtain ⟨i231, ei231⟩ := qi231
          refine tt_kv (P := fun z => (((-2147483648) : Int) ≤ z.toInt ∧ z.toInt ≤ 316049) ∧ z.toInt = x230.toInt + v4.toInt) ⟨iv_add i231 i203 (by decide) (by decide) (by decide) (by decide), iq_add i231 i203 (by decide) (by decide)⟩ (fun x232 qi233 => ?_)
          obtain ⟨i233, ei233⟩ := qi233
          refine tt_n (ix_rel (by omega) (by omega)) ?_
          have i234 : (0 : Int) ≤ x232.toInt ∧ x232.toInt ≤ 316049 := (by omega)
          refine tt_kv (P := fun z => ((0 : Int) ≤ z.toInt ∧ z.toInt ≤ 208) ∧ z.toInt = (o0.2.1 58 x232.toNatClampNeg).toInt) ⟨(k_o0.2 58 _), rfl⟩ (fun x235 qi236 => ?_)
          obtain ⟨i236, ei236⟩ := qi236
          have jy : x235.toInt = (o0.2.1 58 (5 * v2.toNatClampNeg + v4.toNatClampNeg)).toInt := ix_e ei236 (by rw [← Int.ofNat_inj]; rw [tn_n, Int.natCast_add, Int.natCast_mul]; omega)
          have t237 := tn_n x232
          have t238 := x_6 v1.toNatClampNeg v3.toNatClampNeg (x232.toNatClampNeg)
          have t239 := x_6 v2.toNatClampNeg v4.toNatClampNeg (x232.toNatClampNeg)
          try unfold fM_join_85
          refine tt_if (fun c240 => ?_) (fun c240 => ?_)
          · have wc240 : x235.toInt ≤ (999 : Int) := c_le c240
            try unfold fM_join_107
            refine tt_n (ix_rel (by omega) (by omega)) ?_
            have i241 : (0 : Int) ≤ v5.toInt ∧ v5.toInt ≤ 10 := (by omega)
            refine tt_ko ?_
            have k242 := ok_xp (k := 61) (i := v5.toNatClampNeg) (v := x235) k_o0 i236
            have r243 := fr_xp (k := 61) (i := v5.toNatClampNeg) (v := x235) r_o0 rfl
            refine tt_kv (P := fun z => ((1 : Int) ≤ z.toInt ∧ z.toInt ≤ 11) ∧ z.toInt = v5.toInt + 1) ⟨iv_add i241 (show (1 : Int) ≤ (1 : Int32).toInt ∧ (1 : Int32).toInt ≤ 1 by decide) (by decide) (by decide) (by decide) (by decide), iq_add i241 (show (1 : Int) ≤ (1 : Int32).toInt ∧ (1 : Int32).toInt ≤ 1 by decide) (by decide) (by decide)⟩ (fun x244 qi245 => ?_)
            obtain ⟨i245, ei245⟩ := qi245
            refine tt_if (fun c246 => ?_) (fun c246 => ?_)
            · have wc246 : x235.toInt < (999 : Int) := c_lt c246
              try unfold fM_join_125
              refine tt_if (fun c247 => ?_) (fun c247 => ?_)
              · have wc247 : (999 : Int) < x235.toInt := c_lt c247
                exact (dd_lt c247 (show (999 : Int) ≤ (999 : Int32).toInt ∧ (999 : Int32).toInt ≤ 999 by decide) i236 (by decide)).elim
              · have wc247 : x235.toInt ≤ (999 : Int) := c_nlt c247
                refine tt_kv (P := fun z => (((-2147483647) : Int) ≤ z.toInt ∧ z.toInt ≤ 5) ∧ z.toInt = v4.toInt + 1) ⟨iv_add i203 (show (1 : Int) ≤ (1 : Int32).toInt ∧ (1 : Int32).toInt ≤ 1 by decide) (by decide) (by decide) (by decide) (by decide), iq_add i203 (show (1 : Int) ≤ (1 : Int32).toInt ∧ (1 : Int32).toInt ≤ 1 by decide) (by decide) (by decide)⟩ (fun x248 qi249 => ?_)
                obtain ⟨i249, ei249⟩ := qi249
                try unfold fM_join_142
                have t250 : (0 : Int) ≤ (o0.2.1 59 v1.toNatClampNeg).toInt ∧ (o0.2.1 59 v1.toNatClampNeg).toInt ≤ 5 := k242.2 59 _
                have t251 : (0 : Int) ≤ (o0.2.1 59 v2.toNatClampNeg).toInt ∧ (o0.2.1 59 v2.toNatClampNeg).toInt ≤ 5 := k242.2 59 _
                have p252 : Jn x244 (upd (o0.2.1 61) (v5.toNatClampNeg) x235) := by exact Jn_s x_7 (by omega) (by rw [tn_n]; omega) (by omega)
                have p253 : Ju x244.toInt v1 v2 (upd (o0.2.1 61) (v5.toNatClampNeg) x235) (o0.2.1 59) (o0.2.1 58) := by first | exact Ju_l x_8 jx (by omega) (by rw [tn_n]; omega) (by omega) | exact Ju_r x_8 jy (by omega) (by rw [tn_n]; omega) (by omega) | (exfalso; omega)
                have p254 : Jq x244.toInt v3.toInt x248.toInt v1 v2 (o0.2.1 59) (o0.2.1 58) := by first | exact Jq_1 x_9 (by omega) (by omega) | exact Jq_2 (n := v5.toInt) (u := v3.toInt) (w := v4.toInt) jx jy (by omega) (by omega) (by omega) | (exfalso; omega)
                have p255 : Mj x244.toInt v3.toInt x248.toInt v1.toNatClampNeg v2.toNatClampNeg (upd (o0.2.1 61) (v5.toNatClampNeg) x235) (o0.2.1 59) (o0.2.1 58) := by first | exact Mj_l0 x_12 jx (by omega) (by omega) (by rw [tn_n]; omega) (by omega) (by omega) (by omega) (by omega) | exact Mj_r0 x_12 jy (by omega) (by omega) (by rw [tn_n]; omega) (by omega) (by omega) (by omega) (by omega) | exact Mj_l1 x_12 jx jy (by omega) (by omega) (by omega) (by omega) (by rw [tn_n]; omega) (by omega) (by omega) (by omega) (by omega) | exact Mj_r1 x_12 jx jy (by omega) (by omega) (by omega) (by omega) (by rw [tn_n]; omega) (by omega) (by omega) (by omega) (by omega) | exact Mj_b x_12 jx jy (by omega) (by omega) (by omega) (by omega) (by rw [tn_n]; omega) (by omega) (by omega) (by omega) (by omega) | (exfalso; omega)
                exact H _ _ _ _ _ _ k242 r243 i_v1 i_v2 (iv_w (a := 0) (b := 11) (by decide) (by decide) i245) f_o0_0 f_o0_36 f_o0_38 f_o0_43 f_o0_95 (show 0 ≤ v3.toInt by omega) (show v3.toInt ≤ (o0.2.1 59 v1.toNatClampNeg).toInt by omega) (show 0 ≤ x248.toInt by omega) (show x248.toInt ≤ (o0.2.1 59 v2.toNatClampNeg).toInt by omega) (show 0 ≤ x244.toInt by omega) (show x244.toInt ≤ v3.toInt + x248.toInt by omega) x_6 p252 p253 p254 (show v1.toInt = yv1.toInt by omega) (show v2.toInt = yv2.toInt by omega) p255 (show 0 + (11 - x244.toInt) * 2 < (n : Int) by omega)
            · have wc246 : (999 : Int) ≤ x235.toInt := c_nlt c246
              exact (dd_nlt c246 (show (999 : Int) ≤ (999 : Int32).toInt ∧ (999 : Int32).toInt ≤ 999 by decide) i236 (by decide)).elim
          · have wc240 : (999 : Int) < x235.toInt := c_nle c240
            exact (dd_nle c240 (show (999 : Int) ≤ (999 : Int32).toInt ∧ (999 : Int32).toInt ≤ 999 by decide) i236 (by decide)).elim
      · have wc206 : v3.toInt < x204.toInt := c_nle c206
        have i256 : (0 : Int) ≤ v3.toInt ∧ v3.toInt ≤ 4 := nr_nlel c206 i195 i205 (by decide) (by decide)
        have i257 : (1 : Int) ≤ x204.toInt ∧ x204.toInt ≤ 5 := nr_nler c206 i195 i205 (by decide) (by decide)
        refine tt_kv (P := fun z => ((0 : Int) ≤ z.toInt ∧ z.toInt ≤ 316045) ∧ z.toInt = 5 * v1.toInt) ⟨iv_mul (show (5 : Int) ≤ (5 : Int32).toInt ∧ (5 : Int32).toInt ≤ 5 by decide) i_v1 (by decide) (by decide) (by decide) (by decide) (by decide), iq_mul (show (5 : Int) ≤ (5 : Int32).toInt ∧ (5 : Int32).toInt ≤ 5 by decide) i_v1 (by decide) (by decide) (by decide) (by decide)⟩ (fun x258 qi259 => ?_)
        obtain ⟨i259, ei259⟩ := qi259
        refine tt_kv (P := fun z => ((0 : Int) ≤ z.toInt ∧ z.toInt ≤ 316049) ∧ z.toInt = x258.toInt + v3.toInt) ⟨iv_add i259 i256 (by decide) (by decide) (by decide) (by decide), iq_add i259 i256 (by decide) (by decide)⟩ (fun x260 qi261 => ?_)
        obtain ⟨i261, ei261⟩ := qi261
        refine tt_n (ix_ok i261 (by decide) (by decide)) ?_
        refine tt_kv (P := fun z => ((0 : Int) ≤ z.toInt ∧ z.toInt ≤ 208) ∧ z.toInt = (o0.2.1 58 x260.toNatClampNeg).toInt) ⟨(k_o0.2 58 _), rfl⟩ (fun x262 qi263 => ?_)
        obtain ⟨i263, ei263⟩ := qi263
        have jx : x262.toInt = (o0.2.1 58 (5 * v1.toNatClampNeg + v3.toNatClampNeg)).toInt := ix_e ei263 (by rw [← Int.ofNat_inj]; rw [tn_n, Int.natCast_add, Int.natCast_mul]; omega)
        have t264 := tn_n x260
        have t265 := x_6 v1.toNatClampNeg v3.toNatClampNeg (x260.toNatClampNeg)
        have t266 := x_6 v2.toNatClampNeg v4.toNatClampNeg (x260.toNatClampNeg)
        try unfold fM_join_55
        refine tt_n (ix_ok i_v2 (by decide) (by decide)) ?_
        refine tt_kv (P := fun z => ((0 : Int) ≤ z.toInt ∧ z.toInt ≤ 5) ∧ z.toInt = (o0.2.1 59 v2.toNatClampNeg).toInt) ⟨(k_o0.2 59 _), rfl⟩ (fun x267 qi268 => ?_)
        obtain ⟨i268, ei268⟩ := qi268
        refine tt_if (fun c269 => ?_) (fun c269 => ?_)
        · have wc269 : x267.toInt ≤ v4.toInt := c_le c269
          have i270 : (0 : Int) ≤ x267.toInt ∧ x267.toInt ≤ 4 := nr_lel c269 i268 i203 (by decide) (by decide)
          have i271 : (0 : Int) ≤ v4.toInt ∧ v4.toInt ≤ 4 := nr_ler c269 i268 i203 (by decide) (by decide)
          try unfold fM_join_85
          refine tt_if (fun c272 => ?_) (fun c272 => ?_)
          · have wc272 : (999 : Int) ≤ x262.toInt := c_le c272
            exact (dd_le c272 (show (999 : Int) ≤ (999 : Int32).toInt ∧ (999 : Int32).toInt ≤ 999 by decide) i263 (by decide)).elim
          · have wc272 : x262.toInt < (999 : Int) := c_nle c272
            try unfold fM_join_107
            refine tt_n (ix_rel (by omega) (by omega)) ?_
            have i273 : (0 : Int) ≤ v5.toInt ∧ v5.toInt ≤ 10 := (by omega)
            refine tt_ko ?_
            have k274 := ok_xp (k := 61) (i := v5.toNatClampNeg) (v := x262) k_o0 i263
            have r275 := fr_xp (k := 61) (i := v5.toNatClampNeg) (v := x262) r_o0 rfl
            refine tt_kv (P := fun z => ((1 : Int) ≤ z.toInt ∧ z.toInt ≤ 11) ∧ z.toInt = v5.toInt + 1) ⟨iv_add i273 (show (1 : Int) ≤ (1 : Int32).toInt ∧ (1 : Int32).toInt ≤ 1 by decide) (by decide) (by decide) (by decide) (by decide), iq_add i273 (show (1 : Int) ≤ (1 : Int32).toInt ∧ (1 : Int32).toInt ≤ 1 by decide) (by decide) (by decide)⟩ (fun x276 qi277 => ?_)
            obtain ⟨i277, ei277⟩ := qi277
            refine tt_if (fun c278 => ?_) (fun c278 => ?_)
            · have wc278 : (999 : Int) < x262.toInt := c_lt c278
              exact (dd_lt c278 (show (999 : Int) ≤ (999 : Int32).toInt ∧ (999 : Int32).toInt ≤ 999 by decide) i263 (by decide)).elim
            · have wc278 : x262.toInt ≤ (999 : Int) := c_nlt c278
              refine tt_kv (P := fun z => ((1 : Int) ≤ z.toInt ∧ z.toInt ≤ 5) ∧ z.toInt = v3.toInt + 1) ⟨iv_add i256 (show (1 : Int) ≤ (1 : Int32).toInt ∧ (1 : Int32).toInt ≤ 1 by decide) (by decide) (by decide) (by decide) (by decide), iq_add i256 (show (1 : Int) ≤ (1 : Int32).toInt ∧ (1 : Int32).toInt ≤ 1 by decide) (by decide) (by decide)⟩ (fun x279 qi280 => ?_)
              obtain ⟨i280, ei280⟩ := qi280
              try unfold fM_join_125
              refine tt_if (fun c281 => ?_) (fun c281 => ?_)
              · have wc281 : x262.toInt < (999 : Int) := c_lt c281
                try unfold fM_join_142
                have t282 : (0 : Int) ≤ (o0.2.1 59 v1.toNatClampNeg).toInt ∧ (o0.2.1 59 v1.toNatClampNeg).toInt ≤ 5 := k274.2 59 _
                have t283 : (0 : Int) ≤ (o0.2.1 59 v2.toNatClampNeg).toInt ∧ (o0.2.1 59 v2.toNatClampNeg).toInt ≤ 5 := k274.2 59 _
                have p284 : Jn x276 (upd (o0.2.1 61) (v5.toNatClampNeg) x262) := by exact Jn_s x_7 (by omega) (by rw [tn_n]; omega) (by omega)
                have p285 : Ju x276.toInt v1 v2 (upd (o0.2.1 61) (v5.toNatClampNeg) x262) (o0.2.1 59) (o0.2.1 58) := by first | exact Ju_l x_8 jx (by omega) (by rw [tn_n]; omega) (by omega) | exact Ju_r x_8 jy (by omega) (by rw [tn_n]; omega) (by omega) | (exfalso; omega)
                have p286 : Jq x276.toInt x279.toInt v4.toInt v1 v2 (o0.2.1 59) (o0.2.1 58) := by first | exact Jq_1 x_9 (by omega) (by omega) | exact Jq_2 (n := v5.toInt) (u := v3.toInt) (w := v4.toInt) jx jy (by omega) (by omega) (by omega) | (exfalso; omega)
                have p287 : Mj x276.toInt x279.toInt v4.toInt v1.toNatClampNeg v2.toNatClampNeg (upd (o0.2.1 61) (v5.toNatClampNeg) x262) (o0.2.1 59) (o0.2.1 58) := by first | exact Mj_l0 x_12 jx (by omega) (by omega) (by rw [tn_n]; omega) (by omega) (by omega) (by omega) (by omega) | exact Mj_r0 x_12 jy (by omega) (by omega) (by rw [tn_n]; omega) (by omega) (by omega) (by omega) (by omega) | exact Mj_l1 x_12 jx jy (by omega) (by omega) (by omega) (by omega) (by rw [tn_n]; omega) (by omega) (by omega) (by omega) (by omega) | exact Mj_r1 x_12 jx jy (by omega) (by omega) (by omega) (by omega) (by rw [tn_n]; omega) (by omega) (by omega) (by omega) (by omega) | exact Mj_b x_12 jx jy (by omega) (by omega) (by omega) (by omega) (by rw [tn_n]; omega) (by omega) (by omega) (by omega) (by omega) | (exfalso; omega)
                exact H _ _ _ _ _ _ k274 r275 i_v1 i_v2 (iv_w (a := 0) (b := 11) (by decide) (by decide) i277) f_o0_0 f_o0_36 f_o0_38 f_o0_43 f_o0_95 (show 0 ≤ x279.toInt by omega) (show x279.toInt ≤ (o0.2.1 59 v1.toNatClampNeg).toInt by omega) (show 0 ≤ v4.toInt by omega) (show v4.toInt ≤ (o0.2.1 59 v2.toNatClampNeg).toInt by omega) (show 0 ≤ x276.toInt by omega) (show x276.toInt ≤ x279.toInt + v4.toInt by omega) x_6 p284 p285 p286 (show v1.toInt = yv1.toInt by omega) (show v2.toInt = yv2.toInt by omega) p287 (show 0 + (11 - x276.toInt) * 2 < (n : Int) by omega)
              · have wc281 : (999 : Int) ≤ x262.toInt := c_nlt c281
                exact (dd_nlt c281 (show (999 : Int) ≤ (999 : Int32).toInt ∧ (999 : Int32).toInt ≤ 999 by decide) i263 (by decide)).elim
        · have wc269 : v4.toInt < x267.toInt := c_nle c269
          refine tt_kv (P := fun z => ((0 : Int) ≤ z.toInt ∧ z.toInt ≤ 316045) ∧ z.toInt = 5 * v2.toInt) ⟨iv_mul (show (5 : Int) ≤ (5 : Int32).toInt ∧ (5 : Int32).toInt ≤ 5 by decide) i_v2 (by decide) (by decide) (by decide) (by decide) (by decide), iq_mul (show (5 : Int) ≤ (5 : Int32).toInt ∧ (5 : Int32).toInt ≤ 5 by decide) i_v2 (by decide) (by decide) (by decide) (by decide)⟩ (fun x288 qi289 => ?_)
          obtain ⟨i289, ei289⟩ := qi289
          refine tt_kv (P := fun z => (((-2147483648) : Int) ≤ z.toInt ∧ z.toInt ≤ 316049) ∧ z.toInt = x288.toInt + v4.toInt) ⟨iv_add i289 i203 (by decide) (by decide) (by decide) (by decide), iq_add i289 i203 (by decide) (by decide)⟩ (fun x290 qi291 => ?_)
          obtain ⟨i291, ei291⟩ := qi291
          refine tt_n (ix_rel (by omega) (by omega)) ?_
          have i292 : (0 : Int) ≤ x290.toInt ∧ x290.toInt ≤ 316049 := (by omega)
          refine tt_kv (P := fun z => ((0 : Int) ≤ z.toInt ∧ z.toInt ≤ 208) ∧ z.toInt = (o0.2.1 58 x290.toNatClampNeg).toInt) ⟨(k_o0.2 58 _), rfl⟩ (fun x293 qi294 => ?_)
          obtain ⟨i294, ei294⟩ := qi294
          have jy : x293.toInt = (o0.2.1 58 (5 * v2.toNatClampNeg + v4.toNatClampNeg)).toInt := ix_e ei294 (by rw [← Int.ofNat_inj]; rw [tn_n, Int.natCast_add, Int.natCast_mul]; omega)
          have t295 := tn_n x290
          have t296 := x_6 v1.toNatClampNeg v3.toNatClampNeg (x290.toNatClampNeg)
          have t297 := x_6 v2.toNatClampNeg v4.toNatClampNeg (x290.toNatClampNeg)
          try unfold fM_join_85
          refine tt_if (fun c298 => ?_) (fun c298 => ?_)
          · have wc298 : x293.toInt ≤ x262.toInt := c_le c298
            try unfold fM_join_107
            refine tt_n (ix_rel (by omega) (by omega)) ?_
            have i299 : (0 : Int) ≤ v5.toInt ∧ v5.toInt ≤ 10 := (by omega)
            refine tt_ko ?_
            have k300 := ok_xp (k := 61) (i := v5.toNatClampNeg) (v := x293) k_o0 i294
            have r301 := fr_xp (k := 61) (i := v5.toNatClampNeg) (v := x293) r_o0 rfl
            refine tt_kv (P := fun z => ((1 : Int) ≤ z.toInt ∧ z.toInt ≤ 11) ∧ z.toInt = v5.toInt + 1) ⟨iv_add i299 (show (1 : Int) ≤ (1 : Int32).toInt ∧ (1 : Int32).toInt ≤ 1 by decide) (by decide) (by decide) (by decide) (by decide), iq_add i299 (show (1 : Int) ≤ (1 : Int32).toInt ∧ (1 : Int32).toInt ≤ 1 by decide) (by decide) (by decide)⟩ (fun x302 qi303 => ?_)
            obtain ⟨i303, ei303⟩ := qi303
            refine tt_if (fun c304 => ?_) (fun c304 => ?_)
            · have wc304 : x293.toInt < x262.toInt := c_lt c304
              have i305 : (0 : Int) ≤ x293.toInt ∧ x293.toInt ≤ 207 := nr_ltl c304 i294 i263 (by decide) (by decide)
              have i306 : (1 : Int) ≤ x262.toInt ∧ x262.toInt ≤ 208 := nr_ltr c304 i294 i263 (by decide) (by decide)
              try unfold fM_join_125
              refine tt_if (fun c307 => ?_) (fun c307 => ?_)
              · have wc307 : x262.toInt < x293.toInt := c_lt c307
                have i308 : (1 : Int) ≤ x262.toInt ∧ x262.toInt ≤ 206 := nr_ltl c307 i306 i305 (by decide) (by decide)
                have i309 : (2 : Int) ≤ x293.toInt ∧ x293.toInt ≤ 207 := nr_ltr c307 i306 i305 (by decide) (by decide)
                try unfold fM_join_142
                have t310 : (0 : Int) ≤ (o0.2.1 59 v1.toNatClampNeg).toInt ∧ (o0.2.1 59 v1.toNatClampNeg).toInt ≤ 5 := k300.2 59 _
                have t311 : (0 : Int) ≤ (o0.2.1 59 v2.toNatClampNeg).toInt ∧ (o0.2.1 59 v2.toNatClampNeg).toInt ≤ 5 := k300.2 59 _
                have p312 : Jn x302 (upd (o0.2.1 61) (v5.toNatClampNeg) x293) := by exact Jn_s x_7 (by omega) (by rw [tn_n]; omega) (by omega)
                have p313 : Ju x302.toInt v1 v2 (upd (o0.2.1 61) (v5.toNatClampNeg) x293) (o0.2.1 59) (o0.2.1 58) := by first | exact Ju_l x_8 jx (by omega) (by rw [tn_n]; omega) (by omega) | exact Ju_r x_8 jy (by omega) (by rw [tn_n]; omega) (by omega) | (exfalso; omega)
                have p314 : Jq x302.toInt v3.toInt v4.toInt v1 v2 (o0.2.1 59) (o0.2.1 58) := by first | exact Jq_1 x_9 (by omega) (by omega) | exact Jq_2 (n := v5.toInt) (u := v3.toInt) (w := v4.toInt) jx jy (by omega) (by omega) (by omega) | (exfalso; omega)
                have p315 : Mj x302.toInt v3.toInt v4.toInt v1.toNatClampNeg v2.toNatClampNeg (upd (o0.2.1 61) (v5.toNatClampNeg) x293) (o0.2.1 59) (o0.2.1 58) := by first | exact Mj_l0 x_12 jx (by omega) (by omega) (by rw [tn_n]; omega) (by omega) (by omega) (by omega) (by omega) | exact Mj_r0 x_12 jy (by omega) (by omega) (by rw [tn_n]; omega) (by omega) (by omega) (by omega) (by omega) | exact Mj_l1 x_12 jx jy (by omega) (by omega) (by omega) (by omega) (by rw [tn_n]; omega) (by omega) (by omega) (by omega) (by omega) | exact Mj_r1 x_12 jx jy (by omega) (by omega) (by omega) (by omega) (by rw [tn_n]; omega) (by omega) (by omega) (by omega) (by omega) | exact Mj_b x_12 jx jy (by omega) (by omega) (by omega) (by omega) (by rw [tn_n]; omega) (by omega) (by omega) (by omega) (by omega) | (exfalso; omega)
                exact H _ _ _ _ _ _ k300 r301 i_v1 i_v2 (iv_w (a := 0) (b := 11) (by decide) (by decide) i303) f_o0_0 f_o0_36 f_o0_38 f_o0_43 f_o0_95 (show 0 ≤ v3.toInt by omega) (show v3.toInt ≤ (o0.2.1 59 v1.toNatClampNeg).toInt by omega) (show 0 ≤ v4.toInt by omega) (show v4.toInt ≤ (o0.2.1 59 v2.toNatClampNeg).toInt by omega) (show 0 ≤ x302.toInt by omega) (show x302.toInt ≤ v3.toInt + v4.toInt by omega) x_6 p312 p313 p314 (show v1.toInt = yv1.toInt by omega) (show v2.toInt = yv2.toInt by omega) p315 (show 0 + (11 - x302.toInt) * 2 < (n : Int) by omega)
              · have wc307 : x293.toInt ≤ x262.toInt := c_nlt c307
                refine tt_kv (P := fun z => (((-2147483647) : Int) ≤ z.toInt ∧ z.toInt ≤ 5) ∧ z.toInt = v4.toInt + 1) ⟨iv_add i203 (show (1 : Int) ≤ (1 : Int32).toInt ∧ (1 : Int32).toInt ≤ 1 by decide) (by decide) (by decide) (by decide) (by decide), iq_add i203 (show (1 : Int) ≤ (1 : Int32).toInt ∧ (1 : Int32).toInt ≤ 1 by decide) (by decide) (by decide)⟩ (fun x316 qi317 => ?_)
                obtain ⟨i317, ei317⟩ := qi317
                try unfold fM_join_142
                have t318 : (0 : Int) ≤ (o0.2.1 59 v1.toNatClampNeg).toInt ∧ (o0.2.1 59 v1.toNatClampNeg).toInt ≤ 5 := k300.2 59 _
                have t319 : (0 : Int) ≤ (o0.2.1 59 v2.toNatClampNeg).toInt ∧ (o0.2.1 59 v2.toNatClampNeg).toInt ≤ 5 := k300.2 59 _
                have p320 : Jn x302 (upd (o0.2.1 61) (v5.toNatClampNeg) x293) := by exact Jn_s x_7 (by omega) (by rw [tn_n]; omega) (by omega)
                have p321 : Ju x302.toInt v1 v2 (upd (o0.2.1 61) (v5.toNatClampNeg) x293) (o0.2.1 59) (o0.2.1 58) := by first | exact Ju_l x_8 jx (by omega) (by rw [tn_n]; omega) (by omega) | exact Ju_r x_8 jy (by omega) (by rw [tn_n]; omega) (by omega) | (exfalso; omega)
                have p322 : Jq x302.toInt v3.toInt x316.toInt v1 v2 (o0.2.1 59) (o0.2.1 58) := by first | exact Jq_1 x_9 (by omega) (by omega) | exact Jq_2 (n := v5.toInt) (u := v3.toInt) (w := v4.toInt) jx jy (by omega) (by omega) (by omega) | (exfalso; omega)
                have p323 : Mj x302.toInt v3.toInt x316.toInt v1.toNatClampNeg v2.toNatClampNeg (upd (o0.2.1 61) (v5.toNatClampNeg) x293) (o0.2.1 59) (o0.2.1 58) := by first | exact Mj_l0 x_12 jx (by omega) (by omega) (by rw [tn_n]; omega) (by omega) (by omega) (by omega) (by omega) | exact Mj_r0 x_12 jy (by omega) (by omega) (by rw [tn_n]; omega) (by omega) (by omega) (by omega) (by omega) | exact Mj_l1 x_12 jx jy (by omega) (by omega) (by omega) (by omega) (by rw [tn_n]; omega) (by omega) (by omega) (by omega) (by omega) | exact Mj_r1 x_12 jx jy (by omega) (by omega) (by omega) (by omega) (by rw [tn_n]; omega) (by omega) (by omega) (by omega) (by omega) | exact Mj_b x_12 jx jy (by omega) (by omega) (by omega) (by omega) (by rw [tn_n]; omega) (by omega) (by omega) (by omega) (by omega) | (exfalso; omega)
                exact H _ _ _ _ _ _ k300 r301 i_v1 i_v2 (iv_w (a := 0) (b := 11) (by decide) (by decide) i303) f_o0_0 f_o0_36 f_o0_38 f_o0_43 f_o0_95 (show 0 ≤ v3.toInt by omega) (show v3.toInt ≤ (o0.2.1 59 v1.toNatClampNeg).toInt by omega) (show 0 ≤ x316.toInt by omega) (show x316.toInt ≤ (o0.2.1 59 v2.toNatClampNeg).toInt by omega) (show 0 ≤ x302.toInt by omega) (show x302.toInt ≤ v3.toInt + x316.toInt by omega) x_6 p320 p321 p322 (show v1.toInt = yv1.toInt by omega) (show v2.toInt = yv2.toInt by omega) p323 (show 0 + (11 - x302.toInt) * 2 < (n : Int) by omega)
            · have wc304 : x262.toInt ≤ x293.toInt := c_nlt c304
              refine tt_kv (P := fun z => ((1 : Int) ≤ z.toInt ∧ z.toInt ≤ 5) ∧ z.toInt = v3.toInt + 1) ⟨iv_add i256 (show (1 : Int) ≤ (1 : Int32).toInt ∧ (1 : Int32).toInt ≤ 1 by decide) (by decide) (by decide) (by decide) (by decide), iq_add i256 (show (1 : Int) ≤ (1 : Int32).toInt ∧ (1 : Int32).toInt ≤ 1 by decide) (by decide) (by decide)⟩ (fun x324 qi325 => ?_)
              obtain ⟨i325, ei325⟩ := qi325
              try unfold fM_join_125
              refine tt_if (fun c326 => ?_) (fun c326 => ?_)
              · have wc326 : x262.toInt < x293.toInt := c_lt c326
                have i327 : (0 : Int) ≤ x262.toInt ∧ x262.toInt ≤ 207 := nr_ltl c326 i263 i294 (by decide) (by decide)
                have i328 : (1 : Int) ≤ x293.toInt ∧ x293.toInt ≤ 208 := nr_ltr c326 i263 i294 (by decide) (by decide)
                try unfold fM_join_142
                have t329 : (0 : Int) ≤ (o0.2.1 59 v1.toNatClampNeg).toInt ∧ (o0.2.1 59 v1.toNatClampNeg).toInt ≤ 5 := k300.2 59 _
                have t330 : (0 : Int) ≤ (o0.2.1 59 v2.toNatClampNeg).toInt ∧ (o0.2.1 59 v2.toNatClampNeg).toInt ≤ 5 := k300.2 59 _
                have p331 : Jn x302 (upd (o0.2.1 61) (v5.toNatClampNeg) x293) := by exact Jn_s x_7 (by omega) (by rw [tn_n]; omega) (by omega)
                have p332 : Ju x302.toInt v1 v2 (upd (o0.2.1 61) (v5.toNatClampNeg) x293) (o0.2.1 59) (o0.2.1 58) := by first | exact Ju_l x_8 jx (by omega) (by rw [tn_n]; omega) (by omega) | exact Ju_r x_8 jy (by omega) (by rw [tn_n]; omega) (by omega) | (exfalso; omega)
                have p333 : Jq x302.toInt x324.toInt v4.toInt v1 v2 (o0.2.1 59) (o0.2.1 58) := by first | exact Jq_1 x_9 (by omega) (by omega) | exact Jq_2 (n := v5.toInt) (u := v3.toInt) (w := v4.toInt) jx jy (by omega) (by omega) (by omega) | (exfalso; omega)
                have p334 : Mj x302.toInt x324.toInt v4.toInt v1.toNatClampNeg v2.toNatClampNeg (upd (o0.2.1 61) (v5.toNatClampNeg) x293) (o0.2.1 59) (o0.2.1 58) := by first | exact Mj_l0 x_12 jx (by omega) (by omega) (by rw [tn_n]; omega) (by omega) (by omega) (by omega) (by omega) | exact Mj_r0 x_12 jy (by omega) (by omega) (by rw [tn_n]; omega) (by omega) (by omega) (by omega) (by omega) | exact Mj_l1 x_12 jx jy (by omega) (by omega) (by omega) (by omega) (by rw [tn_n]; omega) (by omega) (by omega) (by omega) (by omega) | exact Mj_r1 x_12 jx jy (by omega) (by omega) (by omega) (by omega) (by rw [tn_n]; omega) (by omega) (by omega) (by omega) (by omega) | exact Mj_b x_12 jx jy (by omega) (by omega) (by omega) (by omega) (by rw [tn_n]; omega) (by omega) (by omega) (by omega) (by omega) | (exfalso; omega)
                exact H _ _ _ _ _ _ k300 r301 i_v1 i_v2 (iv_w (a := 0) (b := 11) (by decide) (by decide) i303) f_o0_0 f_o0_36 f_o0_38 f_o0_43 f_o0_95 (show 0 ≤ x324.toInt by omega) (show x324.toInt ≤ (o0.2.1 59 v1.toNatClampNeg).toInt by omega) (show 0 ≤ v4.toInt by omega) (show v4.toInt ≤ (o0.2.1 59 v2.toNatClampNeg).toInt by omega) (show 0 ≤ x302.toInt by omega) (show x302.toInt ≤ x324.toInt + v4.toInt by omega) x_6 p331 p332 p333 (show v1.toInt = yv1.toInt by omega) (show v2.toInt = yv2.toInt by omega) p334 (show 0 + (11 - x302.toInt) * 2 < (n : Int) by omega)
              · have wc326 : x293.toInt ≤ x262.toInt := c_nlt c326
                refine tt_kv (P := fun z => (((-2147483647) : Int) ≤ z.toInt ∧ z.toInt ≤ 5) ∧ z.toInt = v4.toInt + 1) ⟨iv_add i203 (show (1 : Int) ≤ (1 : Int32).toInt ∧ (1 : Int32).toInt ≤ 1 by decide) (by decide) (by decide) (by decide) (by decide), iq_add i203 (show (1 : Int) ≤ (1 : Int32).toInt ∧ (1 : Int32).toInt ≤ 1 by decide) (by decide) (by decide)⟩ (fun x335 qi336 => ?_)
                obtain ⟨i336, ei336⟩ := qi336
                try unfold fM_join_142
                have t337 : (0 : Int) ≤ (o0.2.1 59 v1.toNatClampNeg).toInt ∧ (o0.2.1 59 v1.toNatClampNeg).toInt ≤ 5 := k300.2 59 _
                have t338 : (0 : Int) ≤ (o0.2.1 59 v2.toNatClampNeg).toInt ∧ (o0.2.1 59 v2.toNatClampNeg).toInt ≤ 5 := k300.2 59 _
                have p339 : Jn x302 (upd (o0.2.1 61) (v5.toNatClampNeg) x293) := by exact Jn_s x_7 (by omega) (by rw [tn_n]; omega) (by omega)
                have p340 : Ju x302.toInt v1 v2 (upd (o0.2.1 61) (v5.toNatClampNeg) x293) (o0.2.1 59) (o0.2.1 58) := by first | exact Ju_l x_8 jx (by omega) (by rw [tn_n]; omega) (by omega) | exact Ju_r x_8 jy (by omega) (by rw [tn_n]; omega) (by omega) | (exfalso; omega)
                have p341 : Jq x302.toInt x324.toInt x335.toInt v1 v2 (o0.2.1 59) (o0.2.1 58) := by first | exact Jq_1 x_9 (by omega) (by omega) | exact Jq_2 (n := v5.toInt) (u := v3.toInt) (w := v4.toInt) jx jy (by omega) (by omega) (by omega) | (exfalso; omega)
                have p342 : Mj x302.toInt x324.toInt x335.toInt v1.toNatClampNeg v2.toNatClampNeg (upd (o0.2.1 61) (v5.toNatClampNeg) x293) (o0.2.1 59) (o0.2.1 58) := by first | exact Mj_l0 x_12 jx (by omega) (by omega) (by rw [tn_n]; omega) (by omega) (by omega) (by omega) (by omega) | exact Mj_r0 x_12 jy (by omega) (by omega) (by rw [tn_n]; omega) (by omega) (by omega) (by omega) (by omega) | exact Mj_l1 x_12 jx jy (by omega) (by omega) (by omega) (by omega) (by rw [tn_n]; omega) (by omega) (by omega) (by omega) (by omega) | exact Mj_r1 x_12 jx jy (by omega) (by omega) (by omega) (by omega) (by rw [tn_n]; omega) (by omega) (by omega) (by omega) (by omega) | exact Mj_b x_12 jx jy (by omega) (by omega) (by omega) (by omega) (by rw [tn_n]; omega) (by omega) (by omega) (by omega) (by omega) | (exfalso; omega)
                exact H _ _ _ _ _ _ k300 r301 i_v1 i_v2 (iv_w (a := 0) (b := 11) (by decide) (by decide) i303) f_o0_0 f_o0_36 f_o0_38 f_o0_43 f_o0_95 (show 0 ≤ x324.toInt by omega) (show x324.toInt ≤ (o0.2.1 59 v1.toNatClampNeg).toInt by omega) (show 0 ≤ x335.toInt by omega) (show x335.toInt ≤ (o0.2.1 59 v2.toNatClampNeg).toInt by omega) (show 0 ≤ x302.toInt by omega) (show x302.toInt ≤ x324.toInt + x335.toInt by omega) x_6 p339 p340 p341 (show v1.toInt = yv1.toInt by omega) (show v2.toInt = yv2.toInt by omega) p342 (show 0 + (11 - x302.toInt) * 2 < (n : Int) by omega)
          · have wc298 : x262.toInt < x293.toInt := c_nle c298
            have i343 : (0 : Int) ≤ x262.toInt ∧ x262.toInt ≤ 207 := nr_nlel c298 i263 i294 (by decide) (by decide)
            have i344 : (1 : Int) ≤ x293.toInt ∧ x293.toInt ≤ 208 := nr_nler c298 i263 i294 (by decide) (by decide)
            try unfold fM_join_107
            refine tt_n (ix_rel (by omega) (by omega)) ?_
            have i345 : (0 : Int) ≤ v5.toInt ∧ v5.toInt ≤ 10 := (by omega)
            refine tt_ko ?_
            have k346 := ok_xp (k := 61) (i := v5.toNatClampNeg) (v := x262) k_o0 (iv_w (a := 0) (b := 208) (by decide) (by decide) i343)
            have r347 := fr_xp (k := 61) (i := v5.toNatClampNeg) (v := x262) r_o0 rfl
            refine tt_kv (P := fun z => ((1 : Int) ≤ z.toInt ∧ z.toInt ≤ 11) ∧ z.toInt = v5.toInt + 1) ⟨iv_add i345 (show (1 : Int) ≤ (1 : Int32).toInt ∧ (1 : Int32).toInt ≤ 1 by decide) (by decide) (by decide) (by decide) (by decide), iq_add i345 (show (1 : Int) ≤ (1 : Int32).toInt ∧ (1 : Int32).toInt ≤ 1 by decide) (by decide) (by decide)⟩ (fun x348 qi349 => ?_)
            obtain ⟨i349, ei349⟩ := qi349
            refine tt_if (fun c350 => ?_) (fun c350 => ?_)
            · have wc350 : x293.toInt < x262.toInt := c_lt c350
              have i351 : (1 : Int) ≤ x293.toInt ∧ x293.toInt ≤ 206 := nr_ltl c350 i344 i343 (by decide) (by decide)
              have i352 : (2 : Int) ≤ x262.toInt ∧ x262.toInt ≤ 207 := nr_ltr c350 i344 i343 (by decide) (by decide)
              try unfold fM_join_125
              refine tt_if (fun c353 => ?_) (fun c353 => ?_)
              · have wc353 : x262.toInt < x293.toInt := c_lt c353
                have i354 : (2 : Int) ≤ x262.toInt ∧ x262.toInt ≤ 205 := nr_ltl c353 i352 i351 (by decide) (by decide)
                have i355 : (3 : Int) ≤ x293.toInt ∧ x293.toInt ≤ 206 := nr_ltr c353 i352 i351 (by decide) (by decide)
                try unfold fM_join_142
                have t356 : (0 : Int) ≤ (o0.2.1 59 v1.toNatClampNeg).toInt ∧ (o0.2.1 59 v1.toNatClampNeg).toInt ≤ 5 := k346.2 59 _
                have t357 : (0 : Int) ≤ (o0.2.1 59 v2.toNatClampNeg).toInt ∧ (o0.2.1 59 v2.toNatClampNeg).toInt ≤ 5 := k346.2 59 _
                have p358 : Jn x348 (upd (o0.2.1 61) (v5.toNatClampNeg) x262) := by exact Jn_s x_7 (by omega) (by rw [tn_n]; omega) (by omega)
                have p359 : Ju x348.toInt v1 v2 (upd (o0.2.1 61) (v5.toNatClampNeg) x262) (o0.2.1 59) (o0.2.1 58) := by first | exact Ju_l x_8 jx (by omega) (by rw [tn_n]; omega) (by omega) | exact Ju_r x_8 jy (by omega) (by rw [tn_n]; omega) (by omega) | (exfalso; omega)
                have p360 : Jq x348.toInt v3.toInt v4.toInt v1 v2 (o0.2.1 59) (o0.2.1 58) := by first | exact Jq_1 x_9 (by omega) (by omega) | exact Jq_2 (n := v5.toInt) (u := v3.toInt) (w := v4.toInt) jx jy (by omega) (by omega) (by omega) | (exfalso; omega)
                have p361 : Mj x348.toInt v3.toInt v4.toInt v1.toNatClampNeg v2.toNatClampNeg (upd (o0.2.1 61) (v5.toNatClampNeg) x262) (o0.2.1 59) (o0.2.1 58) := by first | exact Mj_l0 x_12 jx (by omega) (by omega) (by rw [tn_n]; omega) (by omega) (by omega) (by omega) (by omega) | exact Mj_r0 x_12 jy (by omega) (by omega) (by rw [tn_n]; omega) (by omega) (by omega) (by omega) (by omega) | exact Mj_l1 x_12 jx jy (by omega) (by omega) (by omega) (by omega) (by rw [tn_n]; omega) (by omega) (by omega) (by omega) (by omega) | exact Mj_r1 x_12 jx jy (by omega) (by omega) (by omega) (by omega) (by rw [tn_n]; omega) (by omega) (by omega) (by omega) (by omega) | exact Mj_b x_12 jx jy (by omega) (by omega) (by omega) (by omega) (by rw [tn_n]; omega) (by omega) (by omega) (by omega) (by omega) | (exfalso; omega)
                exact H _ _ _ _ _ _ k346 r347 i_v1 i_v2 (iv_w (a := 0) (b := 11) (by decide) (by decide) i349) f_o0_0 f_o0_36 f_o0_38 f_o0_43 f_o0_95 (show 0 ≤ v3.toInt by omega) (show v3.toInt ≤ (o0.2.1 59 v1.toNatClampNeg).toInt by omega) (show 0 ≤ v4.toInt by omega) (show v4.toInt ≤ (o0.2.1 59 v2.toNatClampNeg).toInt by omega) (show 0 ≤ x348.toInt by omega) (show x348.toInt ≤ v3.toInt + v4.toInt by omega) x_6 p358 p359 p360 (show v1.toInt = yv1.toInt by omega) (show v2.toInt = yv2.toInt by omega) p361 (show 0 + (11 - x348.toInt) * 2 < (n : Int) by omega)
              · have wc353 : x293.toInt ≤ x262.toInt := c_nlt c353
                refine tt_kv (P := fun z => (((-2147483647) : Int) ≤ z.toInt ∧ z.toInt ≤ 5) ∧ z.toInt = v4.toInt + 1) ⟨iv_add i203 (show (1 : Int) ≤ (1 : Int32).toInt ∧ (1 : Int32).toInt ≤ 1 by decide) (by decide) (by decide) (by decide) (by decide), iq_add i203 (show (1 : Int) ≤ (1 : Int32).toInt ∧ (1 : Int32).toInt ≤ 1 by decide) (by decide) (by decide)⟩ (fun x362 qi363 => ?_)
                obtain ⟨i363, ei363⟩ := qi363
                try unfold fM_join_142
                have t364 : (0 : Int) ≤ (o0.2.1 59 v1.toNatClampNeg).toInt ∧ (o0.2.1 59 v1.toNatClampNeg).toInt ≤ 5 := k346.2 59 _
                have t365 : (0 : Int) ≤ (o0.2.1 59 v2.toNatClampNeg).toInt ∧ (o0.2.1 59 v2.toNatClampNeg).toInt ≤ 5 := k346.2 59 _
                have p366 : Jn x348 (upd (o0.2.1 61) (v5.toNatClampNeg) x262) := by exact Jn_s x_7 (by omega) (by rw [tn_n]; omega) (by omega)
                have p367 : Ju x348.toInt v1 v2 (upd (o0.2.1 61) (v5.toNatClampNeg) x262) (o0.2.1 59) (o0.2.1 58) := by first | exact Ju_l x_8 jx (by omega) (by rw [tn_n]; omega) (by omega) | exact Ju_r x_8 jy (by omega) (by rw [tn_n]; omega) (by omega) | (exfalso; omega)
                have p368 : Jq x348.toInt v3.toInt x362.toInt v1 v2 (o0.2.1 59) (o0.2.1 58) := by first | exact Jq_1 x_9 (by omega) (by omega) | exact Jq_2 (n := v5.toInt) (u := v3.toInt) (w := v4.toInt) jx jy (by omega) (by omega) (by omega) | (exfalso; omega)
                have p369 : Mj x348.toInt v3.toInt x362.toInt v1.toNatClampNeg v2.toNatClampNeg (upd (o0.2.1 61) (v5.toNatClampNeg) x262) (o0.2.1 59) (o0.2.1 58) := by first | exact Mj_l0 x_12 jx (by omega) (by omega) (by rw [tn_n]; omega) (by omega) (by omega) (by omega) (by omega) | exact Mj_r0 x_12 jy (by omega) (by omega) (by rw [tn_n]; omega) (by omega) (by omega) (by omega) (by omega) | exact Mj_l1 x_12 jx jy (by omega) (by omega) (by omega) (by omega) (by rw [tn_n]; omega) (by omega) (by omega) (by omega) (by omega) | exact Mj_r1 x_12 jx jy (by omega) (by omega) (by omega) (by omega) (by rw [tn_n]; omega) (by omega) (by omega) (by omega) (by omega) | exact Mj_b x_12 jx jy (by omega) (by omega) (by omega) (by omega) (by rw [tn_n]; omega) (by omega) (by omega) (by omega) (by omega) | (exfalso; omega)
                exact H _ _ _ _ _ _ k346 r347 i_v1 i_v2 (iv_w (a := 0) (b := 11) (by decide) (by decide) i349) f_o0_0 f_o0_36 f_o0_38 f_o0_43 f_o0_95 (show 0 ≤ v3.toInt by omega) (show v3.toInt ≤ (o0.2.1 59 v1.toNatClampNeg).toInt by omega) (show 0 ≤ x362.toInt by omega) (show x362.toInt ≤ (o0.2.1 59 v2.toNatClampNeg).toInt by omega) (show 0 ≤ x348.toInt by omega) (show x348.toInt ≤ v3.toInt + x362.toInt by omega) x_6 p366 p367 p368 (show v1.toInt = yv1.toInt by omega) (show v2.toInt = yv2.toInt by omega) p369 (show 0 + (11 - x348.toInt) * 2 < (n : Int) by omega)
            · have wc350 : x262.toInt ≤ x293.toInt := c_nlt c350
              refine tt_kv (P := fun z => ((1 : Int) ≤ z.toInt ∧ z.toInt ≤ 5) ∧ z.toInt = v3.toInt + 1) ⟨iv_add i256 (show (1 : Int) ≤ (1 : Int32).toInt ∧ (1 : Int32).toInt ≤ 1 by decide) (by decide) (by decide) (by decide) (by decide), iq_add i256 (show (1 : Int) ≤ (1 : Int32).toInt ∧ (1 : Int32).toInt ≤ 1 by decide) (by decide) (by decide)⟩ (fun x370 qi371 => ?_)
              obtain ⟨i371, ei371⟩ := qi371
              try unfold fM_join_125
              refine tt_if (fun c372 => ?_) (fun c372 => ?_)
              · have wc372 : x262.toInt < x293.toInt := c_lt c372
                try unfold fM_join_142
                have t373 : (0 : Int) ≤ (o0.2.1 59 v1.toNatClampNeg).toInt ∧ (o0.2.1 59 v1.toNatClampNeg).toInt ≤ 5 := k346.2 59 _
                have t374 : (0 : Int) ≤ (o0.2.1 59 v2.toNatClampNeg).toInt ∧ (o0.2.1 59 v2.toNatClampNeg).toInt ≤ 5 := k346.2 59 _
                have p375 : Jn x348 (upd (o0.2.1 61) (v5.toNatClampNeg) x262) := by exact Jn_s x_7 (by omega) (by rw [tn_n]; omega) (by omega)
                have p376 : Ju x348.toInt v1 v2 (upd (o0.2.1 61) (v5.toNatClampNeg) x262) (o0.2.1 59) (o0.2.1 58) := by first | exact Ju_l x_8 jx (by omega) (by rw [tn_n]; omega) (by omega) | exact Ju_r x_8 jy (by omega) (by rw [tn_n]; omega) (by omega) | (exfalso; omega)
                have p377 : Jq x348.toInt x370.toInt v4.toInt v1 v2 (o0.2.1 59) (o0.2.1 58) := by first | exact Jq_1 x_9 (by omega) (by omega) | exact Jq_2 (n := v5.toInt) (u := v3.toInt) (w := v4.toInt) jx jy (by omega) (by omega) (by omega) | (exfalso; omega)
                have p378 : Mj x348.toInt x370.toInt v4.toInt v1.toNatClampNeg v2.toNatClampNeg (upd (o0.2.1 61) (v5.toNatClampNeg) x262) (o0.2.1 59) (o0.2.1 58) := by first | exact Mj_l0 x_12 jx (by omega) (by omega) (by rw [tn_n]; omega) (by omega) (by omega) (by omega) (by omega) | exact Mj_r0 x_12 jy (by omega) (by omega) (by rw [tn_n]; omega) (by omega) (by omega) (by omega) (by omega) | exact Mj_l1 x_12 jx jy (by omega) (by omega) (by omega) (by omega) (by rw [tn_n]; omega) (by omega) (by omega) (by omega) (by omega) | exact Mj_r1 x_12 jx jy (by omega) (by omega) (by omega) (by omega) (by rw [tn_n]; omega) (by omega) (by omega) (by omega) (by omega) | exact Mj_b x_12 jx jy (by omega) (by omega) (by omega) (by omega) (by rw [tn_n]; omega) (by omega) (by omega) (by omega) (by omega) | (exfalso; omega)
                exact H _ _ _ _ _ _ k346 r347 i_v1 i_v2 (iv_w (a := 0) (b := 11) (by decide) (by decide) i349) f_o0_0 f_o0_36 f_o0_38 f_o0_43 f_o0_95 (show 0 ≤ x370.toInt by omega) (show x370.toInt ≤ (o0.2.1 59 v1.toNatClampNeg).toInt by omega) (show 0 ≤ v4.toInt by omega) (show v4.toInt ≤ (o0.2.1 59 v2.toNatClampNeg).toInt by omega) (show 0 ≤ x348.toInt by omega) (show x348.toInt ≤ x370.toInt + v4.toInt by omega) x_6 p375 p376 p377 (show v1.toInt = yv1.toInt by omega) (show v2.toInt = yv2.toInt by omega) p378 (show 0 + (11 - x348.toInt) * 2 < (n : Int) by omega)
              · have wc372 : x293.toInt ≤ x262.toInt := c_nlt c372
                have i379 : (1 : Int) ≤ x293.toInt ∧ x293.toInt ≤ 207 := nr_nltl c372 i344 i343 (by decide) (by decide)
                have i380 : (1 : Int) ≤ x262.toInt ∧ x262.toInt ≤ 207 := nr_nltr c372 i344 i343 (by decide) (by decide)
                refine tt_kv (P := fun z => (((-2147483647) : Int) ≤ z.toInt ∧ z.toInt ≤ 5) ∧ z.toInt = v4.toInt + 1) ⟨iv_add i203 (show (1 : Int) ≤ (1 : Int32).toInt ∧ (1 : Int32).toInt ≤ 1 by decide) (by decide) (by decide) (by decide) (by decide), iq_add i203 (show (1 : Int) ≤ (1 : Int32).toInt ∧ (1 : Int32).toInt ≤ 1 by decide) (by decide) (by decide)⟩ (fun x381 qi382 => ?_)
                obtain ⟨i382, ei382⟩ := qi382
                try unfold fM_join_142
                have t383 : (0 : Int) ≤ (o0.2.1 59 v1.toNatClampNeg).toInt ∧ (o0.2.1 59 v1.toNatClampNeg).toInt ≤ 5 := k346.2 59 _
                have t384 : (0 : Int) ≤ (o0.2.1 59 v2.toNatClampNeg).toInt ∧ (o0.2.1 59 v2.toNatClampNeg).toInt ≤ 5 := k346.2 59 _
                have p385 : Jn x348 (upd (o0.2.1 61) (v5.toNatClampNeg) x262) := by exact Jn_s x_7 (by omega) (by rw [tn_n]; omega) (by omega)
                have p386 : Ju x348.toInt v1 v2 (upd (o0.2.1 61) (v5.toNatClampNeg) x262) (o0.2.1 59) (o0.2.1 58) := by first | exact Ju_l x_8 jx (by omega) (by rw [tn_n]; omega) (by omega) | exact Ju_r x_8 jy (by omega) (by rw [tn_n]; omega) (by omega) | (exfalso; omega)
                have p387 : Jq x348.toInt x370.toInt x381.toInt v1 v2 (o0.2.1 59) (o0.2.1 58) := by first | exact Jq_1 x_9 (by omega) (by omega) | exact Jq_2 (n := v5.toInt) (u := v3.toInt) (w := v4.toInt) jx jy (by omega) (by omega) (by omega) | (exfalso; omega)
                have p388 : Mj x348.toInt x370.toInt x381.toInt v1.toNatClampNeg v2.toNatClampNeg (upd (o0.2.1 61) (v5.toNatClampNeg) x262) (o0.2.1 59) (o0.2.1 58) := by first | exact Mj_l0 x_12 jx (by omega) (by omega) (by rw [tn_n]; omega) (by omega) (by omega) (by omega) (by omega) | exact Mj_r0 x_12 jy (by omega) (by omega) (by rw [tn_n]; omega) (by omega) (by omega) (by omega) (by omega) | exact Mj_l1 x_12 jx jy (by omega) (by omega) (by omega) (by omega) (by rw [tn_n]; omega) (by omega) (by omega) (by omega) (by omega) | exact Mj_r1 x_12 jx jy (by omega) (by omega) (by omega) (by omega) (by rw [tn_n]; omega) (by omega) (by omega) (by omega) (by omega) | exact Mj_b x_12 jx jy (by omega) (by omega) (by omega) (by omega) (by rw [tn_n]; omega) (by omega) (by omega) (by omega) (by omega) | (exfalso; omega)
                exact H _ _ _ _ _ _ k346 r347 i_v1 i_v2 (iv_w (a := 0) (b := 11) (by decide) (by decide) i349) f_o0_0 f_o0_36 f_o0_38 f_o0_43 f_o0_95 (show 0 ≤ x370.toInt by omega) (show x370.toInt ≤ (o0.2.1 59 v1.toNatClampNeg).toInt by omega) (show 0 ≤ x381.toInt by omega) (show x381.toInt ≤ (o0.2.1 59 v2.toNatClampNeg).toInt by omega) (show 0 ≤ x348.toInt by omega) (show x348.toInt ≤ x370.toInt + x381.toInt by omega) x_6 p385 p386 p387 (show v1.toInt = yv1.toInt by omega) (show v2.toInt = yv2.toInt by omega) p388 (show 0 + (11 - x348.toInt) * 2 < (n : Int) by omega)
set_option maxHeartbeats 4000000 in
set_option maxRecDepth 100000 in
theorem hM_join (yv1 : Int32) (yv2 : Int32) (yo0 : cf_O) : ∀ n, HM_join yv1 yv2 yo0 n := by
  intro n
  induction n with
  | zero => exact (fun v1 v2 v3 v4 v5 o0 k_o0 r_o0 i_v1 i_v2 i_v5 f_o0_0 f_o0_36 f_o0_38 f_o0_43 f_o0_95 x_0 x_1 x_2 x_3 x_4 x_5 x_6 x_7 x_8 x_9 x_10 x_11 x_12 hm => by exact absurd (show 0 + (11 - v5.toInt) * 2 < (0 : Int) from hm) (by omega))
  | succ n ih => exact (fun v1 v2 v3 v4 v5 o0 k_o0 r_o0 i_v1 i_v2 i_v5 f_o0_0 f_o0_36 f_o0_38 f_o0_43 f_o0_95 x_0 x_1 x_2 x_3 x_4 x_5 x_6 x_7 x_8 x_9 x_10 x_11 x_12 hm => tM_join_8 ih v1 v2 v3 v4 v5 o0 k_o0 r_o0 i_v1 i_v2 i_v5 f_o0_0 f_o0_36 f_o0_38 f_o0_43 f_o0_95 x_0 x_1 x_2 x_3 x_4 x_5 x_6 x_7 x_8 x_9 x_10 x_11 x_12 (by omega))
set_option maxHeartbeats 4000000 in
set_option maxRecDepth 100000 in
theorem sM_join (v1 : Int32) (v2 : Int32) (o0 : cf_O) (k_o0 : okO I_M o0) (i_v1 : (0 : Int) ≤ v1.toInt ∧ v1.toInt ≤ 63209) (i_v2 : (0 : Int) ≤ v2.toInt ∧ v2.toInt ≤ 62908) (f_o0_0 : (0 : Int) ≤ (o0.1 0).toInt ∧ (o0.1 0).toInt ≤ 2) (f_o0_36 : (0 : Int) ≤ (o0.1 36).toInt ∧ (o0.1 36).toInt ≤ 0) (f_o0_38 : (1 : Int) ≤ (o0.1 38).toInt ∧ (o0.1 38).toInt ≤ 1) (f_o0_43 : (1 : Int) ≤ (o0.1 43).toInt ∧ (o0.1 43).toInt ≤ 200) (f_o0_95 : (0 : Int) ≤ (o0.1 95).toInt ∧ (o0.1 95).toInt ≤ 0) (x_0 : Cn (o0.2.1 59) (o0.2.1 58)) : tt (fM_join v1 v2 o0) (QM_join v1 v2 o0) := by
  have H := hM_join v1 v2 o0 cfFU
  have hm : (25 : Int) ≤ (cfFU : Nat) := by decide
  have r_o0 : Fr (fr_M [] [61] []) o0 o0 := fr_rfl
  unfold fM_join fM_join_0
  have t1 : (0 : Int) ≤ (o0.2.1 59 v1.toNatClampNeg).toInt ∧ (o0.2.1 59 v1.toNatClampNeg).toInt ≤ 5 := k_o0.2 59 _
  have t2 : (0 : Int) ≤ (o0.2.1 59 v2.toNatClampNeg).toInt ∧ (o0.2.1 59 v2.toNatClampNeg).toInt ≤ 5 := k_o0.2 59 _
  have p3 : Jn (0 : Int32) (o0.2.1 61) := by exact Jn_0 _
  have p4 : Ju 0 v1 v2 (o0.2.1 61) (o0.2.1 59) (o0.2.1 58) := by exact Ju_0 _ _ _ _ _
  have p5 : Jq 0 0 0 v1 v2 (o0.2.1 59) (o0.2.1 58) := by exact fun _ _ _ => rfl
  have p6 : Mj 0 0 0 v1.toNatClampNeg v2.toNatClampNeg (o0.2.1 61) (o0.2.1 59) (o0.2.1 58) := by exact Mj_0 _ _ _ _ _
  exact H _ _ _ _ _ _ k_o0 r_o0 i_v1 (iv_w (a := 0) (b := 63209) (by decide) (by decide) i_v2) (iv_w (a := 0) (b := 11) (by decide) (by decide) (show (0 : Int) ≤ (0 : Int32).toInt ∧ (0 : Int32).toInt ≤ 0 by decide)) f_o0_0 f_o0_36 f_o0_38 f_o0_43 f_o0_95 (show 0 ≤ 0 by omega) (show 0 ≤ (o0.2.1 59 v1.toNatClampNeg).toInt by omega) (show 0 ≤ 0 by omega) (show 0 ≤ (o0.2.1 59 v2.toNatClampNeg).toInt by omega) (show 0 ≤ 0 by omega) (show 0 ≤ 0 + 0 by omega) x_0 p3 p4 p5 (show v1.toInt = v1.toInt by omega) (show v2.toInt = v2.toInt by omega) p6 (show 0 + (11 - 0) * 2 < ((cfFU : Nat) : Int) by omega)
def QM_isPart (v1 : Int32) (v2 : Int32) (v3 : Int32) (o0 : cf_O) (r : (Int32)) : Prop := ((0 : Int) ≤ r.toInt ∧ r.toInt ≤ 1) ∧ (Iq2 r.toInt v1.toNatClampNeg v2.toInt (o0.2.1 61) (o0.2.1 59) (o0.2.1 58)) ∧ True
def HM_isPart (yv1 : Int32) (yv2 : Int32) (yv3 : Int32) (yo0 : cf_O) (n : Nat) : Prop := (∀ (v1 : Int32) (v2 : Int32) (v4 : Int32) (v5 : Int32) (o0 : cf_O), (okO I_M o0) → (Fr (fr_M [] [] []) yo0 o0) → ((301 : Int) ≤ v1.toInt ∧ v1.toInt ≤ 63209) → ((0 : Int) ≤ v2.toInt ∧ v2.toInt ≤ 5) → ((0 : Int) ≤ v4.toInt ∧ v4.toInt ≤ 5) → ((0 : Int) ≤ v5.toInt ∧ v5.toInt ≤ 5) → ((0 : Int) ≤ (o0.1 0).toInt ∧ (o0.1 0).toInt ≤ 2) → ((0 : Int) ≤ (o0.1 36).toInt ∧ (o0.1 36).toInt ≤ 0) → ((1 : Int) ≤ (o0.1 38).toInt ∧ (o0.1 38).toInt ≤ 1) → ((1 : Int) ≤ (o0.1 43).toInt ∧ (o0.1 43).toInt ≤ 200) → ((0 : Int) ≤ (o0.1 95).toInt ∧ (o0.1 95).toInt ≤ 0) → (Ip v4.toInt v5.toInt v1.toNatClampNeg v2.toInt (o0.2.1 61) (o0.2.1 59) (o0.2.1 58)) → (0 ≤ v4.toInt) → (0 ≤ v5.toInt) → (v1.toInt = yv1.toInt) → (v2.toInt = yv2.toInt) → (0 ≤ v1.toInt) → (v4.toInt ≤ (o0.2.1 59 v1.toNatClampNeg).toInt) → 0 + (5 - v5.toInt) * 2 < (n : Int) → tt (gM_isPart n 0 v1 v2 v4 v5 o0) (QM_isPart yv1 yv2 yv3 yo0))
set_option maxHeartbeats 4000000 in
set_option maxRecDepth 100000 in
theorem tM_isPart_21 {yv1 : Int32} {yv2 : Int32} {yv3 : Int32} {yo0 : cf_O} {n : Nat} (H : HM_isPart yv1 yv2 yv3 yo0 n) (v1 : Int32) (v2 : Int32) (v4 : Int32) (v5 : Int32) (o0 : cf_O) (k_o0 : okO I_M o0) (r_o0 : Fr (fr_M [] [] []) yo0 o0) (i_v1 : (301 : Int) ≤ v1.toInt ∧ v1.toInt ≤ 63209) (i_v2 : (0 : Int) ≤ v2.toInt ∧ v2.toInt ≤ 5) (i_v4 : (0 : Int) ≤ v4.toInt ∧ v4.toInt ≤ 5) (i_v5 : (0 : Int) ≤ v5.toInt ∧ v5.toInt ≤ 5) (f_o0_0 : (0 : Int) ≤ (o0.1 0).toInt ∧ (o0.1 0).toInt ≤ 2) (f_o0_36 : (0 : Int) ≤ (o0.1 36).toInt ∧ (o0.1 36).toInt ≤ 0) (f_o0_38 : (1 : Int) ≤ (o0.1 38).toInt ∧ (o0.1 38).toInt ≤ 1) (f_o0_43 : (1 : Int) ≤ (o0.1 43).toInt ∧ (o0.1 43).toInt ≤ 200) (f_o0_95 : (0 : Int) ≤ (o0.1 95).toInt ∧ (o0.1 95).toInt ≤ 0) (x_0 : Ip v4.toInt v5.toInt v1.toNatClampNeg v2.toInt (o0.2.1 61) (o0.2.1 59) (o0.2.1 58)) (x_1 : 0 ≤ v4.toInt) (x_2 : 0 ≤ v5.toInt) (x_3 : v1.toInt = yv1.toInt) (x_4 : v2.toInt = yv2.toInt) (x_5 : 0 ≤ v1.toInt) (x_6 : v4.toInt ≤ (o0.2.1 59 v1.toNatClampNeg).toInt) (hm : 0 + (5 - v5.toInt) * 2 ≤ (n : Int)) : tt (fM_isPart_21 (gM_isPart n) v1 v2 v4 v5 o0) (QM_isPart yv1 yv2 yv3 yo0) := by
  unfold fM_isPart_21
  refine tt_if (fun c1 => ?_) (fun c1 => ?_)
  · have wc1 : v2.toInt ≤ v5.toInt := c_le c1
    try unfold fM_isPart_76
    refine tt_n (ix_ok i_v1 (by decide) (by decide)) ?_
    refine tt_kv (P := fun z => ((0 : Int) ≤ z.toInt ∧ z.toInt ≤ 5) ∧ z = (o0.2.1 59 v1.toNatClampNeg) ∧ z.toInt = (o0.2.1 59 v1.toNatClampNeg).toInt) ⟨(k_o0.2 59 _), rfl, rfl⟩ (fun x2 qi3 => ?_)
    obtain ⟨i3, ax2, ei3⟩ := qi3
    refine tt_if (fun c4 => ?_) (fun c4 => ?_)
    · have wc4 : v4.toInt = x2.toInt := c_eq c4
      try unfold fM_isPart_92
      refine tt_w (iv_b (show (1 : Int) ≤ (1 : Int32).toInt ∧ (1 : Int32).toInt ≤ 1 by decide) (by decide) (by decide)) ?_
      have p5 : Iq2 1 yv1.toNatClampNeg yv2.toInt (yo0.2.1 61) (yo0.2.1 59) (yo0.2.1 58) := by rw [← r_o0.2.1 59 rfl, ← r_o0.2.1 58 rfl, ← r_o0.2.1 61 rfl, show yv1 = v1 from (i_eq x_3).symm, show yv2 = v2 from (i_eq x_4).symm]; first | exact Ip_t x_0 (by omega) (by decide) | exact Ip_f x_0 (by omega) (by omega) (by omega) (by decide)
      exact tt_some ⟨(iv_w (a := 0) (b := 1) (by decide) (by decide) (show (1 : Int) ≤ (1 : Int32).toInt ∧ (1 : Int32).toInt ≤ 1 by decide)), p5, trivial⟩
    · have wc4 : ¬ v4.toInt = x2.toInt := c_ne c4
      try unfold fM_isPart_92
      refine tt_w (iv_b (show (0 : Int) ≤ (0 : Int32).toInt ∧ (0 : Int32).toInt ≤ 0 by decide) (by decide) (by decide)) ?_
      have p6 : Iq2 0 yv1.toNatClampNeg yv2.toInt (yo0.2.1 61) (yo0.2.1 59) (yo0.2.1 58) := by rw [← r_o0.2.1 59 rfl, ← r_o0.2.1 58 rfl, ← r_o0.2.1 61 rfl, show yv1 = v1 from (i_eq x_3).symm, show yv2 = v2 from (i_eq x_4).symm]; first | exact Ip_t x_0 (by omega) (by decide) | exact Ip_f x_0 (by omega) (by omega) (by omega) (by decide)
      exact tt_some ⟨(iv_w (a := 0) (b := 1) (by decide) (by decide) (show (0 : Int) ≤ (0 : Int32).toInt ∧ (0 : Int32).toInt ≤ 0 by decide)), p6, trivial⟩
  · have wc1 : v5.toInt < v2.toInt := c_nle c1
    have i7 : (0 : Int) ≤ v5.toInt ∧ v5.toInt ≤ 4 := nr_nlel c1 i_v5 i_v2 (by decide) (by decide)
    have i8 : (1 : Int) ≤ v2.toInt ∧ v2.toInt ≤ 5 := nr_nler c1 i_v5 i_v2 (by decide) (by decide)
    refine tt_n (ix_ok i_v1 (by decide) (by decide)) ?_
    refine tt_kv (P := fun z => ((0 : Int) ≤ z.toInt ∧ z.toInt ≤ 5) ∧ z = (o0.2.1 59 v1.toNatClampNeg) ∧ z.toInt = (o0.2.1 59 v1.toNatClampNeg).toInt) ⟨(k_o0.2 59 _), rfl, rfl⟩ (fun x9 qi10 => ?_)
    obtain ⟨i10, ax9, ei10⟩ := qi10
    refine tt_if (fun c11 => ?_) (fun c11 => ?_)
    · have wc11 : x9.toInt ≤ v4.toInt := c_le c11
      try unfold fM_isPart_76
      refine tt_n (ix_ok i_v1 (by decide) (by decide)) ?_
      refine tt_kv (P := fun z => ((0 : Int) ≤ z.toInt ∧ z.toInt ≤ 5) ∧ z = (o0.2.1 59 v1.toNatClampNeg) ∧ z.toInt = (o0.2.1 59 v1.toNatClampNeg).toInt) ⟨(k_o0.2 59 _), rfl, rfl⟩ (fun x12 qi13 => ?_)
      obtain ⟨i13, ax12, ei13⟩ := qi13
      refine tt_if (fun c14 => ?_) (fun c14 => ?_)
      · have wc14 : v4.toInt = x12.toInt := c_eq c14
        try unfold fM_isPart_92
        refine tt_w (iv_b (show (1 : Int) ≤ (1 : Int32).toInt ∧ (1 : Int32).toInt ≤ 1 by decide) (by decide) (by decide)) ?_
        have p15 : Iq2 1 yv1.toNatClampNeg yv2.toInt (yo0.2.1 61) (yo0.2.1 59) (yo0.2.1 58) := by rw [← r_o0.2.1 59 rfl, ← r_o0.2.1 58 rfl, ← r_o0.2.1 61 rfl, show yv1 = v1 from (i_eq x_3).symm, show yv2 = v2 from (i_eq x_4).symm]; first | exact Ip_t x_0 (by omega) (by decide) | exact Ip_f x_0 (by omega) (by omega) (by omega) (by decide)
        exact tt_some ⟨(iv_w (a := 0) (b := 1) (by decide) (by decide) (show (1 : Int) ≤ (1 : Int32).toInt ∧ (1 : Int32).toInt ≤ 1 by decide)), p15, trivial⟩
      · have wc14 : ¬ v4.toInt = x12.toInt := c_ne c14
        try unfold fM_isPart_92
        refine tt_w (iv_b (show (0 : Int) ≤ (0 : Int32).toInt ∧ (0 : Int32).toInt ≤ 0 by decide) (by decide) (by decide)) ?_
        have p16 : Iq2 0 yv1.toNatClampNeg yv2.toInt (yo0.2.1 61) (yo0.2.1 59) (yo0.2.1 58) := by rw [← r_o0.2.1 59 rfl, ← r_o0.2.1 58 rfl, ← r_o0.2.1 61 rfl, show yv1 = v1 from (i_eq x_3).symm, show yv2 = v2 from (i_eq x_4).symm]; first | exact Ip_t x_0 (by omega) (by decide) | exact Ip_f x_0 (by omega) (by omega) (by omega) (by decide)
        exact tt_some ⟨(iv_w (a := 0) (b := 1) (by decide) (by decide) (show (0 : Int) ≤ (0 : Int32).toInt ∧ (0 : Int32).toInt ≤ 0 by decide)), p16, trivial⟩
    · have wc11 : v4.toInt < x9.toInt := c_nle c11
      have i17 : (0 : Int) ≤ v4.toInt ∧ v4.toInt ≤ 4 := nr_nlel c11 i_v4 i10 (by decide) (by decide)
      have i18 : (1 : Int) ≤ x9.toInt ∧ x9.toInt ≤ 5 := nr_nler c11 i_v4 i10 (by decide) (by decide)
      refine tt_n (ix_ok i7 (by decide) (by decide)) ?_
      refine tt_kv (P := fun z => ((0 : Int) ≤ z.toInt ∧ z.toInt ≤ 208) ∧ z = (o0.2.1 61 v5.toNatClampNeg) ∧ z.toInt = (o0.2.1 61 v5.toNatClampNeg).toInt) ⟨(k_o0.2 61 _), rfl, rfl⟩ (fun x19 qi20 => ?_)
      obtain ⟨i20, ax19, ei20⟩ := qi20
      have jy : x19.toInt = (o0.2.1 61 v5.toNatClampNeg).toInt := ei20
      refine tt_kv (P := fun z => ((1505 : Int) ≤ z.toInt ∧ z.toInt ≤ 316045) ∧ z = (5 * v1) ∧ z.toInt = 5 * v1.toInt) ⟨iv_mul (show (5 : Int) ≤ (5 : Int32).toInt ∧ (5 : Int32).toInt ≤ 5 by decide) i_v1 (by decide) (by decide) (by decide) (by decide) (by decide), rfl, iq_mul (show (5 : Int) ≤ (5 : Int32).toInt ∧ (5 : Int32).toInt ≤ 5 by decide) i_v1 (by decide) (by decide) (by decide) (by decide)⟩ (fun x21 qi22 => ?_)
      obtain ⟨i22, ax21, ei22⟩ := qi22
      refine tt_kv (P := fun z => ((1505 : Int) ≤ z.toInt ∧ z.toInt ≤ 316049) ∧ z = (x21 + v4) ∧ z.toInt = x21.toInt + v4.toInt) ⟨iv_add i22 i17 (by decide) (by decide) (by decide) (by decide), rfl, iq_add i22 i17 (by decide) (by decide)⟩ (fun x23 qi24 => ?_)
      obtain ⟨i24, ax23, ei24⟩ := qi24
      refine tt_n (ix_ok i24 (by decide) (by decide)) ?_
      refine tt_kv (P := fun z => ((0 : Int) ≤ z.toInt ∧ z.toInt ≤ 208) ∧ z = (o0.2.1 58 x23.toNatClampNeg) ∧ z.toInt = (o0.2.1 58 x23.toNatClampNeg).toInt) ⟨(k_o0.2 58 _), rfl, rfl⟩ (fun x25 qi26 => ?_)
      obtain ⟨i26, ax25, ei26⟩ := qi26
      have jx : x25.toInt = (o0.2.1 58 (5 * v1.toNatClampNeg + v4.toNatClampNeg)).toInt := ix_e ei26 (by rw [← Int.ofNat_inj]; rw [tn_n, Int.natCast_add, Int.natCast_mul, tn_n, tn_n]; omega)
      refine tt_if (fun c27 => ?_) (fun c27 => ?_)
      · have wc27 : x19.toInt = x25.toInt := c_eq c27
        refine tt_kv (P := fun z => ((1 : Int) ≤ z.toInt ∧ z.toInt ≤ 5) ∧ z = (v4 + 1) ∧ z.toInt = v4.toInt + 1) ⟨iv_add i17 (show (1 : Int) ≤ (1 : Int32).toInt ∧ (1 : Int32).toInt ≤ 1 by decide) (by decide) (by decide) (by decide) (by decide), rfl, iq_add i17 (show (1 : Int) ≤ (1 : Int32).toInt ∧ (1 : Int32).toInt ≤ 1 by decide) (by decide) (by decide)⟩ (fun x28 qi29 => ?_)
        obtain ⟨i29, ax28, ei29⟩ := qi29
        try unfold fM_isPart_68
        refine tt_kv (P := fun z => ((1 : Int) ≤ z.toInt ∧ z.toInt ≤ 5) ∧ z = (v5 + 1) ∧ z.toInt = v5.toInt + 1) ⟨iv_add i7 (show (1 : Int) ≤ (1 : Int32).toInt ∧ (1 : Int32).toInt ≤ 1 by decide) (by decide) (by decide) (by decide) (by decide), rfl, iq_add i7 (show (1 : Int) ≤ (1 : Int32).toInt ∧ (1 : Int32).toInt ≤ 1 by decide) (by decide) (by decide)⟩ (fun x30 qi31 => ?_)
        obtain ⟨i31, ax30, ei31⟩ := qi31
        have p32 : Ip x28.toInt x30.toInt v1.toNatClampNeg v2.toInt (o0.2.1 61) (o0.2.1 59) (o0.2.1 58) := by exact Ip_s (p := v4.toNatClampNeg) (q := v5.toNatClampNeg) x_0 jx jy (by rw [tn_n]; omega) (by rw [tn_n]; omega) (by omega) (by omega) (by omega) (by omega)
        have t33 : (0 : Int) ≤ (o0.2.1 59 v1.toNatClampNeg).toInt ∧ (o0.2.1 59 v1.toNatClampNeg).toInt ≤ 5 := k_o0.2 59 _
        exact H _ _ _ _ _ k_o0 r_o0 i_v1 (iv_w (a := 0) (b := 5) (by decide) (by decide) i8) (iv_w (a := 0) (b := 5) (by decide) (by decide) i29) (iv_w (a := 0) (b := 5) (by decide) (by decide) i31) f_o0_0 f_o0_36 f_o0_38 f_o0_43 f_o0_95 p32 (show 0 ≤ x28.toInt by omega) (show 0 ≤ x30.toInt by omega) (show v1.toInt = yv1.toInt by omega) (show v2.toInt = yv2.toInt by omega) (show 0 ≤ v1.toInt by omega) (show x28.toInt ≤ (o0.2.1 59 v1.toNatClampNeg).toInt by omega) (show 0 + (5 - x30.toInt) * 2 < (n : Int) by omega)
      · have wc27 : ¬ x19.toInt = x25.toInt := c_ne c27
        try unfold fM_isPart_68
        refine tt_kv (P := fun z => ((1 : Int) ≤ z.toInt ∧ z.toInt ≤ 5) ∧ z = (v5 + 1) ∧ z.toInt = v5.toInt + 1) ⟨iv_add i7 (show (1 : Int) ≤ (1 : Int32).toInt ∧ (1 : Int32).toInt ≤ 1 by decide) (by decide) (by decide) (by decide) (by decide), rfl, iq_add i7 (show (1 : Int) ≤ (1 : Int32).toInt ∧ (1 : Int32).toInt ≤ 1 by decide) (by decide) (by decide)⟩ (fun x34 qi35 => ?_)
        obtain ⟨i35, ax34, ei35⟩ := qi35
        have p36 : Ip v4.toInt x34.toInt v1.toNatClampNeg v2.toInt (o0.2.1 61) (o0.2.1 59) (o0.2.1 58) := by exact Ip_s (p := v4.toNatClampNeg) (q := v5.toNatClampNeg) x_0 jx jy (by rw [tn_n]; omega) (by rw [tn_n]; omega) (by omega) (by omega) (by omega) (by omega)
        have t37 : (0 : Int) ≤ (o0.2.1 59 v1.toNatClampNeg).toInt ∧ (o0.2.1 59 v1.toNatClampNeg).toInt ≤ 5 := k_o0.2 59 _
        exact H _ _ _ _ _ k_o0 r_o0 i_v1 (iv_w (a := 0) (b := 5) (by decide) (by decide) i8) (iv_w (a := 0) (b := 5) (by decide) (by decide) i17) (iv_w (a := 0) (b := 5) (by decide) (by decide) i35) f_o0_0 f_o0_36 f_o0_38 f_o0_43 f_o0_95 p36 (show 0 ≤ v4.toInt by omega) (show 0 ≤ x34.toInt by omega) (show v1.toInt = yv1.toInt by omega) (show v2.toInt = yv2.toInt by omega) (show 0 ≤ v1.toInt by omega) (show v4.toInt ≤ (o0.2.1 59 v1.toNatClampNeg).toInt by omega) (show 0 + (5 - x34.toInt) * 2 < (n : Int) by omega)
set_option maxHeartbeats 4000000 in
set_option maxRecDepth 100000 in
theorem hM_isPart (yv1 : Int32) (yv2 : Int32) (yv3 : Int32) (yo0 : cf_O) : ∀ n, HM_isPart yv1 yv2 yv3 yo0 n := by
  intro n
  induction n with
  | zero => exact (fun v1 v2 v4 v5 o0 k_o0 r_o0 i_v1 i_v2 i_v4 i_v5 f_o0_0 f_o0_36 f_o0_38 f_o0_43 f_o0_95 x_0 x_1 x_2 x_3 x_4 x_5 x_6 hm => by exact absurd (show 0 + (5 - v5.toInt) * 2 < (0 : Int) from hm) (by omega))
  | succ n ih => exact (fun v1 v2 v4 v5 o0 k_o0 r_o0 i_v1 i_v2 i_v4 i_v5 f_o0_0 f_o0_36 f_o0_38 f_o0_43 f_o0_95 x_0 x_1 x_2 x_3 x_4 x_5 x_6 hm => tM_isPart_21 ih v1 v2 v4 v5 o0 k_o0 r_o0 i_v1 i_v2 i_v4 i_v5 f_o0_0 f_o0_36 f_o0_38 f_o0_43 f_o0_95 x_0 x_1 x_2 x_3 x_4 x_5 x_6 (by omega))
set_option maxHeartbeats 4000000 in
set_option maxRecDepth 100000 in
theorem sM_isPart (v1 : Int32) (v2 : Int32) (v3 : Int32) (o0 : cf_O) (k_o0 : okO I_M o0) (i_v1 : (301 : Int) ≤ v1.toInt ∧ v1.toInt ≤ 62907) (i_v2 : (0 : Int) ≤ v2.toInt ∧ v2.toInt ≤ 5) (f_o0_0 : (0 : Int) ≤ (o0.1 0).toInt ∧ (o0.1 0).toInt ≤ 2) (f_o0_36 : (0 : Int) ≤ (o0.1 36).toInt ∧ (o0.1 36).toInt ≤ 0) (f_o0_38 : (1 : Int) ≤ (o0.1 38).toInt ∧ (o0.1 38).toInt ≤ 1) (f_o0_43 : (1 : Int) ≤ (o0.1 43).toInt ∧ (o0.1 43).toInt ≤ 200) (f_o0_95 : (0 : Int) ≤ (o0.1 95).toInt ∧ (o0.1 95).toInt ≤ 0) (x_0 : ((o0.2.1 60 v1.toNatClampNeg) = mkF (o0.2.1 58) (5 * v1.toNatClampNeg) ((o0.2.1 59 v1.toNatClampNeg).toInt.toNat))) (x_1 : Mv v3 v2.toInt (o0.2.1 61)) (x_2 : 0 ≤ v2.toInt) : tt (fM_isPart v1 v2 v3 o0) (QM_isPart v1 v2 v3 o0) := by
  have H := hM_isPart v1 v2 v3 o0 cfFU
  have hm : (13 : Int) ≤ (cfFU : Nat) := by decide
  have r_o0 : Fr (fr_M [] [] []) o0 o0 := fr_rfl
  unfold fM_isPart fM_isPart_0
  have i_v3 := iv_top v3
  refine tt_n (ix_ok i_v1 (by decide) (by decide)) ?_
  refine tt_kv (P := fun z => (((-2147483648) : Int) ≤ z.toInt ∧ z.toInt ≤ 2147483647) ∧ z = (o0.2.1 60 v1.toNatClampNeg) ∧ z.toInt = (o0.2.1 60 v1.toNatClampNeg).toInt) ⟨(k_o0.2 60 _), rfl, rfl⟩ (fun x1 qi2 => ?_)
  obtain ⟨i2, ax1, ei2⟩ := qi2
  refine tt_kv (P := fun z => (((-2147483648) : Int) ≤ z.toInt ∧ z.toInt ≤ 2147483647) ∧ z = (v3 ^^^ (-1))) ⟨iv_top _, rfl⟩ (fun x3 qi4 => ?_)
  obtain ⟨i4, ax3⟩ := qi4
  refine tt_kv (P := fun z => (((-2147483648) : Int) ≤ z.toInt ∧ z.toInt ≤ 2147483647) ∧ z = (x1 &&& x3)) ⟨iv_top _, rfl⟩ (fun x5 qi6 => ?_)
  obtain ⟨i6, ax5⟩ := qi6
  refine tt_if (fun c7 => ?_) (fun c7 => ?_)
  · have wc7 : x5.toInt = (0 : Int) := c_eq c7
    have i8 : (0 : Int) ≤ x5.toInt ∧ x5.toInt ≤ 0 := nr_eql c7 i6 (show (0 : Int) ≤ (0 : Int32).toInt ∧ (0 : Int32).toInt ≤ 0 by decide) (by decide) (by decide)
    have p9 : Ip 0 0 v1.toNatClampNeg v2.toInt (o0.2.1 61) (o0.2.1 59) (o0.2.1 58) := by exact Ip_0 _ _ _ _ _
    have t10 : (0 : Int) ≤ (o0.2.1 59 v1.toNatClampNeg).toInt ∧ (o0.2.1 59 v1.toNatClampNeg).toInt ≤ 5 := k_o0.2 59 _
    exact H _ _ _ _ _ k_o0 r_o0 (iv_w (a := 301) (b := 63209) (by decide) (by decide) i_v1) i_v2 (iv_w (a := 0) (b := 5) (by decide) (by decide) (show (0 : Int) ≤ (0 : Int32).toInt ∧ (0 : Int32).toInt ≤ 0 by decide)) (iv_w (a := 0) (b := 5) (by decide) (by decide) (show (0 : Int) ≤ (0 : Int32).toInt ∧ (0 : Int32).toInt ≤ 0 by decide)) f_o0_0 f_o0_36 f_o0_38 f_o0_43 f_o0_95 p9 (show 0 ≤ 0 by omega) (show 0 ≤ 0 by omega) (show v1.toInt = v1.toInt by omega) (show v2.toInt = v2.toInt by omega) (show 0 ≤ v1.toInt by omega) (show 0 ≤ (o0.2.1 59 v1.toNatClampNeg).toInt by omega) (show 0 + (5 - 0) * 2 < ((cfFU : Nat) : Int) by omega)
  · have wc7 : ¬ x5.toInt = (0 : Int) := c_ne c7
    have p11 : Iq2 0 v1.toNatClampNeg v2.toInt (o0.2.1 61) (o0.2.1 59) (o0.2.1 58) := by exact ⟨fun _ => ip_marks (v := v3) x_0 x_1 (by subst_vars; assumption), fun q => absurd rfl q⟩
    exact tt_some ⟨(iv_w (a := 0) (b := 1) (by decide) (by decide) (show (0 : Int) ≤ (0 : Int32).toInt ∧ (0 : Int32).toInt ≤ 0 by decide)), p11, trivial⟩
def QM_keepCut (v1 : Int32) (v2 : Int32) (v3 : Int32) (o0 : cf_O) (r : (cf_O)) : Prop := (okO I_M r) ∧ (Fr (fr_M [] [57, 58, 59, 60] []) o0 r) ∧ (Cn (r.2.1 59) (r.2.1 58)) ∧ (Sk v1.toInt v2.toInt (r.2.1 57) (r.2.1 59)) ∧ (Lc v1.toInt (o0.2.1 59) (r.2.1 59)) ∧ (Kd v1.toInt v2.toInt v2.toInt (o0.2.1 57) (o0.2.1 59) (o0.2.1 58) (r.2.1 61) (r.2.1 57) (r.2.1 59) (r.2.1 58)) ∧ (Kq v1.toInt v3 (o0.2.1 57) (o0.2.1 60) (r.2.1 60)) ∧ True
def HM_keepCut (yv1 : Int32) (yv2 : Int32) (yv3 : Int32) (yo0 : cf_O) (n : Nat) : Prop := (∀ (v2 : Int32) (v4 : Int32) (v5 : Int32) (o0 : cf_O), (okO I_M o0) → (Fr (fr_M [] [57, 58, 59, 60] []) yo0 o0) → ((0 : Int) ≤ v2.toInt ∧ v2.toInt ≤ 5) → ((301 : Int) ≤ v4.toInt ∧ v4.toInt ≤ 63209) → ((0 : Int) ≤ v5.toInt ∧ v5.toInt ≤ 5) → ((0 : Int) ≤ (o0.1 0).toInt ∧ (o0.1 0).toInt ≤ 2) → ((0 : Int) ≤ (o0.1 36).toInt ∧ (o0.1 36).toInt ≤ 0) → ((1 : Int) ≤ (o0.1 38).toInt ∧ (o0.1 38).toInt ≤ 1) → ((1 : Int) ≤ (o0.1 43).toInt ∧ (o0.1 43).toInt ≤ 200) → ((0 : Int) ≤ (o0.1 95).toInt ∧ (o0.1 95).toInt ≤ 0) → (Cw v4 v5 (o0.2.1 59) (o0.2.1 58)) → (Jn v2 (o0.2.1 61)) → (((o0.2.1 59 v4.toNatClampNeg).toInt = v2.toInt)) → (Sk yv1.toInt yv2.toInt (o0.2.1 57) (o0.2.1 59)) → (Lc yv1.toInt (yo0.2.1 59) (o0.2.1 59)) → (Kd yv1.toInt yv2.toInt v5.toInt (yo0.2.1 57) (yo0.2.1 59) (yo0.2.1 58) (o0.2.1 61) (o0.2.1 57) (o0.2.1 59) (o0.2.1 58)) → (v2.toInt = yv2.toInt) → (v4.toInt = 301 * yv1.toInt + (yo0.2.1 57 yv1.toNatClampNeg).toInt) → (v5.toInt ≤ v2.toInt) → (Kq yv1.toInt yv3 (yo0.2.1 57) (yo0.2.1 60) (o0.2.1 60)) → 0 + (5 - v5.toInt) * 2 < (n : Int) → tt (gM_keepCut n 0 v2 v4 v5 o0) (QM_keepCut yv1 yv2 yv3 yo0))
set_option maxHeartbeats 4000000 in
set_option maxRecDepth 100000 in
theorem tM_keepCut_43 {yv1 : Int32} {yv2 : Int32} {yv3 : Int32} {yo0 : cf_O} {n : Nat} (H : HM_keepCut yv1 yv2 yv3 yo0 n) (v2 : Int32) (v4 : Int32) (v5 : Int32) (o0 : cf_O) (k_o0 : okO I_M o0) (r_o0 : Fr (fr_M [] [57, 58, 59, 60] []) yo0 o0) (i_v2 : (0 : Int) ≤ v2.toInt ∧ v2.toInt ≤ 5) (i_v4 : (301 : Int) ≤ v4.toInt ∧ v4.toInt ≤ 63209) (i_v5 : (0 : Int) ≤ v5.toInt ∧ v5.toInt ≤ 5) (f_o0_0 : (0 : Int) ≤ (o0.1 0).toInt ∧ (o0.1 0).toInt ≤ 2) (f_o0_36 : (0 : Int) ≤ (o0.1 36).toInt ∧ (o0.1 36).toInt ≤ 0) (f_o0_38 : (1 : Int) ≤ (o0.1 38).toInt ∧ (o0.1 38).toInt ≤ 1) (f_o0_43 : (1 : Int) ≤ (o0.1 43).toInt ∧ (o0.1 43).toInt ≤ 200) (f_o0_95 : (0 : Int) ≤ (o0.1 95).toInt ∧ (o0.1 95).toInt ≤ 0) (x_0 : Cw v4 v5 (o0.2.1 59) (o0.2.1 58)) (x_1 : Jn v2 (o0.2.1 61)) (x_2 : ((o0.2.1 59 v4.toNatClampNeg).toInt = v2.toInt)) (x_3 : Sk yv1.toInt yv2.toInt (o0.2.1 57) (o0.2.1 59)) (x_4 : Lc yv1.toInt (yo0.2.1 59) (o0.2.1 59)) (x_5 : Kd yv1.toInt yv2.toInt v5.toInt (yo0.2.1 57) (yo0.2.1 59) (yo0.2.1 58) (o0.2.1 61) (o0.2.1 57) (o0.2.1 59) (o0.2.1 58)) (x_6 : v2.toInt = yv2.toInt) (x_7 : v4.toInt = 301 * yv1.toInt + (yo0.2.1 57 yv1.toNatClampNeg).toInt) (x_8 : v5.toInt ≤ v2.toInt) (x_9 : Kq yv1.toInt yv3 (yo0.2.1 57) (yo0.2.1 60) (o0.2.1 60)) (hm : 0 + (5 - v5.toInt) * 2 ≤ (n : Int)) : tt (fM_keepCut_43 (gM_keepCut n) v2 v4 v5 o0) (QM_keepCut yv1 yv2 yv3 yo0) := by
  unfold fM_keepCut_43
  refine tt_if (fun c1 => ?_) (fun c1 => ?_)
  · have wc1 : v2.toInt ≤ v5.toInt := c_le c1
    have p2 : Cn (o0.2.1 59) (o0.2.1 58) := by exact Cw_e x_0 (by omega)
    have p3 : Kd yv1.toInt yv2.toInt yv2.toInt (yo0.2.1 57) (yo0.2.1 59) (yo0.2.1 58) (o0.2.1 61) (o0.2.1 57) (o0.2.1 59) (o0.2.1 58) := by exact Kd_e x_5 (by omega)
    exact tt_some ⟨k_o0, r_o0, p2, x_3, x_4, p3, x_9, trivial⟩
  · have wc1 : v5.toInt < v2.toInt := c_nle c1
    have i4 : (0 : Int) ≤ v5.toInt ∧ v5.toInt ≤ 4 := nr_nlel c1 i_v5 i_v2 (by decide) (by decide)
    have i5 : (1 : Int) ≤ v2.toInt ∧ v2.toInt ≤ 5 := nr_nler c1 i_v5 i_v2 (by decide) (by decide)
    refine tt_kv (P := fun z => ((1505 : Int) ≤ z.toInt ∧ z.toInt ≤ 316045) ∧ z.toInt = 5 * v4.toInt) ⟨iv_mul (show (5 : Int) ≤ (5 : Int32).toInt ∧ (5 : Int32).toInt ≤ 5 by decide) i_v4 (by decide) (by decide) (by decide) (by decide) (by decide), iq_mul (show (5 : Int) ≤ (5 : Int32).toInt ∧ (5 : Int32).toInt ≤ 5 by decide) i_v4 (by decide) (by decide) (by decide) (by decide)⟩ (fun x6 qi7 => ?_)
    obtain ⟨i7, ei7⟩ := qi7
    refine tt_kv (P := fun z => ((1505 : Int) ≤ z.toInt ∧ z.toInt ≤ 316049) ∧ z.toInt = x6.toInt + v5.toInt) ⟨iv_add i7 i4 (by decide) (by decide) (by decide) (by decide), iq_add i7 i4 (by decide) (by decide)⟩ (fun x8 qi9 => ?_)
    obtain ⟨i9, ei9⟩ := qi9
    refine tt_n (ix_ok i4 (by decide) (by decide)) ?_
    refine tt_kv (P := fun z => ((0 : Int) ≤ z.toInt ∧ z.toInt ≤ 208) ∧ z.toInt = (o0.2.1 61 v5.toNatClampNeg).toInt) ⟨(k_o0.2 61 _), rfl⟩ (fun x10 qi11 => ?_)
    obtain ⟨i11, ei11⟩ := qi11
    have t12 := tn_n v5
    have t13 := x_1 (v5.toNatClampNeg)
    refine tt_n (ix_ok i9 (by decide) (by decide)) ?_
    refine tt_ko ?_
    have k14 := ok_xp (k := 58) (i := x8.toNatClampNeg) (v := x10) k_o0 i11
    have r15 := fr_xp (k := 58) (i := x8.toNatClampNeg) (v := x10) r_o0 rfl
    refine tt_kv (P := fun z => ((1 : Int) ≤ z.toInt ∧ z.toInt ≤ 5) ∧ z.toInt = v5.toInt + 1) ⟨iv_add i4 (show (1 : Int) ≤ (1 : Int32).toInt ∧ (1 : Int32).toInt ≤ 1 by decide) (by decide) (by decide) (by decide) (by decide), iq_add i4 (show (1 : Int) ≤ (1 : Int32).toInt ∧ (1 : Int32).toInt ≤ 1 by decide) (by decide) (by decide)⟩ (fun x16 qi17 => ?_)
    obtain ⟨i17, ei17⟩ := qi17
    have p18 : Cw v4 x16 (o0.2.1 59) (upd (o0.2.1 58) (x8.toNatClampNeg) x10) := by exact Cw_s x_0 (fun c => (k_o0.2 59 c).2) (by omega) (by omega) (by rw [tn_n, tn_n]; omega) (by omega)
    have p19 : Kd yv1.toInt yv2.toInt x16.toInt (yo0.2.1 57) (yo0.2.1 59) (yo0.2.1 58) (o0.2.1 61) (o0.2.1 57) (o0.2.1 59) (upd (o0.2.1 58) (x8.toNatClampNeg) x10) := by exact Kd_s' (a := yv1.toNatClampNeg) (q := v5.toNatClampNeg) x_5 rfl (by omega) (by rw [tn_n]; omega) (by rw [tn_n]; omega) (by assumption)
    exact H _ _ _ _ k14 r15 (iv_w (a := 0) (b := 5) (by decide) (by decide) i5) i_v4 (iv_w (a := 0) (b := 5) (by decide) (by decide) i17) f_o0_0 f_o0_36 f_o0_38 f_o0_43 f_o0_95 p18 x_1 x_2 x_3 x_4 p19 (show v2.toInt = yv2.toInt by omega) (show v4.toInt = 301 * yv1.toInt + (yo0.2.1 57 yv1.toNatClampNeg).toInt by omega) (show x16.toInt ≤ v2.toInt by omega) x_9 (show 0 + (5 - x16.toInt) * 2 < (n : Int) by omega)
set_option maxHeartbeats 4000000 in
set_option maxRecDepth 100000 in
theorem hM_keepCut (yv1 : Int32) (yv2 : Int32) (yv3 : Int32) (yo0 : cf_O) : ∀ n, HM_keepCut yv1 yv2 yv3 yo0 n := by
  intro n
  induction n with
  | zero => exact (fun v2 v4 v5 o0 k_o0 r_o0 i_v2 i_v4 i_v5 f_o0_0 f_o0_36 f_o0_38 f_o0_43 f_o0_95 x_0 x_1 x_2 x_3 x_4 x_5 x_6 x_7 x_8 x_9 hm => by exact absurd (show 0 + (5 - v5.toInt) * 2 < (0 : Int) from hm) (by omega))
  | succ n ih => exact (fun v2 v4 v5 o0 k_o0 r_o0 i_v2 i_v4 i_v5 f_o0_0 f_o0_36 f_o0_38 f_o0_43 f_o0_95 x_0 x_1 x_2 x_3 x_4 x_5 x_6 x_7 x_8 x_9 hm => tM_keepCut_43 ih v2 v4 v5 o0 k_o0 r_o0 i_v2 i_v4 i_v5 f_o0_0 f_o0_36 f_o0_38 f_o0_43 f_o0_95 x_0 x_1 x_2 x_3 x_4 x_5 x_6 x_7 x_8 x_9 (by omega))
set_option maxHeartbeats 4000000 in
set_option maxRecDepth 100000 in
theorem sM_keepCut (v1 : Int32) (v2 : Int32) (v3 : Int32) (o0 : cf_O) (k_o0 : okO I_M o0) (i_v1 : (1 : Int) ≤ v1.toInt ∧ v1.toInt ≤ 208) (i_v2 : (0 : Int) ≤ v2.toInt ∧ v2.toInt ≤ 5) (f_o0_0 : (0 : Int) ≤ (o0.1 0).toInt ∧ (o0.1 0).toInt ≤ 2) (f_o0_36 : (0 : Int) ≤ (o0.1 36).toInt ∧ (o0.1 36).toInt ≤ 0) (f_o0_38 : (1 : Int) ≤ (o0.1 38).toInt ∧ (o0.1 38).toInt ≤ 1) (f_o0_43 : (1 : Int) ≤ (o0.1 43).toInt ∧ (o0.1 43).toInt ≤ 200) (f_o0_95 : (0 : Int) ≤ (o0.1 95).toInt ∧ (o0.1 95).toInt ≤ 0) (x_0 : (o0.2.1 57 v1.toNatClampNeg).toInt ≤ 299) (x_1 : Cn (o0.2.1 59) (o0.2.1 58)) (x_2 : Jn v2 (o0.2.1 61)) (x_3 : Sk v1.toInt v2.toInt (o0.2.1 57) (o0.2.1 59)) (x_4 : 0 ≤ v2.toInt) : tt (fM_keepCut v1 v2 v3 o0) (QM_keepCut v1 v2 v3 o0) := by
  have H := hM_keepCut v1 v2 v3 o0 cfFU
  have hm : (13 : Int) ≤ (cfFU : Nat) := by decide
  have r_o0 : Fr (fr_M [] [57, 58, 59, 60] []) o0 o0 := fr_rfl
  unfold fM_keepCut fM_keepCut_0
  have i_v3 := iv_top v3
  refine tt_kv (P := fun z => ((301 : Int) ≤ z.toInt ∧ z.toInt ≤ 62608) ∧ z.toInt = 301 * v1.toInt) ⟨iv_mul (show (301 : Int) ≤ (301 : Int32).toInt ∧ (301 : Int32).toInt ≤ 301 by decide) i_v1 (by decide) (by decide) (by decide) (by decide) (by decide), iq_mul (show (301 : Int) ≤ (301 : Int32).toInt ∧ (301 : Int32).toInt ≤ 301 by decide) i_v1 (by decide) (by decide) (by decide) (by decide)⟩ (fun x1 qi2 => ?_)
  obtain ⟨i2, ei2⟩ := qi2
  refine tt_n (ix_ok i_v1 (by decide) (by decide)) ?_
  refine tt_kv (P := fun z => ((0 : Int) ≤ z.toInt ∧ z.toInt ≤ 300) ∧ z.toInt = (o0.2.1 57 v1.toNatClampNeg).toInt) ⟨(k_o0.2 57 _), rfl⟩ (fun x3 qi4 => ?_)
  obtain ⟨i4, ei4⟩ := qi4
  refine tt_kv (P := fun z => ((301 : Int) ≤ z.toInt ∧ z.toInt ≤ 62908) ∧ z.toInt = x1.toInt + x3.toInt) ⟨iv_add i2 i4 (by decide) (by decide) (by decide) (by decide), iq_add i2 i4 (by decide) (by decide)⟩ (fun x5 qi6 => ?_)
  obtain ⟨i6, ei6⟩ := qi6
  refine tt_n (ix_ok i_v1 (by decide) (by decide)) ?_
  refine tt_kv (P := fun z => ((0 : Int) ≤ z.toInt ∧ z.toInt ≤ 300) ∧ z.toInt = (o0.2.1 57 v1.toNatClampNeg).toInt) ⟨(k_o0.2 57 _), rfl⟩ (fun x7 qi8 => ?_)
  obtain ⟨i8, ei8⟩ := qi8
  refine tt_kv (P := fun z => ((1 : Int) ≤ z.toInt ∧ z.toInt ≤ 301) ∧ z.toInt = x7.toInt + 1) ⟨iv_add i8 (show (1 : Int) ≤ (1 : Int32).toInt ∧ (1 : Int32).toInt ≤ 1 by decide) (by decide) (by decide) (by decide) (by decide), iq_add i8 (show (1 : Int) ≤ (1 : Int32).toInt ∧ (1 : Int32).toInt ≤ 1 by decide) (by decide) (by decide)⟩ (fun x9 qi10 => ?_)
  obtain ⟨i10, ei10⟩ := qi10
  refine tt_n (ix_ok i_v1 (by decide) (by decide)) ?_
  refine tt_ko ?_
  have k11 := ok_xp (k := 57) (i := v1.toNatClampNeg) (v := x9) k_o0 (show (0 : Int) ≤ _ ∧ _ ≤ (300 : Int) by omega)
  have r12 := fr_xp (k := 57) (i := v1.toNatClampNeg) (v := x9) r_o0 rfl
  refine tt_n (ix_ok i6 (by decide) (by decide)) ?_
  refine tt_ko ?_
  have k13 := ok_xp (k := 59) (i := x5.toNatClampNeg) (v := v2) k11 i_v2
  have r14 := fr_xp (k := 59) (i := x5.toNatClampNeg) (v := v2) r12 rfl
  refine tt_n (ix_ok i6 (by decide) (by decide)) ?_
  refine tt_ko ?_
  have k15 := ok_xp (k := 60) (i := x5.toNatClampNeg) (v := v3) k13 (iv_top v3)
  have r16 := fr_xp (k := 60) (i := x5.toNatClampNeg) (v := v3) r14 rfl
  have p17 : Cw x5 (0 : Int32) (upd (o0.2.1 59) (x5.toNatClampNeg) v2) (o0.2.1 58) := by exact Cw_0 x_1
  have p18 : ((upd (o0.2.1 59) (x5.toNatClampNeg) v2 x5.toNatClampNeg).toInt = v2.toInt) := by rw [up_s]
  have p19 : Sk v1.toInt v2.toInt (upd (o0.2.1 57) (v1.toNatClampNeg) x9) (upd (o0.2.1 59) (x5.toNatClampNeg) v2) := by exact Sk_k x_3 rfl (by omega) (by rw [tn_n]; omega) (by omega)
  have p20 : Lc v1.toInt (o0.2.1 59) (upd (o0.2.1 59) (x5.toNatClampNeg) v2) := by exact Lc_u (Lc_r _ _) (by rw [tn_n]; omega)
  have p21 : Kd v1.toInt v2.toInt 0 (o0.2.1 57) (o0.2.1 59) (o0.2.1 58) (o0.2.1 61) (upd (o0.2.1 57) (v1.toNatClampNeg) x9) (upd (o0.2.1 59) (x5.toNatClampNeg) v2) (o0.2.1 58) := by exact Kd_0 rfl (by omega) (by rw [tn_n]; omega) rfl
  have p22 : Kq v1.toInt v3 (o0.2.1 57) (o0.2.1 60) (upd (o0.2.1 60) (x5.toNatClampNeg) v3) := by exact Kq_u (a := v1.toNatClampNeg) rfl (by rw [tn_n]; omega)
  exact H _ _ _ _ k15 r16 i_v2 (iv_w (a := 301) (b := 63209) (by decide) (by decide) i6) (iv_w (a := 0) (b := 5) (by decide) (by decide) (show (0 : Int) ≤ (0 : Int32).toInt ∧ (0 : Int32).toInt ≤ 0 by decide)) f_o0_0 f_o0_36 f_o0_38 f_o0_43 f_o0_95 p17 x_2 p18 p19 p20 p21 (show v2.toInt = v2.toInt by omega) (show x5.toInt = 301 * v1.toInt + (o0.2.1 57 v1.toNatClampNeg).toInt by omega) (show 0 ≤ v2.toInt by omega) p22 (show 0 + (5 - 0) * 2 < ((cfFU : Nat) : Int) by omega)
def QM_tryCut (v1 : Int32) (v2 : Int32) (o0 : cf_O) (r : (cf_O)) : Prop := (okO I_M r) ∧ (Fr (fr_M [36] [57, 58, 59, 60] []) o0 r) ∧ (Cn (r.2.1 59) (r.2.1 58)) ∧ (Sk v1.toInt v2.toInt (r.2.1 57) (r.2.1 59)) ∧ (Lc v1.toInt (o0.2.1 59) (r.2.1 59)) ∧ (Tc v1.toInt v2.toInt (o0.2.1 57) (o0.2.1 59) (o0.2.1 58) (r.2.1 61) (r.2.1 57) (r.2.1 59) (r.2.1 58)) ∧ ((1 ≤ (r.2.1 57 v1.toNatClampNeg).toInt)) ∧ (((o0.2.1 57 v1.toNatClampNeg).toInt ≤ (r.2.1 57 v1.toNatClampNeg).toInt)) ∧ (Mr v1.toInt (r.2.1 57) (r.2.1 59) (r.2.1 58) (r.2.1 60)) ∧ (Ad (r.1 36).toInt v1.toInt v2.toInt (o0.2.1 57) (o0.2.1 59) (o0.2.1 58) (o0.2.1 61) (r.2.1 57) (r.2.1 59) (r.2.1 58)) ∧ True
def HM_tryCut (yv1 : Int32) (yv2 : Int32) (yo0 : cf_O) (n : Nat) : Prop := (∀ (v1 : Int32) (v2 : Int32) (v3 : Int32) (v4 : Int32) (o0 : cf_O), (okO I_M o0) → (Fr (fr_M [36] [57, 58, 59, 60] []) yo0 o0) → ((1 : Int) ≤ v1.toInt ∧ v1.toInt ≤ 208) → ((0 : Int) ≤ v2.toInt ∧ v2.toInt ≤ 5) → ((0 : Int) ≤ v4.toInt ∧ v4.toInt ≤ 5) → ((0 : Int) ≤ (o0.1 0).toInt ∧ (o0.1 0).toInt ≤ 2) → ((0 : Int) ≤ (o0.1 36).toInt ∧ (o0.1 36).toInt ≤ 0) → ((1 : Int) ≤ (o0.1 38).toInt ∧ (o0.1 38).toInt ≤ 1) → ((1 : Int) ≤ (o0.1 43).toInt ∧ (o0.1 43).toInt ≤ 200) → ((0 : Int) ≤ (o0.1 95).toInt ∧ (o0.1 95).toInt ≤ 0) → (Cn (o0.2.1 59) (o0.2.1 58)) → (Jn v2 (o0.2.1 61)) → (Sk v1.toInt v2.toInt (o0.2.1 57) (o0.2.1 59)) → (v1.toInt = yv1.toInt) → (v2.toInt = yv2.toInt) → (Lc yv1.toInt (yo0.2.1 59) (o0.2.1 59)) → (((yo0.2.1 57) = (o0.2.1 57))) → (((yo0.2.1 58) = (o0.2.1 58))) → (((yo0.2.1 59) = (o0.2.1 59))) → (0 ≤ v2.toInt) → (Mr v1.toInt (o0.2.1 57) (o0.2.1 59) (o0.2.1 58) (o0.2.1 60)) → (Mv v3 v4.toInt (o0.2.1 61)) → (0 ≤ v4.toInt) → (v4.toInt ≤ v2.toInt) → 125216 + (5 - v4.toInt) * 2 < (n : Int) → tt (gM_tryCut n 0 v1 v2 v3 v4 o0) (QM_tryCut yv1 yv2 yo0)) ∧ (∀ (v1 : Int32) (v2 : Int32) (v3 : Int32) (v4 : Int32) (o0 : cf_O), (okO I_M o0) → (Fr (fr_M [36] [57, 58, 59, 60] []) yo0 o0) → ((1 : Int) ≤ v1.toInt ∧ v1.toInt ≤ 208) → ((0 : Int) ≤ v2.toInt ∧ v2.toInt ≤ 5) → ((301 : Int) ≤ v4.toInt ∧ v4.toInt ≤ 62908) → ((0 : Int) ≤ (o0.1 0).toInt ∧ (o0.1 0).toInt ≤ 2) → ((0 : Int) ≤ (o0.1 36).toInt ∧ (o0.1 36).toInt ≤ 0) → ((1 : Int) ≤ (o0.1 38).toInt ∧ (o0.1 38).toInt ≤ 1) → ((1 : Int) ≤ (o0.1 43).toInt ∧ (o0.1 43).toInt ≤ 200) → ((0 : Int) ≤ (o0.1 95).toInt ∧ (o0.1 95).toInt ≤ 0) → (Cn (o0.2.1 59) (o0.2.1 58)) → (Jn v2 (o0.2.1 61)) → (Sk v1.toInt v2.toInt (o0.2.1 57) (o0.2.1 59)) → (v1.toInt = yv1.toInt) → (v2.toInt = yv2.toInt) → (Lc yv1.toInt (yo0.2.1 59) (o0.2.1 59)) → (((yo0.2.1 57) = (o0.2.1 57))) → (((yo0.2.1 58) = (o0.2.1 58))) → (((yo0.2.1 59) = (o0.2.1 59))) → (0 ≤ v2.toInt) → (301 * v1.toInt ≤ v4.toInt) → (Mr v1.toInt (o0.2.1 57) (o0.2.1 59) (o0.2.1 58) (o0.2.1 60)) → (Mv v3 v2.toInt (o0.2.1 61)) → (Np v4.toInt v1.toInt v2.toInt (o0.2.1 61) (o0.2.1 59) (o0.2.1 58)) → 0 + (62908 - v4.toInt) * 2 < (n : Int) → tt (gM_tryCut n 1 v1 v2 v3 v4 o0) (QM_tryCut yv1 yv2 yo0))
set_option maxHeartbeats 4000000 in
set_option maxRecDepth 100000 in
theorem tM_tryCut_39 {yv1 : Int32} {yv2 : Int32} {yo0 : cf_O} {n : Nat} (H : HM_tryCut yv1 yv2 yo0 n) (v1 : Int32) (v2 : Int32) (v3 : Int32) (v4 : Int32) (o0 : cf_O) (k_o0 : okO I_M o0) (r_o0 : Fr (fr_M [36] [57, 58, 59, 60] []) yo0 o0) (i_v1 : (1 : Int) ≤ v1.toInt ∧ v1.toInt ≤ 208) (i_v2 : (0 : Int) ≤ v2.toInt ∧ v2.toInt ≤ 5) (i_v4 : (301 : Int) ≤ v4.toInt ∧ v4.toInt ≤ 62908) (f_o0_0 : (0 : Int) ≤ (o0.1 0).toInt ∧ (o0.1 0).toInt ≤ 2) (f_o0_36 : (0 : Int) ≤ (o0.1 36).toInt ∧ (o0.1 36).toInt ≤ 0) (f_o0_38 : (1 : Int) ≤ (o0.1 38).toInt ∧ (o0.1 38).toInt ≤ 1) (f_o0_43 : (1 : Int) ≤ (o0.1 43).toInt ∧ (o0.1 43).toInt ≤ 200) (f_o0_95 : (0 : Int) ≤ (o0.1 95).toInt ∧ (o0.1 95).toInt ≤ 0) (x_0 : Cn (o0.2.1 59) (o0.2.1 58)) (x_1 : Jn v2 (o0.2.1 61)) (x_2 : Sk v1.toInt v2.toInt (o0.2.1 57) (o0.2.1 59)) (x_3 : v1.toInt = yv1.toInt) (x_4 : v2.toInt = yv2.toInt) (x_5 : Lc yv1.toInt (yo0.2.1 59) (o0.2.1 59)) (x_6 : ((yo0.2.1 57) = (o0.2.1 57))) (x_7 : ((yo0.2.1 58) = (o0.2.1 58))) (x_8 : ((yo0.2.1 59) = (o0.2.1 59))) (x_9 : 0 ≤ v2.toInt) (x_10 : 301 * v1.toInt ≤ v4.toInt) (x_11 : Mr v1.toInt (o0.2.1 57) (o0.2.1 59) (o0.2.1 58) (o0.2.1 60)) (x_12 : Mv v3 v2.toInt (o0.2.1 61)) (x_13 : Np v4.toInt v1.toInt v2.toInt (o0.2.1 61) (o0.2.1 59) (o0.2.1 58)) (hm : 0 + (62908 - v4.toInt) * 2 ≤ (n : Int)) : tt (fM_tryCut_39 (gM_tryCut n) v1 v2 v3 v4 o0) (QM_tryCut yv1 yv2 yo0) := by
  unfold fM_tryCut_39
  have i_v3 := iv_top v3
  refine tt_kv (P := fun z => ((301 : Int) ≤ z.toInt ∧ z.toInt ≤ 62608) ∧ z = (301 * v1) ∧ z.toInt = 301 * v1.toInt) ⟨iv_mul (show (301 : Int) ≤ (301 : Int32).toInt ∧ (301 : Int32).toInt ≤ 301 by decide) i_v1 (by decide) (by decide) (by decide) (by decide) (by decide), rfl, iq_mul (show (301 : Int) ≤ (301 : Int32).toInt ∧ (301 : Int32).toInt ≤ 301 by decide) i_v1 (by decide) (by decide) (by decide) (by decide)⟩ (fun x1 qi2 => ?_)
  obtain ⟨i2, ax1, ei2⟩ := qi2
  refine tt_n (ix_ok i_v1 (by decide) (by decide)) ?_
  refine tt_kv (P := fun z => ((0 : Int) ≤ z.toInt ∧ z.toInt ≤ 300) ∧ z = (o0.2.1 57 v1.toNatClampNeg) ∧ z.toInt = (o0.2.1 57 v1.toNatClampNeg).toInt) ⟨(k_o0.2 57 _), rfl, rfl⟩ (fun x3 qi4 => ?_)
  obtain ⟨i4, ax3, ei4⟩ := qi4
  refine tt_kv (P := fun z => ((301 : Int) ≤ z.toInt ∧ z.toInt ≤ 62908) ∧ z = (x1 + x3) ∧ z.toInt = x1.toInt + x3.toInt) ⟨iv_add i2 i4 (by decide) (by decide) (by decide) (by decide), rfl, iq_add i2 i4 (by decide) (by decide)⟩ (fun x5 qi6 => ?_)
  obtain ⟨i6, ax5, ei6⟩ := qi6
  refine tt_if (fun c7 => ?_) (fun c7 => ?_)
  · have wc7 : x5.toInt ≤ v4.toInt := c_le c7
    refine tt_n (ix_ok i_v1 (by decide) (by decide)) ?_
    refine tt_kv (P := fun z => ((0 : Int) ≤ z.toInt ∧ z.toInt ≤ 300) ∧ z = (o0.2.1 57 v1.toNatClampNeg) ∧ z.toInt = (o0.2.1 57 v1.toNatClampNeg).toInt) ⟨(k_o0.2 57 _), rfl, rfl⟩ (fun x8 qi9 => ?_)
    obtain ⟨i9, ax8, ei9⟩ := qi9
    refine tt_if (fun c10 => ?_) (fun c10 => ?_)
    · have wc10 : x8.toInt = (300 : Int) := c_eq c10
      have i11 : (300 : Int) ≤ x8.toInt ∧ x8.toInt ≤ 300 := nr_eql c10 i9 (show (300 : Int) ≤ (300 : Int32).toInt ∧ (300 : Int32).toInt ≤ 300 by decide) (by decide) (by decide)
      refine tt_ko ?_
      have k12 := ok_fp (k := 36) (v := 1) k_o0 (iv_w (a := 0) (b := 1) (by decide) (by decide) (show (1 : Int) ≤ (1 : Int32).toInt ∧ (1 : Int32).toInt ≤ 1 by decide))
      have r13 := fr_fp (k := 36) (v := 1) r_o0 rfl
      have p14 : Sk yv1.toInt yv2.toInt (o0.2.1 57) (o0.2.1 59) := by rw [← x_3, ← x_4]; assumption
      have p15 : Tc yv1.toInt yv2.toInt (yo0.2.1 57) (yo0.2.1 59) (yo0.2.1 58) (o0.2.1 61) (o0.2.1 57) (o0.2.1 59) (o0.2.1 58) := by first | exact Or.inl ⟨x_6.symm, x_8.symm, x_7.symm⟩ | exact Or.inr (by rw [x_6, x_7, x_8, ← x_3, ← x_4]; assumption)
      have p16 : (1 ≤ (o0.2.1 57 yv1.toNatClampNeg).toInt) := by rw [show yv1 = v1 from (i_eq x_3).symm]; first | omega | (have q := (show Kd _ _ _ _ _ _ _ _ _ _ by assumption).1; have q2 := (k_o0.2 57 v1.toNatClampNeg).1; exact Int.le_trans (Int.le_add_of_nonneg_left q2) (Int.le_of_eq q.symm))
      have p17 : ((yo0.2.1 57 yv1.toNatClampNeg).toInt ≤ (o0.2.1 57 yv1.toNatClampNeg).toInt) := by rw [show yv1 = v1 from (i_eq x_3).symm]; first | (rw [x_6]; exact Int.le_refl _) | (have q := (show Kd _ _ _ _ _ _ _ _ _ _ by assumption).1; rw [x_6]; exact Int.le_trans (Int.le_add_of_nonneg_right (by decide)) (Int.le_of_eq q.symm))
      have p18 : Mr yv1.toInt (o0.2.1 57) (o0.2.1 59) (o0.2.1 58) (o0.2.1 60) := by rw [show yv1 = v1 from (i_eq x_3).symm]; first | assumption | exact Mr_k x_11 (show Kd _ _ _ _ _ _ _ _ _ _ by assumption) (show Kq _ _ _ _ _ by assumption) (by rw [(show Fr (fr_M [] [57, 58, 59, 60] []) _ _ by assumption).2.1 61 rfl]; assumption) (fun c => (k_o0.2 59 c).2)
      have p19 : Ad 1 yv1.toInt yv2.toInt (yo0.2.1 57) (yo0.2.1 59) (yo0.2.1 58) (yo0.2.1 61) (o0.2.1 57) (o0.2.1 59) (o0.2.1 58) := by rw [x_6, x_7, x_8, show yv1 = v1 from (i_eq x_3).symm, show yv2 = v2 from (i_eq x_4).symm]; rw [← r_o0.2.1 61 rfl]; first | exact Ad_p (c := v4.toNatClampNeg) (show Iq2 _ _ _ _ _ _ by assumption) (by omega) (by rw [tn_n]; omega) (show ((v4.toNatClampNeg : Nat) : Int) < 301 * v1.toInt + (o0.2.1 57 v1.toNatClampNeg).toInt by rw [tn_n]; omega) (by omega) (by omega) | exact Ad_n x_13 (show 301 * v1.toInt + (o0.2.1 57 v1.toNatClampNeg).toInt ≤ v4.toInt by omega) (show (o0.2.1 57 v1.toNatClampNeg).toInt = 300 by omega) (by omega) (by decide) | exact Ad_k x_13 (by rw [← (show Fr (fr_M [] [57, 58, 59, 60] []) _ _ by assumption).2.1 61 rfl]; assumption) (show 301 * v1.toInt + (o0.2.1 57 v1.toNatClampNeg).toInt ≤ v4.toInt by omega) (show (o0.2.1 57 v1.toNatClampNeg).toInt ≤ 299 by omega) (fun c => (k_o0.2 59 c).2) (by omega) (show 0 ≤ (o0.2.1 57 v1.toNatClampNeg).toInt from (k_o0.2 57 _).1) (by omega)
      exact tt_some ⟨k12, r13, x_0, p14, x_5, p15, p16, p17, p18, p19, trivial⟩
    · have wc10 : ¬ x8.toInt = (300 : Int) := c_ne c10
      have i20 : (0 : Int) ≤ x8.toInt ∧ x8.toInt ≤ 299 := nr_nelb c10 i9 (show (300 : Int) ≤ (300 : Int32).toInt ∧ (300 : Int32).toInt ≤ 300 by decide) (by decide) (by decide)
      have t21 : (0 : Int) ≤ (o0.2.1 57 v1.toNatClampNeg).toInt ∧ (o0.2.1 57 v1.toNatClampNeg).toInt ≤ 300 := k_o0.2 57 _
      refine tt_b (sM_keepCut _ _ _ _ k_o0 i_v1 i_v2 f_o0_0 f_o0_36 f_o0_38 f_o0_43 f_o0_95 (show (o0.2.1 57 v1.toNatClampNeg).toInt ≤ 299 by omega) x_0 x_1 x_2 (show 0 ≤ v2.toInt by omega)) (fun q22 hq22 => ?_)
      obtain ⟨k_q22, n_q22, zq22_0, zq22_1, zq22_2, zq22_3, zq22_4, -⟩ := hq22
      have r_q22 := fr_tr r_o0 n_q22 rfl rfl rfl
      have f_q22_0 : (0 : Int) ≤ (q22.1 0).toInt ∧ (q22.1 0).toInt ≤ 2 := by rw [n_q22.1 0 rfl]; exact f_o0_0
      have f_q22_36 : (0 : Int) ≤ (q22.1 36).toInt ∧ (q22.1 36).toInt ≤ 0 := by rw [n_q22.1 36 rfl]; exact f_o0_36
      have f_q22_38 : (1 : Int) ≤ (q22.1 38).toInt ∧ (q22.1 38).toInt ≤ 1 := by rw [n_q22.1 38 rfl]; exact f_o0_38
      have f_q22_43 : (1 : Int) ≤ (q22.1 43).toInt ∧ (q22.1 43).toInt ≤ 200 := by rw [n_q22.1 43 rfl]; exact f_o0_43
      have f_q22_95 : (0 : Int) ≤ (q22.1 95).toInt ∧ (q22.1 95).toInt ≤ 0 := by rw [n_q22.1 95 rfl]; exact f_o0_95
      have e_q22_36 : (q22.1 36).toInt = (o0.1 36).toInt := congrArg Int32.toInt (n_q22.1 36 rfl)
      have u23 : Jn v2 (q22.2.1 61) := by rw [n_q22.2.1 61 rfl]; exact x_1
      have u24 : Mv v3 v2.toInt (q22.2.1 61) := by rw [n_q22.2.1 61 rfl]; exact x_12
      have p25 : Sk yv1.toInt yv2.toInt (q22.2.1 57) (q22.2.1 59) := by rw [← x_3, ← x_4]; assumption
      have p26 : Lc yv1.toInt (yo0.2.1 59) (q22.2.1 59) := by first | assumption | exact Lc_t (by assumption) (by rw [← x_3]; assumption)
      have p27 : Tc yv1.toInt yv2.toInt (yo0.2.1 57) (yo0.2.1 59) (yo0.2.1 58) (q22.2.1 61) (q22.2.1 57) (q22.2.1 59) (q22.2.1 58) := by first | exact Or.inl ⟨x_6.symm, x_8.symm, x_7.symm⟩ | exact Or.inr (by rw [x_6, x_7, x_8, ← x_3, ← x_4]; assumption)
      have p28 : (1 ≤ (q22.2.1 57 yv1.toNatClampNeg).toInt) := by rw [show yv1 = v1 from (i_eq x_3).symm]; first | omega | (have q := (show Kd _ _ _ _ _ _ _ _ _ _ by assumption).1; have q2 := (k_o0.2 57 v1.toNatClampNeg).1; exact Int.le_trans (Int.le_add_of_nonneg_left q2) (Int.le_of_eq q.symm))
      have p29 : ((yo0.2.1 57 yv1.toNatClampNeg).toInt ≤ (q22.2.1 57 yv1.toNatClampNeg).toInt) := by rw [show yv1 = v1 from (i_eq x_3).symm]; first | (rw [x_6]; exact Int.le_refl _) | (have q := (show Kd _ _ _ _ _ _ _ _ _ _ by assumption).1; rw [x_6]; exact Int.le_trans (Int.le_add_of_nonneg_right (by decide)) (Int.le_of_eq q.symm))
      have p30 : Mr yv1.toInt (q22.2.1 57) (q22.2.1 59) (q22.2.1 58) (q22.2.1 60) := by rw [show yv1 = v1 from (i_eq x_3).symm]; first | assumption | exact Mr_k x_11 (show Kd _ _ _ _ _ _ _ _ _ _ by assumption) (show Kq _ _ _ _ _ by assumption) (by rw [(show Fr (fr_M [] [57, 58, 59, 60] []) _ _ by assumption).2.1 61 rfl]; assumption) (fun c => (k_o0.2 59 c).2)
      have p31 : Ad (q22.1 36).toInt yv1.toInt yv2.toInt (yo0.2.1 57) (yo0.2.1 59) (yo0.2.1 58) (yo0.2.1 61) (q22.2.1 57) (q22.2.1 59) (q22.2.1 58) := by rw [x_6, x_7, x_8, show yv1 = v1 from (i_eq x_3).symm, show yv2 = v2 from (i_eq x_4).symm]; rw [← r_o0.2.1 61 rfl]; first | exact Ad_p (c := v4.toNatClampNeg) (show Iq2 _ _ _ _ _ _ by assumption) (by omega) (by rw [tn_n]; omega) (show ((v4.toNatClampNeg : Nat) : Int) < 301 * v1.toInt + (o0.2.1 57 v1.toNatClampNeg).toInt by rw [tn_n]; omega) (by omega) (by omega) | exact Ad_n x_13 (show 301 * v1.toInt + (o0.2.1 57 v1.toNatClampNeg).toInt ≤ v4.toInt by omega) (show (o0.2.1 57 v1.toNatClampNeg).toInt = 300 by omega) (by omega) (by decide) | exact Ad_k x_13 (by rw [← (show Fr (fr_M [] [57, 58, 59, 60] []) _ _ by assumption).2.1 61 rfl]; assumption) (show 301 * v1.toInt + (o0.2.1 57 v1.toNatClampNeg).toInt ≤ v4.toInt by omega) (show (o0.2.1 57 v1.toNatClampNeg).toInt ≤ 299 by omega) (fun c => (k_o0.2 59 c).2) (by omega) (show 0 ≤ (o0.2.1 57 v1.toNatClampNeg).toInt from (k_o0.2 57 _).1) (by omega)
      exact tt_some ⟨k_q22, r_q22, zq22_0, p25, p26, p27, p28, p29, p30, p31, trivial⟩
  · have wc7 : v4.toInt < x5.toInt := c_nle c7
    have i32 : (301 : Int) ≤ v4.toInt ∧ v4.toInt ≤ 62907 := nr_nlel c7 i_v4 i6 (by decide) (by decide)
    have i33 : (302 : Int) ≤ x5.toInt ∧ x5.toInt ≤ 62908 := nr_nler c7 i_v4 i6 (by decide) (by decide)
    have p34 : ((o0.2.1 60 v4.toNatClampNeg) = mkF (o0.2.1 58) (5 * v4.toNatClampNeg) ((o0.2.1 59 v4.toNatClampNeg).toInt.toNat)) := by exact x_11 v4.toNatClampNeg (by rw [tn_n]; omega) (show ((v4.toNatClampNeg : Nat) : Int) < 301 * v1.toInt + (o0.2.1 57 v1.toNatClampNeg).toInt by rw [tn_n]; omega)
    refine tt_b (sM_isPart _ _ _ _ k_o0 i32 i_v2 f_o0_0 f_o0_36 f_o0_38 f_o0_43 f_o0_95 p34 x_12 (show 0 ≤ v2.toInt by omega)) (fun q35 hq35 => ?_)
    obtain ⟨i_q35, zq35_0, -⟩ := hq35
    refine tt_if (fun c36 => ?_) (fun c36 => ?_)
    · have wc36 : q35.toInt = (0 : Int) := c_eq c36
      have i37 : (0 : Int) ≤ q35.toInt ∧ q35.toInt ≤ 0 := nr_eql c36 i_q35 (show (0 : Int) ≤ (0 : Int32).toInt ∧ (0 : Int32).toInt ≤ 0 by decide) (by decide) (by decide)
      refine tt_kv (P := fun z => ((302 : Int) ≤ z.toInt ∧ z.toInt ≤ 62908) ∧ z = (v4 + 1) ∧ z.toInt = v4.toInt + 1) ⟨iv_add i32 (show (1 : Int) ≤ (1 : Int32).toInt ∧ (1 : Int32).toInt ≤ 1 by decide) (by decide) (by decide) (by decide) (by decide), rfl, iq_add i32 (show (1 : Int) ≤ (1 : Int32).toInt ∧ (1 : Int32).toInt ≤ 1 by decide) (by decide) (by decide)⟩ (fun x38 qi39 => ?_)
      obtain ⟨i39, ax38, ei39⟩ := qi39
      have p40 : Np x38.toInt v1.toInt v2.toInt (o0.2.1 61) (o0.2.1 59) (o0.2.1 58) := by exact Np_s x_13 (show Iq2 _ _ _ _ _ _ by assumption) (by omega) (by rw [tn_n]; omega) (by omega)
      exact H.2 _ _ _ _ _ k_o0 r_o0 i_v1 i_v2 (iv_w (a := 301) (b := 62908) (by decide) (by decide) i39) f_o0_0 f_o0_36 f_o0_38 f_o0_43 f_o0_95 x_0 x_1 x_2 (show v1.toInt = yv1.toInt by omega) (show v2.toInt = yv2.toInt by omega) x_5 x_6 x_7 x_8 (show 0 ≤ v2.toInt by omega) (show 301 * v1.toInt ≤ x38.toInt by omega) x_11 x_12 p40 (show 0 + (62908 - x38.toInt) * 2 < (n : Int) by omega)
    · have wc36 : ¬ q35.toInt = (0 : Int) := c_ne c36
      have i41 : (1 : Int) ≤ q35.toInt ∧ q35.toInt ≤ 1 := nr_nela c36 i_q35 (show (0 : Int) ≤ (0 : Int32).toInt ∧ (0 : Int32).toInt ≤ 0 by decide) (by decide) (by decide)
      have p42 : Sk yv1.toInt yv2.toInt (o0.2.1 57) (o0.2.1 59) := by rw [← x_3, ← x_4]; assumption
      have p43 : Tc yv1.toInt yv2.toInt (yo0.2.1 57) (yo0.2.1 59) (yo0.2.1 58) (o0.2.1 61) (o0.2.1 57) (o0.2.1 59) (o0.2.1 58) := by first | exact Or.inl ⟨x_6.symm, x_8.symm, x_7.symm⟩ | exact Or.inr (by rw [x_6, x_7, x_8, ← x_3, ← x_4]; assumption)
      have p44 : (1 ≤ (o0.2.1 57 yv1.toNatClampNeg).toInt) := by rw [show yv1 = v1 from (i_eq x_3).symm]; first | omega | (have q := (show Kd _ _ _ _ _ _ _ _ _ _ by assumption).1; have q2 := (k_o0.2 57 v1.toNatClampNeg).1; exact Int.le_trans (Int.le_add_of_nonneg_left q2) (Int.le_of_eq q.symm))
      have p45 : ((yo0.2.1 57 yv1.toNatClampNeg).toInt ≤ (o0.2.1 57 yv1.toNatClampNeg).toInt) := by rw [show yv1 = v1 from (i_eq x_3).symm]; first | (rw [x_6]; exact Int.le_refl _) | (have q := (show Kd _ _ _ _ _ _ _ _ _ _ by assumption).1; rw [x_6]; exact Int.le_trans (Int.le_add_of_nonneg_right (by decide)) (Int.le_of_eq q.symm))
      have p46 : Mr yv1.toInt (o0.2.1 57) (o0.2.1 59) (o0.2.1 58) (o0.2.1 60) := by rw [show yv1 = v1 from (i_eq x_3).symm]; first | assumption | exact Mr_k x_11 (show Kd _ _ _ _ _ _ _ _ _ _ by assumption) (show Kq _ _ _ _ _ by assumption) (by rw [(show Fr (fr_M [] [57, 58, 59, 60] []) _ _ by assumption).2.1 61 rfl]; assumption) (fun c => (k_o0.2 59 c).2)
      have p47 : Ad (o0.1 36).toInt yv1.toInt yv2.toInt (yo0.2.1 57) (yo0.2.1 59) (yo0.2.1 58) (yo0.2.1 61) (o0.2.1 57) (o0.2.1 59) (o0.2.1 58) := by rw [x_6, x_7, x_8, show yv1 = v1 from (i_eq x_3).symm, show yv2 = v2 from (i_eq x_4).symm]; rw [← r_o0.2.1 61 rfl]; first | exact Ad_p (c := v4.toNatClampNeg) (show Iq2 _ _ _ _ _ _ by assumption) (by omega) (by rw [tn_n]; omega) (show ((v4.toNatClampNeg : Nat) : Int) < 301 * v1.toInt + (o0.2.1 57 v1.toNatClampNeg).toInt by rw [tn_n]; omega) (by omega) (by omega) | exact Ad_n x_13 (show 301 * v1.toInt + (o0.2.1 57 v1.toNatClampNeg).toInt ≤ v4.toInt by omega) (show (o0.2.1 57 v1.toNatClampNeg).toInt = 300 by omega) (by omega) (by decide) | exact Ad_k x_13 (by rw [← (show Fr (fr_M [] [57, 58, 59, 60] []) _ _ by assumption).2.1 61 rfl]; assumption) (show 301 * v1.toInt + (o0.2.1 57 v1.toNatClampNeg).toInt ≤ v4.toInt by omega) (show (o0.2.1 57 v1.toNatClampNeg).toInt ≤ 299 by omega) (fun c => (k_o0.2 59 c).2) (by omega) (show 0 ≤ (o0.2.1 57 v1.toNatClampNeg).toInt from (k_o0.2 57 _).1) (by omega)
      exact tt_some ⟨k_o0, r_o0, x_0, p42, x_5, p43, p44, p45, p46, p47, trivial⟩
set_option maxHeartbeats 4000000 in
set_option maxRecDepth 100000 in
theorem tM_tryCut_5 {yv1 : Int32} {yv2 : Int32} {yo0 : cf_O} {n : Nat} (H : HM_tryCut yv1 yv2 yo0 n) (v1 : Int32) (v2 : Int32) (v3 : Int32) (v4 : Int32) (o0 : cf_O) (k_o0 : okO I_M o0) (r_o0 : Fr (fr_M [36] [57, 58, 59, 60] []) yo0 o0) (i_v1 : (1 : Int) ≤ v1.toInt ∧ v1.toInt ≤ 208) (i_v2 : (0 : Int) ≤ v2.toInt ∧ v2.toInt ≤ 5) (i_v4 : (0 : Int) ≤ v4.toInt ∧ v4.toInt ≤ 5) (f_o0_0 : (0 : Int) ≤ (o0.1 0).toInt ∧ (o0.1 0).toInt ≤ 2) (f_o0_36 : (0 : Int) ≤ (o0.1 36).toInt ∧ (o0.1 36).toInt ≤ 0) (f_o0_38 : (1 : Int) ≤ (o0.1 38).toInt ∧ (o0.1 38).toInt ≤ 1) (f_o0_43 : (1 : Int) ≤ (o0.1 43).toInt ∧ (o0.1 43).toInt ≤ 200) (f_o0_95 : (0 : Int) ≤ (o0.1 95).toInt ∧ (o0.1 95).toInt ≤ 0) (x_0 : Cn (o0.2.1 59) (o0.2.1 58)) (x_1 : Jn v2 (o0.2.1 61)) (x_2 : Sk v1.toInt v2.toInt (o0.2.1 57) (o0.2.1 59)) (x_3 : v1.toInt = yv1.toInt) (x_4 : v2.toInt = yv2.toInt) (x_5 : Lc yv1.toInt (yo0.2.1 59) (o0.2.1 59)) (x_6 : ((yo0.2.1 57) = (o0.2.1 57))) (x_7 : ((yo0.2.1 58) = (o0.2.1 58))) (x_8 : ((yo0.2.1 59) = (o0.2.1 59))) (x_9 : 0 ≤ v2.toInt) (x_10 : Mr v1.toInt (o0.2.1 57) (o0.2.1 59) (o0.2.1 58) (o0.2.1 60)) (x_11 : Mv v3 v4.toInt (o0.2.1 61)) (x_12 : 0 ≤ v4.toInt) (x_13 : v4.toInt ≤ v2.toInt) (hm : 125216 + (5 - v4.toInt) * 2 ≤ (n : Int)) : tt (fM_tryCut_5 (gM_tryCut n) v1 v2 v3 v4 o0) (QM_tryCut yv1 yv2 yo0) := by
  unfold fM_tryCut_5
  have i_v3 := iv_top v3
  refine tt_if (fun c1 => ?_) (fun c1 => ?_)
  · have wc1 : v2.toInt ≤ v4.toInt := c_le c1
    refine tt_kv (P := fun z => ((301 : Int) ≤ z.toInt ∧ z.toInt ≤ 62608) ∧ z = (301 * v1) ∧ z.toInt = 301 * v1.toInt) ⟨iv_mul (show (301 : Int) ≤ (301 : Int32).toInt ∧ (301 : Int32).toInt ≤ 301 by decide) i_v1 (by decide) (by decide) (by decide) (by decide) (by decide), rfl, iq_mul (show (301 : Int) ≤ (301 : Int32).toInt ∧ (301 : Int32).toInt ≤ 301 by decide) i_v1 (by decide) (by decide) (by decide) (by decide)⟩ (fun x2 qi3 => ?_)
    obtain ⟨i3, ax2, ei3⟩ := qi3
    have p4 : Mv v3 v2.toInt (o0.2.1 61) := by exact Mv_w x_11 (by omega)
    have p5 : Np x2.toInt v1.toInt v2.toInt (o0.2.1 61) (o0.2.1 59) (o0.2.1 58) := by exact Np_0 (by omega)
    exact H.2 _ _ _ _ _ k_o0 r_o0 i_v1 i_v2 (iv_w (a := 301) (b := 62908) (by decide) (by decide) i3) f_o0_0 f_o0_36 f_o0_38 f_o0_43 f_o0_95 x_0 x_1 x_2 (show v1.toInt = yv1.toInt by omega) (show v2.toInt = yv2.toInt by omega) x_5 x_6 x_7 x_8 (show 0 ≤ v2.toInt by omega) (show 301 * v1.toInt ≤ x2.toInt by omega) x_10 p4 p5 (show 0 + (62908 - x2.toInt) * 2 < (n : Int) by omega)
  · have wc1 : v4.toInt < v2.toInt := c_nle c1
    have i6 : (0 : Int) ≤ v4.toInt ∧ v4.toInt ≤ 4 := nr_nlel c1 i_v4 i_v2 (by decide) (by decide)
    have i7 : (1 : Int) ≤ v2.toInt ∧ v2.toInt ≤ 5 := nr_nler c1 i_v4 i_v2 (by decide) (by decide)
    refine tt_n (ix_ok i6 (by decide) (by decide)) ?_
    refine tt_kv (P := fun z => ((0 : Int) ≤ z.toInt ∧ z.toInt ≤ 208) ∧ z = (o0.2.1 61 v4.toNatClampNeg) ∧ z.toInt = (o0.2.1 61 v4.toNatClampNeg).toInt) ⟨(k_o0.2 61 _), rfl, rfl⟩ (fun x8 qi9 => ?_)
    obtain ⟨i9, ax8, ei9⟩ := qi9
    refine tt_kv (P := fun z => ((0 : Int) ≤ z.toInt ∧ z.toInt ≤ 31) ∧ z = (x8 - ((x8 / 32) * 32)) ∧ z.toInt = x8.toInt % 32) ⟨iv_rem (k := 32) i9 (show (32 : Int) ≤ (32 : Int32).toInt ∧ (32 : Int32).toInt ≤ 32 by decide) (by decide) (by decide) (by decide) (by decide), rfl, i_rem (x := x8) (y := 32) (Int.le_trans (by decide) i9.1) (by decide)⟩ (fun x10 qi11 => ?_)
    obtain ⟨i11, ax10, ei11⟩ := qi11
    refine tt_kv (P := fun z => (((-2147483648) : Int) ≤ z.toInt ∧ z.toInt ≤ 2147483647) ∧ z = (1 <<< (x10 &&& 31)) ∧ z.toInt = ((1 : Int32) <<< (x10 &&& (31 : Int32))).toInt) ⟨iv_top _, rfl, rfl⟩ (fun x12 qi13 => ?_)
    obtain ⟨i13, ax12, ei13⟩ := qi13
    refine tt_kv (P := fun z => (((-2147483648) : Int) ≤ z.toInt ∧ z.toInt ≤ 2147483647) ∧ z = (v3 ||| x12)) ⟨iv_top _, rfl⟩ (fun x14 qi15 => ?_)
    obtain ⟨i15, ax14⟩ := qi15
    refine tt_kv (P := fun z => ((1 : Int) ≤ z.toInt ∧ z.toInt ≤ 5) ∧ z = (v4 + 1) ∧ z.toInt = v4.toInt + 1) ⟨iv_add i6 (show (1 : Int) ≤ (1 : Int32).toInt ∧ (1 : Int32).toInt ≤ 1 by decide) (by decide) (by decide) (by decide) (by decide), rfl, iq_add i6 (show (1 : Int) ≤ (1 : Int32).toInt ∧ (1 : Int32).toInt ≤ 1 by decide) (by decide) (by decide)⟩ (fun x16 qi17 => ?_)
    obtain ⟨i17, ax16, ei17⟩ := qi17
    have p18 : Mv x14 x16.toInt (o0.2.1 61) := by exact Mv_s x_11 (by assumption) (by assumption) (by assumption) (by assumption) (by rw [tn_n]; omega) (by omega)
    exact H.1 _ _ _ _ _ k_o0 r_o0 i_v1 (iv_w (a := 0) (b := 5) (by decide) (by decide) i7) (iv_w (a := 0) (b := 5) (by decide) (by decide) i17) f_o0_0 f_o0_36 f_o0_38 f_o0_43 f_o0_95 x_0 x_1 x_2 (show v1.toInt = yv1.toInt by omega) (show v2.toInt = yv2.toInt by omega) x_5 x_6 x_7 x_8 (show 0 ≤ v2.toInt by omega) x_10 p18 (show 0 ≤ x16.toInt by omega) (show x16.toInt ≤ v2.toInt by omega) (show 125216 + (5 - x16.toInt) * 2 < (n : Int) by omega)
set_option maxHeartbeats 4000000 in
set_option maxRecDepth 100000 in
theorem hM_tryCut (yv1 : Int32) (yv2 : Int32) (yo0 : cf_O) : ∀ n, HM_tryCut yv1 yv2 yo0 n := by
  intro n
  induction n with
  | zero => exact ⟨(fun v1 v2 v3 v4 o0 k_o0 r_o0 i_v1 i_v2 i_v4 f_o0_0 f_o0_36 f_o0_38 f_o0_43 f_o0_95 x_0 x_1 x_2 x_3 x_4 x_5 x_6 x_7 x_8 x_9 x_10 x_11 x_12 x_13 hm => by exact absurd (show 125216 + (5 - v4.toInt) * 2 < (0 : Int) from hm) (by omega)), (fun v1 v2 v3 v4 o0 k_o0 r_o0 i_v1 i_v2 i_v4 f_o0_0 f_o0_36 f_o0_38 f_o0_43 f_o0_95 x_0 x_1 x_2 x_3 x_4 x_5 x_6 x_7 x_8 x_9 x_10 x_11 x_12 x_13 hm => by exact absurd (show 0 + (62908 - v4.toInt) * 2 < (0 : Int) from hm) (by omega))⟩
  | succ n ih => exact ⟨(fun v1 v2 v3 v4 o0 k_o0 r_o0 i_v1 i_v2 i_v4 f_o0_0 f_o0_36 f_o0_38 f_o0_43 f_o0_95 x_0 x_1 x_2 x_3 x_4 x_5 x_6 x_7 x_8 x_9 x_10 x_11 x_12 x_13 hm => tM_tryCut_5 ih v1 v2 v3 v4 o0 k_o0 r_o0 i_v1 i_v2 i_v4 f_o0_0 f_o0_36 f_o0_38 f_o0_43 f_o0_95 x_0 x_1 x_2 x_3 x_4 x_5 x_6 x_7 x_8 x_9 x_10 x_11 x_12 x_13 (by omega)), (fun v1 v2 v3 v4 o0 k_o0 r_o0 i_v1 i_v2 i_v4 f_o0_0 f_o0_36 f_o0_38 f_o0_43 f_o0_95 x_0 x_1 x_2 x_3 x_4 x_5 x_6 x_7 x_8 x_9 x_10 x_11 x_12 x_13 hm => tM_tryCut_39 ih v1 v2 v3 v4 o0 k_o0 r_o0 i_v1 i_v2 i_v4 f_o0_0 f_o0_36 f_o0_38 f_o0_43 f_o0_95 x_0 x_1 x_2 x_3 x_4 x_5 x_6 x_7 x_8 x_9 x_10 x_11 x_12 x_13 (by omega))⟩
set_option maxHeartbeats 4000000 in
set_option maxRecDepth 100000 in
theorem sM_tryCut (v1 : Int32) (v2 : Int32) (o0 : cf_O) (k_o0 : okO I_M o0) (i_v1 : (1 : Int) ≤ v1.toInt ∧ v1.toInt ≤ 208) (i_v2 : (0 : Int) ≤ v2.toInt ∧ v2.toInt ≤ 5) (f_o0_0 : (0 : Int) ≤ (o0.1 0).toInt ∧ (o0.1 0).toInt ≤ 2) (f_o0_36 : (0 : Int) ≤ (o0.1 36).toInt ∧ (o0.1 36).toInt ≤ 0) (f_o0_38 : (1 : Int) ≤ (o0.1 38).toInt ∧ (o0.1 38).toInt ≤ 1) (f_o0_43 : (1 : Int) ≤ (o0.1 43).toInt ∧ (o0.1 43).toInt ≤ 200) (f_o0_95 : (0 : Int) ≤ (o0.1 95).toInt ∧ (o0.1 95).toInt ≤ 0) (x_0 : Cn (o0.2.1 59) (o0.2.1 58)) (x_1 : Jn v2 (o0.2.1 61)) (x_2 : Sk v1.toInt v2.toInt (o0.2.1 57) (o0.2.1 59)) (x_3 : 0 ≤ v2.toInt) (x_4 : Mr v1.toInt (o0.2.1 57) (o0.2.1 59) (o0.2.1 58) (o0.2.1 60)) : tt (fM_tryCut v1 v2 o0) (QM_tryCut v1 v2 o0) := by
  have H := hM_tryCut v1 v2 o0 cfFU
  have hm : (125229 : Int) ≤ (cfFU : Nat) := by decide
  have r_o0 : Fr (fr_M [36] [57, 58, 59, 60] []) o0 o0 := fr_rfl
  unfold fM_tryCut fM_tryCut_0
  have p1 : Lc v1.toInt (o0.2.1 59) (o0.2.1 59) := by exact Lc_r _ _
  have p2 : ((o0.2.1 57) = (o0.2.1 57)) := by rfl
  have p3 : ((o0.2.1 58) = (o0.2.1 58)) := by rfl
  have p4 : ((o0.2.1 59) = (o0.2.1 59)) := by rfl
  have p5 : Mv (0 : Int32) 0 (o0.2.1 61) := by exact Mv_0 _
  exact H.1 _ _ _ _ _ k_o0 r_o0 i_v1 i_v2 (iv_w (a := 0) (b := 5) (by decide) (by decide) (show (0 : Int) ≤ (0 : Int32).toInt ∧ (0 : Int32).toInt ≤ 0 by decide)) f_o0_0 f_o0_36 f_o0_38 f_o0_43 f_o0_95 x_0 x_1 x_2 (show v1.toInt = v1.toInt by omega) (show v2.toInt = v2.toInt by omega) p1 p2 p3 p4 (show 0 ≤ v2.toInt by omega) x_4 p5 (show 0 ≤ 0 by omega) (show 0 ≤ v2.toInt by omega) (show 125216 + (5 - 0) * 2 < ((cfFU : Nat) : Int) by omega)
def QM_alone (v1 : Int32) (o0 : cf_O) (r : (cf_O)) : Prop := (okO I_M r) ∧ (Fr (fr_M [] [58, 59, 60, 61] []) o0 r) ∧ (Cn (r.2.1 59) (r.2.1 58)) ∧ (Al v1.toInt (o0.2.1 57) (o0.2.1 59) (r.2.1 59)) ∧ (An v1.toInt v1 (o0.2.1 57) (o0.2.1 58) (r.2.1 58)) ∧ ((v1.toInt = 0 → ((r.2.1 59) (o0.2.1 57 v1.toNatClampNeg).toInt.toNat).toInt = 0)) ∧ ((1 ≤ v1.toInt → ((r.2.1 59) (301 * v1.toInt + (o0.2.1 57 v1.toNatClampNeg).toInt).toNat).toInt = 1)) ∧ True
set_option maxHeartbeats 4000000 in
set_option maxRecDepth 100000 in
theorem sM_alone (v1 : Int32) (o0 : cf_O) (k_o0 : okO I_M o0) (i_v1 : (0 : Int) ≤ v1.toInt ∧ v1.toInt ≤ 208) (f_o0_0 : (0 : Int) ≤ (o0.1 0).toInt ∧ (o0.1 0).toInt ≤ 2) (f_o0_38 : (1 : Int) ≤ (o0.1 38).toInt ∧ (o0.1 38).toInt ≤ 1) (f_o0_95 : (0 : Int) ≤ (o0.1 95).toInt ∧ (o0.1 95).toInt ≤ 0) (x_0 : Cn (o0.2.1 59) (o0.2.1 58)) : tt (fM_alone v1 o0) (QM_alone v1 o0) := by
  have r_o0 : Fr (fr_M [] [58, 59, 60, 61] []) o0 o0 := fr_rfl
  unfold fM_alone fM_alone_0
  refine tt_if (fun c1 => ?_) (fun c1 => ?_)
  · have wc1 : v1.toInt ≤ (0 : Int) := c_le c1
    have i2 : (0 : Int) ≤ v1.toInt ∧ v1.toInt ≤ 0 := nr_lel c1 i_v1 (show (0 : Int) ≤ (0 : Int32).toInt ∧ (0 : Int32).toInt ≤ 0 by decide) (by decide) (by decide)
    try unfold fM_alone_11
    refine tt_kv (P := fun z => ((0 : Int) ≤ z.toInt ∧ z.toInt ≤ 0) ∧ z.toInt = 301 * v1.toInt) ⟨iv_mul (show (301 : Int) ≤ (301 : Int32).toInt ∧ (301 : Int32).toInt ≤ 301 by decide) i2 (by decide) (by decide) (by decide) (by decide) (by decide), iq_mul (show (301 : Int) ≤ (301 : Int32).toInt ∧ (301 : Int32).toInt ≤ 301 by decide) i2 (by decide) (by decide) (by decide) (by decide)⟩ (fun x3 qi4 => ?_)
    obtain ⟨i4, ei4⟩ := qi4
    refine tt_n (ix_ok i2 (by decide) (by decide)) ?_
    refine tt_kv (P := fun z => ((0 : Int) ≤ z.toInt ∧ z.toInt ≤ 300) ∧ z.toInt = (o0.2.1 57 v1.toNatClampNeg).toInt) ⟨(k_o0.2 57 _), rfl⟩ (fun x5 qi6 => ?_)
    obtain ⟨i6, ei6⟩ := qi6
    refine tt_kv (P := fun z => ((0 : Int) ≤ z.toInt ∧ z.toInt ≤ 300) ∧ z.toInt = x3.toInt + x5.toInt) ⟨iv_add i4 i6 (by decide) (by decide) (by decide) (by decide), iq_add i4 i6 (by decide) (by decide)⟩ (fun x7 qi8 => ?_)
    obtain ⟨i8, ei8⟩ := qi8
    refine tt_if (fun c9 => ?_) (fun c9 => ?_)
    · have wc9 : v1.toInt ≤ (0 : Int) := c_le c9
      try unfold fM_alone_38
      refine tt_n (ix_ok i8 (by decide) (by decide)) ?_
      refine tt_ko ?_
      have k10 := ok_xp (k := 59) (i := x7.toNatClampNeg) (v := 0) k_o0 (iv_w (a := 0) (b := 5) (by decide) (by decide) (show (0 : Int) ≤ (0 : Int32).toInt ∧ (0 : Int32).toInt ≤ 0 by decide))
      have r11 := fr_xp (k := 59) (i := x7.toNatClampNeg) (v := 0) r_o0 rfl
      refine tt_kv (P := fun z => ((0 : Int) ≤ z.toInt ∧ z.toInt ≤ 1500) ∧ z.toInt = 5 * x7.toInt) ⟨iv_mul (show (5 : Int) ≤ (5 : Int32).toInt ∧ (5 : Int32).toInt ≤ 5 by decide) i8 (by decide) (by decide) (by decide) (by decide) (by decide), iq_mul (show (5 : Int) ≤ (5 : Int32).toInt ∧ (5 : Int32).toInt ≤ 5 by decide) i8 (by decide) (by decide) (by decide) (by decide)⟩ (fun x12 qi13 => ?_)
      obtain ⟨i13, ei13⟩ := qi13
      refine tt_n (ix_ok i13 (by decide) (by decide)) ?_
      refine tt_ko ?_
      have k14 := ok_xp (k := 58) (i := x12.toNatClampNeg) (v := v1) k10 (iv_w (a := 0) (b := 208) (by decide) (by decide) i2)
      have r15 := fr_xp (k := 58) (i := x12.toNatClampNeg) (v := v1) r11 rfl
      refine tt_if (fun c16 => ?_) (fun c16 => ?_)
      · have wc16 : v1.toInt ≤ (0 : Int) := c_le c16
        try unfold fM_alone_67
        refine tt_n (ix_ok i8 (by decide) (by decide)) ?_
        refine tt_ko ?_
        have k17 := ok_xp (k := 60) (i := x7.toNatClampNeg) (v := 0) k14 (iv_w (a := (-2147483648)) (b := 2147483647) (by decide) (by decide) (show (0 : Int) ≤ (0 : Int32).toInt ∧ (0 : Int32).toInt ≤ 0 by decide))
        have r18 := fr_xp (k := 60) (i := x7.toNatClampNeg) (v := 0) r15 rfl
        have p19 : Cn (upd (o0.2.1 59) (x7.toNatClampNeg) 0) (upd (o0.2.1 58) (x12.toNatClampNeg) v1) := by exact Cn_al x_0 (fun c => (k_o0.2 59 c).2) (by rw [tn_n, tn_n]; omega) (by first | omega | exact Or.inl (by decide) | exact Or.inr ⟨by decide, by omega⟩)
        have p20 : Al v1.toInt (o0.2.1 57) (o0.2.1 59) (upd (o0.2.1 59) (x7.toNatClampNeg) 0) := by exact Al_u (a := v1.toNatClampNeg) rfl (by rw [tn_n]; omega) (by first | omega | decide)
        have p21 : An v1.toInt v1 (o0.2.1 57) (o0.2.1 58) (upd (o0.2.1 58) (x12.toNatClampNeg) v1) := by exact An_u (a := v1.toNatClampNeg) rfl (by rw [tn_n]; omega)
        have p22 : (v1.toInt = 0 → ((upd (o0.2.1 59) (x7.toNatClampNeg) 0) (o0.2.1 57 v1.toNatClampNeg).toInt.toNat).toInt = 0) := by first | exact fun hz => absurd hz (by omega) | exact fun _ => A0_u (by rw [tn_n]; omega) (by decide)
        have p23 : (1 ≤ v1.toInt → ((upd (o0.2.1 59) (x7.toNatClampNeg) 0) (301 * v1.toInt + (o0.2.1 57 v1.toNatClampNeg).toInt).toNat).toInt = 1) := by first | exact fun hz => absurd hz (by omega) | exact fun _ => A1_u (by rw [tn_n]; omega) (by decide)
        exact tt_some ⟨k17, r18, p19, p20, p21, p22, p23, trivial⟩
      · have wc16 : (0 : Int) < v1.toInt := c_nle c16
        exact (dd_nle c16 (show (0 : Int) ≤ (0 : Int32).toInt ∧ (0 : Int32).toInt ≤ 0 by decide) i2 (by decide)).elim
    · have wc9 : (0 : Int) < v1.toInt := c_nle c9
      exact (dd_nle c9 (show (0 : Int) ≤ (0 : Int32).toInt ∧ (0 : Int32).toInt ≤ 0 by decide) i2 (by decide)).elim
  · have wc1 : (0 : Int) < v1.toInt := c_nle c1
    have i24 : (1 : Int) ≤ v1.toInt ∧ v1.toInt ≤ 208 := nr_nler c1 (show (0 : Int) ≤ (0 : Int32).toInt ∧ (0 : Int32).toInt ≤ 0 by decide) i_v1 (by decide) (by decide)
    refine tt_n (ix_ok (show (0 : Int) ≤ (0 : Int32).toInt ∧ (0 : Int32).toInt ≤ 0 by decide) (by decide) (by decide)) ?_
    refine tt_ko ?_
    have k25 := ok_xp (k := 61) (i := (0 : Int32).toNatClampNeg) (v := v1) k_o0 (iv_w (a := 0) (b := 208) (by decide) (by decide) i24)
    have r26 := fr_xp (k := 61) (i := (0 : Int32).toNatClampNeg) (v := v1) r_o0 rfl
    try unfold fM_alone_11
    refine tt_kv (P := fun z => ((301 : Int) ≤ z.toInt ∧ z.toInt ≤ 62608) ∧ z.toInt = 301 * v1.toInt) ⟨iv_mul (show (301 : Int) ≤ (301 : Int32).toInt ∧ (301 : Int32).toInt ≤ 301 by decide) i24 (by decide) (by decide) (by decide) (by decide) (by decide), iq_mul (show (301 : Int) ≤ (301 : Int32).toInt ∧ (301 : Int32).toInt ≤ 301 by decide) i24 (by decide) (by decide) (by decide) (by decide)⟩ (fun x27 qi28 => ?_)
    obtain ⟨i28, ei28⟩ := qi28
    refine tt_n (ix_ok i24 (by decide) (by decide)) ?_
    refine tt_kv (P := fun z => ((0 : Int) ≤ z.toInt ∧ z.toInt ≤ 300) ∧ z.toInt = (o0.2.1 57 v1.toNatClampNeg).toInt) ⟨(k25.2 57 _), rfl⟩ (fun x29 qi30 => ?_)
    obtain ⟨i30, ei30⟩ := qi30
    refine tt_kv (P := fun z => ((301 : Int) ≤ z.toInt ∧ z.toInt ≤ 62908) ∧ z.toInt = x27.toInt + x29.toInt) ⟨iv_add i28 i30 (by decide) (by decide) (by decide) (by decide), iq_add i28 i30 (by decide) (by decide)⟩ (fun x31 qi32 => ?_)
    obtain ⟨i32, ei32⟩ := qi32
    refine tt_if (fun c33 => ?_) (fun c33 => ?_)
    · have wc33 : v1.toInt ≤ (0 : Int) := c_le c33
      exact (dd_le c33 i24 (show (0 : Int) ≤ (0 : Int32).toInt ∧ (0 : Int32).toInt ≤ 0 by decide) (by decide)).elim
    · have wc33 : (0 : Int) < v1.toInt := c_nle c33
      try unfold fM_alone_38
      refine tt_n (ix_ok i32 (by decide) (by decide)) ?_
      refine tt_ko ?_
      have k34 := ok_xp (k := 59) (i := x31.toNatClampNeg) (v := 1) k25 (iv_w (a := 0) (b := 5) (by decide) (by decide) (show (1 : Int) ≤ (1 : Int32).toInt ∧ (1 : Int32).toInt ≤ 1 by decide))
      have r35 := fr_xp (k := 59) (i := x31.toNatClampNeg) (v := 1) r26 rfl
      refine tt_kv (P := fun z => ((1505 : Int) ≤ z.toInt ∧ z.toInt ≤ 314540) ∧ z.toInt = 5 * x31.toInt) ⟨iv_mul (show (5 : Int) ≤ (5 : Int32).toInt ∧ (5 : Int32).toInt ≤ 5 by decide) i32 (by decide) (by decide) (by decide) (by decide) (by decide), iq_mul (show (5 : Int) ≤ (5 : Int32).toInt ∧ (5 : Int32).toInt ≤ 5 by decide) i32 (by decide) (by decide) (by decide) (by decide)⟩ (fun x36 qi37 => ?_)
      obtain ⟨i37, ei37⟩ := qi37
      refine tt_n (ix_ok i37 (by decide) (by decide)) ?_
      refine tt_ko ?_
      have k38 := ok_xp (k := 58) (i := x36.toNatClampNeg) (v := v1) k34 (iv_w (a := 0) (b := 208) (by decide) (by decide) i24)
      have r39 := fr_xp (k := 58) (i := x36.toNatClampNeg) (v := v1) r35 rfl
      refine tt_if (fun c40 => ?_) (fun c40 => ?_)
      · have wc40 : v1.toInt ≤ (0 : Int) := c_le c40
        exact (dd_le c40 i24 (show (0 : Int) ≤ (0 : Int32).toInt ∧ (0 : Int32).toInt ≤ 0 by decide) (by decide)).elim
      · have wc40 : (0 : Int) < v1.toInt := c_nle c40
        refine tt_kv (P := fun z => ((0 : Int) ≤ z.toInt ∧ z.toInt ≤ 31) ∧ z.toInt = v1.toInt % 32) ⟨iv_rem (k := 32) i24 (show (32 : Int) ≤ (32 : Int32).toInt ∧ (32 : Int32).toInt ≤ 32 by decide) (by decide) (by decide) (by decide) (by decide), i_rem (x := v1) (y := 32) (Int.le_trans (by decide) i24.1) (by decide)⟩ (fun x41 qi42 => ?_)
        obtain ⟨i42, ei42⟩ := qi42
        refine tt_kv (P := fun z => (((-2147483648) : Int) ≤ z.toInt ∧ z.toInt ≤ 2147483647) ∧ z.toInt = ((1 : Int32) <<< (x41 &&& (31 : Int32))).toInt) ⟨iv_top _, rfl⟩ (fun x43 qi44 => ?_)
        obtain ⟨i44, ei44⟩ := qi44
        try unfold fM_alone_67
        refine tt_n (ix_ok i32 (by decide) (by decide)) ?_
        refine tt_ko ?_
        have k45 := ok_xp (k := 60) (i := x31.toNatClampNeg) (v := x43) k38 i44
        have r46 := fr_xp (k := 60) (i := x31.toNatClampNeg) (v := x43) r39 rfl
        have p47 : Cn (upd (o0.2.1 59) (x31.toNatClampNeg) 1) (upd (o0.2.1 58) (x36.toNatClampNeg) v1) := by exact Cn_al x_0 (fun c => (k_o0.2 59 c).2) (by rw [tn_n, tn_n]; omega) (by first | omega | exact Or.inl (by decide) | exact Or.inr ⟨by decide, by omega⟩)
        have p48 : Al v1.toInt (o0.2.1 57) (o0.2.1 59) (upd (o0.2.1 59) (x31.toNatClampNeg) 1) := by exact Al_u (a := v1.toNatClampNeg) rfl (by rw [tn_n]; omega) (by first | omega | decide)
        have p49 : An v1.toInt v1 (o0.2.1 57) (o0.2.1 58) (upd (o0.2.1 58) (x36.toNatClampNeg) v1) := by exact An_u (a := v1.toNatClampNeg) rfl (by rw [tn_n]; omega)
        have p50 : (v1.toInt = 0 → ((upd (o0.2.1 59) (x31.toNatClampNeg) 1) (o0.2.1 57 v1.toNatClampNeg).toInt.toNat).toInt = 0) := by first | exact fun hz => absurd hz (by omega) | exact fun _ => A0_u (by rw [tn_n]; omega) (by decide)
        have p51 : (1 ≤ v1.toInt → ((upd (o0.2.1 59) (x31.toNatClampNeg) 1) (301 * v1.toInt + (o0.2.1 57 v1.toNatClampNeg).toInt).toNat).toInt = 1) := by first | exact fun hz => absurd hz (by omega) | exact fun _ => A1_u (by rw [tn_n]; omega) (by decide)
        exact tt_some ⟨k45, r46, p47, p48, p49, p50, p51, trivial⟩
def QM_cut (v1 : Int32) (v2 : Int32) (o0 : cf_O) (r : (cf_O)) : Prop := (okO I_M r) ∧ (Fr (fr_M [36] [57, 58, 59, 60, 61] []) o0 r) ∧ (Cn (r.2.1 59) (r.2.1 58)) ∧ (Sz ((r.1 39).toInt + 1 + v1.toInt) v2.toInt (r.2.1 57) (r.2.1 59)) ∧ (Lc ((r.1 39).toInt + 1 + v1.toInt) (o0.2.1 59) (r.2.1 59)) ∧ (Cz ((o0.1 39).toInt + 1 + v1.toInt + 1) ((o0.1 39).toInt + 1) (o0.1 43).toInt (o0.2.1 44) (o0.2.1 45) (r.2.1 57) (r.2.1 59) (r.2.1 58)) ∧ (Cx ((o0.1 39).toInt + 1 + v1.toInt) ((o0.2.1 44 v1.toNatClampNeg).toInt / 2) ((o0.2.1 45 v1.toNatClampNeg).toInt / 2) ((o0.1 39).toInt + 1) (o0.1 43).toInt (o0.2.1 44) (o0.2.1 45) (r.2.1 57) (r.2.1 59) (r.2.1 58)) ∧ (Ce ((o0.1 39).toInt + 1 + v1.toInt) (o0.2.1 57) (r.2.1 57)) ∧ (Ce (1505 * ((o0.1 39).toInt + 1 + v1.toInt)) (o0.2.1 58) (r.2.1 58)) ∧ (Ca ((o0.1 39).toInt + 1 + v1.toInt + 1) (r.2.1 57) (r.2.1 59) (r.2.1 58)) ∧ (Lp v2.toInt (((r.2.1 57) ((o0.1 39).toInt + 1 + v1.toInt).toNat).toInt) (r.1 36).toInt) ∧ (Gp2 (r.1 36).toInt (rowL (r.2.1 57) (r.2.1 59) (r.2.1 58) ((o0.1 39).toInt + 1 + v1.toInt).toNat) (allL (o0.2.1 57) (o0.2.1 59) (o0.2.1 58) ((o0.2.1 44 v1.toNatClampNeg).toInt / 2).toNat) (allL (o0.2.1 57) (o0.2.1 59) (o0.2.1 58) ((o0.2.1 45 v1.toNatClampNeg).toInt / 2).toNat) v2.toInt.toNat) ∧ True
def HM_cut (yv1 : Int32) (yv2 : Int32) (yo0 : cf_O) (n : Nat) : Prop := (∀ (v2 : Int32) (v3 : Int32) (v4 : Int32) (v5 : Int32) (v6 : Int32) (o0 : cf_O), (okO I_M o0) → (Fr (fr_M [36] [57, 58, 59, 60, 61] []) yo0 o0) → ((0 : Int) ≤ v2.toInt ∧ v2.toInt ≤ 5) → ((1 : Int) ≤ v3.toInt ∧ v3.toInt ≤ 208) → ((0 : Int) ≤ v4.toInt ∧ v4.toInt ≤ 208) → ((0 : Int) ≤ v5.toInt ∧ v5.toInt ≤ 208) → ((0 : Int) ≤ v6.toInt ∧ v6.toInt ≤ 6) → ((0 : Int) ≤ (o0.1 0).toInt ∧ (o0.1 0).toInt ≤ 2) → ((1 : Int) ≤ (o0.1 38).toInt ∧ (o0.1 38).toInt ≤ 1) → ((1 : Int) ≤ (o0.1 43).toInt ∧ (o0.1 43).toInt ≤ 200) → ((0 : Int) ≤ (o0.1 95).toInt ∧ (o0.1 95).toInt ≤ 0) → (Cn (o0.2.1 59) (o0.2.1 58)) → (Sk v3.toInt (v6.toInt - 1) (o0.2.1 57) (o0.2.1 59)) → (Lc v3.toInt (yo0.2.1 59) (o0.2.1 59)) → (v3.toInt = (yo0.1 39).toInt + 1 + yv1.toInt) → (v2.toInt = yv2.toInt) → (1 ≤ v2.toInt) → (v6.toInt ≤ v2.toInt + 1) → (Cz v3.toInt ((yo0.1 39).toInt + 1) (yo0.1 43).toInt (yo0.2.1 44) (yo0.2.1 45) (o0.2.1 57) (o0.2.1 59) (o0.2.1 58)) → (Cx v3.toInt v4.toInt v5.toInt ((yo0.1 39).toInt + 1) (yo0.1 43).toInt (yo0.2.1 44) (yo0.2.1 45) (o0.2.1 57) (o0.2.1 59) (o0.2.1 58)) → (Ce v3.toInt (yo0.2.1 57) (o0.2.1 57)) → (Ce (1505 * v3.toInt) (yo0.2.1 58) (o0.2.1 58)) → (Ca v3.toInt (o0.2.1 57) (o0.2.1 59) (o0.2.1 58)) → (v4.toInt = (yo0.2.1 44 yv1.toNatClampNeg).toInt / 2) → (v5.toInt = (yo0.2.1 45 yv1.toNatClampNeg).toInt / 2) → (0 ≤ v4.toInt) → (0 ≤ v5.toInt) → (v4.toInt < v3.toInt) → (v5.toInt < v3.toInt) → (yv1.toInt < (yo0.1 43).toInt) → (0 ≤ yv1.toInt) → (1 ≤ v4.toInt) → (v4.toInt < v5.toInt) → (Lb v6.toInt (-1) 0 0 0 (o0.2.1 57 v3.toNatClampNeg).toInt (o0.1 36).toInt) → (Mr v3.toInt (o0.2.1 57) (o0.2.1 59) (o0.2.1 58) (o0.2.1 60)) → (Q37 (o0.1 36).toInt (rowL (o0.2.1 57) (o0.2.1 59) (o0.2.1 58) v3.toNatClampNeg) (allL (yo0.2.1 57) (yo0.2.1 59) (yo0.2.1 58) v4.toNatClampNeg) (allL (yo0.2.1 57) (yo0.2.1 59) (yo0.2.1 58) v5.toNatClampNeg) (v6.toInt : Int).toNat v2.toInt.toNat) → 0 + (6 - v6.toInt) * 7953208624 < (n : Int) → tt (gM_cut n 0 v2 v3 v4 v5 v6 0 0 o0) (QM_cut yv1 yv2 yo0)) ∧ (∀ (v2 : Int32) (v3 : Int32) (v4 : Int32) (v5 : Int32) (v6 : Int32) (v7 : Int32) (o0 : cf_O), (okO I_M o0) → (Fr (fr_M [36] [57, 58, 59, 60, 61] []) yo0 o0) → ((0 : Int) ≤ v2.toInt ∧ v2.toInt ≤ 5) → ((1 : Int) ≤ v3.toInt ∧ v3.toInt ≤ 208) → ((0 : Int) ≤ v4.toInt ∧ v4.toInt ≤ 208) → ((0 : Int) ≤ v5.toInt ∧ v5.toInt ≤ 208) → ((0 : Int) ≤ v6.toInt ∧ v6.toInt ≤ 5) → ((0 : Int) ≤ v7.toInt ∧ v7.toInt ≤ 63210) → ((0 : Int) ≤ (o0.1 0).toInt ∧ (o0.1 0).toInt ≤ 2) → ((1 : Int) ≤ (o0.1 38).toInt ∧ (o0.1 38).toInt ≤ 1) → ((1 : Int) ≤ (o0.1 43).toInt ∧ (o0.1 43).toInt ≤ 200) → ((0 : Int) ≤ (o0.1 95).toInt ∧ (o0.1 95).toInt ≤ 0) → (Cn (o0.2.1 59) (o0.2.1 58)) → (Sk v3.toInt v6.toInt (o0.2.1 57) (o0.2.1 59)) → (Lc v3.toInt (yo0.2.1 59) (o0.2.1 59)) → (v3.toInt = (yo0.1 39).toInt + 1 + yv1.toInt) → (v2.toInt = yv2.toInt) → (1 ≤ v2.toInt) → (v6.toInt ≤ v2.toInt) → (Cz v3.toInt ((yo0.1 39).toInt + 1) (yo0.1 43).toInt (yo0.2.1 44) (yo0.2.1 45) (o0.2.1 57) (o0.2.1 59) (o0.2.1 58)) → (Cx v3.toInt v4.toInt v5.toInt ((yo0.1 39).toInt + 1) (yo0.1 43).toInt (yo0.2.1 44) (yo0.2.1 45) (o0.2.1 57) (o0.2.1 59) (o0.2.1 58)) → (Ce v3.toInt (yo0.2.1 57) (o0.2.1 57)) → (Ce (1505 * v3.toInt) (yo0.2.1 58) (o0.2.1 58)) → (Ca v3.toInt (o0.2.1 57) (o0.2.1 59) (o0.2.1 58)) → (v4.toInt = (yo0.2.1 44 yv1.toNatClampNeg).toInt / 2) → (v5.toInt = (yo0.2.1 45 yv1.toNatClampNeg).toInt / 2) → (0 ≤ v4.toInt) → (0 ≤ v5.toInt) → (v4.toInt < v3.toInt) → (v5.toInt < v3.toInt) → (yv1.toInt < (yo0.1 43).toInt) → (0 ≤ yv1.toInt) → (1 ≤ v4.toInt) → (v4.toInt < v5.toInt) → (301 * v4.toInt ≤ v7.toInt) → (Lb v6.toInt v7.toInt (-1) (301 * v4.toInt + (o0.2.1 57 v4.toNatClampNeg).toInt) 0 (o0.2.1 57 v3.toNatClampNeg).toInt (o0.1 36).toInt) → (Mr v3.toInt (o0.2.1 57) (o0.2.1 59) (o0.2.1 58) (o0.2.1 60)) → (Q51 (o0.1 36).toInt (rowL (o0.2.1 57) (o0.2.1 59) (o0.2.1 58) v3.toNatClampNeg) (allL (yo0.2.1 57) (yo0.2.1 59) (yo0.2.1 58) v4.toNatClampNeg) (allL (yo0.2.1 57) (yo0.2.1 59) (yo0.2.1 58) v5.toNatClampNeg) (v7.toInt - 301 * v4.toInt).toNat (v6.toInt : Int).toNat v2.toInt.toNat) → 0 + (6 - v6.toInt - 1) * 7953208624 + 1 + (63210 - v7.toInt) * 125822 < (n : Int) → tt (gM_cut n 1 v2 v3 v4 v5 v6 v7 0 o0) (QM_cut yv1 yv2 yo0)) ∧ (∀ (v2 : Int32) (v3 : Int32) (v4 : Int32) (v5 : Int32) (v6 : Int32) (v7 : Int32) (v8 : Int32) (o0 : cf_O), (okO I_M o0) → (Fr (fr_M [36] [57, 58, 59, 60, 61] []) yo0 o0) → ((0 : Int) ≤ v2.toInt ∧ v2.toInt ≤ 5) → ((1 : Int) ≤ v3.toInt ∧ v3.toInt ≤ 208) → ((0 : Int) ≤ v4.toInt ∧ v4.toInt ≤ 208) → ((0 : Int) ≤ v5.toInt ∧ v5.toInt ≤ 208) → ((0 : Int) ≤ v6.toInt ∧ v6.toInt ≤ 5) → ((0 : Int) ≤ v7.toInt ∧ v7.toInt ≤ 63209) → ((0 : Int) ≤ v8.toInt ∧ v8.toInt ≤ 62909) → ((0 : Int) ≤ (o0.1 0).toInt ∧ (o0.1 0).toInt ≤ 2) → ((1 : Int) ≤ (o0.1 38).toInt ∧ (o0.1 38).toInt ≤ 1) → ((1 : Int) ≤ (o0.1 43).toInt ∧ (o0.1 43).toInt ≤ 200) → ((0 : Int) ≤ (o0.1 95).toInt ∧ (o0.1 95).toInt ≤ 0) → (Cn (o0.2.1 59) (o0.2.1 58)) → (Sk v3.toInt v6.toInt (o0.2.1 57) (o0.2.1 59)) → (Lc v3.toInt (yo0.2.1 59) (o0.2.1 59)) → (v3.toInt = (yo0.1 39).toInt + 1 + yv1.toInt) → (v2.toInt = yv2.toInt) → (1 ≤ v2.toInt) → (v6.toInt ≤ v2.toInt) → (Cz v3.toInt ((yo0.1 39).toInt + 1) (yo0.1 43).toInt (yo0.2.1 44) (yo0.2.1 45) (o0.2.1 57) (o0.2.1 59) (o0.2.1 58)) → (Cx v3.toInt v4.toInt v5.toInt ((yo0.1 39).toInt + 1) (yo0.1 43).toInt (yo0.2.1 44) (yo0.2.1 45) (o0.2.1 57) (o0.2.1 59) (o0.2.1 58)) → (Ce v3.toInt (yo0.2.1 57) (o0.2.1 57)) → (Ce (1505 * v3.toInt) (yo0.2.1 58) (o0.2.1 58)) → (Ca v3.toInt (o0.2.1 57) (o0.2.1 59) (o0.2.1 58)) → (v4.toInt = (yo0.2.1 44 yv1.toNatClampNeg).toInt / 2) → (v5.toInt = (yo0.2.1 45 yv1.toNatClampNeg).toInt / 2) → (0 ≤ v4.toInt) → (0 ≤ v5.toInt) → (v4.toInt < v3.toInt) → (v5.toInt < v3.toInt) → (yv1.toInt < (yo0.1 43).toInt) → (0 ≤ yv1.toInt) → (1 ≤ v4.toInt) → (v4.toInt < v5.toInt) → (Ir v7.toInt v4.toInt (o0.2.1 57)) → (301 * v5.toInt ≤ v8.toInt) → (Lb v6.toInt v7.toInt v8.toInt (301 * v4.toInt + (o0.2.1 57 v4.toNatClampNeg).toInt) (301 * v5.toInt + (o0.2.1 57 v5.toNatClampNeg).toInt) (o0.2.1 57 v3.toNatClampNeg).toInt (o0.1 36).toInt) → (Mr v3.toInt (o0.2.1 57) (o0.2.1 59) (o0.2.1 58) (o0.2.1 60)) → (Q85 (o0.1 36).toInt (rowL (o0.2.1 57) (o0.2.1 59) (o0.2.1 58) v3.toNatClampNeg) (cutL (yo0.2.1 59) (yo0.2.1 58) v7.toNatClampNeg) (allL (yo0.2.1 57) (yo0.2.1 59) (yo0.2.1 58) v4.toNatClampNeg) (allL (yo0.2.1 57) (yo0.2.1 59) (yo0.2.1 58) v5.toNatClampNeg) (v7.toInt - 301 * v4.toInt).toNat (v8.toInt - 301 * v5.toInt).toNat (v6.toInt : Int).toNat v2.toInt.toNat) → (v7.toInt ≤ 301 * v4.toInt + 300) → 0 + (6 - v6.toInt - 1) * 7953208624 + 1 + (63210 - v7.toInt - 1) * 125822 + 1 + (62909 - v8.toInt) * 2 < (n : Int) → tt (gM_cut n 2 v2 v3 v4 v5 v6 v7 v8 o0) (QM_cut yv1 yv2 yo0))
set_option maxHeartbeats 4000000 in
set_option maxRecDepth 100000 in
theorem tM_cut_85 {yv1 : Int32} {yv2 : Int32} {yo0 : cf_O} {n : Nat} (H : HM_cut yv1 yv2 yo0 n) (v2 : Int32) (v3 : Int32) (v4 : Int32) (v5 : Int32) (v6 : Int32) (v7 : Int32) (v8 : Int32) (o0 : cf_O) (k_o0 : okO I_M o0) (r_o0 : Fr (fr_M [36] [57, 58, 59, 60, 61] []) yo0 o0) (i_v2 : (0 : Int) ≤ v2.toInt ∧ v2.toInt ≤ 5) (i_v3 : (1 : Int) ≤ v3.toInt ∧ v3.toInt ≤ 208) (i_v4 : (0 : Int) ≤ v4.toInt ∧ v4.toInt ≤ 208) (i_v5 : (0 : Int) ≤ v5.toInt ∧ v5.toInt ≤ 208) (i_v6 : (0 : Int) ≤ v6.toInt ∧ v6.toInt ≤ 5) (i_v7 : (0 : Int) ≤ v7.toInt ∧ v7.toInt ≤ 63209) (i_v8 : (0 : Int) ≤ v8.toInt ∧ v8.toInt ≤ 62909) (f_o0_0 : (0 : Int) ≤ (o0.1 0).toInt ∧ (o0.1 0).toInt ≤ 2) (f_o0_38 : (1 : Int) ≤ (o0.1 38).toInt ∧ (o0.1 38).toInt ≤ 1) (f_o0_43 : (1 : Int) ≤ (o0.1 43).toInt ∧ (o0.1 43).toInt ≤ 200) (f_o0_95 : (0 : Int) ≤ (o0.1 95).toInt ∧ (o0.1 95).toInt ≤ 0) (x_0 : Cn (o0.2.1 59) (o0.2.1 58)) (x_1 : Sk v3.toInt v6.toInt (o0.2.1 57) (o0.2.1 59)) (x_2 : Lc v3.toInt (yo0.2.1 59) (o0.2.1 59)) (x_3 : v3.toInt = (yo0.1 39).toInt + 1 + yv1.toInt) (x_4 : v2.toInt = yv2.toInt) (x_5 : 1 ≤ v2.toInt) (x_6 : v6.toInt ≤ v2.toInt) (x_7 : Cz v3.toInt ((yo0.1 39).toInt + 1) (yo0.1 43).toInt (yo0.2.1 44) (yo0.2.1 45) (o0.2.1 57) (o0.2.1 59) (o0.2.1 58)) (x_8 : Cx v3.toInt v4.toInt v5.toInt ((yo0.1 39).toInt + 1) (yo0.1 43).toInt (yo0.2.1 44) (yo0.2.1 45) (o0.2.1 57) (o0.2.1 59) (o0.2.1 58)) (x_9 : Ce v3.toInt (yo0.2.1 57) (o0.2.1 57)) (x_10 : Ce (1505 * v3.toInt) (yo0.2.1 58) (o0.2.1 58)) (x_11 : Ca v3.toInt (o0.2.1 57) (o0.2.1 59) (o0.2.1 58)) (x_12 : v4.toInt = (yo0.2.1 44 yv1.toNatClampNeg).toInt / 2) (x_13 : v5.toInt = (yo0.2.1 45 yv1.toNatClampNeg).toInt / 2) (x_14 : 0 ≤ v4.toInt) (x_15 : 0 ≤ v5.toInt) (x_16 : v4.toInt < v3.toInt) (x_17 : v5.toInt < v3.toInt) (x_18 : yv1.toInt < (yo0.1 43).toInt) (x_19 : 0 ≤ yv1.toInt) (x_20 : 1 ≤ v4.toInt) (x_21 : v4.toInt < v5.toInt) (x_22 : Ir v7.toInt v4.toInt (o0.2.1 57)) (x_23 : 301 * v5.toInt ≤ v8.toInt) (x_24 : Lb v6.toInt v7.toInt v8.toInt (301 * v4.toInt + (o0.2.1 57 v4.toNatClampNeg).toInt) (301 * v5.toInt + (o0.2.1 57 v5.toNatClampNeg).toInt) (o0.2.1 57 v3.toNatClampNeg).toInt (o0.1 36).toInt) (x_25 : Mr v3.toInt (o0.2.1 57) (o0.2.1 59) (o0.2.1 58) (o0.2.1 60)) (x_26 : Q85 (o0.1 36).toInt (rowL (o0.2.1 57) (o0.2.1 59) (o0.2.1 58) v3.toNatClampNeg) (cutL (yo0.2.1 59) (yo0.2.1 58) v7.toNatClampNeg) (allL (yo0.2.1 57) (yo0.2.1 59) (yo0.2.1 58) v4.toNatClampNeg) (allL (yo0.2.1 57) (yo0.2.1 59) (yo0.2.1 58) v5.toNatClampNeg) (v7.toInt - 301 * v4.toInt).toNat (v8.toInt - 301 * v5.toInt).toNat (v6.toInt : Int).toNat v2.toInt.toNat) (x_27 : v7.toInt ≤ 301 * v4.toInt + 300) (hm : 0 + (6 - v6.toInt - 1) * 7953208624 + 1 + (63210 - v7.toInt - 1) * 125822 + 1 + (62909 - v8.toInt) * 2 ≤ (n : Int)) : tt (fM_cut_85 (gM_cut n) v2 v3 v4 v5 v6 v7 v8 o0) (QM_cut yv1 yv2 yo0) := by
  unfold fM_cut_85
  have g_o0_36 : (0 : Int) ≤ (o0.1 36).toInt ∧ (o0.1 36).toInt ≤ 1 := k_o0.1 36
  have g_o0_39 : (0 : Int) ≤ (o0.1 39).toInt ∧ (o0.1 39).toInt ≤ 8 := k_o0.1 39
  have ey_o0_39 : (o0.1 39).toInt = (yo0.1 39).toInt := congrArg Int32.toInt (r_o0.1 39 rfl)
  have ey_o0_43 : (o0.1 43).toInt = (yo0.1 43).toInt := congrArg Int32.toInt (r_o0.1 43 rfl)
  have t1 := congrArg Int32.toInt (x_9 v4.toNatClampNeg (by rw [tn_n]; omega))
  have t2 := congrArg Int32.toInt (x_9 v5.toNatClampNeg (by rw [tn_n]; omega))
  have t3 := (show 0 ≤ (o0.2.1 57 v4.toNatClampNeg).toInt ∧ (o0.2.1 57 v4.toNatClampNeg).toInt ≤ 300 from k_o0.2 57 _)
  have t4 := (show 0 ≤ (o0.2.1 57 v5.toNatClampNeg).toInt ∧ (o0.2.1 57 v5.toNatClampNeg).toInt ≤ 300 from k_o0.2 57 _)
  have t5 := congrArg Int32.toInt (x_2 v7.toNatClampNeg (by rw [tn_n]; omega))
  refine tt_kv (P := fun z => ((0 : Int) ≤ z.toInt ∧ z.toInt ≤ 62608) ∧ z.toInt = 301 * v5.toInt) ⟨iv_mul (show (301 : Int) ≤ (301 : Int32).toInt ∧ (301 : Int32).toInt ≤ 301 by decide) i_v5 (by decide) (by decide) (by decide) (by decide) (by decide), iq_mul (show (301 : Int) ≤ (301 : Int32).toInt ∧ (301 : Int32).toInt ≤ 301 by decide) i_v5 (by decide) (by decide) (by decide) (by decide)⟩ (fun x6 qi7 => ?_)
  obtain ⟨i7, ei7⟩ := qi7
  refine tt_n (ix_ok i_v5 (by decide) (by decide)) ?_
  refine tt_kv (P := fun z => ((0 : Int) ≤ z.toInt ∧ z.toInt ≤ 300) ∧ z.toInt = (o0.2.1 57 v5.toNatClampNeg).toInt) ⟨(k_o0.2 57 _), rfl⟩ (fun x8 qi9 => ?_)
  obtain ⟨i9, ei9⟩ := qi9
  refine tt_kv (P := fun z => ((0 : Int) ≤ z.toInt ∧ z.toInt ≤ 62908) ∧ z.toInt = x6.toInt + x8.toInt) ⟨iv_add i7 i9 (by decide) (by decide) (by decide) (by decide), iq_add i7 i9 (by decide) (by decide)⟩ (fun x10 qi11 => ?_)
  obtain ⟨i11, ei11⟩ := qi11
  refine tt_if (fun c12 => ?_) (fun c12 => ?_)
  · have wc12 : x10.toInt < v8.toInt := c_lt c12
    have i13 : (1 : Int) ≤ v8.toInt ∧ v8.toInt ≤ 62909 := nr_ltr c12 i11 i_v8 (by decide) (by decide)
    try unfold fM_cut_200
    refine tt_kv (P := fun z => ((1 : Int) ≤ z.toInt ∧ z.toInt ≤ 63210) ∧ z.toInt = v7.toInt + 1) ⟨iv_add i_v7 (show (1 : Int) ≤ (1 : Int32).toInt ∧ (1 : Int32).toInt ≤ 1 by decide) (by decide) (by decide) (by decide) (by decide), iq_add i_v7 (show (1 : Int) ≤ (1 : Int32).toInt ∧ (1 : Int32).toInt ≤ 1 by decide) (by decide) (by decide)⟩ (fun x14 qi15 => ?_)
    obtain ⟨i15, ei15⟩ := qi15
    have p16 : Lb v6.toInt x14.toInt (-1) (301 * v4.toInt + (o0.2.1 57 v4.toNatClampNeg).toInt) 0 (o0.2.1 57 v3.toNatClampNeg).toInt (o0.1 36).toInt := by exact Lb_d x_24 (by omega) (by omega)
    have p17 : Q51 (o0.1 36).toInt (rowL (o0.2.1 57) (o0.2.1 59) (o0.2.1 58) v3.toNatClampNeg) (allL (yo0.2.1 57) (yo0.2.1 59) (yo0.2.1 58) v4.toNatClampNeg) (allL (yo0.2.1 57) (yo0.2.1 59) (yo0.2.1 58) v5.toNatClampNeg) (x14.toInt - 301 * v4.toInt).toNat (v6.toInt : Int).toNat v2.toInt.toNat := by exact Q_d x_26 (by rw [all_len]; omega) (by omega)
    exact H.2.1 _ _ _ _ _ _ _ k_o0 r_o0 i_v2 i_v3 i_v4 i_v5 i_v6 (iv_w (a := 0) (b := 63210) (by decide) (by decide) i15) f_o0_0 f_o0_38 f_o0_43 f_o0_95 x_0 x_1 x_2 (show v3.toInt = (yo0.1 39).toInt + 1 + yv1.toInt by omega) (show v2.toInt = yv2.toInt by omega) (show 1 ≤ v2.toInt by omega) (show v6.toInt ≤ v2.toInt by omega) x_7 x_8 x_9 x_10 x_11 (show v4.toInt = (yo0.2.1 44 yv1.toNatClampNeg).toInt / 2 by omega) (show v5.toInt = (yo0.2.1 45 yv1.toNatClampNeg).toInt / 2 by omega) (show 0 ≤ v4.toInt by omega) (show 0 ≤ v5.toInt by omega) (show v4.toInt < v3.toInt by omega) (show v5.toInt < v3.toInt by omega) (show yv1.toInt < (yo0.1 43).toInt by omega) (show 0 ≤ yv1.toInt by omega) (show 1 ≤ v4.toInt by omega) (show v4.toInt < v5.toInt by omega) (show 301 * v4.toInt ≤ x14.toInt by omega) p16 x_25 p17 (show 0 + (6 - v6.toInt - 1) * 7953208624 + 1 + (63210 - x14.toInt) * 125822 < (n : Int) by omega)
  · have wc12 : v8.toInt ≤ x10.toInt := c_nlt c12
    have i18 : (0 : Int) ≤ v8.toInt ∧ v8.toInt ≤ 62908 := nr_nltl c12 i_v8 i11 (by decide) (by decide)
    refine tt_if (fun c19 => ?_) (fun c19 => ?_)
    · have wc19 : (o0.1 36).toInt = (0 : Int) := c_eq c19
      have i20 : (0 : Int) ≤ (o0.1 36).toInt ∧ (o0.1 36).toInt ≤ 0 := nr_eql c19 (k_o0.1 36) (show (0 : Int) ≤ (0 : Int32).toInt ∧ (0 : Int32).toInt ≤ 0 by decide) (by decide) (by decide)
      refine tt_n (ix_ok i_v7 (by decide) (by decide)) ?_
      refine tt_kv (P := fun z => ((0 : Int) ≤ z.toInt ∧ z.toInt ≤ 5) ∧ z.toInt = (o0.2.1 59 v7.toNatClampNeg).toInt) ⟨(k_o0.2 59 _), rfl⟩ (fun x21 qi22 => ?_)
      obtain ⟨i22, ei22⟩ := qi22
      refine tt_n (ix_ok i18 (by decide) (by decide)) ?_
      refine tt_kv (P := fun z => ((0 : Int) ≤ z.toInt ∧ z.toInt ≤ 5) ∧ z.toInt = (o0.2.1 59 v8.toNatClampNeg).toInt) ⟨(k_o0.2 59 _), rfl⟩ (fun x23 qi24 => ?_)
      obtain ⟨i24, ei24⟩ := qi24
      refine tt_if (fun c25 => ?_) (fun c25 => ?_)
      · have wc25 : x21.toInt ≤ x23.toInt := c_le c25
        refine tt_n (ix_ok i18 (by decide) (by decide)) ?_
        refine tt_kv (P := fun z => ((0 : Int) ≤ z.toInt ∧ z.toInt ≤ 5) ∧ z.toInt = (o0.2.1 59 v8.toNatClampNeg).toInt) ⟨(k_o0.2 59 _), rfl⟩ (fun x26 qi27 => ?_)
        obtain ⟨i27, ei27⟩ := qi27
        try unfold fM_cut_145
        refine tt_if (fun c28 => ?_) (fun c28 => ?_)
        · have wc28 : v6.toInt < x26.toInt := c_lt c28
          have i29 : (0 : Int) ≤ v6.toInt ∧ v6.toInt ≤ 4 := nr_ltl c28 i_v6 i27 (by decide) (by decide)
          have i30 : (1 : Int) ≤ x26.toInt ∧ x26.toInt ≤ 5 := nr_ltr c28 i_v6 i27 (by decide) (by decide)
          try unfold fM_cut_194
          refine tt_kv (P := fun z => ((1 : Int) ≤ z.toInt ∧ z.toInt ≤ 62909) ∧ z.toInt = v8.toInt + 1) ⟨iv_add i18 (show (1 : Int) ≤ (1 : Int32).toInt ∧ (1 : Int32).toInt ≤ 1 by decide) (by decide) (by decide) (by decide) (by decide), iq_add i18 (show (1 : Int) ≤ (1 : Int32).toInt ∧ (1 : Int32).toInt ≤ 1 by decide) (by decide) (by decide)⟩ (fun x31 qi32 => ?_)
          obtain ⟨i32, ei32⟩ := qi32
          have p33 : Lb v6.toInt v7.toInt x31.toInt (301 * v4.toInt + (o0.2.1 57 v4.toNatClampNeg).toInt) (301 * v5.toInt + (o0.2.1 57 v5.toNatClampNeg).toInt) (o0.2.1 57 v3.toNatClampNeg).toInt (o0.1 36).toInt := by first | exact Lb_c (by assumption) | exact Lb_step x_24 (by omega) (by omega) (fun h1 h2 h3 => by have a1 := Ca_at x_11 v4 v7 (by omega) (by omega) (show 0 ≤ (o0.2.1 57 v4.toNatClampNeg).toInt from (k_o0.2 57 _).1) h2; have a2 := Ca_at x_11 v5 v8 (by omega) (by omega) (show 0 ≤ (o0.2.1 57 v5.toNatClampNeg).toInt from (k_o0.2 57 _).1) h3; omega) | (rw [(show Fr (fr_M [] [61] []) _ _ by assumption).2.1 57 rfl, (show Fr (fr_M [] [61] []) _ _ by assumption).1 36 rfl]; exact Lb_step x_24 (by omega) (by omega) (fun h1 h2 h3 => by have a1 := Ca_at x_11 v4 v7 (by omega) (by omega) (show 0 ≤ (o0.2.1 57 v4.toNatClampNeg).toInt from (k_o0.2 57 _).1) h2; have a2 := Ca_at x_11 v5 v8 (by omega) (by omega) (show 0 ≤ (o0.2.1 57 v5.toNatClampNeg).toInt from (k_o0.2 57 _).1) h3; have a3 := (show Jr _ v7 v8 _ _ by assumption) a1.1 a2.1 (by omega); omega))
          have p34 : Q85 (o0.1 36).toInt (rowL (o0.2.1 57) (o0.2.1 59) (o0.2.1 58) v3.toNatClampNeg) (cutL (yo0.2.1 59) (yo0.2.1 58) v7.toNatClampNeg) (allL (yo0.2.1 57) (yo0.2.1 59) (yo0.2.1 58) v4.toNatClampNeg) (allL (yo0.2.1 57) (yo0.2.1 59) (yo0.2.1 58) v5.toNatClampNeg) (v7.toInt - 301 * v4.toInt).toNat (x31.toInt - 301 * v5.toInt).toNat (v6.toInt : Int).toNat v2.toInt.toNat := by have e8 := congrArg Int32.toInt (x_2 v8.toNatClampNeg (by rw [tn_n]; omega)); have b7 : 0 ≤ (o0.2.1 59 v7.toNatClampNeg).toInt ∧ (o0.2.1 59 v7.toNatClampNeg).toInt ≤ 5 := k_o0.2 59 _; have b8 : 0 ≤ (o0.2.1 59 v8.toNatClampNeg).toInt ∧ (o0.2.1 59 v8.toNatClampNeg).toInt ≤ 5 := k_o0.2 59 _; first | exact Q_c x_26 (all_at (v := v8) (by omega) (by omega) (by omega)) (by omega) (st_pre (by omega) (by omega) (by omega)) (by omega) (by omega) | exact Q_t x_26 (all_at (v := v8) (by omega) (by omega) (by omega)) (by omega) (st_ad (p := v3.toInt) (show Mp2 _ v7.toNatClampNeg v8.toNatClampNeg _ _ _ by assumption) (cut_e x_2 x_10 (show (yo0.2.1 59 v7.toNatClampNeg).toInt ≤ 5 by omega) (by rw [tn_n]; omega)) (cut_e x_2 x_10 (show (yo0.2.1 59 v8.toNatClampNeg).toInt ≤ 5 by omega) (by rw [tn_n]; omega)) (by omega) (show Ad _ v3.toInt v6.toInt _ _ _ _ _ _ _ by assumption) (by first | rfl | exact ((show Fr (fr_M [36] [57, 58, 59, 60] []) _ _ by assumption).2.1 61 rfl).symm) (by omega) (by rw [(show Fr (fr_M [] [61] []) _ _ by assumption).2.1 57 rfl, (show Fr (fr_M [] [61] []) _ _ by assumption).2.1 59 rfl, (show Fr (fr_M [] [61] []) _ _ by assumption).2.1 58 rfl]; rfl)) (by omega) | (rw [(show Fr (fr_M [] [61] []) _ _ by assumption).1 36 rfl, (show Fr (fr_M [] [61] []) _ _ by assumption).2.1 57 rfl, (show Fr (fr_M [] [61] []) _ _ by assumption).2.1 59 rfl, (show Fr (fr_M [] [61] []) _ _ by assumption).2.1 58 rfl]; exact Q_c x_26 (all_at (v := v8) (by omega) (by omega) (by omega)) (by omega) (st_join (show Mp2 _ v7.toNatClampNeg v8.toNatClampNeg _ _ _ by assumption) (cut_e x_2 x_10 (show (yo0.2.1 59 v7.toNatClampNeg).toInt ≤ 5 by omega) (by rw [tn_n]; omega)) (cut_e x_2 x_10 (show (yo0.2.1 59 v8.toNatClampNeg).toInt ≤ 5 by omega) (by rw [tn_n]; omega)) (by omega)) (by omega) (by omega))
          exact H.2.2 _ _ _ _ _ _ _ _ k_o0 r_o0 i_v2 i_v3 i_v4 i_v5 (iv_w (a := 0) (b := 5) (by decide) (by decide) i29) i_v7 (iv_w (a := 0) (b := 62909) (by decide) (by decide) i32) f_o0_0 f_o0_38 f_o0_43 f_o0_95 x_0 x_1 x_2 (show v3.toInt = (yo0.1 39).toInt + 1 + yv1.toInt by omega) (show v2.toInt = yv2.toInt by omega) (show 1 ≤ v2.toInt by omega) (show v6.toInt ≤ v2.toInt by omega) x_7 x_8 x_9 x_10 x_11 (show v4.toInt = (yo0.2.1 44 yv1.toNatClampNeg).toInt / 2 by omega) (show v5.toInt = (yo0.2.1 45 yv1.toNatClampNeg).toInt / 2 by omega) (show 0 ≤ v4.toInt by omega) (show 0 ≤ v5.toInt by omega) (show v4.toInt < v3.toInt by omega) (show v5.toInt < v3.toInt by omega) (show yv1.toInt < (yo0.1 43).toInt by omega) (show 0 ≤ yv1.toInt by omega) (show 1 ≤ v4.toInt by omega) (show v4.toInt < v5.toInt by omega) x_22 (show 301 * v5.toInt ≤ x31.toInt by omega) p33 x_25 p34 (show v7.toInt ≤ 301 * v4.toInt + 300 by omega) (show 0 + (6 - v6.toInt - 1) * 7953208624 + 1 + (63210 - v7.toInt - 1) * 125822 + 1 + (62909 - x31.toInt) * 2 < (n : Int) by omega)
        · have wc28 : x26.toInt ≤ v6.toInt := c_nlt c28
          refine tt_n (ix_ok i_v7 (by decide) (by decide)) ?_
          refine tt_kv (P := fun z => ((0 : Int) ≤ z.toInt ∧ z.toInt ≤ 5) ∧ z.toInt = (o0.2.1 59 v7.toNatClampNeg).toInt) ⟨(k_o0.2 59 _), rfl⟩ (fun x35 qi36 => ?_)
          obtain ⟨i36, ei36⟩ := qi36
          refine tt_n (ix_ok i18 (by decide) (by decide)) ?_
          refine tt_kv (P := fun z => ((0 : Int) ≤ z.toInt ∧ z.toInt ≤ 5) ∧ z.toInt = (o0.2.1 59 v8.toNatClampNeg).toInt) ⟨(k_o0.2 59 _), rfl⟩ (fun x37 qi38 => ?_)
          obtain ⟨i38, ei38⟩ := qi38
          refine tt_kv (P := fun z => ((0 : Int) ≤ z.toInt ∧ z.toInt ≤ 10) ∧ z.toInt = x35.toInt + x37.toInt) ⟨iv_add i36 i38 (by decide) (by decide) (by decide) (by decide), iq_add i36 i38 (by decide) (by decide)⟩ (fun x39 qi40 => ?_)
          obtain ⟨i40, ei40⟩ := qi40
          refine tt_if (fun c41 => ?_) (fun c41 => ?_)
          · have wc41 : x39.toInt < v6.toInt := c_lt c41
            have i42 : (0 : Int) ≤ x39.toInt ∧ x39.toInt ≤ 4 := nr_ltl c41 i40 i_v6 (by decide) (by decide)
            have i43 : (1 : Int) ≤ v6.toInt ∧ v6.toInt ≤ 5 := nr_ltr c41 i40 i_v6 (by decide) (by decide)
            try unfold fM_cut_194
            refine tt_kv (P := fun z => ((1 : Int) ≤ z.toInt ∧ z.toInt ≤ 62909) ∧ z.toInt = v8.toInt + 1) ⟨iv_add i18 (show (1 : Int) ≤ (1 : Int32).toInt ∧ (1 : Int32).toInt ≤ 1 by decide) (by decide) (by decide) (by decide) (by decide), iq_add i18 (show (1 : Int) ≤ (1 : Int32).toInt ∧ (1 : Int32).toInt ≤ 1 by decide) (by decide) (by decide)⟩ (fun x44 qi45 => ?_)
            obtain ⟨i45, ei45⟩ := qi45
            have p46 : Lb v6.toInt v7.toInt x44.toInt (301 * v4.toInt + (o0.2.1 57 v4.toNatClampNeg).toInt) (301 * v5.toInt + (o0.2.1 57 v5.toNatClampNeg).toInt) (o0.2.1 57 v3.toNatClampNeg).toInt (o0.1 36).toInt := by first | exact Lb_c (by assumption) | exact Lb_step x_24 (by omega) (by omega) (fun h1 h2 h3 => by have a1 := Ca_at x_11 v4 v7 (by omega) (by omega) (show 0 ≤ (o0.2.1 57 v4.toNatClampNeg).toInt from (k_o0.2 57 _).1) h2; have a2 := Ca_at x_11 v5 v8 (by omega) (by omega) (show 0 ≤ (o0.2.1 57 v5.toNatClampNeg).toInt from (k_o0.2 57 _).1) h3; omega) | (rw [(show Fr (fr_M [] [61] []) _ _ by assumption).2.1 57 rfl, (show Fr (fr_M [] [61] []) _ _ by assumption).1 36 rfl]; exact Lb_step x_24 (by omega) (by omega) (fun h1 h2 h3 => by have a1 := Ca_at x_11 v4 v7 (by omega) (by omega) (show 0 ≤ (o0.2.1 57 v4.toNatClampNeg).toInt from (k_o0.2 57 _).1) h2; have a2 := Ca_at x_11 v5 v8 (by omega) (by omega) (show 0 ≤ (o0.2.1 57 v5.toNatClampNeg).toInt from (k_o0.2 57 _).1) h3; have a3 := (show Jr _ v7 v8 _ _ by assumption) a1.1 a2.1 (by omega); omega))
            have p47 : Q85 (o0.1 36).toInt (rowL (o0.2.1 57) (o0.2.1 59) (o0.2.1 58) v3.toNatClampNeg) (cutL (yo0.2.1 59) (yo0.2.1 58) v7.toNatClampNeg) (allL (yo0.2.1 57) (yo0.2.1 59) (yo0.2.1 58) v4.toNatClampNeg) (allL (yo0.2.1 57) (yo0.2.1 59) (yo0.2.1 58) v5.toNatClampNeg) (v7.toInt - 301 * v4.toInt).toNat (x44.toInt - 301 * v5.toInt).toNat (v6.toInt : Int).toNat v2.toInt.toNat := by have e8 := congrArg Int32.toInt (x_2 v8.toNatClampNeg (by rw [tn_n]; omega)); have b7 : 0 ≤ (o0.2.1 59 v7.toNatClampNeg).toInt ∧ (o0.2.1 59 v7.toNatClampNeg).toInt ≤ 5 := k_o0.2 59 _; have b8 : 0 ≤ (o0.2.1 59 v8.toNatClampNeg).toInt ∧ (o0.2.1 59 v8.toNatClampNeg).toInt ≤ 5 := k_o0.2 59 _; first | exact Q_c x_26 (all_at (v := v8) (by omega) (by omega) (by omega)) (by omega) (st_pre (by omega) (by omega) (by omega)) (by omega) (by omega) | exact Q_t x_26 (all_at (v := v8) (by omega) (by omega) (by omega)) (by omega) (st_ad (p := v3.toInt) (show Mp2 _ v7.toNatClampNeg v8.toNatClampNeg _ _ _ by assumption) (cut_e x_2 x_10 (show (yo0.2.1 59 v7.toNatClampNeg).toInt ≤ 5 by omega) (by rw [tn_n]; omega)) (cut_e x_2 x_10 (show (yo0.2.1 59 v8.toNatClampNeg).toInt ≤ 5 by omega) (by rw [tn_n]; omega)) (by omega) (show Ad _ v3.toInt v6.toInt _ _ _ _ _ _ _ by assumption) (by first | rfl | exact ((show Fr (fr_M [36] [57, 58, 59, 60] []) _ _ by assumption).2.1 61 rfl).symm) (by omega) (by rw [(show Fr (fr_M [] [61] []) _ _ by assumption).2.1 57 rfl, (show Fr (fr_M [] [61] []) _ _ by assumption).2.1 59 rfl, (show Fr (fr_M [] [61] []) _ _ by assumption).2.1 58 rfl]; rfl)) (by omega) | (rw [(show Fr (fr_M [] [61] []) _ _ by assumption).1 36 rfl, (show Fr (fr_M [] [61] []) _ _ by assumption).2.1 57 rfl, (show Fr (fr_M [] [61] []) _ _ by assumption).2.1 59 rfl, (show Fr (fr_M [] [61] []) _ _ by assumption).2.1 58 rfl]; exact Q_c x_26 (all_at (v := v8) (by omega) (by omega) (by omega)) (by omega) (st_join (show Mp2 _ v7.toNatClampNeg v8.toNatClampNeg _ _ _ by assumption) (cut_e x_2 x_10 (show (yo0.2.1 59 v7.toNatClampNeg).toInt ≤ 5 by omega) (by rw [tn_n]; omega)) (cut_e x_2 x_10 (show (yo0.2.1 59 v8.toNatClampNeg).toInt ≤ 5 by omega) (by rw [tn_n]; omega)) (by omega)) (by omega) (by omega))
            exact H.2.2 _ _ _ _ _ _ _ _ k_o0 r_o0 i_v2 i_v3 i_v4 i_v5 (iv_w (a := 0) (b := 5) (by decide) (by decide) i43) i_v7 (iv_w (a := 0) (b := 62909) (by decide) (by decide) i45) f_o0_0 f_o0_38 f_o0_43 f_o0_95 x_0 x_1 x_2 (show v3.toInt = (yo0.1 39).toInt + 1 + yv1.toInt by omega) (show v2.toInt = yv2.toInt by omega) (show 1 ≤ v2.toInt by omega) (show v6.toInt ≤ v2.toInt by omega) x_7 x_8 x_9 x_10 x_11 (show v4.toInt = (yo0.2.1 44 yv1.toNatClampNeg).toInt / 2 by omega) (show v5.toInt = (yo0.2.1 45 yv1.toNatClampNeg).toInt / 2 by omega) (show 0 ≤ v4.toInt by omega) (show 0 ≤ v5.toInt by omega) (show v4.toInt < v3.toInt by omega) (show v5.toInt < v3.toInt by omega) (show yv1.toInt < (yo0.1 43).toInt by omega) (show 0 ≤ yv1.toInt by omega) (show 1 ≤ v4.toInt by omega) (show v4.toInt < v5.toInt by omega) x_22 (show 301 * v5.toInt ≤ x44.toInt by omega) p46 x_25 p47 (show v7.toInt ≤ 301 * v4.toInt + 300 by omega) (show 0 + (6 - v6.toInt - 1) * 7953208624 + 1 + (63210 - v7.toInt - 1) * 125822 + 1 + (62909 - x44.toInt) * 2 < (n : Int) by omega)
          · have wc41 : v6.toInt ≤ x39.toInt := c_nlt c41
            refine tt_b (sM_join _ _ _ k_o0 i_v7 i18 f_o0_0 i20 f_o0_38 f_o0_43 f_o0_95 x_0) (fun q48 hq48 => ?_)
            obtain ⟨i_q48, k_q48_2, n_q48_2, zq48_0, zq48_1, zq48_2, zq48_3, -⟩ := hq48
            have r_q48_2 := fr_tr r_o0 n_q48_2 rfl rfl rfl
            have f_q48_2_0 : (0 : Int) ≤ (q48.2.1 0).toInt ∧ (q48.2.1 0).toInt ≤ 2 := by rw [n_q48_2.1 0 rfl]; exact f_o0_0
            have f_q48_2_36 : (0 : Int) ≤ (q48.2.1 36).toInt ∧ (q48.2.1 36).toInt ≤ 0 := by rw [n_q48_2.1 36 rfl]; exact i20
            have f_q48_2_38 : (1 : Int) ≤ (q48.2.1 38).toInt ∧ (q48.2.1 38).toInt ≤ 1 := by rw [n_q48_2.1 38 rfl]; exact f_o0_38
            have f_q48_2_43 : (1 : Int) ≤ (q48.2.1 43).toInt ∧ (q48.2.1 43).toInt ≤ 200 := by rw [n_q48_2.1 43 rfl]; exact f_o0_43
            have f_q48_2_95 : (0 : Int) ≤ (q48.2.1 95).toInt ∧ (q48.2.1 95).toInt ≤ 0 := by rw [n_q48_2.1 95 rfl]; exact f_o0_95
            have e_q48_2_36 : (q48.2.1 36).toInt = (o0.1 36).toInt := congrArg Int32.toInt (n_q48_2.1 36 rfl)
            have e_q48_2_39 : (q48.2.1 39).toInt = (o0.1 39).toInt := congrArg Int32.toInt (n_q48_2.1 39 rfl)
            have g_q48_2_39 : (0 : Int) ≤ (q48.2.1 39).toInt ∧ (q48.2.1 39).toInt ≤ 8 := k_q48_2.1 39
            have e_q48_2_43 : (q48.2.1 43).toInt = (o0.1 43).toInt := congrArg Int32.toInt (n_q48_2.1 43 rfl)
            have u49 : Cn (q48.2.2.1 59) (q48.2.2.1 58) := by rw [n_q48_2.2.1 58 rfl, n_q48_2.2.1 59 rfl]; exact x_0
            have u50 : Sk v3.toInt v6.toInt (q48.2.2.1 57) (q48.2.2.1 59) := by rw [n_q48_2.2.1 57 rfl, n_q48_2.2.1 59 rfl]; exact x_1
            have u51 : Lc v3.toInt (yo0.2.1 59) (q48.2.2.1 59) := by rw [n_q48_2.2.1 59 rfl]; exact x_2
            have u52 : Cz v3.toInt ((yo0.1 39).toInt + 1) (yo0.1 43).toInt (yo0.2.1 44) (yo0.2.1 45) (q48.2.2.1 57) (q48.2.2.1 59) (q48.2.2.1 58) := by rw [n_q48_2.2.1 57 rfl, n_q48_2.2.1 58 rfl, n_q48_2.2.1 59 rfl]; exact x_7
            have u53 : Cx v3.toInt v4.toInt v5.toInt ((yo0.1 39).toInt + 1) (yo0.1 43).toInt (yo0.2.1 44) (yo0.2.1 45) (q48.2.2.1 57) (q48.2.2.1 59) (q48.2.2.1 58) := by rw [n_q48_2.2.1 57 rfl, n_q48_2.2.1 58 rfl, n_q48_2.2.1 59 rfl]; exact x_8
            have u54 : Ce v3.toInt (yo0.2.1 57) (q48.2.2.1 57) := by rw [n_q48_2.2.1 57 rfl]; exact x_9
            have u55 : Ce (1505 * v3.toInt) (yo0.2.1 58) (q48.2.2.1 58) := by rw [n_q48_2.2.1 58 rfl]; exact x_10
            have u56 : Ca v3.toInt (q48.2.2.1 57) (q48.2.2.1 59) (q48.2.2.1 58) := by rw [n_q48_2.2.1 57 rfl, n_q48_2.2.1 58 rfl, n_q48_2.2.1 59 rfl]; exact x_11
            have u57 : Ir v7.toInt v4.toInt (q48.2.2.1 57) := by rw [n_q48_2.2.1 57 rfl]; exact x_22
            have u58 : Lb v6.toInt v7.toInt v8.toInt (301 * v4.toInt + (q48.2.2.1 57 v4.toNatClampNeg).toInt) (301 * v5.toInt + (q48.2.2.1 57 v5.toNatClampNeg).toInt) (q48.2.2.1 57 v3.toNatClampNeg).toInt (q48.2.1 36).toInt := by rw [n_q48_2.1 36 rfl, n_q48_2.2.1 57 rfl]; exact x_24
            have u59 : Mr v3.toInt (q48.2.2.1 57) (q48.2.2.1 59) (q48.2.2.1 58) (q48.2.2.1 60) := by rw [n_q48_2.2.1 57 rfl, n_q48_2.2.1 58 rfl, n_q48_2.2.1 59 rfl, n_q48_2.2.1 60 rfl]; exact x_25
            have u60 : Q85 (q48.2.1 36).toInt (rowL (q48.2.2.1 57) (q48.2.2.1 59) (q48.2.2.1 58) v3.toNatClampNeg) (cutL (yo0.2.1 59) (yo0.2.1 58) v7.toNatClampNeg) (allL (yo0.2.1 57) (yo0.2.1 59) (yo0.2.1 58) v4.toNatClampNeg) (allL (yo0.2.1 57) (yo0.2.1 59) (yo0.2.1 58) v5.toNatClampNeg) (v7.toInt - 301 * v4.toInt).toNat (v8.toInt - 301 * v5.toInt).toNat (v6.toInt : Int).toNat v2.toInt.toNat := by rw [n_q48_2.1 36 rfl, n_q48_2.2.1 57 rfl, n_q48_2.2.1 58 rfl, n_q48_2.2.1 59 rfl]; exact x_26
            refine tt_if (fun c61 => ?_) (fun c61 => ?_)
            · have wc61 : q48.1.toInt = v6.toInt := c_eq c61
              have i62 : (0 : Int) ≤ q48.1.toInt ∧ q48.1.toInt ≤ 5 := nr_eql c61 i_q48 i_v6 (by decide) (by decide)
              have p63 : Jn v6 (q48.2.2.1 61) := by exact Jn_e (by assumption) (by omega)
              refine tt_b (sM_tryCut _ _ _ k_q48_2 i_v3 i_v6 f_q48_2_0 f_q48_2_36 f_q48_2_38 f_q48_2_43 f_q48_2_95 u49 p63 u50 (show 0 ≤ v6.toInt by omega) u59) (fun q64 hq64 => ?_)
              obtain ⟨k_q64, n_q64, zq64_0, zq64_1, zq64_2, zq64_3, zq64_4, zq64_5, zq64_6, zq64_7, -⟩ := hq64
              have r_q64 := fr_tr r_q48_2 n_q64 rfl rfl rfl
              have f_q64_0 : (0 : Int) ≤ (q64.1 0).toInt ∧ (q64.1 0).toInt ≤ 2 := by rw [n_q64.1 0 rfl]; exact f_q48_2_0
              have f_q64_38 : (1 : Int) ≤ (q64.1 38).toInt ∧ (q64.1 38).toInt ≤ 1 := by rw [n_q64.1 38 rfl]; exact f_q48_2_38
              have f_q64_43 : (1 : Int) ≤ (q64.1 43).toInt ∧ (q64.1 43).toInt ≤ 200 := by rw [n_q64.1 43 rfl]; exact f_q48_2_43
              have f_q64_95 : (0 : Int) ≤ (q64.1 95).toInt ∧ (q64.1 95).toInt ≤ 0 := by rw [n_q64.1 95 rfl]; exact f_q48_2_95
              have g_q64_36 : (0 : Int) ≤ (q64.1 36).toInt ∧ (q64.1 36).toInt ≤ 1 := k_q64.1 36
              have e_q64_39 : (q64.1 39).toInt = (q48.2.1 39).toInt := congrArg Int32.toInt (n_q64.1 39 rfl)
              have g_q64_39 : (0 : Int) ≤ (q64.1 39).toInt ∧ (q64.1 39).toInt ≤ 8 := k_q64.1 39
              have e_q64_43 : (q64.1 43).toInt = (q48.2.1 43).toInt := congrArg Int32.toInt (n_q64.1 43 rfl)
              have u65 : Jn q48.1 (q64.2.1 61) := by rw [n_q64.2.1 61 rfl]; exact zq48_0
              have u66 : Ju q48.1.toInt v7 v8 (q64.2.1 61) (o0.2.1 59) (o0.2.1 58) := by rw [n_q64.2.1 61 rfl]; exact zq48_1
              have u67 : Mp2 q48.1.toInt v7.toNatClampNeg v8.toNatClampNeg (q64.2.1 61) (o0.2.1 59) (o0.2.1 58) := by rw [n_q64.2.1 61 rfl]; exact zq48_3
              try unfold fM_cut_194
              refine tt_kv (P := fun z => ((1 : Int) ≤ z.toInt ∧ z.toInt ≤ 62909) ∧ z.toInt = v8.toInt + 1) ⟨iv_add i18 (show (1 : Int) ≤ (1 : Int32).toInt ∧ (1 : Int32).toInt ≤ 1 by decide) (by decide) (by decide) (by decide) (by decide), iq_add i18 (show (1 : Int) ≤ (1 : Int32).toInt ∧ (1 : Int32).toInt ≤ 1 by decide) (by decide) (by decide)⟩ (fun x68 qi69 => ?_)
              obtain ⟨i69, ei69⟩ := qi69
              have p70 : Lc v3.toInt (yo0.2.1 59) (q64.2.1 59) := by first | assumption | exact Lc_t (by assumption) (by assumption)
              have p71 : Cz v3.toInt ((yo0.1 39).toInt + 1) (yo0.1 43).toInt (yo0.2.1 44) (yo0.2.1 45) (q64.2.1 57) (q64.2.1 59) (q64.2.1 58) := by first | assumption | exact Cz_tk (by assumption) (show Tc v3.toInt v6.toInt _ _ _ _ _ _ _ by assumption) (by assumption) (by omega) (by omega)
              have p72 : Cx v3.toInt v4.toInt v5.toInt ((yo0.1 39).toInt + 1) (yo0.1 43).toInt (yo0.2.1 44) (yo0.2.1 45) (q64.2.1 57) (q64.2.1 59) (q64.2.1 58) := by first | assumption | exact Cx_tk (by assumption) (show Tc v3.toInt v6.toInt _ _ _ _ _ _ _ by assumption) (by assumption) (by rw [(show Fr (fr_M [36] [57, 58, 59, 60] []) _ _ by assumption).2.1 61 rfl]; exact Jp_i (show Ju _ v7 v8 _ _ _ by assumption) x_7 ⟨by omega, by omega⟩ ⟨by omega, by omega⟩ x_22 (show 301 * v5.toInt ≤ v8.toInt ∧ v8.toInt ≤ 301 * v5.toInt + (o0.2.1 57 v5.toNatClampNeg).toInt by omega) (by omega)) (by omega)
              have p73 : Ce v3.toInt (yo0.2.1 57) (q64.2.1 57) := by first | assumption | exact Ce_tr (by assumption) (Tc_57 (show Tc v3.toInt v6.toInt _ _ _ _ _ _ _ by assumption) (by omega))
              have p74 : Ce (1505 * v3.toInt) (yo0.2.1 58) (q64.2.1 58) := by first | assumption | exact Ce_tr (by assumption) (Tc_58k (show Tc v3.toInt v6.toInt _ _ _ _ _ _ _ by assumption) (by assumption) (by omega))
              have p75 : Ca v3.toInt (q64.2.1 57) (q64.2.1 59) (q64.2.1 58) := by first | assumption | exact Ca_tk (by assumption) (show Tc v3.toInt v6.toInt _ _ _ _ _ _ _ by assumption) (by assumption) (by omega) (by omega)
              have p76 : Ir v7.toInt v4.toInt (q64.2.1 57) := by first | assumption | exact Ir_t (by assumption) (show Tc v3.toInt v6.toInt _ _ _ _ _ _ _ by assumption) (by rw [show v4.toInt.toNat = v4.toNatClampNeg from rfl, show v3.toInt.toNat = v3.toNatClampNeg from rfl, ← Int.ofNat_inj, tn_n, tn_n]; omega)
              have p77 : Lb v6.toInt v7.toInt x68.toInt (301 * v4.toInt + (q64.2.1 57 v4.toNatClampNeg).toInt) (301 * v5.toInt + (q64.2.1 57 v5.toNatClampNeg).toInt) (q64.2.1 57 v3.toNatClampNeg).toInt (q64.1 36).toInt := by first | exact Lb_c (by assumption) | exact Lb_step x_24 (by omega) (by omega) (fun h1 h2 h3 => by have a1 := Ca_at x_11 v4 v7 (by omega) (by omega) (show 0 ≤ (o0.2.1 57 v4.toNatClampNeg).toInt from (k_o0.2 57 _).1) h2; have a2 := Ca_at x_11 v5 v8 (by omega) (by omega) (show 0 ≤ (o0.2.1 57 v5.toNatClampNeg).toInt from (k_o0.2 57 _).1) h3; omega) | (rw [(show Fr (fr_M [] [61] []) _ _ by assumption).2.1 57 rfl, (show Fr (fr_M [] [61] []) _ _ by assumption).1 36 rfl]; exact Lb_step x_24 (by omega) (by omega) (fun h1 h2 h3 => by have a1 := Ca_at x_11 v4 v7 (by omega) (by omega) (show 0 ≤ (o0.2.1 57 v4.toNatClampNeg).toInt from (k_o0.2 57 _).1) h2; have a2 := Ca_at x_11 v5 v8 (by omega) (by omega) (show 0 ≤ (o0.2.1 57 v5.toNatClampNeg).toInt from (k_o0.2 57 _).1) h3; have a3 := (show Jr _ v7 v8 _ _ by assumption) a1.1 a2.1 (by omega); omega))
              have p78 : Q85 (q64.1 36).toInt (rowL (q64.2.1 57) (q64.2.1 59) (q64.2.1 58) v3.toNatClampNeg) (cutL (yo0.2.1 59) (yo0.2.1 58) v7.toNatClampNeg) (allL (yo0.2.1 57) (yo0.2.1 59) (yo0.2.1 58) v4.toNatClampNeg) (allL (yo0.2.1 57) (yo0.2.1 59) (yo0.2.1 58) v5.toNatClampNeg) (v7.toInt - 301 * v4.toInt).toNat (x68.toInt - 301 * v5.toInt).toNat (v6.toInt : Int).toNat v2.toInt.toNat := by have e8 := congrArg Int32.toInt (x_2 v8.toNatClampNeg (by rw [tn_n]; omega)); have b7 : 0 ≤ (o0.2.1 59 v7.toNatClampNeg).toInt ∧ (o0.2.1 59 v7.toNatClampNeg).toInt ≤ 5 := k_o0.2 59 _; have b8 : 0 ≤ (o0.2.1 59 v8.toNatClampNeg).toInt ∧ (o0.2.1 59 v8.toNatClampNeg).toInt ≤ 5 := k_o0.2 59 _; first | exact Q_c x_26 (all_at (v := v8) (by omega) (by omega) (by omega)) (by omega) (st_pre (by omega) (by omega) (by omega)) (by omega) (by omega) | exact Q_t x_26 (all_at (v := v8) (by omega) (by omega) (by omega)) (by omega) (st_ad (p := v3.toInt) (show Mp2 _ v7.toNatClampNeg v8.toNatClampNeg _ _ _ by assumption) (cut_e x_2 x_10 (show (yo0.2.1 59 v7.toNatClampNeg).toInt ≤ 5 by omega) (by rw [tn_n]; omega)) (cut_e x_2 x_10 (show (yo0.2.1 59 v8.toNatClampNeg).toInt ≤ 5 by omega) (by rw [tn_n]; omega)) (by omega) (show Ad _ v3.toInt v6.toInt _ _ _ _ _ _ _ by assumption) (by first | rfl | exact ((show Fr (fr_M [36] [57, 58, 59, 60] []) _ _ by assumption).2.1 61 rfl).symm) (by omega) (by rw [(show Fr (fr_M [] [61] []) _ _ by assumption).2.1 57 rfl, (show Fr (fr_M [] [61] []) _ _ by assumption).2.1 59 rfl, (show Fr (fr_M [] [61] []) _ _ by assumption).2.1 58 rfl]; rfl)) (by omega) | (rw [(show Fr (fr_M [] [61] []) _ _ by assumption).1 36 rfl, (show Fr (fr_M [] [61] []) _ _ by assumption).2.1 57 rfl, (show Fr (fr_M [] [61] []) _ _ by assumption).2.1 59 rfl, (show Fr (fr_M [] [61] []) _ _ by assumption).2.1 58 rfl]; exact Q_c x_26 (all_at (v := v8) (by omega) (by omega) (by omega)) (by omega) (st_join (show Mp2 _ v7.toNatClampNeg v8.toNatClampNeg _ _ _ by assumption) (cut_e x_2 x_10 (show (yo0.2.1 59 v7.toNatClampNeg).toInt ≤ 5 by omega) (by rw [tn_n]; omega)) (cut_e x_2 x_10 (show (yo0.2.1 59 v8.toNatClampNeg).toInt ≤ 5 by omega) (by rw [tn_n]; omega)) (by omega)) (by omega) (by omega))
              exact H.2.2 _ _ _ _ _ _ _ _ k_q64 r_q64 i_v2 i_v3 i_v4 i_v5 i_v6 i_v7 (iv_w (a := 0) (b := 62909) (by decide) (by decide) i69) f_q64_0 f_q64_38 f_q64_43 f_q64_95 zq64_0 zq64_1 p70 (show v3.toInt = (yo0.1 39).toInt + 1 + yv1.toInt by omega) (show v2.toInt = yv2.toInt by omega) (show 1 ≤ v2.toInt by omega) (show v6.toInt ≤ v2.toInt by omega) p71 p72 p73 p74 p75 (show v4.toInt = (yo0.2.1 44 yv1.toNatClampNeg).toInt / 2 by omega) (show v5.toInt = (yo0.2.1 45 yv1.toNatClampNeg).toInt / 2 by omega) (show 0 ≤ v4.toInt by omega) (show 0 ≤ v5.toInt by omega) (show v4.toInt < v3.toInt by omega) (show v5.toInt < v3.toInt by omega) (show yv1.toInt < (yo0.1 43).toInt by omega) (show 0 ≤ yv1.toInt by omega) (show 1 ≤ v4.toInt by omega) (show v4.toInt < v5.toInt by omega) p76 (show 301 * v5.toInt ≤ x68.toInt by omega) p77 zq64_6 p78 (show v7.toInt ≤ 301 * v4.toInt + 300 by omega) (show 0 + (6 - v6.toInt - 1) * 7953208624 + 1 + (63210 - v7.toInt - 1) * 125822 + 1 + (62909 - x68.toInt) * 2 < (n : Int) by omega)
            · have wc61 : ¬ q48.1.toInt = v6.toInt := c_ne c61
              try unfold fM_cut_194
              refine tt_kv (P := fun z => ((1 : Int) ≤ z.toInt ∧ z.toInt ≤ 62909) ∧ z.toInt = v8.toInt + 1) ⟨iv_add i18 (show (1 : Int) ≤ (1 : Int32).toInt ∧ (1 : Int32).toInt ≤ 1 by decide) (by decide) (by decide) (by decide) (by decide), iq_add i18 (show (1 : Int) ≤ (1 : Int32).toInt ∧ (1 : Int32).toInt ≤ 1 by decide) (by decide) (by decide)⟩ (fun x79 qi80 => ?_)
              obtain ⟨i80, ei80⟩ := qi80
              have p81 : Lb v6.toInt v7.toInt x79.toInt (301 * v4.toInt + (q48.2.2.1 57 v4.toNatClampNeg).toInt) (301 * v5.toInt + (q48.2.2.1 57 v5.toNatClampNeg).toInt) (q48.2.2.1 57 v3.toNatClampNeg).toInt (q48.2.1 36).toInt := by first | exact Lb_c (by assumption) | exact Lb_step x_24 (by omega) (by omega) (fun h1 h2 h3 => by have a1 := Ca_at x_11 v4 v7 (by omega) (by omega) (show 0 ≤ (o0.2.1 57 v4.toNatClampNeg).toInt from (k_o0.2 57 _).1) h2; have a2 := Ca_at x_11 v5 v8 (by omega) (by omega) (show 0 ≤ (o0.2.1 57 v5.toNatClampNeg).toInt from (k_o0.2 57 _).1) h3; omega) | (rw [(show Fr (fr_M [] [61] []) _ _ by assumption).2.1 57 rfl, (show Fr (fr_M [] [61] []) _ _ by assumption).1 36 rfl]; exact Lb_step x_24 (by omega) (by omega) (fun h1 h2 h3 => by have a1 := Ca_at x_11 v4 v7 (by omega) (by omega) (show 0 ≤ (o0.2.1 57 v4.toNatClampNeg).toInt from (k_o0.2 57 _).1) h2; have a2 := Ca_at x_11 v5 v8 (by omega) (by omega) (show 0 ≤ (o0.2.1 57 v5.toNatClampNeg).toInt from (k_o0.2 57 _).1) h3; have a3 := (show Jr _ v7 v8 _ _ by assumption) a1.1 a2.1 (by omega); omega))
              have p82 : Q85 (q48.2.1 36).toInt (rowL (q48.2.2.1 57) (q48.2.2.1 59) (q48.2.2.1 58) v3.toNatClampNeg) (cutL (yo0.2.1 59) (yo0.2.1 58) v7.toNatClampNeg) (allL (yo0.2.1 57) (yo0.2.1 59) (yo0.2.1 58) v4.toNatClampNeg) (allL (yo0.2.1 57) (yo0.2.1 59) (yo0.2.1 58) v5.toNatClampNeg) (v7.toInt - 301 * v4.toInt).toNat (x79.toInt - 301 * v5.toInt).toNat (v6.toInt : Int).toNat v2.toInt.toNat := by have e8 := congrArg Int32.toInt (x_2 v8.toNatClampNeg (by rw [tn_n]; omega)); have b7 : 0 ≤ (o0.2.1 59 v7.toNatClampNeg).toInt ∧ (o0.2.1 59 v7.toNatClampNeg).toInt ≤ 5 := k_o0.2 59 _; have b8 : 0 ≤ (o0.2.1 59 v8.toNatClampNeg).toInt ∧ (o0.2.1 59 v8.toNatClampNeg).toInt ≤ 5 := k_o0.2 59 _; first | exact Q_c x_26 (all_at (v := v8) (by omega) (by omega) (by omega)) (by omega) (st_pre (by omega) (by omega) (by omega)) (by omega) (by omega) | exact Q_t x_26 (all_at (v := v8) (by omega) (by omega) (by omega)) (by omega) (st_ad (p := v3.toInt) (show Mp2 _ v7.toNatClampNeg v8.toNatClampNeg _ _ _ by assumption) (cut_e x_2 x_10 (show (yo0.2.1 59 v7.toNatClampNeg).toInt ≤ 5 by omega) (by rw [tn_n]; omega)) (cut_e x_2 x_10 (show (yo0.2.1 59 v8.toNatClampNeg).toInt ≤ 5 by omega) (by rw [tn_n]; omega)) (by omega) (show Ad _ v3.toInt v6.toInt _ _ _ _ _ _ _ by assumption) (by first | rfl | exact ((show Fr (fr_M [36] [57, 58, 59, 60] []) _ _ by assumption).2.1 61 rfl).symm) (by omega) (by rw [(show Fr (fr_M [] [61] []) _ _ by assumption).2.1 57 rfl, (show Fr (fr_M [] [61] []) _ _ by assumption).2.1 59 rfl, (show Fr (fr_M [] [61] []) _ _ by assumption).2.1 58 rfl]; rfl)) (by omega) | (rw [(show Fr (fr_M [] [61] []) _ _ by assumption).1 36 rfl, (show Fr (fr_M [] [61] []) _ _ by assumption).2.1 57 rfl, (show Fr (fr_M [] [61] []) _ _ by assumption).2.1 59 rfl, (show Fr (fr_M [] [61] []) _ _ by assumption).2.1 58 rfl]; exact Q_c x_26 (all_at (v := v8) (by omega) (by omega) (by omega)) (by omega) (st_join (show Mp2 _ v7.toNatClampNeg v8.toNatClampNeg _ _ _ by assumption) (cut_e x_2 x_10 (show (yo0.2.1 59 v7.toNatClampNeg).toInt ≤ 5 by omega) (by rw [tn_n]; omega)) (cut_e x_2 x_10 (show (yo0.2.1 59 v8.toNatClampNeg).toInt ≤ 5 by omega) (by rw [tn_n]; omega)) (by omega)) (by omega) (by omega))
              exact H.2.2 _ _ _ _ _ _ _ _ k_q48_2 r_q48_2 i_v2 i_v3 i_v4 i_v5 i_v6 i_v7 (iv_w (a := 0) (b := 62909) (by decide) (by decide) i80) f_q48_2_0 f_q48_2_38 f_q48_2_43 f_q48_2_95 u49 u50 u51 (show v3.toInt = (yo0.1 39).toInt + 1 + yv1.toInt by omega) (show v2.toInt = yv2.toInt by omega) (show 1 ≤ v2.toInt by omega) (show v6.toInt ≤ v2.toInt by omega) u52 u53 u54 u55 u56 (show v4.toInt = (yo0.2.1 44 yv1.toNatClampNeg).toInt / 2 by omega) (show v5.toInt = (yo0.2.1 45 yv1.toNatClampNeg).toInt / 2 by omega) (show 0 ≤ v4.toInt by omega) (show 0 ≤ v5.toInt by omega) (show v4.toInt < v3.toInt by omega) (show v5.toInt < v3.toInt by omega) (show yv1.toInt < (yo0.1 43).toInt by omega) (show 0 ≤ yv1.toInt by omega) (show 1 ≤ v4.toInt by omega) (show v4.toInt < v5.toInt by omega) u57 (show 301 * v5.toInt ≤ x79.toInt by omega) p81 u59 p82 (show v7.toInt ≤ 301 * v4.toInt + 300 by omega) (show 0 + (6 - v6.toInt - 1) * 7953208624 + 1 + (63210 - v7.toInt - 1) * 125822 + 1 + (62909 - x79.toInt) * 2 < (n : Int) by omega)
      · have wc25 : x23.toInt < x21.toInt := c_nle c25
        have i83 : (0 : Int) ≤ x23.toInt ∧ x23.toInt ≤ 4 := nr_nlel c25 i24 i22 (by decide) (by decide)
        have i84 : (1 : Int) ≤ x21.toInt ∧ x21.toInt ≤ 5 := nr_nler c25 i24 i22 (by decide) (by decide)
        refine tt_n (ix_ok i_v7 (by decide) (by decide)) ?_
        refine tt_kv (P := fun z => ((0 : Int) ≤ z.toInt ∧ z.toInt ≤ 5) ∧ z.toInt = (o0.2.1 59 v7.toNatClampNeg).toInt) ⟨(k_o0.2 59 _), rfl⟩ (fun x85 qi86 => ?_)
        obtain ⟨i86, ei86⟩ := qi86
        try unfold fM_cut_145
        refine tt_if (fun c87 => ?_) (fun c87 => ?_)
        · have wc87 : v6.toInt < x85.toInt := c_lt c87
          have i88 : (0 : Int) ≤ v6.toInt ∧ v6.toInt ≤ 4 := nr_ltl c87 i_v6 i86 (by decide) (by decide)
          have i89 : (1 : Int) ≤ x85.toInt ∧ x85.toInt ≤ 5 := nr_ltr c87 i_v6 i86 (by decide) (by decide)
          try unfold fM_cut_194
          refine tt_kv (P := fun z => ((1 : Int) ≤ z.toInt ∧ z.toInt ≤ 62909) ∧ z.toInt = v8.toInt + 1) ⟨iv_add i18 (show (1 : Int) ≤ (1 : Int32).toInt ∧ (1 : Int32).toInt ≤ 1 by decide) (by decide) (by decide) (by decide) (by decide), iq_add i18 (show (1 : Int) ≤ (1 : Int32).toInt ∧ (1 : Int32).toInt ≤ 1 by decide) (by decide) (by decide)⟩ (fun x90 qi91 => ?_)
          obtain ⟨i91, ei91⟩ := qi91
          have p92 : Lb v6.toInt v7.toInt x90.toInt (301 * v4.toInt + (o0.2.1 57 v4.toNatClampNeg).toInt) (301 * v5.toInt + (o0.2.1 57 v5.toNatClampNeg).toInt) (o0.2.1 57 v3.toNatClampNeg).toInt (o0.1 36).toInt := by first | exact Lb_c (by assumption) | exact Lb_step x_24 (by omega) (by omega) (fun h1 h2 h3 => by have a1 := Ca_at x_11 v4 v7 (by omega) (by omega) (show 0 ≤ (o0.2.1 57 v4.toNatClampNeg).toInt from (k_o0.2 57 _).1) h2; have a2 := Ca_at x_11 v5 v8 (by omega) (by omega) (show 0 ≤ (o0.2.1 57 v5.toNatClampNeg).toInt from (k_o0.2 57 _).1) h3; omega) | (rw [(show Fr (fr_M [] [61] []) _ _ by assumption).2.1 57 rfl, (show Fr (fr_M [] [61] []) _ _ by assumption).1 36 rfl]; exact Lb_step x_24 (by omega) (by omega) (fun h1 h2 h3 => by have a1 := Ca_at x_11 v4 v7 (by omega) (by omega) (show 0 ≤ (o0.2.1 57 v4.toNatClampNeg).toInt from (k_o0.2 57 _).1) h2; have a2 := Ca_at x_11 v5 v8 (by omega) (by omega) (show 0 ≤ (o0.2.1 57 v5.toNatClampNeg).toInt from (k_o0.2 57 _).1) h3; have a3 := (show Jr _ v7 v8 _ _ by assumption) a1.1 a2.1 (by omega); omega))
          have p93 : Q85 (o0.1 36).toInt (rowL (o0.2.1 57) (o0.2.1 59) (o0.2.1 58) v3.toNatClampNeg) (cutL (yo0.2.1 59) (yo0.2.1 58) v7.toNatClampNeg) (allL (yo0.2.1 57) (yo0.2.1 59) (yo0.2.1 58) v4.toNatClampNeg) (allL (yo0.2.1 57) (yo0.2.1 59) (yo0.2.1 58) v5.toNatClampNeg) (v7.toInt - 301 * v4.toInt).toNat (x90.toInt - 301 * v5.toInt).toNat (v6.toInt : Int).toNat v2.toInt.toNat := by have e8 := congrArg Int32.toInt (x_2 v8.toNatClampNeg (by rw [tn_n]; omega)); have b7 : 0 ≤ (o0.2.1 59 v7.toNatClampNeg).toInt ∧ (o0.2.1 59 v7.toNatClampNeg).toInt ≤ 5 := k_o0.2 59 _; have b8 : 0 ≤ (o0.2.1 59 v8.toNatClampNeg).toInt ∧ (o0.2.1 59 v8.toNatClampNeg).toInt ≤ 5 := k_o0.2 59 _; first | exact Q_c x_26 (all_at (v := v8) (by omega) (by omega) (by omega)) (by omega) (st_pre (by omega) (by omega) (by omega)) (by omega) (by omega) | exact Q_t x_26 (all_at (v := v8) (by omega) (by omega) (by omega)) (by omega) (st_ad (p := v3.toInt) (show Mp2 _ v7.toNatClampNeg v8.toNatClampNeg _ _ _ by assumption) (cut_e x_2 x_10 (show (yo0.2.1 59 v7.toNatClampNeg).toInt ≤ 5 by omega) (by rw [tn_n]; omega)) (cut_e x_2 x_10 (show (yo0.2.1 59 v8.toNatClampNeg).toInt ≤ 5 by omega) (by rw [tn_n]; omega)) (by omega) (show Ad _ v3.toInt v6.toInt _ _ _ _ _ _ _ by assumption) (by first | rfl | exact ((show Fr (fr_M [36] [57, 58, 59, 60] []) _ _ by assumption).2.1 61 rfl).symm) (by omega) (by rw [(show Fr (fr_M [] [61] []) _ _ by assumption).2.1 57 rfl, (show Fr (fr_M [] [61] []) _ _ by assumption).2.1 59 rfl, (show Fr (fr_M [] [61] []) _ _ by assumption).2.1 58 rfl]; rfl)) (by omega) | (rw [(show Fr (fr_M [] [61] []) _ _ by assumption).1 36 rfl, (show Fr (fr_M [] [61] []) _ _ by assumption).2.1 57 rfl, (show Fr (fr_M [] [61] []) _ _ by assumption).2.1 59 rfl, (show Fr (fr_M [] [61] []) _ _ by assumption).2.1 58 rfl]; exact Q_c x_26 (all_at (v := v8) (by omega) (by omega) (by omega)) (by omega) (st_join (show Mp2 _ v7.toNatClampNeg v8.toNatClampNeg _ _ _ by assumption) (cut_e x_2 x_10 (show (yo0.2.1 59 v7.toNatClampNeg).toInt ≤ 5 by omega) (by rw [tn_n]; omega)) (cut_e x_2 x_10 (show (yo0.2.1 59 v8.toNatClampNeg).toInt ≤ 5 by omega) (by rw [tn_n]; omega)) (by omega)) (by omega) (by omega))
          exact H.2.2 _ _ _ _ _ _ _ _ k_o0 r_o0 i_v2 i_v3 i_v4 i_v5 (iv_w (a := 0) (b := 5) (by decide) (by decide) i88) i_v7 (iv_w (a := 0) (b := 62909) (by decide) (by decide) i91) f_o0_0 f_o0_38 f_o0_43 f_o0_95 x_0 x_1 x_2 (show v3.toInt = (yo0.1 39).toInt + 1 + yv1.toInt by omega) (show v2.toInt = yv2.toInt by omega) (show 1 ≤ v2.toInt by omega) (show v6.toInt ≤ v2.toInt by omega) x_7 x_8 x_9 x_10 x_11 (show v4.toInt = (yo0.2.1 44 yv1.toNatClampNeg).toInt / 2 by omega) (show v5.toInt = (yo0.2.1 45 yv1.toNatClampNeg).toInt / 2 by omega) (show 0 ≤ v4.toInt by omega) (show 0 ≤ v5.toInt by omega) (show v4.toInt < v3.toInt by omega) (show v5.toInt < v3.toInt by omega) (show yv1.toInt < (yo0.1 43).toInt by omega) (show 0 ≤ yv1.toInt by omega) (show 1 ≤ v4.toInt by omega) (show v4.toInt < v5.toInt by omega) x_22 (show 301 * v5.toInt ≤ x90.toInt by omega) p92 x_25 p93 (show v7.toInt ≤ 301 * v4.toInt + 300 by omega) (show 0 + (6 - v6.toInt - 1) * 7953208624 + 1 + (63210 - v7.toInt - 1) * 125822 + 1 + (62909 - x90.toInt) * 2 < (n : Int) by omega)
        · have wc87 : x85.toInt ≤ v6.toInt := c_nlt c87
          refine tt_n (ix_ok i_v7 (by decide) (by decide)) ?_
          refine tt_kv (P := fun z => ((0 : Int) ≤ z.toInt ∧ z.toInt ≤ 5) ∧ z.toInt = (o0.2.1 59 v7.toNatClampNeg).toInt) ⟨(k_o0.2 59 _), rfl⟩ (fun x94 qi95 => ?_)
          obtain ⟨i95, ei95⟩ := qi95
          refine tt_n (ix_ok i18 (by decide) (by decide)) ?_
          refine tt_kv (P := fun z => ((0 : Int) ≤ z.toInt ∧ z.toInt ≤ 5) ∧ z.toInt = (o0.2.1 59 v8.toNatClampNeg).toInt) ⟨(k_o0.2 59 _), rfl⟩ (fun x96 qi97 => ?_)
          obtain ⟨i97, ei97⟩ := qi97
          refine tt_kv (P := fun z => ((0 : Int) ≤ z.toInt ∧ z.toInt ≤ 10) ∧ z.toInt = x94.toInt + x96.toInt) ⟨iv_add i95 i97 (by decide) (by decide) (by decide) (by decide), iq_add i95 i97 (by decide) (by decide)⟩ (fun x98 qi99 => ?_)
          obtain ⟨i99, ei99⟩ := qi99
          refine tt_if (fun c100 => ?_) (fun c100 => ?_)
          · have wc100 : x98.toInt < v6.toInt := c_lt c100
            have i101 : (0 : Int) ≤ x98.toInt ∧ x98.toInt ≤ 4 := nr_ltl c100 i99 i_v6 (by decide) (by decide)
            have i102 : (1 : Int) ≤ v6.toInt ∧ v6.toInt ≤ 5 := nr_ltr c100 i99 i_v6 (by decide) (by decide)
            try unfold fM_cut_194
            refine tt_kv (P := fun z => ((1 : Int) ≤ z.toInt ∧ z.toInt ≤ 62909) ∧ z.toInt = v8.toInt + 1) ⟨iv_add i18 (show (1 : Int) ≤ (1 : Int32).toInt ∧ (1 : Int32).toInt ≤ 1 by decide) (by decide) (by decide) (by decide) (by decide), iq_add i18 (show (1 : Int) ≤ (1 : Int32).toInt ∧ (1 : Int32).toInt ≤ 1 by decide) (by decide) (by decide)⟩ (fun x103 qi104 => ?_)
            obtain ⟨i104, ei104⟩ := qi104
            have p105 : Lb v6.toInt v7.toInt x103.toInt (301 * v4.toInt + (o0.2.1 57 v4.toNatClampNeg).toInt) (301 * v5.toInt + (o0.2.1 57 v5.toNatClampNeg).toInt) (o0.2.1 57 v3.toNatClampNeg).toInt (o0.1 36).toInt := by first | exact Lb_c (by assumption) | exact Lb_step x_24 (by omega) (by omega) (fun h1 h2 h3 => by have a1 := Ca_at x_11 v4 v7 (by omega) (by omega) (show 0 ≤ (o0.2.1 57 v4.toNatClampNeg).toInt from (k_o0.2 57 _).1) h2; have a2 := Ca_at x_11 v5 v8 (by omega) (by omega) (show 0 ≤ (o0.2.1 57 v5.toNatClampNeg).toInt from (k_o0.2 57 _).1) h3; omega) | (rw [(show Fr (fr_M [] [61] []) _ _ by assumption).2.1 57 rfl, (show Fr (fr_M [] [61] []) _ _ by assumption).1 36 rfl]; exact Lb_step x_24 (by omega) (by omega) (fun h1 h2 h3 => by have a1 := Ca_at x_11 v4 v7 (by omega) (by omega) (show 0 ≤ (o0.2.1 57 v4.toNatClampNeg).toInt from (k_o0.2 57 _).1) h2; have a2 := Ca_at x_11 v5 v8 (by omega) (by omega) (show 0 ≤ (o0.2.1 57 v5.toNatClampNeg).toInt from (k_o0.2 57 _).1) h3; have a3 := (show Jr _ v7 v8 _ _ by assumption) a1.1 a2.1 (by omega); omega))
            have p106 : Q85 (o0.1 36).toInt (rowL (o0.2.1 57) (o0.2.1 59) (o0.2.1 58) v3.toNatClampNeg) (cutL (yo0.2.1 59) (yo0.2.1 58) v7.toNatClampNeg) (allL (yo0.2.1 57) (yo0.2.1 59) (yo0.2.1 58) v4.toNatClampNeg) (allL (yo0.2.1 57) (yo0.2.1 59) (yo0.2.1 58) v5.toNatClampNeg) (v7.toInt - 301 * v4.toInt).toNat (x103.toInt - 301 * v5.toInt).toNat (v6.toInt : Int).toNat v2.toInt.toNat := by have e8 := congrArg Int32.toInt (x_2 v8.toNatClampNeg (by rw [tn_n]; omega)); have b7 : 0 ≤ (o0.2.1 59 v7.toNatClampNeg).toInt ∧ (o0.2.1 59 v7.toNatClampNeg).toInt ≤ 5 := k_o0.2 59 _; have b8 : 0 ≤ (o0.2.1 59 v8.toNatClampNeg).toInt ∧ (o0.2.1 59 v8.toNatClampNeg).toInt ≤ 5 := k_o0.2 59 _; first | exact Q_c x_26 (all_at (v := v8) (by omega) (by omega) (by omega)) (by omega) (st_pre (by omega) (by omega) (by omega)) (by omega) (by omega) | exact Q_t x_26 (all_at (v := v8) (by omega) (by omega) (by omega)) (by omega) (st_ad (p := v3.toInt) (show Mp2 _ v7.toNatClampNeg v8.toNatClampNeg _ _ _ by assumption) (cut_e x_2 x_10 (show (yo0.2.1 59 v7.toNatClampNeg).toInt ≤ 5 by omega) (by rw [tn_n]; omega)) (cut_e x_2 x_10 (show (yo0.2.1 59 v8.toNatClampNeg).toInt ≤ 5 by omega) (by rw [tn_n]; omega)) (by omega) (show Ad _ v3.toInt v6.toInt _ _ _ _ _ _ _ by assumption) (by first | rfl | exact ((show Fr (fr_M [36] [57, 58, 59, 60] []) _ _ by assumption).2.1 61 rfl).symm) (by omega) (by rw [(show Fr (fr_M [] [61] []) _ _ by assumption).2.1 57 rfl, (show Fr (fr_M [] [61] []) _ _ by assumption).2.1 59 rfl, (show Fr (fr_M [] [61] []) _ _ by assumption).2.1 58 rfl]; rfl)) (by omega) | (rw [(show Fr (fr_M [] [61] []) _ _ by assumption).1 36 rfl, (show Fr (fr_M [] [61] []) _ _ by assumption).2.1 57 rfl, (show Fr (fr_M [] [61] []) _ _ by assumption).2.1 59 rfl, (show Fr (fr_M [] [61] []) _ _ by assumption).2.1 58 rfl]; exact Q_c x_26 (all_at (v := v8) (by omega) (by omega) (by omega)) (by omega) (st_join (show Mp2 _ v7.toNatClampNeg v8.toNatClampNeg _ _ _ by assumption) (cut_e x_2 x_10 (show (yo0.2.1 59 v7.toNatClampNeg).toInt ≤ 5 by omega) (by rw [tn_n]; omega)) (cut_e x_2 x_10 (show (yo0.2.1 59 v8.toNatClampNeg).toInt ≤ 5 by omega) (by rw [tn_n]; omega)) (by omega)) (by omega) (by omega))
            exact H.2.2 _ _ _ _ _ _ _ _ k_o0 r_o0 i_v2 i_v3 i_v4 i_v5 (iv_w (a := 0) (b := 5) (by decide) (by decide) i102) i_v7 (iv_w (a := 0) (b := 62909) (by decide) (by decide) i104) f_o0_0 f_o0_38 f_o0_43 f_o0_95 x_0 x_1 x_2 (show v3.toInt = (yo0.1 39).toInt + 1 + yv1.toInt by omega) (show v2.toInt = yv2.toInt by omega) (show 1 ≤ v2.toInt by omega) (show v6.toInt ≤ v2.toInt by omega) x_7 x_8 x_9 x_10 x_11 (show v4.toInt = (yo0.2.1 44 yv1.toNatClampNeg).toInt / 2 by omega) (show v5.toInt = (yo0.2.1 45 yv1.toNatClampNeg).toInt / 2 by omega) (show 0 ≤ v4.toInt by omega) (show 0 ≤ v5.toInt by omega) (show v4.toInt < v3.toInt by omega) (show v5.toInt < v3.toInt by omega) (show yv1.toInt < (yo0.1 43).toInt by omega) (show 0 ≤ yv1.toInt by omega) (show 1 ≤ v4.toInt by omega) (show v4.toInt < v5.toInt by omega) x_22 (show 301 * v5.toInt ≤ x103.toInt by omega) p105 x_25 p106 (show v7.toInt ≤ 301 * v4.toInt + 300 by omega) (show 0 + (6 - v6.toInt - 1) * 7953208624 + 1 + (63210 - v7.toInt - 1) * 125822 + 1 + (62909 - x103.toInt) * 2 < (n : Int) by omega)
          · have wc100 : v6.toInt ≤ x98.toInt := c_nlt c100
            refine tt_b (sM_join _ _ _ k_o0 i_v7 i18 f_o0_0 i20 f_o0_38 f_o0_43 f_o0_95 x_0) (fun q107 hq107 => ?_)
            obtain ⟨i_q107, k_q107_2, n_q107_2, zq107_0, zq107_1, zq107_2, zq107_3, -⟩ := hq107
            have r_q107_2 := fr_tr r_o0 n_q107_2 rfl rfl rfl
            have f_q107_2_0 : (0 : Int) ≤ (q107.2.1 0).toInt ∧ (q107.2.1 0).toInt ≤ 2 := by rw [n_q107_2.1 0 rfl]; exact f_o0_0
            have f_q107_2_36 : (0 : Int) ≤ (q107.2.1 36).toInt ∧ (q107.2.1 36).toInt ≤ 0 := by rw [n_q107_2.1 36 rfl]; exact i20
            have f_q107_2_38 : (1 : Int) ≤ (q107.2.1 38).toInt ∧ (q107.2.1 38).toInt ≤ 1 := by rw [n_q107_2.1 38 rfl]; exact f_o0_38
            have f_q107_2_43 : (1 : Int) ≤ (q107.2.1 43).toInt ∧ (q107.2.1 43).toInt ≤ 200 := by rw [n_q107_2.1 43 rfl]; exact f_o0_43
            have f_q107_2_95 : (0 : Int) ≤ (q107.2.1 95).toInt ∧ (q107.2.1 95).toInt ≤ 0 := by rw [n_q107_2.1 95 rfl]; exact f_o0_95
            have e_q107_2_36 : (q107.2.1 36).toInt = (o0.1 36).toInt := congrArg Int32.toInt (n_q107_2.1 36 rfl)
            have e_q107_2_39 : (q107.2.1 39).toInt = (o0.1 39).toInt := congrArg Int32.toInt (n_q107_2.1 39 rfl)
            have g_q107_2_39 : (0 : Int) ≤ (q107.2.1 39).toInt ∧ (q107.2.1 39).toInt ≤ 8 := k_q107_2.1 39
            have e_q107_2_43 : (q107.2.1 43).toInt = (o0.1 43).toInt := congrArg Int32.toInt (n_q107_2.1 43 rfl)
            have u108 : Cn (q107.2.2.1 59) (q107.2.2.1 58) := by rw [n_q107_2.2.1 58 rfl, n_q107_2.2.1 59 rfl]; exact x_0
            have u109 : Sk v3.toInt v6.toInt (q107.2.2.1 57) (q107.2.2.1 59) := by rw [n_q107_2.2.1 57 rfl, n_q107_2.2.1 59 rfl]; exact x_1
            have u110 : Lc v3.toInt (yo0.2.1 59) (q107.2.2.1 59) := by rw [n_q107_2.2.1 59 rfl]; exact x_2
            have u111 : Cz v3.toInt ((yo0.1 39).toInt + 1) (yo0.1 43).toInt (yo0.2.1 44) (yo0.2.1 45) (q107.2.2.1 57) (q107.2.2.1 59) (q107.2.2.1 58) := by rw [n_q107_2.2.1 57 rfl, n_q107_2.2.1 58 rfl, n_q107_2.2.1 59 rfl]; exact x_7
            have u112 : Cx v3.toInt v4.toInt v5.toInt ((yo0.1 39).toInt + 1) (yo0.1 43).toInt (yo0.2.1 44) (yo0.2.1 45) (q107.2.2.1 57) (q107.2.2.1 59) (q107.2.2.1 58) := by rw [n_q107_2.2.1 57 rfl, n_q107_2.2.1 58 rfl, n_q107_2.2.1 59 rfl]; exact x_8
            have u113 : Ce v3.toInt (yo0.2.1 57) (q107.2.2.1 57) := by rw [n_q107_2.2.1 57 rfl]; exact x_9
            have u114 : Ce (1505 * v3.toInt) (yo0.2.1 58) (q107.2.2.1 58) := by rw [n_q107_2.2.1 58 rfl]; exact x_10
            have u115 : Ca v3.toInt (q107.2.2.1 57) (q107.2.2.1 59) (q107.2.2.1 58) := by rw [n_q107_2.2.1 57 rfl, n_q107_2.2.1 58 rfl, n_q107_2.2.1 59 rfl]; exact x_11
            have u116 : Ir v7.toInt v4.toInt (q107.2.2.1 57) := by rw [n_q107_2.2.1 57 rfl]; exact x_22
            have u117 : Lb v6.toInt v7.toInt v8.toInt (301 * v4.toInt + (q107.2.2.1 57 v4.toNatClampNeg).toInt) (301 * v5.toInt + (q107.2.2.1 57 v5.toNatClampNeg).toInt) (q107.2.2.1 57 v3.toNatClampNeg).toInt (q107.2.1 36).toInt := by rw [n_q107_2.1 36 rfl, n_q107_2.2.1 57 rfl]; exact x_24
            have u118 : Mr v3.toInt (q107.2.2.1 57) (q107.2.2.1 59) (q107.2.2.1 58) (q107.2.2.1 60) := by rw [n_q107_2.2.1 57 rfl, n_q107_2.2.1 58 rfl, n_q107_2.2.1 59 rfl, n_q107_2.2.1 60 rfl]; exact x_25
            have u119 : Q85 (q107.2.1 36).toInt (rowL (q107.2.2.1 57) (q107.2.2.1 59) (q107.2.2.1 58) v3.toNatClampNeg) (cutL (yo0.2.1 59) (yo0.2.1 58) v7.toNatClampNeg) (allL (yo0.2.1 57) (yo0.2.1 59) (yo0.2.1 58) v4.toNatClampNeg) (allL (yo0.2.1 57) (yo0.2.1 59) (yo0.2.1 58) v5.toNatClampNeg) (v7.toInt - 301 * v4.toInt).toNat (v8.toInt - 301 * v5.toInt).toNat (v6.toInt : Int).toNat v2.toInt.toNat := by rw [n_q107_2.1 36 rfl, n_q107_2.2.1 57 rfl, n_q107_2.2.1 58 rfl, n_q107_2.2.1 59 rfl]; exact x_26
            refine tt_if (fun c120 => ?_) (fun c120 => ?_)
            · have wc120 : q107.1.toInt = v6.toInt := c_eq c120
              have i121 : (0 : Int) ≤ q107.1.toInt ∧ q107.1.toInt ≤ 5 := nr_eql c120 i_q107 i_v6 (by decide) (by decide)
              have p122 : Jn v6 (q107.2.2.1 61) := by exact Jn_e (by assumption) (by omega)
              refine tt_b (sM_tryCut _ _ _ k_q107_2 i_v3 i_v6 f_q107_2_0 f_q107_2_36 f_q107_2_38 f_q107_2_43 f_q107_2_95 u108 p122 u109 (show 0 ≤ v6.toInt by omega) u118) (fun q123 hq123 => ?_)
              obtain ⟨k_q123, n_q123, zq123_0, zq123_1, zq123_2, zq123_3, zq123_4, zq123_5, zq123_6, zq123_7, -⟩ := hq123
              have r_q123 := fr_tr r_q107_2 n_q123 rfl rfl rfl
              have f_q123_0 : (0 : Int) ≤ (q123.1 0).toInt ∧ (q123.1 0).toInt ≤ 2 := by rw [n_q123.1 0 rfl]; exact f_q107_2_0
              have f_q123_38 : (1 : Int) ≤ (q123.1 38).toInt ∧ (q123.1 38).toInt ≤ 1 := by rw [n_q123.1 38 rfl]; exact f_q107_2_38
              have f_q123_43 : (1 : Int) ≤ (q123.1 43).toInt ∧ (q123.1 43).toInt ≤ 200 := by rw [n_q123.1 43 rfl]; exact f_q107_2_43
              have f_q123_95 : (0 : Int) ≤ (q123.1 95).toInt ∧ (q123.1 95).toInt ≤ 0 := by rw [n_q123.1 95 rfl]; exact f_q107_2_95
              have g_q123_36 : (0 : Int) ≤ (q123.1 36).toInt ∧ (q123.1 36).toInt ≤ 1 := k_q123.1 36
              have e_q123_39 : (q123.1 39).toInt = (q107.2.1 39).toInt := congrArg Int32.toInt (n_q123.1 39 rfl)
              have g_q123_39 : (0 : Int) ≤ (q123.1 39).toInt ∧ (q123.1 39).toInt ≤ 8 := k_q123.1 39
              have e_q123_43 : (q123.1 43).toInt = (q107.2.1 43).toInt := congrArg Int32.toInt (n_q123.1 43 rfl)
              have u124 : Jn q107.1 (q123.2.1 61) := by rw [n_q123.2.1 61 rfl]; exact zq107_0
              have u125 : Ju q107.1.toInt v7 v8 (q123.2.1 61) (o0.2.1 59) (o0.2.1 58) := by rw [n_q123.2.1 61 rfl]; exact zq107_1
              have u126 : Mp2 q107.1.toInt v7.toNatClampNeg v8.toNatClampNeg (q123.2.1 61) (o0.2.1 59) (o0.2.1 58) := by rw [n_q123.2.1 61 rfl]; exact zq107_3
              try unfold fM_cut_194
              refine tt_kv (P := fun z => ((1 : Int) ≤ z.toInt ∧ z.toInt ≤ 62909) ∧ z.toInt = v8.toInt + 1) ⟨iv_add i18 (show (1 : Int) ≤ (1 : Int32).toInt ∧ (1 : Int32).toInt ≤ 1 by decide) (by decide) (by decide) (by decide) (by decide), iq_add i18 (show (1 : Int) ≤ (1 : Int32).toInt ∧ (1 : Int32).toInt ≤ 1 by decide) (by decide) (by decide)⟩ (fun x127 qi128 => ?_)
              obtain ⟨i128, ei128⟩ := qi128
              have p129 : Lc v3.toInt (yo0.2.1 59) (q123.2.1 59) := by first | assumption | exact Lc_t (by assumption) (by assumption)
              have p130 : Cz v3.toInt ((yo0.1 39).toInt + 1) (yo0.1 43).toInt (yo0.2.1 44) (yo0.2.1 45) (q123.2.1 57) (q123.2.1 59) (q123.2.1 58) := by first | assumption | exact Cz_tk (by assumption) (show Tc v3.toInt v6.toInt _ _ _ _ _ _ _ by assumption) (by assumption) (by omega) (by omega)
              have p131 : Cx v3.toInt v4.toInt v5.toInt ((yo0.1 39).toInt + 1) (yo0.1 43).toInt (yo0.2.1 44) (yo0.2.1 45) (q123.2.1 57) (q123.2.1 59) (q123.2.1 58) := by first | assumption | exact Cx_tk (by assumption) (show Tc v3.toInt v6.toInt _ _ _ _ _ _ _ by assumption) (by assumption) (by rw [(show Fr (fr_M [36] [57, 58, 59, 60] []) _ _ by assumption).2.1 61 rfl]; exact Jp_i (show Ju _ v7 v8 _ _ _ by assumption) x_7 ⟨by omega, by omega⟩ ⟨by omega, by omega⟩ x_22 (show 301 * v5.toInt ≤ v8.toInt ∧ v8.toInt ≤ 301 * v5.toInt + (o0.2.1 57 v5.toNatClampNeg).toInt by omega) (by omega)) (by omega)
              have p132 : Ce v3.toInt (yo0.2.1 57) (q123.2.1 57) := by first | assumption | exact Ce_tr (by assumption) (Tc_57 (show Tc v3.toInt v6.toInt _ _ _ _ _ _ _ by assumption) (by omega))
              have p133 : Ce (1505 * v3.toInt) (yo0.2.1 58) (q123.2.1 58) := by first | assumption | exact Ce_tr (by assumption) (Tc_58k (show Tc v3.toInt v6.toInt _ _ _ _ _ _ _ by assumption) (by assumption) (by omega))
              have p134 : Ca v3.toInt (q123.2.1 57) (q123.2.1 59) (q123.2.1 58) := by first | assumption | exact Ca_tk (by assumption) (show Tc v3.toInt v6.toInt _ _ _ _ _ _ _ by assumption) (by assumption) (by omega) (by omega)
              have p135 : Ir v7.toInt v4.toInt (q123.2.1 57) := by first | assumption | exact Ir_t (by assumption) (show Tc v3.toInt v6.toInt _ _ _ _ _ _ _ by assumption) (by rw [show v4.toInt.toNat = v4.toNatClampNeg from rfl, show v3.toInt.toNat = v3.toNatClampNeg from rfl, ← Int.ofNat_inj, tn_n, tn_n]; omega)
              have p136 : Lb v6.toInt v7.toInt x127.toInt (301 * v4.toInt + (q123.2.1 57 v4.toNatClampNeg).toInt) (301 * v5.toInt + (q123.2.1 57 v5.toNatClampNeg).toInt) (q123.2.1 57 v3.toNatClampNeg).toInt (q123.1 36).toInt := by first | exact Lb_c (by assumption) | exact Lb_step x_24 (by omega) (by omega) (fun h1 h2 h3 => by have a1 := Ca_at x_11 v4 v7 (by omega) (by omega) (show 0 ≤ (o0.2.1 57 v4.toNatClampNeg).toInt from (k_o0.2 57 _).1) h2; have a2 := Ca_at x_11 v5 v8 (by omega) (by omega) (show 0 ≤ (o0.2.1 57 v5.toNatClampNeg).toInt from (k_o0.2 57 _).1) h3; omega) | (rw [(show Fr (fr_M [] [61] []) _ _ by assumption).2.1 57 rfl, (show Fr (fr_M [] [61] []) _ _ by assumption).1 36 rfl]; exact Lb_step x_24 (by omega) (by omega) (fun h1 h2 h3 => by have a1 := Ca_at x_11 v4 v7 (by omega) (by omega) (show 0 ≤ (o0.2.1 57 v4.toNatClampNeg).toInt from (k_o0.2 57 _).1) h2; have a2 := Ca_at x_11 v5 v8 (by omega) (by omega) (show 0 ≤ (o0.2.1 57 v5.toNatClampNeg).toInt from (k_o0.2 57 _).1) h3; have a3 := (show Jr _ v7 v8 _ _ by assumption) a1.1 a2.1 (by omega); omega))
              have p137 : Q85 (q123.1 36).toInt (rowL (q123.2.1 57) (q123.2.1 59) (q123.2.1 58) v3.toNatClampNeg) (cutL (yo0.2.1 59) (yo0.2.1 58) v7.toNatClampNeg) (allL (yo0.2.1 57) (yo0.2.1 59) (yo0.2.1 58) v4.toNatClampNeg) (allL (yo0.2.1 57) (yo0.2.1 59) (yo0.2.1 58) v5.toNatClampNeg) (v7.toInt - 301 * v4.toInt).toNat (x127.toInt - 301 * v5.toInt).toNat (v6.toInt : Int).toNat v2.toInt.toNat := by have e8 := congrArg Int32.toInt (x_2 v8.toNatClampNeg (by rw [tn_n]; omega)); have b7 : 0 ≤ (o0.2.1 59 v7.toNatClampNeg).toInt ∧ (o0.2.1 59 v7.toNatClampNeg).toInt ≤ 5 := k_o0.2 59 _; have b8 : 0 ≤ (o0.2.1 59 v8.toNatClampNeg).toInt ∧ (o0.2.1 59 v8.toNatClampNeg).toInt ≤ 5 := k_o0.2 59 _; first | exact Q_c x_26 (all_at (v := v8) (by omega) (by omega) (by omega)) (by omega) (st_pre (by omega) (by omega) (by omega)) (by omega) (by omega) | exact Q_t x_26 (all_at (v := v8) (by omega) (by omega) (by omega)) (by omega) (st_ad (p := v3.toInt) (show Mp2 _ v7.toNatClampNeg v8.toNatClampNeg _ _ _ by assumption) (cut_e x_2 x_10 (show (yo0.2.1 59 v7.toNatClampNeg).toInt ≤ 5 by omega) (by rw [tn_n]; omega)) (cut_e x_2 x_10 (show (yo0.2.1 59 v8.toNatClampNeg).toInt ≤ 5 by omega) (by rw [tn_n]; omega)) (by omega) (show Ad _ v3.toInt v6.toInt _ _ _ _ _ _ _ by assumption) (by first | rfl | exact ((show Fr (fr_M [36] [57, 58, 59, 60] []) _ _ by assumption).2.1 61 rfl).symm) (by omega) (by rw [(show Fr (fr_M [] [61] []) _ _ by assumption).2.1 57 rfl, (show Fr (fr_M [] [61] []) _ _ by assumption).2.1 59 rfl, (show Fr (fr_M [] [61] []) _ _ by assumption).2.1 58 rfl]; rfl)) (by omega) | (rw [(show Fr (fr_M [] [61] []) _ _ by assumption).1 36 rfl, (show Fr (fr_M [] [61] []) _ _ by assumption).2.1 57 rfl, (show Fr (fr_M [] [61] []) _ _ by assumption).2.1 59 rfl, (show Fr (fr_M [] [61] []) _ _ by assumption).2.1 58 rfl]; exact Q_c x_26 (all_at (v := v8) (by omega) (by omega) (by omega)) (by omega) (st_join (show Mp2 _ v7.toNatClampNeg v8.toNatClampNeg _ _ _ by assumption) (cut_e x_2 x_10 (show (yo0.2.1 59 v7.toNatClampNeg).toInt ≤ 5 by omega) (by rw [tn_n]; omega)) (cut_e x_2 x_10 (show (yo0.2.1 59 v8.toNatClampNeg).toInt ≤ 5 by omega) (by rw [tn_n]; omega)) (by omega)) (by omega) (by omega))
              exact H.2.2 _ _ _ _ _ _ _ _ k_q123 r_q123 i_v2 i_v3 i_v4 i_v5 i_v6 i_v7 (iv_w (a := 0) (b := 62909) (by decide) (by decide) i128) f_q123_0 f_q123_38 f_q123_43 f_q123_95 zq123_0 zq123_1 p129 (show v3.toInt = (yo0.1 39).toInt + 1 + yv1.toInt by omega) (show v2.toInt = yv2.toInt by omega) (show 1 ≤ v2.toInt by omega) (show v6.toInt ≤ v2.toInt by omega) p130 p131 p132 p133 p134 (show v4.toInt = (yo0.2.1 44 yv1.toNatClampNeg).toInt / 2 by omega) (show v5.toInt = (yo0.2.1 45 yv1.toNatClampNeg).toInt / 2 by omega) (show 0 ≤ v4.toInt by omega) (show 0 ≤ v5.toInt by omega) (show v4.toInt < v3.toInt by omega) (show v5.toInt < v3.toInt by omega) (show yv1.toInt < (yo0.1 43).toInt by omega) (show 0 ≤ yv1.toInt by omega) (show 1 ≤ v4.toInt by omega) (show v4.toInt < v5.toInt by omega) p135 (show 301 * v5.toInt ≤ x127.toInt by omega) p136 zq123_6 p137 (show v7.toInt ≤ 301 * v4.toInt + 300 by omega) (show 0 + (6 - v6.toInt - 1) * 7953208624 + 1 + (63210 - v7.toInt - 1) * 125822 + 1 + (62909 - x127.toInt) * 2 < (n : Int) by omega)
            · have wc120 : ¬ q107.1.toInt = v6.toInt := c_ne c120
              try unfold fM_cut_194
              refine tt_kv (P := fun z => ((1 : Int) ≤ z.toInt ∧ z.toInt ≤ 62909) ∧ z.toInt = v8.toInt + 1) ⟨iv_add i18 (show (1 : Int) ≤ (1 : Int32).toInt ∧ (1 : Int32).toInt ≤ 1 by decide) (by decide) (by decide) (by decide) (by decide), iq_add i18 (show (1 : Int) ≤ (1 : Int32).toInt ∧ (1 : Int32).toInt ≤ 1 by decide) (by decide) (by decide)⟩ (fun x138 qi139 => ?_)
              obtain ⟨i139, ei139⟩ := qi139
              have p140 : Lb v6.toInt v7.toInt x138.toInt (301 * v4.toInt + (q107.2.2.1 57 v4.toNatClampNeg).toInt) (301 * v5.toInt + (q107.2.2.1 57 v5.toNatClampNeg).toInt) (q107.2.2.1 57 v3.toNatClampNeg).toInt (q107.2.1 36).toInt := by first | exact Lb_c (by assumption) | exact Lb_step x_24 (by omega) (by omega) (fun h1 h2 h3 => by have a1 := Ca_at x_11 v4 v7 (by omega) (by omega) (show 0 ≤ (o0.2.1 57 v4.toNatClampNeg).toInt from (k_o0.2 57 _).1) h2; have a2 := Ca_at x_11 v5 v8 (by omega) (by omega) (show 0 ≤ (o0.2.1 57 v5.toNatClampNeg).toInt from (k_o0.2 57 _).1) h3; omega) | (rw [(show Fr (fr_M [] [61] []) _ _ by assumption).2.1 57 rfl, (show Fr (fr_M [] [61] []) _ _ by assumption).1 36 rfl]; exact Lb_step x_24 (by omega) (by omega) (fun h1 h2 h3 => by have a1 := Ca_at x_11 v4 v7 (by omega) (by omega) (show 0 ≤ (o0.2.1 57 v4.toNatClampNeg).toInt from (k_o0.2 57 _).1) h2; have a2 := Ca_at x_11 v5 v8 (by omega) (by omega) (show 0 ≤ (o0.2.1 57 v5.toNatClampNeg).toInt from (k_o0.2 57 _).1) h3; have a3 := (show Jr _ v7 v8 _ _ by assumption) a1.1 a2.1 (by omega); omega))
              have p141 : Q85 (q107.2.1 36).toInt (rowL (q107.2.2.1 57) (q107.2.2.1 59) (q107.2.2.1 58) v3.toNatClampNeg) (cutL (yo0.2.1 59) (yo0.2.1 58) v7.toNatClampNeg) (allL (yo0.2.1 57) (yo0.2.1 59) (yo0.2.1 58) v4.toNatClampNeg) (allL (yo0.2.1 57) (yo0.2.1 59) (yo0.2.1 58) v5.toNatClampNeg) (v7.toInt - 301 * v4.toInt).toNat (x138.toInt - 301 * v5.toInt).toNat (v6.toInt : Int).toNat v2.toInt.toNat := by have e8 := congrArg Int32.toInt (x_2 v8.toNatClampNeg (by rw [tn_n]; omega)); have b7 : 0 ≤ (o0.2.1 59 v7.toNatClampNeg).toInt ∧ (o0.2.1 59 v7.toNatClampNeg).toInt ≤ 5 := k_o0.2 59 _; have b8 : 0 ≤ (o0.2.1 59 v8.toNatClampNeg).toInt ∧ (o0.2.1 59 v8.toNatClampNeg).toInt ≤ 5 := k_o0.2 59 _; first | exact Q_c x_26 (all_at (v := v8) (by omega) (by omega) (by omega)) (by omega) (st_pre (by omega) (by omega) (by omega)) (by omega) (by omega) | exact Q_t x_26 (all_at (v := v8) (by omega) (by omega) (by omega)) (by omega) (st_ad (p := v3.toInt) (show Mp2 _ v7.toNatClampNeg v8.toNatClampNeg _ _ _ by assumption) (cut_e x_2 x_10 (show (yo0.2.1 59 v7.toNatClampNeg).toInt ≤ 5 by omega) (by rw [tn_n]; omega)) (cut_e x_2 x_10 (show (yo0.2.1 59 v8.toNatClampNeg).toInt ≤ 5 by omega) (by rw [tn_n]; omega)) (by omega) (show Ad _ v3.toInt v6.toInt _ _ _ _ _ _ _ by assumption) (by first | rfl | exact ((show Fr (fr_M [36] [57, 58, 59, 60] []) _ _ by assumption).2.1 61 rfl).symm) (by omega) (by rw [(show Fr (fr_M [] [61] []) _ _ by assumption).2.1 57 rfl, (show Fr (fr_M [] [61] []) _ _ by assumption).2.1 59 rfl, (show Fr (fr_M [] [61] []) _ _ by assumption).2.1 58 rfl]; rfl)) (by omega) | (rw [(show Fr (fr_M [] [61] []) _ _ by assumption).1 36 rfl, (show Fr (fr_M [] [61] []) _ _ by assumption).2.1 57 rfl, (show Fr (fr_M [] [61] []) _ _ by assumption).2.1 59 rfl, (show Fr (fr_M [] [61] []) _ _ by assumption).2.1 58 rfl]; exact Q_c x_26 (all_at (v := v8) (by omega) (by omega) (by omega)) (by omega) (st_join (show Mp2 _ v7.toNatClampNeg v8.toNatClampNeg _ _ _ by assumption) (cut_e x_2 x_10 (show (yo0.2.1 59 v7.toNatClampNeg).toInt ≤ 5 by omega) (by rw [tn_n]; omega)) (cut_e x_2 x_10 (show (yo0.2.1 59 v8.toNatClampNeg).toInt ≤ 5 by omega) (by rw [tn_n]; omega)) (by omega)) (by omega) (by omega))
              exact H.2.2 _ _ _ _ _ _ _ _ k_q107_2 r_q107_2 i_v2 i_v3 i_v4 i_v5 i_v6 i_v7 (iv_w (a := 0) (b := 62909) (by decide) (by decide) i139) f_q107_2_0 f_q107_2_38 f_q107_2_43 f_q107_2_95 u108 u109 u110 (show v3.toInt = (yo0.1 39).toInt + 1 + yv1.toInt by omega) (show v2.toInt = yv2.toInt by omega) (show 1 ≤ v2.toInt by omega) (show v6.toInt ≤ v2.toInt by omega) u111 u112 u113 u114 u115 (show v4.toInt = (yo0.2.1 44 yv1.toNatClampNeg).toInt / 2 by omega) (show v5.toInt = (yo0.2.1 45 yv1.toNatClampNeg).toInt / 2 by omega) (show 0 ≤ v4.toInt by omega) (show 0 ≤ v5.toInt by omega) (show v4.toInt < v3.toInt by omega) (show v5.toInt < v3.toInt by omega) (show yv1.toInt < (yo0.1 43).toInt by omega) (show 0 ≤ yv1.toInt by omega) (show 1 ≤ v4.toInt by omega) (show v4.toInt < v5.toInt by omega) u116 (show 301 * v5.toInt ≤ x138.toInt by omega) p140 u118 p141 (show v7.toInt ≤ 301 * v4.toInt + 300 by omega) (show 0 + (6 - v6.toInt - 1) * 7953208624 + 1 + (63210 - v7.toInt - 1) * 125822 + 1 + (62909 - x138.toInt) * 2 < (n : Int) by omega)
    · have wc19 : ¬ (o0.1 36).toInt = (0 : Int) := c_ne c19
      have i142 : (1 : Int) ≤ (o0.1 36).toInt ∧ (o0.1 36).toInt ≤ 1 := nr_nela c19 (k_o0.1 36) (show (0 : Int) ≤ (0 : Int32).toInt ∧ (0 : Int32).toInt ≤ 0 by decide) (by decide) (by decide)
      try unfold fM_cut_200
      refine tt_kv (P := fun z => ((1 : Int) ≤ z.toInt ∧ z.toInt ≤ 63210) ∧ z.toInt = v7.toInt + 1) ⟨iv_add i_v7 (show (1 : Int) ≤ (1 : Int32).toInt ∧ (1 : Int32).toInt ≤ 1 by decide) (by decide) (by decide) (by decide) (by decide), iq_add i_v7 (show (1 : Int) ≤ (1 : Int32).toInt ∧ (1 : Int32).toInt ≤ 1 by decide) (by decide) (by decide)⟩ (fun x143 qi144 => ?_)
      obtain ⟨i144, ei144⟩ := qi144
      have p145 : Lb v6.toInt x143.toInt (-1) (301 * v4.toInt + (o0.2.1 57 v4.toNatClampNeg).toInt) 0 (o0.2.1 57 v3.toNatClampNeg).toInt (o0.1 36).toInt := by exact Lb_d x_24 (by omega) (by omega)
      have p146 : Q51 (o0.1 36).toInt (rowL (o0.2.1 57) (o0.2.1 59) (o0.2.1 58) v3.toNatClampNeg) (allL (yo0.2.1 57) (yo0.2.1 59) (yo0.2.1 58) v4.toNatClampNeg) (allL (yo0.2.1 57) (yo0.2.1 59) (yo0.2.1 58) v5.toNatClampNeg) (x143.toInt - 301 * v4.toInt).toNat (v6.toInt : Int).toNat v2.toInt.toNat := by exact Q_d x_26 (by rw [all_len]; omega) (by omega)
      exact H.2.1 _ _ _ _ _ _ _ k_o0 r_o0 i_v2 i_v3 i_v4 i_v5 i_v6 (iv_w (a := 0) (b := 63210) (by decide) (by decide) i144) f_o0_0 f_o0_38 f_o0_43 f_o0_95 x_0 x_1 x_2 (show v3.toInt = (yo0.1 39).toInt + 1 + yv1.toInt by omega) (show v2.toInt = yv2.toInt by omega) (show 1 ≤ v2.toInt by omega) (show v6.toInt ≤ v2.toInt by omega) x_7 x_8 x_9 x_10 x_11 (show v4.toInt = (yo0.2.1 44 yv1.toNatClampNeg).toInt / 2 by omega) (show v5.toInt = (yo0.2.1 45 yv1.toNatClampNeg).toInt / 2 by omega) (show 0 ≤ v4.toInt by omega) (show 0 ≤ v5.toInt by omega) (show v4.toInt < v3.toInt by omega) (show v5.toInt < v3.toInt by omega) (show yv1.toInt < (yo0.1 43).toInt by omega) (show 0 ≤ yv1.toInt by omega) (show 1 ≤ v4.toInt by omega) (show v4.toInt < v5.toInt by omega) (show 301 * v4.toInt ≤ x143.toInt by omega) p145 x_25 p146 (show 0 + (6 - v6.toInt - 1) * 7953208624 + 1 + (63210 - x143.toInt) * 125822 < (n : Int) by omega)
set_option maxHeartbeats 4000000 in
set_option maxRecDepth 100000 in
theorem tM_cut_51 {yv1 : Int32} {yv2 : Int32} {yo0 : cf_O} {n : Nat} (H : HM_cut yv1 yv2 yo0 n) (v2 : Int32) (v3 : Int32) (v4 : Int32) (v5 : Int32) (v6 : Int32) (v7 : Int32) (o0 : cf_O) (k_o0 : okO I_M o0) (r_o0 : Fr (fr_M [36] [57, 58, 59, 60, 61] []) yo0 o0) (i_v2 : (0 : Int) ≤ v2.toInt ∧ v2.toInt ≤ 5) (i_v3 : (1 : Int) ≤ v3.toInt ∧ v3.toInt ≤ 208) (i_v4 : (0 : Int) ≤ v4.toInt ∧ v4.toInt ≤ 208) (i_v5 : (0 : Int) ≤ v5.toInt ∧ v5.toInt ≤ 208) (i_v6 : (0 : Int) ≤ v6.toInt ∧ v6.toInt ≤ 5) (i_v7 : (0 : Int) ≤ v7.toInt ∧ v7.toInt ≤ 63210) (f_o0_0 : (0 : Int) ≤ (o0.1 0).toInt ∧ (o0.1 0).toInt ≤ 2) (f_o0_38 : (1 : Int) ≤ (o0.1 38).toInt ∧ (o0.1 38).toInt ≤ 1) (f_o0_43 : (1 : Int) ≤ (o0.1 43).toInt ∧ (o0.1 43).toInt ≤ 200) (f_o0_95 : (0 : Int) ≤ (o0.1 95).toInt ∧ (o0.1 95).toInt ≤ 0) (x_0 : Cn (o0.2.1 59) (o0.2.1 58)) (x_1 : Sk v3.toInt v6.toInt (o0.2.1 57) (o0.2.1 59)) (x_2 : Lc v3.toInt (yo0.2.1 59) (o0.2.1 59)) (x_3 : v3.toInt = (yo0.1 39).toInt + 1 + yv1.toInt) (x_4 : v2.toInt = yv2.toInt) (x_5 : 1 ≤ v2.toInt) (x_6 : v6.toInt ≤ v2.toInt) (x_7 : Cz v3.toInt ((yo0.1 39).toInt + 1) (yo0.1 43).toInt (yo0.2.1 44) (yo0.2.1 45) (o0.2.1 57) (o0.2.1 59) (o0.2.1 58)) (x_8 : Cx v3.toInt v4.toInt v5.toInt ((yo0.1 39).toInt + 1) (yo0.1 43).toInt (yo0.2.1 44) (yo0.2.1 45) (o0.2.1 57) (o0.2.1 59) (o0.2.1 58)) (x_9 : Ce v3.toInt (yo0.2.1 57) (o0.2.1 57)) (x_10 : Ce (1505 * v3.toInt) (yo0.2.1 58) (o0.2.1 58)) (x_11 : Ca v3.toInt (o0.2.1 57) (o0.2.1 59) (o0.2.1 58)) (x_12 : v4.toInt = (yo0.2.1 44 yv1.toNatClampNeg).toInt / 2) (x_13 : v5.toInt = (yo0.2.1 45 yv1.toNatClampNeg).toInt / 2) (x_14 : 0 ≤ v4.toInt) (x_15 : 0 ≤ v5.toInt) (x_16 : v4.toInt < v3.toInt) (x_17 : v5.toInt < v3.toInt) (x_18 : yv1.toInt < (yo0.1 43).toInt) (x_19 : 0 ≤ yv1.toInt) (x_20 : 1 ≤ v4.toInt) (x_21 : v4.toInt < v5.toInt) (x_22 : 301 * v4.toInt ≤ v7.toInt) (x_23 : Lb v6.toInt v7.toInt (-1) (301 * v4.toInt + (o0.2.1 57 v4.toNatClampNeg).toInt) 0 (o0.2.1 57 v3.toNatClampNeg).toInt (o0.1 36).toInt) (x_24 : Mr v3.toInt (o0.2.1 57) (o0.2.1 59) (o0.2.1 58) (o0.2.1 60)) (x_25 : Q51 (o0.1 36).toInt (rowL (o0.2.1 57) (o0.2.1 59) (o0.2.1 58) v3.toNatClampNeg) (allL (yo0.2.1 57) (yo0.2.1 59) (yo0.2.1 58) v4.toNatClampNeg) (allL (yo0.2.1 57) (yo0.2.1 59) (yo0.2.1 58) v5.toNatClampNeg) (v7.toInt - 301 * v4.toInt).toNat (v6.toInt : Int).toNat v2.toInt.toNat) (hm : 0 + (6 - v6.toInt - 1) * 7953208624 + 1 + (63210 - v7.toInt) * 125822 ≤ (n : Int)) : tt (fM_cut_51 (gM_cut n) v2 v3 v4 v5 v6 v7 o0) (QM_cut yv1 yv2 yo0) := by
  unfold fM_cut_51
  have g_o0_36 : (0 : Int) ≤ (o0.1 36).toInt ∧ (o0.1 36).toInt ≤ 1 := k_o0.1 36
  have g_o0_39 : (0 : Int) ≤ (o0.1 39).toInt ∧ (o0.1 39).toInt ≤ 8 := k_o0.1 39
  have ey_o0_39 : (o0.1 39).toInt = (yo0.1 39).toInt := congrArg Int32.toInt (r_o0.1 39 rfl)
  have ey_o0_43 : (o0.1 43).toInt = (yo0.1 43).toInt := congrArg Int32.toInt (r_o0.1 43 rfl)
  have t1 := congrArg Int32.toInt (x_9 v4.toNatClampNeg (by rw [tn_n]; omega))
  have t2 := congrArg Int32.toInt (x_9 v5.toNatClampNeg (by rw [tn_n]; omega))
  have t3 := (show 0 ≤ (o0.2.1 57 v4.toNatClampNeg).toInt ∧ (o0.2.1 57 v4.toNatClampNeg).toInt ≤ 300 from k_o0.2 57 _)
  have t4 := (show 0 ≤ (o0.2.1 57 v5.toNatClampNeg).toInt ∧ (o0.2.1 57 v5.toNatClampNeg).toInt ≤ 300 from k_o0.2 57 _)
  refine tt_kv (P := fun z => ((0 : Int) ≤ z.toInt ∧ z.toInt ≤ 62608) ∧ z.toInt = 301 * v4.toInt) ⟨iv_mul (show (301 : Int) ≤ (301 : Int32).toInt ∧ (301 : Int32).toInt ≤ 301 by decide) i_v4 (by decide) (by decide) (by decide) (by decide) (by decide), iq_mul (show (301 : Int) ≤ (301 : Int32).toInt ∧ (301 : Int32).toInt ≤ 301 by decide) i_v4 (by decide) (by decide) (by decide) (by decide)⟩ (fun x5 qi6 => ?_)
  obtain ⟨i6, ei6⟩ := qi6
  refine tt_n (ix_ok i_v4 (by decide) (by decide)) ?_
  refine tt_kv (P := fun z => ((0 : Int) ≤ z.toInt ∧ z.toInt ≤ 300) ∧ z.toInt = (o0.2.1 57 v4.toNatClampNeg).toInt) ⟨(k_o0.2 57 _), rfl⟩ (fun x7 qi8 => ?_)
  obtain ⟨i8, ei8⟩ := qi8
  refine tt_kv (P := fun z => ((0 : Int) ≤ z.toInt ∧ z.toInt ≤ 62908) ∧ z.toInt = x5.toInt + x7.toInt) ⟨iv_add i6 i8 (by decide) (by decide) (by decide) (by decide), iq_add i6 i8 (by decide) (by decide)⟩ (fun x9 qi10 => ?_)
  obtain ⟨i10, ei10⟩ := qi10
  refine tt_if (fun c11 => ?_) (fun c11 => ?_)
  · have wc11 : x9.toInt < v7.toInt := c_lt c11
    have i12 : (1 : Int) ≤ v7.toInt ∧ v7.toInt ≤ 63210 := nr_ltr c11 i10 i_v7 (by decide) (by decide)
    try unfold fM_cut_206
    refine tt_kv (P := fun z => ((1 : Int) ≤ z.toInt ∧ z.toInt ≤ 6) ∧ z.toInt = v6.toInt + 1) ⟨iv_add i_v6 (show (1 : Int) ≤ (1 : Int32).toInt ∧ (1 : Int32).toInt ≤ 1 by decide) (by decide) (by decide) (by decide) (by decide), iq_add i_v6 (show (1 : Int) ≤ (1 : Int32).toInt ∧ (1 : Int32).toInt ≤ 1 by decide) (by decide) (by decide)⟩ (fun x13 qi14 => ?_)
    obtain ⟨i14, ei14⟩ := qi14
    have p15 : Sk v3.toInt (x13.toInt - 1) (o0.2.1 57) (o0.2.1 59) := by first | assumption | exact Sk_m (by assumption) (by omega)
    have p16 : Lb x13.toInt (-1) 0 0 0 (o0.2.1 57 v3.toNatClampNeg).toInt (o0.1 36).toInt := by exact Lb_e x_23 (by omega) (by omega)
    have p17 : Q37 (o0.1 36).toInt (rowL (o0.2.1 57) (o0.2.1 59) (o0.2.1 58) v3.toNatClampNeg) (allL (yo0.2.1 57) (yo0.2.1 59) (yo0.2.1 58) v4.toNatClampNeg) (allL (yo0.2.1 57) (yo0.2.1 59) (yo0.2.1 58) v5.toNatClampNeg) (x13.toInt : Int).toNat v2.toInt.toNat := by exact Q_e x_25 (by rw [all_len]; omega) (by omega)
    exact H.1 _ _ _ _ _ _ k_o0 r_o0 i_v2 i_v3 i_v4 i_v5 (iv_w (a := 0) (b := 6) (by decide) (by decide) i14) f_o0_0 f_o0_38 f_o0_43 f_o0_95 x_0 p15 x_2 (show v3.toInt = (yo0.1 39).toInt + 1 + yv1.toInt by omega) (show v2.toInt = yv2.toInt by omega) (show 1 ≤ v2.toInt by omega) (show x13.toInt ≤ v2.toInt + 1 by omega) x_7 x_8 x_9 x_10 x_11 (show v4.toInt = (yo0.2.1 44 yv1.toNatClampNeg).toInt / 2 by omega) (show v5.toInt = (yo0.2.1 45 yv1.toNatClampNeg).toInt / 2 by omega) (show 0 ≤ v4.toInt by omega) (show 0 ≤ v5.toInt by omega) (show v4.toInt < v3.toInt by omega) (show v5.toInt < v3.toInt by omega) (show yv1.toInt < (yo0.1 43).toInt by omega) (show 0 ≤ yv1.toInt by omega) (show 1 ≤ v4.toInt by omega) (show v4.toInt < v5.toInt by omega) p16 x_24 p17 (show 0 + (6 - x13.toInt) * 7953208624 < (n : Int) by omega)
  · have wc11 : v7.toInt ≤ x9.toInt := c_nlt c11
    have i18 : (0 : Int) ≤ v7.toInt ∧ v7.toInt ≤ 62908 := nr_nltl c11 i_v7 i10 (by decide) (by decide)
    refine tt_if (fun c19 => ?_) (fun c19 => ?_)
    · have wc19 : (o0.1 36).toInt = (0 : Int) := c_eq c19
      have i20 : (0 : Int) ≤ (o0.1 36).toInt ∧ (o0.1 36).toInt ≤ 0 := nr_eql c19 (k_o0.1 36) (show (0 : Int) ≤ (0 : Int32).toInt ∧ (0 : Int32).toInt ≤ 0 by decide) (by decide) (by decide)
      refine tt_kv (P := fun z => ((0 : Int) ≤ z.toInt ∧ z.toInt ≤ 62608) ∧ z.toInt = 301 * v5.toInt) ⟨iv_mul (show (301 : Int) ≤ (301 : Int32).toInt ∧ (301 : Int32).toInt ≤ 301 by decide) i_v5 (by decide) (by decide) (by decide) (by decide) (by decide), iq_mul (show (301 : Int) ≤ (301 : Int32).toInt ∧ (301 : Int32).toInt ≤ 301 by decide) i_v5 (by decide) (by decide) (by decide) (by decide)⟩ (fun x21 qi22 => ?_)
      obtain ⟨i22, ei22⟩ := qi22
      have p23 : Ir v7.toInt v4.toInt (o0.2.1 57) := by exact ⟨by omega, by rw [show v4.toInt.toNat = v4.toNatClampNeg from rfl]; omega⟩
      have p24 : Lb v6.toInt v7.toInt x21.toInt (301 * v4.toInt + (o0.2.1 57 v4.toNatClampNeg).toInt) (301 * v5.toInt + (o0.2.1 57 v5.toNatClampNeg).toInt) (o0.2.1 57 v3.toNatClampNeg).toInt (o0.1 36).toInt := by have b5 := (show 0 ≤ (o0.2.1 57 v5.toNatClampNeg).toInt from (k_o0.2 57 _).1); exact Lb_b x_23 (by omega)
      have p25 : Q85 (o0.1 36).toInt (rowL (o0.2.1 57) (o0.2.1 59) (o0.2.1 58) v3.toNatClampNeg) (cutL (yo0.2.1 59) (yo0.2.1 58) v7.toNatClampNeg) (allL (yo0.2.1 57) (yo0.2.1 59) (yo0.2.1 58) v4.toNatClampNeg) (allL (yo0.2.1 57) (yo0.2.1 59) (yo0.2.1 58) v5.toNatClampNeg) (v7.toInt - 301 * v4.toInt).toNat (x21.toInt - 301 * v5.toInt).toNat (v6.toInt : Int).toNat v2.toInt.toNat := by exact Q_b' x_25 (all_at (by omega) (by omega) (by omega)) (by omega)
      exact H.2.2 _ _ _ _ _ _ _ _ k_o0 r_o0 i_v2 i_v3 i_v4 i_v5 i_v6 (iv_w (a := 0) (b := 63209) (by decide) (by decide) i18) (iv_w (a := 0) (b := 62909) (by decide) (by decide) i22) f_o0_0 f_o0_38 f_o0_43 f_o0_95 x_0 x_1 x_2 (show v3.toInt = (yo0.1 39).toInt + 1 + yv1.toInt by omega) (show v2.toInt = yv2.toInt by omega) (show 1 ≤ v2.toInt by omega) (show v6.toInt ≤ v2.toInt by omega) x_7 x_8 x_9 x_10 x_11 (show v4.toInt = (yo0.2.1 44 yv1.toNatClampNeg).toInt / 2 by omega) (show v5.toInt = (yo0.2.1 45 yv1.toNatClampNeg).toInt / 2 by omega) (show 0 ≤ v4.toInt by omega) (show 0 ≤ v5.toInt by omega) (show v4.toInt < v3.toInt by omega) (show v5.toInt < v3.toInt by omega) (show yv1.toInt < (yo0.1 43).toInt by omega) (show 0 ≤ yv1.toInt by omega) (show 1 ≤ v4.toInt by omega) (show v4.toInt < v5.toInt by omega) p23 (show 301 * v5.toInt ≤ x21.toInt by omega) p24 x_24 p25 (show v7.toInt ≤ 301 * v4.toInt + 300 by omega) (show 0 + (6 - v6.toInt - 1) * 7953208624 + 1 + (63210 - v7.toInt - 1) * 125822 + 1 + (62909 - x21.toInt) * 2 < (n : Int) by omega)
    · have wc19 : ¬ (o0.1 36).toInt = (0 : Int) := c_ne c19
      have i26 : (1 : Int) ≤ (o0.1 36).toInt ∧ (o0.1 36).toInt ≤ 1 := nr_nela c19 (k_o0.1 36) (show (0 : Int) ≤ (0 : Int32).toInt ∧ (0 : Int32).toInt ≤ 0 by decide) (by decide) (by decide)
      try unfold fM_cut_206
      refine tt_kv (P := fun z => ((1 : Int) ≤ z.toInt ∧ z.toInt ≤ 6) ∧ z.toInt = v6.toInt + 1) ⟨iv_add i_v6 (show (1 : Int) ≤ (1 : Int32).toInt ∧ (1 : Int32).toInt ≤ 1 by decide) (by decide) (by decide) (by decide) (by decide), iq_add i_v6 (show (1 : Int) ≤ (1 : Int32).toInt ∧ (1 : Int32).toInt ≤ 1 by decide) (by decide) (by decide)⟩ (fun x27 qi28 => ?_)
      obtain ⟨i28, ei28⟩ := qi28
      have p29 : Sk v3.toInt (x27.toInt - 1) (o0.2.1 57) (o0.2.1 59) := by first | assumption | exact Sk_m (by assumption) (by omega)
      have p30 : Lb x27.toInt (-1) 0 0 0 (o0.2.1 57 v3.toNatClampNeg).toInt (o0.1 36).toInt := by exact Lb_e x_23 (by omega) (by omega)
      have p31 : Q37 (o0.1 36).toInt (rowL (o0.2.1 57) (o0.2.1 59) (o0.2.1 58) v3.toNatClampNeg) (allL (yo0.2.1 57) (yo0.2.1 59) (yo0.2.1 58) v4.toNatClampNeg) (allL (yo0.2.1 57) (yo0.2.1 59) (yo0.2.1 58) v5.toNatClampNeg) (x27.toInt : Int).toNat v2.toInt.toNat := by exact Q_e x_25 (by rw [all_len]; omega) (by omega)
      exact H.1 _ _ _ _ _ _ k_o0 r_o0 i_v2 i_v3 i_v4 i_v5 (iv_w (a := 0) (b := 6) (by decide) (by decide) i28) f_o0_0 f_o0_38 f_o0_43 f_o0_95 x_0 p29 x_2 (show v3.toInt = (yo0.1 39).toInt + 1 + yv1.toInt by omega) (show v2.toInt = yv2.toInt by omega) (show 1 ≤ v2.toInt by omega) (show x27.toInt ≤ v2.toInt + 1 by omega) x_7 x_8 x_9 x_10 x_11 (show v4.toInt = (yo0.2.1 44 yv1.toNatClampNeg).toInt / 2 by omega) (show v5.toInt = (yo0.2.1 45 yv1.toNatClampNeg).toInt / 2 by omega) (show 0 ≤ v4.toInt by omega) (show 0 ≤ v5.toInt by omega) (show v4.toInt < v3.toInt by omega) (show v5.toInt < v3.toInt by omega) (show yv1.toInt < (yo0.1 43).toInt by omega) (show 0 ≤ yv1.toInt by omega) (show 1 ≤ v4.toInt by omega) (show v4.toInt < v5.toInt by omega) p30 x_24 p31 (show 0 + (6 - x27.toInt) * 7953208624 < (n : Int) by omega)
set_option maxHeartbeats 4000000 in
set_option maxRecDepth 100000 in
theorem tM_cut_37 {yv1 : Int32} {yv2 : Int32} {yo0 : cf_O} {n : Nat} (H : HM_cut yv1 yv2 yo0 n) (v2 : Int32) (v3 : Int32) (v4 : Int32) (v5 : Int32) (v6 : Int32) (o0 : cf_O) (k_o0 : okO I_M o0) (r_o0 : Fr (fr_M [36] [57, 58, 59, 60, 61] []) yo0 o0) (i_v2 : (0 : Int) ≤ v2.toInt ∧ v2.toInt ≤ 5) (i_v3 : (1 : Int) ≤ v3.toInt ∧ v3.toInt ≤ 208) (i_v4 : (0 : Int) ≤ v4.toInt ∧ v4.toInt ≤ 208) (i_v5 : (0 : Int) ≤ v5.toInt ∧ v5.toInt ≤ 208) (i_v6 : (0 : Int) ≤ v6.toInt ∧ v6.toInt ≤ 6) (f_o0_0 : (0 : Int) ≤ (o0.1 0).toInt ∧ (o0.1 0).toInt ≤ 2) (f_o0_38 : (1 : Int) ≤ (o0.1 38).toInt ∧ (o0.1 38).toInt ≤ 1) (f_o0_43 : (1 : Int) ≤ (o0.1 43).toInt ∧ (o0.1 43).toInt ≤ 200) (f_o0_95 : (0 : Int) ≤ (o0.1 95).toInt ∧ (o0.1 95).toInt ≤ 0) (x_0 : Cn (o0.2.1 59) (o0.2.1 58)) (x_1 : Sk v3.toInt (v6.toInt - 1) (o0.2.1 57) (o0.2.1 59)) (x_2 : Lc v3.toInt (yo0.2.1 59) (o0.2.1 59)) (x_3 : v3.toInt = (yo0.1 39).toInt + 1 + yv1.toInt) (x_4 : v2.toInt = yv2.toInt) (x_5 : 1 ≤ v2.toInt) (x_6 : v6.toInt ≤ v2.toInt + 1) (x_7 : Cz v3.toInt ((yo0.1 39).toInt + 1) (yo0.1 43).toInt (yo0.2.1 44) (yo0.2.1 45) (o0.2.1 57) (o0.2.1 59) (o0.2.1 58)) (x_8 : Cx v3.toInt v4.toInt v5.toInt ((yo0.1 39).toInt + 1) (yo0.1 43).toInt (yo0.2.1 44) (yo0.2.1 45) (o0.2.1 57) (o0.2.1 59) (o0.2.1 58)) (x_9 : Ce v3.toInt (yo0.2.1 57) (o0.2.1 57)) (x_10 : Ce (1505 * v3.toInt) (yo0.2.1 58) (o0.2.1 58)) (x_11 : Ca v3.toInt (o0.2.1 57) (o0.2.1 59) (o0.2.1 58)) (x_12 : v4.toInt = (yo0.2.1 44 yv1.toNatClampNeg).toInt / 2) (x_13 : v5.toInt = (yo0.2.1 45 yv1.toNatClampNeg).toInt / 2) (x_14 : 0 ≤ v4.toInt) (x_15 : 0 ≤ v5.toInt) (x_16 : v4.toInt < v3.toInt) (x_17 : v5.toInt < v3.toInt) (x_18 : yv1.toInt < (yo0.1 43).toInt) (x_19 : 0 ≤ yv1.toInt) (x_20 : 1 ≤ v4.toInt) (x_21 : v4.toInt < v5.toInt) (x_22 : Lb v6.toInt (-1) 0 0 0 (o0.2.1 57 v3.toNatClampNeg).toInt (o0.1 36).toInt) (x_23 : Mr v3.toInt (o0.2.1 57) (o0.2.1 59) (o0.2.1 58) (o0.2.1 60)) (x_24 : Q37 (o0.1 36).toInt (rowL (o0.2.1 57) (o0.2.1 59) (o0.2.1 58) v3.toNatClampNeg) (allL (yo0.2.1 57) (yo0.2.1 59) (yo0.2.1 58) v4.toNatClampNeg) (allL (yo0.2.1 57) (yo0.2.1 59) (yo0.2.1 58) v5.toNatClampNeg) (v6.toInt : Int).toNat v2.toInt.toNat) (hm : 0 + (6 - v6.toInt) * 7953208624 ≤ (n : Int)) : tt (fM_cut_37 (gM_cut n) v2 v3 v4 v5 v6 o0) (QM_cut yv1 yv2 yo0) := by
  unfold fM_cut_37
  have g_o0_36 : (0 : Int) ≤ (o0.1 36).toInt ∧ (o0.1 36).toInt ≤ 1 := k_o0.1 36
  have g_o0_39 : (0 : Int) ≤ (o0.1 39).toInt ∧ (o0.1 39).toInt ≤ 8 := k_o0.1 39
  have ey_o0_39 : (o0.1 39).toInt = (yo0.1 39).toInt := congrArg Int32.toInt (r_o0.1 39 rfl)
  have ey_o0_43 : (o0.1 43).toInt = (yo0.1 43).toInt := congrArg Int32.toInt (r_o0.1 43 rfl)
  refine tt_if (fun c1 => ?_) (fun c1 => ?_)
  · have wc1 : v2.toInt < v6.toInt := c_lt c1
    have i2 : (1 : Int) ≤ v6.toInt ∧ v6.toInt ≤ 6 := nr_ltr c1 i_v2 i_v6 (by decide) (by decide)
    refine tt_b (sM_alone _ _ k_o0 (iv_w (a := 0) (b := 208) (by decide) (by decide) i_v3) f_o0_0 f_o0_38 f_o0_95 x_0) (fun q3 hq3 => ?_)
    obtain ⟨k_q3, n_q3, zq3_0, zq3_1, zq3_2, zq3_3, zq3_4, -⟩ := hq3
    have r_q3 := fr_tr r_o0 n_q3 rfl rfl rfl
    have f_q3_0 : (0 : Int) ≤ (q3.1 0).toInt ∧ (q3.1 0).toInt ≤ 2 := by rw [n_q3.1 0 rfl]; exact f_o0_0
    have f_q3_43 : (1 : Int) ≤ (q3.1 43).toInt ∧ (q3.1 43).toInt ≤ 200 := by rw [n_q3.1 43 rfl]; exact f_o0_43
    have f_q3_38 : (1 : Int) ≤ (q3.1 38).toInt ∧ (q3.1 38).toInt ≤ 1 := by rw [n_q3.1 38 rfl]; exact f_o0_38
    have f_q3_95 : (0 : Int) ≤ (q3.1 95).toInt ∧ (q3.1 95).toInt ≤ 0 := by rw [n_q3.1 95 rfl]; exact f_o0_95
    have e_q3_36 : (q3.1 36).toInt = (o0.1 36).toInt := congrArg Int32.toInt (n_q3.1 36 rfl)
    have g_q3_36 : (0 : Int) ≤ (q3.1 36).toInt ∧ (q3.1 36).toInt ≤ 1 := k_q3.1 36
    have e_q3_39 : (q3.1 39).toInt = (o0.1 39).toInt := congrArg Int32.toInt (n_q3.1 39 rfl)
    have g_q3_39 : (0 : Int) ≤ (q3.1 39).toInt ∧ (q3.1 39).toInt ≤ 8 := k_q3.1 39
    have e_q3_43 : (q3.1 43).toInt = (o0.1 43).toInt := congrArg Int32.toInt (n_q3.1 43 rfl)
    have u4 : Ce v3.toInt (yo0.2.1 57) (q3.2.1 57) := by rw [n_q3.2.1 57 rfl]; exact x_9
    have u5 : Lb v6.toInt (-1) 0 0 0 (q3.2.1 57 v3.toNatClampNeg).toInt (q3.1 36).toInt := by rw [n_q3.1 36 rfl, n_q3.2.1 57 rfl]; exact x_22
    have p6 : Sz ((q3.1 39).toInt + 1 + yv1.toInt) yv2.toInt (q3.2.1 57) (q3.2.1 59) := by rw [(show Fr (fr_M [] [58, 59, 60, 61] []) _ _ by assumption).2.1 57 rfl]; exact Sz_a (by assumption) (by assumption) (by omega) (by omega) (by omega)
    have p7 : Lc ((q3.1 39).toInt + 1 + yv1.toInt) (yo0.2.1 59) (q3.2.1 59) := by exact Lc_a (cc := o0.2.1 57) (by assumption) (by assumption) ((k_o0.2 57 _).1) (by omega)
    have p8 : Cz ((yo0.1 39).toInt + 1 + yv1.toInt + 1) ((yo0.1 39).toInt + 1) (yo0.1 43).toInt (yo0.2.1 44) (yo0.2.1 45) (q3.2.1 57) (q3.2.1 59) (q3.2.1 58) := by first | assumption | (rw [(show Fr (fr_M [] [58, 59, 60, 61] []) _ _ by assumption).2.1 57 rfl];  exact Cz_gk (g := yv1.toNatClampNeg) (N := v3.toInt) (by assumption) (by assumption) (k_o0) (by rw [tn_n]; omega) (by rw [tn_n]; omega) (by omega) (by omega) (show Al v3.toInt _ _ _ by assumption) (show An v3.toInt _ _ _ _ by assumption) rfl (by omega) (by omega))
    have p9 : Cx ((yo0.1 39).toInt + 1 + yv1.toInt) ((yo0.2.1 44 yv1.toNatClampNeg).toInt / 2) ((yo0.2.1 45 yv1.toNatClampNeg).toInt / 2) ((yo0.1 39).toInt + 1) (yo0.1 43).toInt (yo0.2.1 44) (yo0.2.1 45) (q3.2.1 57) (q3.2.1 59) (q3.2.1 58) := by first | assumption | (rw [(show Fr (fr_M [] [58, 59, 60, 61] []) _ _ by assumption).2.1 57 rfl]; rw [← (show v3.toInt = (yo0.1 39).toInt + 1 + yv1.toInt by omega), ← x_12, ← x_13]; exact Cx_ak (by assumption) k_o0 (show Al v3.toInt _ _ _ by assumption) (show An v3.toInt _ _ _ _ by assumption))
    have p10 : Ce ((yo0.1 39).toInt + 1 + yv1.toInt) (yo0.2.1 57) (q3.2.1 57) := by first | assumption | (rw [← (show v3.toInt = (yo0.1 39).toInt + 1 + yv1.toInt by omega)]; assumption)
    have p11 : Ce (1505 * ((yo0.1 39).toInt + 1 + yv1.toInt)) (yo0.2.1 58) (q3.2.1 58) := by first | assumption | (rw [← (show v3.toInt = (yo0.1 39).toInt + 1 + yv1.toInt by omega)]; exact Ce_tr (by assumption) (An_58 (show An v3.toInt _ _ _ _ by assumption) (Int.le_refl _) (k_o0.2 57 _).1))
    have p12 : Ca ((yo0.1 39).toInt + 1 + yv1.toInt + 1) (q3.2.1 57) (q3.2.1 59) (q3.2.1 58) := by first | assumption | (rw [(show Fr (fr_M [] [58, 59, 60, 61] []) _ _ by assumption).2.1 57 rfl]; exact Ca_ak (N := v3.toInt) (v := v3) (by assumption) k_o0 (show Al v3.toInt _ _ _ by assumption) (show An v3.toInt _ _ _ _ by assumption) rfl (by assumption) (by omega) (by omega))
    have p13 : Lp yv2.toInt (((q3.2.1 57) ((yo0.1 39).toInt + 1 + yv1.toInt).toNat).toInt) (q3.1 36).toInt := by rw [(show Fr (fr_M [] [58, 59, 60, 61] []) _ _ by assumption).2.1 57 rfl]; rw [(show Fr (fr_M [] [58, 59, 60, 61] []) _ _ by assumption).1 36 rfl]; exact Lb_p x_22 (by omega) (by rw [← (show v3.toInt = (yo0.1 39).toInt + 1 + yv1.toInt by omega)]; rfl)
    have p14 : Gp2 (q3.1 36).toInt (rowL (q3.2.1 57) (q3.2.1 59) (q3.2.1 58) ((yo0.1 39).toInt + 1 + yv1.toInt).toNat) (allL (yo0.2.1 57) (yo0.2.1 59) (yo0.2.1 58) ((yo0.2.1 44 yv1.toNatClampNeg).toInt / 2).toNat) (allL (yo0.2.1 57) (yo0.2.1 59) (yo0.2.1 58) ((yo0.2.1 45 yv1.toNatClampNeg).toInt / 2).toNat) yv2.toInt.toNat := by rw [(show Fr (fr_M [] [58, 59, 60, 61] []) _ _ by assumption).1 36 rfl, ← (show v3.toInt = (yo0.1 39).toInt + 1 + yv1.toInt by omega), ← x_12, ← x_13]; exact Q_f (acc := rowL _ _ _ _) (by rw [show rowL _ _ _ v3.toInt.toNat = rowL (o0.2.1 57) (o0.2.1 59) (o0.2.1 58) v3.toNatClampNeg from row_a (show Al v3.toInt _ _ _ by assumption) (show An v3.toInt _ _ _ _ by assumption) k_o0 ((show Fr (fr_M [] [58, 59, 60, 61] []) _ _ by assumption).2.1 57 rfl) (by omega), ← x_4]; exact x_24) (by omega)
    exact tt_some ⟨k_q3, r_q3, zq3_0, p6, p7, p8, p9, p10, p11, p12, p13, p14, trivial⟩
  · have wc1 : v6.toInt ≤ v2.toInt := c_nlt c1
    have i15 : (0 : Int) ≤ v6.toInt ∧ v6.toInt ≤ 5 := nr_nltl c1 i_v6 i_v2 (by decide) (by decide)
    refine tt_kv (P := fun z => ((0 : Int) ≤ z.toInt ∧ z.toInt ≤ 62608) ∧ z.toInt = 301 * v4.toInt) ⟨iv_mul (show (301 : Int) ≤ (301 : Int32).toInt ∧ (301 : Int32).toInt ≤ 301 by decide) i_v4 (by decide) (by decide) (by decide) (by decide) (by decide), iq_mul (show (301 : Int) ≤ (301 : Int32).toInt ∧ (301 : Int32).toInt ≤ 301 by decide) i_v4 (by decide) (by decide) (by decide) (by decide)⟩ (fun x16 qi17 => ?_)
    obtain ⟨i17, ei17⟩ := qi17
    have p18 : Sk v3.toInt v6.toInt (o0.2.1 57) (o0.2.1 59) := by first | assumption | exact Sk_m (by assumption) (by omega)
    have p19 : Lb v6.toInt x16.toInt (-1) (301 * v4.toInt + (o0.2.1 57 v4.toNatClampNeg).toInt) 0 (o0.2.1 57 v3.toNatClampNeg).toInt (o0.1 36).toInt := by have b4 := (show 0 ≤ (o0.2.1 57 v4.toNatClampNeg).toInt from (k_o0.2 57 _).1); exact Lb_a x_22 (by omega)
    have p20 : Q51 (o0.1 36).toInt (rowL (o0.2.1 57) (o0.2.1 59) (o0.2.1 58) v3.toNatClampNeg) (allL (yo0.2.1 57) (yo0.2.1 59) (yo0.2.1 58) v4.toNatClampNeg) (allL (yo0.2.1 57) (yo0.2.1 59) (yo0.2.1 58) v5.toNatClampNeg) (x16.toInt - 301 * v4.toInt).toNat (v6.toInt : Int).toNat v2.toInt.toNat := by exact Q_a' x_24 (by omega) (by omega) (by omega)
    exact H.2.1 _ _ _ _ _ _ _ k_o0 r_o0 i_v2 i_v3 i_v4 i_v5 i15 (iv_w (a := 0) (b := 63210) (by decide) (by decide) i17) f_o0_0 f_o0_38 f_o0_43 f_o0_95 x_0 p18 x_2 (show v3.toInt = (yo0.1 39).toInt + 1 + yv1.toInt by omega) (show v2.toInt = yv2.toInt by omega) (show 1 ≤ v2.toInt by omega) (show v6.toInt ≤ v2.toInt by omega) x_7 x_8 x_9 x_10 x_11 (show v4.toInt = (yo0.2.1 44 yv1.toNatClampNeg).toInt / 2 by omega) (show v5.toInt = (yo0.2.1 45 yv1.toNatClampNeg).toInt / 2 by omega) (show 0 ≤ v4.toInt by omega) (show 0 ≤ v5.toInt by omega) (show v4.toInt < v3.toInt by omega) (show v5.toInt < v3.toInt by omega) (show yv1.toInt < (yo0.1 43).toInt by omega) (show 0 ≤ yv1.toInt by omega) (show 1 ≤ v4.toInt by omega) (show v4.toInt < v5.toInt by omega) (show 301 * v4.toInt ≤ x16.toInt by omega) p19 x_23 p20 (show 0 + (6 - v6.toInt - 1) * 7953208624 + 1 + (63210 - x16.toInt) * 125822 < (n : Int) by omega)
set_option maxHeartbeats 4000000 in
set_option maxRecDepth 100000 in
theorem hM_cut (yv1 : Int32) (yv2 : Int32) (yo0 : cf_O) : ∀ n, HM_cut yv1 yv2 yo0 n := by
  intro n
  induction n with
  | zero => exact ⟨(fun v2 v3 v4 v5 v6 o0 k_o0 r_o0 i_v2 i_v3 i_v4 i_v5 i_v6 f_o0_0 f_o0_38 f_o0_43 f_o0_95 x_0 x_1 x_2 x_3 x_4 x_5 x_6 x_7 x_8 x_9 x_10 x_11 x_12 x_13 x_14 x_15 x_16 x_17 x_18 x_19 x_20 x_21 x_22 x_23 x_24 hm => by exact absurd (show 0 + (6 - v6.toInt) * 7953208624 < (0 : Int) from hm) (by omega)), (fun v2 v3 v4 v5 v6 v7 o0 k_o0 r_o0 i_v2 i_v3 i_v4 i_v5 i_v6 i_v7 f_o0_0 f_o0_38 f_o0_43 f_o0_95 x_0 x_1 x_2 x_3 x_4 x_5 x_6 x_7 x_8 x_9 x_10 x_11 x_12 x_13 x_14 x_15 x_16 x_17 x_18 x_19 x_20 x_21 x_22 x_23 x_24 x_25 hm => by exact absurd (show 0 + (6 - v6.toInt - 1) * 7953208624 + 1 + (63210 - v7.toInt) * 125822 < (0 : Int) from hm) (by omega)), (fun v2 v3 v4 v5 v6 v7 v8 o0 k_o0 r_o0 i_v2 i_v3 i_v4 i_v5 i_v6 i_v7 i_v8 f_o0_0 f_o0_38 f_o0_43 f_o0_95 x_0 x_1 x_2 x_3 x_4 x_5 x_6 x_7 x_8 x_9 x_10 x_11 x_12 x_13 x_14 x_15 x_16 x_17 x_18 x_19 x_20 x_21 x_22 x_23 x_24 x_25 x_26 x_27 hm => by exact absurd (show 0 + (6 - v6.toInt - 1) * 7953208624 + 1 + (63210 - v7.toInt - 1) * 125822 + 1 + (62909 - v8.toInt) * 2 < (0 : Int) from hm) (by omega))⟩
  | succ n ih => exact ⟨(fun v2 v3 v4 v5 v6 o0 k_o0 r_o0 i_v2 i_v3 i_v4 i_v5 i_v6 f_o0_0 f_o0_38 f_o0_43 f_o0_95 x_0 x_1 x_2 x_3 x_4 x_5 x_6 x_7 x_8 x_9 x_10 x_11 x_12 x_13 x_14 x_15 x_16 x_17 x_18 x_19 x_20 x_21 x_22 x_23 x_24 hm => tM_cut_37 ih v2 v3 v4 v5 v6 o0 k_o0 r_o0 i_v2 i_v3 i_v4 i_v5 i_v6 f_o0_0 f_o0_38 f_o0_43 f_o0_95 x_0 x_1 x_2 x_3 x_4 x_5 x_6 x_7 x_8 x_9 x_10 x_11 x_12 x_13 x_14 x_15 x_16 x_17 x_18 x_19 x_20 x_21 x_22 x_23 x_24 (by omega)), (fun v2 v3 v4 v5 v6 v7 o0 k_o0 r_o0 i_v2 i_v3 i_v4 i_v5 i_v6 i_v7 f_o0_0 f_o0_38 f_o0_43 f_o0_95 x_0 x_1 x_2 x_3 x_4 x_5 x_6 x_7 x_8 x_9 x_10 x_11 x_12 x_13 x_14 x_15 x_16 x_17 x_18 x_19 x_20 x_21 x_22 x_23 x_24 x_25 hm => tM_cut_51 ih v2 v3 v4 v5 v6 v7 o0 k_o0 r_o0 i_v2 i_v3 i_v4 i_v5 i_v6 i_v7 f_o0_0 f_o0_38 f_o0_43 f_o0_95 x_0 x_1 x_2 x_3 x_4 x_5 x_6 x_7 x_8 x_9 x_10 x_11 x_12 x_13 x_14 x_15 x_16 x_17 x_18 x_19 x_20 x_21 x_22 x_23 x_24 x_25 (by omega)), (fun v2 v3 v4 v5 v6 v7 v8 o0 k_o0 r_o0 i_v2 i_v3 i_v4 i_v5 i_v6 i_v7 i_v8 f_o0_0 f_o0_38 f_o0_43 f_o0_95 x_0 x_1 x_2 x_3 x_4 x_5 x_6 x_7 x_8 x_9 x_10 x_11 x_12 x_13 x_14 x_15 x_16 x_17 x_18 x_19 x_20 x_21 x_22 x_23 x_24 x_25 x_26 x_27 hm => tM_cut_85 ih v2 v3 v4 v5 v6 v7 v8 o0 k_o0 r_o0 i_v2 i_v3 i_v4 i_v5 i_v6 i_v7 i_v8 f_o0_0 f_o0_38 f_o0_43 f_o0_95 x_0 x_1 x_2 x_3 x_4 x_5 x_6 x_7 x_8 x_9 x_10 x_11 x_12 x_13 x_14 x_15 x_16 x_17 x_18 x_19 x_20 x_21 x_22 x_23 x_24 x_25 x_26 x_27 (by omega))⟩
set_option maxHeartbeats 4000000 in
set_option maxRecDepth 100000 in
theorem sM_cut (v1 : Int32) (v2 : Int32) (o0 : cf_O) (k_o0 : okO I_M o0) (i_v1 : (0 : Int) ≤ v1.toInt ∧ v1.toInt ≤ 199) (i_v2 : (0 : Int) ≤ v2.toInt ∧ v2.toInt ≤ 5) (f_o0_0 : (0 : Int) ≤ (o0.1 0).toInt ∧ (o0.1 0).toInt ≤ 2) (f_o0_36 : (0 : Int) ≤ (o0.1 36).toInt ∧ (o0.1 36).toInt ≤ 0) (f_o0_38 : (1 : Int) ≤ (o0.1 38).toInt ∧ (o0.1 38).toInt ≤ 1) (f_o0_43 : (1 : Int) ≤ (o0.1 43).toInt ∧ (o0.1 43).toInt ≤ 200) (f_o0_95 : (0 : Int) ≤ (o0.1 95).toInt ∧ (o0.1 95).toInt ≤ 0) (x_0 : Cn (o0.2.1 59) (o0.2.1 58)) (x_1 : 1 ≤ v2.toInt) (x_2 : Gx ((o0.1 39).toInt + 1) (o0.1 43).toInt (o0.2.1 44) (o0.2.1 45)) (x_3 : Cz ((o0.1 39).toInt + 1 + v1.toInt) ((o0.1 39).toInt + 1) (o0.1 43).toInt (o0.2.1 44) (o0.2.1 45) (o0.2.1 57) (o0.2.1 59) (o0.2.1 58)) (x_4 : v1.toInt < (o0.1 43).toInt) (x_5 : Ca ((o0.1 39).toInt + 1 + v1.toInt) (o0.2.1 57) (o0.2.1 59) (o0.2.1 58)) (x_6 : (o0.1 36).toInt = 0) : tt (fM_cut v1 v2 o0) (QM_cut v1 v2 o0) := by
  have H := hM_cut v1 v2 o0 cfFU
  have hm : (47719251747 : Int) ≤ (cfFU : Nat) := by decide
  have r_o0 : Fr (fr_M [36] [57, 58, 59, 60, 61] []) o0 o0 := fr_rfl
  unfold fM_cut fM_cut_0
  have g_o0_39 : (0 : Int) ≤ (o0.1 39).toInt ∧ (o0.1 39).toInt ≤ 8 := k_o0.1 39
  try unfold fM_base
  try unfold fM_base_0
  refine tt_bkv (P := fun z => ((1 : Int) ≤ z.toInt ∧ z.toInt ≤ 9) ∧ z.toInt = (o0.1 39).toInt + 1) ⟨iv_add (k_o0.1 39) (show (1 : Int) ≤ (1 : Int32).toInt ∧ (1 : Int32).toInt ≤ 1 by decide) (by decide) (by decide) (by decide) (by decide), iq_add (k_o0.1 39) (show (1 : Int) ≤ (1 : Int32).toInt ∧ (1 : Int32).toInt ≤ 1 by decide) (by decide) (by decide)⟩ (fun x1 qi2 => ?_)
  obtain ⟨i2, ei2⟩ := qi2
  refine tt_bs ?_
  refine tt_kv (P := fun z => ((1 : Int) ≤ z.toInt ∧ z.toInt ≤ 208) ∧ z.toInt = x1.toInt + v1.toInt) ⟨iv_add i2 i_v1 (by decide) (by decide) (by decide) (by decide), iq_add i2 i_v1 (by decide) (by decide)⟩ (fun x3 qi4 => ?_)
  obtain ⟨i4, ei4⟩ := qi4
  refine tt_n (ix_ok i_v1 (by decide) (by decide)) ?_
  refine tt_kv (P := fun z => ((0 : Int) ≤ z.toInt ∧ z.toInt ≤ 417) ∧ z.toInt = (o0.2.1 44 v1.toNatClampNeg).toInt) ⟨(k_o0.2 44 _), rfl⟩ (fun x5 qi6 => ?_)
  obtain ⟨i6, ei6⟩ := qi6
  have t7 := tn_n v1
  have t8 := x_2 (v1.toNatClampNeg)
  refine tt_kv (P := fun z => ((0 : Int) ≤ z.toInt ∧ z.toInt ≤ 208) ∧ z.toInt = x5.toInt / 2) ⟨iv_div (k := 2) i6 (show (2 : Int) ≤ (2 : Int32).toInt ∧ (2 : Int32).toInt ≤ 2 by decide) (by decide) (by decide) (by decide) (by decide), i_dv (Int.le_trans (by decide) i6.1) (by decide)⟩ (fun x9 qi10 => ?_)
  obtain ⟨i10, ei10⟩ := qi10
  refine tt_n (ix_ok i_v1 (by decide) (by decide)) ?_
  refine tt_kv (P := fun z => ((0 : Int) ≤ z.toInt ∧ z.toInt ≤ 417) ∧ z.toInt = (o0.2.1 45 v1.toNatClampNeg).toInt) ⟨(k_o0.2 45 _), rfl⟩ (fun x11 qi12 => ?_)
  obtain ⟨i12, ei12⟩ := qi12
  have t13 := tn_n v1
  have t14 := x_2 (v1.toNatClampNeg)
  refine tt_kv (P := fun z => ((0 : Int) ≤ z.toInt ∧ z.toInt ≤ 208) ∧ z.toInt = x11.toInt / 2) ⟨iv_div (k := 2) i12 (show (2 : Int) ≤ (2 : Int32).toInt ∧ (2 : Int32).toInt ≤ 2 by decide) (by decide) (by decide) (by decide) (by decide), i_dv (Int.le_trans (by decide) i12.1) (by decide)⟩ (fun x15 qi16 => ?_)
  obtain ⟨i16, ei16⟩ := qi16
  refine tt_n (ix_ok i4 (by decide) (by decide)) ?_
  refine tt_ko ?_
  have k17 := ok_xp (k := 57) (i := x3.toNatClampNeg) (v := 0) k_o0 (iv_w (a := 0) (b := 300) (by decide) (by decide) (show (0 : Int) ≤ (0 : Int32).toInt ∧ (0 : Int32).toInt ≤ 0 by decide))
  have r18 := fr_xp (k := 57) (i := x3.toNatClampNeg) (v := 0) r_o0 rfl
  have p19 : Sk x3.toInt (0 - 1) (upd (o0.2.1 57) (x3.toNatClampNeg) 0) (o0.2.1 59) := by exact Sk_0 rfl (by decide)
  have p20 : Lc x3.toInt (o0.2.1 59) (o0.2.1 59) := by exact Lc_r _ _
  have p21 : Cz x3.toInt ((o0.1 39).toInt + 1) (o0.1 43).toInt (o0.2.1 44) (o0.2.1 45) (upd (o0.2.1 57) (x3.toNatClampNeg) 0) (o0.2.1 59) (o0.2.1 58) := by exact Cz_u (Cz_n (by assumption) (by omega)) (by rw [tn_n]; omega)
  have p22 : Cx x3.toInt x9.toInt x15.toInt ((o0.1 39).toInt + 1) (o0.1 43).toInt (o0.2.1 44) (o0.2.1 45) (upd (o0.2.1 57) (x3.toNatClampNeg) 0) (o0.2.1 59) (o0.2.1 58) := by exact Cx_0 rfl (by decide)
  have p23 : Ce x3.toInt (o0.2.1 57) (upd (o0.2.1 57) (x3.toNatClampNeg) 0) := by exact Ce_u (Ce_r _ _) (by rw [tn_n]; omega)
  have p24 : Ce (1505 * x3.toInt) (o0.2.1 58) (o0.2.1 58) := by exact Ce_r _ _
  have p25 : Ca x3.toInt (upd (o0.2.1 57) (x3.toNatClampNeg) 0) (o0.2.1 59) (o0.2.1 58) := by exact Ca_u (Ca_n (by assumption) (by omega)) (by rw [tn_n]; omega)
  have p26 : Lb 0 (-1) 0 0 0 (upd (o0.2.1 57) (x3.toNatClampNeg) 0 x3.toNatClampNeg).toInt (o0.1 36).toInt := by exact Lb_0 (by decide)
  have p27 : Mr x3.toInt (upd (o0.2.1 57) (x3.toNatClampNeg) 0) (o0.2.1 59) (o0.2.1 58) (o0.2.1 60) := by exact Mr_0 rfl (by decide)
  have p28 : Q37 (o0.1 36).toInt (rowL (upd (o0.2.1 57) (x3.toNatClampNeg) 0) (o0.2.1 59) (o0.2.1 58) x3.toNatClampNeg) (allL (o0.2.1 57) (o0.2.1 59) (o0.2.1 58) x9.toNatClampNeg) (allL (o0.2.1 57) (o0.2.1 59) (o0.2.1 58) x15.toNatClampNeg) (0 : Int).toNat v2.toInt.toNat := by rw [row_0 rfl (by decide)]; exact Q_0 (by omega)
  exact H.1 _ _ _ _ _ _ k17 r18 i_v2 i4 i10 i16 (iv_w (a := 0) (b := 6) (by decide) (by decide) (show (0 : Int) ≤ (0 : Int32).toInt ∧ (0 : Int32).toInt ≤ 0 by decide)) f_o0_0 f_o0_38 f_o0_43 f_o0_95 x_0 p19 p20 (show x3.toInt = (o0.1 39).toInt + 1 + v1.toInt by omega) (show v2.toInt = v2.toInt by omega) (show 1 ≤ v2.toInt by omega) (show 0 ≤ v2.toInt + 1 by omega) p21 p22 p23 p24 p25 (show x9.toInt = (o0.2.1 44 v1.toNatClampNeg).toInt / 2 by omega) (show x15.toInt = (o0.2.1 45 v1.toNatClampNeg).toInt / 2 by omega) (show 0 ≤ x9.toInt by omega) (show 0 ≤ x15.toInt by omega) (show x9.toInt < x3.toInt by omega) (show x15.toInt < x3.toInt by omega) (show v1.toInt < (o0.1 43).toInt by omega) (show 0 ≤ v1.toInt by omega) (show 1 ≤ x9.toInt by omega) (show x9.toInt < x15.toInt by omega) p26 p27 p28 (show 0 + (6 - 0) * 7953208624 < ((cfFU : Nat) : Int) by omega)
def QM_depthOf (v1 : Int32) (o0 : cf_O) (r : (Int32)) : Prop := ((1 : Int) ≤ r.toInt ∧ r.toInt ≤ 209) ∧ (Do r.toInt v1.toNatClampNeg (o0.2.1 59) (o0.2.1 58) (o0.2.1 62)) ∧ True
def HM_depthOf (yv1 : Int32) (yo0 : cf_O) (n : Nat) : Prop := (∀ (v1 : Int32) (v2 : Int32) (v3 : Int32) (o0 : cf_O), (okO I_M o0) → (Fr (fr_M [] [] []) yo0 o0) → ((301 : Int) ≤ v1.toInt ∧ v1.toInt ≤ 63209) → ((0 : Int) ≤ v2.toInt ∧ v2.toInt ≤ 208) → ((0 : Int) ≤ v3.toInt ∧ v3.toInt ≤ 5) → ((0 : Int) ≤ (o0.1 0).toInt ∧ (o0.1 0).toInt ≤ 2) → ((1 : Int) ≤ (o0.1 38).toInt ∧ (o0.1 38).toInt ≤ 1) → ((0 : Int) ≤ (o0.1 95).toInt ∧ (o0.1 95).toInt ≤ 0) → (Dl v2.toInt v3.toInt v1.toNatClampNeg (o0.2.1 59) (o0.2.1 58) (o0.2.1 62)) → (0 ≤ v3.toInt) → (v1.toInt = yv1.toInt) → (0 ≤ v1.toInt) → 0 + (5 - v3.toInt) * 2 < (n : Int) → tt (gM_depthOf n 0 v1 v2 v3 o0) (QM_depthOf yv1 yo0))
set_option maxHeartbeats 4000000 in
set_option maxRecDepth 100000 in
theorem tM_depthOf_4 {yv1 : Int32} {yo0 : cf_O} {n : Nat} (H : HM_depthOf yv1 yo0 n) (v1 : Int32) (v2 : Int32) (v3 : Int32) (o0 : cf_O) (k_o0 : okO I_M o0) (r_o0 : Fr (fr_M [] [] []) yo0 o0) (i_v1 : (301 : Int) ≤ v1.toInt ∧ v1.toInt ≤ 63209) (i_v2 : (0 : Int) ≤ v2.toInt ∧ v2.toInt ≤ 208) (i_v3 : (0 : Int) ≤ v3.toInt ∧ v3.toInt ≤ 5) (f_o0_0 : (0 : Int) ≤ (o0.1 0).toInt ∧ (o0.1 0).toInt ≤ 2) (f_o0_38 : (1 : Int) ≤ (o0.1 38).toInt ∧ (o0.1 38).toInt ≤ 1) (f_o0_95 : (0 : Int) ≤ (o0.1 95).toInt ∧ (o0.1 95).toInt ≤ 0) (x_0 : Dl v2.toInt v3.toInt v1.toNatClampNeg (o0.2.1 59) (o0.2.1 58) (o0.2.1 62)) (x_1 : 0 ≤ v3.toInt) (x_2 : v1.toInt = yv1.toInt) (x_3 : 0 ≤ v1.toInt) (hm : 0 + (5 - v3.toInt) * 2 ≤ (n : Int)) : tt (fM_depthOf_4 (gM_depthOf n) v1 v2 v3 o0) (QM_depthOf yv1 yo0) := by
  unfold fM_depthOf_4
  refine tt_n (ix_ok i_v1 (by decide) (by decide)) ?_
  refine tt_kv (P := fun z => ((0 : Int) ≤ z.toInt ∧ z.toInt ≤ 5) ∧ z.toInt = (o0.2.1 59 v1.toNatClampNeg).toInt) ⟨(k_o0.2 59 _), rfl⟩ (fun x1 qi2 => ?_)
  obtain ⟨i2, ei2⟩ := qi2
  refine tt_if (fun c3 => ?_) (fun c3 => ?_)
  · have wc3 : x1.toInt ≤ v3.toInt := c_le c3
    refine tt_kv (P := fun z => ((1 : Int) ≤ z.toInt ∧ z.toInt ≤ 209) ∧ z.toInt = v2.toInt + 1) ⟨iv_add i_v2 (show (1 : Int) ≤ (1 : Int32).toInt ∧ (1 : Int32).toInt ≤ 1 by decide) (by decide) (by decide) (by decide) (by decide), iq_add i_v2 (show (1 : Int) ≤ (1 : Int32).toInt ∧ (1 : Int32).toInt ≤ 1 by decide) (by decide) (by decide)⟩ (fun x4 qi5 => ?_)
    obtain ⟨i5, ei5⟩ := qi5
    have p6 : Do x4.toInt yv1.toNatClampNeg (yo0.2.1 59) (yo0.2.1 58) (yo0.2.1 62) := by rw [← r_o0.2.1 59 rfl, ← r_o0.2.1 58 rfl, ← r_o0.2.1 62 rfl, show yv1 = v1 from (i_eq x_2).symm]; exact Dl_e x_0 (by omega) (by omega)
    exact tt_some ⟨i5, p6, trivial⟩
  · have wc3 : v3.toInt < x1.toInt := c_nle c3
    have i7 : (0 : Int) ≤ v3.toInt ∧ v3.toInt ≤ 4 := nr_nlel c3 i_v3 i2 (by decide) (by decide)
    have i8 : (1 : Int) ≤ x1.toInt ∧ x1.toInt ≤ 5 := nr_nler c3 i_v3 i2 (by decide) (by decide)
    refine tt_kv (P := fun z => ((1505 : Int) ≤ z.toInt ∧ z.toInt ≤ 316045) ∧ z.toInt = 5 * v1.toInt) ⟨iv_mul (show (5 : Int) ≤ (5 : Int32).toInt ∧ (5 : Int32).toInt ≤ 5 by decide) i_v1 (by decide) (by decide) (by decide) (by decide) (by decide), iq_mul (show (5 : Int) ≤ (5 : Int32).toInt ∧ (5 : Int32).toInt ≤ 5 by decide) i_v1 (by decide) (by decide) (by decide) (by decide)⟩ (fun x9 qi10 => ?_)
    obtain ⟨i10, ei10⟩ := qi10
    refine tt_kv (P := fun z => ((1505 : Int) ≤ z.toInt ∧ z.toInt ≤ 316049) ∧ z.toInt = x9.toInt + v3.toInt) ⟨iv_add i10 i7 (by decide) (by decide) (by decide) (by decide), iq_add i10 i7 (by decide) (by decide)⟩ (fun x11 qi12 => ?_)
    obtain ⟨i12, ei12⟩ := qi12
    refine tt_n (ix_ok i12 (by decide) (by decide)) ?_
    refine tt_kv (P := fun z => ((0 : Int) ≤ z.toInt ∧ z.toInt ≤ 208) ∧ z.toInt = (o0.2.1 58 x11.toNatClampNeg).toInt) ⟨(k_o0.2 58 _), rfl⟩ (fun x13 qi14 => ?_)
    obtain ⟨i14, ei14⟩ := qi14
    refine tt_n (ix_ok i14 (by decide) (by decide)) ?_
    refine tt_kv (P := fun z => ((0 : Int) ≤ z.toInt ∧ z.toInt ≤ 208) ∧ z.toInt = (o0.2.1 62 x13.toNatClampNeg).toInt) ⟨(k_o0.2 62 _), rfl⟩ (fun x15 qi16 => ?_)
    obtain ⟨i16, ei16⟩ := qi16
    refine tt_if (fun c17 => ?_) (fun c17 => ?_)
    · have wc17 : x15.toInt ≤ v2.toInt := c_le c17
      try unfold fM_depthOf_43
      refine tt_kv (P := fun z => ((1 : Int) ≤ z.toInt ∧ z.toInt ≤ 5) ∧ z.toInt = v3.toInt + 1) ⟨iv_add i7 (show (1 : Int) ≤ (1 : Int32).toInt ∧ (1 : Int32).toInt ≤ 1 by decide) (by decide) (by decide) (by decide) (by decide), iq_add i7 (show (1 : Int) ≤ (1 : Int32).toInt ∧ (1 : Int32).toInt ≤ 1 by decide) (by decide) (by decide)⟩ (fun x18 qi19 => ?_)
      obtain ⟨i19, ei19⟩ := qi19
      have p20 : Dl v2.toInt x18.toInt v1.toNatClampNeg (o0.2.1 59) (o0.2.1 58) (o0.2.1 62) := by exact Dl_s x_0 (by assumption) (by assumption) (by rw [tn_n, tn_n]; omega) (by rw [tn_n]; omega) (by omega) (by omega) (by omega) (by omega)
      exact H _ _ _ _ k_o0 r_o0 i_v1 i_v2 (iv_w (a := 0) (b := 5) (by decide) (by decide) i19) f_o0_0 f_o0_38 f_o0_95 p20 (show 0 ≤ x18.toInt by omega) (show v1.toInt = yv1.toInt by omega) (show 0 ≤ v1.toInt by omega) (show 0 + (5 - x18.toInt) * 2 < (n : Int) by omega)
    · have wc17 : v2.toInt < x15.toInt := c_nle c17
      have i21 : (0 : Int) ≤ v2.toInt ∧ v2.toInt ≤ 207 := nr_nlel c17 i_v2 i16 (by decide) (by decide)
      have i22 : (1 : Int) ≤ x15.toInt ∧ x15.toInt ≤ 208 := nr_nler c17 i_v2 i16 (by decide) (by decide)
      try unfold fM_depthOf_43
      refine tt_kv (P := fun z => ((1 : Int) ≤ z.toInt ∧ z.toInt ≤ 5) ∧ z.toInt = v3.toInt + 1) ⟨iv_add i7 (show (1 : Int) ≤ (1 : Int32).toInt ∧ (1 : Int32).toInt ≤ 1 by decide) (by decide) (by decide) (by decide) (by decide), iq_add i7 (show (1 : Int) ≤ (1 : Int32).toInt ∧ (1 : Int32).toInt ≤ 1 by decide) (by decide) (by decide)⟩ (fun x23 qi24 => ?_)
      obtain ⟨i24, ei24⟩ := qi24
      have p25 : Dl x15.toInt x23.toInt v1.toNatClampNeg (o0.2.1 59) (o0.2.1 58) (o0.2.1 62) := by exact Dl_s x_0 (by assumption) (by assumption) (by rw [tn_n, tn_n]; omega) (by rw [tn_n]; omega) (by omega) (by omega) (by omega) (by omega)
      exact H _ _ _ _ k_o0 r_o0 i_v1 (iv_w (a := 0) (b := 208) (by decide) (by decide) i22) (iv_w (a := 0) (b := 5) (by decide) (by decide) i24) f_o0_0 f_o0_38 f_o0_95 p25 (show 0 ≤ x23.toInt by omega) (show v1.toInt = yv1.toInt by omega) (show 0 ≤ v1.toInt by omega) (show 0 + (5 - x23.toInt) * 2 < (n : Int) by omega)
set_option maxHeartbeats 4000000 in
set_option maxRecDepth 100000 in
theorem hM_depthOf (yv1 : Int32) (yo0 : cf_O) : ∀ n, HM_depthOf yv1 yo0 n := by
  intro n
  induction n with
  | zero => exact (fun v1 v2 v3 o0 k_o0 r_o0 i_v1 i_v2 i_v3 f_o0_0 f_o0_38 f_o0_95 x_0 x_1 x_2 x_3 hm => by exact absurd (show 0 + (5 - v3.toInt) * 2 < (0 : Int) from hm) (by omega))
  | succ n ih => exact (fun v1 v2 v3 o0 k_o0 r_o0 i_v1 i_v2 i_v3 f_o0_0 f_o0_38 f_o0_95 x_0 x_1 x_2 x_3 hm => tM_depthOf_4 ih v1 v2 v3 o0 k_o0 r_o0 i_v1 i_v2 i_v3 f_o0_0 f_o0_38 f_o0_95 x_0 x_1 x_2 x_3 (by omega))
set_option maxHeartbeats 4000000 in
set_option maxRecDepth 100000 in
theorem sM_depthOf (v1 : Int32) (o0 : cf_O) (k_o0 : okO I_M o0) (i_v1 : (301 : Int) ≤ v1.toInt ∧ v1.toInt ≤ 63209) (f_o0_0 : (0 : Int) ≤ (o0.1 0).toInt ∧ (o0.1 0).toInt ≤ 2) (f_o0_38 : (1 : Int) ≤ (o0.1 38).toInt ∧ (o0.1 38).toInt ≤ 1) (f_o0_95 : (0 : Int) ≤ (o0.1 95).toInt ∧ (o0.1 95).toInt ≤ 0) : tt (fM_depthOf v1 o0) (QM_depthOf v1 o0) := by
  have H := hM_depthOf v1 o0 cfFU
  have hm : (13 : Int) ≤ (cfFU : Nat) := by decide
  have r_o0 : Fr (fr_M [] [] []) o0 o0 := fr_rfl
  unfold fM_depthOf fM_depthOf_0
  have p1 : Dl 0 0 v1.toNatClampNeg (o0.2.1 59) (o0.2.1 58) (o0.2.1 62) := by exact Dl_0 _ _ _ _
  exact H _ _ _ _ k_o0 r_o0 i_v1 (iv_w (a := 0) (b := 208) (by decide) (by decide) (show (0 : Int) ≤ (0 : Int32).toInt ∧ (0 : Int32).toInt ≤ 0 by decide)) (iv_w (a := 0) (b := 5) (by decide) (by decide) (show (0 : Int) ≤ (0 : Int32).toInt ∧ (0 : Int32).toInt ≤ 0 by decide)) f_o0_0 f_o0_38 f_o0_95 p1 (show 0 ≤ 0 by omega) (show v1.toInt = v1.toInt by omega) (show 0 ≤ v1.toInt by omega) (show 0 + (5 - 0) * 2 < ((cfFU : Nat) : Int) by omega)
def QM_goesAhead (v1 : Int32) (v2 : Int32) (o0 : cf_O) (r : (Int32)) : Prop := ((0 : Int) ≤ r.toInt ∧ r.toInt ≤ 1) ∧ True
def HM_goesAhead (yv1 : Int32) (yv2 : Int32) (yo0 : cf_O) (n : Nat) : Prop := (∀ (v1 : Int32) (v2 : Int32) (v3 : Int32) (v4 : Int32) (o0 : cf_O), (okO I_M o0) → (Fr (fr_M [] [] []) yo0 o0) → ((302 : Int) ≤ v1.toInt ∧ v1.toInt ≤ 63209) → ((301 : Int) ≤ v2.toInt ∧ v2.toInt ≤ 63209) → (((-208) : Int) ≤ v3.toInt ∧ v3.toInt ≤ 208) → ((0 : Int) ≤ v4.toInt ∧ v4.toInt ≤ 5) → ((0 : Int) ≤ (o0.1 0).toInt ∧ (o0.1 0).toInt ≤ 2) → ((0 : Int) ≤ (o0.1 36).toInt ∧ (o0.1 36).toInt ≤ 0) → ((1 : Int) ≤ (o0.1 38).toInt ∧ (o0.1 38).toInt ≤ 1) → ((1 : Int) ≤ (o0.1 43).toInt ∧ (o0.1 43).toInt ≤ 200) → ((0 : Int) ≤ (o0.1 95).toInt ∧ (o0.1 95).toInt ≤ 0) → 0 + (5 - v4.toInt) * 2 < (n : Int) → tt (gM_goesAhead n 0 v1 v2 v3 v4 o0) (QM_goesAhead yv1 yv2 yo0))
set_option maxHeartbeats 4000000 in
set_option maxRecDepth 100000 in
theorem tM_goesAhead_37 {yv1 : Int32} {yv2 : Int32} {yo0 : cf_O} {n : Nat} (H : HM_goesAhead yv1 yv2 yo0 n) (v1 : Int32) (v2 : Int32) (v3 : Int32) (v4 : Int32) (o0 : cf_O) (k_o0 : okO I_M o0) (r_o0 : Fr (fr_M [] [] []) yo0 o0) (i_v1 : (302 : Int) ≤ v1.toInt ∧ v1.toInt ≤ 63209) (i_v2 : (301 : Int) ≤ v2.toInt ∧ v2.toInt ≤ 63209) (i_v3 : ((-208) : Int) ≤ v3.toInt ∧ v3.toInt ≤ 208) (i_v4 : (0 : Int) ≤ v4.toInt ∧ v4.toInt ≤ 5) (f_o0_0 : (0 : Int) ≤ (o0.1 0).toInt ∧ (o0.1 0).toInt ≤ 2) (f_o0_36 : (0 : Int) ≤ (o0.1 36).toInt ∧ (o0.1 36).toInt ≤ 0) (f_o0_38 : (1 : Int) ≤ (o0.1 38).toInt ∧ (o0.1 38).toInt ≤ 1) (f_o0_43 : (1 : Int) ≤ (o0.1 43).toInt ∧ (o0.1 43).toInt ≤ 200) (f_o0_95 : (0 : Int) ≤ (o0.1 95).toInt ∧ (o0.1 95).toInt ≤ 0) (hm : 0 + (5 - v4.toInt) * 2 ≤ (n : Int)) : tt (fM_goesAhead_37 (gM_goesAhead n) v1 v2 v3 v4 o0) (QM_goesAhead yv1 yv2 yo0) := by
  unfold fM_goesAhead_37
  refine tt_n (ix_ok i_v1 (by decide) (by decide)) ?_
  refine tt_kv (P := fun z => (0 : Int) ≤ z.toInt ∧ z.toInt ≤ 5) (k_o0.2 59 _) (fun x1 i2 => ?_)
  refine tt_if (fun c3 => ?_) (fun c3 => ?_)
  · try unfold fM_goesAhead_82
    refine tt_if (fun c4 => ?_) (fun c4 => ?_)
    · have i5 : (0 : Int) ≤ v3.toInt ∧ v3.toInt ≤ 208 := nr_ler c4 (show (0 : Int) ≤ (0 : Int32).toInt ∧ (0 : Int32).toInt ≤ 0 by decide) i_v3 (by decide) (by decide)
      try unfold fM_goesAhead_91
      refine tt_w (iv_b (show (0 : Int) ≤ (0 : Int32).toInt ∧ (0 : Int32).toInt ≤ 0 by decide) (by decide) (by decide)) ?_
      exact tt_some ⟨(iv_w (a := 0) (b := 1) (by decide) (by decide) (show (0 : Int) ≤ (0 : Int32).toInt ∧ (0 : Int32).toInt ≤ 0 by decide)), trivial⟩
    · have i6 : ((-208) : Int) ≤ v3.toInt ∧ v3.toInt ≤ (-1) := nr_nlel c4 i_v3 (show (0 : Int) ≤ (0 : Int32).toInt ∧ (0 : Int32).toInt ≤ 0 by decide) (by decide) (by decide)
      try unfold fM_goesAhead_91
      refine tt_w (iv_b (show (1 : Int) ≤ (1 : Int32).toInt ∧ (1 : Int32).toInt ≤ 1 by decide) (by decide) (by decide)) ?_
      exact tt_some ⟨(iv_w (a := 0) (b := 1) (by decide) (by decide) (show (1 : Int) ≤ (1 : Int32).toInt ∧ (1 : Int32).toInt ≤ 1 by decide)), trivial⟩
  · have i7 : (0 : Int) ≤ v4.toInt ∧ v4.toInt ≤ 4 := nr_nlel c3 i_v4 i2 (by decide) (by decide)
    have i8 : (1 : Int) ≤ x1.toInt ∧ x1.toInt ≤ 5 := nr_nler c3 i_v4 i2 (by decide) (by decide)
    refine tt_if (fun c9 => ?_) (fun c9 => ?_)
    · have i10 : (0 : Int) ≤ v3.toInt ∧ v3.toInt ≤ 0 := nr_eql c9 i_v3 (show (0 : Int) ≤ (0 : Int32).toInt ∧ (0 : Int32).toInt ≤ 0 by decide) (by decide) (by decide)
      refine tt_kv (P := fun z => (1510 : Int) ≤ z.toInt ∧ z.toInt ≤ 316045) (iv_mul (show (5 : Int) ≤ (5 : Int32).toInt ∧ (5 : Int32).toInt ≤ 5 by decide) i_v1 (by decide) (by decide) (by decide) (by decide) (by decide)) (fun x11 i12 => ?_)
      refine tt_kv (P := fun z => (1510 : Int) ≤ z.toInt ∧ z.toInt ≤ 316049) (iv_add i12 i7 (by decide) (by decide) (by decide) (by decide)) (fun x13 i14 => ?_)
      refine tt_n (ix_ok i14 (by decide) (by decide)) ?_
      refine tt_kv (P := fun z => (0 : Int) ≤ z.toInt ∧ z.toInt ≤ 208) (k_o0.2 58 _) (fun x15 i16 => ?_)
      refine tt_kv (P := fun z => (1505 : Int) ≤ z.toInt ∧ z.toInt ≤ 316045) (iv_mul (show (5 : Int) ≤ (5 : Int32).toInt ∧ (5 : Int32).toInt ≤ 5 by decide) i_v2 (by decide) (by decide) (by decide) (by decide) (by decide)) (fun x17 i18 => ?_)
      refine tt_kv (P := fun z => (1505 : Int) ≤ z.toInt ∧ z.toInt ≤ 316049) (iv_add i18 i7 (by decide) (by decide) (by decide) (by decide)) (fun x19 i20 => ?_)
      refine tt_n (ix_ok i20 (by decide) (by decide)) ?_
      refine tt_kv (P := fun z => (0 : Int) ≤ z.toInt ∧ z.toInt ≤ 208) (k_o0.2 58 _) (fun x21 i22 => ?_)
      refine tt_kv (P := fun z => ((-208) : Int) ≤ z.toInt ∧ z.toInt ≤ 208) (iv_sub i16 i22 (by decide) (by decide) (by decide) (by decide)) (fun x23 i24 => ?_)
      refine tt_kv (P := fun z => ((1 : Int) ≤ z.toInt ∧ z.toInt ≤ 5) ∧ z.toInt = v4.toInt + 1) ⟨iv_add i7 (show (1 : Int) ≤ (1 : Int32).toInt ∧ (1 : Int32).toInt ≤ 1 by decide) (by decide) (by decide) (by decide) (by decide), iq_add i7 (show (1 : Int) ≤ (1 : Int32).toInt ∧ (1 : Int32).toInt ≤ 1 by decide) (by decide) (by decide)⟩ (fun x25 qi26 => ?_)
      obtain ⟨i26, ei26⟩ := qi26
      exact H _ _ _ _ _ k_o0 r_o0 i_v1 i_v2 i24 (iv_w (a := 0) (b := 5) (by decide) (by decide) i26) f_o0_0 f_o0_36 f_o0_38 f_o0_43 f_o0_95 (show 0 + (5 - x25.toInt) * 2 < (n : Int) by omega)
    · try unfold fM_goesAhead_82
      refine tt_if (fun c27 => ?_) (fun c27 => ?_)
      · have i28 : (0 : Int) ≤ v3.toInt ∧ v3.toInt ≤ 208 := nr_ler c27 (show (0 : Int) ≤ (0 : Int32).toInt ∧ (0 : Int32).toInt ≤ 0 by decide) i_v3 (by decide) (by decide)
        try unfold fM_goesAhead_91
        refine tt_w (iv_b (show (0 : Int) ≤ (0 : Int32).toInt ∧ (0 : Int32).toInt ≤ 0 by decide) (by decide) (by decide)) ?_
        exact tt_some ⟨(iv_w (a := 0) (b := 1) (by decide) (by decide) (show (0 : Int) ≤ (0 : Int32).toInt ∧ (0 : Int32).toInt ≤ 0 by decide)), trivial⟩
      · have i29 : ((-208) : Int) ≤ v3.toInt ∧ v3.toInt ≤ (-1) := nr_nlel c27 i_v3 (show (0 : Int) ≤ (0 : Int32).toInt ∧ (0 : Int32).toInt ≤ 0 by decide) (by decide) (by decide)
        try unfold fM_goesAhead_91
        refine tt_w (iv_b (show (1 : Int) ≤ (1 : Int32).toInt ∧ (1 : Int32).toInt ≤ 1 by decide) (by decide) (by decide)) ?_
        exact tt_some ⟨(iv_w (a := 0) (b := 1) (by decide) (by decide) (show (1 : Int) ≤ (1 : Int32).toInt ∧ (1 : Int32).toInt ≤ 1 by decide)), trivial⟩
set_option maxHeartbeats 4000000 in
set_option maxRecDepth 100000 in
theorem hM_goesAhead (yv1 : Int32) (yv2 : Int32) (yo0 : cf_O) : ∀ n, HM_goesAhead yv1 yv2 yo0 n := by
  intro n
  induction n with
  | zero => exact (fun v1 v2 v3 v4 o0 k_o0 r_o0 i_v1 i_v2 i_v3 i_v4 f_o0_0 f_o0_36 f_o0_38 f_o0_43 f_o0_95 hm => by exact absurd (show 0 + (5 - v4.toInt) * 2 < (0 : Int) from hm) (by omega))
  | succ n ih => exact (fun v1 v2 v3 v4 o0 k_o0 r_o0 i_v1 i_v2 i_v3 i_v4 f_o0_0 f_o0_36 f_o0_38 f_o0_43 f_o0_95 hm => tM_goesAhead_37 ih v1 v2 v3 v4 o0 k_o0 r_o0 i_v1 i_v2 i_v3 i_v4 f_o0_0 f_o0_36 f_o0_38 f_o0_43 f_o0_95 (by omega))
set_option maxHeartbeats 4000000 in
set_option maxRecDepth 100000 in
theorem sM_goesAhead (v1 : Int32) (v2 : Int32) (o0 : cf_O) (k_o0 : okO I_M o0) (i_v1 : (302 : Int) ≤ v1.toInt ∧ v1.toInt ≤ 62907) (i_v2 : (301 : Int) ≤ v2.toInt ∧ v2.toInt ≤ 63209) (f_o0_0 : (0 : Int) ≤ (o0.1 0).toInt ∧ (o0.1 0).toInt ≤ 2) (f_o0_36 : (0 : Int) ≤ (o0.1 36).toInt ∧ (o0.1 36).toInt ≤ 0) (f_o0_38 : (1 : Int) ≤ (o0.1 38).toInt ∧ (o0.1 38).toInt ≤ 1) (f_o0_43 : (1 : Int) ≤ (o0.1 43).toInt ∧ (o0.1 43).toInt ≤ 200) (f_o0_95 : (0 : Int) ≤ (o0.1 95).toInt ∧ (o0.1 95).toInt ≤ 0) : tt (fM_goesAhead v1 v2 o0) (QM_goesAhead v1 v2 o0) := by
  have H := hM_goesAhead v1 v2 o0 cfFU
  have hm : (13 : Int) ≤ (cfFU : Nat) := by decide
  have r_o0 : Fr (fr_M [] [] []) o0 o0 := fr_rfl
  unfold fM_goesAhead fM_goesAhead_0
  refine tt_b (sM_depthOf _ _ k_o0 (iv_w (a := 301) (b := 63209) (by decide) (by decide) i_v1) f_o0_0 f_o0_38 f_o0_95) (fun q1 hq1 => ?_)
  obtain ⟨i_q1, zq1_0, -⟩ := hq1
  refine tt_b (sM_depthOf _ _ k_o0 i_v2 f_o0_0 f_o0_38 f_o0_95) (fun q2 hq2 => ?_)
  obtain ⟨i_q2, zq2_0, -⟩ := hq2
  refine tt_kv (P := fun z => ((-208) : Int) ≤ z.toInt ∧ z.toInt ≤ 208) (iv_sub i_q1 i_q2 (by decide) (by decide) (by decide) (by decide)) (fun x3 i4 => ?_)
  refine tt_if (fun c5 => ?_) (fun c5 => ?_)
  · have i6 : (0 : Int) ≤ x3.toInt ∧ x3.toInt ≤ 0 := nr_eql c5 i4 (show (0 : Int) ≤ (0 : Int32).toInt ∧ (0 : Int32).toInt ≤ 0 by decide) (by decide) (by decide)
    refine tt_n (ix_ok i_v1 (by decide) (by decide)) ?_
    refine tt_kv (P := fun z => (0 : Int) ≤ z.toInt ∧ z.toInt ≤ 5) (k_o0.2 59 _) (fun x7 i8 => ?_)
    refine tt_n (ix_ok i_v2 (by decide) (by decide)) ?_
    refine tt_kv (P := fun z => (0 : Int) ≤ z.toInt ∧ z.toInt ≤ 5) (k_o0.2 59 _) (fun x9 i10 => ?_)
    refine tt_kv (P := fun z => ((-5) : Int) ≤ z.toInt ∧ z.toInt ≤ 5) (iv_sub i8 i10 (by decide) (by decide) (by decide) (by decide)) (fun x11 i12 => ?_)
    try unfold fM_goesAhead_33
    exact H _ _ _ _ _ k_o0 r_o0 (iv_w (a := 302) (b := 63209) (by decide) (by decide) i_v1) i_v2 (iv_w (a := (-208)) (b := 208) (by decide) (by decide) i12) (iv_w (a := 0) (b := 5) (by decide) (by decide) (show (0 : Int) ≤ (0 : Int32).toInt ∧ (0 : Int32).toInt ≤ 0 by decide)) f_o0_0 f_o0_36 f_o0_38 f_o0_43 f_o0_95 (show 0 + (5 - 0) * 2 < ((cfFU : Nat) : Int) by omega)
  · try unfold fM_goesAhead_33
    exact H _ _ _ _ _ k_o0 r_o0 (iv_w (a := 302) (b := 63209) (by decide) (by decide) i_v1) i_v2 i4 (iv_w (a := 0) (b := 5) (by decide) (by decide) (show (0 : Int) ≤ (0 : Int32).toInt ∧ (0 : Int32).toInt ≤ 0 by decide)) f_o0_0 f_o0_36 f_o0_38 f_o0_43 f_o0_95 (show 0 + (5 - 0) * 2 < ((cfFU : Nat) : Int) by omega)
def QM_findBest (v1 : Int32) (o0 : cf_O) (r : (cf_O)) : Prop := (okO I_M r) ∧ (Fr (fr_M [] [62, 63] []) o0 r) ∧ (Fb v1.toInt (r.2.1 57) (r.2.1 63)) ∧ (Ub v1.toInt (o0.2.1 63) (r.2.1 63)) ∧ (Fdd v1.toInt (o0.2.1 57) (o0.2.1 59) (o0.2.1 58) (o0.2.1 62) (r.2.1 62)) ∧ (Fs v1.toInt (o0.2.1 57) (r.2.1 63)) ∧ True
def HM_findBest (yv1 : Int32) (yo0 : cf_O) (n : Nat) : Prop := (∀ (v1 : Int32) (v2 : Int32) (v3 : Int32) (o0 : cf_O), (okO I_M o0) → (Fr (fr_M [] [62, 63] []) yo0 o0) → ((1 : Int) ≤ v1.toInt ∧ v1.toInt ≤ 208) → ((301 : Int) ≤ v2.toInt ∧ v2.toInt ≤ 63209) → ((302 : Int) ≤ v3.toInt ∧ v3.toInt ≤ 62908) → ((0 : Int) ≤ (o0.1 0).toInt ∧ (o0.1 0).toInt ≤ 2) → ((0 : Int) ≤ (o0.1 36).toInt ∧ (o0.1 36).toInt ≤ 0) → ((1 : Int) ≤ (o0.1 38).toInt ∧ (o0.1 38).toInt ≤ 1) → ((1 : Int) ≤ (o0.1 43).toInt ∧ (o0.1 43).toInt ≤ 200) → ((0 : Int) ≤ (o0.1 95).toInt ∧ (o0.1 95).toInt ≤ 0) → (301 * v1.toInt ≤ v2.toInt) → (v2.toInt ≤ 301 * v1.toInt + (o0.2.1 57 v1.toNatClampNeg).toInt) → (v1.toInt = yv1.toInt) → (301 * v1.toInt + 1 ≤ v3.toInt) → (((yo0.2.1 63) = (o0.2.1 63))) → (Sn v1.toInt (o0.2.1 57) (o0.2.1 59) (o0.2.1 58)) → (Dn v1.toInt (o0.2.1 62)) → (((yo0.2.1 62) = (o0.2.1 62))) → (v2.toInt < 301 * v1.toInt + (o0.2.1 57 v1.toNatClampNeg).toInt) → 0 + (62908 - v3.toInt) * 2 < (n : Int) → tt (gM_findBest n 0 v1 v2 v3 o0) (QM_findBest yv1 yo0))
set_option maxHeartbeats 4000000 in
set_option maxRecDepth 100000 in
theorem tM_findBest_14 {yv1 : Int32} {yo0 : cf_O} {n : Nat} (H : HM_findBest yv1 yo0 n) (v1 : Int32) (v2 : Int32) (v3 : Int32) (o0 : cf_O) (k_o0 : okO I_M o0) (r_o0 : Fr (fr_M [] [62, 63] []) yo0 o0) (i_v1 : (1 : Int) ≤ v1.toInt ∧ v1.toInt ≤ 208) (i_v2 : (301 : Int) ≤ v2.toInt ∧ v2.toInt ≤ 63209) (i_v3 : (302 : Int) ≤ v3.toInt ∧ v3.toInt ≤ 62908) (f_o0_0 : (0 : Int) ≤ (o0.1 0).toInt ∧ (o0.1 0).toInt ≤ 2) (f_o0_36 : (0 : Int) ≤ (o0.1 36).toInt ∧ (o0.1 36).toInt ≤ 0) (f_o0_38 : (1 : Int) ≤ (o0.1 38).toInt ∧ (o0.1 38).toInt ≤ 1) (f_o0_43 : (1 : Int) ≤ (o0.1 43).toInt ∧ (o0.1 43).toInt ≤ 200) (f_o0_95 : (0 : Int) ≤ (o0.1 95).toInt ∧ (o0.1 95).toInt ≤ 0) (x_0 : 301 * v1.toInt ≤ v2.toInt) (x_1 : v2.toInt ≤ 301 * v1.toInt + (o0.2.1 57 v1.toNatClampNeg).toInt) (x_2 : v1.toInt = yv1.toInt) (x_3 : 301 * v1.toInt + 1 ≤ v3.toInt) (x_4 : ((yo0.2.1 63) = (o0.2.1 63))) (x_5 : Sn v1.toInt (o0.2.1 57) (o0.2.1 59) (o0.2.1 58)) (x_6 : Dn v1.toInt (o0.2.1 62)) (x_7 : ((yo0.2.1 62) = (o0.2.1 62))) (x_8 : v2.toInt < 301 * v1.toInt + (o0.2.1 57 v1.toNatClampNeg).toInt) (hm : 0 + (62908 - v3.toInt) * 2 ≤ (n : Int)) : tt (fM_findBest_14 (gM_findBest n) v1 v2 v3 o0) (QM_findBest yv1 yo0) := by
  unfold fM_findBest_14
  refine tt_kv (P := fun z => ((301 : Int) ≤ z.toInt ∧ z.toInt ≤ 62608) ∧ z.toInt = 301 * v1.toInt) ⟨iv_mul (show (301 : Int) ≤ (301 : Int32).toInt ∧ (301 : Int32).toInt ≤ 301 by decide) i_v1 (by decide) (by decide) (by decide) (by decide) (by decide), iq_mul (show (301 : Int) ≤ (301 : Int32).toInt ∧ (301 : Int32).toInt ≤ 301 by decide) i_v1 (by decide) (by decide) (by decide) (by decide)⟩ (fun x1 qi2 => ?_)
  obtain ⟨i2, ei2⟩ := qi2
  refine tt_n (ix_ok i_v1 (by decide) (by decide)) ?_
  refine tt_kv (P := fun z => ((0 : Int) ≤ z.toInt ∧ z.toInt ≤ 300) ∧ z.toInt = (o0.2.1 57 v1.toNatClampNeg).toInt) ⟨(k_o0.2 57 _), rfl⟩ (fun x3 qi4 => ?_)
  obtain ⟨i4, ei4⟩ := qi4
  refine tt_kv (P := fun z => ((301 : Int) ≤ z.toInt ∧ z.toInt ≤ 62908) ∧ z.toInt = x1.toInt + x3.toInt) ⟨iv_add i2 i4 (by decide) (by decide) (by decide) (by decide), iq_add i2 i4 (by decide) (by decide)⟩ (fun x5 qi6 => ?_)
  obtain ⟨i6, ei6⟩ := qi6
  refine tt_if (fun c7 => ?_) (fun c7 => ?_)
  · have wc7 : x5.toInt ≤ v3.toInt := c_le c7
    refine tt_n (ix_ok i_v1 (by decide) (by decide)) ?_
    refine tt_ko ?_
    have k8 := ok_xp (k := 63) (i := v1.toNatClampNeg) (v := v2) k_o0 (iv_w (a := 0) (b := 63209) (by decide) (by decide) i_v2)
    have r9 := fr_xp (k := 63) (i := v1.toNatClampNeg) (v := v2) r_o0 rfl
    refine tt_b (sM_depthOf _ _ k8 i_v2 f_o0_0 f_o0_38 f_o0_95) (fun q10 hq10 => ?_)
    obtain ⟨i_q10, zq10_0, -⟩ := hq10
    have zq10_0 : Do q10.toInt v2.toNatClampNeg (o0.2.1 59) (o0.2.1 58) (o0.2.1 62) := zq10_0
    have t11 := Do_b (show Do q10.toInt v2.toNatClampNeg _ _ _ by assumption) x_5 x_6 (by rw [tn_n]; omega) (show ((v2.toNatClampNeg : Nat) : Int) < 301 * v1.toInt + (o0.2.1 57 v1.toNatClampNeg).toInt by rw [tn_n]; omega) (by omega)
    have t12 := (show Do q10.toInt v2.toNatClampNeg _ _ _ by assumption).1
    refine tt_n (ix_ok i_v1 (by decide) (by decide)) ?_
    refine tt_ko ?_
    have k13 := ok_xp (k := 62) (i := v1.toNatClampNeg) (v := q10) k8 (show (0 : Int) ≤ _ ∧ _ ≤ (208 : Int) by omega)
    have r14 := fr_xp (k := 62) (i := v1.toNatClampNeg) (v := q10) r9 rfl
    have p15 : Fb yv1.toInt (o0.2.1 57) (upd (o0.2.1 63) (v1.toNatClampNeg) v2) := by rw [show yv1 = v1 from (i_eq x_2).symm]; exact Fb_u rfl x_0 x_1 (k_o0.2 57 _).2
    have p16 : Ub yv1.toInt (yo0.2.1 63) (upd (o0.2.1 63) (v1.toNatClampNeg) v2) := by rw [x_4, show yv1 = v1 from (i_eq x_2).symm]; exact Ub_u rfl
    have p17 : Fdd yv1.toInt (yo0.2.1 57) (yo0.2.1 59) (yo0.2.1 58) (yo0.2.1 62) (upd (o0.2.1 62) (v1.toNatClampNeg) q10) := by rw [← r_o0.2.1 57 rfl, ← r_o0.2.1 59 rfl, ← r_o0.2.1 58 rfl, x_7, show yv1 = v1 from (i_eq x_2).symm]; exact Fdd_i (c := v2.toNatClampNeg) (show Do _ v2.toNatClampNeg _ _ _ by assumption) x_5 rfl rfl (by rw [tn_n]; omega) (show ((v2.toNatClampNeg : Nat) : Int) < 301 * v1.toInt + (o0.2.1 57 v1.toNatClampNeg).toInt by rw [tn_n]; omega) (by omega)
    have p18 : Fs yv1.toInt (yo0.2.1 57) (upd (o0.2.1 63) (v1.toNatClampNeg) v2) := by rw [← r_o0.2.1 57 rfl, show yv1 = v1 from (i_eq x_2).symm]; exact Fs_u rfl x_0 (show v2.toInt < 301 * v1.toInt + (o0.2.1 57 v1.toNatClampNeg).toInt by omega)
    exact tt_some ⟨k13, r14, p15, p16, p17, p18, trivial⟩
  · have wc7 : v3.toInt < x5.toInt := c_nle c7
    have i19 : (302 : Int) ≤ v3.toInt ∧ v3.toInt ≤ 62907 := nr_nlel c7 i_v3 i6 (by decide) (by decide)
    have i20 : (303 : Int) ≤ x5.toInt ∧ x5.toInt ≤ 62908 := nr_nler c7 i_v3 i6 (by decide) (by decide)
    refine tt_b (sM_goesAhead _ _ _ k_o0 i19 i_v2 f_o0_0 f_o0_36 f_o0_38 f_o0_43 f_o0_95) (fun q21 hq21 => ?_)
    obtain ⟨i_q21, -⟩ := hq21
    refine tt_if (fun c22 => ?_) (fun c22 => ?_)
    · have wc22 : q21.toInt = (0 : Int) := c_eq c22
      have i23 : (0 : Int) ≤ q21.toInt ∧ q21.toInt ≤ 0 := nr_eql c22 i_q21 (show (0 : Int) ≤ (0 : Int32).toInt ∧ (0 : Int32).toInt ≤ 0 by decide) (by decide) (by decide)
      try unfold fM_findBest_44
      refine tt_kv (P := fun z => ((303 : Int) ≤ z.toInt ∧ z.toInt ≤ 62908) ∧ z.toInt = v3.toInt + 1) ⟨iv_add i19 (show (1 : Int) ≤ (1 : Int32).toInt ∧ (1 : Int32).toInt ≤ 1 by decide) (by decide) (by decide) (by decide) (by decide), iq_add i19 (show (1 : Int) ≤ (1 : Int32).toInt ∧ (1 : Int32).toInt ≤ 1 by decide) (by decide) (by decide)⟩ (fun x24 qi25 => ?_)
      obtain ⟨i25, ei25⟩ := qi25
      have t26 : (0 : Int) ≤ (o0.2.1 57 v1.toNatClampNeg).toInt ∧ (o0.2.1 57 v1.toNatClampNeg).toInt ≤ 300 := k_o0.2 57 _
      have t27 : (0 : Int) ≤ (o0.2.1 57 v1.toNatClampNeg).toInt ∧ (o0.2.1 57 v1.toNatClampNeg).toInt ≤ 300 := k_o0.2 57 _
      exact H _ _ _ _ k_o0 r_o0 i_v1 i_v2 (iv_w (a := 302) (b := 62908) (by decide) (by decide) i25) f_o0_0 f_o0_36 f_o0_38 f_o0_43 f_o0_95 (show 301 * v1.toInt ≤ v2.toInt by omega) (show v2.toInt ≤ 301 * v1.toInt + (o0.2.1 57 v1.toNatClampNeg).toInt by omega) (show v1.toInt = yv1.toInt by omega) (show 301 * v1.toInt + 1 ≤ x24.toInt by omega) x_4 x_5 x_6 x_7 (show v2.toInt < 301 * v1.toInt + (o0.2.1 57 v1.toNatClampNeg).toInt by omega) (show 0 + (62908 - x24.toInt) * 2 < (n : Int) by omega)
    · have wc22 : ¬ q21.toInt = (0 : Int) := c_ne c22
      have i28 : (1 : Int) ≤ q21.toInt ∧ q21.toInt ≤ 1 := nr_nela c22 i_q21 (show (0 : Int) ≤ (0 : Int32).toInt ∧ (0 : Int32).toInt ≤ 0 by decide) (by decide) (by decide)
      try unfold fM_findBest_44
      refine tt_kv (P := fun z => ((303 : Int) ≤ z.toInt ∧ z.toInt ≤ 62908) ∧ z.toInt = v3.toInt + 1) ⟨iv_add i19 (show (1 : Int) ≤ (1 : Int32).toInt ∧ (1 : Int32).toInt ≤ 1 by decide) (by decide) (by decide) (by decide) (by decide), iq_add i19 (show (1 : Int) ≤ (1 : Int32).toInt ∧ (1 : Int32).toInt ≤ 1 by decide) (by decide) (by decide)⟩ (fun x29 qi30 => ?_)
      obtain ⟨i30, ei30⟩ := qi30
      have t31 : (0 : Int) ≤ (o0.2.1 57 v1.toNatClampNeg).toInt ∧ (o0.2.1 57 v1.toNatClampNeg).toInt ≤ 300 := k_o0.2 57 _
      have t32 : (0 : Int) ≤ (o0.2.1 57 v1.toNatClampNeg).toInt ∧ (o0.2.1 57 v1.toNatClampNeg).toInt ≤ 300 := k_o0.2 57 _
      exact H _ _ _ _ k_o0 r_o0 i_v1 (iv_w (a := 301) (b := 63209) (by decide) (by decide) i19) (iv_w (a := 302) (b := 62908) (by decide) (by decide) i30) f_o0_0 f_o0_36 f_o0_38 f_o0_43 f_o0_95 (show 301 * v1.toInt ≤ v3.toInt by omega) (show v3.toInt ≤ 301 * v1.toInt + (o0.2.1 57 v1.toNatClampNeg).toInt by omega) (show v1.toInt = yv1.toInt by omega) (show 301 * v1.toInt + 1 ≤ x29.toInt by omega) x_4 x_5 x_6 x_7 (show v3.toInt < 301 * v1.toInt + (o0.2.1 57 v1.toNatClampNeg).toInt by omega) (show 0 + (62908 - x29.toInt) * 2 < (n : Int) by omega)
set_option maxHeartbeats 4000000 in
set_option maxRecDepth 100000 in
theorem hM_findBest (yv1 : Int32) (yo0 : cf_O) : ∀ n, HM_findBest yv1 yo0 n := by
  intro n
  induction n with
  | zero => exact (fun v1 v2 v3 o0 k_o0 r_o0 i_v1 i_v2 i_v3 f_o0_0 f_o0_36 f_o0_38 f_o0_43 f_o0_95 x_0 x_1 x_2 x_3 x_4 x_5 x_6 x_7 x_8 hm => by exact absurd (show 0 + (62908 - v3.toInt) * 2 < (0 : Int) from hm) (by omega))
  | succ n ih => exact (fun v1 v2 v3 o0 k_o0 r_o0 i_v1 i_v2 i_v3 f_o0_0 f_o0_36 f_o0_38 f_o0_43 f_o0_95 x_0 x_1 x_2 x_3 x_4 x_5 x_6 x_7 x_8 hm => tM_findBest_14 ih v1 v2 v3 o0 k_o0 r_o0 i_v1 i_v2 i_v3 f_o0_0 f_o0_36 f_o0_38 f_o0_43 f_o0_95 x_0 x_1 x_2 x_3 x_4 x_5 x_6 x_7 x_8 (by omega))
set_option maxHeartbeats 4000000 in
set_option maxRecDepth 100000 in
theorem sM_findBest (v1 : Int32) (o0 : cf_O) (k_o0 : okO I_M o0) (i_v1 : (1 : Int) ≤ v1.toInt ∧ v1.toInt ≤ 208) (f_o0_0 : (0 : Int) ≤ (o0.1 0).toInt ∧ (o0.1 0).toInt ≤ 2) (f_o0_36 : (0 : Int) ≤ (o0.1 36).toInt ∧ (o0.1 36).toInt ≤ 0) (f_o0_38 : (1 : Int) ≤ (o0.1 38).toInt ∧ (o0.1 38).toInt ≤ 1) (f_o0_43 : (1 : Int) ≤ (o0.1 43).toInt ∧ (o0.1 43).toInt ≤ 200) (f_o0_95 : (0 : Int) ≤ (o0.1 95).toInt ∧ (o0.1 95).toInt ≤ 0) (x_0 : Sn v1.toInt (o0.2.1 57) (o0.2.1 59) (o0.2.1 58)) (x_1 : Dn v1.toInt (o0.2.1 62)) (x_2 : 1 ≤ (o0.2.1 57 v1.toNatClampNeg).toInt) : tt (fM_findBest v1 o0) (QM_findBest v1 o0) := by
  have H := hM_findBest v1 o0 cfFU
  have hm : (125215 : Int) ≤ (cfFU : Nat) := by decide
  have r_o0 : Fr (fr_M [] [62, 63] []) o0 o0 := fr_rfl
  unfold fM_findBest fM_findBest_0
  refine tt_kv (P := fun z => ((301 : Int) ≤ z.toInt ∧ z.toInt ≤ 62608) ∧ z.toInt = 301 * v1.toInt) ⟨iv_mul (show (301 : Int) ≤ (301 : Int32).toInt ∧ (301 : Int32).toInt ≤ 301 by decide) i_v1 (by decide) (by decide) (by decide) (by decide) (by decide), iq_mul (show (301 : Int) ≤ (301 : Int32).toInt ∧ (301 : Int32).toInt ≤ 301 by decide) i_v1 (by decide) (by decide) (by decide) (by decide)⟩ (fun x1 qi2 => ?_)
  obtain ⟨i2, ei2⟩ := qi2
  refine tt_kv (P := fun z => ((301 : Int) ≤ z.toInt ∧ z.toInt ≤ 62608) ∧ z.toInt = 301 * v1.toInt) ⟨iv_mul (show (301 : Int) ≤ (301 : Int32).toInt ∧ (301 : Int32).toInt ≤ 301 by decide) i_v1 (by decide) (by decide) (by decide) (by decide) (by decide), iq_mul (show (301 : Int) ≤ (301 : Int32).toInt ∧ (301 : Int32).toInt ≤ 301 by decide) i_v1 (by decide) (by decide) (by decide) (by decide)⟩ (fun x3 qi4 => ?_)
  obtain ⟨i4, ei4⟩ := qi4
  refine tt_kv (P := fun z => ((302 : Int) ≤ z.toInt ∧ z.toInt ≤ 62609) ∧ z.toInt = x3.toInt + 1) ⟨iv_add i4 (show (1 : Int) ≤ (1 : Int32).toInt ∧ (1 : Int32).toInt ≤ 1 by decide) (by decide) (by decide) (by decide) (by decide), iq_add i4 (show (1 : Int) ≤ (1 : Int32).toInt ∧ (1 : Int32).toInt ≤ 1 by decide) (by decide) (by decide)⟩ (fun x5 qi6 => ?_)
  obtain ⟨i6, ei6⟩ := qi6
  have t7 : (0 : Int) ≤ (o0.2.1 57 v1.toNatClampNeg).toInt ∧ (o0.2.1 57 v1.toNatClampNeg).toInt ≤ 300 := k_o0.2 57 _
  have p8 : ((o0.2.1 63) = (o0.2.1 63)) := by rfl
  have p9 : ((o0.2.1 62) = (o0.2.1 62)) := by rfl
  have t10 : (0 : Int) ≤ (o0.2.1 57 v1.toNatClampNeg).toInt ∧ (o0.2.1 57 v1.toNatClampNeg).toInt ≤ 300 := k_o0.2 57 _
  exact H _ _ _ _ k_o0 r_o0 i_v1 (iv_w (a := 301) (b := 63209) (by decide) (by decide) i2) (iv_w (a := 302) (b := 62908) (by decide) (by decide) i6) f_o0_0 f_o0_36 f_o0_38 f_o0_43 f_o0_95 (show 301 * v1.toInt ≤ x1.toInt by omega) (show x1.toInt ≤ 301 * v1.toInt + (o0.2.1 57 v1.toNatClampNeg).toInt by omega) (show v1.toInt = v1.toInt by omega) (show 301 * v1.toInt + 1 ≤ x5.toInt by omega) p8 x_0 x_1 p9 (show x1.toInt < 301 * v1.toInt + (o0.2.1 57 v1.toNatClampNeg).toInt by omega) (show 0 + (62908 - x5.toInt) * 2 < ((cfFU : Nat) : Int) by omega)
def QM_listCells (o0 : cf_O) (r : (cf_O)) : Prop := (okO I_M r) ∧ (Fr (fr_M [73] [74] []) o0 r) ∧ (Cv (r.1 73) (r.1 39) (r.1 43) (r.2.1 74)) ∧ True
def HM_listCells (yo0 : cf_O) (n : Nat) : Prop := (∀ (v1 : Int32) (o0 : cf_O), (okO I_M o0) → (Fr (fr_M [73] [74] []) yo0 o0) → ((1 : Int) ≤ v1.toInt ∧ v1.toInt ≤ 209) → ((0 : Int) ≤ (o0.1 0).toInt ∧ (o0.1 0).toInt ≤ 2) → ((1 : Int) ≤ (o0.1 38).toInt ∧ (o0.1 38).toInt ≤ 1) → ((0 : Int) ≤ (o0.1 95).toInt ∧ (o0.1 95).toInt ≤ 0) → ((o0.1 73).toInt ≤ v1.toInt - (o0.1 39).toInt - 1) → (Cv (o0.1 73) (o0.1 39) (o0.1 43) (o0.2.1 74)) → 0 + (209 - v1.toInt) * 2 < (n : Int) → tt (gM_listCells n 0 v1 o0) (QM_listCells yo0))
set_option maxHeartbeats 4000000 in
set_option maxRecDepth 100000 in
theorem tM_listCells_10 {yo0 : cf_O} {n : Nat} (H : HM_listCells yo0 n) (v1 : Int32) (o0 : cf_O) (k_o0 : okO I_M o0) (r_o0 : Fr (fr_M [73] [74] []) yo0 o0) (i_v1 : (1 : Int) ≤ v1.toInt ∧ v1.toInt ≤ 209) (f_o0_0 : (0 : Int) ≤ (o0.1 0).toInt ∧ (o0.1 0).toInt ≤ 2) (f_o0_38 : (1 : Int) ≤ (o0.1 38).toInt ∧ (o0.1 38).toInt ≤ 1) (f_o0_95 : (0 : Int) ≤ (o0.1 95).toInt ∧ (o0.1 95).toInt ≤ 0) (x_0 : (o0.1 73).toInt ≤ v1.toInt - (o0.1 39).toInt - 1) (x_1 : Cv (o0.1 73) (o0.1 39) (o0.1 43) (o0.2.1 74)) (hm : 0 + (209 - v1.toInt) * 2 ≤ (n : Int)) : tt (fM_listCells_10 (gM_listCells n) v1 o0) (QM_listCells yo0) := by
  unfold fM_listCells_10
  have g_o0_39 : (0 : Int) ≤ (o0.1 39).toInt ∧ (o0.1 39).toInt ≤ 8 := k_o0.1 39
  have ey_o0_39 : (o0.1 39).toInt = (yo0.1 39).toInt := congrArg Int32.toInt (r_o0.1 39 rfl)
  have g_o0_43 : (0 : Int) ≤ (o0.1 43).toInt ∧ (o0.1 43).toInt ≤ 200 := k_o0.1 43
  have ey_o0_43 : (o0.1 43).toInt = (yo0.1 43).toInt := congrArg Int32.toInt (r_o0.1 43 rfl)
  have g_o0_73 : (0 : Int) ≤ (o0.1 73).toInt ∧ (o0.1 73).toInt ≤ 200 := k_o0.1 73
  try unfold fM_base
  try unfold fM_base_0
  refine tt_bkv (P := fun z => ((1 : Int) ≤ z.toInt ∧ z.toInt ≤ 9) ∧ z.toInt = (o0.1 39).toInt + 1) ⟨iv_add (k_o0.1 39) (show (1 : Int) ≤ (1 : Int32).toInt ∧ (1 : Int32).toInt ≤ 1 by decide) (by decide) (by decide) (by decide) (by decide), iq_add (k_o0.1 39) (show (1 : Int) ≤ (1 : Int32).toInt ∧ (1 : Int32).toInt ≤ 1 by decide) (by decide) (by decide)⟩ (fun x1 qi2 => ?_)
  obtain ⟨i2, ei2⟩ := qi2
  refine tt_bs ?_
  refine tt_kv (P := fun z => ((1 : Int) ≤ z.toInt ∧ z.toInt ≤ 209) ∧ z.toInt = x1.toInt + (o0.1 43).toInt) ⟨iv_add i2 (k_o0.1 43) (by decide) (by decide) (by decide) (by decide), iq_add i2 (k_o0.1 43) (by decide) (by decide)⟩ (fun x3 qi4 => ?_)
  obtain ⟨i4, ei4⟩ := qi4
  refine tt_if (fun c5 => ?_) (fun c5 => ?_)
  · have wc5 : x3.toInt ≤ v1.toInt := c_le c5
    exact tt_some ⟨k_o0, r_o0, x_1, trivial⟩
  · have wc5 : v1.toInt < x3.toInt := c_nle c5
    have i6 : (1 : Int) ≤ v1.toInt ∧ v1.toInt ≤ 208 := nr_nlel c5 i_v1 i4 (by decide) (by decide)
    have i7 : (2 : Int) ≤ x3.toInt ∧ x3.toInt ≤ 209 := nr_nler c5 i_v1 i4 (by decide) (by decide)
    refine tt_n (ix_ok i6 (by decide) (by decide)) ?_
    refine tt_kv (P := fun z => ((0 : Int) ≤ z.toInt ∧ z.toInt ≤ 1) ∧ z.toInt = (o0.2.1 72 v1.toNatClampNeg).toInt) ⟨(k_o0.2 72 _), rfl⟩ (fun x8 qi9 => ?_)
    obtain ⟨i9, ei9⟩ := qi9
    refine tt_if (fun c10 => ?_) (fun c10 => ?_)
    · have wc10 : x8.toInt = (0 : Int) := c_eq c10
      have i11 : (0 : Int) ≤ x8.toInt ∧ x8.toInt ≤ 0 := nr_eql c10 i9 (show (0 : Int) ≤ (0 : Int32).toInt ∧ (0 : Int32).toInt ≤ 0 by decide) (by decide) (by decide)
      try unfold fM_listCells_52
      refine tt_kv (P := fun z => ((2 : Int) ≤ z.toInt ∧ z.toInt ≤ 209) ∧ z.toInt = v1.toInt + 1) ⟨iv_add i6 (show (1 : Int) ≤ (1 : Int32).toInt ∧ (1 : Int32).toInt ≤ 1 by decide) (by decide) (by decide) (by decide) (by decide), iq_add i6 (show (1 : Int) ≤ (1 : Int32).toInt ∧ (1 : Int32).toInt ≤ 1 by decide) (by decide) (by decide)⟩ (fun x12 qi13 => ?_)
      obtain ⟨i13, ei13⟩ := qi13
      exact H _ _ k_o0 r_o0 (iv_w (a := 1) (b := 209) (by decide) (by decide) i13) f_o0_0 f_o0_38 f_o0_95 (show (o0.1 73).toInt ≤ x12.toInt - (o0.1 39).toInt - 1 by omega) x_1 (show 0 + (209 - x12.toInt) * 2 < (n : Int) by omega)
    · have wc10 : ¬ x8.toInt = (0 : Int) := c_ne c10
      have i14 : (1 : Int) ≤ x8.toInt ∧ x8.toInt ≤ 1 := nr_nela c10 i9 (show (0 : Int) ≤ (0 : Int32).toInt ∧ (0 : Int32).toInt ≤ 0 by decide) (by decide) (by decide)
      refine tt_n (ix_ok (k_o0.1 73) (by decide) (by decide)) ?_
      refine tt_ko ?_
      have k15 := ok_xp (k := 74) (i := (o0.1 73).toNatClampNeg) (v := v1) k_o0 (iv_w (a := 0) (b := 208) (by decide) (by decide) i6)
      have r16 := fr_xp (k := 74) (i := (o0.1 73).toNatClampNeg) (v := v1) r_o0 rfl
      refine tt_kv (P := fun z => ((1 : Int) ≤ z.toInt ∧ z.toInt ≤ 201) ∧ z.toInt = (o0.1 73).toInt + 1) ⟨iv_add (k_o0.1 73) (show (1 : Int) ≤ (1 : Int32).toInt ∧ (1 : Int32).toInt ≤ 1 by decide) (by decide) (by decide) (by decide) (by decide), iq_add (k_o0.1 73) (show (1 : Int) ≤ (1 : Int32).toInt ∧ (1 : Int32).toInt ≤ 1 by decide) (by decide) (by decide)⟩ (fun x17 qi18 => ?_)
      obtain ⟨i18, ei18⟩ := qi18
      refine tt_ko ?_
      have k19 := ok_fp (k := 73) (v := x17) k15 (show (0 : Int) ≤ _ ∧ _ ≤ (200 : Int) by omega)
      have i20 : (1 : Int) ≤ x17.toInt ∧ x17.toInt ≤ 200 := (by omega)
      have i21 : (0 : Int) ≤ (o0.1 73).toInt ∧ (o0.1 73).toInt ≤ 199 := by omega
      have r22 := fr_fp (k := 73) (v := x17) r16 rfl
      try unfold fM_listCells_52
      refine tt_kv (P := fun z => ((2 : Int) ≤ z.toInt ∧ z.toInt ≤ 209) ∧ z.toInt = v1.toInt + 1) ⟨iv_add i6 (show (1 : Int) ≤ (1 : Int32).toInt ∧ (1 : Int32).toInt ≤ 1 by decide) (by decide) (by decide) (by decide) (by decide), iq_add i6 (show (1 : Int) ≤ (1 : Int32).toInt ∧ (1 : Int32).toInt ≤ 1 by decide) (by decide) (by decide)⟩ (fun x23 qi24 => ?_)
      obtain ⟨i24, ei24⟩ := qi24
      have p25 : Cv x17 (o0.1 39) (o0.1 43) (upd (o0.2.1 74) ((o0.1 73).toNatClampNeg) v1) := by exact Cv_s x_1 (by omega) (by rw [tn_n]; omega) (by omega)
      exact H _ _ k19 r22 (iv_w (a := 1) (b := 209) (by decide) (by decide) i24) f_o0_0 f_o0_38 f_o0_95 (show x17.toInt ≤ x23.toInt - (o0.1 39).toInt - 1 by omega) p25 (show 0 + (209 - x23.toInt) * 2 < (n : Int) by omega)
set_option maxHeartbeats 4000000 in
set_option maxRecDepth 100000 in
theorem hM_listCells (yo0 : cf_O) : ∀ n, HM_listCells yo0 n := by
  intro n
  induction n with
  | zero => exact (fun v1 o0 k_o0 r_o0 i_v1 f_o0_0 f_o0_38 f_o0_95 x_0 x_1 hm => by exact absurd (show 0 + (209 - v1.toInt) * 2 < (0 : Int) from hm) (by omega))
  | succ n ih => exact (fun v1 o0 k_o0 r_o0 i_v1 f_o0_0 f_o0_38 f_o0_95 x_0 x_1 hm => tM_listCells_10 ih v1 o0 k_o0 r_o0 i_v1 f_o0_0 f_o0_38 f_o0_95 x_0 x_1 (by omega))
set_option maxHeartbeats 4000000 in
set_option maxRecDepth 100000 in
theorem sM_listCells (o0 : cf_O) (k_o0 : okO I_M o0) (f_o0_0 : (0 : Int) ≤ (o0.1 0).toInt ∧ (o0.1 0).toInt ≤ 2) (f_o0_38 : (1 : Int) ≤ (o0.1 38).toInt ∧ (o0.1 38).toInt ≤ 1) (f_o0_95 : (0 : Int) ≤ (o0.1 95).toInt ∧ (o0.1 95).toInt ≤ 0) : tt (fM_listCells o0) (QM_listCells o0) := by
  have H := hM_listCells o0 cfFU
  have hm : (419 : Int) ≤ (cfFU : Nat) := by decide
  have r_o0 : Fr (fr_M [73] [74] []) o0 o0 := fr_rfl
  unfold fM_listCells fM_listCells_0
  have g_o0_39 : (0 : Int) ≤ (o0.1 39).toInt ∧ (o0.1 39).toInt ≤ 8 := k_o0.1 39
  have g_o0_43 : (0 : Int) ≤ (o0.1 43).toInt ∧ (o0.1 43).toInt ≤ 200 := k_o0.1 43
  have g_o0_73 : (0 : Int) ≤ (o0.1 73).toInt ∧ (o0.1 73).toInt ≤ 200 := k_o0.1 73
  refine tt_ko ?_
  have k1 := ok_fp (k := 73) (v := 0) k_o0 (iv_w (a := 0) (b := 200) (by decide) (by decide) (show (0 : Int) ≤ (0 : Int32).toInt ∧ (0 : Int32).toInt ≤ 0 by decide))
  have r2 := fr_fp (k := 73) (v := 0) r_o0 rfl
  try unfold fM_base
  try unfold fM_base_0
  refine tt_bkv (P := fun z => ((1 : Int) ≤ z.toInt ∧ z.toInt ≤ 9) ∧ z.toInt = (o0.1 39).toInt + 1) ⟨iv_add (k_o0.1 39) (show (1 : Int) ≤ (1 : Int32).toInt ∧ (1 : Int32).toInt ≤ 1 by decide) (by decide) (by decide) (by decide) (by decide), iq_add (k_o0.1 39) (show (1 : Int) ≤ (1 : Int32).toInt ∧ (1 : Int32).toInt ≤ 1 by decide) (by decide) (by decide)⟩ (fun x3 qi4 => ?_)
  obtain ⟨i4, ei4⟩ := qi4
  refine tt_bs ?_
  have p5 : Cv (0 : Int32) (o0.1 39) (o0.1 43) (o0.2.1 74) := by exact Cv_0 _ _ _
  exact H _ _ k1 r2 (iv_w (a := 1) (b := 209) (by decide) (by decide) i4) f_o0_0 f_o0_38 f_o0_95 (show 0 ≤ x3.toInt - (o0.1 39).toInt - 1 by omega) p5 (show 0 + (209 - x3.toInt) * 2 < ((cfFU : Nat) : Int) by omega)
def QM_chooseCells (o0 : cf_O) (r : (cf_O)) : Prop := (okO I_M r) ∧ (Fr (fr_M [73] [72, 74] []) o0 r) ∧ (Cv (r.1 73) (r.1 39) (r.1 43) (r.2.1 74)) ∧ True
def HM_chooseCells (yo0 : cf_O) (n : Nat) : Prop := (∀ (v1 : Int32) (o0 : cf_O), (okO I_M o0) → (Fr (fr_M [73] [72, 74] []) yo0 o0) → ((0 : Int) ≤ v1.toInt ∧ v1.toInt ≤ 210) → ((0 : Int) ≤ (o0.1 0).toInt ∧ (o0.1 0).toInt ≤ 0) → ((1 : Int) ≤ (o0.1 38).toInt ∧ (o0.1 38).toInt ≤ 1) → ((2 : Int) ≤ (o0.1 65).toInt ∧ (o0.1 65).toInt ≤ 5) → ((0 : Int) ≤ (o0.1 66).toInt ∧ (o0.1 66).toInt ≤ 0) → ((0 : Int) ≤ (o0.1 95).toInt ∧ (o0.1 95).toInt ≤ 0) → 2928 + (210 - v1.toInt) * 2 < (n : Int) → tt (gM_chooseCells n 0 v1 0 o0) (QM_chooseCells yo0)) ∧ (∀ (v1 : Int32) (o0 : cf_O), (okO I_M o0) → (Fr (fr_M [73] [72, 74] []) yo0 o0) → ((0 : Int) ≤ v1.toInt ∧ v1.toInt ≤ 6) → ((0 : Int) ≤ (o0.1 0).toInt ∧ (o0.1 0).toInt ≤ 0) → ((1 : Int) ≤ (o0.1 38).toInt ∧ (o0.1 38).toInt ≤ 1) → ((2 : Int) ≤ (o0.1 65).toInt ∧ (o0.1 65).toInt ≤ 5) → ((0 : Int) ≤ (o0.1 66).toInt ∧ (o0.1 66).toInt ≤ 0) → ((0 : Int) ≤ (o0.1 95).toInt ∧ (o0.1 95).toInt ≤ 0) → 2914 + (6 - v1.toInt) * 2 < (n : Int) → tt (gM_chooseCells n 1 v1 0 o0) (QM_chooseCells yo0)) ∧ (∀ (v1 : Int32) (o0 : cf_O), (okO I_M o0) → (Fr (fr_M [73] [72, 74] []) yo0 o0) → ((0 : Int) ≤ v1.toInt ∧ v1.toInt ≤ 208) → ((0 : Int) ≤ (o0.1 0).toInt ∧ (o0.1 0).toInt ≤ 0) → ((1 : Int) ≤ (o0.1 38).toInt ∧ (o0.1 38).toInt ≤ 1) → ((2 : Int) ≤ (o0.1 65).toInt ∧ (o0.1 65).toInt ≤ 5) → ((0 : Int) ≤ (o0.1 66).toInt ∧ (o0.1 66).toInt ≤ 0) → ((0 : Int) ≤ (o0.1 95).toInt ∧ (o0.1 95).toInt ≤ 0) → 0 + (v1.toInt - 0) * 14 < (n : Int) → tt (gM_chooseCells n 2 v1 0 o0) (QM_chooseCells yo0)) ∧ (∀ (v1 : Int32) (v2 : Int32) (o0 : cf_O), (okO I_M o0) → (Fr (fr_M [73] [72, 74] []) yo0 o0) → ((1 : Int) ≤ v1.toInt ∧ v1.toInt ≤ 208) → ((0 : Int) ≤ v2.toInt ∧ v2.toInt ≤ 5) → ((0 : Int) ≤ (o0.1 0).toInt ∧ (o0.1 0).toInt ≤ 0) → ((1 : Int) ≤ (o0.1 38).toInt ∧ (o0.1 38).toInt ≤ 1) → ((2 : Int) ≤ (o0.1 65).toInt ∧ (o0.1 65).toInt ≤ 5) → ((0 : Int) ≤ (o0.1 66).toInt ∧ (o0.1 66).toInt ≤ 0) → ((0 : Int) ≤ (o0.1 95).toInt ∧ (o0.1 95).toInt ≤ 0) → 0 + (v1.toInt - 0 - 1) * 14 + 1 + (5 - v2.toInt) * 2 < (n : Int) → tt (gM_chooseCells n 3 v1 v2 o0) (QM_chooseCells yo0))
set_option maxHeartbeats 4000000 in
set_option maxRecDepth 100000 in
theorem tM_chooseCells_93 {yo0 : cf_O} {n : Nat} (H : HM_chooseCells yo0 n) (v1 : Int32) (v2 : Int32) (o0 : cf_O) (k_o0 : okO I_M o0) (r_o0 : Fr (fr_M [73] [72, 74] []) yo0 o0) (i_v1 : (1 : Int) ≤ v1.toInt ∧ v1.toInt ≤ 208) (i_v2 : (0 : Int) ≤ v2.toInt ∧ v2.toInt ≤ 5) (f_o0_0 : (0 : Int) ≤ (o0.1 0).toInt ∧ (o0.1 0).toInt ≤ 0) (f_o0_38 : (1 : Int) ≤ (o0.1 38).toInt ∧ (o0.1 38).toInt ≤ 1) (f_o0_65 : (2 : Int) ≤ (o0.1 65).toInt ∧ (o0.1 65).toInt ≤ 5) (f_o0_66 : (0 : Int) ≤ (o0.1 66).toInt ∧ (o0.1 66).toInt ≤ 0) (f_o0_95 : (0 : Int) ≤ (o0.1 95).toInt ∧ (o0.1 95).toInt ≤ 0) (hm : 0 + (v1.toInt - 0 - 1) * 14 + 1 + (5 - v2.toInt) * 2 ≤ (n : Int)) : tt (fM_chooseCells_93 (gM_chooseCells n) v1 v2 o0) (QM_chooseCells yo0) := by
  unfold fM_chooseCells_93
  refine tt_n (ix_ok i_v1 (by decide) (by decide)) ?_
  refine tt_kv (P := fun z => ((0 : Int) ≤ z.toInt ∧ z.toInt ≤ 63209) ∧ z.toInt = (o0.2.1 63 v1.toNatClampNeg).toInt) ⟨(k_o0.2 63 _), rfl⟩ (fun x1 qi2 => ?_)
  obtain ⟨i2, ei2⟩ := qi2
  refine tt_n (ix_ok i2 (by decide) (by decide)) ?_
  refine tt_kv (P := fun z => ((0 : Int) ≤ z.toInt ∧ z.toInt ≤ 5) ∧ z.toInt = (o0.2.1 59 x1.toNatClampNeg).toInt) ⟨(k_o0.2 59 _), rfl⟩ (fun x3 qi4 => ?_)
  obtain ⟨i4, ei4⟩ := qi4
  refine tt_if (fun c5 => ?_) (fun c5 => ?_)
  · have wc5 : x3.toInt ≤ v2.toInt := c_le c5
    try unfold fM_chooseCells_167
    refine tt_kv (P := fun z => ((0 : Int) ≤ z.toInt ∧ z.toInt ≤ 207) ∧ z.toInt = v1.toInt + (-1)) ⟨iv_add i_v1 (show ((-1) : Int) ≤ ((-1) : Int32).toInt ∧ ((-1) : Int32).toInt ≤ (-1) by decide) (by decide) (by decide) (by decide) (by decide), iq_add i_v1 (show ((-1) : Int) ≤ ((-1) : Int32).toInt ∧ ((-1) : Int32).toInt ≤ (-1) by decide) (by decide) (by decide)⟩ (fun x6 qi7 => ?_)
    obtain ⟨i7, ei7⟩ := qi7
    exact H.2.2.1 _ _ k_o0 r_o0 (iv_w (a := 0) (b := 208) (by decide) (by decide) i7) f_o0_0 f_o0_38 f_o0_65 f_o0_66 f_o0_95 (show 0 + (x6.toInt - 0) * 14 < (n : Int) by omega)
  · have wc5 : v2.toInt < x3.toInt := c_nle c5
    have i8 : (0 : Int) ≤ v2.toInt ∧ v2.toInt ≤ 4 := nr_nlel c5 i_v2 i4 (by decide) (by decide)
    have i9 : (1 : Int) ≤ x3.toInt ∧ x3.toInt ≤ 5 := nr_nler c5 i_v2 i4 (by decide) (by decide)
    refine tt_n (ix_ok i_v1 (by decide) (by decide)) ?_
    refine tt_kv (P := fun z => ((0 : Int) ≤ z.toInt ∧ z.toInt ≤ 1) ∧ z.toInt = (o0.2.1 72 v1.toNatClampNeg).toInt) ⟨(k_o0.2 72 _), rfl⟩ (fun x10 qi11 => ?_)
    obtain ⟨i11, ei11⟩ := qi11
    refine tt_if (fun c12 => ?_) (fun c12 => ?_)
    · have wc12 : x10.toInt = (0 : Int) := c_eq c12
      have i13 : (0 : Int) ≤ x10.toInt ∧ x10.toInt ≤ 0 := nr_eql c12 i11 (show (0 : Int) ≤ (0 : Int32).toInt ∧ (0 : Int32).toInt ≤ 0 by decide) (by decide) (by decide)
      try unfold fM_chooseCells_167
      refine tt_kv (P := fun z => ((0 : Int) ≤ z.toInt ∧ z.toInt ≤ 207) ∧ z.toInt = v1.toInt + (-1)) ⟨iv_add i_v1 (show ((-1) : Int) ≤ ((-1) : Int32).toInt ∧ ((-1) : Int32).toInt ≤ (-1) by decide) (by decide) (by decide) (by decide) (by decide), iq_add i_v1 (show ((-1) : Int) ≤ ((-1) : Int32).toInt ∧ ((-1) : Int32).toInt ≤ (-1) by decide) (by decide) (by decide)⟩ (fun x14 qi15 => ?_)
      obtain ⟨i15, ei15⟩ := qi15
      exact H.2.2.1 _ _ k_o0 r_o0 (iv_w (a := 0) (b := 208) (by decide) (by decide) i15) f_o0_0 f_o0_38 f_o0_65 f_o0_66 f_o0_95 (show 0 + (x14.toInt - 0) * 14 < (n : Int) by omega)
    · have wc12 : ¬ x10.toInt = (0 : Int) := c_ne c12
      have i16 : (1 : Int) ≤ x10.toInt ∧ x10.toInt ≤ 1 := nr_nela c12 i11 (show (0 : Int) ≤ (0 : Int32).toInt ∧ (0 : Int32).toInt ≤ 0 by decide) (by decide) (by decide)
      refine tt_n (ix_ok i_v1 (by decide) (by decide)) ?_
      refine tt_kv (P := fun z => ((0 : Int) ≤ z.toInt ∧ z.toInt ≤ 63209) ∧ z.toInt = (o0.2.1 63 v1.toNatClampNeg).toInt) ⟨(k_o0.2 63 _), rfl⟩ (fun x17 qi18 => ?_)
      obtain ⟨i18, ei18⟩ := qi18
      refine tt_kv (P := fun z => ((0 : Int) ≤ z.toInt ∧ z.toInt ≤ 316045) ∧ z.toInt = 5 * x17.toInt) ⟨iv_mul (show (5 : Int) ≤ (5 : Int32).toInt ∧ (5 : Int32).toInt ≤ 5 by decide) i18 (by decide) (by decide) (by decide) (by decide) (by decide), iq_mul (show (5 : Int) ≤ (5 : Int32).toInt ∧ (5 : Int32).toInt ≤ 5 by decide) i18 (by decide) (by decide) (by decide) (by decide)⟩ (fun x19 qi20 => ?_)
      obtain ⟨i20, ei20⟩ := qi20
      refine tt_kv (P := fun z => ((0 : Int) ≤ z.toInt ∧ z.toInt ≤ 316049) ∧ z.toInt = x19.toInt + v2.toInt) ⟨iv_add i20 i8 (by decide) (by decide) (by decide) (by decide), iq_add i20 i8 (by decide) (by decide)⟩ (fun x21 qi22 => ?_)
      obtain ⟨i22, ei22⟩ := qi22
      refine tt_n (ix_ok i22 (by decide) (by decide)) ?_
      refine tt_kv (P := fun z => ((0 : Int) ≤ z.toInt ∧ z.toInt ≤ 208) ∧ z.toInt = (o0.2.1 58 x21.toNatClampNeg).toInt) ⟨(k_o0.2 58 _), rfl⟩ (fun x23 qi24 => ?_)
      obtain ⟨i24, ei24⟩ := qi24
      refine tt_n (ix_ok i24 (by decide) (by decide)) ?_
      refine tt_kv (P := fun z => ((0 : Int) ≤ z.toInt ∧ z.toInt ≤ 1) ∧ z.toInt = (o0.2.1 72 x23.toNatClampNeg).toInt) ⟨(k_o0.2 72 _), rfl⟩ (fun x25 qi26 => ?_)
      obtain ⟨i26, ei26⟩ := qi26
      refine tt_if (fun c27 => ?_) (fun c27 => ?_)
      · have wc27 : x25.toInt = (0 : Int) := c_eq c27
        have i28 : (0 : Int) ≤ x25.toInt ∧ x25.toInt ≤ 0 := nr_eql c27 i26 (show (0 : Int) ≤ (0 : Int32).toInt ∧ (0 : Int32).toInt ≤ 0 by decide) (by decide) (by decide)
        try unfold fM_base
        try unfold fM_base_0
        refine tt_bkv (P := fun z => ((1 : Int) ≤ z.toInt ∧ z.toInt ≤ 9) ∧ z.toInt = (o0.1 39).toInt + 1) ⟨iv_add (k_o0.1 39) (show (1 : Int) ≤ (1 : Int32).toInt ∧ (1 : Int32).toInt ≤ 1 by decide) (by decide) (by decide) (by decide) (by decide), iq_add (k_o0.1 39) (show (1 : Int) ≤ (1 : Int32).toInt ∧ (1 : Int32).toInt ≤ 1 by decide) (by decide) (by decide)⟩ (fun x29 qi30 => ?_)
        obtain ⟨i30, ei30⟩ := qi30
        refine tt_bs ?_
        refine tt_if (fun c31 => ?_) (fun c31 => ?_)
        · have wc31 : x23.toInt < x29.toInt := c_lt c31
          have i32 : (0 : Int) ≤ x23.toInt ∧ x23.toInt ≤ 8 := nr_ltl c31 i24 i30 (by decide) (by decide)
          try unfold fM_chooseCells_160
          refine tt_n (ix_ok i32 (by decide) (by decide)) ?_
          refine tt_ko ?_
          have k33 := ok_xp (k := 72) (i := x23.toNatClampNeg) (v := (vp_nar .boolean 0)) k_o0 (iv_nz _)
          have r34 := fr_xp (k := 72) (i := x23.toNatClampNeg) (v := (vp_nar .boolean 0)) r_o0 rfl
          refine tt_kv (P := fun z => ((1 : Int) ≤ z.toInt ∧ z.toInt ≤ 5) ∧ z.toInt = v2.toInt + 1) ⟨iv_add i8 (show (1 : Int) ≤ (1 : Int32).toInt ∧ (1 : Int32).toInt ≤ 1 by decide) (by decide) (by decide) (by decide) (by decide), iq_add i8 (show (1 : Int) ≤ (1 : Int32).toInt ∧ (1 : Int32).toInt ≤ 1 by decide) (by decide) (by decide)⟩ (fun x35 qi36 => ?_)
          obtain ⟨i36, ei36⟩ := qi36
          exact H.2.2.2 _ _ _ k33 r34 i_v1 (iv_w (a := 0) (b := 5) (by decide) (by decide) i36) f_o0_0 f_o0_38 f_o0_65 f_o0_66 f_o0_95 (show 0 + (v1.toInt - 0 - 1) * 14 + 1 + (5 - x35.toInt) * 2 < (n : Int) by omega)
        · have wc31 : x29.toInt ≤ x23.toInt := c_nlt c31
          have i37 : (1 : Int) ≤ x23.toInt ∧ x23.toInt ≤ 208 := nr_nltr c31 i30 i24 (by decide) (by decide)
          try unfold fM_chooseCells_155
          try unfold fM_chooseCells_160
          refine tt_n (ix_ok i37 (by decide) (by decide)) ?_
          refine tt_ko ?_
          have k38 := ok_xp (k := 72) (i := x23.toNatClampNeg) (v := (vp_nar .boolean 1)) k_o0 (iv_nz _)
          have r39 := fr_xp (k := 72) (i := x23.toNatClampNeg) (v := (vp_nar .boolean 1)) r_o0 rfl
          refine tt_kv (P := fun z => ((1 : Int) ≤ z.toInt ∧ z.toInt ≤ 5) ∧ z.toInt = v2.toInt + 1) ⟨iv_add i8 (show (1 : Int) ≤ (1 : Int32).toInt ∧ (1 : Int32).toInt ≤ 1 by decide) (by decide) (by decide) (by decide) (by decide), iq_add i8 (show (1 : Int) ≤ (1 : Int32).toInt ∧ (1 : Int32).toInt ≤ 1 by decide) (by decide) (by decide)⟩ (fun x40 qi41 => ?_)
          obtain ⟨i41, ei41⟩ := qi41
          exact H.2.2.2 _ _ _ k38 r39 i_v1 (iv_w (a := 0) (b := 5) (by decide) (by decide) i41) f_o0_0 f_o0_38 f_o0_65 f_o0_66 f_o0_95 (show 0 + (v1.toInt - 0 - 1) * 14 + 1 + (5 - x40.toInt) * 2 < (n : Int) by omega)
      · have wc27 : ¬ x25.toInt = (0 : Int) := c_ne c27
        have i42 : (1 : Int) ≤ x25.toInt ∧ x25.toInt ≤ 1 := nr_nela c27 i26 (show (0 : Int) ≤ (0 : Int32).toInt ∧ (0 : Int32).toInt ≤ 0 by decide) (by decide) (by decide)
        try unfold fM_chooseCells_155
        try unfold fM_chooseCells_160
        refine tt_n (ix_ok i24 (by decide) (by decide)) ?_
        refine tt_ko ?_
        have k43 := ok_xp (k := 72) (i := x23.toNatClampNeg) (v := (vp_nar .boolean 1)) k_o0 (iv_nz _)
        have r44 := fr_xp (k := 72) (i := x23.toNatClampNeg) (v := (vp_nar .boolean 1)) r_o0 rfl
        refine tt_kv (P := fun z => ((1 : Int) ≤ z.toInt ∧ z.toInt ≤ 5) ∧ z.toInt = v2.toInt + 1) ⟨iv_add i8 (show (1 : Int) ≤ (1 : Int32).toInt ∧ (1 : Int32).toInt ≤ 1 by decide) (by decide) (by decide) (by decide) (by decide), iq_add i8 (show (1 : Int) ≤ (1 : Int32).toInt ∧ (1 : Int32).toInt ≤ 1 by decide) (by decide) (by decide)⟩ (fun x45 qi46 => ?_)
        obtain ⟨i46, ei46⟩ := qi46
        exact H.2.2.2 _ _ _ k43 r44 i_v1 (iv_w (a := 0) (b := 5) (by decide) (by decide) i46) f_o0_0 f_o0_38 f_o0_65 f_o0_66 f_o0_95 (show 0 + (v1.toInt - 0 - 1) * 14 + 1 + (5 - x45.toInt) * 2 < (n : Int) by omega)
set_option maxHeartbeats 4000000 in
set_option maxRecDepth 100000 in
theorem tM_chooseCells_83 {yo0 : cf_O} {n : Nat} (H : HM_chooseCells yo0 n) (v1 : Int32) (o0 : cf_O) (k_o0 : okO I_M o0) (r_o0 : Fr (fr_M [73] [72, 74] []) yo0 o0) (i_v1 : (0 : Int) ≤ v1.toInt ∧ v1.toInt ≤ 208) (f_o0_0 : (0 : Int) ≤ (o0.1 0).toInt ∧ (o0.1 0).toInt ≤ 0) (f_o0_38 : (1 : Int) ≤ (o0.1 38).toInt ∧ (o0.1 38).toInt ≤ 1) (f_o0_65 : (2 : Int) ≤ (o0.1 65).toInt ∧ (o0.1 65).toInt ≤ 5) (f_o0_66 : (0 : Int) ≤ (o0.1 66).toInt ∧ (o0.1 66).toInt ≤ 0) (f_o0_95 : (0 : Int) ≤ (o0.1 95).toInt ∧ (o0.1 95).toInt ≤ 0) (hm : 0 + (v1.toInt - 0) * 14 ≤ (n : Int)) : tt (fM_chooseCells_83 (gM_chooseCells n) v1 o0) (QM_chooseCells yo0) := by
  unfold fM_chooseCells_83
  try unfold fM_base
  try unfold fM_base_0
  refine tt_bkv (P := fun z => ((1 : Int) ≤ z.toInt ∧ z.toInt ≤ 9) ∧ z.toInt = (o0.1 39).toInt + 1) ⟨iv_add (k_o0.1 39) (show (1 : Int) ≤ (1 : Int32).toInt ∧ (1 : Int32).toInt ≤ 1 by decide) (by decide) (by decide) (by decide) (by decide), iq_add (k_o0.1 39) (show (1 : Int) ≤ (1 : Int32).toInt ∧ (1 : Int32).toInt ≤ 1 by decide) (by decide) (by decide)⟩ (fun x1 qi2 => ?_)
  obtain ⟨i2, ei2⟩ := qi2
  refine tt_bs ?_
  refine tt_if (fun c3 => ?_) (fun c3 => ?_)
  · have wc3 : v1.toInt < x1.toInt := c_lt c3
    have i4 : (0 : Int) ≤ v1.toInt ∧ v1.toInt ≤ 8 := nr_ltl c3 i_v1 i2 (by decide) (by decide)
    refine tt_b (sM_listCells _ k_o0 (iv_w (a := 0) (b := 2) (by decide) (by decide) f_o0_0) f_o0_38 f_o0_95) (fun q5 hq5 => ?_)
    obtain ⟨k_q5, n_q5, zq5_0, -⟩ := hq5
    have r_q5 := fr_tr r_o0 n_q5 rfl rfl rfl
    have f_q5_0 : (0 : Int) ≤ (q5.1 0).toInt ∧ (q5.1 0).toInt ≤ 0 := by rw [n_q5.1 0 rfl]; exact f_o0_0
    have f_q5_65 : (2 : Int) ≤ (q5.1 65).toInt ∧ (q5.1 65).toInt ≤ 5 := by rw [n_q5.1 65 rfl]; exact f_o0_65
    have f_q5_66 : (0 : Int) ≤ (q5.1 66).toInt ∧ (q5.1 66).toInt ≤ 0 := by rw [n_q5.1 66 rfl]; exact f_o0_66
    have f_q5_38 : (1 : Int) ≤ (q5.1 38).toInt ∧ (q5.1 38).toInt ≤ 1 := by rw [n_q5.1 38 rfl]; exact f_o0_38
    have f_q5_95 : (0 : Int) ≤ (q5.1 95).toInt ∧ (q5.1 95).toInt ≤ 0 := by rw [n_q5.1 95 rfl]; exact f_o0_95
    exact tt_some ⟨k_q5, r_q5, zq5_0, trivial⟩
  · have wc3 : x1.toInt ≤ v1.toInt := c_nlt c3
    have i6 : (1 : Int) ≤ v1.toInt ∧ v1.toInt ≤ 208 := nr_nltr c3 i2 i_v1 (by decide) (by decide)
    exact H.2.2.2 _ _ _ k_o0 r_o0 i6 (iv_w (a := 0) (b := 5) (by decide) (by decide) (show (0 : Int) ≤ (0 : Int32).toInt ∧ (0 : Int32).toInt ≤ 0 by decide)) f_o0_0 f_o0_38 f_o0_65 f_o0_66 f_o0_95 (show 0 + (v1.toInt - 0 - 1) * 14 + 1 + (5 - 0) * 2 < (n : Int) by omega)
set_option maxHeartbeats 4000000 in
set_option maxRecDepth 100000 in
theorem tM_chooseCells_24 {yo0 : cf_O} {n : Nat} (H : HM_chooseCells yo0 n) (v1 : Int32) (o0 : cf_O) (k_o0 : okO I_M o0) (r_o0 : Fr (fr_M [73] [72, 74] []) yo0 o0) (i_v1 : (0 : Int) ≤ v1.toInt ∧ v1.toInt ≤ 6) (f_o0_0 : (0 : Int) ≤ (o0.1 0).toInt ∧ (o0.1 0).toInt ≤ 0) (f_o0_38 : (1 : Int) ≤ (o0.1 38).toInt ∧ (o0.1 38).toInt ≤ 1) (f_o0_65 : (2 : Int) ≤ (o0.1 65).toInt ∧ (o0.1 65).toInt ≤ 5) (f_o0_66 : (0 : Int) ≤ (o0.1 66).toInt ∧ (o0.1 66).toInt ≤ 0) (f_o0_95 : (0 : Int) ≤ (o0.1 95).toInt ∧ (o0.1 95).toInt ≤ 0) (hm : 2914 + (6 - v1.toInt) * 2 ≤ (n : Int)) : tt (fM_chooseCells_24 (gM_chooseCells n) v1 o0) (QM_chooseCells yo0) := by
  unfold fM_chooseCells_24
  refine tt_if (fun c1 => ?_) (fun c1 => ?_)
  · have wc1 : (o0.1 40).toInt ≤ v1.toInt := c_le c1
    try unfold fM_base
    try unfold fM_base_0
    refine tt_bkv (P := fun z => ((1 : Int) ≤ z.toInt ∧ z.toInt ≤ 9) ∧ z.toInt = (o0.1 39).toInt + 1) ⟨iv_add (k_o0.1 39) (show (1 : Int) ≤ (1 : Int32).toInt ∧ (1 : Int32).toInt ≤ 1 by decide) (by decide) (by decide) (by decide) (by decide), iq_add (k_o0.1 39) (show (1 : Int) ≤ (1 : Int32).toInt ∧ (1 : Int32).toInt ≤ 1 by decide) (by decide) (by decide)⟩ (fun x2 qi3 => ?_)
    obtain ⟨i3, ei3⟩ := qi3
    refine tt_bs ?_
    refine tt_kv (P := fun z => ((1 : Int) ≤ z.toInt ∧ z.toInt ≤ 209) ∧ z.toInt = x2.toInt + (o0.1 43).toInt) ⟨iv_add i3 (k_o0.1 43) (by decide) (by decide) (by decide) (by decide), iq_add i3 (k_o0.1 43) (by decide) (by decide)⟩ (fun x4 qi5 => ?_)
    obtain ⟨i5, ei5⟩ := qi5
    refine tt_kv (P := fun z => ((0 : Int) ≤ z.toInt ∧ z.toInt ≤ 208) ∧ z.toInt = x4.toInt - 1) ⟨iv_sub i5 (show (1 : Int) ≤ (1 : Int32).toInt ∧ (1 : Int32).toInt ≤ 1 by decide) (by decide) (by decide) (by decide) (by decide), iq_sub i5 (show (1 : Int) ≤ (1 : Int32).toInt ∧ (1 : Int32).toInt ≤ 1 by decide) (by decide) (by decide)⟩ (fun x6 qi7 => ?_)
    obtain ⟨i7, ei7⟩ := qi7
    exact H.2.2.1 _ _ k_o0 r_o0 i7 f_o0_0 f_o0_38 f_o0_65 f_o0_66 f_o0_95 (show 0 + (x6.toInt - 0) * 14 < (n : Int) by omega)
  · have wc1 : v1.toInt < (o0.1 40).toInt := c_nle c1
    have i8 : (0 : Int) ≤ v1.toInt ∧ v1.toInt ≤ 5 := nr_nlel c1 i_v1 (k_o0.1 40) (by decide) (by decide)
    have i9 : (1 : Int) ≤ (o0.1 40).toInt ∧ (o0.1 40).toInt ≤ 6 := nr_nler c1 i_v1 (k_o0.1 40) (by decide) (by decide)
    refine tt_n (ix_ok i8 (by decide) (by decide)) ?_
    refine tt_kv (P := fun z => ((0 : Int) ≤ z.toInt ∧ z.toInt ≤ 417) ∧ z.toInt = (o0.2.1 47 v1.toNatClampNeg).toInt) ⟨(k_o0.2 47 _), rfl⟩ (fun x10 qi11 => ?_)
    obtain ⟨i11, ei11⟩ := qi11
    refine tt_kv (P := fun z => ((0 : Int) ≤ z.toInt ∧ z.toInt ≤ 208) ∧ z.toInt = x10.toInt / 2) ⟨iv_div (k := 2) i11 (show (2 : Int) ≤ (2 : Int32).toInt ∧ (2 : Int32).toInt ≤ 2 by decide) (by decide) (by decide) (by decide) (by decide), i_dv (Int.le_trans (by decide) i11.1) (by decide)⟩ (fun x12 qi13 => ?_)
    obtain ⟨i13, ei13⟩ := qi13
    refine tt_n (ix_ok i8 (by decide) (by decide)) ?_
    refine tt_kv (P := fun z => ((0 : Int) ≤ z.toInt ∧ z.toInt ≤ 417) ∧ z.toInt = (o0.2.1 47 v1.toNatClampNeg).toInt) ⟨(k_o0.2 47 _), rfl⟩ (fun x14 qi15 => ?_)
    obtain ⟨i15, ei15⟩ := qi15
    refine tt_kv (P := fun z => ((0 : Int) ≤ z.toInt ∧ z.toInt ≤ 208) ∧ z.toInt = x14.toInt / 2) ⟨iv_div (k := 2) i15 (show (2 : Int) ≤ (2 : Int32).toInt ∧ (2 : Int32).toInt ≤ 2 by decide) (by decide) (by decide) (by decide) (by decide), i_dv (Int.le_trans (by decide) i15.1) (by decide)⟩ (fun x16 qi17 => ?_)
    obtain ⟨i17, ei17⟩ := qi17
    try unfold fM_base
    try unfold fM_base_0
    refine tt_bkv (P := fun z => ((1 : Int) ≤ z.toInt ∧ z.toInt ≤ 9) ∧ z.toInt = (o0.1 39).toInt + 1) ⟨iv_add (k_o0.1 39) (show (1 : Int) ≤ (1 : Int32).toInt ∧ (1 : Int32).toInt ≤ 1 by decide) (by decide) (by decide) (by decide) (by decide), iq_add (k_o0.1 39) (show (1 : Int) ≤ (1 : Int32).toInt ∧ (1 : Int32).toInt ≤ 1 by decide) (by decide) (by decide)⟩ (fun x18 qi19 => ?_)
    obtain ⟨i19, ei19⟩ := qi19
    refine tt_bs ?_
    refine tt_if (fun c20 => ?_) (fun c20 => ?_)
    · have wc20 : x16.toInt < x18.toInt := c_lt c20
      have i21 : (0 : Int) ≤ x16.toInt ∧ x16.toInt ≤ 8 := nr_ltl c20 i17 i19 (by decide) (by decide)
      try unfold fM_chooseCells_64
      refine tt_n (ix_ok i13 (by decide) (by decide)) ?_
      refine tt_ko ?_
      have k22 := ok_xp (k := 72) (i := x12.toNatClampNeg) (v := (vp_nar .boolean 0)) k_o0 (iv_nz _)
      have r23 := fr_xp (k := 72) (i := x12.toNatClampNeg) (v := (vp_nar .boolean 0)) r_o0 rfl
      refine tt_kv (P := fun z => ((1 : Int) ≤ z.toInt ∧ z.toInt ≤ 6) ∧ z.toInt = v1.toInt + 1) ⟨iv_add i8 (show (1 : Int) ≤ (1 : Int32).toInt ∧ (1 : Int32).toInt ≤ 1 by decide) (by decide) (by decide) (by decide) (by decide), iq_add i8 (show (1 : Int) ≤ (1 : Int32).toInt ∧ (1 : Int32).toInt ≤ 1 by decide) (by decide) (by decide)⟩ (fun x24 qi25 => ?_)
      obtain ⟨i25, ei25⟩ := qi25
      exact H.2.1 _ _ k22 r23 (iv_w (a := 0) (b := 6) (by decide) (by decide) i25) f_o0_0 f_o0_38 f_o0_65 f_o0_66 f_o0_95 (show 2914 + (6 - x24.toInt) * 2 < (n : Int) by omega)
    · have wc20 : x18.toInt ≤ x16.toInt := c_nlt c20
      have i26 : (1 : Int) ≤ x16.toInt ∧ x16.toInt ≤ 208 := nr_nltr c20 i19 i17 (by decide) (by decide)
      try unfold fM_chooseCells_64
      refine tt_n (ix_ok i13 (by decide) (by decide)) ?_
      refine tt_ko ?_
      have k27 := ok_xp (k := 72) (i := x12.toNatClampNeg) (v := (vp_nar .boolean 1)) k_o0 (iv_nz _)
      have r28 := fr_xp (k := 72) (i := x12.toNatClampNeg) (v := (vp_nar .boolean 1)) r_o0 rfl
      refine tt_kv (P := fun z => ((1 : Int) ≤ z.toInt ∧ z.toInt ≤ 6) ∧ z.toInt = v1.toInt + 1) ⟨iv_add i8 (show (1 : Int) ≤ (1 : Int32).toInt ∧ (1 : Int32).toInt ≤ 1 by decide) (by decide) (by decide) (by decide) (by decide), iq_add i8 (show (1 : Int) ≤ (1 : Int32).toInt ∧ (1 : Int32).toInt ≤ 1 by decide) (by decide) (by decide)⟩ (fun x29 qi30 => ?_)
      obtain ⟨i30, ei30⟩ := qi30
      exact H.2.1 _ _ k27 r28 (iv_w (a := 0) (b := 6) (by decide) (by decide) i30) f_o0_0 f_o0_38 f_o0_65 f_o0_66 f_o0_95 (show 2914 + (6 - x29.toInt) * 2 < (n : Int) by omega)
set_option maxHeartbeats 4000000 in
set_option maxRecDepth 100000 in
theorem tM_chooseCells_2 {yo0 : cf_O} {n : Nat} (H : HM_chooseCells yo0 n) (v1 : Int32) (o0 : cf_O) (k_o0 : okO I_M o0) (r_o0 : Fr (fr_M [73] [72, 74] []) yo0 o0) (i_v1 : (0 : Int) ≤ v1.toInt ∧ v1.toInt ≤ 210) (f_o0_0 : (0 : Int) ≤ (o0.1 0).toInt ∧ (o0.1 0).toInt ≤ 0) (f_o0_38 : (1 : Int) ≤ (o0.1 38).toInt ∧ (o0.1 38).toInt ≤ 1) (f_o0_65 : (2 : Int) ≤ (o0.1 65).toInt ∧ (o0.1 65).toInt ≤ 5) (f_o0_66 : (0 : Int) ≤ (o0.1 66).toInt ∧ (o0.1 66).toInt ≤ 0) (f_o0_95 : (0 : Int) ≤ (o0.1 95).toInt ∧ (o0.1 95).toInt ≤ 0) (hm : 2928 + (210 - v1.toInt) * 2 ≤ (n : Int)) : tt (fM_chooseCells_2 (gM_chooseCells n) v1 o0) (QM_chooseCells yo0) := by
  unfold fM_chooseCells_2
  refine tt_if (fun c1 => ?_) (fun c1 => ?_)
  · have wc1 : (210 : Int) ≤ v1.toInt := c_le c1
    have i2 : (210 : Int) ≤ v1.toInt ∧ v1.toInt ≤ 210 := nr_ler c1 (show (210 : Int) ≤ (210 : Int32).toInt ∧ (210 : Int32).toInt ≤ 210 by decide) i_v1 (by decide) (by decide)
    exact H.2.1 _ _ k_o0 r_o0 (iv_w (a := 0) (b := 6) (by decide) (by decide) (show (0 : Int) ≤ (0 : Int32).toInt ∧ (0 : Int32).toInt ≤ 0 by decide)) f_o0_0 f_o0_38 f_o0_65 f_o0_66 f_o0_95 (show 2914 + (6 - 0) * 2 < (n : Int) by omega)
  · have wc1 : v1.toInt < (210 : Int) := c_nle c1
    have i3 : (0 : Int) ≤ v1.toInt ∧ v1.toInt ≤ 209 := nr_nlel c1 i_v1 (show (210 : Int) ≤ (210 : Int32).toInt ∧ (210 : Int32).toInt ≤ 210 by decide) (by decide) (by decide)
    refine tt_n (ix_ok i3 (by decide) (by decide)) ?_
    refine tt_ko ?_
    have k4 := ok_xp (k := 72) (i := v1.toNatClampNeg) (v := (vp_nar .boolean 0)) k_o0 (iv_nz _)
    have r5 := fr_xp (k := 72) (i := v1.toNatClampNeg) (v := (vp_nar .boolean 0)) r_o0 rfl
    refine tt_kv (P := fun z => ((1 : Int) ≤ z.toInt ∧ z.toInt ≤ 210) ∧ z.toInt = v1.toInt + 1) ⟨iv_add i3 (show (1 : Int) ≤ (1 : Int32).toInt ∧ (1 : Int32).toInt ≤ 1 by decide) (by decide) (by decide) (by decide) (by decide), iq_add i3 (show (1 : Int) ≤ (1 : Int32).toInt ∧ (1 : Int32).toInt ≤ 1 by decide) (by decide) (by decide)⟩ (fun x6 qi7 => ?_)
    obtain ⟨i7, ei7⟩ := qi7
    exact H.1 _ _ k4 r5 (iv_w (a := 0) (b := 210) (by decide) (by decide) i7) f_o0_0 f_o0_38 f_o0_65 f_o0_66 f_o0_95 (show 2928 + (210 - x6.toInt) * 2 < (n : Int) by omega)
set_option maxHeartbeats 4000000 in
set_option maxRecDepth 100000 in
theorem hM_chooseCells (yo0 : cf_O) : ∀ n, HM_chooseCells yo0 n := by
  intro n
  induction n with
  | zero => exact ⟨(fun v1 o0 k_o0 r_o0 i_v1 f_o0_0 f_o0_38 f_o0_65 f_o0_66 f_o0_95 hm => by exact absurd (show 2928 + (210 - v1.toInt) * 2 < (0 : Int) from hm) (by omega)), (fun v1 o0 k_o0 r_o0 i_v1 f_o0_0 f_o0_38 f_o0_65 f_o0_66 f_o0_95 hm => by exact absurd (show 2914 + (6 - v1.toInt) * 2 < (0 : Int) from hm) (by omega)), (fun v1 o0 k_o0 r_o0 i_v1 f_o0_0 f_o0_38 f_o0_65 f_o0_66 f_o0_95 hm => by exact absurd (show 0 + (v1.toInt - 0) * 14 < (0 : Int) from hm) (by omega)), (fun v1 v2 o0 k_o0 r_o0 i_v1 i_v2 f_o0_0 f_o0_38 f_o0_65 f_o0_66 f_o0_95 hm => by exact absurd (show 0 + (v1.toInt - 0 - 1) * 14 + 1 + (5 - v2.toInt) * 2 < (0 : Int) from hm) (by omega))⟩
  | succ n ih => exact ⟨(fun v1 o0 k_o0 r_o0 i_v1 f_o0_0 f_o0_38 f_o0_65 f_o0_66 f_o0_95 hm => tM_chooseCells_2 ih v1 o0 k_o0 r_o0 i_v1 f_o0_0 f_o0_38 f_o0_65 f_o0_66 f_o0_95 (by omega)), (fun v1 o0 k_o0 r_o0 i_v1 f_o0_0 f_o0_38 f_o0_65 f_o0_66 f_o0_95 hm => tM_chooseCells_24 ih v1 o0 k_o0 r_o0 i_v1 f_o0_0 f_o0_38 f_o0_65 f_o0_66 f_o0_95 (by omega)), (fun v1 o0 k_o0 r_o0 i_v1 f_o0_0 f_o0_38 f_o0_65 f_o0_66 f_o0_95 hm => tM_chooseCells_83 ih v1 o0 k_o0 r_o0 i_v1 f_o0_0 f_o0_38 f_o0_65 f_o0_66 f_o0_95 (by omega)), (fun v1 v2 o0 k_o0 r_o0 i_v1 i_v2 f_o0_0 f_o0_38 f_o0_65 f_o0_66 f_o0_95 hm => tM_chooseCells_93 ih v1 v2 o0 k_o0 r_o0 i_v1 i_v2 f_o0_0 f_o0_38 f_o0_65 f_o0_66 f_o0_95 (by omega))⟩
set_option maxHeartbeats 4000000 in
set_option maxRecDepth 100000 in
theorem sM_chooseCells (o0 : cf_O) (k_o0 : okO I_M o0) (f_o0_0 : (0 : Int) ≤ (o0.1 0).toInt ∧ (o0.1 0).toInt ≤ 0) (f_o0_36 : (0 : Int) ≤ (o0.1 36).toInt ∧ (o0.1 36).toInt ≤ 1) (f_o0_38 : (1 : Int) ≤ (o0.1 38).toInt ∧ (o0.1 38).toInt ≤ 1) (f_o0_65 : (2 : Int) ≤ (o0.1 65).toInt ∧ (o0.1 65).toInt ≤ 5) (f_o0_66 : (0 : Int) ≤ (o0.1 66).toInt ∧ (o0.1 66).toInt ≤ 0) (f_o0_95 : (0 : Int) ≤ (o0.1 95).toInt ∧ (o0.1 95).toInt ≤ 0) : tt (fM_chooseCells o0) (QM_chooseCells o0) := by
  have H := hM_chooseCells o0 cfFU
  have hm : (3351 : Int) ≤ (cfFU : Nat) := by decide
  have r_o0 : Fr (fr_M [73] [72, 74] []) o0 o0 := fr_rfl
  unfold fM_chooseCells fM_chooseCells_0
  exact H.1 _ _ k_o0 r_o0 (iv_w (a := 0) (b := 210) (by decide) (by decide) (show (0 : Int) ≤ (0 : Int32).toInt ∧ (0 : Int32).toInt ≤ 0 by decide)) f_o0_0 f_o0_38 f_o0_65 f_o0_66 f_o0_95 (show 2928 + (210 - 0) * 2 < ((cfFU : Nat) : Int) by omega)
