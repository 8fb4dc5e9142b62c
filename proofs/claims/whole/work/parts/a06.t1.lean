def QM_thrown (o0 : cf_O) (r : (Int32)) : Prop := ((0 : Int) ≤ r.toInt ∧ r.toInt ≤ 3) ∧ True
set_option maxHeartbeats 4000000 in
set_option maxRecDepth 100000 in
theorem sM_thrown (o0 : cf_O) (k_o0 : okO I_M o0) (f_o0_95 : (0 : Int) ≤ (o0.1 95).toInt ∧ (o0.1 95).toInt ≤ 0) : tt (fM_thrown o0) (QM_thrown o0) := by
  have r_o0 : Fr (fr_M [] [] []) o0 o0 := fr_rfl
  unfold fM_thrown fM_thrown_0
  exact tt_some ⟨(k_o0.1 0), trivial⟩
def QM_put (v1 : Int32) (o0 : cf_O) (r : (Int32 × cf_O)) : Prop := ((0 : Int) ≤ r.1.toInt ∧ r.1.toInt ≤ 1600) ∧ (okO I_M r.2) ∧ (Fr (fr_M [0, 2] [1] []) o0 r.2) ∧ ((0 : Int) ≤ (r.2.1 0).toInt ∧ (r.2.1 0).toInt ≤ 2) ∧ True
def HM_put (yv1 : Int32) (yo0 : cf_O) (n : Nat) : Prop := (∀ (v1 : Int32) (v2 : Int32) (v3 : Int32) (v4 : Int32) (o0 : cf_O), (okO I_M o0) → (Fr (fr_M [0, 2] [1] []) yo0 o0) → ((0 : Int) ≤ v2.toInt ∧ v2.toInt ≤ 4) → ((0 : Int) ≤ v3.toInt ∧ v3.toInt ≤ 1) → ((0 : Int) ≤ v4.toInt ∧ v4.toInt ≤ 4) → ((0 : Int) ≤ (o0.1 95).toInt ∧ (o0.1 95).toInt ≤ 0) → (v2.toInt + cz v1 v4.toInt = cz v1 0) → 10 + (4 - v4.toInt) * 2 < (n : Int) → tt (gM_put n 0 v1 v2 v3 v4 o0) (QM_put yv1 yo0)) ∧ (∀ (v1 : Int32) (v4 : Int32) (o0 : cf_O), (okO I_M o0) → (Fr (fr_M [0, 2] [1] []) yo0 o0) → ((0 : Int) ≤ v4.toInt ∧ v4.toInt ≤ 4) → ((0 : Int) ≤ (o0.1 0).toInt ∧ (o0.1 0).toInt ≤ 0) → ((0 : Int) ≤ (o0.1 95).toInt ∧ (o0.1 95).toInt ≤ 0) → ((o0.1 2).toInt + cz v1 v4.toInt ≤ 1600) → 0 + (4 - v4.toInt) * 2 < (n : Int) → tt (gM_put n 1 v1 0 0 v4 o0) (QM_put yv1 yo0))
set_option maxHeartbeats 4000000 in
set_option maxRecDepth 100000 in
theorem tM_put_118 {yv1 : Int32} {yo0 : cf_O} {n : Nat} (H : HM_put yv1 yo0 n) (v1 : Int32) (v4 : Int32) (o0 : cf_O) (k_o0 : okO I_M o0) (r_o0 : Fr (fr_M [0, 2] [1] []) yo0 o0) (i_v4 : (0 : Int) ≤ v4.toInt ∧ v4.toInt ≤ 4) (f_o0_0 : (0 : Int) ≤ (o0.1 0).toInt ∧ (o0.1 0).toInt ≤ 0) (f_o0_95 : (0 : Int) ≤ (o0.1 95).toInt ∧ (o0.1 95).toInt ≤ 0) (x_0 : (o0.1 2).toInt + cz v1 v4.toInt ≤ 1600) (hm : 0 + (4 - v4.toInt) * 2 ≤ (n : Int)) : tt (fM_put_118 (gM_put n) v1 v4 o0) (QM_put yv1 yo0) := by
  unfold fM_put_118
  have i_v1 := iv_top v1
  have g_o0_2 : (0 : Int) ≤ (o0.1 2).toInt ∧ (o0.1 2).toInt ≤ 1600 := k_o0.1 2
  have t1 := cz_b v1 v4.toInt
  have t2 := cz_b v1 (v4.toInt + 1)
  refine tt_if (fun c3 => ?_) (fun c3 => ?_)
  · have wc3 : (4 : Int) ≤ v4.toInt := c_le c3
    have i4 : (4 : Int) ≤ v4.toInt ∧ v4.toInt ≤ 4 := nr_ler c3 (show (4 : Int) ≤ (4 : Int32).toInt ∧ (4 : Int32).toInt ≤ 4 by decide) i_v4 (by decide) (by decide)
    exact tt_some ⟨(k_o0.1 2), k_o0, r_o0, (iv_w (a := 0) (b := 2) (by decide) (by decide) f_o0_0), trivial⟩
  · have wc3 : v4.toInt < (4 : Int) := c_nle c3
    have i5 : (0 : Int) ≤ v4.toInt ∧ v4.toInt ≤ 3 := nr_nlel c3 i_v4 (show (4 : Int) ≤ (4 : Int32).toInt ∧ (4 : Int32).toInt ≤ 4 by decide) (by decide) (by decide)
    refine tt_kv (P := fun z => ((0 : Int) ≤ z.toInt ∧ z.toInt ≤ 24) ∧ z = (8 * v4) ∧ z.toInt = 8 * v4.toInt) ⟨iv_mul (show (8 : Int) ≤ (8 : Int32).toInt ∧ (8 : Int32).toInt ≤ 8 by decide) i5 (by decide) (by decide) (by decide) (by decide) (by decide), rfl, iq_mul (show (8 : Int) ≤ (8 : Int32).toInt ∧ (8 : Int32).toInt ≤ 8 by decide) i5 (by decide) (by decide) (by decide) (by decide)⟩ (fun x6 qi7 => ?_)
    obtain ⟨i7, ax6, ei7⟩ := qi7
    refine tt_kv (P := fun z => (((-2147483648) : Int) ≤ z.toInt ∧ z.toInt ≤ 2147483647) ∧ z = (v1 >>> (x6 &&& 31))) ⟨iv_top _, rfl⟩ (fun x8 qi9 => ?_)
    obtain ⟨i9, ax8⟩ := qi9
    refine tt_kv (P := fun z => ((0 : Int) ≤ z.toInt ∧ z.toInt ≤ 255) ∧ z = (x8 &&& 255)) ⟨iv_and (show (255 : Int) ≤ (255 : Int32).toInt ∧ (255 : Int32).toInt ≤ 255 by decide) (by decide) (by decide) (by decide), rfl⟩ (fun x10 qi11 => ?_)
    obtain ⟨i11, ax10⟩ := qi11
    have t12 := cz_h ax6 ax8 ax10
    refine tt_if (fun c13 => ?_) (fun c13 => ?_)
    · have wc13 : x10.toInt ≤ (0 : Int) := c_le c13
      have i14 : (0 : Int) ≤ x10.toInt ∧ x10.toInt ≤ 0 := nr_lel c13 i11 (show (0 : Int) ≤ (0 : Int32).toInt ∧ (0 : Int32).toInt ≤ 0 by decide) (by decide) (by decide)
      try unfold fM_put_163
      refine tt_kv (P := fun z => ((1 : Int) ≤ z.toInt ∧ z.toInt ≤ 4) ∧ z = (v4 + 1) ∧ z.toInt = v4.toInt + 1) ⟨iv_add i5 (show (1 : Int) ≤ (1 : Int32).toInt ∧ (1 : Int32).toInt ≤ 1 by decide) (by decide) (by decide) (by decide) (by decide), rfl, iq_add i5 (show (1 : Int) ≤ (1 : Int32).toInt ∧ (1 : Int32).toInt ≤ 1 by decide) (by decide) (by decide)⟩ (fun x15 qi16 => ?_)
      obtain ⟨i16, ax15, ei16⟩ := qi16
      have t17 : cz v1 x15.toInt = cz v1 (v4.toInt + 1) := by rw [ei16]
      exact H.2 _ _ _ k_o0 r_o0 (iv_w (a := 0) (b := 4) (by decide) (by decide) i16) f_o0_0 f_o0_95 (show (o0.1 2).toInt + cz v1 x15.toInt ≤ 1600 by omega) (show 0 + (4 - x15.toInt) * 2 < (n : Int) by omega)
    · have wc13 : (0 : Int) < x10.toInt := c_nle c13
      have i18 : (1 : Int) ≤ x10.toInt ∧ x10.toInt ≤ 255 := nr_nler c13 (show (0 : Int) ≤ (0 : Int32).toInt ∧ (0 : Int32).toInt ≤ 0 by decide) i11 (by decide) (by decide)
      refine tt_n (ix_rel (x := (o0.1 2)) (by omega) (by omega)) ?_
      have i19 : (0 : Int) ≤ (o0.1 2).toInt ∧ (o0.1 2).toInt ≤ 1599 := (by omega)
      refine tt_ko ?_
      have k20 := ok_xp (k := 1) (i := (o0.1 2).toNatClampNeg) (v := x10) k_o0 (iv_w (a := 0) (b := 255) (by decide) (by decide) i18)
      have r21 := fr_xp (k := 1) (i := (o0.1 2).toNatClampNeg) (v := x10) r_o0 rfl
      refine tt_kv (P := fun z => ((1 : Int) ≤ z.toInt ∧ z.toInt ≤ 1600) ∧ z = ((o0.1 2) + 1) ∧ z.toInt = (o0.1 2).toInt + 1) ⟨iv_add i19 (show (1 : Int) ≤ (1 : Int32).toInt ∧ (1 : Int32).toInt ≤ 1 by decide) (by decide) (by decide) (by decide) (by decide), rfl, iq_add i19 (show (1 : Int) ≤ (1 : Int32).toInt ∧ (1 : Int32).toInt ≤ 1 by decide) (by decide) (by decide)⟩ (fun x22 qi23 => ?_)
      obtain ⟨i23, ax22, ei23⟩ := qi23
      refine tt_ko ?_
      have k24 := ok_fp (k := 2) (v := x22) k20 (iv_w (a := 0) (b := 1600) (by decide) (by decide) i23)
      have r25 := fr_fp (k := 2) (v := x22) r21 rfl
      try unfold fM_put_163
      refine tt_kv (P := fun z => ((1 : Int) ≤ z.toInt ∧ z.toInt ≤ 4) ∧ z = (v4 + 1) ∧ z.toInt = v4.toInt + 1) ⟨iv_add i5 (show (1 : Int) ≤ (1 : Int32).toInt ∧ (1 : Int32).toInt ≤ 1 by decide) (by decide) (by decide) (by decide) (by decide), rfl, iq_add i5 (show (1 : Int) ≤ (1 : Int32).toInt ∧ (1 : Int32).toInt ≤ 1 by decide) (by decide) (by decide)⟩ (fun x26 qi27 => ?_)
      obtain ⟨i27, ax26, ei27⟩ := qi27
      have t28 : cz v1 x26.toInt = cz v1 (v4.toInt + 1) := by rw [ei27]
      exact H.2 _ _ _ k24 r25 (iv_w (a := 0) (b := 4) (by decide) (by decide) i27) f_o0_0 f_o0_95 (show x22.toInt + cz v1 x26.toInt ≤ 1600 by omega) (show 0 + (4 - x26.toInt) * 2 < (n : Int) by omega)
set_option maxHeartbeats 4000000 in
set_option maxRecDepth 100000 in
theorem tM_put_7 {yv1 : Int32} {yo0 : cf_O} {n : Nat} (H : HM_put yv1 yo0 n) (v1 : Int32) (v2 : Int32) (v3 : Int32) (v4 : Int32) (o0 : cf_O) (k_o0 : okO I_M o0) (r_o0 : Fr (fr_M [0, 2] [1] []) yo0 o0) (i_v2 : (0 : Int) ≤ v2.toInt ∧ v2.toInt ≤ 4) (i_v3 : (0 : Int) ≤ v3.toInt ∧ v3.toInt ≤ 1) (i_v4 : (0 : Int) ≤ v4.toInt ∧ v4.toInt ≤ 4) (f_o0_95 : (0 : Int) ≤ (o0.1 95).toInt ∧ (o0.1 95).toInt ≤ 0) (x_0 : v2.toInt + cz v1 v4.toInt = cz v1 0) (hm : 10 + (4 - v4.toInt) * 2 ≤ (n : Int)) : tt (fM_put_7 (gM_put n) v1 v2 v3 v4 o0) (QM_put yv1 yo0) := by
  unfold fM_put_7
  have i_v1 := iv_top v1
  have g_o0_2 : (0 : Int) ≤ (o0.1 2).toInt ∧ (o0.1 2).toInt ≤ 1600 := k_o0.1 2
  have t1 := cz_b v1 v4.toInt
  have t2 := cz_b v1 0
  have t3 := cz_e v1 v4.toInt
  have t4 := cz_b v1 (v4.toInt + 1)
  refine tt_if (fun c5 => ?_) (fun c5 => ?_)
  · have wc5 : (4 : Int) ≤ v4.toInt := c_le c5
    have i6 : (4 : Int) ≤ v4.toInt ∧ v4.toInt ≤ 4 := nr_ler c5 (show (4 : Int) ≤ (4 : Int32).toInt ∧ (4 : Int32).toInt ≤ 4 by decide) i_v4 (by decide) (by decide)
    refine tt_if (fun c7 => ?_) (fun c7 => ?_)
    · have wc7 : v3.toInt = (0 : Int) := c_eq c7
      have i8 : (0 : Int) ≤ v3.toInt ∧ v3.toInt ≤ 0 := nr_eql c7 i_v3 (show (0 : Int) ≤ (0 : Int32).toInt ∧ (0 : Int32).toInt ≤ 0 by decide) (by decide) (by decide)
      try unfold fM_put_89
      refine tt_kv (P := fun z => ((0 : Int) ≤ z.toInt ∧ z.toInt ≤ 1604) ∧ z = ((o0.1 2) + v2) ∧ z.toInt = (o0.1 2).toInt + v2.toInt) ⟨iv_add (k_o0.1 2) i_v2 (by decide) (by decide) (by decide) (by decide), rfl, iq_add (k_o0.1 2) i_v2 (by decide) (by decide)⟩ (fun x9 qi10 => ?_)
      obtain ⟨i10, ax9, ei10⟩ := qi10
      refine tt_if (fun c11 => ?_) (fun c11 => ?_)
      · have wc11 : x9.toInt ≤ (1600 : Int) := c_le c11
        have i12 : (0 : Int) ≤ x9.toInt ∧ x9.toInt ≤ 1600 := nr_lel c11 i10 (show (1600 : Int) ≤ (1600 : Int32).toInt ∧ (1600 : Int32).toInt ≤ 1600 by decide) (by decide) (by decide)
        try unfold fM_put_106
        try unfold fM_refuse
        try unfold fM_refuse_0
        refine tt_bif (fun c13 => ?_) (fun c13 => ?_)
        · have wc13 : (1 : Int) = (0 : Int) := c_eq c13
          exact (dd_eq c13 (show (1 : Int) ≤ (1 : Int32).toInt ∧ (1 : Int32).toInt ≤ 1 by decide) (show (0 : Int) ≤ (0 : Int32).toInt ∧ (0 : Int32).toInt ≤ 0 by decide) (by decide)).elim
        · have wc13 : ¬ (1 : Int) = (0 : Int) := c_ne c13
          try unfold fM_refuse_26
          refine tt_bko ?_
          have k14 := ok_fp (k := 0) (v := 1) k_o0 (iv_w (a := 0) (b := 3) (by decide) (by decide) (show (1 : Int) ≤ (1 : Int32).toInt ∧ (1 : Int32).toInt ≤ 1 by decide))
          have r15 := fr_fp (k := 0) (v := 1) r_o0 rfl
          refine tt_bif (fun c16 => ?_) (fun c16 => ?_)
          · have wc16 : (1 : Int) ≤ (0 : Int) := c_le c16
            exact (dd_le c16 (show (1 : Int) ≤ (1 : Int32).toInt ∧ (1 : Int32).toInt ≤ 1 by decide) (show (0 : Int) ≤ (0 : Int32).toInt ∧ (0 : Int32).toInt ≤ 0 by decide) (by decide)).elim
          · have wc16 : (0 : Int) < (1 : Int) := c_nle c16
            try unfold fM_refuse_41
            refine tt_bw (iv_b (show (1 : Int) ≤ (1 : Int32).toInt ∧ (1 : Int32).toInt ≤ 1 by decide) (by decide) (by decide)) ?_
            refine tt_bs ?_
            refine tt_if (fun c17 => ?_) (fun c17 => ?_)
            · have wc17 : (1 : Int) = (0 : Int) := c_eq c17
              exact (dd_eq c17 (show (1 : Int) ≤ (1 : Int32).toInt ∧ (1 : Int32).toInt ≤ 1 by decide) (show (0 : Int) ≤ (0 : Int32).toInt ∧ (0 : Int32).toInt ≤ 0 by decide) (by decide)).elim
            · have wc17 : ¬ (1 : Int) = (0 : Int) := c_ne c17
              exact tt_some ⟨(iv_w (a := 0) (b := 1600) (by decide) (by decide) (show (0 : Int) ≤ (0 : Int32).toInt ∧ (0 : Int32).toInt ≤ 0 by decide)), k14, r15, (iv_w (a := 0) (b := 2) (by decide) (by decide) (show (1 : Int) ≤ (1 : Int32).toInt ∧ (1 : Int32).toInt ≤ 1 by decide)), trivial⟩
      · have wc11 : (1600 : Int) < x9.toInt := c_nle c11
        have i18 : (1601 : Int) ≤ x9.toInt ∧ x9.toInt ≤ 1604 := nr_nler c11 (show (1600 : Int) ≤ (1600 : Int32).toInt ∧ (1600 : Int32).toInt ≤ 1600 by decide) i10 (by decide) (by decide)
        try unfold fM_put_106
        try unfold fM_refuse
        try unfold fM_refuse_0
        refine tt_bif (fun c19 => ?_) (fun c19 => ?_)
        · have wc19 : (1 : Int) = (0 : Int) := c_eq c19
          exact (dd_eq c19 (show (1 : Int) ≤ (1 : Int32).toInt ∧ (1 : Int32).toInt ≤ 1 by decide) (show (0 : Int) ≤ (0 : Int32).toInt ∧ (0 : Int32).toInt ≤ 0 by decide) (by decide)).elim
        · have wc19 : ¬ (1 : Int) = (0 : Int) := c_ne c19
          try unfold fM_refuse_26
          refine tt_bko ?_
          have k20 := ok_fp (k := 0) (v := 1) k_o0 (iv_w (a := 0) (b := 3) (by decide) (by decide) (show (1 : Int) ≤ (1 : Int32).toInt ∧ (1 : Int32).toInt ≤ 1 by decide))
          have r21 := fr_fp (k := 0) (v := 1) r_o0 rfl
          refine tt_bif (fun c22 => ?_) (fun c22 => ?_)
          · have wc22 : (1 : Int) ≤ (0 : Int) := c_le c22
            exact (dd_le c22 (show (1 : Int) ≤ (1 : Int32).toInt ∧ (1 : Int32).toInt ≤ 1 by decide) (show (0 : Int) ≤ (0 : Int32).toInt ∧ (0 : Int32).toInt ≤ 0 by decide) (by decide)).elim
          · have wc22 : (0 : Int) < (1 : Int) := c_nle c22
            try unfold fM_refuse_41
            refine tt_bw (iv_b (show (1 : Int) ≤ (1 : Int32).toInt ∧ (1 : Int32).toInt ≤ 1 by decide) (by decide) (by decide)) ?_
            refine tt_bs ?_
            refine tt_if (fun c23 => ?_) (fun c23 => ?_)
            · have wc23 : (1 : Int) = (0 : Int) := c_eq c23
              exact (dd_eq c23 (show (1 : Int) ≤ (1 : Int32).toInt ∧ (1 : Int32).toInt ≤ 1 by decide) (show (0 : Int) ≤ (0 : Int32).toInt ∧ (0 : Int32).toInt ≤ 0 by decide) (by decide)).elim
            · have wc23 : ¬ (1 : Int) = (0 : Int) := c_ne c23
              exact tt_some ⟨(iv_w (a := 0) (b := 1600) (by decide) (by decide) (show (0 : Int) ≤ (0 : Int32).toInt ∧ (0 : Int32).toInt ≤ 0 by decide)), k20, r21, (iv_w (a := 0) (b := 2) (by decide) (by decide) (show (1 : Int) ≤ (1 : Int32).toInt ∧ (1 : Int32).toInt ≤ 1 by decide)), trivial⟩
    · have wc7 : ¬ v3.toInt = (0 : Int) := c_ne c7
      have i24 : (1 : Int) ≤ v3.toInt ∧ v3.toInt ≤ 1 := nr_nela c7 i_v3 (show (0 : Int) ≤ (0 : Int32).toInt ∧ (0 : Int32).toInt ≤ 0 by decide) (by decide) (by decide)
      try unfold fM_put_89
      refine tt_kv (P := fun z => ((0 : Int) ≤ z.toInt ∧ z.toInt ≤ 1604) ∧ z = ((o0.1 2) + v2) ∧ z.toInt = (o0.1 2).toInt + v2.toInt) ⟨iv_add (k_o0.1 2) i_v2 (by decide) (by decide) (by decide) (by decide), rfl, iq_add (k_o0.1 2) i_v2 (by decide) (by decide)⟩ (fun x25 qi26 => ?_)
      obtain ⟨i26, ax25, ei26⟩ := qi26
      refine tt_if (fun c27 => ?_) (fun c27 => ?_)
      · have wc27 : x25.toInt ≤ (1600 : Int) := c_le c27
        have i28 : (0 : Int) ≤ x25.toInt ∧ x25.toInt ≤ 1600 := nr_lel c27 i26 (show (1600 : Int) ≤ (1600 : Int32).toInt ∧ (1600 : Int32).toInt ≤ 1600 by decide) (by decide) (by decide)
        try unfold fM_put_106
        try unfold fM_refuse
        try unfold fM_refuse_0
        refine tt_bif (fun c29 => ?_) (fun c29 => ?_)
        · have wc29 : (0 : Int) = (0 : Int) := c_eq c29
          refine tt_bif (fun c30 => ?_) (fun c30 => ?_)
          · have wc30 : (0 : Int) = (0 : Int) := c_eq c30
            refine tt_bif (fun c31 => ?_) (fun c31 => ?_)
            · have wc31 : (0 : Int) = (0 : Int) := c_eq c31
              try unfold fM_refuse_26
              refine tt_bko ?_
              have k32 := ok_fp (k := 0) (v := 0) k_o0 (iv_w (a := 0) (b := 3) (by decide) (by decide) (show (0 : Int) ≤ (0 : Int32).toInt ∧ (0 : Int32).toInt ≤ 0 by decide))
              have r33 := fr_fp (k := 0) (v := 0) r_o0 rfl
              refine tt_bif (fun c34 => ?_) (fun c34 => ?_)
              · have wc34 : (0 : Int) ≤ (0 : Int) := c_le c34
                try unfold fM_refuse_41
                refine tt_bw (iv_b (show (0 : Int) ≤ (0 : Int32).toInt ∧ (0 : Int32).toInt ≤ 0 by decide) (by decide) (by decide)) ?_
                refine tt_bs ?_
                refine tt_if (fun c35 => ?_) (fun c35 => ?_)
                · have wc35 : (0 : Int) = (0 : Int) := c_eq c35
                  exact H.2 _ _ _ k32 r33 (iv_w (a := 0) (b := 4) (by decide) (by decide) (show (0 : Int) ≤ (0 : Int32).toInt ∧ (0 : Int32).toInt ≤ 0 by decide)) (show (0 : Int) ≤ (0 : Int32).toInt ∧ (0 : Int32).toInt ≤ 0 by decide) f_o0_95 (show (o0.1 2).toInt + cz v1 0 ≤ 1600 by omega) (show 0 + (4 - 0) * 2 < (n : Int) by omega)
                · have wc35 : ¬ (0 : Int) = (0 : Int) := c_ne c35
                  exact (dd_ne c35 (show (0 : Int) ≤ (0 : Int32).toInt ∧ (0 : Int32).toInt ≤ 0 by decide) (show (0 : Int) ≤ (0 : Int32).toInt ∧ (0 : Int32).toInt ≤ 0 by decide)).elim
              · have wc34 : (0 : Int) < (0 : Int) := c_nle c34
                exact (dd_nle c34 (show (0 : Int) ≤ (0 : Int32).toInt ∧ (0 : Int32).toInt ≤ 0 by decide) (show (0 : Int) ≤ (0 : Int32).toInt ∧ (0 : Int32).toInt ≤ 0 by decide) (by decide)).elim
            · have wc31 : ¬ (0 : Int) = (0 : Int) := c_ne c31
              exact (dd_ne c31 (show (0 : Int) ≤ (0 : Int32).toInt ∧ (0 : Int32).toInt ≤ 0 by decide) (show (0 : Int) ≤ (0 : Int32).toInt ∧ (0 : Int32).toInt ≤ 0 by decide)).elim
          · have wc30 : ¬ (0 : Int) = (0 : Int) := c_ne c30
            exact (dd_ne c30 (show (0 : Int) ≤ (0 : Int32).toInt ∧ (0 : Int32).toInt ≤ 0 by decide) (show (0 : Int) ≤ (0 : Int32).toInt ∧ (0 : Int32).toInt ≤ 0 by decide)).elim
        · have wc29 : ¬ (0 : Int) = (0 : Int) := c_ne c29
          exact (dd_ne c29 (show (0 : Int) ≤ (0 : Int32).toInt ∧ (0 : Int32).toInt ≤ 0 by decide) (show (0 : Int) ≤ (0 : Int32).toInt ∧ (0 : Int32).toInt ≤ 0 by decide)).elim
      · have wc27 : (1600 : Int) < x25.toInt := c_nle c27
        have i36 : (1601 : Int) ≤ x25.toInt ∧ x25.toInt ≤ 1604 := nr_nler c27 (show (1600 : Int) ≤ (1600 : Int32).toInt ∧ (1600 : Int32).toInt ≤ 1600 by decide) i26 (by decide) (by decide)
        try unfold fM_put_106
        try unfold fM_refuse
        try unfold fM_refuse_0
        refine tt_bif (fun c37 => ?_) (fun c37 => ?_)
        · have wc37 : (0 : Int) = (0 : Int) := c_eq c37
          refine tt_bif (fun c38 => ?_) (fun c38 => ?_)
          · have wc38 : (1 : Int) = (0 : Int) := c_eq c38
            exact (dd_eq c38 (show (1 : Int) ≤ (1 : Int32).toInt ∧ (1 : Int32).toInt ≤ 1 by decide) (show (0 : Int) ≤ (0 : Int32).toInt ∧ (0 : Int32).toInt ≤ 0 by decide) (by decide)).elim
          · have wc38 : ¬ (1 : Int) = (0 : Int) := c_ne c38
            try unfold fM_refuse_26
            refine tt_bko ?_
            have k39 := ok_fp (k := 0) (v := 2) k_o0 (iv_w (a := 0) (b := 3) (by decide) (by decide) (show (2 : Int) ≤ (2 : Int32).toInt ∧ (2 : Int32).toInt ≤ 2 by decide))
            have r40 := fr_fp (k := 0) (v := 2) r_o0 rfl
            refine tt_bif (fun c41 => ?_) (fun c41 => ?_)
            · have wc41 : (2 : Int) ≤ (0 : Int) := c_le c41
              exact (dd_le c41 (show (2 : Int) ≤ (2 : Int32).toInt ∧ (2 : Int32).toInt ≤ 2 by decide) (show (0 : Int) ≤ (0 : Int32).toInt ∧ (0 : Int32).toInt ≤ 0 by decide) (by decide)).elim
            · have wc41 : (0 : Int) < (2 : Int) := c_nle c41
              try unfold fM_refuse_41
              refine tt_bw (iv_b (show (1 : Int) ≤ (1 : Int32).toInt ∧ (1 : Int32).toInt ≤ 1 by decide) (by decide) (by decide)) ?_
              refine tt_bs ?_
              refine tt_if (fun c42 => ?_) (fun c42 => ?_)
              · have wc42 : (1 : Int) = (0 : Int) := c_eq c42
                exact (dd_eq c42 (show (1 : Int) ≤ (1 : Int32).toInt ∧ (1 : Int32).toInt ≤ 1 by decide) (show (0 : Int) ≤ (0 : Int32).toInt ∧ (0 : Int32).toInt ≤ 0 by decide) (by decide)).elim
              · have wc42 : ¬ (1 : Int) = (0 : Int) := c_ne c42
                exact tt_some ⟨(iv_w (a := 0) (b := 1600) (by decide) (by decide) (show (0 : Int) ≤ (0 : Int32).toInt ∧ (0 : Int32).toInt ≤ 0 by decide)), k39, r40, (iv_w (a := 0) (b := 2) (by decide) (by decide) (show (2 : Int) ≤ (2 : Int32).toInt ∧ (2 : Int32).toInt ≤ 2 by decide)), trivial⟩
        · have wc37 : ¬ (0 : Int) = (0 : Int) := c_ne c37
          exact (dd_ne c37 (show (0 : Int) ≤ (0 : Int32).toInt ∧ (0 : Int32).toInt ≤ 0 by decide) (show (0 : Int) ≤ (0 : Int32).toInt ∧ (0 : Int32).toInt ≤ 0 by decide)).elim
  · have wc5 : v4.toInt < (4 : Int) := c_nle c5
    have i43 : (0 : Int) ≤ v4.toInt ∧ v4.toInt ≤ 3 := nr_nlel c5 i_v4 (show (4 : Int) ≤ (4 : Int32).toInt ∧ (4 : Int32).toInt ≤ 4 by decide) (by decide) (by decide)
    refine tt_kv (P := fun z => ((0 : Int) ≤ z.toInt ∧ z.toInt ≤ 24) ∧ z = (8 * v4) ∧ z.toInt = 8 * v4.toInt) ⟨iv_mul (show (8 : Int) ≤ (8 : Int32).toInt ∧ (8 : Int32).toInt ≤ 8 by decide) i43 (by decide) (by decide) (by decide) (by decide) (by decide), rfl, iq_mul (show (8 : Int) ≤ (8 : Int32).toInt ∧ (8 : Int32).toInt ≤ 8 by decide) i43 (by decide) (by decide) (by decide) (by decide)⟩ (fun x44 qi45 => ?_)
    obtain ⟨i45, ax44, ei45⟩ := qi45
    refine tt_kv (P := fun z => (((-2147483648) : Int) ≤ z.toInt ∧ z.toInt ≤ 2147483647) ∧ z = (v1 >>> (x44 &&& 31))) ⟨iv_top _, rfl⟩ (fun x46 qi47 => ?_)
    obtain ⟨i47, ax46⟩ := qi47
    refine tt_kv (P := fun z => ((0 : Int) ≤ z.toInt ∧ z.toInt ≤ 255) ∧ z = (x46 &&& 255)) ⟨iv_and (show (255 : Int) ≤ (255 : Int32).toInt ∧ (255 : Int32).toInt ≤ 255 by decide) (by decide) (by decide) (by decide), rfl⟩ (fun x48 qi49 => ?_)
    obtain ⟨i49, ax48⟩ := qi49
    have t50 := cz_h ax44 ax46 ax48
    refine tt_if (fun c51 => ?_) (fun c51 => ?_)
    · have wc51 : v3.toInt = (0 : Int) := c_eq c51
      have i52 : (0 : Int) ≤ v3.toInt ∧ v3.toInt ≤ 0 := nr_eql c51 i_v3 (show (0 : Int) ≤ (0 : Int32).toInt ∧ (0 : Int32).toInt ≤ 0 by decide) (by decide) (by decide)
      try unfold fM_put_58
      try unfold fM_put_59
      refine tt_if (fun c53 => ?_) (fun c53 => ?_)
      · have wc53 : x48.toInt ≤ (0 : Int) := c_le c53
        have i54 : (0 : Int) ≤ x48.toInt ∧ x48.toInt ≤ 0 := nr_lel c53 i49 (show (0 : Int) ≤ (0 : Int32).toInt ∧ (0 : Int32).toInt ≤ 0 by decide) (by decide) (by decide)
        try unfold fM_put_72
        refine tt_kv (P := fun z => ((1 : Int) ≤ z.toInt ∧ z.toInt ≤ 4) ∧ z = (v4 + 1) ∧ z.toInt = v4.toInt + 1) ⟨iv_add i43 (show (1 : Int) ≤ (1 : Int32).toInt ∧ (1 : Int32).toInt ≤ 1 by decide) (by decide) (by decide) (by decide) (by decide), rfl, iq_add i43 (show (1 : Int) ≤ (1 : Int32).toInt ∧ (1 : Int32).toInt ≤ 1 by decide) (by decide) (by decide)⟩ (fun x55 qi56 => ?_)
        obtain ⟨i56, ax55, ei56⟩ := qi56
        have t57 : cz v1 x55.toInt = cz v1 (v4.toInt + 1) := by rw [ei56]
        exact H.1 _ _ _ _ _ k_o0 r_o0 i_v2 (iv_w (a := 0) (b := 1) (by decide) (by decide) (show (0 : Int) ≤ (0 : Int32).toInt ∧ (0 : Int32).toInt ≤ 0 by decide)) (iv_w (a := 0) (b := 4) (by decide) (by decide) i56) f_o0_95 (show v2.toInt + cz v1 x55.toInt = cz v1 0 by omega) (show 10 + (4 - x55.toInt) * 2 < (n : Int) by omega)
      · have wc53 : (0 : Int) < x48.toInt := c_nle c53
        have i58 : (1 : Int) ≤ x48.toInt ∧ x48.toInt ≤ 255 := nr_nler c53 (show (0 : Int) ≤ (0 : Int32).toInt ∧ (0 : Int32).toInt ≤ 0 by decide) i49 (by decide) (by decide)
        refine tt_kv (P := fun z => ((1 : Int) ≤ z.toInt ∧ z.toInt ≤ 5) ∧ z = (v2 + 1) ∧ z.toInt = v2.toInt + 1) ⟨iv_add i_v2 (show (1 : Int) ≤ (1 : Int32).toInt ∧ (1 : Int32).toInt ≤ 1 by decide) (by decide) (by decide) (by decide) (by decide), rfl, iq_add i_v2 (show (1 : Int) ≤ (1 : Int32).toInt ∧ (1 : Int32).toInt ≤ 1 by decide) (by decide) (by decide)⟩ (fun x59 qi60 => ?_)
        obtain ⟨i60, ax59, ei60⟩ := qi60
        try unfold fM_put_72
        refine tt_kv (P := fun z => ((1 : Int) ≤ z.toInt ∧ z.toInt ≤ 4) ∧ z = (v4 + 1) ∧ z.toInt = v4.toInt + 1) ⟨iv_add i43 (show (1 : Int) ≤ (1 : Int32).toInt ∧ (1 : Int32).toInt ≤ 1 by decide) (by decide) (by decide) (by decide) (by decide), rfl, iq_add i43 (show (1 : Int) ≤ (1 : Int32).toInt ∧ (1 : Int32).toInt ≤ 1 by decide) (by decide) (by decide)⟩ (fun x61 qi62 => ?_)
        obtain ⟨i62, ax61, ei62⟩ := qi62
        have t63 : cz v1 x61.toInt = cz v1 (v4.toInt + 1) := by rw [ei62]
        exact H.1 _ _ _ _ _ k_o0 r_o0 (show (0 : Int) ≤ _ ∧ _ ≤ (4 : Int) by omega) (iv_w (a := 0) (b := 1) (by decide) (by decide) (show (0 : Int) ≤ (0 : Int32).toInt ∧ (0 : Int32).toInt ≤ 0 by decide)) (iv_w (a := 0) (b := 4) (by decide) (by decide) i62) f_o0_95 (show x59.toInt + cz v1 x61.toInt = cz v1 0 by omega) (show 10 + (4 - x61.toInt) * 2 < (n : Int) by omega)
    · have wc51 : ¬ v3.toInt = (0 : Int) := c_ne c51
      have i64 : (1 : Int) ≤ v3.toInt ∧ v3.toInt ≤ 1 := nr_nela c51 i_v3 (show (0 : Int) ≤ (0 : Int32).toInt ∧ (0 : Int32).toInt ≤ 0 by decide) (by decide) (by decide)
      refine tt_if (fun c65 => ?_) (fun c65 => ?_)
      · have wc65 : x48.toInt = (0 : Int) := c_eq c65
        have i66 : (0 : Int) ≤ x48.toInt ∧ x48.toInt ≤ 0 := nr_eql c65 i49 (show (0 : Int) ≤ (0 : Int32).toInt ∧ (0 : Int32).toInt ≤ 0 by decide) (by decide) (by decide)
        try unfold fM_put_54
        try unfold fM_put_59
        refine tt_if (fun c67 => ?_) (fun c67 => ?_)
        · have wc67 : x48.toInt ≤ (0 : Int) := c_le c67
          try unfold fM_put_72
          refine tt_kv (P := fun z => ((1 : Int) ≤ z.toInt ∧ z.toInt ≤ 4) ∧ z = (v4 + 1) ∧ z.toInt = v4.toInt + 1) ⟨iv_add i43 (show (1 : Int) ≤ (1 : Int32).toInt ∧ (1 : Int32).toInt ≤ 1 by decide) (by decide) (by decide) (by decide) (by decide), rfl, iq_add i43 (show (1 : Int) ≤ (1 : Int32).toInt ∧ (1 : Int32).toInt ≤ 1 by decide) (by decide) (by decide)⟩ (fun x68 qi69 => ?_)
          obtain ⟨i69, ax68, ei69⟩ := qi69
          have t70 : cz v1 x68.toInt = cz v1 (v4.toInt + 1) := by rw [ei69]
          exact H.1 _ _ _ _ _ k_o0 r_o0 i_v2 (iv_w (a := 0) (b := 1) (by decide) (by decide) (show (1 : Int) ≤ (1 : Int32).toInt ∧ (1 : Int32).toInt ≤ 1 by decide)) (iv_w (a := 0) (b := 4) (by decide) (by decide) i69) f_o0_95 (show v2.toInt + cz v1 x68.toInt = cz v1 0 by omega) (show 10 + (4 - x68.toInt) * 2 < (n : Int) by omega)
        · have wc67 : (0 : Int) < x48.toInt := c_nle c67
          exact (dd_nle c67 (show (0 : Int) ≤ (0 : Int32).toInt ∧ (0 : Int32).toInt ≤ 0 by decide) i66 (by decide)).elim
      · have wc65 : ¬ x48.toInt = (0 : Int) := c_ne c65
        have i71 : (1 : Int) ≤ x48.toInt ∧ x48.toInt ≤ 255 := nr_nela c65 i49 (show (0 : Int) ≤ (0 : Int32).toInt ∧ (0 : Int32).toInt ≤ 0 by decide) (by decide) (by decide)
        refine tt_if (fun c72 => ?_) (fun c72 => ?_)
        · have wc72 : x48.toInt = (10 : Int) := c_eq c72
          have i73 : (10 : Int) ≤ x48.toInt ∧ x48.toInt ≤ 10 := nr_eql c72 i71 (show (10 : Int) ≤ (10 : Int32).toInt ∧ (10 : Int32).toInt ≤ 10 by decide) (by decide) (by decide)
          try unfold fM_put_54
          try unfold fM_put_59
          refine tt_if (fun c74 => ?_) (fun c74 => ?_)
          · have wc74 : x48.toInt ≤ (0 : Int) := c_le c74
            exact (dd_le c74 i73 (show (0 : Int) ≤ (0 : Int32).toInt ∧ (0 : Int32).toInt ≤ 0 by decide) (by decide)).elim
          · have wc74 : (0 : Int) < x48.toInt := c_nle c74
            refine tt_kv (P := fun z => ((1 : Int) ≤ z.toInt ∧ z.toInt ≤ 5) ∧ z = (v2 + 1) ∧ z.toInt = v2.toInt + 1) ⟨iv_add i_v2 (show (1 : Int) ≤ (1 : Int32).toInt ∧ (1 : Int32).toInt ≤ 1 by decide) (by decide) (by decide) (by decide) (by decide), rfl, iq_add i_v2 (show (1 : Int) ≤ (1 : Int32).toInt ∧ (1 : Int32).toInt ≤ 1 by decide) (by decide) (by decide)⟩ (fun x75 qi76 => ?_)
            obtain ⟨i76, ax75, ei76⟩ := qi76
            try unfold fM_put_72
            refine tt_kv (P := fun z => ((1 : Int) ≤ z.toInt ∧ z.toInt ≤ 4) ∧ z = (v4 + 1) ∧ z.toInt = v4.toInt + 1) ⟨iv_add i43 (show (1 : Int) ≤ (1 : Int32).toInt ∧ (1 : Int32).toInt ≤ 1 by decide) (by decide) (by decide) (by decide) (by decide), rfl, iq_add i43 (show (1 : Int) ≤ (1 : Int32).toInt ∧ (1 : Int32).toInt ≤ 1 by decide) (by decide) (by decide)⟩ (fun x77 qi78 => ?_)
            obtain ⟨i78, ax77, ei78⟩ := qi78
            have t79 : cz v1 x77.toInt = cz v1 (v4.toInt + 1) := by rw [ei78]
            exact H.1 _ _ _ _ _ k_o0 r_o0 (show (0 : Int) ≤ _ ∧ _ ≤ (4 : Int) by omega) (iv_w (a := 0) (b := 1) (by decide) (by decide) (show (1 : Int) ≤ (1 : Int32).toInt ∧ (1 : Int32).toInt ≤ 1 by decide)) (iv_w (a := 0) (b := 4) (by decide) (by decide) i78) f_o0_95 (show x75.toInt + cz v1 x77.toInt = cz v1 0 by omega) (show 10 + (4 - x77.toInt) * 2 < (n : Int) by omega)
        · have wc72 : ¬ x48.toInt = (10 : Int) := c_ne c72
          try unfold fM_in
          try unfold fM_in_0
          refine tt_bif (fun c80 => ?_) (fun c80 => ?_)
          · have wc80 : x48.toInt < (32 : Int) := c_lt c80
            have i81 : (1 : Int) ≤ x48.toInt ∧ x48.toInt ≤ 31 := nr_ltl c80 i71 (show (32 : Int) ≤ (32 : Int32).toInt ∧ (32 : Int32).toInt ≤ 32 by decide) (by decide) (by decide)
            try unfold fM_in_14
            try unfold fM_in_15
            refine tt_bw (iv_b (show (0 : Int) ≤ (0 : Int32).toInt ∧ (0 : Int32).toInt ≤ 0 by decide) (by decide) (by decide)) ?_
            refine tt_bs ?_
            refine tt_if (fun c82 => ?_) (fun c82 => ?_)
            · have wc82 : (0 : Int) = (0 : Int) := c_eq c82
              try unfold fM_put_58
              try unfold fM_put_59
              refine tt_if (fun c83 => ?_) (fun c83 => ?_)
              · have wc83 : x48.toInt ≤ (0 : Int) := c_le c83
                exact (dd_le c83 i81 (show (0 : Int) ≤ (0 : Int32).toInt ∧ (0 : Int32).toInt ≤ 0 by decide) (by decide)).elim
              · have wc83 : (0 : Int) < x48.toInt := c_nle c83
                refine tt_kv (P := fun z => ((1 : Int) ≤ z.toInt ∧ z.toInt ≤ 5) ∧ z = (v2 + 1) ∧ z.toInt = v2.toInt + 1) ⟨iv_add i_v2 (show (1 : Int) ≤ (1 : Int32).toInt ∧ (1 : Int32).toInt ≤ 1 by decide) (by decide) (by decide) (by decide) (by decide), rfl, iq_add i_v2 (show (1 : Int) ≤ (1 : Int32).toInt ∧ (1 : Int32).toInt ≤ 1 by decide) (by decide) (by decide)⟩ (fun x84 qi85 => ?_)
                obtain ⟨i85, ax84, ei85⟩ := qi85
                try unfold fM_put_72
                refine tt_kv (P := fun z => ((1 : Int) ≤ z.toInt ∧ z.toInt ≤ 4) ∧ z = (v4 + 1) ∧ z.toInt = v4.toInt + 1) ⟨iv_add i43 (show (1 : Int) ≤ (1 : Int32).toInt ∧ (1 : Int32).toInt ≤ 1 by decide) (by decide) (by decide) (by decide) (by decide), rfl, iq_add i43 (show (1 : Int) ≤ (1 : Int32).toInt ∧ (1 : Int32).toInt ≤ 1 by decide) (by decide) (by decide)⟩ (fun x86 qi87 => ?_)
                obtain ⟨i87, ax86, ei87⟩ := qi87
                have t88 : cz v1 x86.toInt = cz v1 (v4.toInt + 1) := by rw [ei87]
                exact H.1 _ _ _ _ _ k_o0 r_o0 (show (0 : Int) ≤ _ ∧ _ ≤ (4 : Int) by omega) (iv_w (a := 0) (b := 1) (by decide) (by decide) (show (0 : Int) ≤ (0 : Int32).toInt ∧ (0 : Int32).toInt ≤ 0 by decide)) (iv_w (a := 0) (b := 4) (by decide) (by decide) i87) f_o0_95 (show x84.toInt + cz v1 x86.toInt = cz v1 0 by omega) (show 10 + (4 - x86.toInt) * 2 < (n : Int) by omega)
            · have wc82 : ¬ (0 : Int) = (0 : Int) := c_ne c82
              exact (dd_ne c82 (show (0 : Int) ≤ (0 : Int32).toInt ∧ (0 : Int32).toInt ≤ 0 by decide) (show (0 : Int) ≤ (0 : Int32).toInt ∧ (0 : Int32).toInt ≤ 0 by decide)).elim
          · have wc80 : (32 : Int) ≤ x48.toInt := c_nlt c80
            have i89 : (32 : Int) ≤ x48.toInt ∧ x48.toInt ≤ 255 := nr_nltr c80 (show (32 : Int) ≤ (32 : Int32).toInt ∧ (32 : Int32).toInt ≤ 32 by decide) i71 (by decide) (by decide)
            refine tt_bif (fun c90 => ?_) (fun c90 => ?_)
            · have wc90 : (126 : Int) < x48.toInt := c_lt c90
              have i91 : (127 : Int) ≤ x48.toInt ∧ x48.toInt ≤ 255 := nr_ltr c90 (show (126 : Int) ≤ (126 : Int32).toInt ∧ (126 : Int32).toInt ≤ 126 by decide) i89 (by decide) (by decide)
              try unfold fM_in_14
              try unfold fM_in_15
              refine tt_bw (iv_b (show (0 : Int) ≤ (0 : Int32).toInt ∧ (0 : Int32).toInt ≤ 0 by decide) (by decide) (by decide)) ?_
              refine tt_bs ?_
              refine tt_if (fun c92 => ?_) (fun c92 => ?_)
              · have wc92 : (0 : Int) = (0 : Int) := c_eq c92
                try unfold fM_put_58
                try unfold fM_put_59
                refine tt_if (fun c93 => ?_) (fun c93 => ?_)
                · have wc93 : x48.toInt ≤ (0 : Int) := c_le c93
                  exact (dd_le c93 i91 (show (0 : Int) ≤ (0 : Int32).toInt ∧ (0 : Int32).toInt ≤ 0 by decide) (by decide)).elim
                · have wc93 : (0 : Int) < x48.toInt := c_nle c93
                  refine tt_kv (P := fun z => ((1 : Int) ≤ z.toInt ∧ z.toInt ≤ 5) ∧ z = (v2 + 1) ∧ z.toInt = v2.toInt + 1) ⟨iv_add i_v2 (show (1 : Int) ≤ (1 : Int32).toInt ∧ (1 : Int32).toInt ≤ 1 by decide) (by decide) (by decide) (by decide) (by decide), rfl, iq_add i_v2 (show (1 : Int) ≤ (1 : Int32).toInt ∧ (1 : Int32).toInt ≤ 1 by decide) (by decide) (by decide)⟩ (fun x94 qi95 => ?_)
                  obtain ⟨i95, ax94, ei95⟩ := qi95
                  try unfold fM_put_72
                  refine tt_kv (P := fun z => ((1 : Int) ≤ z.toInt ∧ z.toInt ≤ 4) ∧ z = (v4 + 1) ∧ z.toInt = v4.toInt + 1) ⟨iv_add i43 (show (1 : Int) ≤ (1 : Int32).toInt ∧ (1 : Int32).toInt ≤ 1 by decide) (by decide) (by decide) (by decide) (by decide), rfl, iq_add i43 (show (1 : Int) ≤ (1 : Int32).toInt ∧ (1 : Int32).toInt ≤ 1 by decide) (by decide) (by decide)⟩ (fun x96 qi97 => ?_)
                  obtain ⟨i97, ax96, ei97⟩ := qi97
                  have t98 : cz v1 x96.toInt = cz v1 (v4.toInt + 1) := by rw [ei97]
                  exact H.1 _ _ _ _ _ k_o0 r_o0 (show (0 : Int) ≤ _ ∧ _ ≤ (4 : Int) by omega) (iv_w (a := 0) (b := 1) (by decide) (by decide) (show (0 : Int) ≤ (0 : Int32).toInt ∧ (0 : Int32).toInt ≤ 0 by decide)) (iv_w (a := 0) (b := 4) (by decide) (by decide) i97) f_o0_95 (show x94.toInt + cz v1 x96.toInt = cz v1 0 by omega) (show 10 + (4 - x96.toInt) * 2 < (n : Int) by omega)
              · have wc92 : ¬ (0 : Int) = (0 : Int) := c_ne c92
                exact (dd_ne c92 (show (0 : Int) ≤ (0 : Int32).toInt ∧ (0 : Int32).toInt ≤ 0 by decide) (show (0 : Int) ≤ (0 : Int32).toInt ∧ (0 : Int32).toInt ≤ 0 by decide)).elim
            · have wc90 : x48.toInt ≤ (126 : Int) := c_nlt c90
              have i99 : (32 : Int) ≤ x48.toInt ∧ x48.toInt ≤ 126 := nr_nltl c90 i89 (show (126 : Int) ≤ (126 : Int32).toInt ∧ (126 : Int32).toInt ≤ 126 by decide) (by decide) (by decide)
              try unfold fM_in_15
              refine tt_bw (iv_b (show (1 : Int) ≤ (1 : Int32).toInt ∧ (1 : Int32).toInt ≤ 1 by decide) (by decide) (by decide)) ?_
              refine tt_bs ?_
              refine tt_if (fun c100 => ?_) (fun c100 => ?_)
              · have wc100 : (1 : Int) = (0 : Int) := c_eq c100
                exact (dd_eq c100 (show (1 : Int) ≤ (1 : Int32).toInt ∧ (1 : Int32).toInt ≤ 1 by decide) (show (0 : Int) ≤ (0 : Int32).toInt ∧ (0 : Int32).toInt ≤ 0 by decide) (by decide)).elim
              · have wc100 : ¬ (1 : Int) = (0 : Int) := c_ne c100
                try unfold fM_put_54
                try unfold fM_put_59
                refine tt_if (fun c101 => ?_) (fun c101 => ?_)
                · have wc101 : x48.toInt ≤ (0 : Int) := c_le c101
                  exact (dd_le c101 i99 (show (0 : Int) ≤ (0 : Int32).toInt ∧ (0 : Int32).toInt ≤ 0 by decide) (by decide)).elim
                · have wc101 : (0 : Int) < x48.toInt := c_nle c101
                  refine tt_kv (P := fun z => ((1 : Int) ≤ z.toInt ∧ z.toInt ≤ 5) ∧ z = (v2 + 1) ∧ z.toInt = v2.toInt + 1) ⟨iv_add i_v2 (show (1 : Int) ≤ (1 : Int32).toInt ∧ (1 : Int32).toInt ≤ 1 by decide) (by decide) (by decide) (by decide) (by decide), rfl, iq_add i_v2 (show (1 : Int) ≤ (1 : Int32).toInt ∧ (1 : Int32).toInt ≤ 1 by decide) (by decide) (by decide)⟩ (fun x102 qi103 => ?_)
                  obtain ⟨i103, ax102, ei103⟩ := qi103
                  try unfold fM_put_72
                  refine tt_kv (P := fun z => ((1 : Int) ≤ z.toInt ∧ z.toInt ≤ 4) ∧ z = (v4 + 1) ∧ z.toInt = v4.toInt + 1) ⟨iv_add i43 (show (1 : Int) ≤ (1 : Int32).toInt ∧ (1 : Int32).toInt ≤ 1 by decide) (by decide) (by decide) (by decide) (by decide), rfl, iq_add i43 (show (1 : Int) ≤ (1 : Int32).toInt ∧ (1 : Int32).toInt ≤ 1 by decide) (by decide) (by decide)⟩ (fun x104 qi105 => ?_)
                  obtain ⟨i105, ax104, ei105⟩ := qi105
                  have t106 : cz v1 x104.toInt = cz v1 (v4.toInt + 1) := by rw [ei105]
                  exact H.1 _ _ _ _ _ k_o0 r_o0 (show (0 : Int) ≤ _ ∧ _ ≤ (4 : Int) by omega) (iv_w (a := 0) (b := 1) (by decide) (by decide) (show (1 : Int) ≤ (1 : Int32).toInt ∧ (1 : Int32).toInt ≤ 1 by decide)) (iv_w (a := 0) (b := 4) (by decide) (by decide) i105) f_o0_95 (show x102.toInt + cz v1 x104.toInt = cz v1 0 by omega) (show 10 + (4 - x104.toInt) * 2 < (n : Int) by omega)
set_option maxHeartbeats 4000000 in
set_option maxRecDepth 100000 in
theorem hM_put (yv1 : Int32) (yo0 : cf_O) : ∀ n, HM_put yv1 yo0 n := by
  intro n
  induction n with
  | zero => exact ⟨(fun v1 v2 v3 v4 o0 k_o0 r_o0 i_v2 i_v3 i_v4 f_o0_95 x_0 hm => by exact absurd (show 10 + (4 - v4.toInt) * 2 < (0 : Int) from hm) (by omega)), (fun v1 v4 o0 k_o0 r_o0 i_v4 f_o0_0 f_o0_95 x_0 hm => by exact absurd (show 0 + (4 - v4.toInt) * 2 < (0 : Int) from hm) (by omega))⟩
  | succ n ih => exact ⟨(fun v1 v2 v3 v4 o0 k_o0 r_o0 i_v2 i_v3 i_v4 f_o0_95 x_0 hm => tM_put_7 ih v1 v2 v3 v4 o0 k_o0 r_o0 i_v2 i_v3 i_v4 f_o0_95 x_0 (by omega)), (fun v1 v4 o0 k_o0 r_o0 i_v4 f_o0_0 f_o0_95 x_0 hm => tM_put_118 ih v1 v4 o0 k_o0 r_o0 i_v4 f_o0_0 f_o0_95 x_0 (by omega))⟩
set_option maxHeartbeats 4000000 in
set_option maxRecDepth 100000 in
theorem sM_put (v1 : Int32) (o0 : cf_O) (k_o0 : okO I_M o0) (f_o0_95 : (0 : Int) ≤ (o0.1 95).toInt ∧ (o0.1 95).toInt ≤ 0) : tt (fM_put v1 o0) (QM_put v1 o0) := by
  have H := hM_put v1 o0 cfFU
  have hm : (21 : Int) ≤ (cfFU : Nat) := by decide
  have r_o0 : Fr (fr_M [0, 2] [1] []) o0 o0 := fr_rfl
  unfold fM_put fM_put_0
  have i_v1 := iv_top v1
  have g_o0_2 : (0 : Int) ≤ (o0.1 2).toInt ∧ (o0.1 2).toInt ≤ 1600 := k_o0.1 2
  exact H.1 _ _ _ _ _ k_o0 r_o0 (iv_w (a := 0) (b := 4) (by decide) (by decide) (show (0 : Int) ≤ (0 : Int32).toInt ∧ (0 : Int32).toInt ≤ 0 by decide)) (iv_w (a := 0) (b := 1) (by decide) (by decide) (show (1 : Int) ≤ (1 : Int32).toInt ∧ (1 : Int32).toInt ≤ 1 by decide)) (iv_w (a := 0) (b := 4) (by decide) (by decide) (show (0 : Int) ≤ (0 : Int32).toInt ∧ (0 : Int32).toInt ≤ 0 by decide)) f_o0_95 (show 0 + cz v1 0 = cz v1 0 by omega) (show 10 + (4 - 0) * 2 < ((cfFU : Nat) : Int) by omega)
def QM_end (v1 : Int32) (o0 : cf_O) (r : (cf_O)) : Prop := (okO I_M r) ∧ (Fr (fr_M [0, 2] [] []) o0 r) ∧ ((0 : Int) ≤ (r.1 0).toInt ∧ (r.1 0).toInt ≤ 1) ∧ True
set_option maxHeartbeats 4000000 in
set_option maxRecDepth 100000 in
theorem sM_end (v1 : Int32) (o0 : cf_O) (k_o0 : okO I_M o0) (f_o0_95 : (0 : Int) ≤ (o0.1 95).toInt ∧ (o0.1 95).toInt ≤ 0) : tt (fM_end v1 o0) (QM_end v1 o0) := by
  have r_o0 : Fr (fr_M [0, 2] [] []) o0 o0 := fr_rfl
  unfold fM_end fM_end_0
  try unfold fM_in
  try unfold fM_in_0
  refine tt_bif (fun c1 => ?_) (fun c1 => ?_)
  · have i2 : ((-2147483648) : Int) ≤ v1.toInt ∧ v1.toInt ≤ (-1) := nr_ltl c1 (iv_top v1) (show (0 : Int) ≤ (0 : Int32).toInt ∧ (0 : Int32).toInt ≤ 0 by decide) (by decide) (by decide)
    try unfold fM_in_14
    try unfold fM_in_15
    refine tt_bw (iv_b (show (0 : Int) ≤ (0 : Int32).toInt ∧ (0 : Int32).toInt ≤ 0 by decide) (by decide) (by decide)) ?_
    refine tt_bs ?_
    refine tt_if (fun c3 => ?_) (fun c3 => ?_)
    · try unfold fM_end_18
      try unfold fM_refuse
      try unfold fM_refuse_0
      refine tt_bif (fun c4 => ?_) (fun c4 => ?_)
      · exact (dd_eq c4 (show (1 : Int) ≤ (1 : Int32).toInt ∧ (1 : Int32).toInt ≤ 1 by decide) (show (0 : Int) ≤ (0 : Int32).toInt ∧ (0 : Int32).toInt ≤ 0 by decide) (by decide)).elim
      · try unfold fM_refuse_26
        refine tt_bko ?_
        have k5 := ok_fp (k := 0) (v := 1) k_o0 (iv_w (a := 0) (b := 3) (by decide) (by decide) (show (1 : Int) ≤ (1 : Int32).toInt ∧ (1 : Int32).toInt ≤ 1 by decide))
        have r6 := fr_fp (k := 0) (v := 1) r_o0 rfl
        refine tt_bif (fun c7 => ?_) (fun c7 => ?_)
        · exact (dd_le c7 (show (1 : Int) ≤ (1 : Int32).toInt ∧ (1 : Int32).toInt ≤ 1 by decide) (show (0 : Int) ≤ (0 : Int32).toInt ∧ (0 : Int32).toInt ≤ 0 by decide) (by decide)).elim
        · try unfold fM_refuse_41
          refine tt_bw (iv_b (show (1 : Int) ≤ (1 : Int32).toInt ∧ (1 : Int32).toInt ≤ 1 by decide) (by decide) (by decide)) ?_
          refine tt_bs ?_
          refine tt_if (fun c8 => ?_) (fun c8 => ?_)
          · exact (dd_eq c8 (show (1 : Int) ≤ (1 : Int32).toInt ∧ (1 : Int32).toInt ≤ 1 by decide) (show (0 : Int) ≤ (0 : Int32).toInt ∧ (0 : Int32).toInt ≤ 0 by decide) (by decide)).elim
          · try unfold fM_end_31
            exact tt_some ⟨k5, r6, (iv_w (a := 0) (b := 1) (by decide) (by decide) (show (1 : Int) ≤ (1 : Int32).toInt ∧ (1 : Int32).toInt ≤ 1 by decide)), trivial⟩
    · exact (dd_ne c3 (show (0 : Int) ≤ (0 : Int32).toInt ∧ (0 : Int32).toInt ≤ 0 by decide) (show (0 : Int) ≤ (0 : Int32).toInt ∧ (0 : Int32).toInt ≤ 0 by decide)).elim
  · have i9 : (0 : Int) ≤ v1.toInt ∧ v1.toInt ≤ 2147483647 := nr_nltr c1 (show (0 : Int) ≤ (0 : Int32).toInt ∧ (0 : Int32).toInt ≤ 0 by decide) (iv_top v1) (by decide) (by decide)
    refine tt_bif (fun c10 => ?_) (fun c10 => ?_)
    · have i11 : (1 : Int) ≤ v1.toInt ∧ v1.toInt ≤ 2147483647 := nr_ltr c10 (k_o0.1 2) i9 (by decide) (by decide)
      try unfold fM_in_14
      try unfold fM_in_15
      refine tt_bw (iv_b (show (0 : Int) ≤ (0 : Int32).toInt ∧ (0 : Int32).toInt ≤ 0 by decide) (by decide) (by decide)) ?_
      refine tt_bs ?_
      refine tt_if (fun c12 => ?_) (fun c12 => ?_)
      · try unfold fM_end_18
        try unfold fM_refuse
        try unfold fM_refuse_0
        refine tt_bif (fun c13 => ?_) (fun c13 => ?_)
        · exact (dd_eq c13 (show (1 : Int) ≤ (1 : Int32).toInt ∧ (1 : Int32).toInt ≤ 1 by decide) (show (0 : Int) ≤ (0 : Int32).toInt ∧ (0 : Int32).toInt ≤ 0 by decide) (by decide)).elim
        · try unfold fM_refuse_26
          refine tt_bko ?_
          have k14 := ok_fp (k := 0) (v := 1) k_o0 (iv_w (a := 0) (b := 3) (by decide) (by decide) (show (1 : Int) ≤ (1 : Int32).toInt ∧ (1 : Int32).toInt ≤ 1 by decide))
          have r15 := fr_fp (k := 0) (v := 1) r_o0 rfl
          refine tt_bif (fun c16 => ?_) (fun c16 => ?_)
          · exact (dd_le c16 (show (1 : Int) ≤ (1 : Int32).toInt ∧ (1 : Int32).toInt ≤ 1 by decide) (show (0 : Int) ≤ (0 : Int32).toInt ∧ (0 : Int32).toInt ≤ 0 by decide) (by decide)).elim
          · try unfold fM_refuse_41
            refine tt_bw (iv_b (show (1 : Int) ≤ (1 : Int32).toInt ∧ (1 : Int32).toInt ≤ 1 by decide) (by decide) (by decide)) ?_
            refine tt_bs ?_
            refine tt_if (fun c17 => ?_) (fun c17 => ?_)
            · exact (dd_eq c17 (show (1 : Int) ≤ (1 : Int32).toInt ∧ (1 : Int32).toInt ≤ 1 by decide) (show (0 : Int) ≤ (0 : Int32).toInt ∧ (0 : Int32).toInt ≤ 0 by decide) (by decide)).elim
            · try unfold fM_end_31
              exact tt_some ⟨k14, r15, (iv_w (a := 0) (b := 1) (by decide) (by decide) (show (1 : Int) ≤ (1 : Int32).toInt ∧ (1 : Int32).toInt ≤ 1 by decide)), trivial⟩
      · exact (dd_ne c12 (show (0 : Int) ≤ (0 : Int32).toInt ∧ (0 : Int32).toInt ≤ 0 by decide) (show (0 : Int) ≤ (0 : Int32).toInt ∧ (0 : Int32).toInt ≤ 0 by decide)).elim
    · have i18 : (0 : Int) ≤ v1.toInt ∧ v1.toInt ≤ 1600 := nr_nltl c10 i9 (k_o0.1 2) (by decide) (by decide)
      try unfold fM_in_15
      refine tt_bw (iv_b (show (1 : Int) ≤ (1 : Int32).toInt ∧ (1 : Int32).toInt ≤ 1 by decide) (by decide) (by decide)) ?_
      refine tt_bs ?_
      refine tt_if (fun c19 => ?_) (fun c19 => ?_)
      · exact (dd_eq c19 (show (1 : Int) ≤ (1 : Int32).toInt ∧ (1 : Int32).toInt ≤ 1 by decide) (show (0 : Int) ≤ (0 : Int32).toInt ∧ (0 : Int32).toInt ≤ 0 by decide) (by decide)).elim
      · try unfold fM_end_18
        try unfold fM_refuse
        try unfold fM_refuse_0
        refine tt_bif (fun c20 => ?_) (fun c20 => ?_)
        · refine tt_bif (fun c21 => ?_) (fun c21 => ?_)
          · refine tt_bif (fun c22 => ?_) (fun c22 => ?_)
            · try unfold fM_refuse_26
              refine tt_bko ?_
              have k23 := ok_fp (k := 0) (v := 0) k_o0 (iv_w (a := 0) (b := 3) (by decide) (by decide) (show (0 : Int) ≤ (0 : Int32).toInt ∧ (0 : Int32).toInt ≤ 0 by decide))
              have r24 := fr_fp (k := 0) (v := 0) r_o0 rfl
              refine tt_bif (fun c25 => ?_) (fun c25 => ?_)
              · try unfold fM_refuse_41
                refine tt_bw (iv_b (show (0 : Int) ≤ (0 : Int32).toInt ∧ (0 : Int32).toInt ≤ 0 by decide) (by decide) (by decide)) ?_
                refine tt_bs ?_
                refine tt_if (fun c26 => ?_) (fun c26 => ?_)
                · refine tt_ko ?_
                  have k27 := ok_fp (k := 2) (v := v1) k23 i18
                  have r28 := fr_fp (k := 2) (v := v1) r24 rfl
                  try unfold fM_end_31
                  exact tt_some ⟨k27, r28, (iv_w (a := 0) (b := 1) (by decide) (by decide) (show (0 : Int) ≤ (0 : Int32).toInt ∧ (0 : Int32).toInt ≤ 0 by decide)), trivial⟩
                · exact (dd_ne c26 (show (0 : Int) ≤ (0 : Int32).toInt ∧ (0 : Int32).toInt ≤ 0 by decide) (show (0 : Int) ≤ (0 : Int32).toInt ∧ (0 : Int32).toInt ≤ 0 by decide)).elim
              · exact (dd_nle c25 (show (0 : Int) ≤ (0 : Int32).toInt ∧ (0 : Int32).toInt ≤ 0 by decide) (show (0 : Int) ≤ (0 : Int32).toInt ∧ (0 : Int32).toInt ≤ 0 by decide) (by decide)).elim
            · exact (dd_ne c22 (show (0 : Int) ≤ (0 : Int32).toInt ∧ (0 : Int32).toInt ≤ 0 by decide) (show (0 : Int) ≤ (0 : Int32).toInt ∧ (0 : Int32).toInt ≤ 0 by decide)).elim
          · exact (dd_ne c21 (show (0 : Int) ≤ (0 : Int32).toInt ∧ (0 : Int32).toInt ≤ 0 by decide) (show (0 : Int) ≤ (0 : Int32).toInt ∧ (0 : Int32).toInt ≤ 0 by decide)).elim
        · exact (dd_ne c20 (show (0 : Int) ≤ (0 : Int32).toInt ∧ (0 : Int32).toInt ≤ 0 by decide) (show (0 : Int) ≤ (0 : Int32).toInt ∧ (0 : Int32).toInt ≤ 0 by decide)).elim
def QM_takeLine (v1 : Int32) (o0 : cf_O) (r : (Int32 × cf_O)) : Prop := ((0 : Int) ≤ r.1.toInt ∧ r.1.toInt ≤ 1600) ∧ (okO I_M r.2) ∧ (Fr (fr_M [7] [8, 9] []) o0 r.2) ∧ (v1.toInt ≤ r.1.toInt) ∧ True
def HM_takeLine (yv1 : Int32) (yo0 : cf_O) (n : Nat) : Prop := (∀ (v1 : Int32) (v2 : Int32) (o0 : cf_O), (okO I_M o0) → (Fr (fr_M [7] [8, 9] []) yo0 o0) → ((0 : Int) ≤ v1.toInt ∧ v1.toInt ≤ 1600) → ((0 : Int) ≤ v2.toInt ∧ v2.toInt ≤ 1600) → ((0 : Int) ≤ (o0.1 0).toInt ∧ (o0.1 0).toInt ≤ 0) → ((0 : Int) ≤ (o0.1 5).toInt ∧ (o0.1 5).toInt ≤ 0) → ((0 : Int) ≤ (o0.1 95).toInt ∧ (o0.1 95).toInt ≤ 0) → (v1.toInt = yv1.toInt) → (v1.toInt ≤ v2.toInt) → 50000 + 2 * (1600 - v2.toInt) < (n : Int) → tt (gM_takeLine n 0 v1 v2 0 0 o0) (QM_takeLine yv1 yo0)) ∧ (∀ (v1 : Int32) (v2 : Int32) (v3 : Int32) (o0 : cf_O), (okO I_M o0) → (Fr (fr_M [7] [8, 9] []) yo0 o0) → ((0 : Int) ≤ v1.toInt ∧ v1.toInt ≤ 1600) → ((0 : Int) ≤ v2.toInt ∧ v2.toInt ≤ 1600) → ((0 : Int) ≤ v3.toInt ∧ v3.toInt ≤ 1600) → ((0 : Int) ≤ (o0.1 0).toInt ∧ (o0.1 0).toInt ≤ 0) → ((0 : Int) ≤ (o0.1 5).toInt ∧ (o0.1 5).toInt ≤ 0) → ((0 : Int) ≤ (o0.1 95).toInt ∧ (o0.1 95).toInt ≤ 0) → (v1.toInt = yv1.toInt) → (v1.toInt ≤ v2.toInt) → (v1.toInt ≤ v3.toInt) → 40000 + 2 * (1600 - v3.toInt) < (n : Int) → tt (gM_takeLine n 1 v1 v2 v3 0 o0) (QM_takeLine yv1 yo0)) ∧ (∀ (v2 : Int32) (v3 : Int32) (v4 : Int32) (o0 : cf_O), (okO I_M o0) → (Fr (fr_M [7] [8, 9] []) yo0 o0) → ((0 : Int) ≤ v2.toInt ∧ v2.toInt ≤ 1600) → ((0 : Int) ≤ v3.toInt ∧ v3.toInt ≤ 1600) → ((0 : Int) ≤ v4.toInt ∧ v4.toInt ≤ 1600) → ((0 : Int) ≤ (o0.1 0).toInt ∧ (o0.1 0).toInt ≤ 0) → ((0 : Int) ≤ (o0.1 5).toInt ∧ (o0.1 5).toInt ≤ 0) → ((0 : Int) ≤ (o0.1 95).toInt ∧ (o0.1 95).toInt ≤ 0) → (yv1.toInt ≤ v2.toInt) → (yv1.toInt ≤ v4.toInt) → (2 * (o0.1 7).toInt ≤ v4.toInt - yv1.toInt + 1) → (2 * (o0.1 7).toInt ≤ v4.toInt - yv1.toInt ∨ v3.toInt ≤ v4.toInt ∨ (o0.2.1 1 v4.toNatClampNeg).toInt = 32) → (0 ≤ yv1.toInt) → 10 * (1601 - v4.toInt) + 5 * (801 - (o0.1 7).toInt) + 2 < (n : Int) → tt (gM_takeLine n 2 0 v2 v3 v4 o0) (QM_takeLine yv1 yo0)) ∧ (∀ (v2 : Int32) (v3 : Int32) (v4 : Int32) (o0 : cf_O), (okO I_M o0) → (Fr (fr_M [7] [8, 9] []) yo0 o0) → ((0 : Int) ≤ v2.toInt ∧ v2.toInt ≤ 1600) → ((1 : Int) ≤ v3.toInt ∧ v3.toInt ≤ 1600) → ((0 : Int) ≤ v4.toInt ∧ v4.toInt ≤ 1600) → ((0 : Int) ≤ (o0.1 0).toInt ∧ (o0.1 0).toInt ≤ 0) → ((0 : Int) ≤ (o0.1 5).toInt ∧ (o0.1 5).toInt ≤ 0) → ((0 : Int) ≤ (o0.1 95).toInt ∧ (o0.1 95).toInt ≤ 0) → (yv1.toInt ≤ v2.toInt) → (yv1.toInt ≤ v4.toInt) → (2 * (o0.1 7).toInt ≤ v4.toInt - yv1.toInt + 1) → (2 * (o0.1 7).toInt ≤ v4.toInt - yv1.toInt ∨ v3.toInt ≤ v4.toInt ∨ (o0.2.1 1 v4.toNatClampNeg).toInt = 32) → (0 ≤ yv1.toInt) → 10 * (1601 - v4.toInt) + 5 * (801 - (o0.1 7).toInt) + 3 - 2 * min 1 (max 0 (v3.toInt - v4.toInt)) < (n : Int) → tt (gM_takeLine n 3 0 v2 v3 v4 o0) (QM_takeLine yv1 yo0)) ∧ (∀ (v2 : Int32) (v3 : Int32) (v4 : Int32) (o0 : cf_O), (okO I_M o0) → (Fr (fr_M [7] [8, 9] []) yo0 o0) → ((0 : Int) ≤ v2.toInt ∧ v2.toInt ≤ 1600) → ((1 : Int) ≤ v3.toInt ∧ v3.toInt ≤ 1600) → ((0 : Int) ≤ v4.toInt ∧ v4.toInt ≤ 1600) → ((0 : Int) ≤ (o0.1 0).toInt ∧ (o0.1 0).toInt ≤ 0) → ((0 : Int) ≤ (o0.1 5).toInt ∧ (o0.1 5).toInt ≤ 0) → ((0 : Int) ≤ (o0.1 7).toInt ∧ (o0.1 7).toInt ≤ 800) → ((0 : Int) ≤ (o0.1 95).toInt ∧ (o0.1 95).toInt ≤ 0) → (yv1.toInt ≤ v2.toInt) → (yv1.toInt ≤ v4.toInt) → (2 * (o0.1 7).toInt + 1 ≤ v4.toInt - yv1.toInt ∨ (2 * (o0.1 7).toInt ≤ v4.toInt - yv1.toInt ∧ v4.toInt < v3.toInt ∧ ¬ (o0.2.1 1 v4.toNatClampNeg).toInt = 32)) → (0 ≤ yv1.toInt) → 10 * (1601 - v4.toInt) + 5 * (801 - (o0.1 7).toInt) < (n : Int) → tt (gM_takeLine n 4 0 v2 v3 v4 o0) (QM_takeLine yv1 yo0))
set_option maxHeartbeats 4000000 in
set_option maxRecDepth 100000 in
theorem tM_takeLine_106 {yv1 : Int32} {yo0 : cf_O} {n : Nat} (H : HM_takeLine yv1 yo0 n) (v2 : Int32) (v3 : Int32) (v4 : Int32) (o0 : cf_O) (k_o0 : okO I_M o0) (r_o0 : Fr (fr_M [7] [8, 9] []) yo0 o0) (i_v2 : (0 : Int) ≤ v2.toInt ∧ v2.toInt ≤ 1600) (i_v3 : (1 : Int) ≤ v3.toInt ∧ v3.toInt ≤ 1600) (i_v4 : (0 : Int) ≤ v4.toInt ∧ v4.toInt ≤ 1600) (f_o0_0 : (0 : Int) ≤ (o0.1 0).toInt ∧ (o0.1 0).toInt ≤ 0) (f_o0_5 : (0 : Int) ≤ (o0.1 5).toInt ∧ (o0.1 5).toInt ≤ 0) (f_o0_7 : (0 : Int) ≤ (o0.1 7).toInt ∧ (o0.1 7).toInt ≤ 800) (f_o0_95 : (0 : Int) ≤ (o0.1 95).toInt ∧ (o0.1 95).toInt ≤ 0) (x_0 : yv1.toInt ≤ v2.toInt) (x_1 : yv1.toInt ≤ v4.toInt) (x_2 : 2 * (o0.1 7).toInt + 1 ≤ v4.toInt - yv1.toInt ∨ (2 * (o0.1 7).toInt ≤ v4.toInt - yv1.toInt ∧ v4.toInt < v3.toInt ∧ ¬ (o0.2.1 1 v4.toNatClampNeg).toInt = 32)) (x_3 : 0 ≤ yv1.toInt) (hm : 10 * (1601 - v4.toInt) + 5 * (801 - (o0.1 7).toInt) ≤ (n : Int)) : tt (fM_takeLine_106 (gM_takeLine n) v2 v3 v4 o0) (QM_takeLine yv1 yo0) := by
  unfold fM_takeLine_106
  have g_o0_2 : (0 : Int) ≤ (o0.1 2).toInt ∧ (o0.1 2).toInt ≤ 1600 := k_o0.1 2
  have ey_o0_2 : (o0.1 2).toInt = (yo0.1 2).toInt := congrArg Int32.toInt (r_o0.1 2 rfl)
  refine tt_if (fun c1 => ?_) (fun c1 => ?_)
  · have wc1 : v3.toInt ≤ v4.toInt := c_le c1
    have i2 : (1 : Int) ≤ v4.toInt ∧ v4.toInt ≤ 1600 := nr_ler c1 i_v3 i_v4 (by decide) (by decide)
    try unfold fM_takeLine_130
    refine tt_n (ix_ok f_o0_7 (by decide) (by decide)) ?_
    refine tt_ko ?_
    have k3 := ok_xp (k := 9) (i := (o0.1 7).toNatClampNeg) (v := v4) k_o0 (iv_w (a := 0) (b := 1600) (by decide) (by decide) i2)
    have r4 := fr_xp (k := 9) (i := (o0.1 7).toNatClampNeg) (v := v4) r_o0 rfl
    refine tt_kv (P := fun z => ((1 : Int) ≤ z.toInt ∧ z.toInt ≤ 801) ∧ z.toInt = (o0.1 7).toInt + 1) ⟨iv_add f_o0_7 (show (1 : Int) ≤ (1 : Int32).toInt ∧ (1 : Int32).toInt ≤ 1 by decide) (by decide) (by decide) (by decide) (by decide), iq_add f_o0_7 (show (1 : Int) ≤ (1 : Int32).toInt ∧ (1 : Int32).toInt ≤ 1 by decide) (by decide) (by decide)⟩ (fun x5 qi6 => ?_)
    obtain ⟨i6, ei6⟩ := qi6
    refine tt_ko ?_
    have k7 := ok_fp (k := 7) (v := x5) k3 (iv_w (a := 0) (b := 801) (by decide) (by decide) i6)
    have r8 := fr_fp (k := 7) (v := x5) r4 rfl
    have t9 : (0 : Int) ≤ (o0.2.1 1 v4.toNatClampNeg).toInt ∧ (o0.2.1 1 v4.toNatClampNeg).toInt ≤ 255 := k7.2 1 _
    exact H.2.2.1 _ _ _ _ k7 r8 i_v2 (iv_w (a := 0) (b := 1600) (by decide) (by decide) i_v3) (iv_w (a := 0) (b := 1600) (by decide) (by decide) i2) f_o0_0 f_o0_5 f_o0_95 (show yv1.toInt ≤ v2.toInt by omega) (show yv1.toInt ≤ v4.toInt by omega) (show 2 * x5.toInt ≤ v4.toInt - yv1.toInt + 1 by omega) (show 2 * x5.toInt ≤ v4.toInt - yv1.toInt ∨ v3.toInt ≤ v4.toInt ∨ (o0.2.1 1 v4.toNatClampNeg).toInt = 32 by omega) (show 0 ≤ yv1.toInt by omega) (show 10 * (1601 - v4.toInt) + 5 * (801 - x5.toInt) + 2 < (n : Int) by omega)
  · have wc1 : v4.toInt < v3.toInt := c_nle c1
    have i10 : (0 : Int) ≤ v4.toInt ∧ v4.toInt ≤ 1599 := nr_nlel c1 i_v4 i_v3 (by decide) (by decide)
    refine tt_n (ix_ok i10 (by decide) (by decide)) ?_
    refine tt_kv (P := fun z => ((0 : Int) ≤ z.toInt ∧ z.toInt ≤ 255) ∧ z.toInt = (o0.2.1 1 v4.toNatClampNeg).toInt) ⟨(k_o0.2 1 _), rfl⟩ (fun x11 qi12 => ?_)
    obtain ⟨i12, ei12⟩ := qi12
    refine tt_if (fun c13 => ?_) (fun c13 => ?_)
    · have wc13 : x11.toInt = (32 : Int) := c_eq c13
      have i14 : (32 : Int) ≤ x11.toInt ∧ x11.toInt ≤ 32 := nr_eql c13 i12 (show (32 : Int) ≤ (32 : Int32).toInt ∧ (32 : Int32).toInt ≤ 32 by decide) (by decide) (by decide)
      try unfold fM_takeLine_130
      refine tt_n (ix_ok f_o0_7 (by decide) (by decide)) ?_
      refine tt_ko ?_
      have k15 := ok_xp (k := 9) (i := (o0.1 7).toNatClampNeg) (v := v4) k_o0 (iv_w (a := 0) (b := 1600) (by decide) (by decide) i10)
      have r16 := fr_xp (k := 9) (i := (o0.1 7).toNatClampNeg) (v := v4) r_o0 rfl
      refine tt_kv (P := fun z => ((1 : Int) ≤ z.toInt ∧ z.toInt ≤ 801) ∧ z.toInt = (o0.1 7).toInt + 1) ⟨iv_add f_o0_7 (show (1 : Int) ≤ (1 : Int32).toInt ∧ (1 : Int32).toInt ≤ 1 by decide) (by decide) (by decide) (by decide) (by decide), iq_add f_o0_7 (show (1 : Int) ≤ (1 : Int32).toInt ∧ (1 : Int32).toInt ≤ 1 by decide) (by decide) (by decide)⟩ (fun x17 qi18 => ?_)
      obtain ⟨i18, ei18⟩ := qi18
      refine tt_ko ?_
      have k19 := ok_fp (k := 7) (v := x17) k15 (iv_w (a := 0) (b := 801) (by decide) (by decide) i18)
      have r20 := fr_fp (k := 7) (v := x17) r16 rfl
      have t21 : (0 : Int) ≤ (o0.2.1 1 v4.toNatClampNeg).toInt ∧ (o0.2.1 1 v4.toNatClampNeg).toInt ≤ 255 := k19.2 1 _
      exact H.2.2.1 _ _ _ _ k19 r20 i_v2 (iv_w (a := 0) (b := 1600) (by decide) (by decide) i_v3) (iv_w (a := 0) (b := 1600) (by decide) (by decide) i10) f_o0_0 f_o0_5 f_o0_95 (show yv1.toInt ≤ v2.toInt by omega) (show yv1.toInt ≤ v4.toInt by omega) (show 2 * x17.toInt ≤ v4.toInt - yv1.toInt + 1 by omega) (show 2 * x17.toInt ≤ v4.toInt - yv1.toInt ∨ v3.toInt ≤ v4.toInt ∨ (o0.2.1 1 v4.toNatClampNeg).toInt = 32 by omega) (show 0 ≤ yv1.toInt by omega) (show 10 * (1601 - v4.toInt) + 5 * (801 - x17.toInt) + 2 < (n : Int) by omega)
    · have wc13 : ¬ x11.toInt = (32 : Int) := c_ne c13
      refine tt_kv (P := fun z => ((1 : Int) ≤ z.toInt ∧ z.toInt ≤ 1600) ∧ z.toInt = v4.toInt + 1) ⟨iv_add i10 (show (1 : Int) ≤ (1 : Int32).toInt ∧ (1 : Int32).toInt ≤ 1 by decide) (by decide) (by decide) (by decide) (by decide), iq_add i10 (show (1 : Int) ≤ (1 : Int32).toInt ∧ (1 : Int32).toInt ≤ 1 by decide) (by decide) (by decide)⟩ (fun x22 qi23 => ?_)
      obtain ⟨i23, ei23⟩ := qi23
      have t24 : (0 : Int) ≤ (o0.2.1 1 x22.toNatClampNeg).toInt ∧ (o0.2.1 1 x22.toNatClampNeg).toInt ≤ 255 := k_o0.2 1 _
      exact H.2.2.2.2 _ _ _ _ k_o0 r_o0 i_v2 i_v3 (iv_w (a := 0) (b := 1600) (by decide) (by decide) i23) f_o0_0 f_o0_5 f_o0_7 f_o0_95 (show yv1.toInt ≤ v2.toInt by omega) (show yv1.toInt ≤ x22.toInt by omega) (show 2 * (o0.1 7).toInt + 1 ≤ x22.toInt - yv1.toInt ∨ (2 * (o0.1 7).toInt ≤ x22.toInt - yv1.toInt ∧ x22.toInt < v3.toInt ∧ ¬ (o0.2.1 1 x22.toNatClampNeg).toInt = 32) by omega) (show 0 ≤ yv1.toInt by omega) (show 10 * (1601 - x22.toInt) + 5 * (801 - (o0.1 7).toInt) < (n : Int) by omega)
set_option maxHeartbeats 4000000 in
set_option maxRecDepth 100000 in
theorem tM_takeLine_65 {yv1 : Int32} {yo0 : cf_O} {n : Nat} (H : HM_takeLine yv1 yo0 n) (v2 : Int32) (v3 : Int32) (v4 : Int32) (o0 : cf_O) (k_o0 : okO I_M o0) (r_o0 : Fr (fr_M [7] [8, 9] []) yo0 o0) (i_v2 : (0 : Int) ≤ v2.toInt ∧ v2.toInt ≤ 1600) (i_v3 : (1 : Int) ≤ v3.toInt ∧ v3.toInt ≤ 1600) (i_v4 : (0 : Int) ≤ v4.toInt ∧ v4.toInt ≤ 1600) (f_o0_0 : (0 : Int) ≤ (o0.1 0).toInt ∧ (o0.1 0).toInt ≤ 0) (f_o0_5 : (0 : Int) ≤ (o0.1 5).toInt ∧ (o0.1 5).toInt ≤ 0) (f_o0_95 : (0 : Int) ≤ (o0.1 95).toInt ∧ (o0.1 95).toInt ≤ 0) (x_0 : yv1.toInt ≤ v2.toInt) (x_1 : yv1.toInt ≤ v4.toInt) (x_2 : 2 * (o0.1 7).toInt ≤ v4.toInt - yv1.toInt + 1) (x_3 : 2 * (o0.1 7).toInt ≤ v4.toInt - yv1.toInt ∨ v3.toInt ≤ v4.toInt ∨ (o0.2.1 1 v4.toNatClampNeg).toInt = 32) (x_4 : 0 ≤ yv1.toInt) (hm : 10 * (1601 - v4.toInt) + 5 * (801 - (o0.1 7).toInt) + 3 - 2 * min 1 (max 0 (v3.toInt - v4.toInt)) ≤ (n : Int)) : tt (fM_takeLine_65 (gM_takeLine n) v2 v3 v4 o0) (QM_takeLine yv1 yo0) := by
  unfold fM_takeLine_65
  have g_o0_2 : (0 : Int) ≤ (o0.1 2).toInt ∧ (o0.1 2).toInt ≤ 1600 := k_o0.1 2
  have ey_o0_2 : (o0.1 2).toInt = (yo0.1 2).toInt := congrArg Int32.toInt (r_o0.1 2 rfl)
  have g_o0_7 : (0 : Int) ≤ (o0.1 7).toInt ∧ (o0.1 7).toInt ≤ 801 := k_o0.1 7
  refine tt_if (fun c1 => ?_) (fun c1 => ?_)
  · have wc1 : v3.toInt ≤ v4.toInt := c_le c1
    have i2 : (1 : Int) ≤ v4.toInt ∧ v4.toInt ≤ 1600 := nr_ler c1 i_v3 i_v4 (by decide) (by decide)
    try unfold fM_takeLine_89
    refine tt_if (fun c3 => ?_) (fun c3 => ?_)
    · have wc3 : v3.toInt ≤ v4.toInt := c_le c3
      have t4 : (0 : Int) ≤ (o0.2.1 1 v4.toNatClampNeg).toInt ∧ (o0.2.1 1 v4.toNatClampNeg).toInt ≤ 255 := k_o0.2 1 _
      exact H.2.2.1 _ _ _ _ k_o0 r_o0 i_v2 (iv_w (a := 0) (b := 1600) (by decide) (by decide) i_v3) (iv_w (a := 0) (b := 1600) (by decide) (by decide) i2) f_o0_0 f_o0_5 f_o0_95 (show yv1.toInt ≤ v2.toInt by omega) (show yv1.toInt ≤ v4.toInt by omega) (show 2 * (o0.1 7).toInt ≤ v4.toInt - yv1.toInt + 1 by omega) (show 2 * (o0.1 7).toInt ≤ v4.toInt - yv1.toInt ∨ v3.toInt ≤ v4.toInt ∨ (o0.2.1 1 v4.toNatClampNeg).toInt = 32 by omega) (show 0 ≤ yv1.toInt by omega) (show 10 * (1601 - v4.toInt) + 5 * (801 - (o0.1 7).toInt) + 2 < (n : Int) by omega)
    · have wc3 : v4.toInt < v3.toInt := c_nle c3
      have i5 : (1 : Int) ≤ v4.toInt ∧ v4.toInt ≤ 1599 := nr_nlel c3 i2 i_v3 (by decide) (by decide)
      have i6 : (2 : Int) ≤ v3.toInt ∧ v3.toInt ≤ 1600 := nr_nler c3 i2 i_v3 (by decide) (by decide)
      refine tt_n (ix_rel (x := (o0.1 7)) (by omega) (by omega)) ?_
      have i7 : (0 : Int) ≤ (o0.1 7).toInt ∧ (o0.1 7).toInt ≤ 800 := (by omega)
      refine tt_ko ?_
      have k8 := ok_xp (k := 8) (i := (o0.1 7).toNatClampNeg) (v := v4) k_o0 (iv_w (a := 0) (b := 1599) (by decide) (by decide) i5)
      have r9 := fr_xp (k := 8) (i := (o0.1 7).toNatClampNeg) (v := v4) r_o0 rfl
      have t10 : (0 : Int) ≤ (o0.2.1 1 v4.toNatClampNeg).toInt ∧ (o0.2.1 1 v4.toNatClampNeg).toInt ≤ 255 := k8.2 1 _
      exact H.2.2.2.2 _ _ _ _ k8 r9 i_v2 (iv_w (a := 1) (b := 1600) (by decide) (by decide) i6) (iv_w (a := 0) (b := 1600) (by decide) (by decide) i5) f_o0_0 f_o0_5 i7 f_o0_95 (show yv1.toInt ≤ v2.toInt by omega) (show yv1.toInt ≤ v4.toInt by omega) (show 2 * (o0.1 7).toInt + 1 ≤ v4.toInt - yv1.toInt ∨ (2 * (o0.1 7).toInt ≤ v4.toInt - yv1.toInt ∧ v4.toInt < v3.toInt ∧ ¬ (o0.2.1 1 v4.toNatClampNeg).toInt = 32) by omega) (show 0 ≤ yv1.toInt by omega) (show 10 * (1601 - v4.toInt) + 5 * (801 - (o0.1 7).toInt) < (n : Int) by omega)
  · have wc1 : v4.toInt < v3.toInt := c_nle c1
    have i11 : (0 : Int) ≤ v4.toInt ∧ v4.toInt ≤ 1599 := nr_nlel c1 i_v4 i_v3 (by decide) (by decide)
    refine tt_n (ix_ok i11 (by decide) (by decide)) ?_
    refine tt_kv (P := fun z => ((0 : Int) ≤ z.toInt ∧ z.toInt ≤ 255) ∧ z.toInt = (o0.2.1 1 v4.toNatClampNeg).toInt) ⟨(k_o0.2 1 _), rfl⟩ (fun x12 qi13 => ?_)
    obtain ⟨i13, ei13⟩ := qi13
    refine tt_if (fun c14 => ?_) (fun c14 => ?_)
    · have wc14 : x12.toInt = (32 : Int) := c_eq c14
      have i15 : (32 : Int) ≤ x12.toInt ∧ x12.toInt ≤ 32 := nr_eql c14 i13 (show (32 : Int) ≤ (32 : Int32).toInt ∧ (32 : Int32).toInt ≤ 32 by decide) (by decide) (by decide)
      refine tt_kv (P := fun z => ((1 : Int) ≤ z.toInt ∧ z.toInt ≤ 1600) ∧ z.toInt = v4.toInt + 1) ⟨iv_add i11 (show (1 : Int) ≤ (1 : Int32).toInt ∧ (1 : Int32).toInt ≤ 1 by decide) (by decide) (by decide) (by decide) (by decide), iq_add i11 (show (1 : Int) ≤ (1 : Int32).toInt ∧ (1 : Int32).toInt ≤ 1 by decide) (by decide) (by decide)⟩ (fun x16 qi17 => ?_)
      obtain ⟨i17, ei17⟩ := qi17
      have t18 : (0 : Int) ≤ (o0.2.1 1 x16.toNatClampNeg).toInt ∧ (o0.2.1 1 x16.toNatClampNeg).toInt ≤ 255 := k_o0.2 1 _
      exact H.2.2.2.1 _ _ _ _ k_o0 r_o0 i_v2 i_v3 (iv_w (a := 0) (b := 1600) (by decide) (by decide) i17) f_o0_0 f_o0_5 f_o0_95 (show yv1.toInt ≤ v2.toInt by omega) (show yv1.toInt ≤ x16.toInt by omega) (show 2 * (o0.1 7).toInt ≤ x16.toInt - yv1.toInt + 1 by omega) (show 2 * (o0.1 7).toInt ≤ x16.toInt - yv1.toInt ∨ v3.toInt ≤ x16.toInt ∨ (o0.2.1 1 x16.toNatClampNeg).toInt = 32 by omega) (show 0 ≤ yv1.toInt by omega) (show 10 * (1601 - x16.toInt) + 5 * (801 - (o0.1 7).toInt) + 3 - 2 * min 1 (max 0 (v3.toInt - x16.toInt)) < (n : Int) by omega)
    · have wc14 : ¬ x12.toInt = (32 : Int) := c_ne c14
      try unfold fM_takeLine_89
      refine tt_if (fun c19 => ?_) (fun c19 => ?_)
      · have wc19 : v3.toInt ≤ v4.toInt := c_le c19
        have i20 : (1 : Int) ≤ v3.toInt ∧ v3.toInt ≤ 1599 := nr_lel c19 i_v3 i11 (by decide) (by decide)
        have i21 : (1 : Int) ≤ v4.toInt ∧ v4.toInt ≤ 1599 := nr_ler c19 i_v3 i11 (by decide) (by decide)
        have t22 : (0 : Int) ≤ (o0.2.1 1 v4.toNatClampNeg).toInt ∧ (o0.2.1 1 v4.toNatClampNeg).toInt ≤ 255 := k_o0.2 1 _
        exact H.2.2.1 _ _ _ _ k_o0 r_o0 i_v2 (iv_w (a := 0) (b := 1600) (by decide) (by decide) i20) (iv_w (a := 0) (b := 1600) (by decide) (by decide) i21) f_o0_0 f_o0_5 f_o0_95 (show yv1.toInt ≤ v2.toInt by omega) (show yv1.toInt ≤ v4.toInt by omega) (show 2 * (o0.1 7).toInt ≤ v4.toInt - yv1.toInt + 1 by omega) (show 2 * (o0.1 7).toInt ≤ v4.toInt - yv1.toInt ∨ v3.toInt ≤ v4.toInt ∨ (o0.2.1 1 v4.toNatClampNeg).toInt = 32 by omega) (show 0 ≤ yv1.toInt by omega) (show 10 * (1601 - v4.toInt) + 5 * (801 - (o0.1 7).toInt) + 2 < (n : Int) by omega)
      · have wc19 : v4.toInt < v3.toInt := c_nle c19
        refine tt_n (ix_rel (x := (o0.1 7)) (by omega) (by omega)) ?_
        have i23 : (0 : Int) ≤ (o0.1 7).toInt ∧ (o0.1 7).toInt ≤ 800 := (by omega)
        refine tt_ko ?_
        have k24 := ok_xp (k := 8) (i := (o0.1 7).toNatClampNeg) (v := v4) k_o0 i11
        have r25 := fr_xp (k := 8) (i := (o0.1 7).toNatClampNeg) (v := v4) r_o0 rfl
        have t26 : (0 : Int) ≤ (o0.2.1 1 v4.toNatClampNeg).toInt ∧ (o0.2.1 1 v4.toNatClampNeg).toInt ≤ 255 := k24.2 1 _
        exact H.2.2.2.2 _ _ _ _ k24 r25 i_v2 i_v3 (iv_w (a := 0) (b := 1600) (by decide) (by decide) i11) f_o0_0 f_o0_5 i23 f_o0_95 (show yv1.toInt ≤ v2.toInt by omega) (show yv1.toInt ≤ v4.toInt by omega) (show 2 * (o0.1 7).toInt + 1 ≤ v4.toInt - yv1.toInt ∨ (2 * (o0.1 7).toInt ≤ v4.toInt - yv1.toInt ∧ v4.toInt < v3.toInt ∧ ¬ (o0.2.1 1 v4.toNatClampNeg).toInt = 32) by omega) (show 0 ≤ yv1.toInt by omega) (show 10 * (1601 - v4.toInt) + 5 * (801 - (o0.1 7).toInt) < (n : Int) by omega)
set_option maxHeartbeats 4000000 in
set_option maxRecDepth 100000 in
theorem tM_takeLine_59 {yv1 : Int32} {yo0 : cf_O} {n : Nat} (H : HM_takeLine yv1 yo0 n) (v2 : Int32) (v3 : Int32) (v4 : Int32) (o0 : cf_O) (k_o0 : okO I_M o0) (r_o0 : Fr (fr_M [7] [8, 9] []) yo0 o0) (i_v2 : (0 : Int) ≤ v2.toInt ∧ v2.toInt ≤ 1600) (i_v3 : (0 : Int) ≤ v3.toInt ∧ v3.toInt ≤ 1600) (i_v4 : (0 : Int) ≤ v4.toInt ∧ v4.toInt ≤ 1600) (f_o0_0 : (0 : Int) ≤ (o0.1 0).toInt ∧ (o0.1 0).toInt ≤ 0) (f_o0_5 : (0 : Int) ≤ (o0.1 5).toInt ∧ (o0.1 5).toInt ≤ 0) (f_o0_95 : (0 : Int) ≤ (o0.1 95).toInt ∧ (o0.1 95).toInt ≤ 0) (x_0 : yv1.toInt ≤ v2.toInt) (x_1 : yv1.toInt ≤ v4.toInt) (x_2 : 2 * (o0.1 7).toInt ≤ v4.toInt - yv1.toInt + 1) (x_3 : 2 * (o0.1 7).toInt ≤ v4.toInt - yv1.toInt ∨ v3.toInt ≤ v4.toInt ∨ (o0.2.1 1 v4.toNatClampNeg).toInt = 32) (x_4 : 0 ≤ yv1.toInt) (hm : 10 * (1601 - v4.toInt) + 5 * (801 - (o0.1 7).toInt) + 2 ≤ (n : Int)) : tt (fM_takeLine_59 (gM_takeLine n) v2 v3 v4 o0) (QM_takeLine yv1 yo0) := by
  unfold fM_takeLine_59
  have g_o0_2 : (0 : Int) ≤ (o0.1 2).toInt ∧ (o0.1 2).toInt ≤ 1600 := k_o0.1 2
  have ey_o0_2 : (o0.1 2).toInt = (yo0.1 2).toInt := congrArg Int32.toInt (r_o0.1 2 rfl)
  have g_o0_7 : (0 : Int) ≤ (o0.1 7).toInt ∧ (o0.1 7).toInt ≤ 801 := k_o0.1 7
  refine tt_if (fun c1 => ?_) (fun c1 => ?_)
  · have wc1 : v3.toInt ≤ v4.toInt := c_le c1
    exact tt_some ⟨i_v2, k_o0, r_o0, (show yv1.toInt ≤ v2.toInt by omega), trivial⟩
  · have wc1 : v4.toInt < v3.toInt := c_nle c1
    have i2 : (0 : Int) ≤ v4.toInt ∧ v4.toInt ≤ 1599 := nr_nlel c1 i_v4 i_v3 (by decide) (by decide)
    have i3 : (1 : Int) ≤ v3.toInt ∧ v3.toInt ≤ 1600 := nr_nler c1 i_v4 i_v3 (by decide) (by decide)
    have t4 : (0 : Int) ≤ (o0.2.1 1 v4.toNatClampNeg).toInt ∧ (o0.2.1 1 v4.toNatClampNeg).toInt ≤ 255 := k_o0.2 1 _
    exact H.2.2.2.1 _ _ _ _ k_o0 r_o0 i_v2 i3 (iv_w (a := 0) (b := 1600) (by decide) (by decide) i2) f_o0_0 f_o0_5 f_o0_95 (show yv1.toInt ≤ v2.toInt by omega) (show yv1.toInt ≤ v4.toInt by omega) (show 2 * (o0.1 7).toInt ≤ v4.toInt - yv1.toInt + 1 by omega) (show 2 * (o0.1 7).toInt ≤ v4.toInt - yv1.toInt ∨ v3.toInt ≤ v4.toInt ∨ (o0.2.1 1 v4.toNatClampNeg).toInt = 32 by omega) (show 0 ≤ yv1.toInt by omega) (show 10 * (1601 - v4.toInt) + 5 * (801 - (o0.1 7).toInt) + 3 - 2 * min 1 (max 0 (v3.toInt - v4.toInt)) < (n : Int) by omega)
set_option maxHeartbeats 4000000 in
set_option maxRecDepth 100000 in
theorem tM_takeLine_29 {yv1 : Int32} {yo0 : cf_O} {n : Nat} (H : HM_takeLine yv1 yo0 n) (v1 : Int32) (v2 : Int32) (v3 : Int32) (o0 : cf_O) (k_o0 : okO I_M o0) (r_o0 : Fr (fr_M [7] [8, 9] []) yo0 o0) (i_v1 : (0 : Int) ≤ v1.toInt ∧ v1.toInt ≤ 1600) (i_v2 : (0 : Int) ≤ v2.toInt ∧ v2.toInt ≤ 1600) (i_v3 : (0 : Int) ≤ v3.toInt ∧ v3.toInt ≤ 1600) (f_o0_0 : (0 : Int) ≤ (o0.1 0).toInt ∧ (o0.1 0).toInt ≤ 0) (f_o0_5 : (0 : Int) ≤ (o0.1 5).toInt ∧ (o0.1 5).toInt ≤ 0) (f_o0_95 : (0 : Int) ≤ (o0.1 95).toInt ∧ (o0.1 95).toInt ≤ 0) (x_0 : v1.toInt = yv1.toInt) (x_1 : v1.toInt ≤ v2.toInt) (x_2 : v1.toInt ≤ v3.toInt) (hm : 40000 + 2 * (1600 - v3.toInt) ≤ (n : Int)) : tt (fM_takeLine_29 (gM_takeLine n) v1 v2 v3 o0) (QM_takeLine yv1 yo0) := by
  unfold fM_takeLine_29
  have g_o0_2 : (0 : Int) ≤ (o0.1 2).toInt ∧ (o0.1 2).toInt ≤ 1600 := k_o0.1 2
  have ey_o0_2 : (o0.1 2).toInt = (yo0.1 2).toInt := congrArg Int32.toInt (r_o0.1 2 rfl)
  have g_o0_7 : (0 : Int) ≤ (o0.1 7).toInt ∧ (o0.1 7).toInt ≤ 801 := k_o0.1 7
  refine tt_if (fun c1 => ?_) (fun c1 => ?_)
  · have wc1 : v2.toInt ≤ v3.toInt := c_le c1
    try unfold fM_takeLine_51
    refine tt_ko ?_
    have k2 := ok_fp (k := 7) (v := 0) k_o0 (iv_w (a := 0) (b := 801) (by decide) (by decide) (show (0 : Int) ≤ (0 : Int32).toInt ∧ (0 : Int32).toInt ≤ 0 by decide))
    have r3 := fr_fp (k := 7) (v := 0) r_o0 rfl
    have t4 : (0 : Int) ≤ (o0.2.1 1 v1.toNatClampNeg).toInt ∧ (o0.2.1 1 v1.toNatClampNeg).toInt ≤ 255 := k2.2 1 _
    exact H.2.2.1 _ _ _ _ k2 r3 i_v2 i_v3 i_v1 f_o0_0 f_o0_5 f_o0_95 (show yv1.toInt ≤ v2.toInt by omega) (show yv1.toInt ≤ v1.toInt by omega) (show 2 * 0 ≤ v1.toInt - yv1.toInt + 1 by omega) (show 2 * 0 ≤ v1.toInt - yv1.toInt ∨ v3.toInt ≤ v1.toInt ∨ (o0.2.1 1 v1.toNatClampNeg).toInt = 32 by omega) (show 0 ≤ yv1.toInt by omega) (show 10 * (1601 - v1.toInt) + 5 * (801 - 0) + 2 < (n : Int) by omega)
  · have wc1 : v3.toInt < v2.toInt := c_nle c1
    have i5 : (0 : Int) ≤ v3.toInt ∧ v3.toInt ≤ 1599 := nr_nlel c1 i_v3 i_v2 (by decide) (by decide)
    have i6 : (1 : Int) ≤ v2.toInt ∧ v2.toInt ≤ 1600 := nr_nler c1 i_v3 i_v2 (by decide) (by decide)
    refine tt_n (ix_ok i5 (by decide) (by decide)) ?_
    refine tt_kv (P := fun z => ((0 : Int) ≤ z.toInt ∧ z.toInt ≤ 255) ∧ z.toInt = (o0.2.1 1 v3.toNatClampNeg).toInt) ⟨(k_o0.2 1 _), rfl⟩ (fun x7 qi8 => ?_)
    obtain ⟨i8, ei8⟩ := qi8
    refine tt_if (fun c9 => ?_) (fun c9 => ?_)
    · have wc9 : x7.toInt = (35 : Int) := c_eq c9
      have i10 : (35 : Int) ≤ x7.toInt ∧ x7.toInt ≤ 35 := nr_eql c9 i8 (show (35 : Int) ≤ (35 : Int32).toInt ∧ (35 : Int32).toInt ≤ 35 by decide) (by decide) (by decide)
      try unfold fM_takeLine_51
      refine tt_ko ?_
      have k11 := ok_fp (k := 7) (v := 0) k_o0 (iv_w (a := 0) (b := 801) (by decide) (by decide) (show (0 : Int) ≤ (0 : Int32).toInt ∧ (0 : Int32).toInt ≤ 0 by decide))
      have r12 := fr_fp (k := 7) (v := 0) r_o0 rfl
      have t13 : (0 : Int) ≤ (o0.2.1 1 v1.toNatClampNeg).toInt ∧ (o0.2.1 1 v1.toNatClampNeg).toInt ≤ 255 := k11.2 1 _
      exact H.2.2.1 _ _ _ _ k11 r12 (iv_w (a := 0) (b := 1600) (by decide) (by decide) i6) (iv_w (a := 0) (b := 1600) (by decide) (by decide) i5) i_v1 f_o0_0 f_o0_5 f_o0_95 (show yv1.toInt ≤ v2.toInt by omega) (show yv1.toInt ≤ v1.toInt by omega) (show 2 * 0 ≤ v1.toInt - yv1.toInt + 1 by omega) (show 2 * 0 ≤ v1.toInt - yv1.toInt ∨ v3.toInt ≤ v1.toInt ∨ (o0.2.1 1 v1.toNatClampNeg).toInt = 32 by omega) (show 0 ≤ yv1.toInt by omega) (show 10 * (1601 - v1.toInt) + 5 * (801 - 0) + 2 < (n : Int) by omega)
    · have wc9 : ¬ x7.toInt = (35 : Int) := c_ne c9
      refine tt_kv (P := fun z => ((1 : Int) ≤ z.toInt ∧ z.toInt ≤ 1600) ∧ z.toInt = v3.toInt + 1) ⟨iv_add i5 (show (1 : Int) ≤ (1 : Int32).toInt ∧ (1 : Int32).toInt ≤ 1 by decide) (by decide) (by decide) (by decide) (by decide), iq_add i5 (show (1 : Int) ≤ (1 : Int32).toInt ∧ (1 : Int32).toInt ≤ 1 by decide) (by decide) (by decide)⟩ (fun x14 qi15 => ?_)
      obtain ⟨i15, ei15⟩ := qi15
      exact H.2.1 _ _ _ _ k_o0 r_o0 i_v1 (iv_w (a := 0) (b := 1600) (by decide) (by decide) i6) (iv_w (a := 0) (b := 1600) (by decide) (by decide) i15) f_o0_0 f_o0_5 f_o0_95 (show v1.toInt = yv1.toInt by omega) (show v1.toInt ≤ v2.toInt by omega) (show v1.toInt ≤ x14.toInt by omega) (show 40000 + 2 * (1600 - x14.toInt) < (n : Int) by omega)
set_option maxHeartbeats 4000000 in
set_option maxRecDepth 100000 in
theorem tM_takeLine_2 {yv1 : Int32} {yo0 : cf_O} {n : Nat} (H : HM_takeLine yv1 yo0 n) (v1 : Int32) (v2 : Int32) (o0 : cf_O) (k_o0 : okO I_M o0) (r_o0 : Fr (fr_M [7] [8, 9] []) yo0 o0) (i_v1 : (0 : Int) ≤ v1.toInt ∧ v1.toInt ≤ 1600) (i_v2 : (0 : Int) ≤ v2.toInt ∧ v2.toInt ≤ 1600) (f_o0_0 : (0 : Int) ≤ (o0.1 0).toInt ∧ (o0.1 0).toInt ≤ 0) (f_o0_5 : (0 : Int) ≤ (o0.1 5).toInt ∧ (o0.1 5).toInt ≤ 0) (f_o0_95 : (0 : Int) ≤ (o0.1 95).toInt ∧ (o0.1 95).toInt ≤ 0) (x_0 : v1.toInt = yv1.toInt) (x_1 : v1.toInt ≤ v2.toInt) (hm : 50000 + 2 * (1600 - v2.toInt) ≤ (n : Int)) : tt (fM_takeLine_2 (gM_takeLine n) v1 v2 o0) (QM_takeLine yv1 yo0) := by
  unfold fM_takeLine_2
  have g_o0_2 : (0 : Int) ≤ (o0.1 2).toInt ∧ (o0.1 2).toInt ≤ 1600 := k_o0.1 2
  have ey_o0_2 : (o0.1 2).toInt = (yo0.1 2).toInt := congrArg Int32.toInt (r_o0.1 2 rfl)
  have g_o0_7 : (0 : Int) ≤ (o0.1 7).toInt ∧ (o0.1 7).toInt ≤ 801 := k_o0.1 7
  refine tt_if (fun c1 => ?_) (fun c1 => ?_)
  · have wc1 : (o0.1 2).toInt ≤ v2.toInt := c_le c1
    try unfold fM_takeLine_27
    exact H.2.1 _ _ _ _ k_o0 r_o0 i_v1 i_v2 i_v1 f_o0_0 f_o0_5 f_o0_95 (show v1.toInt = yv1.toInt by omega) (show v1.toInt ≤ v2.toInt by omega) (show v1.toInt ≤ v1.toInt by omega) (show 40000 + 2 * (1600 - v1.toInt) < (n : Int) by omega)
  · have wc1 : v2.toInt < (o0.1 2).toInt := c_nle c1
    have i2 : (0 : Int) ≤ v2.toInt ∧ v2.toInt ≤ 1599 := nr_nlel c1 i_v2 (k_o0.1 2) (by decide) (by decide)
    have i3 : (1 : Int) ≤ (o0.1 2).toInt ∧ (o0.1 2).toInt ≤ 1600 := nr_nler c1 i_v2 (k_o0.1 2) (by decide) (by decide)
    refine tt_n (ix_ok i2 (by decide) (by decide)) ?_
    refine tt_kv (P := fun z => ((0 : Int) ≤ z.toInt ∧ z.toInt ≤ 255) ∧ z.toInt = (o0.2.1 1 v2.toNatClampNeg).toInt) ⟨(k_o0.2 1 _), rfl⟩ (fun x4 qi5 => ?_)
    obtain ⟨i5, ei5⟩ := qi5
    refine tt_if (fun c6 => ?_) (fun c6 => ?_)
    · have wc6 : x4.toInt = (10 : Int) := c_eq c6
      have i7 : (10 : Int) ≤ x4.toInt ∧ x4.toInt ≤ 10 := nr_eql c6 i5 (show (10 : Int) ≤ (10 : Int32).toInt ∧ (10 : Int32).toInt ≤ 10 by decide) (by decide) (by decide)
      try unfold fM_takeLine_27
      exact H.2.1 _ _ _ _ k_o0 r_o0 i_v1 (iv_w (a := 0) (b := 1600) (by decide) (by decide) i2) i_v1 f_o0_0 f_o0_5 f_o0_95 (show v1.toInt = yv1.toInt by omega) (show v1.toInt ≤ v2.toInt by omega) (show v1.toInt ≤ v1.toInt by omega) (show 40000 + 2 * (1600 - v1.toInt) < (n : Int) by omega)
    · have wc6 : ¬ x4.toInt = (10 : Int) := c_ne c6
      refine tt_kv (P := fun z => ((1 : Int) ≤ z.toInt ∧ z.toInt ≤ 1600) ∧ z.toInt = v2.toInt + 1) ⟨iv_add i2 (show (1 : Int) ≤ (1 : Int32).toInt ∧ (1 : Int32).toInt ≤ 1 by decide) (by decide) (by decide) (by decide) (by decide), iq_add i2 (show (1 : Int) ≤ (1 : Int32).toInt ∧ (1 : Int32).toInt ≤ 1 by decide) (by decide) (by decide)⟩ (fun x8 qi9 => ?_)
      obtain ⟨i9, ei9⟩ := qi9
      exact H.1 _ _ _ k_o0 r_o0 i_v1 (iv_w (a := 0) (b := 1600) (by decide) (by decide) i9) f_o0_0 f_o0_5 f_o0_95 (show v1.toInt = yv1.toInt by omega) (show v1.toInt ≤ x8.toInt by omega) (show 50000 + 2 * (1600 - x8.toInt) < (n : Int) by omega)
set_option maxHeartbeats 4000000 in
set_option maxRecDepth 100000 in
theorem hM_takeLine (yv1 : Int32) (yo0 : cf_O) : ∀ n, HM_takeLine yv1 yo0 n := by
  intro n
  induction n with
  | zero => exact ⟨(fun v1 v2 o0 k_o0 r_o0 i_v1 i_v2 f_o0_0 f_o0_5 f_o0_95 x_0 x_1 hm => by exact absurd (show 50000 + 2 * (1600 - v2.toInt) < (0 : Int) from hm) (by omega)), (fun v1 v2 v3 o0 k_o0 r_o0 i_v1 i_v2 i_v3 f_o0_0 f_o0_5 f_o0_95 x_0 x_1 x_2 hm => by exact absurd (show 40000 + 2 * (1600 - v3.toInt) < (0 : Int) from hm) (by omega)), (fun v2 v3 v4 o0 k_o0 r_o0 i_v2 i_v3 i_v4 f_o0_0 f_o0_5 f_o0_95 x_0 x_1 x_2 x_3 x_4 hm => by have z_o0_7 : (0 : Int) ≤ (o0.1 7).toInt ∧ (o0.1 7).toInt ≤ 801 := k_o0.1 7; exact absurd (show 10 * (1601 - v4.toInt) + 5 * (801 - (o0.1 7).toInt) + 2 < (0 : Int) from hm) (by omega)), (fun v2 v3 v4 o0 k_o0 r_o0 i_v2 i_v3 i_v4 f_o0_0 f_o0_5 f_o0_95 x_0 x_1 x_2 x_3 x_4 hm => by have z_o0_7 : (0 : Int) ≤ (o0.1 7).toInt ∧ (o0.1 7).toInt ≤ 801 := k_o0.1 7; exact absurd (show 10 * (1601 - v4.toInt) + 5 * (801 - (o0.1 7).toInt) + 3 - 2 * min 1 (max 0 (v3.toInt - v4.toInt)) < (0 : Int) from hm) (by omega)), (fun v2 v3 v4 o0 k_o0 r_o0 i_v2 i_v3 i_v4 f_o0_0 f_o0_5 f_o0_7 f_o0_95 x_0 x_1 x_2 x_3 hm => by have z_o0_7 : (0 : Int) ≤ (o0.1 7).toInt ∧ (o0.1 7).toInt ≤ 801 := k_o0.1 7; exact absurd (show 10 * (1601 - v4.toInt) + 5 * (801 - (o0.1 7).toInt) < (0 : Int) from hm) (by omega))⟩
  | succ n ih => exact ⟨(fun v1 v2 o0 k_o0 r_o0 i_v1 i_v2 f_o0_0 f_o0_5 f_o0_95 x_0 x_1 hm => tM_takeLine_2 ih v1 v2 o0 k_o0 r_o0 i_v1 i_v2 f_o0_0 f_o0_5 f_o0_95 x_0 x_1 (by omega)), (fun v1 v2 v3 o0 k_o0 r_o0 i_v1 i_v2 i_v3 f_o0_0 f_o0_5 f_o0_95 x_0 x_1 x_2 hm => tM_takeLine_29 ih v1 v2 v3 o0 k_o0 r_o0 i_v1 i_v2 i_v3 f_o0_0 f_o0_5 f_o0_95 x_0 x_1 x_2 (by omega)), (fun v2 v3 v4 o0 k_o0 r_o0 i_v2 i_v3 i_v4 f_o0_0 f_o0_5 f_o0_95 x_0 x_1 x_2 x_3 x_4 hm => tM_takeLine_59 ih v2 v3 v4 o0 k_o0 r_o0 i_v2 i_v3 i_v4 f_o0_0 f_o0_5 f_o0_95 x_0 x_1 x_2 x_3 x_4 (by omega)), (fun v2 v3 v4 o0 k_o0 r_o0 i_v2 i_v3 i_v4 f_o0_0 f_o0_5 f_o0_95 x_0 x_1 x_2 x_3 x_4 hm => tM_takeLine_65 ih v2 v3 v4 o0 k_o0 r_o0 i_v2 i_v3 i_v4 f_o0_0 f_o0_5 f_o0_95 x_0 x_1 x_2 x_3 x_4 (by omega)), (fun v2 v3 v4 o0 k_o0 r_o0 i_v2 i_v3 i_v4 f_o0_0 f_o0_5 f_o0_7 f_o0_95 x_0 x_1 x_2 x_3 hm => tM_takeLine_106 ih v2 v3 v4 o0 k_o0 r_o0 i_v2 i_v3 i_v4 f_o0_0 f_o0_5 f_o0_7 f_o0_95 x_0 x_1 x_2 x_3 (by omega))⟩
set_option maxHeartbeats 4000000 in
set_option maxRecDepth 100000 in
theorem sM_takeLine (v1 : Int32) (o0 : cf_O) (k_o0 : okO I_M o0) (i_v1 : (0 : Int) ≤ v1.toInt ∧ v1.toInt ≤ 1600) (f_o0_0 : (0 : Int) ≤ (o0.1 0).toInt ∧ (o0.1 0).toInt ≤ 0) (f_o0_5 : (0 : Int) ≤ (o0.1 5).toInt ∧ (o0.1 5).toInt ≤ 0) (f_o0_95 : (0 : Int) ≤ (o0.1 95).toInt ∧ (o0.1 95).toInt ≤ 0) : tt (fM_takeLine v1 o0) (QM_takeLine v1 o0) := by
  have H := hM_takeLine v1 o0 cfFU
  have hm : (60000 : Int) ≤ (cfFU : Nat) := by decide
  have r_o0 : Fr (fr_M [7] [8, 9] []) o0 o0 := fr_rfl
  unfold fM_takeLine fM_takeLine_0
  have g_o0_2 : (0 : Int) ≤ (o0.1 2).toInt ∧ (o0.1 2).toInt ≤ 1600 := k_o0.1 2
  have g_o0_7 : (0 : Int) ≤ (o0.1 7).toInt ∧ (o0.1 7).toInt ≤ 801 := k_o0.1 7
  exact H.1 _ _ _ k_o0 r_o0 i_v1 i_v1 f_o0_0 f_o0_5 f_o0_95 (show v1.toInt = v1.toInt by omega) (show v1.toInt ≤ v1.toInt by omega) (show 50000 + 2 * (1600 - v1.toInt) < ((cfFU : Nat) : Int) by omega)
def QM_firstWord (o0 : cf_O) (r : (Int32)) : Prop := (((-1) : Int) ≤ r.toInt ∧ r.toInt ≤ 3) ∧ True
def HM_firstWord (yo0 : cf_O) (n : Nat) : Prop := (∀ (v1 : Int32) (v2 : Int32) (o0 : cf_O), (okO I_M o0) → (Fr (fr_M [] [] []) yo0 o0) → (((-1) : Int) ≤ v1.toInt ∧ v1.toInt ≤ 3) → ((0 : Int) ≤ v2.toInt ∧ v2.toInt ≤ 4) → ((0 : Int) ≤ (o0.1 0).toInt ∧ (o0.1 0).toInt ≤ 0) → ((0 : Int) ≤ (o0.1 5).toInt ∧ (o0.1 5).toInt ≤ 0) → ((1 : Int) ≤ (o0.1 7).toInt ∧ (o0.1 7).toInt ≤ 801) → ((0 : Int) ≤ (o0.1 95).toInt ∧ (o0.1 95).toInt ≤ 0) → 0 + (4 - v2.toInt) * 3202 < (n : Int) → tt (gM_firstWord n 0 v1 v2 0 0 o0) (QM_firstWord yo0)) ∧ (∀ (v1 : Int32) (v2 : Int32) (v3 : Int32) (v4 : Int64) (o0 : cf_O), (okO I_M o0) → (Fr (fr_M [] [] []) yo0 o0) → (((-1) : Int) ≤ v1.toInt ∧ v1.toInt ≤ 3) → ((0 : Int) ≤ v2.toInt ∧ v2.toInt ≤ 3) → ((1 : Int) ≤ v3.toInt ∧ v3.toInt ≤ 1600) → ((0 : Int) ≤ (o0.1 0).toInt ∧ (o0.1 0).toInt ≤ 0) → ((0 : Int) ≤ (o0.1 5).toInt ∧ (o0.1 5).toInt ≤ 0) → ((1 : Int) ≤ (o0.1 7).toInt ∧ (o0.1 7).toInt ≤ 801) → ((0 : Int) ≤ (o0.1 95).toInt ∧ (o0.1 95).toInt ≤ 0) → 0 + (4 - v2.toInt - 1) * 3202 + 1 + (1600 - v3.toInt) * 2 < (n : Int) → tt (gM_firstWord n 1 v1 v2 v3 v4 o0) (QM_firstWord yo0))
set_option maxHeartbeats 4000000 in
set_option maxRecDepth 100000 in
theorem tM_firstWord_26 {yo0 : cf_O} {n : Nat} (H : HM_firstWord yo0 n) (v1 : Int32) (v2 : Int32) (v3 : Int32) (v4 : Int64) (o0 : cf_O) (k_o0 : okO I_M o0) (r_o0 : Fr (fr_M [] [] []) yo0 o0) (i_v1 : ((-1) : Int) ≤ v1.toInt ∧ v1.toInt ≤ 3) (i_v2 : (0 : Int) ≤ v2.toInt ∧ v2.toInt ≤ 3) (i_v3 : (1 : Int) ≤ v3.toInt ∧ v3.toInt ≤ 1600) (f_o0_0 : (0 : Int) ≤ (o0.1 0).toInt ∧ (o0.1 0).toInt ≤ 0) (f_o0_5 : (0 : Int) ≤ (o0.1 5).toInt ∧ (o0.1 5).toInt ≤ 0) (f_o0_7 : (1 : Int) ≤ (o0.1 7).toInt ∧ (o0.1 7).toInt ≤ 801) (f_o0_95 : (0 : Int) ≤ (o0.1 95).toInt ∧ (o0.1 95).toInt ≤ 0) (hm : 0 + (4 - v2.toInt - 1) * 3202 + 1 + (1600 - v3.toInt) * 2 ≤ (n : Int)) : tt (fM_firstWord_26 (gM_firstWord n) v1 v2 v3 v4 o0) (QM_firstWord yo0) := by
  unfold fM_firstWord_26
  refine tt_n (ix_ok (show (0 : Int) ≤ (0 : Int32).toInt ∧ (0 : Int32).toInt ≤ 0 by decide) (by decide) (by decide)) ?_
  refine tt_kv (P := fun z => (0 : Int) ≤ z.toInt ∧ z.toInt ≤ 1600) (k_o0.2 9 _) (fun x1 i2 => ?_)
  refine tt_if (fun c3 => ?_) (fun c3 => ?_)
  · try unfold fM_firstWord_74
    refine tt_n (ix_ok (show (0 : Int) ≤ (0 : Int32).toInt ∧ (0 : Int32).toInt ≤ 0 by decide) (by decide) (by decide)) ?_
    refine tt_kv (P := fun z => (0 : Int) ≤ z.toInt ∧ z.toInt ≤ 1599) (k_o0.2 8 _) (fun x4 i5 => ?_)
    refine tt_n (ix_ok i5 (by decide) (by decide)) ?_
    refine tt_kv (P := fun z => (0 : Int) ≤ z.toInt ∧ z.toInt ≤ 255) (k_o0.2 1 _) (fun x6 i7 => ?_)
    refine tt_if (fun c8 => ?_) (fun c8 => ?_)
    · have i9 : (46 : Int) ≤ x6.toInt ∧ x6.toInt ≤ 46 := nr_eql c8 i7 (show (46 : Int) ≤ (46 : Int32).toInt ∧ (46 : Int32).toInt ≤ 46 by decide) (by decide) (by decide)
      refine tt_n (ix_ok (show (0 : Int) ≤ (0 : Int32).toInt ∧ (0 : Int32).toInt ≤ 0 by decide) (by decide) (by decide)) ?_
      refine tt_kv (P := fun z => (0 : Int) ≤ z.toInt ∧ z.toInt ≤ 1600) (k_o0.2 9 _) (fun x10 i11 => ?_)
      refine tt_if (fun c12 => ?_) (fun c12 => ?_)
      · have i13 : (1 : Int) ≤ x10.toInt ∧ x10.toInt ≤ 1600 := nr_eqr c12 i_v3 i11 (by decide) (by decide)
        refine tt_kv (P := fun z => ((-2147483648) : Int) ≤ z.toInt ∧ z.toInt ≤ 2147483647) (iv_top _) (fun x14 i15 => ?_)
        refine tt_if (fun c16 => ?_) (fun c16 => ?_)
        · have i17 : (0 : Int) ≤ x14.toInt ∧ x14.toInt ≤ 0 := nr_eql c16 i15 (show (0 : Int) ≤ (0 : Int32).toInt ∧ (0 : Int32).toInt ≤ 0 by decide) (by decide) (by decide)
          try unfold fM_firstWord_112
          refine tt_kv (P := fun z => ((1 : Int) ≤ z.toInt ∧ z.toInt ≤ 4) ∧ z.toInt = v2.toInt + 1) ⟨iv_add i_v2 (show (1 : Int) ≤ (1 : Int32).toInt ∧ (1 : Int32).toInt ≤ 1 by decide) (by decide) (by decide) (by decide) (by decide), iq_add i_v2 (show (1 : Int) ≤ (1 : Int32).toInt ∧ (1 : Int32).toInt ≤ 1 by decide) (by decide) (by decide)⟩ (fun x18 qi19 => ?_)
          obtain ⟨i19, ei19⟩ := qi19
          exact H.1 _ _ _ k_o0 r_o0 (iv_w (a := (-1)) (b := 3) (by decide) (by decide) i_v2) (iv_w (a := 0) (b := 4) (by decide) (by decide) i19) f_o0_0 f_o0_5 f_o0_7 f_o0_95 (show 0 + (4 - x18.toInt) * 3202 < (n : Int) by omega)
        · try unfold fM_firstWord_111
          try unfold fM_firstWord_112
          refine tt_kv (P := fun z => ((1 : Int) ≤ z.toInt ∧ z.toInt ≤ 4) ∧ z.toInt = v2.toInt + 1) ⟨iv_add i_v2 (show (1 : Int) ≤ (1 : Int32).toInt ∧ (1 : Int32).toInt ≤ 1 by decide) (by decide) (by decide) (by decide) (by decide), iq_add i_v2 (show (1 : Int) ≤ (1 : Int32).toInt ∧ (1 : Int32).toInt ≤ 1 by decide) (by decide) (by decide)⟩ (fun x20 qi21 => ?_)
          obtain ⟨i21, ei21⟩ := qi21
          exact H.1 _ _ _ k_o0 r_o0 i_v1 (iv_w (a := 0) (b := 4) (by decide) (by decide) i21) f_o0_0 f_o0_5 f_o0_7 f_o0_95 (show 0 + (4 - x20.toInt) * 3202 < (n : Int) by omega)
      · try unfold fM_firstWord_111
        try unfold fM_firstWord_112
        refine tt_kv (P := fun z => ((1 : Int) ≤ z.toInt ∧ z.toInt ≤ 4) ∧ z.toInt = v2.toInt + 1) ⟨iv_add i_v2 (show (1 : Int) ≤ (1 : Int32).toInt ∧ (1 : Int32).toInt ≤ 1 by decide) (by decide) (by decide) (by decide) (by decide), iq_add i_v2 (show (1 : Int) ≤ (1 : Int32).toInt ∧ (1 : Int32).toInt ≤ 1 by decide) (by decide) (by decide)⟩ (fun x22 qi23 => ?_)
        obtain ⟨i23, ei23⟩ := qi23
        exact H.1 _ _ _ k_o0 r_o0 i_v1 (iv_w (a := 0) (b := 4) (by decide) (by decide) i23) f_o0_0 f_o0_5 f_o0_7 f_o0_95 (show 0 + (4 - x22.toInt) * 3202 < (n : Int) by omega)
    · try unfold fM_firstWord_111
      try unfold fM_firstWord_112
      refine tt_kv (P := fun z => ((1 : Int) ≤ z.toInt ∧ z.toInt ≤ 4) ∧ z.toInt = v2.toInt + 1) ⟨iv_add i_v2 (show (1 : Int) ≤ (1 : Int32).toInt ∧ (1 : Int32).toInt ≤ 1 by decide) (by decide) (by decide) (by decide) (by decide), iq_add i_v2 (show (1 : Int) ≤ (1 : Int32).toInt ∧ (1 : Int32).toInt ≤ 1 by decide) (by decide) (by decide)⟩ (fun x24 qi25 => ?_)
      obtain ⟨i25, ei25⟩ := qi25
      exact H.1 _ _ _ k_o0 r_o0 i_v1 (iv_w (a := 0) (b := 4) (by decide) (by decide) i25) f_o0_0 f_o0_5 f_o0_7 f_o0_95 (show 0 + (4 - x24.toInt) * 3202 < (n : Int) by omega)
  · have i26 : (1 : Int) ≤ v3.toInt ∧ v3.toInt ≤ 1599 := nr_nlel c3 i_v3 i2 (by decide) (by decide)
    have i27 : (2 : Int) ≤ x1.toInt ∧ x1.toInt ≤ 1600 := nr_nler c3 i_v3 i2 (by decide) (by decide)
    refine tt_kv (P := fun z => ((-2147483648) : Int) ≤ z.toInt ∧ z.toInt ≤ 2147483647) (iv_top _) (fun x28 i29 => ?_)
    refine tt_if (fun c30 => ?_) (fun c30 => ?_)
    · have i31 : ((-2147483648) : Int) ≤ x28.toInt ∧ x28.toInt ≤ 0 := nr_lel c30 i29 (show (0 : Int) ≤ (0 : Int32).toInt ∧ (0 : Int32).toInt ≤ 0 by decide) (by decide) (by decide)
      try unfold fM_firstWord_74
      refine tt_n (ix_ok (show (0 : Int) ≤ (0 : Int32).toInt ∧ (0 : Int32).toInt ≤ 0 by decide) (by decide) (by decide)) ?_
      refine tt_kv (P := fun z => (0 : Int) ≤ z.toInt ∧ z.toInt ≤ 1599) (k_o0.2 8 _) (fun x32 i33 => ?_)
      refine tt_n (ix_ok i33 (by decide) (by decide)) ?_
      refine tt_kv (P := fun z => (0 : Int) ≤ z.toInt ∧ z.toInt ≤ 255) (k_o0.2 1 _) (fun x34 i35 => ?_)
      refine tt_if (fun c36 => ?_) (fun c36 => ?_)
      · have i37 : (46 : Int) ≤ x34.toInt ∧ x34.toInt ≤ 46 := nr_eql c36 i35 (show (46 : Int) ≤ (46 : Int32).toInt ∧ (46 : Int32).toInt ≤ 46 by decide) (by decide) (by decide)
        refine tt_n (ix_ok (show (0 : Int) ≤ (0 : Int32).toInt ∧ (0 : Int32).toInt ≤ 0 by decide) (by decide) (by decide)) ?_
        refine tt_kv (P := fun z => (0 : Int) ≤ z.toInt ∧ z.toInt ≤ 1600) (k_o0.2 9 _) (fun x38 i39 => ?_)
        refine tt_if (fun c40 => ?_) (fun c40 => ?_)
        · have i41 : (1 : Int) ≤ x38.toInt ∧ x38.toInt ≤ 1599 := nr_eqr c40 i26 i39 (by decide) (by decide)
          refine tt_kv (P := fun z => ((-2147483648) : Int) ≤ z.toInt ∧ z.toInt ≤ 2147483647) (iv_top _) (fun x42 i43 => ?_)
          refine tt_if (fun c44 => ?_) (fun c44 => ?_)
          · have i45 : (0 : Int) ≤ x42.toInt ∧ x42.toInt ≤ 0 := nr_eql c44 i43 (show (0 : Int) ≤ (0 : Int32).toInt ∧ (0 : Int32).toInt ≤ 0 by decide) (by decide) (by decide)
            try unfold fM_firstWord_112
            refine tt_kv (P := fun z => ((1 : Int) ≤ z.toInt ∧ z.toInt ≤ 4) ∧ z.toInt = v2.toInt + 1) ⟨iv_add i_v2 (show (1 : Int) ≤ (1 : Int32).toInt ∧ (1 : Int32).toInt ≤ 1 by decide) (by decide) (by decide) (by decide) (by decide), iq_add i_v2 (show (1 : Int) ≤ (1 : Int32).toInt ∧ (1 : Int32).toInt ≤ 1 by decide) (by decide) (by decide)⟩ (fun x46 qi47 => ?_)
            obtain ⟨i47, ei47⟩ := qi47
            exact H.1 _ _ _ k_o0 r_o0 (iv_w (a := (-1)) (b := 3) (by decide) (by decide) i_v2) (iv_w (a := 0) (b := 4) (by decide) (by decide) i47) f_o0_0 f_o0_5 f_o0_7 f_o0_95 (show 0 + (4 - x46.toInt) * 3202 < (n : Int) by omega)
          · try unfold fM_firstWord_111
            try unfold fM_firstWord_112
            refine tt_kv (P := fun z => ((1 : Int) ≤ z.toInt ∧ z.toInt ≤ 4) ∧ z.toInt = v2.toInt + 1) ⟨iv_add i_v2 (show (1 : Int) ≤ (1 : Int32).toInt ∧ (1 : Int32).toInt ≤ 1 by decide) (by decide) (by decide) (by decide) (by decide), iq_add i_v2 (show (1 : Int) ≤ (1 : Int32).toInt ∧ (1 : Int32).toInt ≤ 1 by decide) (by decide) (by decide)⟩ (fun x48 qi49 => ?_)
            obtain ⟨i49, ei49⟩ := qi49
            exact H.1 _ _ _ k_o0 r_o0 i_v1 (iv_w (a := 0) (b := 4) (by decide) (by decide) i49) f_o0_0 f_o0_5 f_o0_7 f_o0_95 (show 0 + (4 - x48.toInt) * 3202 < (n : Int) by omega)
        · try unfold fM_firstWord_111
          try unfold fM_firstWord_112
          refine tt_kv (P := fun z => ((1 : Int) ≤ z.toInt ∧ z.toInt ≤ 4) ∧ z.toInt = v2.toInt + 1) ⟨iv_add i_v2 (show (1 : Int) ≤ (1 : Int32).toInt ∧ (1 : Int32).toInt ≤ 1 by decide) (by decide) (by decide) (by decide) (by decide), iq_add i_v2 (show (1 : Int) ≤ (1 : Int32).toInt ∧ (1 : Int32).toInt ≤ 1 by decide) (by decide) (by decide)⟩ (fun x50 qi51 => ?_)
          obtain ⟨i51, ei51⟩ := qi51
          exact H.1 _ _ _ k_o0 r_o0 i_v1 (iv_w (a := 0) (b := 4) (by decide) (by decide) i51) f_o0_0 f_o0_5 f_o0_7 f_o0_95 (show 0 + (4 - x50.toInt) * 3202 < (n : Int) by omega)
      · try unfold fM_firstWord_111
        try unfold fM_firstWord_112
        refine tt_kv (P := fun z => ((1 : Int) ≤ z.toInt ∧ z.toInt ≤ 4) ∧ z.toInt = v2.toInt + 1) ⟨iv_add i_v2 (show (1 : Int) ≤ (1 : Int32).toInt ∧ (1 : Int32).toInt ≤ 1 by decide) (by decide) (by decide) (by decide) (by decide), iq_add i_v2 (show (1 : Int) ≤ (1 : Int32).toInt ∧ (1 : Int32).toInt ≤ 1 by decide) (by decide) (by decide)⟩ (fun x52 qi53 => ?_)
        obtain ⟨i53, ei53⟩ := qi53
        exact H.1 _ _ _ k_o0 r_o0 i_v1 (iv_w (a := 0) (b := 4) (by decide) (by decide) i53) f_o0_0 f_o0_5 f_o0_7 f_o0_95 (show 0 + (4 - x52.toInt) * 3202 < (n : Int) by omega)
    · have i54 : (1 : Int) ≤ x28.toInt ∧ x28.toInt ≤ 2147483647 := nr_nler c30 (show (0 : Int) ≤ (0 : Int32).toInt ∧ (0 : Int32).toInt ≤ 0 by decide) i29 (by decide) (by decide)
      refine tt_n (ix_ok i26 (by decide) (by decide)) ?_
      refine tt_kv (P := fun z => (0 : Int) ≤ z.toInt ∧ z.toInt ≤ 255) (k_o0.2 1 _) (fun x55 i56 => ?_)
      refine tt_kl (fun x57 => ?_)
      refine tt_kv (P := fun z => ((-2147483648) : Int) ≤ z.toInt ∧ z.toInt ≤ 2147483647) (iv_top _) (fun x58 i59 => ?_)
      refine tt_kv (P := fun z => ((-2147483648) : Int) ≤ z.toInt ∧ z.toInt ≤ 2147483647) (iv_top _) (fun x60 i61 => ?_)
      refine tt_if (fun c62 => ?_) (fun c62 => ?_)
      · have i63 : (0 : Int) ≤ x60.toInt ∧ x60.toInt ≤ 255 := nr_eqr c62 i56 i61 (by decide) (by decide)
        refine tt_kv (P := fun z => ((2 : Int) ≤ z.toInt ∧ z.toInt ≤ 1600) ∧ z.toInt = v3.toInt + 1) ⟨iv_add i26 (show (1 : Int) ≤ (1 : Int32).toInt ∧ (1 : Int32).toInt ≤ 1 by decide) (by decide) (by decide) (by decide) (by decide), iq_add i26 (show (1 : Int) ≤ (1 : Int32).toInt ∧ (1 : Int32).toInt ≤ 1 by decide) (by decide) (by decide)⟩ (fun x64 qi65 => ?_)
        obtain ⟨i65, ei65⟩ := qi65
        refine tt_kl (fun x66 => ?_)
        exact H.2 _ _ _ _ _ k_o0 r_o0 i_v1 i_v2 (iv_w (a := 1) (b := 1600) (by decide) (by decide) i65) f_o0_0 f_o0_5 f_o0_7 f_o0_95 (show 0 + (4 - v2.toInt - 1) * 3202 + 1 + (1600 - x64.toInt) * 2 < (n : Int) by omega)
      · try unfold fM_firstWord_74
        refine tt_n (ix_ok (show (0 : Int) ≤ (0 : Int32).toInt ∧ (0 : Int32).toInt ≤ 0 by decide) (by decide) (by decide)) ?_
        refine tt_kv (P := fun z => (0 : Int) ≤ z.toInt ∧ z.toInt ≤ 1599) (k_o0.2 8 _) (fun x67 i68 => ?_)
        refine tt_n (ix_ok i68 (by decide) (by decide)) ?_
        refine tt_kv (P := fun z => (0 : Int) ≤ z.toInt ∧ z.toInt ≤ 255) (k_o0.2 1 _) (fun x69 i70 => ?_)
        refine tt_if (fun c71 => ?_) (fun c71 => ?_)
        · have i72 : (46 : Int) ≤ x69.toInt ∧ x69.toInt ≤ 46 := nr_eql c71 i70 (show (46 : Int) ≤ (46 : Int32).toInt ∧ (46 : Int32).toInt ≤ 46 by decide) (by decide) (by decide)
          refine tt_n (ix_ok (show (0 : Int) ≤ (0 : Int32).toInt ∧ (0 : Int32).toInt ≤ 0 by decide) (by decide) (by decide)) ?_
          refine tt_kv (P := fun z => (0 : Int) ≤ z.toInt ∧ z.toInt ≤ 1600) (k_o0.2 9 _) (fun x73 i74 => ?_)
          refine tt_if (fun c75 => ?_) (fun c75 => ?_)
          · have i76 : (1 : Int) ≤ x73.toInt ∧ x73.toInt ≤ 1599 := nr_eqr c75 i26 i74 (by decide) (by decide)
            refine tt_kv (P := fun z => ((-2147483648) : Int) ≤ z.toInt ∧ z.toInt ≤ 2147483647) (iv_top _) (fun x77 i78 => ?_)
            refine tt_if (fun c79 => ?_) (fun c79 => ?_)
            · have i80 : (0 : Int) ≤ x77.toInt ∧ x77.toInt ≤ 0 := nr_eql c79 i78 (show (0 : Int) ≤ (0 : Int32).toInt ∧ (0 : Int32).toInt ≤ 0 by decide) (by decide) (by decide)
              try unfold fM_firstWord_112
              refine tt_kv (P := fun z => ((1 : Int) ≤ z.toInt ∧ z.toInt ≤ 4) ∧ z.toInt = v2.toInt + 1) ⟨iv_add i_v2 (show (1 : Int) ≤ (1 : Int32).toInt ∧ (1 : Int32).toInt ≤ 1 by decide) (by decide) (by decide) (by decide) (by decide), iq_add i_v2 (show (1 : Int) ≤ (1 : Int32).toInt ∧ (1 : Int32).toInt ≤ 1 by decide) (by decide) (by decide)⟩ (fun x81 qi82 => ?_)
              obtain ⟨i82, ei82⟩ := qi82
              exact H.1 _ _ _ k_o0 r_o0 (iv_w (a := (-1)) (b := 3) (by decide) (by decide) i_v2) (iv_w (a := 0) (b := 4) (by decide) (by decide) i82) f_o0_0 f_o0_5 f_o0_7 f_o0_95 (show 0 + (4 - x81.toInt) * 3202 < (n : Int) by omega)
            · try unfold fM_firstWord_111
              try unfold fM_firstWord_112
              refine tt_kv (P := fun z => ((1 : Int) ≤ z.toInt ∧ z.toInt ≤ 4) ∧ z.toInt = v2.toInt + 1) ⟨iv_add i_v2 (show (1 : Int) ≤ (1 : Int32).toInt ∧ (1 : Int32).toInt ≤ 1 by decide) (by decide) (by decide) (by decide) (by decide), iq_add i_v2 (show (1 : Int) ≤ (1 : Int32).toInt ∧ (1 : Int32).toInt ≤ 1 by decide) (by decide) (by decide)⟩ (fun x83 qi84 => ?_)
              obtain ⟨i84, ei84⟩ := qi84
              exact H.1 _ _ _ k_o0 r_o0 i_v1 (iv_w (a := 0) (b := 4) (by decide) (by decide) i84) f_o0_0 f_o0_5 f_o0_7 f_o0_95 (show 0 + (4 - x83.toInt) * 3202 < (n : Int) by omega)
          · try unfold fM_firstWord_111
            try unfold fM_firstWord_112
            refine tt_kv (P := fun z => ((1 : Int) ≤ z.toInt ∧ z.toInt ≤ 4) ∧ z.toInt = v2.toInt + 1) ⟨iv_add i_v2 (show (1 : Int) ≤ (1 : Int32).toInt ∧ (1 : Int32).toInt ≤ 1 by decide) (by decide) (by decide) (by decide) (by decide), iq_add i_v2 (show (1 : Int) ≤ (1 : Int32).toInt ∧ (1 : Int32).toInt ≤ 1 by decide) (by decide) (by decide)⟩ (fun x85 qi86 => ?_)
            obtain ⟨i86, ei86⟩ := qi86
            exact H.1 _ _ _ k_o0 r_o0 i_v1 (iv_w (a := 0) (b := 4) (by decide) (by decide) i86) f_o0_0 f_o0_5 f_o0_7 f_o0_95 (show 0 + (4 - x85.toInt) * 3202 < (n : Int) by omega)
        · try unfold fM_firstWord_111
          try unfold fM_firstWord_112
          refine tt_kv (P := fun z => ((1 : Int) ≤ z.toInt ∧ z.toInt ≤ 4) ∧ z.toInt = v2.toInt + 1) ⟨iv_add i_v2 (show (1 : Int) ≤ (1 : Int32).toInt ∧ (1 : Int32).toInt ≤ 1 by decide) (by decide) (by decide) (by decide) (by decide), iq_add i_v2 (show (1 : Int) ≤ (1 : Int32).toInt ∧ (1 : Int32).toInt ≤ 1 by decide) (by decide) (by decide)⟩ (fun x87 qi88 => ?_)
          obtain ⟨i88, ei88⟩ := qi88
          exact H.1 _ _ _ k_o0 r_o0 i_v1 (iv_w (a := 0) (b := 4) (by decide) (by decide) i88) f_o0_0 f_o0_5 f_o0_7 f_o0_95 (show 0 + (4 - x87.toInt) * 3202 < (n : Int) by omega)
set_option maxHeartbeats 4000000 in
set_option maxRecDepth 100000 in
theorem tM_firstWord_4 {yo0 : cf_O} {n : Nat} (H : HM_firstWord yo0 n) (v1 : Int32) (v2 : Int32) (o0 : cf_O) (k_o0 : okO I_M o0) (r_o0 : Fr (fr_M [] [] []) yo0 o0) (i_v1 : ((-1) : Int) ≤ v1.toInt ∧ v1.toInt ≤ 3) (i_v2 : (0 : Int) ≤ v2.toInt ∧ v2.toInt ≤ 4) (f_o0_0 : (0 : Int) ≤ (o0.1 0).toInt ∧ (o0.1 0).toInt ≤ 0) (f_o0_5 : (0 : Int) ≤ (o0.1 5).toInt ∧ (o0.1 5).toInt ≤ 0) (f_o0_7 : (1 : Int) ≤ (o0.1 7).toInt ∧ (o0.1 7).toInt ≤ 801) (f_o0_95 : (0 : Int) ≤ (o0.1 95).toInt ∧ (o0.1 95).toInt ≤ 0) (hm : 0 + (4 - v2.toInt) * 3202 ≤ (n : Int)) : tt (fM_firstWord_4 (gM_firstWord n) v1 v2 o0) (QM_firstWord yo0) := by
  unfold fM_firstWord_4
  refine tt_if (fun c1 => ?_) (fun c1 => ?_)
  · have i2 : (4 : Int) ≤ v2.toInt ∧ v2.toInt ≤ 4 := nr_ler c1 (show (4 : Int) ≤ (4 : Int32).toInt ∧ (4 : Int32).toInt ≤ 4 by decide) i_v2 (by decide) (by decide)
    exact tt_some ⟨i_v1, trivial⟩
  · have i3 : (0 : Int) ≤ v2.toInt ∧ v2.toInt ≤ 3 := nr_nlel c1 i_v2 (show (4 : Int) ≤ (4 : Int32).toInt ∧ (4 : Int32).toInt ≤ 4 by decide) (by decide) (by decide)
    refine tt_n (ix_ok (show (0 : Int) ≤ (0 : Int32).toInt ∧ (0 : Int32).toInt ≤ 0 by decide) (by decide) (by decide)) ?_
    refine tt_kv (P := fun z => (0 : Int) ≤ z.toInt ∧ z.toInt ≤ 1599) (k_o0.2 8 _) (fun x4 i5 => ?_)
    refine tt_kv (P := fun z => ((1 : Int) ≤ z.toInt ∧ z.toInt ≤ 1600) ∧ z.toInt = x4.toInt + 1) ⟨iv_add i5 (show (1 : Int) ≤ (1 : Int32).toInt ∧ (1 : Int32).toInt ≤ 1 by decide) (by decide) (by decide) (by decide) (by decide), iq_add i5 (show (1 : Int) ≤ (1 : Int32).toInt ∧ (1 : Int32).toInt ≤ 1 by decide) (by decide) (by decide)⟩ (fun x6 qi7 => ?_)
    obtain ⟨i7, ei7⟩ := qi7
    refine tt_n (ix_ok i3 (by decide) (by decide)) ?_
    refine tt_kl (fun x8 => ?_)
    exact H.2 _ _ _ _ _ k_o0 r_o0 i_v1 i3 i7 f_o0_0 f_o0_5 f_o0_7 f_o0_95 (show 0 + (4 - v2.toInt - 1) * 3202 + 1 + (1600 - x6.toInt) * 2 < (n : Int) by omega)
set_option maxHeartbeats 4000000 in
set_option maxRecDepth 100000 in
theorem hM_firstWord (yo0 : cf_O) : ∀ n, HM_firstWord yo0 n := by
  intro n
  induction n with
  | zero => exact ⟨(fun v1 v2 o0 k_o0 r_o0 i_v1 i_v2 f_o0_0 f_o0_5 f_o0_7 f_o0_95 hm => by exact absurd (show 0 + (4 - v2.toInt) * 3202 < (0 : Int) from hm) (by omega)), (fun v1 v2 v3 v4 o0 k_o0 r_o0 i_v1 i_v2 i_v3 f_o0_0 f_o0_5 f_o0_7 f_o0_95 hm => by exact absurd (show 0 + (4 - v2.toInt - 1) * 3202 + 1 + (1600 - v3.toInt) * 2 < (0 : Int) from hm) (by omega))⟩
  | succ n ih => exact ⟨(fun v1 v2 o0 k_o0 r_o0 i_v1 i_v2 f_o0_0 f_o0_5 f_o0_7 f_o0_95 hm => tM_firstWord_4 ih v1 v2 o0 k_o0 r_o0 i_v1 i_v2 f_o0_0 f_o0_5 f_o0_7 f_o0_95 (by omega)), (fun v1 v2 v3 v4 o0 k_o0 r_o0 i_v1 i_v2 i_v3 f_o0_0 f_o0_5 f_o0_7 f_o0_95 hm => tM_firstWord_26 ih v1 v2 v3 v4 o0 k_o0 r_o0 i_v1 i_v2 i_v3 f_o0_0 f_o0_5 f_o0_7 f_o0_95 (by omega))⟩
set_option maxHeartbeats 4000000 in
set_option maxRecDepth 100000 in
theorem sM_firstWord (o0 : cf_O) (k_o0 : okO I_M o0) (f_o0_0 : (0 : Int) ≤ (o0.1 0).toInt ∧ (o0.1 0).toInt ≤ 0) (f_o0_5 : (0 : Int) ≤ (o0.1 5).toInt ∧ (o0.1 5).toInt ≤ 0) (f_o0_7 : (1 : Int) ≤ (o0.1 7).toInt ∧ (o0.1 7).toInt ≤ 801) (f_o0_95 : (0 : Int) ≤ (o0.1 95).toInt ∧ (o0.1 95).toInt ≤ 0) : tt (fM_firstWord o0) (QM_firstWord o0) := by
  have H := hM_firstWord o0 cfFU
  have hm : (12811 : Int) ≤ (cfFU : Nat) := by decide
  have r_o0 : Fr (fr_M [] [] []) o0 o0 := fr_rfl
  unfold fM_firstWord fM_firstWord_0
  exact H.1 _ _ _ k_o0 r_o0 (iv_w (a := (-1)) (b := 3) (by decide) (by decide) (show ((-1) : Int) ≤ ((-1) : Int32).toInt ∧ ((-1) : Int32).toInt ≤ (-1) by decide)) (iv_w (a := 0) (b := 4) (by decide) (by decide) (show (0 : Int) ≤ (0 : Int32).toInt ∧ (0 : Int32).toInt ≤ 0 by decide)) f_o0_0 f_o0_5 f_o0_7 f_o0_95 (show 0 + (4 - 0) * 3202 < ((cfFU : Nat) : Int) by omega)
def QM_isName (v1 : Int32) (o0 : cf_O) (r : (Int32)) : Prop := ((0 : Int) ≤ r.toInt ∧ r.toInt ≤ 1) ∧ True
def HM_isName (yv1 : Int32) (yo0 : cf_O) (n : Nat) : Prop := (∀ (v1 : Int32) (v2 : Int32) (v3 : Int32) (o0 : cf_O), (okO I_M o0) → (Fr (fr_M [] [] []) yo0 o0) → ((1 : Int) ≤ v1.toInt ∧ v1.toInt ≤ 800) → ((0 : Int) ≤ v2.toInt ∧ v2.toInt ≤ 1) → ((0 : Int) ≤ v3.toInt ∧ v3.toInt ≤ 1600) → ((0 : Int) ≤ (o0.1 0).toInt ∧ (o0.1 0).toInt ≤ 0) → ((0 : Int) ≤ (o0.1 5).toInt ∧ (o0.1 5).toInt ≤ 0) → ((2 : Int) ≤ (o0.1 7).toInt ∧ (o0.1 7).toInt ≤ 801) → ((0 : Int) ≤ (o0.1 95).toInt ∧ (o0.1 95).toInt ≤ 0) → 0 + (1600 - v3.toInt) * 2 < (n : Int) → tt (gM_isName n 0 v1 v2 v3 o0) (QM_isName yv1 yo0))
set_option maxHeartbeats 4000000 in
set_option maxRecDepth 100000 in
theorem tM_isName_27 {yv1 : Int32} {yo0 : cf_O} {n : Nat} (H : HM_isName yv1 yo0 n) (v1 : Int32) (v2 : Int32) (v3 : Int32) (o0 : cf_O) (k_o0 : okO I_M o0) (r_o0 : Fr (fr_M [] [] []) yo0 o0) (i_v1 : (1 : Int) ≤ v1.toInt ∧ v1.toInt ≤ 800) (i_v2 : (0 : Int) ≤ v2.toInt ∧ v2.toInt ≤ 1) (i_v3 : (0 : Int) ≤ v3.toInt ∧ v3.toInt ≤ 1600) (f_o0_0 : (0 : Int) ≤ (o0.1 0).toInt ∧ (o0.1 0).toInt ≤ 0) (f_o0_5 : (0 : Int) ≤ (o0.1 5).toInt ∧ (o0.1 5).toInt ≤ 0) (f_o0_7 : (2 : Int) ≤ (o0.1 7).toInt ∧ (o0.1 7).toInt ≤ 801) (f_o0_95 : (0 : Int) ≤ (o0.1 95).toInt ∧ (o0.1 95).toInt ≤ 0) (hm : 0 + (1600 - v3.toInt) * 2 ≤ (n : Int)) : tt (fM_isName_27 (gM_isName n) v1 v2 v3 o0) (QM_isName yv1 yo0) := by
  unfold fM_isName_27
  refine tt_n (ix_ok i_v1 (by decide) (by decide)) ?_
  refine tt_kv (P := fun z => (0 : Int) ≤ z.toInt ∧ z.toInt ≤ 1600) (k_o0.2 9 _) (fun x1 i2 => ?_)
  refine tt_if (fun c3 => ?_) (fun c3 => ?_)
  · refine tt_w (iv_b i_v2 (by decide) (by decide)) ?_
    exact tt_some ⟨i_v2, trivial⟩
  · have i4 : (0 : Int) ≤ v3.toInt ∧ v3.toInt ≤ 1599 := nr_nlel c3 i_v3 i2 (by decide) (by decide)
    have i5 : (1 : Int) ≤ x1.toInt ∧ x1.toInt ≤ 1600 := nr_nler c3 i_v3 i2 (by decide) (by decide)
    refine tt_n (ix_ok i4 (by decide) (by decide)) ?_
    refine tt_kv (P := fun z => (0 : Int) ≤ z.toInt ∧ z.toInt ≤ 255) (k_o0.2 1 _) (fun x6 i7 => ?_)
    refine tt_if (fun c8 => ?_) (fun c8 => ?_)
    · have i9 : (0 : Int) ≤ v2.toInt ∧ v2.toInt ≤ 0 := nr_eql c8 i_v2 (show (0 : Int) ≤ (0 : Int32).toInt ∧ (0 : Int32).toInt ≤ 0 by decide) (by decide) (by decide)
      try unfold fM_isName_96
      try unfold fM_isName_97
      refine tt_kv (P := fun z => ((1 : Int) ≤ z.toInt ∧ z.toInt ≤ 1600) ∧ z.toInt = v3.toInt + 1) ⟨iv_add i4 (show (1 : Int) ≤ (1 : Int32).toInt ∧ (1 : Int32).toInt ≤ 1 by decide) (by decide) (by decide) (by decide) (by decide), iq_add i4 (show (1 : Int) ≤ (1 : Int32).toInt ∧ (1 : Int32).toInt ≤ 1 by decide) (by decide) (by decide)⟩ (fun x10 qi11 => ?_)
      obtain ⟨i11, ei11⟩ := qi11
      exact H _ _ _ _ k_o0 r_o0 i_v1 (iv_w (a := 0) (b := 1) (by decide) (by decide) (show (0 : Int) ≤ (0 : Int32).toInt ∧ (0 : Int32).toInt ≤ 0 by decide)) (iv_w (a := 0) (b := 1600) (by decide) (by decide) i11) f_o0_0 f_o0_5 f_o0_7 f_o0_95 (show 0 + (1600 - x10.toInt) * 2 < (n : Int) by omega)
    · have i12 : (1 : Int) ≤ v2.toInt ∧ v2.toInt ≤ 1 := nr_nela c8 i_v2 (show (0 : Int) ≤ (0 : Int32).toInt ∧ (0 : Int32).toInt ≤ 0 by decide) (by decide) (by decide)
      try unfold fM_in
      try unfold fM_in_0
      refine tt_bif (fun c13 => ?_) (fun c13 => ?_)
      · have i14 : (0 : Int) ≤ x6.toInt ∧ x6.toInt ≤ 96 := nr_ltl c13 i7 (show (97 : Int) ≤ (97 : Int32).toInt ∧ (97 : Int32).toInt ≤ 97 by decide) (by decide) (by decide)
        try unfold fM_in_14
        try unfold fM_in_15
        refine tt_bw (iv_b (show (0 : Int) ≤ (0 : Int32).toInt ∧ (0 : Int32).toInt ≤ 0 by decide) (by decide) (by decide)) ?_
        refine tt_bs ?_
        refine tt_if (fun c15 => ?_) (fun c15 => ?_)
        · try unfold fM_in
          try unfold fM_in_0
          refine tt_bif (fun c16 => ?_) (fun c16 => ?_)
          · have i17 : (0 : Int) ≤ x6.toInt ∧ x6.toInt ≤ 64 := nr_ltl c16 i14 (show (65 : Int) ≤ (65 : Int32).toInt ∧ (65 : Int32).toInt ≤ 65 by decide) (by decide) (by decide)
            try unfold fM_in_14
            try unfold fM_in_15
            refine tt_bw (iv_b (show (0 : Int) ≤ (0 : Int32).toInt ∧ (0 : Int32).toInt ≤ 0 by decide) (by decide) (by decide)) ?_
            refine tt_bs ?_
            refine tt_if (fun c18 => ?_) (fun c18 => ?_)
            · try unfold fM_in
              try unfold fM_in_0
              refine tt_bif (fun c19 => ?_) (fun c19 => ?_)
              · have i20 : (0 : Int) ≤ x6.toInt ∧ x6.toInt ≤ 47 := nr_ltl c19 i17 (show (48 : Int) ≤ (48 : Int32).toInt ∧ (48 : Int32).toInt ≤ 48 by decide) (by decide) (by decide)
                try unfold fM_in_14
                try unfold fM_in_15
                refine tt_bw (iv_b (show (0 : Int) ≤ (0 : Int32).toInt ∧ (0 : Int32).toInt ≤ 0 by decide) (by decide) (by decide)) ?_
                refine tt_bs ?_
                refine tt_if (fun c21 => ?_) (fun c21 => ?_)
                · refine tt_if (fun c22 => ?_) (fun c22 => ?_)
                  · exact (dd_eq c22 i20 (show (95 : Int) ≤ (95 : Int32).toInt ∧ (95 : Int32).toInt ≤ 95 by decide) (by decide)).elim
                  · try unfold fM_isName_96
                    try unfold fM_isName_97
                    refine tt_kv (P := fun z => ((1 : Int) ≤ z.toInt ∧ z.toInt ≤ 1600) ∧ z.toInt = v3.toInt + 1) ⟨iv_add i4 (show (1 : Int) ≤ (1 : Int32).toInt ∧ (1 : Int32).toInt ≤ 1 by decide) (by decide) (by decide) (by decide) (by decide), iq_add i4 (show (1 : Int) ≤ (1 : Int32).toInt ∧ (1 : Int32).toInt ≤ 1 by decide) (by decide) (by decide)⟩ (fun x23 qi24 => ?_)
                    obtain ⟨i24, ei24⟩ := qi24
                    exact H _ _ _ _ k_o0 r_o0 i_v1 (iv_w (a := 0) (b := 1) (by decide) (by decide) (show (0 : Int) ≤ (0 : Int32).toInt ∧ (0 : Int32).toInt ≤ 0 by decide)) (iv_w (a := 0) (b := 1600) (by decide) (by decide) i24) f_o0_0 f_o0_5 f_o0_7 f_o0_95 (show 0 + (1600 - x23.toInt) * 2 < (n : Int) by omega)
                · exact (dd_ne c21 (show (0 : Int) ≤ (0 : Int32).toInt ∧ (0 : Int32).toInt ≤ 0 by decide) (show (0 : Int) ≤ (0 : Int32).toInt ∧ (0 : Int32).toInt ≤ 0 by decide)).elim
              · have i25 : (48 : Int) ≤ x6.toInt ∧ x6.toInt ≤ 64 := nr_nltr c19 (show (48 : Int) ≤ (48 : Int32).toInt ∧ (48 : Int32).toInt ≤ 48 by decide) i17 (by decide) (by decide)
                refine tt_bif (fun c26 => ?_) (fun c26 => ?_)
                · have i27 : (58 : Int) ≤ x6.toInt ∧ x6.toInt ≤ 64 := nr_ltr c26 (show (57 : Int) ≤ (57 : Int32).toInt ∧ (57 : Int32).toInt ≤ 57 by decide) i25 (by decide) (by decide)
                  try unfold fM_in_14
                  try unfold fM_in_15
                  refine tt_bw (iv_b (show (0 : Int) ≤ (0 : Int32).toInt ∧ (0 : Int32).toInt ≤ 0 by decide) (by decide) (by decide)) ?_
                  refine tt_bs ?_
                  refine tt_if (fun c28 => ?_) (fun c28 => ?_)
                  · refine tt_if (fun c29 => ?_) (fun c29 => ?_)
                    · exact (dd_eq c29 i27 (show (95 : Int) ≤ (95 : Int32).toInt ∧ (95 : Int32).toInt ≤ 95 by decide) (by decide)).elim
                    · try unfold fM_isName_96
                      try unfold fM_isName_97
                      refine tt_kv (P := fun z => ((1 : Int) ≤ z.toInt ∧ z.toInt ≤ 1600) ∧ z.toInt = v3.toInt + 1) ⟨iv_add i4 (show (1 : Int) ≤ (1 : Int32).toInt ∧ (1 : Int32).toInt ≤ 1 by decide) (by decide) (by decide) (by decide) (by decide), iq_add i4 (show (1 : Int) ≤ (1 : Int32).toInt ∧ (1 : Int32).toInt ≤ 1 by decide) (by decide) (by decide)⟩ (fun x30 qi31 => ?_)
                      obtain ⟨i31, ei31⟩ := qi31
                      exact H _ _ _ _ k_o0 r_o0 i_v1 (iv_w (a := 0) (b := 1) (by decide) (by decide) (show (0 : Int) ≤ (0 : Int32).toInt ∧ (0 : Int32).toInt ≤ 0 by decide)) (iv_w (a := 0) (b := 1600) (by decide) (by decide) i31) f_o0_0 f_o0_5 f_o0_7 f_o0_95 (show 0 + (1600 - x30.toInt) * 2 < (n : Int) by omega)
                  · exact (dd_ne c28 (show (0 : Int) ≤ (0 : Int32).toInt ∧ (0 : Int32).toInt ≤ 0 by decide) (show (0 : Int) ≤ (0 : Int32).toInt ∧ (0 : Int32).toInt ≤ 0 by decide)).elim
                · have i32 : (48 : Int) ≤ x6.toInt ∧ x6.toInt ≤ 57 := nr_nltl c26 i25 (show (57 : Int) ≤ (57 : Int32).toInt ∧ (57 : Int32).toInt ≤ 57 by decide) (by decide) (by decide)
                  try unfold fM_in_15
                  refine tt_bw (iv_b (show (1 : Int) ≤ (1 : Int32).toInt ∧ (1 : Int32).toInt ≤ 1 by decide) (by decide) (by decide)) ?_
                  refine tt_bs ?_
                  refine tt_if (fun c33 => ?_) (fun c33 => ?_)
                  · exact (dd_eq c33 (show (1 : Int) ≤ (1 : Int32).toInt ∧ (1 : Int32).toInt ≤ 1 by decide) (show (0 : Int) ≤ (0 : Int32).toInt ∧ (0 : Int32).toInt ≤ 0 by decide) (by decide)).elim
                  · try unfold fM_isName_92
                    try unfold fM_isName_97
                    refine tt_kv (P := fun z => ((1 : Int) ≤ z.toInt ∧ z.toInt ≤ 1600) ∧ z.toInt = v3.toInt + 1) ⟨iv_add i4 (show (1 : Int) ≤ (1 : Int32).toInt ∧ (1 : Int32).toInt ≤ 1 by decide) (by decide) (by decide) (by decide) (by decide), iq_add i4 (show (1 : Int) ≤ (1 : Int32).toInt ∧ (1 : Int32).toInt ≤ 1 by decide) (by decide) (by decide)⟩ (fun x34 qi35 => ?_)
                    obtain ⟨i35, ei35⟩ := qi35
                    exact H _ _ _ _ k_o0 r_o0 i_v1 (iv_w (a := 0) (b := 1) (by decide) (by decide) (show (1 : Int) ≤ (1 : Int32).toInt ∧ (1 : Int32).toInt ≤ 1 by decide)) (iv_w (a := 0) (b := 1600) (by decide) (by decide) i35) f_o0_0 f_o0_5 f_o0_7 f_o0_95 (show 0 + (1600 - x34.toInt) * 2 < (n : Int) by omega)
            · exact (dd_ne c18 (show (0 : Int) ≤ (0 : Int32).toInt ∧ (0 : Int32).toInt ≤ 0 by decide) (show (0 : Int) ≤ (0 : Int32).toInt ∧ (0 : Int32).toInt ≤ 0 by decide)).elim
          · have i36 : (65 : Int) ≤ x6.toInt ∧ x6.toInt ≤ 96 := nr_nltr c16 (show (65 : Int) ≤ (65 : Int32).toInt ∧ (65 : Int32).toInt ≤ 65 by decide) i14 (by decide) (by decide)
            refine tt_bif (fun c37 => ?_) (fun c37 => ?_)
            · have i38 : (91 : Int) ≤ x6.toInt ∧ x6.toInt ≤ 96 := nr_ltr c37 (show (90 : Int) ≤ (90 : Int32).toInt ∧ (90 : Int32).toInt ≤ 90 by decide) i36 (by decide) (by decide)
              try unfold fM_in_14
              try unfold fM_in_15
              refine tt_bw (iv_b (show (0 : Int) ≤ (0 : Int32).toInt ∧ (0 : Int32).toInt ≤ 0 by decide) (by decide) (by decide)) ?_
              refine tt_bs ?_
              refine tt_if (fun c39 => ?_) (fun c39 => ?_)
              · try unfold fM_in
                try unfold fM_in_0
                refine tt_bif (fun c40 => ?_) (fun c40 => ?_)
                · exact (dd_lt c40 i38 (show (48 : Int) ≤ (48 : Int32).toInt ∧ (48 : Int32).toInt ≤ 48 by decide) (by decide)).elim
                · refine tt_bif (fun c41 => ?_) (fun c41 => ?_)
                  · try unfold fM_in_14
                    try unfold fM_in_15
                    refine tt_bw (iv_b (show (0 : Int) ≤ (0 : Int32).toInt ∧ (0 : Int32).toInt ≤ 0 by decide) (by decide) (by decide)) ?_
                    refine tt_bs ?_
                    refine tt_if (fun c42 => ?_) (fun c42 => ?_)
                    · refine tt_if (fun c43 => ?_) (fun c43 => ?_)
                      · have i44 : (95 : Int) ≤ x6.toInt ∧ x6.toInt ≤ 95 := nr_eql c43 i38 (show (95 : Int) ≤ (95 : Int32).toInt ∧ (95 : Int32).toInt ≤ 95 by decide) (by decide) (by decide)
                        try unfold fM_isName_92
                        try unfold fM_isName_97
                        refine tt_kv (P := fun z => ((1 : Int) ≤ z.toInt ∧ z.toInt ≤ 1600) ∧ z.toInt = v3.toInt + 1) ⟨iv_add i4 (show (1 : Int) ≤ (1 : Int32).toInt ∧ (1 : Int32).toInt ≤ 1 by decide) (by decide) (by decide) (by decide) (by decide), iq_add i4 (show (1 : Int) ≤ (1 : Int32).toInt ∧ (1 : Int32).toInt ≤ 1 by decide) (by decide) (by decide)⟩ (fun x45 qi46 => ?_)
                        obtain ⟨i46, ei46⟩ := qi46
                        exact H _ _ _ _ k_o0 r_o0 i_v1 (iv_w (a := 0) (b := 1) (by decide) (by decide) (show (1 : Int) ≤ (1 : Int32).toInt ∧ (1 : Int32).toInt ≤ 1 by decide)) (iv_w (a := 0) (b := 1600) (by decide) (by decide) i46) f_o0_0 f_o0_5 f_o0_7 f_o0_95 (show 0 + (1600 - x45.toInt) * 2 < (n : Int) by omega)
                      · try unfold fM_isName_96
                        try unfold fM_isName_97
                        refine tt_kv (P := fun z => ((1 : Int) ≤ z.toInt ∧ z.toInt ≤ 1600) ∧ z.toInt = v3.toInt + 1) ⟨iv_add i4 (show (1 : Int) ≤ (1 : Int32).toInt ∧ (1 : Int32).toInt ≤ 1 by decide) (by decide) (by decide) (by decide) (by decide), iq_add i4 (show (1 : Int) ≤ (1 : Int32).toInt ∧ (1 : Int32).toInt ≤ 1 by decide) (by decide) (by decide)⟩ (fun x47 qi48 => ?_)
                        obtain ⟨i48, ei48⟩ := qi48
                        exact H _ _ _ _ k_o0 r_o0 i_v1 (iv_w (a := 0) (b := 1) (by decide) (by decide) (show (0 : Int) ≤ (0 : Int32).toInt ∧ (0 : Int32).toInt ≤ 0 by decide)) (iv_w (a := 0) (b := 1600) (by decide) (by decide) i48) f_o0_0 f_o0_5 f_o0_7 f_o0_95 (show 0 + (1600 - x47.toInt) * 2 < (n : Int) by omega)
                    · exact (dd_ne c42 (show (0 : Int) ≤ (0 : Int32).toInt ∧ (0 : Int32).toInt ≤ 0 by decide) (show (0 : Int) ≤ (0 : Int32).toInt ∧ (0 : Int32).toInt ≤ 0 by decide)).elim
                  · exact (dd_nlt c41 i38 (show (57 : Int) ≤ (57 : Int32).toInt ∧ (57 : Int32).toInt ≤ 57 by decide) (by decide)).elim
              · exact (dd_ne c39 (show (0 : Int) ≤ (0 : Int32).toInt ∧ (0 : Int32).toInt ≤ 0 by decide) (show (0 : Int) ≤ (0 : Int32).toInt ∧ (0 : Int32).toInt ≤ 0 by decide)).elim
            · have i49 : (65 : Int) ≤ x6.toInt ∧ x6.toInt ≤ 90 := nr_nltl c37 i36 (show (90 : Int) ≤ (90 : Int32).toInt ∧ (90 : Int32).toInt ≤ 90 by decide) (by decide) (by decide)
              try unfold fM_in_15
              refine tt_bw (iv_b (show (1 : Int) ≤ (1 : Int32).toInt ∧ (1 : Int32).toInt ≤ 1 by decide) (by decide) (by decide)) ?_
              refine tt_bs ?_
              refine tt_if (fun c50 => ?_) (fun c50 => ?_)
              · exact (dd_eq c50 (show (1 : Int) ≤ (1 : Int32).toInt ∧ (1 : Int32).toInt ≤ 1 by decide) (show (0 : Int) ≤ (0 : Int32).toInt ∧ (0 : Int32).toInt ≤ 0 by decide) (by decide)).elim
              · try unfold fM_isName_92
                try unfold fM_isName_97
                refine tt_kv (P := fun z => ((1 : Int) ≤ z.toInt ∧ z.toInt ≤ 1600) ∧ z.toInt = v3.toInt + 1) ⟨iv_add i4 (show (1 : Int) ≤ (1 : Int32).toInt ∧ (1 : Int32).toInt ≤ 1 by decide) (by decide) (by decide) (by decide) (by decide), iq_add i4 (show (1 : Int) ≤ (1 : Int32).toInt ∧ (1 : Int32).toInt ≤ 1 by decide) (by decide) (by decide)⟩ (fun x51 qi52 => ?_)
                obtain ⟨i52, ei52⟩ := qi52
                exact H _ _ _ _ k_o0 r_o0 i_v1 (iv_w (a := 0) (b := 1) (by decide) (by decide) (show (1 : Int) ≤ (1 : Int32).toInt ∧ (1 : Int32).toInt ≤ 1 by decide)) (iv_w (a := 0) (b := 1600) (by decide) (by decide) i52) f_o0_0 f_o0_5 f_o0_7 f_o0_95 (show 0 + (1600 - x51.toInt) * 2 < (n : Int) by omega)
        · exact (dd_ne c15 (show (0 : Int) ≤ (0 : Int32).toInt ∧ (0 : Int32).toInt ≤ 0 by decide) (show (0 : Int) ≤ (0 : Int32).toInt ∧ (0 : Int32).toInt ≤ 0 by decide)).elim
      · have i53 : (97 : Int) ≤ x6.toInt ∧ x6.toInt ≤ 255 := nr_nltr c13 (show (97 : Int) ≤ (97 : Int32).toInt ∧ (97 : Int32).toInt ≤ 97 by decide) i7 (by decide) (by decide)
        refine tt_bif (fun c54 => ?_) (fun c54 => ?_)
        · have i55 : (123 : Int) ≤ x6.toInt ∧ x6.toInt ≤ 255 := nr_ltr c54 (show (122 : Int) ≤ (122 : Int32).toInt ∧ (122 : Int32).toInt ≤ 122 by decide) i53 (by decide) (by decide)
          try unfold fM_in_14
          try unfold fM_in_15
          refine tt_bw (iv_b (show (0 : Int) ≤ (0 : Int32).toInt ∧ (0 : Int32).toInt ≤ 0 by decide) (by decide) (by decide)) ?_
          refine tt_bs ?_
          refine tt_if (fun c56 => ?_) (fun c56 => ?_)
          · try unfold fM_in
            try unfold fM_in_0
            refine tt_bif (fun c57 => ?_) (fun c57 => ?_)
            · exact (dd_lt c57 i55 (show (65 : Int) ≤ (65 : Int32).toInt ∧ (65 : Int32).toInt ≤ 65 by decide) (by decide)).elim
            · refine tt_bif (fun c58 => ?_) (fun c58 => ?_)
              · try unfold fM_in_14
                try unfold fM_in_15
                refine tt_bw (iv_b (show (0 : Int) ≤ (0 : Int32).toInt ∧ (0 : Int32).toInt ≤ 0 by decide) (by decide) (by decide)) ?_
                refine tt_bs ?_
                refine tt_if (fun c59 => ?_) (fun c59 => ?_)
                · try unfold fM_in
                  try unfold fM_in_0
                  refine tt_bif (fun c60 => ?_) (fun c60 => ?_)
                  · exact (dd_lt c60 i55 (show (48 : Int) ≤ (48 : Int32).toInt ∧ (48 : Int32).toInt ≤ 48 by decide) (by decide)).elim
                  · refine tt_bif (fun c61 => ?_) (fun c61 => ?_)
                    · try unfold fM_in_14
                      try unfold fM_in_15
                      refine tt_bw (iv_b (show (0 : Int) ≤ (0 : Int32).toInt ∧ (0 : Int32).toInt ≤ 0 by decide) (by decide) (by decide)) ?_
                      refine tt_bs ?_
                      refine tt_if (fun c62 => ?_) (fun c62 => ?_)
                      · refine tt_if (fun c63 => ?_) (fun c63 => ?_)
                        · exact (dd_eq c63 i55 (show (95 : Int) ≤ (95 : Int32).toInt ∧ (95 : Int32).toInt ≤ 95 by decide) (by decide)).elim
                        · try unfold fM_isName_96
                          try unfold fM_isName_97
                          refine tt_kv (P := fun z => ((1 : Int) ≤ z.toInt ∧ z.toInt ≤ 1600) ∧ z.toInt = v3.toInt + 1) ⟨iv_add i4 (show (1 : Int) ≤ (1 : Int32).toInt ∧ (1 : Int32).toInt ≤ 1 by decide) (by decide) (by decide) (by decide) (by decide), iq_add i4 (show (1 : Int) ≤ (1 : Int32).toInt ∧ (1 : Int32).toInt ≤ 1 by decide) (by decide) (by decide)⟩ (fun x64 qi65 => ?_)
                          obtain ⟨i65, ei65⟩ := qi65
                          exact H _ _ _ _ k_o0 r_o0 i_v1 (iv_w (a := 0) (b := 1) (by decide) (by decide) (show (0 : Int) ≤ (0 : Int32).toInt ∧ (0 : Int32).toInt ≤ 0 by decide)) (iv_w (a := 0) (b := 1600) (by decide) (by decide) i65) f_o0_0 f_o0_5 f_o0_7 f_o0_95 (show 0 + (1600 - x64.toInt) * 2 < (n : Int) by omega)
                      · exact (dd_ne c62 (show (0 : Int) ≤ (0 : Int32).toInt ∧ (0 : Int32).toInt ≤ 0 by decide) (show (0 : Int) ≤ (0 : Int32).toInt ∧ (0 : Int32).toInt ≤ 0 by decide)).elim
                    · exact (dd_nlt c61 i55 (show (57 : Int) ≤ (57 : Int32).toInt ∧ (57 : Int32).toInt ≤ 57 by decide) (by decide)).elim
                · exact (dd_ne c59 (show (0 : Int) ≤ (0 : Int32).toInt ∧ (0 : Int32).toInt ≤ 0 by decide) (show (0 : Int) ≤ (0 : Int32).toInt ∧ (0 : Int32).toInt ≤ 0 by decide)).elim
              · exact (dd_nlt c58 i55 (show (90 : Int) ≤ (90 : Int32).toInt ∧ (90 : Int32).toInt ≤ 90 by decide) (by decide)).elim
          · exact (dd_ne c56 (show (0 : Int) ≤ (0 : Int32).toInt ∧ (0 : Int32).toInt ≤ 0 by decide) (show (0 : Int) ≤ (0 : Int32).toInt ∧ (0 : Int32).toInt ≤ 0 by decide)).elim
        · have i66 : (97 : Int) ≤ x6.toInt ∧ x6.toInt ≤ 122 := nr_nltl c54 i53 (show (122 : Int) ≤ (122 : Int32).toInt ∧ (122 : Int32).toInt ≤ 122 by decide) (by decide) (by decide)
          try unfold fM_in_15
          refine tt_bw (iv_b (show (1 : Int) ≤ (1 : Int32).toInt ∧ (1 : Int32).toInt ≤ 1 by decide) (by decide) (by decide)) ?_
          refine tt_bs ?_
          refine tt_if (fun c67 => ?_) (fun c67 => ?_)
          · exact (dd_eq c67 (show (1 : Int) ≤ (1 : Int32).toInt ∧ (1 : Int32).toInt ≤ 1 by decide) (show (0 : Int) ≤ (0 : Int32).toInt ∧ (0 : Int32).toInt ≤ 0 by decide) (by decide)).elim
          · try unfold fM_isName_92
            try unfold fM_isName_97
            refine tt_kv (P := fun z => ((1 : Int) ≤ z.toInt ∧ z.toInt ≤ 1600) ∧ z.toInt = v3.toInt + 1) ⟨iv_add i4 (show (1 : Int) ≤ (1 : Int32).toInt ∧ (1 : Int32).toInt ≤ 1 by decide) (by decide) (by decide) (by decide) (by decide), iq_add i4 (show (1 : Int) ≤ (1 : Int32).toInt ∧ (1 : Int32).toInt ≤ 1 by decide) (by decide) (by decide)⟩ (fun x68 qi69 => ?_)
            obtain ⟨i69, ei69⟩ := qi69
            exact H _ _ _ _ k_o0 r_o0 i_v1 (iv_w (a := 0) (b := 1) (by decide) (by decide) (show (1 : Int) ≤ (1 : Int32).toInt ∧ (1 : Int32).toInt ≤ 1 by decide)) (iv_w (a := 0) (b := 1600) (by decide) (by decide) i69) f_o0_0 f_o0_5 f_o0_7 f_o0_95 (show 0 + (1600 - x68.toInt) * 2 < (n : Int) by omega)
set_option maxHeartbeats 4000000 in
set_option maxRecDepth 100000 in
theorem hM_isName (yv1 : Int32) (yo0 : cf_O) : ∀ n, HM_isName yv1 yo0 n := by
  intro n
  induction n with
  | zero => exact (fun v1 v2 v3 o0 k_o0 r_o0 i_v1 i_v2 i_v3 f_o0_0 f_o0_5 f_o0_7 f_o0_95 hm => by exact absurd (show 0 + (1600 - v3.toInt) * 2 < (0 : Int) from hm) (by omega))
  | succ n ih => exact (fun v1 v2 v3 o0 k_o0 r_o0 i_v1 i_v2 i_v3 f_o0_0 f_o0_5 f_o0_7 f_o0_95 hm => tM_isName_27 ih v1 v2 v3 o0 k_o0 r_o0 i_v1 i_v2 i_v3 f_o0_0 f_o0_5 f_o0_7 f_o0_95 (by omega))
set_option maxHeartbeats 4000000 in
set_option maxRecDepth 100000 in
theorem sM_isName (v1 : Int32) (o0 : cf_O) (k_o0 : okO I_M o0) (i_v1 : (1 : Int) ≤ v1.toInt ∧ v1.toInt ≤ 800) (f_o0_0 : (0 : Int) ≤ (o0.1 0).toInt ∧ (o0.1 0).toInt ≤ 0) (f_o0_5 : (0 : Int) ≤ (o0.1 5).toInt ∧ (o0.1 5).toInt ≤ 0) (f_o0_7 : (2 : Int) ≤ (o0.1 7).toInt ∧ (o0.1 7).toInt ≤ 801) (f_o0_95 : (0 : Int) ≤ (o0.1 95).toInt ∧ (o0.1 95).toInt ≤ 0) : tt (fM_isName v1 o0) (QM_isName v1 o0) := by
  have H := hM_isName v1 o0 cfFU
  have hm : (3203 : Int) ≤ (cfFU : Nat) := by decide
  have r_o0 : Fr (fr_M [] [] []) o0 o0 := fr_rfl
  unfold fM_isName fM_isName_0
  refine tt_n (ix_ok i_v1 (by decide) (by decide)) ?_
  refine tt_kv (P := fun z => (0 : Int) ≤ z.toInt ∧ z.toInt ≤ 1600) (k_o0.2 9 _) (fun x1 i2 => ?_)
  refine tt_n (ix_ok i_v1 (by decide) (by decide)) ?_
  refine tt_kv (P := fun z => (0 : Int) ≤ z.toInt ∧ z.toInt ≤ 1599) (k_o0.2 8 _) (fun x3 i4 => ?_)
  refine tt_kv (P := fun z => ((-1599) : Int) ≤ z.toInt ∧ z.toInt ≤ 1600) (iv_sub i2 i4 (by decide) (by decide) (by decide) (by decide)) (fun x5 i6 => ?_)
  try unfold fM_in
  try unfold fM_in_0
  refine tt_bif (fun c7 => ?_) (fun c7 => ?_)
  · have i8 : ((-1599) : Int) ≤ x5.toInt ∧ x5.toInt ≤ 0 := nr_ltl c7 i6 (show (1 : Int) ≤ (1 : Int32).toInt ∧ (1 : Int32).toInt ≤ 1 by decide) (by decide) (by decide)
    try unfold fM_in_14
    try unfold fM_in_15
    refine tt_bw (iv_b (show (0 : Int) ≤ (0 : Int32).toInt ∧ (0 : Int32).toInt ≤ 0 by decide) (by decide) (by decide)) ?_
    refine tt_bs ?_
    refine tt_n (ix_ok i_v1 (by decide) (by decide)) ?_
    refine tt_kv (P := fun z => (0 : Int) ≤ z.toInt ∧ z.toInt ≤ 1599) (k_o0.2 8 _) (fun x9 i10 => ?_)
    exact H _ _ _ _ k_o0 r_o0 i_v1 (iv_w (a := 0) (b := 1) (by decide) (by decide) (show (0 : Int) ≤ (0 : Int32).toInt ∧ (0 : Int32).toInt ≤ 0 by decide)) (iv_w (a := 0) (b := 1600) (by decide) (by decide) i10) f_o0_0 f_o0_5 f_o0_7 f_o0_95 (show 0 + (1600 - x9.toInt) * 2 < ((cfFU : Nat) : Int) by omega)
  · have i11 : (1 : Int) ≤ x5.toInt ∧ x5.toInt ≤ 1600 := nr_nltr c7 (show (1 : Int) ≤ (1 : Int32).toInt ∧ (1 : Int32).toInt ≤ 1 by decide) i6 (by decide) (by decide)
    refine tt_bif (fun c12 => ?_) (fun c12 => ?_)
    · have i13 : (9 : Int) ≤ x5.toInt ∧ x5.toInt ≤ 1600 := nr_ltr c12 (show (8 : Int) ≤ (8 : Int32).toInt ∧ (8 : Int32).toInt ≤ 8 by decide) i11 (by decide) (by decide)
      try unfold fM_in_14
      try unfold fM_in_15
      refine tt_bw (iv_b (show (0 : Int) ≤ (0 : Int32).toInt ∧ (0 : Int32).toInt ≤ 0 by decide) (by decide) (by decide)) ?_
      refine tt_bs ?_
      refine tt_n (ix_ok i_v1 (by decide) (by decide)) ?_
      refine tt_kv (P := fun z => (0 : Int) ≤ z.toInt ∧ z.toInt ≤ 1599) (k_o0.2 8 _) (fun x14 i15 => ?_)
      exact H _ _ _ _ k_o0 r_o0 i_v1 (iv_w (a := 0) (b := 1) (by decide) (by decide) (show (0 : Int) ≤ (0 : Int32).toInt ∧ (0 : Int32).toInt ≤ 0 by decide)) (iv_w (a := 0) (b := 1600) (by decide) (by decide) i15) f_o0_0 f_o0_5 f_o0_7 f_o0_95 (show 0 + (1600 - x14.toInt) * 2 < ((cfFU : Nat) : Int) by omega)
    · have i16 : (1 : Int) ≤ x5.toInt ∧ x5.toInt ≤ 8 := nr_nltl c12 i11 (show (8 : Int) ≤ (8 : Int32).toInt ∧ (8 : Int32).toInt ≤ 8 by decide) (by decide) (by decide)
      try unfold fM_in_15
      refine tt_bw (iv_b (show (1 : Int) ≤ (1 : Int32).toInt ∧ (1 : Int32).toInt ≤ 1 by decide) (by decide) (by decide)) ?_
      refine tt_bs ?_
      refine tt_n (ix_ok i_v1 (by decide) (by decide)) ?_
      refine tt_kv (P := fun z => (0 : Int) ≤ z.toInt ∧ z.toInt ≤ 1599) (k_o0.2 8 _) (fun x17 i18 => ?_)
      exact H _ _ _ _ k_o0 r_o0 i_v1 (iv_w (a := 0) (b := 1) (by decide) (by decide) (show (1 : Int) ≤ (1 : Int32).toInt ∧ (1 : Int32).toInt ≤ 1 by decide)) (iv_w (a := 0) (b := 1600) (by decide) (by decide) i18) f_o0_0 f_o0_5 f_o0_7 f_o0_95 (show 0 + (1600 - x17.toInt) * 2 < ((cfFU : Nat) : Int) by omega)
def QM_areNames (v1 : Int32) (o0 : cf_O) (r : (Int32)) : Prop := ((0 : Int) ≤ r.toInt ∧ r.toInt ≤ 1) ∧ (r.toInt = 0 ∨ (2 ≤ (o0.1 7).toInt ∧ (o0.1 7).toInt ≤ v1.toInt + 1)) ∧ True
def HM_areNames (yv1 : Int32) (yo0 : cf_O) (n : Nat) : Prop := (∀ (v2 : Int32) (v3 : Int32) (o0 : cf_O), (okO I_M o0) → (Fr (fr_M [] [] []) yo0 o0) → ((0 : Int) ≤ v2.toInt ∧ v2.toInt ≤ 1) → ((1 : Int) ≤ v3.toInt ∧ v3.toInt ≤ 801) → ((0 : Int) ≤ (o0.1 0).toInt ∧ (o0.1 0).toInt ≤ 0) → ((0 : Int) ≤ (o0.1 5).toInt ∧ (o0.1 5).toInt ≤ 0) → ((1 : Int) ≤ (o0.1 7).toInt ∧ (o0.1 7).toInt ≤ 801) → ((0 : Int) ≤ (o0.1 95).toInt ∧ (o0.1 95).toInt ≤ 0) → (v2.toInt = 0 ∨ (2 ≤ (o0.1 7).toInt ∧ (o0.1 7).toInt ≤ yv1.toInt + 1)) → 0 + (801 - v3.toInt) * 2 < (n : Int) → tt (gM_areNames n 0 v2 v3 o0) (QM_areNames yv1 yo0))
set_option maxHeartbeats 4000000 in
set_option maxRecDepth 100000 in
theorem tM_areNames_14 {yv1 : Int32} {yo0 : cf_O} {n : Nat} (H : HM_areNames yv1 yo0 n) (v2 : Int32) (v3 : Int32) (o0 : cf_O) (k_o0 : okO I_M o0) (r_o0 : Fr (fr_M [] [] []) yo0 o0) (i_v2 : (0 : Int) ≤ v2.toInt ∧ v2.toInt ≤ 1) (i_v3 : (1 : Int) ≤ v3.toInt ∧ v3.toInt ≤ 801) (f_o0_0 : (0 : Int) ≤ (o0.1 0).toInt ∧ (o0.1 0).toInt ≤ 0) (f_o0_5 : (0 : Int) ≤ (o0.1 5).toInt ∧ (o0.1 5).toInt ≤ 0) (f_o0_7 : (1 : Int) ≤ (o0.1 7).toInt ∧ (o0.1 7).toInt ≤ 801) (f_o0_95 : (0 : Int) ≤ (o0.1 95).toInt ∧ (o0.1 95).toInt ≤ 0) (x_0 : v2.toInt = 0 ∨ (2 ≤ (o0.1 7).toInt ∧ (o0.1 7).toInt ≤ yv1.toInt + 1)) (hm : 0 + (801 - v3.toInt) * 2 ≤ (n : Int)) : tt (fM_areNames_14 (gM_areNames n) v2 v3 o0) (QM_areNames yv1 yo0) := by
  unfold fM_areNames_14
  have ey_o0_7 : (o0.1 7).toInt = (yo0.1 7).toInt := congrArg Int32.toInt (r_o0.1 7 rfl)
  refine tt_if (fun c1 => ?_) (fun c1 => ?_)
  · have wc1 : (o0.1 7).toInt ≤ v3.toInt := c_le c1
    try unfold fM_areNames_38
    refine tt_w (iv_b i_v2 (by decide) (by decide)) ?_
    exact tt_some ⟨i_v2, (show v2.toInt = 0 ∨ (2 ≤ (yo0.1 7).toInt ∧ (yo0.1 7).toInt ≤ yv1.toInt + 1) by omega), trivial⟩
  · have wc1 : v3.toInt < (o0.1 7).toInt := c_nle c1
    have i2 : (1 : Int) ≤ v3.toInt ∧ v3.toInt ≤ 800 := nr_nlel c1 i_v3 f_o0_7 (by decide) (by decide)
    have i3 : (2 : Int) ≤ (o0.1 7).toInt ∧ (o0.1 7).toInt ≤ 801 := nr_nler c1 i_v3 f_o0_7 (by decide) (by decide)
    refine tt_if (fun c4 => ?_) (fun c4 => ?_)
    · have wc4 : v2.toInt = (0 : Int) := c_eq c4
      have i5 : (0 : Int) ≤ v2.toInt ∧ v2.toInt ≤ 0 := nr_eql c4 i_v2 (show (0 : Int) ≤ (0 : Int32).toInt ∧ (0 : Int32).toInt ≤ 0 by decide) (by decide) (by decide)
      try unfold fM_areNames_38
      refine tt_w (iv_b i5 (by decide) (by decide)) ?_
      exact tt_some ⟨(iv_w (a := 0) (b := 1) (by decide) (by decide) i5), (show v2.toInt = 0 ∨ (2 ≤ (yo0.1 7).toInt ∧ (yo0.1 7).toInt ≤ yv1.toInt + 1) by omega), trivial⟩
    · have wc4 : ¬ v2.toInt = (0 : Int) := c_ne c4
      have i6 : (1 : Int) ≤ v2.toInt ∧ v2.toInt ≤ 1 := nr_nela c4 i_v2 (show (0 : Int) ≤ (0 : Int32).toInt ∧ (0 : Int32).toInt ≤ 0 by decide) (by decide) (by decide)
      refine tt_b (sM_isName _ _ k_o0 i2 f_o0_0 f_o0_5 i3 f_o0_95) (fun q7 hq7 => ?_)
      obtain ⟨i_q7, -⟩ := hq7
      refine tt_kv (P := fun z => ((2 : Int) ≤ z.toInt ∧ z.toInt ≤ 801) ∧ z.toInt = v3.toInt + 1) ⟨iv_add i2 (show (1 : Int) ≤ (1 : Int32).toInt ∧ (1 : Int32).toInt ≤ 1 by decide) (by decide) (by decide) (by decide) (by decide), iq_add i2 (show (1 : Int) ≤ (1 : Int32).toInt ∧ (1 : Int32).toInt ≤ 1 by decide) (by decide) (by decide)⟩ (fun x8 qi9 => ?_)
      obtain ⟨i9, ei9⟩ := qi9
      exact H _ _ _ k_o0 r_o0 i_q7 (iv_w (a := 1) (b := 801) (by decide) (by decide) i9) f_o0_0 f_o0_5 (iv_w (a := 1) (b := 801) (by decide) (by decide) i3) f_o0_95 (show q7.toInt = 0 ∨ (2 ≤ (o0.1 7).toInt ∧ (o0.1 7).toInt ≤ yv1.toInt + 1) by omega) (show 0 + (801 - x8.toInt) * 2 < (n : Int) by omega)
set_option maxHeartbeats 4000000 in
set_option maxRecDepth 100000 in
theorem hM_areNames (yv1 : Int32) (yo0 : cf_O) : ∀ n, HM_areNames yv1 yo0 n := by
  intro n
  induction n with
  | zero => exact (fun v2 v3 o0 k_o0 r_o0 i_v2 i_v3 f_o0_0 f_o0_5 f_o0_7 f_o0_95 x_0 hm => by exact absurd (show 0 + (801 - v3.toInt) * 2 < (0 : Int) from hm) (by omega))
  | succ n ih => exact (fun v2 v3 o0 k_o0 r_o0 i_v2 i_v3 f_o0_0 f_o0_5 f_o0_7 f_o0_95 x_0 hm => tM_areNames_14 ih v2 v3 o0 k_o0 r_o0 i_v2 i_v3 f_o0_0 f_o0_5 f_o0_7 f_o0_95 x_0 (by omega))
set_option maxHeartbeats 4000000 in
set_option maxRecDepth 100000 in
theorem sM_areNames (v1 : Int32) (o0 : cf_O) (k_o0 : okO I_M o0) (i_v1 : (6 : Int) ≤ v1.toInt ∧ v1.toInt ≤ 8) (f_o0_0 : (0 : Int) ≤ (o0.1 0).toInt ∧ (o0.1 0).toInt ≤ 0) (f_o0_5 : (0 : Int) ≤ (o0.1 5).toInt ∧ (o0.1 5).toInt ≤ 0) (f_o0_7 : (1 : Int) ≤ (o0.1 7).toInt ∧ (o0.1 7).toInt ≤ 801) (f_o0_95 : (0 : Int) ≤ (o0.1 95).toInt ∧ (o0.1 95).toInt ≤ 0) : tt (fM_areNames v1 o0) (QM_areNames v1 o0) := by
  have H := hM_areNames v1 o0 cfFU
  have hm : (1603 : Int) ≤ (cfFU : Nat) := by decide
  have r_o0 : Fr (fr_M [] [] []) o0 o0 := fr_rfl
  unfold fM_areNames fM_areNames_0
  refine tt_kv (P := fun z => ((0 : Int) ≤ z.toInt ∧ z.toInt ≤ 800) ∧ z.toInt = (o0.1 7).toInt - 1) ⟨iv_sub f_o0_7 (show (1 : Int) ≤ (1 : Int32).toInt ∧ (1 : Int32).toInt ≤ 1 by decide) (by decide) (by decide) (by decide) (by decide), iq_sub f_o0_7 (show (1 : Int) ≤ (1 : Int32).toInt ∧ (1 : Int32).toInt ≤ 1 by decide) (by decide) (by decide)⟩ (fun x1 qi2 => ?_)
  obtain ⟨i2, ei2⟩ := qi2
  try unfold fM_in
  try unfold fM_in_0
  refine tt_bif (fun c3 => ?_) (fun c3 => ?_)
  · have wc3 : x1.toInt < (1 : Int) := c_lt c3
    have i4 : (0 : Int) ≤ x1.toInt ∧ x1.toInt ≤ 0 := nr_ltl c3 i2 (show (1 : Int) ≤ (1 : Int32).toInt ∧ (1 : Int32).toInt ≤ 1 by decide) (by decide) (by decide)
    have i5 : (1 : Int) ≤ (o0.1 7).toInt ∧ (o0.1 7).toInt ≤ 1 := by omega
    try unfold fM_in_14
    try unfold fM_in_15
    refine tt_bw (iv_b (show (0 : Int) ≤ (0 : Int32).toInt ∧ (0 : Int32).toInt ≤ 0 by decide) (by decide) (by decide)) ?_
    refine tt_bs ?_
    exact H _ _ _ k_o0 r_o0 (iv_w (a := 0) (b := 1) (by decide) (by decide) (show (0 : Int) ≤ (0 : Int32).toInt ∧ (0 : Int32).toInt ≤ 0 by decide)) (iv_w (a := 1) (b := 801) (by decide) (by decide) (show (1 : Int) ≤ (1 : Int32).toInt ∧ (1 : Int32).toInt ≤ 1 by decide)) f_o0_0 f_o0_5 (iv_w (a := 1) (b := 801) (by decide) (by decide) i5) f_o0_95 (show 0 = 0 ∨ (2 ≤ (o0.1 7).toInt ∧ (o0.1 7).toInt ≤ v1.toInt + 1) by omega) (show 0 + (801 - 1) * 2 < ((cfFU : Nat) : Int) by omega)
  · have wc3 : (1 : Int) ≤ x1.toInt := c_nlt c3
    have i6 : (1 : Int) ≤ x1.toInt ∧ x1.toInt ≤ 800 := nr_nltr c3 (show (1 : Int) ≤ (1 : Int32).toInt ∧ (1 : Int32).toInt ≤ 1 by decide) i2 (by decide) (by decide)
    have i7 : (2 : Int) ≤ (o0.1 7).toInt ∧ (o0.1 7).toInt ≤ 801 := by omega
    refine tt_bif (fun c8 => ?_) (fun c8 => ?_)
    · have wc8 : v1.toInt < x1.toInt := c_lt c8
      have i9 : (7 : Int) ≤ x1.toInt ∧ x1.toInt ≤ 800 := nr_ltr c8 i_v1 i6 (by decide) (by decide)
      have i10 : (8 : Int) ≤ (o0.1 7).toInt ∧ (o0.1 7).toInt ≤ 801 := by omega
      try unfold fM_in_14
      try unfold fM_in_15
      refine tt_bw (iv_b (show (0 : Int) ≤ (0 : Int32).toInt ∧ (0 : Int32).toInt ≤ 0 by decide) (by decide) (by decide)) ?_
      refine tt_bs ?_
      exact H _ _ _ k_o0 r_o0 (iv_w (a := 0) (b := 1) (by decide) (by decide) (show (0 : Int) ≤ (0 : Int32).toInt ∧ (0 : Int32).toInt ≤ 0 by decide)) (iv_w (a := 1) (b := 801) (by decide) (by decide) (show (1 : Int) ≤ (1 : Int32).toInt ∧ (1 : Int32).toInt ≤ 1 by decide)) f_o0_0 f_o0_5 (iv_w (a := 1) (b := 801) (by decide) (by decide) i10) f_o0_95 (show 0 = 0 ∨ (2 ≤ (o0.1 7).toInt ∧ (o0.1 7).toInt ≤ v1.toInt + 1) by omega) (show 0 + (801 - 1) * 2 < ((cfFU : Nat) : Int) by omega)
    · have wc8 : x1.toInt ≤ v1.toInt := c_nlt c8
      have i11 : (1 : Int) ≤ x1.toInt ∧ x1.toInt ≤ 8 := nr_nltl c8 i6 i_v1 (by decide) (by decide)
      have i12 : (2 : Int) ≤ (o0.1 7).toInt ∧ (o0.1 7).toInt ≤ 9 := by omega
      try unfold fM_in_15
      refine tt_bw (iv_b (show (1 : Int) ≤ (1 : Int32).toInt ∧ (1 : Int32).toInt ≤ 1 by decide) (by decide) (by decide)) ?_
      refine tt_bs ?_
      exact H _ _ _ k_o0 r_o0 (iv_w (a := 0) (b := 1) (by decide) (by decide) (show (1 : Int) ≤ (1 : Int32).toInt ∧ (1 : Int32).toInt ≤ 1 by decide)) (iv_w (a := 1) (b := 801) (by decide) (by decide) (show (1 : Int) ≤ (1 : Int32).toInt ∧ (1 : Int32).toInt ≤ 1 by decide)) f_o0_0 f_o0_5 (iv_w (a := 1) (b := 801) (by decide) (by decide) i12) f_o0_95 (show 1 = 0 ∨ (2 ≤ (o0.1 7).toInt ∧ (o0.1 7).toInt ≤ v1.toInt + 1) by omega) (show 0 + (801 - 1) * 2 < ((cfFU : Nat) : Int) by omega)
def QM_alike (v1 : Int32) (v2 : Int32) (v3 : Int32) (v4 : Int32) (o0 : cf_O) (r : (Int32)) : Prop := ((0 : Int) ≤ r.toInt ∧ r.toInt ≤ 1) ∧ True
def HM_alike (yv1 : Int32) (yv2 : Int32) (yv3 : Int32) (yv4 : Int32) (yo0 : cf_O) (n : Nat) : Prop := (∀ (v1 : Int32) (v2 : Int32) (v3 : Int32) (v5 : Int32) (v6 : Int32) (o0 : cf_O), (okO I_M o0) → (Fr (fr_M [] [] []) yo0 o0) → ((0 : Int) ≤ v1.toInt ∧ v1.toInt ≤ 1599) → ((0 : Int) ≤ v2.toInt ∧ v2.toInt ≤ 1600) → ((0 : Int) ≤ v3.toInt ∧ v3.toInt ≤ 1599) → ((0 : Int) ≤ v5.toInt ∧ v5.toInt ≤ 1) → ((0 : Int) ≤ v6.toInt ∧ v6.toInt ≤ 1600) → ((0 : Int) ≤ (o0.1 0).toInt ∧ (o0.1 0).toInt ≤ 0) → ((0 : Int) ≤ (o0.1 5).toInt ∧ (o0.1 5).toInt ≤ 0) → ((0 : Int) ≤ (o0.1 95).toInt ∧ (o0.1 95).toInt ≤ 0) → (v5.toInt = 0 ∨ v2.toInt - v1.toInt = yv4.toInt - v3.toInt) → (yv4.toInt ≤ 1600) → 0 + (1600 - v6.toInt) * 2 < (n : Int) → tt (gM_alike n 0 v1 v2 v3 v5 v6 o0) (QM_alike yv1 yv2 yv3 yv4 yo0))
set_option maxHeartbeats 4000000 in
set_option maxRecDepth 100000 in
theorem tM_alike_20 {yv1 : Int32} {yv2 : Int32} {yv3 : Int32} {yv4 : Int32} {yo0 : cf_O} {n : Nat} (H : HM_alike yv1 yv2 yv3 yv4 yo0 n) (v1 : Int32) (v2 : Int32) (v3 : Int32) (v5 : Int32) (v6 : Int32) (o0 : cf_O) (k_o0 : okO I_M o0) (r_o0 : Fr (fr_M [] [] []) yo0 o0) (i_v1 : (0 : Int) ≤ v1.toInt ∧ v1.toInt ≤ 1599) (i_v2 : (0 : Int) ≤ v2.toInt ∧ v2.toInt ≤ 1600) (i_v3 : (0 : Int) ≤ v3.toInt ∧ v3.toInt ≤ 1599) (i_v5 : (0 : Int) ≤ v5.toInt ∧ v5.toInt ≤ 1) (i_v6 : (0 : Int) ≤ v6.toInt ∧ v6.toInt ≤ 1600) (f_o0_0 : (0 : Int) ≤ (o0.1 0).toInt ∧ (o0.1 0).toInt ≤ 0) (f_o0_5 : (0 : Int) ≤ (o0.1 5).toInt ∧ (o0.1 5).toInt ≤ 0) (f_o0_95 : (0 : Int) ≤ (o0.1 95).toInt ∧ (o0.1 95).toInt ≤ 0) (x_0 : v5.toInt = 0 ∨ v2.toInt - v1.toInt = yv4.toInt - v3.toInt) (x_1 : yv4.toInt ≤ 1600) (hm : 0 + (1600 - v6.toInt) * 2 ≤ (n : Int)) : tt (fM_alike_20 (gM_alike n) v1 v2 v3 v5 v6 o0) (QM_alike yv1 yv2 yv3 yv4 yo0) := by
  unfold fM_alike_20
  refine tt_kv (P := fun z => (((-1599) : Int) ≤ z.toInt ∧ z.toInt ≤ 1600) ∧ z.toInt = v2.toInt - v1.toInt) ⟨iv_sub i_v2 i_v1 (by decide) (by decide) (by decide) (by decide), iq_sub i_v2 i_v1 (by decide) (by decide)⟩ (fun x1 qi2 => ?_)
  obtain ⟨i2, ei2⟩ := qi2
  refine tt_if (fun c3 => ?_) (fun c3 => ?_)
  · have wc3 : x1.toInt ≤ v6.toInt := c_le c3
    try unfold fM_alike_67
    refine tt_w (iv_b i_v5 (by decide) (by decide)) ?_
    exact tt_some ⟨i_v5, trivial⟩
  · have wc3 : v6.toInt < x1.toInt := c_nle c3
    have i4 : (0 : Int) ≤ v6.toInt ∧ v6.toInt ≤ 1599 := nr_nlel c3 i_v6 i2 (by decide) (by decide)
    have i5 : (1 : Int) ≤ x1.toInt ∧ x1.toInt ≤ 1600 := nr_nler c3 i_v6 i2 (by decide) (by decide)
    refine tt_if (fun c6 => ?_) (fun c6 => ?_)
    · have wc6 : v5.toInt = (0 : Int) := c_eq c6
      have i7 : (0 : Int) ≤ v5.toInt ∧ v5.toInt ≤ 0 := nr_eql c6 i_v5 (show (0 : Int) ≤ (0 : Int32).toInt ∧ (0 : Int32).toInt ≤ 0 by decide) (by decide) (by decide)
      try unfold fM_alike_67
      refine tt_w (iv_b i7 (by decide) (by decide)) ?_
      exact tt_some ⟨(iv_w (a := 0) (b := 1) (by decide) (by decide) i7), trivial⟩
    · have wc6 : ¬ v5.toInt = (0 : Int) := c_ne c6
      have i8 : (1 : Int) ≤ v5.toInt ∧ v5.toInt ≤ 1 := nr_nela c6 i_v5 (show (0 : Int) ≤ (0 : Int32).toInt ∧ (0 : Int32).toInt ≤ 0 by decide) (by decide) (by decide)
      refine tt_kv (P := fun z => ((0 : Int) ≤ z.toInt ∧ z.toInt ≤ 3198) ∧ z.toInt = v1.toInt + v6.toInt) ⟨iv_add i_v1 i4 (by decide) (by decide) (by decide) (by decide), iq_add i_v1 i4 (by decide) (by decide)⟩ (fun x9 qi10 => ?_)
      obtain ⟨i10, ei10⟩ := qi10
      refine tt_n (ix_rel (by omega) (by omega)) ?_
      have i11 : (0 : Int) ≤ x9.toInt ∧ x9.toInt ≤ 1599 := (by omega)
      refine tt_kv (P := fun z => ((0 : Int) ≤ z.toInt ∧ z.toInt ≤ 255) ∧ z.toInt = (o0.2.1 1 x9.toNatClampNeg).toInt) ⟨(k_o0.2 1 _), rfl⟩ (fun x12 qi13 => ?_)
      obtain ⟨i13, ei13⟩ := qi13
      refine tt_kv (P := fun z => ((0 : Int) ≤ z.toInt ∧ z.toInt ≤ 3198) ∧ z.toInt = v3.toInt + v6.toInt) ⟨iv_add i_v3 i4 (by decide) (by decide) (by decide) (by decide), iq_add i_v3 i4 (by decide) (by decide)⟩ (fun x14 qi15 => ?_)
      obtain ⟨i15, ei15⟩ := qi15
      refine tt_n (ix_rel (by omega) (by omega)) ?_
      have i16 : (0 : Int) ≤ x14.toInt ∧ x14.toInt ≤ 1599 := (by omega)
      refine tt_kv (P := fun z => ((0 : Int) ≤ z.toInt ∧ z.toInt ≤ 255) ∧ z.toInt = (o0.2.1 1 x14.toNatClampNeg).toInt) ⟨(k_o0.2 1 _), rfl⟩ (fun x17 qi18 => ?_)
      obtain ⟨i18, ei18⟩ := qi18
      refine tt_if (fun c19 => ?_) (fun c19 => ?_)
      · have wc19 : x12.toInt = x17.toInt := c_eq c19
        try unfold fM_alike_59
        refine tt_kv (P := fun z => ((1 : Int) ≤ z.toInt ∧ z.toInt ≤ 1600) ∧ z.toInt = v6.toInt + 1) ⟨iv_add i4 (show (1 : Int) ≤ (1 : Int32).toInt ∧ (1 : Int32).toInt ≤ 1 by decide) (by decide) (by decide) (by decide) (by decide), iq_add i4 (show (1 : Int) ≤ (1 : Int32).toInt ∧ (1 : Int32).toInt ≤ 1 by decide) (by decide) (by decide)⟩ (fun x20 qi21 => ?_)
        obtain ⟨i21, ei21⟩ := qi21
        exact H _ _ _ _ _ _ k_o0 r_o0 i_v1 i_v2 i_v3 (iv_w (a := 0) (b := 1) (by decide) (by decide) (show (1 : Int) ≤ (1 : Int32).toInt ∧ (1 : Int32).toInt ≤ 1 by decide)) (iv_w (a := 0) (b := 1600) (by decide) (by decide) i21) f_o0_0 f_o0_5 f_o0_95 (show 1 = 0 ∨ v2.toInt - v1.toInt = yv4.toInt - v3.toInt by omega) (show yv4.toInt ≤ 1600 by omega) (show 0 + (1600 - x20.toInt) * 2 < (n : Int) by omega)
      · have wc19 : ¬ x12.toInt = x17.toInt := c_ne c19
        try unfold fM_alike_59
        refine tt_kv (P := fun z => ((1 : Int) ≤ z.toInt ∧ z.toInt ≤ 1600) ∧ z.toInt = v6.toInt + 1) ⟨iv_add i4 (show (1 : Int) ≤ (1 : Int32).toInt ∧ (1 : Int32).toInt ≤ 1 by decide) (by decide) (by decide) (by decide) (by decide), iq_add i4 (show (1 : Int) ≤ (1 : Int32).toInt ∧ (1 : Int32).toInt ≤ 1 by decide) (by decide) (by decide)⟩ (fun x22 qi23 => ?_)
        obtain ⟨i23, ei23⟩ := qi23
        exact H _ _ _ _ _ _ k_o0 r_o0 i_v1 i_v2 i_v3 (iv_w (a := 0) (b := 1) (by decide) (by decide) (show (0 : Int) ≤ (0 : Int32).toInt ∧ (0 : Int32).toInt ≤ 0 by decide)) (iv_w (a := 0) (b := 1600) (by decide) (by decide) i23) f_o0_0 f_o0_5 f_o0_95 (show 0 = 0 ∨ v2.toInt - v1.toInt = yv4.toInt - v3.toInt by omega) (show yv4.toInt ≤ 1600 by omega) (show 0 + (1600 - x22.toInt) * 2 < (n : Int) by omega)
set_option maxHeartbeats 4000000 in
set_option maxRecDepth 100000 in
theorem hM_alike (yv1 : Int32) (yv2 : Int32) (yv3 : Int32) (yv4 : Int32) (yo0 : cf_O) : ∀ n, HM_alike yv1 yv2 yv3 yv4 yo0 n := by
  intro n
  induction n with
  | zero => exact (fun v1 v2 v3 v5 v6 o0 k_o0 r_o0 i_v1 i_v2 i_v3 i_v5 i_v6 f_o0_0 f_o0_5 f_o0_95 x_0 x_1 hm => by exact absurd (show 0 + (1600 - v6.toInt) * 2 < (0 : Int) from hm) (by omega))
  | succ n ih => exact (fun v1 v2 v3 v5 v6 o0 k_o0 r_o0 i_v1 i_v2 i_v3 i_v5 i_v6 f_o0_0 f_o0_5 f_o0_95 x_0 x_1 hm => tM_alike_20 ih v1 v2 v3 v5 v6 o0 k_o0 r_o0 i_v1 i_v2 i_v3 i_v5 i_v6 f_o0_0 f_o0_5 f_o0_95 x_0 x_1 (by omega))
set_option maxHeartbeats 4000000 in
set_option maxRecDepth 100000 in
theorem sM_alike (v1 : Int32) (v2 : Int32) (v3 : Int32) (v4 : Int32) (o0 : cf_O) (k_o0 : okO I_M o0) (i_v1 : (0 : Int) ≤ v1.toInt ∧ v1.toInt ≤ 1599) (i_v2 : (0 : Int) ≤ v2.toInt ∧ v2.toInt ≤ 1600) (i_v3 : (0 : Int) ≤ v3.toInt ∧ v3.toInt ≤ 1599) (i_v4 : (0 : Int) ≤ v4.toInt ∧ v4.toInt ≤ 1600) (f_o0_0 : (0 : Int) ≤ (o0.1 0).toInt ∧ (o0.1 0).toInt ≤ 0) (f_o0_5 : (0 : Int) ≤ (o0.1 5).toInt ∧ (o0.1 5).toInt ≤ 0) (f_o0_95 : (0 : Int) ≤ (o0.1 95).toInt ∧ (o0.1 95).toInt ≤ 0) : tt (fM_alike v1 v2 v3 v4 o0) (QM_alike v1 v2 v3 v4 o0) := by
  have H := hM_alike v1 v2 v3 v4 o0 cfFU
  have hm : (3203 : Int) ≤ (cfFU : Nat) := by decide
  have r_o0 : Fr (fr_M [] [] []) o0 o0 := fr_rfl
  unfold fM_alike fM_alike_0
  refine tt_kv (P := fun z => (((-1599) : Int) ≤ z.toInt ∧ z.toInt ≤ 1600) ∧ z.toInt = v2.toInt - v1.toInt) ⟨iv_sub i_v2 i_v1 (by decide) (by decide) (by decide) (by decide), iq_sub i_v2 i_v1 (by decide) (by decide)⟩ (fun x1 qi2 => ?_)
  obtain ⟨i2, ei2⟩ := qi2
  refine tt_kv (P := fun z => (((-1599) : Int) ≤ z.toInt ∧ z.toInt ≤ 1600) ∧ z.toInt = v4.toInt - v3.toInt) ⟨iv_sub i_v4 i_v3 (by decide) (by decide) (by decide) (by decide), iq_sub i_v4 i_v3 (by decide) (by decide)⟩ (fun x3 qi4 => ?_)
  obtain ⟨i4, ei4⟩ := qi4
  refine tt_if (fun c5 => ?_) (fun c5 => ?_)
  · have wc5 : x1.toInt = x3.toInt := c_eq c5
    try unfold fM_alike_15
    exact H _ _ _ _ _ _ k_o0 r_o0 i_v1 i_v2 i_v3 (iv_w (a := 0) (b := 1) (by decide) (by decide) (show (1 : Int) ≤ (1 : Int32).toInt ∧ (1 : Int32).toInt ≤ 1 by decide)) (iv_w (a := 0) (b := 1600) (by decide) (by decide) (show (0 : Int) ≤ (0 : Int32).toInt ∧ (0 : Int32).toInt ≤ 0 by decide)) f_o0_0 f_o0_5 f_o0_95 (show 1 = 0 ∨ v2.toInt - v1.toInt = v4.toInt - v3.toInt by omega) (show v4.toInt ≤ 1600 by omega) (show 0 + (1600 - 0) * 2 < ((cfFU : Nat) : Int) by omega)
  · have wc5 : ¬ x1.toInt = x3.toInt := c_ne c5
    try unfold fM_alike_15
    exact H _ _ _ _ _ _ k_o0 r_o0 i_v1 i_v2 i_v3 (iv_w (a := 0) (b := 1) (by decide) (by decide) (show (0 : Int) ≤ (0 : Int32).toInt ∧ (0 : Int32).toInt ≤ 0 by decide)) (iv_w (a := 0) (b := 1600) (by decide) (by decide) (show (0 : Int) ≤ (0 : Int32).toInt ∧ (0 : Int32).toInt ≤ 0 by decide)) f_o0_0 f_o0_5 f_o0_95 (show 0 = 0 ∨ v2.toInt - v1.toInt = v4.toInt - v3.toInt by omega) (show v4.toInt ≤ 1600 by omega) (show 0 + (1600 - 0) * 2 < ((cfFU : Nat) : Int) by omega)
def QM_giver (v1 : Int32) (v2 : Int32) (o0 : cf_O) (r : (Int32)) : Prop := (((-1) : Int) ≤ r.toInt ∧ r.toInt ≤ 37) ∧ (r.toInt ≤ 7 + (o0.1 17).toInt) ∧ (8 ≤ r.toInt ∨ r.toInt < (o0.1 10).toInt) ∧ True
def HM_giver (yv1 : Int32) (yv2 : Int32) (yo0 : cf_O) (n : Nat) : Prop := (∀ (v1 : Int32) (v2 : Int32) (v3 : Int32) (v4 : Int32) (o0 : cf_O), (okO I_M o0) → (Fr (fr_M [] [] []) yo0 o0) → ((0 : Int) ≤ v1.toInt ∧ v1.toInt ≤ 1599) → ((0 : Int) ≤ v2.toInt ∧ v2.toInt ≤ 1600) → (((-1) : Int) ≤ v3.toInt ∧ v3.toInt ≤ 7) → ((0 : Int) ≤ v4.toInt ∧ v4.toInt ≤ 8) → ((0 : Int) ≤ (o0.1 0).toInt ∧ (o0.1 0).toInt ≤ 0) → ((0 : Int) ≤ (o0.1 5).toInt ∧ (o0.1 5).toInt ≤ 0) → ((0 : Int) ≤ (o0.1 95).toInt ∧ (o0.1 95).toInt ≤ 0) → (Tn (o0.1 17) (o0.2.1 19)) → (v3.toInt < v4.toInt) → (v4.toInt ≤ (o0.1 10).toInt) → 62 + (8 - v4.toInt) * 2 < (n : Int) → tt (gM_giver n 0 v1 v2 v3 v4 o0) (QM_giver yv1 yv2 yo0)) ∧ (∀ (v1 : Int32) (v2 : Int32) (v3 : Int32) (v4 : Int32) (o0 : cf_O), (okO I_M o0) → (Fr (fr_M [] [] []) yo0 o0) → ((0 : Int) ≤ v1.toInt ∧ v1.toInt ≤ 1599) → ((0 : Int) ≤ v2.toInt ∧ v2.toInt ≤ 1600) → (((-1) : Int) ≤ v3.toInt ∧ v3.toInt ≤ 37) → ((0 : Int) ≤ v4.toInt ∧ v4.toInt ≤ 30) → ((0 : Int) ≤ (o0.1 0).toInt ∧ (o0.1 0).toInt ≤ 0) → ((0 : Int) ≤ (o0.1 5).toInt ∧ (o0.1 5).toInt ≤ 0) → ((0 : Int) ≤ (o0.1 95).toInt ∧ (o0.1 95).toInt ≤ 0) → (Tn (o0.1 17) (o0.2.1 19)) → (v3.toInt ≤ 7 + (o0.1 17).toInt) → (8 ≤ v3.toInt ∨ v3.toInt < (o0.1 10).toInt) → 0 + (30 - v4.toInt) * 2 < (n : Int) → tt (gM_giver n 1 v1 v2 v3 v4 o0) (QM_giver yv1 yv2 yo0))
set_option maxHeartbeats 4000000 in
set_option maxRecDepth 100000 in
theorem tM_giver_53 {yv1 : Int32} {yv2 : Int32} {yo0 : cf_O} {n : Nat} (H : HM_giver yv1 yv2 yo0 n) (v1 : Int32) (v2 : Int32) (v3 : Int32) (v4 : Int32) (o0 : cf_O) (k_o0 : okO I_M o0) (r_o0 : Fr (fr_M [] [] []) yo0 o0) (i_v1 : (0 : Int) ≤ v1.toInt ∧ v1.toInt ≤ 1599) (i_v2 : (0 : Int) ≤ v2.toInt ∧ v2.toInt ≤ 1600) (i_v3 : ((-1) : Int) ≤ v3.toInt ∧ v3.toInt ≤ 37) (i_v4 : (0 : Int) ≤ v4.toInt ∧ v4.toInt ≤ 30) (f_o0_0 : (0 : Int) ≤ (o0.1 0).toInt ∧ (o0.1 0).toInt ≤ 0) (f_o0_5 : (0 : Int) ≤ (o0.1 5).toInt ∧ (o0.1 5).toInt ≤ 0) (f_o0_95 : (0 : Int) ≤ (o0.1 95).toInt ∧ (o0.1 95).toInt ≤ 0) (x_0 : Tn (o0.1 17) (o0.2.1 19)) (x_1 : v3.toInt ≤ 7 + (o0.1 17).toInt) (x_2 : 8 ≤ v3.toInt ∨ v3.toInt < (o0.1 10).toInt) (hm : 0 + (30 - v4.toInt) * 2 ≤ (n : Int)) : tt (fM_giver_53 (gM_giver n) v1 v2 v3 v4 o0) (QM_giver yv1 yv2 yo0) := by
  unfold fM_giver_53
  have g_o0_10 : (0 : Int) ≤ (o0.1 10).toInt ∧ (o0.1 10).toInt ≤ 8 := k_o0.1 10
  have ey_o0_10 : (o0.1 10).toInt = (yo0.1 10).toInt := congrArg Int32.toInt (r_o0.1 10 rfl)
  have g_o0_17 : (0 : Int) ≤ (o0.1 17).toInt ∧ (o0.1 17).toInt ≤ 30 := k_o0.1 17
  have ey_o0_17 : (o0.1 17).toInt = (yo0.1 17).toInt := congrArg Int32.toInt (r_o0.1 17 rfl)
  refine tt_if (fun c1 => ?_) (fun c1 => ?_)
  · have wc1 : (o0.1 17).toInt ≤ v4.toInt := c_le c1
    exact tt_some ⟨i_v3, (show v3.toInt ≤ 7 + (yo0.1 17).toInt by omega), (show 8 ≤ v3.toInt ∨ v3.toInt < (yo0.1 10).toInt by omega), trivial⟩
  · have wc1 : v4.toInt < (o0.1 17).toInt := c_nle c1
    have i2 : (0 : Int) ≤ v4.toInt ∧ v4.toInt ≤ 29 := nr_nlel c1 i_v4 (k_o0.1 17) (by decide) (by decide)
    have i3 : (1 : Int) ≤ (o0.1 17).toInt ∧ (o0.1 17).toInt ≤ 30 := nr_nler c1 i_v4 (k_o0.1 17) (by decide) (by decide)
    refine tt_kv (P := fun z => ((0 : Int) ≤ z.toInt ∧ z.toInt ≤ 174) ∧ z.toInt = 6 * v4.toInt) ⟨iv_mul (show (6 : Int) ≤ (6 : Int32).toInt ∧ (6 : Int32).toInt ≤ 6 by decide) i2 (by decide) (by decide) (by decide) (by decide) (by decide), iq_mul (show (6 : Int) ≤ (6 : Int32).toInt ∧ (6 : Int32).toInt ≤ 6 by decide) i2 (by decide) (by decide) (by decide) (by decide)⟩ (fun x4 qi5 => ?_)
    obtain ⟨i5, ei5⟩ := qi5
    refine tt_n (ix_ok i2 (by decide) (by decide)) ?_
    refine tt_kv (P := fun z => ((0 : Int) ≤ z.toInt ∧ z.toInt ≤ 6) ∧ z.toInt = (o0.2.1 19 v4.toNatClampNeg).toInt) ⟨(k_o0.2 19 _), rfl⟩ (fun x6 qi7 => ?_)
    obtain ⟨i7, ei7⟩ := qi7
    have t8 := tn_n v4
    have t9 := x_0 (v4.toNatClampNeg)
    refine tt_kv (P := fun z => ((0 : Int) ≤ z.toInt ∧ z.toInt ≤ 180) ∧ z.toInt = x4.toInt + x6.toInt) ⟨iv_add i5 i7 (by decide) (by decide) (by decide) (by decide), iq_add i5 i7 (by decide) (by decide)⟩ (fun x10 qi11 => ?_)
    obtain ⟨i11, ei11⟩ := qi11
    refine tt_kv (P := fun z => (((-1) : Int) ≤ z.toInt ∧ z.toInt ≤ 179) ∧ z.toInt = x10.toInt - 1) ⟨iv_sub i11 (show (1 : Int) ≤ (1 : Int32).toInt ∧ (1 : Int32).toInt ≤ 1 by decide) (by decide) (by decide) (by decide) (by decide), iq_sub i11 (show (1 : Int) ≤ (1 : Int32).toInt ∧ (1 : Int32).toInt ≤ 1 by decide) (by decide) (by decide)⟩ (fun x12 qi13 => ?_)
    obtain ⟨i13, ei13⟩ := qi13
    refine tt_n (ix_rel (by omega) (by omega)) ?_
    have i14 : (0 : Int) ≤ x12.toInt ∧ x12.toInt ≤ 179 := (by omega)
    have i15 : (1 : Int) ≤ x10.toInt ∧ x10.toInt ≤ 180 := by omega
    refine tt_kv (P := fun z => ((0 : Int) ≤ z.toInt ∧ z.toInt ≤ 1599) ∧ z.toInt = (o0.2.1 20 x12.toNatClampNeg).toInt) ⟨(k_o0.2 20 _), rfl⟩ (fun x16 qi17 => ?_)
    obtain ⟨i17, ei17⟩ := qi17
    refine tt_n (ix_ok i14 (by decide) (by decide)) ?_
    refine tt_kv (P := fun z => ((0 : Int) ≤ z.toInt ∧ z.toInt ≤ 1600) ∧ z.toInt = (o0.2.1 21 x12.toNatClampNeg).toInt) ⟨(k_o0.2 21 _), rfl⟩ (fun x18 qi19 => ?_)
    obtain ⟨i19, ei19⟩ := qi19
    refine tt_b (sM_alike _ _ _ _ _ k_o0 i_v1 i_v2 i17 i19 f_o0_0 f_o0_5 f_o0_95) (fun q20 hq20 => ?_)
    obtain ⟨i_q20, -⟩ := hq20
    refine tt_if (fun c21 => ?_) (fun c21 => ?_)
    · have wc21 : q20.toInt = (0 : Int) := c_eq c21
      have i22 : (0 : Int) ≤ q20.toInt ∧ q20.toInt ≤ 0 := nr_eql c21 i_q20 (show (0 : Int) ≤ (0 : Int32).toInt ∧ (0 : Int32).toInt ≤ 0 by decide) (by decide) (by decide)
      try unfold fM_giver_111
      refine tt_kv (P := fun z => ((1 : Int) ≤ z.toInt ∧ z.toInt ≤ 30) ∧ z.toInt = v4.toInt + 1) ⟨iv_add i2 (show (1 : Int) ≤ (1 : Int32).toInt ∧ (1 : Int32).toInt ≤ 1 by decide) (by decide) (by decide) (by decide) (by decide), iq_add i2 (show (1 : Int) ≤ (1 : Int32).toInt ∧ (1 : Int32).toInt ≤ 1 by decide) (by decide) (by decide)⟩ (fun x23 qi24 => ?_)
      obtain ⟨i24, ei24⟩ := qi24
      exact H.2 _ _ _ _ _ k_o0 r_o0 i_v1 i_v2 i_v3 (iv_w (a := 0) (b := 30) (by decide) (by decide) i24) f_o0_0 f_o0_5 f_o0_95 x_0 (show v3.toInt ≤ 7 + (o0.1 17).toInt by omega) (show 8 ≤ v3.toInt ∨ v3.toInt < (o0.1 10).toInt by omega) (show 0 + (30 - x23.toInt) * 2 < (n : Int) by omega)
    · have wc21 : ¬ q20.toInt = (0 : Int) := c_ne c21
      have i25 : (1 : Int) ≤ q20.toInt ∧ q20.toInt ≤ 1 := nr_nela c21 i_q20 (show (0 : Int) ≤ (0 : Int32).toInt ∧ (0 : Int32).toInt ≤ 0 by decide) (by decide) (by decide)
      refine tt_kv (P := fun z => ((8 : Int) ≤ z.toInt ∧ z.toInt ≤ 37) ∧ z.toInt = 8 + v4.toInt) ⟨iv_add (show (8 : Int) ≤ (8 : Int32).toInt ∧ (8 : Int32).toInt ≤ 8 by decide) i2 (by decide) (by decide) (by decide) (by decide), iq_add (show (8 : Int) ≤ (8 : Int32).toInt ∧ (8 : Int32).toInt ≤ 8 by decide) i2 (by decide) (by decide)⟩ (fun x26 qi27 => ?_)
      obtain ⟨i27, ei27⟩ := qi27
      try unfold fM_giver_111
      refine tt_kv (P := fun z => ((1 : Int) ≤ z.toInt ∧ z.toInt ≤ 30) ∧ z.toInt = v4.toInt + 1) ⟨iv_add i2 (show (1 : Int) ≤ (1 : Int32).toInt ∧ (1 : Int32).toInt ≤ 1 by decide) (by decide) (by decide) (by decide) (by decide), iq_add i2 (show (1 : Int) ≤ (1 : Int32).toInt ∧ (1 : Int32).toInt ≤ 1 by decide) (by decide) (by decide)⟩ (fun x28 qi29 => ?_)
      obtain ⟨i29, ei29⟩ := qi29
      exact H.2 _ _ _ _ _ k_o0 r_o0 i_v1 i_v2 (iv_w (a := (-1)) (b := 37) (by decide) (by decide) i27) (iv_w (a := 0) (b := 30) (by decide) (by decide) i29) f_o0_0 f_o0_5 f_o0_95 x_0 (show x26.toInt ≤ 7 + (o0.1 17).toInt by omega) (show 8 ≤ x26.toInt ∨ x26.toInt < (o0.1 10).toInt by omega) (show 0 + (30 - x28.toInt) * 2 < (n : Int) by omega)
set_option maxHeartbeats 4000000 in
set_option maxRecDepth 100000 in
theorem tM_giver_5 {yv1 : Int32} {yv2 : Int32} {yo0 : cf_O} {n : Nat} (H : HM_giver yv1 yv2 yo0 n) (v1 : Int32) (v2 : Int32) (v3 : Int32) (v4 : Int32) (o0 : cf_O) (k_o0 : okO I_M o0) (r_o0 : Fr (fr_M [] [] []) yo0 o0) (i_v1 : (0 : Int) ≤ v1.toInt ∧ v1.toInt ≤ 1599) (i_v2 : (0 : Int) ≤ v2.toInt ∧ v2.toInt ≤ 1600) (i_v3 : ((-1) : Int) ≤ v3.toInt ∧ v3.toInt ≤ 7) (i_v4 : (0 : Int) ≤ v4.toInt ∧ v4.toInt ≤ 8) (f_o0_0 : (0 : Int) ≤ (o0.1 0).toInt ∧ (o0.1 0).toInt ≤ 0) (f_o0_5 : (0 : Int) ≤ (o0.1 5).toInt ∧ (o0.1 5).toInt ≤ 0) (f_o0_95 : (0 : Int) ≤ (o0.1 95).toInt ∧ (o0.1 95).toInt ≤ 0) (x_0 : Tn (o0.1 17) (o0.2.1 19)) (x_1 : v3.toInt < v4.toInt) (x_2 : v4.toInt ≤ (o0.1 10).toInt) (hm : 62 + (8 - v4.toInt) * 2 ≤ (n : Int)) : tt (fM_giver_5 (gM_giver n) v1 v2 v3 v4 o0) (QM_giver yv1 yv2 yo0) := by
  unfold fM_giver_5
  have g_o0_10 : (0 : Int) ≤ (o0.1 10).toInt ∧ (o0.1 10).toInt ≤ 8 := k_o0.1 10
  have ey_o0_10 : (o0.1 10).toInt = (yo0.1 10).toInt := congrArg Int32.toInt (r_o0.1 10 rfl)
  have g_o0_17 : (0 : Int) ≤ (o0.1 17).toInt ∧ (o0.1 17).toInt ≤ 30 := k_o0.1 17
  have ey_o0_17 : (o0.1 17).toInt = (yo0.1 17).toInt := congrArg Int32.toInt (r_o0.1 17 rfl)
  refine tt_if (fun c1 => ?_) (fun c1 => ?_)
  · have wc1 : (o0.1 10).toInt ≤ v4.toInt := c_le c1
    exact H.2 _ _ _ _ _ k_o0 r_o0 i_v1 i_v2 (iv_w (a := (-1)) (b := 37) (by decide) (by decide) i_v3) (iv_w (a := 0) (b := 30) (by decide) (by decide) (show (0 : Int) ≤ (0 : Int32).toInt ∧ (0 : Int32).toInt ≤ 0 by decide)) f_o0_0 f_o0_5 f_o0_95 x_0 (show v3.toInt ≤ 7 + (o0.1 17).toInt by omega) (show 8 ≤ v3.toInt ∨ v3.toInt < (o0.1 10).toInt by omega) (show 0 + (30 - 0) * 2 < (n : Int) by omega)
  · have wc1 : v4.toInt < (o0.1 10).toInt := c_nle c1
    have i2 : (0 : Int) ≤ v4.toInt ∧ v4.toInt ≤ 7 := nr_nlel c1 i_v4 (k_o0.1 10) (by decide) (by decide)
    have i3 : (1 : Int) ≤ (o0.1 10).toInt ∧ (o0.1 10).toInt ≤ 8 := nr_nler c1 i_v4 (k_o0.1 10) (by decide) (by decide)
    refine tt_n (ix_ok i2 (by decide) (by decide)) ?_
    refine tt_kv (P := fun z => ((0 : Int) ≤ z.toInt ∧ z.toInt ≤ 1599) ∧ z.toInt = (o0.2.1 11 v4.toNatClampNeg).toInt) ⟨(k_o0.2 11 _), rfl⟩ (fun x4 qi5 => ?_)
    obtain ⟨i5, ei5⟩ := qi5
    refine tt_n (ix_ok i2 (by decide) (by decide)) ?_
    refine tt_kv (P := fun z => ((0 : Int) ≤ z.toInt ∧ z.toInt ≤ 1600) ∧ z.toInt = (o0.2.1 12 v4.toNatClampNeg).toInt) ⟨(k_o0.2 12 _), rfl⟩ (fun x6 qi7 => ?_)
    obtain ⟨i7, ei7⟩ := qi7
    refine tt_b (sM_alike _ _ _ _ _ k_o0 i_v1 i_v2 i5 i7 f_o0_0 f_o0_5 f_o0_95) (fun q8 hq8 => ?_)
    obtain ⟨i_q8, -⟩ := hq8
    refine tt_if (fun c9 => ?_) (fun c9 => ?_)
    · have wc9 : q8.toInt = (0 : Int) := c_eq c9
      have i10 : (0 : Int) ≤ q8.toInt ∧ q8.toInt ≤ 0 := nr_eql c9 i_q8 (show (0 : Int) ≤ (0 : Int32).toInt ∧ (0 : Int32).toInt ≤ 0 by decide) (by decide) (by decide)
      try unfold fM_giver_43
      refine tt_kv (P := fun z => ((1 : Int) ≤ z.toInt ∧ z.toInt ≤ 8) ∧ z.toInt = v4.toInt + 1) ⟨iv_add i2 (show (1 : Int) ≤ (1 : Int32).toInt ∧ (1 : Int32).toInt ≤ 1 by decide) (by decide) (by decide) (by decide) (by decide), iq_add i2 (show (1 : Int) ≤ (1 : Int32).toInt ∧ (1 : Int32).toInt ≤ 1 by decide) (by decide) (by decide)⟩ (fun x11 qi12 => ?_)
      obtain ⟨i12, ei12⟩ := qi12
      exact H.1 _ _ _ _ _ k_o0 r_o0 i_v1 i_v2 i_v3 (iv_w (a := 0) (b := 8) (by decide) (by decide) i12) f_o0_0 f_o0_5 f_o0_95 x_0 (show v3.toInt < x11.toInt by omega) (show x11.toInt ≤ (o0.1 10).toInt by omega) (show 62 + (8 - x11.toInt) * 2 < (n : Int) by omega)
    · have wc9 : ¬ q8.toInt = (0 : Int) := c_ne c9
      have i13 : (1 : Int) ≤ q8.toInt ∧ q8.toInt ≤ 1 := nr_nela c9 i_q8 (show (0 : Int) ≤ (0 : Int32).toInt ∧ (0 : Int32).toInt ≤ 0 by decide) (by decide) (by decide)
      try unfold fM_giver_43
      refine tt_kv (P := fun z => ((1 : Int) ≤ z.toInt ∧ z.toInt ≤ 8) ∧ z.toInt = v4.toInt + 1) ⟨iv_add i2 (show (1 : Int) ≤ (1 : Int32).toInt ∧ (1 : Int32).toInt ≤ 1 by decide) (by decide) (by decide) (by decide) (by decide), iq_add i2 (show (1 : Int) ≤ (1 : Int32).toInt ∧ (1 : Int32).toInt ≤ 1 by decide) (by decide) (by decide)⟩ (fun x14 qi15 => ?_)
      obtain ⟨i15, ei15⟩ := qi15
      exact H.1 _ _ _ _ _ k_o0 r_o0 i_v1 i_v2 (iv_w (a := (-1)) (b := 7) (by decide) (by decide) i2) (iv_w (a := 0) (b := 8) (by decide) (by decide) i15) f_o0_0 f_o0_5 f_o0_95 x_0 (show v4.toInt < x14.toInt by omega) (show x14.toInt ≤ (o0.1 10).toInt by omega) (show 62 + (8 - x14.toInt) * 2 < (n : Int) by omega)
set_option maxHeartbeats 4000000 in
set_option maxRecDepth 100000 in
theorem hM_giver (yv1 : Int32) (yv2 : Int32) (yo0 : cf_O) : ∀ n, HM_giver yv1 yv2 yo0 n := by
  intro n
  induction n with
  | zero => exact ⟨(fun v1 v2 v3 v4 o0 k_o0 r_o0 i_v1 i_v2 i_v3 i_v4 f_o0_0 f_o0_5 f_o0_95 x_0 x_1 x_2 hm => by exact absurd (show 62 + (8 - v4.toInt) * 2 < (0 : Int) from hm) (by omega)), (fun v1 v2 v3 v4 o0 k_o0 r_o0 i_v1 i_v2 i_v3 i_v4 f_o0_0 f_o0_5 f_o0_95 x_0 x_1 x_2 hm => by exact absurd (show 0 + (30 - v4.toInt) * 2 < (0 : Int) from hm) (by omega))⟩
  | succ n ih => exact ⟨(fun v1 v2 v3 v4 o0 k_o0 r_o0 i_v1 i_v2 i_v3 i_v4 f_o0_0 f_o0_5 f_o0_95 x_0 x_1 x_2 hm => tM_giver_5 ih v1 v2 v3 v4 o0 k_o0 r_o0 i_v1 i_v2 i_v3 i_v4 f_o0_0 f_o0_5 f_o0_95 x_0 x_1 x_2 (by omega)), (fun v1 v2 v3 v4 o0 k_o0 r_o0 i_v1 i_v2 i_v3 i_v4 f_o0_0 f_o0_5 f_o0_95 x_0 x_1 x_2 hm => tM_giver_53 ih v1 v2 v3 v4 o0 k_o0 r_o0 i_v1 i_v2 i_v3 i_v4 f_o0_0 f_o0_5 f_o0_95 x_0 x_1 x_2 (by omega))⟩
set_option maxHeartbeats 4000000 in
set_option maxRecDepth 100000 in
theorem sM_giver (v1 : Int32) (v2 : Int32) (o0 : cf_O) (k_o0 : okO I_M o0) (i_v1 : (0 : Int) ≤ v1.toInt ∧ v1.toInt ≤ 1599) (i_v2 : (0 : Int) ≤ v2.toInt ∧ v2.toInt ≤ 1600) (f_o0_0 : (0 : Int) ≤ (o0.1 0).toInt ∧ (o0.1 0).toInt ≤ 0) (f_o0_5 : (0 : Int) ≤ (o0.1 5).toInt ∧ (o0.1 5).toInt ≤ 0) (f_o0_95 : (0 : Int) ≤ (o0.1 95).toInt ∧ (o0.1 95).toInt ≤ 0) (x_0 : Tn (o0.1 17) (o0.2.1 19)) : tt (fM_giver v1 v2 o0) (QM_giver v1 v2 o0) := by
  have H := hM_giver v1 v2 o0 cfFU
  have hm : (81 : Int) ≤ (cfFU : Nat) := by decide
  have r_o0 : Fr (fr_M [] [] []) o0 o0 := fr_rfl
  unfold fM_giver fM_giver_0
  have g_o0_10 : (0 : Int) ≤ (o0.1 10).toInt ∧ (o0.1 10).toInt ≤ 8 := k_o0.1 10
  have g_o0_17 : (0 : Int) ≤ (o0.1 17).toInt ∧ (o0.1 17).toInt ≤ 30 := k_o0.1 17
  exact H.1 _ _ _ _ _ k_o0 r_o0 i_v1 i_v2 (iv_w (a := (-1)) (b := 7) (by decide) (by decide) (show ((-1) : Int) ≤ ((-1) : Int32).toInt ∧ ((-1) : Int32).toInt ≤ (-1) by decide)) (iv_w (a := 0) (b := 8) (by decide) (by decide) (show (0 : Int) ≤ (0 : Int32).toInt ∧ (0 : Int32).toInt ≤ 0 by decide)) f_o0_0 f_o0_5 f_o0_95 x_0 (show (-1) < 0 by omega) (show 0 ≤ (o0.1 10).toInt by omega) (show 62 + (8 - 0) * 2 < ((cfFU : Nat) : Int) by omega)
def QM_hasTwice (o0 : cf_O) (r : (Int32)) : Prop := ((0 : Int) ≤ r.toInt ∧ r.toInt ≤ 1) ∧ True
def HM_hasTwice (yo0 : cf_O) (n : Nat) : Prop := (∀ (v1 : Int32) (v2 : Int32) (o0 : cf_O), (okO I_M o0) → (Fr (fr_M [] [] []) yo0 o0) → ((0 : Int) ≤ v1.toInt ∧ v1.toInt ≤ 1) → ((1 : Int) ≤ v2.toInt ∧ v2.toInt ≤ 801) → ((0 : Int) ≤ (o0.1 0).toInt ∧ (o0.1 0).toInt ≤ 0) → ((0 : Int) ≤ (o0.1 5).toInt ∧ (o0.1 5).toInt ≤ 0) → ((1 : Int) ≤ (o0.1 7).toInt ∧ (o0.1 7).toInt ≤ 801) → ((0 : Int) ≤ (o0.1 95).toInt ∧ (o0.1 95).toInt ≤ 0) → 0 + (801 - v2.toInt) * 1602 < (n : Int) → tt (gM_hasTwice n 0 v1 v2 0 o0) (QM_hasTwice yo0)) ∧ (∀ (v1 : Int32) (v2 : Int32) (v3 : Int32) (o0 : cf_O), (okO I_M o0) → (Fr (fr_M [] [] []) yo0 o0) → ((0 : Int) ≤ v1.toInt ∧ v1.toInt ≤ 1) → ((1 : Int) ≤ v2.toInt ∧ v2.toInt ≤ 800) → ((1 : Int) ≤ v3.toInt ∧ v3.toInt ≤ 800) → ((0 : Int) ≤ (o0.1 0).toInt ∧ (o0.1 0).toInt ≤ 0) → ((0 : Int) ≤ (o0.1 5).toInt ∧ (o0.1 5).toInt ≤ 0) → ((2 : Int) ≤ (o0.1 7).toInt ∧ (o0.1 7).toInt ≤ 801) → ((0 : Int) ≤ (o0.1 95).toInt ∧ (o0.1 95).toInt ≤ 0) → 0 + (801 - v2.toInt - 1) * 1602 + 1 + (800 - v3.toInt) * 2 < (n : Int) → tt (gM_hasTwice n 1 v1 v2 v3 o0) (QM_hasTwice yo0))
set_option maxHeartbeats 4000000 in
set_option maxRecDepth 100000 in
theorem tM_hasTwice_14 {yo0 : cf_O} {n : Nat} (H : HM_hasTwice yo0 n) (v1 : Int32) (v2 : Int32) (v3 : Int32) (o0 : cf_O) (k_o0 : okO I_M o0) (r_o0 : Fr (fr_M [] [] []) yo0 o0) (i_v1 : (0 : Int) ≤ v1.toInt ∧ v1.toInt ≤ 1) (i_v2 : (1 : Int) ≤ v2.toInt ∧ v2.toInt ≤ 800) (i_v3 : (1 : Int) ≤ v3.toInt ∧ v3.toInt ≤ 800) (f_o0_0 : (0 : Int) ≤ (o0.1 0).toInt ∧ (o0.1 0).toInt ≤ 0) (f_o0_5 : (0 : Int) ≤ (o0.1 5).toInt ∧ (o0.1 5).toInt ≤ 0) (f_o0_7 : (2 : Int) ≤ (o0.1 7).toInt ∧ (o0.1 7).toInt ≤ 801) (f_o0_95 : (0 : Int) ≤ (o0.1 95).toInt ∧ (o0.1 95).toInt ≤ 0) (hm : 0 + (801 - v2.toInt - 1) * 1602 + 1 + (800 - v3.toInt) * 2 ≤ (n : Int)) : tt (fM_hasTwice_14 (gM_hasTwice n) v1 v2 v3 o0) (QM_hasTwice yo0) := by
  unfold fM_hasTwice_14
  refine tt_if (fun c1 => ?_) (fun c1 => ?_)
  · refine tt_kv (P := fun z => ((2 : Int) ≤ z.toInt ∧ z.toInt ≤ 801) ∧ z.toInt = v2.toInt + 1) ⟨iv_add i_v2 (show (1 : Int) ≤ (1 : Int32).toInt ∧ (1 : Int32).toInt ≤ 1 by decide) (by decide) (by decide) (by decide) (by decide), iq_add i_v2 (show (1 : Int) ≤ (1 : Int32).toInt ∧ (1 : Int32).toInt ≤ 1 by decide) (by decide) (by decide)⟩ (fun x2 qi3 => ?_)
    obtain ⟨i3, ei3⟩ := qi3
    exact H.1 _ _ _ k_o0 r_o0 i_v1 (iv_w (a := 1) (b := 801) (by decide) (by decide) i3) f_o0_0 f_o0_5 (iv_w (a := 1) (b := 801) (by decide) (by decide) f_o0_7) f_o0_95 (show 0 + (801 - x2.toInt) * 1602 < (n : Int) by omega)
  · have i4 : (1 : Int) ≤ v3.toInt ∧ v3.toInt ≤ 799 := nr_nlel c1 i_v3 i_v2 (by decide) (by decide)
    have i5 : (2 : Int) ≤ v2.toInt ∧ v2.toInt ≤ 800 := nr_nler c1 i_v3 i_v2 (by decide) (by decide)
    refine tt_if (fun c6 => ?_) (fun c6 => ?_)
    · have i7 : (0 : Int) ≤ v1.toInt ∧ v1.toInt ≤ 0 := nr_eql c6 i_v1 (show (0 : Int) ≤ (0 : Int32).toInt ∧ (0 : Int32).toInt ≤ 0 by decide) (by decide) (by decide)
      refine tt_n (ix_ok i5 (by decide) (by decide)) ?_
      refine tt_kv (P := fun z => (0 : Int) ≤ z.toInt ∧ z.toInt ≤ 1599) (k_o0.2 8 _) (fun x8 i9 => ?_)
      refine tt_n (ix_ok i5 (by decide) (by decide)) ?_
      refine tt_kv (P := fun z => (0 : Int) ≤ z.toInt ∧ z.toInt ≤ 1600) (k_o0.2 9 _) (fun x10 i11 => ?_)
      refine tt_n (ix_ok i4 (by decide) (by decide)) ?_
      refine tt_kv (P := fun z => (0 : Int) ≤ z.toInt ∧ z.toInt ≤ 1599) (k_o0.2 8 _) (fun x12 i13 => ?_)
      refine tt_n (ix_ok i4 (by decide) (by decide)) ?_
      refine tt_kv (P := fun z => (0 : Int) ≤ z.toInt ∧ z.toInt ≤ 1600) (k_o0.2 9 _) (fun x14 i15 => ?_)
      refine tt_b (sM_alike _ _ _ _ _ k_o0 i9 i11 i13 i15 f_o0_0 f_o0_5 f_o0_95) (fun q16 hq16 => ?_)
      obtain ⟨i_q16, -⟩ := hq16
      refine tt_if (fun c17 => ?_) (fun c17 => ?_)
      · have i18 : (0 : Int) ≤ q16.toInt ∧ q16.toInt ≤ 0 := nr_eql c17 i_q16 (show (0 : Int) ≤ (0 : Int32).toInt ∧ (0 : Int32).toInt ≤ 0 by decide) (by decide) (by decide)
        try unfold fM_hasTwice_59
        refine tt_kv (P := fun z => ((2 : Int) ≤ z.toInt ∧ z.toInt ≤ 800) ∧ z.toInt = v3.toInt + 1) ⟨iv_add i4 (show (1 : Int) ≤ (1 : Int32).toInt ∧ (1 : Int32).toInt ≤ 1 by decide) (by decide) (by decide) (by decide) (by decide), iq_add i4 (show (1 : Int) ≤ (1 : Int32).toInt ∧ (1 : Int32).toInt ≤ 1 by decide) (by decide) (by decide)⟩ (fun x19 qi20 => ?_)
        obtain ⟨i20, ei20⟩ := qi20
        exact H.2 _ _ _ _ k_o0 r_o0 (iv_w (a := 0) (b := 1) (by decide) (by decide) (show (0 : Int) ≤ (0 : Int32).toInt ∧ (0 : Int32).toInt ≤ 0 by decide)) (iv_w (a := 1) (b := 800) (by decide) (by decide) i5) (iv_w (a := 1) (b := 800) (by decide) (by decide) i20) f_o0_0 f_o0_5 f_o0_7 f_o0_95 (show 0 + (801 - v2.toInt - 1) * 1602 + 1 + (800 - x19.toInt) * 2 < (n : Int) by omega)
      · have i21 : (1 : Int) ≤ q16.toInt ∧ q16.toInt ≤ 1 := nr_nela c17 i_q16 (show (0 : Int) ≤ (0 : Int32).toInt ∧ (0 : Int32).toInt ≤ 0 by decide) (by decide) (by decide)
        try unfold fM_hasTwice_54
        try unfold fM_hasTwice_59
        refine tt_kv (P := fun z => ((2 : Int) ≤ z.toInt ∧ z.toInt ≤ 800) ∧ z.toInt = v3.toInt + 1) ⟨iv_add i4 (show (1 : Int) ≤ (1 : Int32).toInt ∧ (1 : Int32).toInt ≤ 1 by decide) (by decide) (by decide) (by decide) (by decide), iq_add i4 (show (1 : Int) ≤ (1 : Int32).toInt ∧ (1 : Int32).toInt ≤ 1 by decide) (by decide) (by decide)⟩ (fun x22 qi23 => ?_)
        obtain ⟨i23, ei23⟩ := qi23
        exact H.2 _ _ _ _ k_o0 r_o0 (iv_w (a := 0) (b := 1) (by decide) (by decide) (show (1 : Int) ≤ (1 : Int32).toInt ∧ (1 : Int32).toInt ≤ 1 by decide)) (iv_w (a := 1) (b := 800) (by decide) (by decide) i5) (iv_w (a := 1) (b := 800) (by decide) (by decide) i23) f_o0_0 f_o0_5 f_o0_7 f_o0_95 (show 0 + (801 - v2.toInt - 1) * 1602 + 1 + (800 - x22.toInt) * 2 < (n : Int) by omega)
    · have i24 : (1 : Int) ≤ v1.toInt ∧ v1.toInt ≤ 1 := nr_nela c6 i_v1 (show (0 : Int) ≤ (0 : Int32).toInt ∧ (0 : Int32).toInt ≤ 0 by decide) (by decide) (by decide)
      try unfold fM_hasTwice_54
      try unfold fM_hasTwice_59
      refine tt_kv (P := fun z => ((2 : Int) ≤ z.toInt ∧ z.toInt ≤ 800) ∧ z.toInt = v3.toInt + 1) ⟨iv_add i4 (show (1 : Int) ≤ (1 : Int32).toInt ∧ (1 : Int32).toInt ≤ 1 by decide) (by decide) (by decide) (by decide) (by decide), iq_add i4 (show (1 : Int) ≤ (1 : Int32).toInt ∧ (1 : Int32).toInt ≤ 1 by decide) (by decide) (by decide)⟩ (fun x25 qi26 => ?_)
      obtain ⟨i26, ei26⟩ := qi26
      exact H.2 _ _ _ _ k_o0 r_o0 (iv_w (a := 0) (b := 1) (by decide) (by decide) (show (1 : Int) ≤ (1 : Int32).toInt ∧ (1 : Int32).toInt ≤ 1 by decide)) (iv_w (a := 1) (b := 800) (by decide) (by decide) i5) (iv_w (a := 1) (b := 800) (by decide) (by decide) i26) f_o0_0 f_o0_5 f_o0_7 f_o0_95 (show 0 + (801 - v2.toInt - 1) * 1602 + 1 + (800 - x25.toInt) * 2 < (n : Int) by omega)
set_option maxHeartbeats 4000000 in
set_option maxRecDepth 100000 in
theorem tM_hasTwice_4 {yo0 : cf_O} {n : Nat} (H : HM_hasTwice yo0 n) (v1 : Int32) (v2 : Int32) (o0 : cf_O) (k_o0 : okO I_M o0) (r_o0 : Fr (fr_M [] [] []) yo0 o0) (i_v1 : (0 : Int) ≤ v1.toInt ∧ v1.toInt ≤ 1) (i_v2 : (1 : Int) ≤ v2.toInt ∧ v2.toInt ≤ 801) (f_o0_0 : (0 : Int) ≤ (o0.1 0).toInt ∧ (o0.1 0).toInt ≤ 0) (f_o0_5 : (0 : Int) ≤ (o0.1 5).toInt ∧ (o0.1 5).toInt ≤ 0) (f_o0_7 : (1 : Int) ≤ (o0.1 7).toInt ∧ (o0.1 7).toInt ≤ 801) (f_o0_95 : (0 : Int) ≤ (o0.1 95).toInt ∧ (o0.1 95).toInt ≤ 0) (hm : 0 + (801 - v2.toInt) * 1602 ≤ (n : Int)) : tt (fM_hasTwice_4 (gM_hasTwice n) v1 v2 o0) (QM_hasTwice yo0) := by
  unfold fM_hasTwice_4
  refine tt_if (fun c1 => ?_) (fun c1 => ?_)
  · refine tt_w (iv_b i_v1 (by decide) (by decide)) ?_
    exact tt_some ⟨i_v1, trivial⟩
  · have i2 : (1 : Int) ≤ v2.toInt ∧ v2.toInt ≤ 800 := nr_nlel c1 i_v2 f_o0_7 (by decide) (by decide)
    have i3 : (2 : Int) ≤ (o0.1 7).toInt ∧ (o0.1 7).toInt ≤ 801 := nr_nler c1 i_v2 f_o0_7 (by decide) (by decide)
    exact H.2 _ _ _ _ k_o0 r_o0 i_v1 i2 (iv_w (a := 1) (b := 800) (by decide) (by decide) (show (1 : Int) ≤ (1 : Int32).toInt ∧ (1 : Int32).toInt ≤ 1 by decide)) f_o0_0 f_o0_5 i3 f_o0_95 (show 0 + (801 - v2.toInt - 1) * 1602 + 1 + (800 - 1) * 2 < (n : Int) by omega)
set_option maxHeartbeats 4000000 in
set_option maxRecDepth 100000 in
theorem hM_hasTwice (yo0 : cf_O) : ∀ n, HM_hasTwice yo0 n := by
  intro n
  induction n with
  | zero => exact ⟨(fun v1 v2 o0 k_o0 r_o0 i_v1 i_v2 f_o0_0 f_o0_5 f_o0_7 f_o0_95 hm => by exact absurd (show 0 + (801 - v2.toInt) * 1602 < (0 : Int) from hm) (by omega)), (fun v1 v2 v3 o0 k_o0 r_o0 i_v1 i_v2 i_v3 f_o0_0 f_o0_5 f_o0_7 f_o0_95 hm => by exact absurd (show 0 + (801 - v2.toInt - 1) * 1602 + 1 + (800 - v3.toInt) * 2 < (0 : Int) from hm) (by omega))⟩
  | succ n ih => exact ⟨(fun v1 v2 o0 k_o0 r_o0 i_v1 i_v2 f_o0_0 f_o0_5 f_o0_7 f_o0_95 hm => tM_hasTwice_4 ih v1 v2 o0 k_o0 r_o0 i_v1 i_v2 f_o0_0 f_o0_5 f_o0_7 f_o0_95 (by omega)), (fun v1 v2 v3 o0 k_o0 r_o0 i_v1 i_v2 i_v3 f_o0_0 f_o0_5 f_o0_7 f_o0_95 hm => tM_hasTwice_14 ih v1 v2 v3 o0 k_o0 r_o0 i_v1 i_v2 i_v3 f_o0_0 f_o0_5 f_o0_7 f_o0_95 (by omega))⟩
set_option maxHeartbeats 4000000 in
set_option maxRecDepth 100000 in
theorem sM_hasTwice (o0 : cf_O) (k_o0 : okO I_M o0) (f_o0_0 : (0 : Int) ≤ (o0.1 0).toInt ∧ (o0.1 0).toInt ≤ 0) (f_o0_5 : (0 : Int) ≤ (o0.1 5).toInt ∧ (o0.1 5).toInt ≤ 0) (f_o0_7 : (1 : Int) ≤ (o0.1 7).toInt ∧ (o0.1 7).toInt ≤ 801) (f_o0_95 : (0 : Int) ≤ (o0.1 95).toInt ∧ (o0.1 95).toInt ≤ 0) : tt (fM_hasTwice o0) (QM_hasTwice o0) := by
  have H := hM_hasTwice o0 cfFU
  have hm : (1281603 : Int) ≤ (cfFU : Nat) := by decide
  have r_o0 : Fr (fr_M [] [] []) o0 o0 := fr_rfl
  unfold fM_hasTwice fM_hasTwice_0
  exact H.1 _ _ _ k_o0 r_o0 (iv_w (a := 0) (b := 1) (by decide) (by decide) (show (0 : Int) ≤ (0 : Int32).toInt ∧ (0 : Int32).toInt ≤ 0 by decide)) (iv_w (a := 1) (b := 801) (by decide) (by decide) (show (1 : Int) ≤ (1 : Int32).toInt ∧ (1 : Int32).toInt ≤ 1 by decide)) f_o0_0 f_o0_5 f_o0_7 f_o0_95 (show 0 + (801 - 1) * 1602 < ((cfFU : Nat) : Int) by omega)
def QM_inputLine (v1 : Int32) (o0 : cf_O) (r : (cf_O)) : Prop := (okO I_M r) ∧ (Fr (fr_M [5, 6, 10] [11, 12] []) o0 r) ∧ ((0 : Int) ≤ (r.1 5).toInt ∧ (r.1 5).toInt ≤ 2) ∧ True
def HM_inputLine (yv1 : Int32) (yo0 : cf_O) (n : Nat) : Prop := (∀ (v2 : Int32) (o0 : cf_O), (okO I_M o0) → (Fr (fr_M [5, 6, 10] [11, 12] []) yo0 o0) → ((0 : Int) ≤ v2.toInt ∧ v2.toInt ≤ 8) → ((0 : Int) ≤ (o0.1 0).toInt ∧ (o0.1 0).toInt ≤ 0) → ((0 : Int) ≤ (o0.1 5).toInt ∧ (o0.1 5).toInt ≤ 0) → ((1 : Int) ≤ (o0.1 7).toInt ∧ (o0.1 7).toInt ≤ 9) → ((0 : Int) ≤ (o0.1 95).toInt ∧ (o0.1 95).toInt ≤ 0) → 0 + (8 - v2.toInt) * 2 < (n : Int) → tt (gM_inputLine n 0 v2 o0) (QM_inputLine yv1 yo0))
set_option maxHeartbeats 4000000 in
set_option maxRecDepth 100000 in
theorem tM_inputLine_42 {yv1 : Int32} {yo0 : cf_O} {n : Nat} (H : HM_inputLine yv1 yo0 n) (v2 : Int32) (o0 : cf_O) (k_o0 : okO I_M o0) (r_o0 : Fr (fr_M [5, 6, 10] [11, 12] []) yo0 o0) (i_v2 : (0 : Int) ≤ v2.toInt ∧ v2.toInt ≤ 8) (f_o0_0 : (0 : Int) ≤ (o0.1 0).toInt ∧ (o0.1 0).toInt ≤ 0) (f_o0_5 : (0 : Int) ≤ (o0.1 5).toInt ∧ (o0.1 5).toInt ≤ 0) (f_o0_7 : (1 : Int) ≤ (o0.1 7).toInt ∧ (o0.1 7).toInt ≤ 9) (f_o0_95 : (0 : Int) ≤ (o0.1 95).toInt ∧ (o0.1 95).toInt ≤ 0) (hm : 0 + (8 - v2.toInt) * 2 ≤ (n : Int)) : tt (fM_inputLine_42 (gM_inputLine n) v2 o0) (QM_inputLine yv1 yo0) := by
  unfold fM_inputLine_42
  have ey_o0_7 : (o0.1 7).toInt = (yo0.1 7).toInt := congrArg Int32.toInt (r_o0.1 7 rfl)
  refine tt_if (fun c1 => ?_) (fun c1 => ?_)
  · have wc1 : (o0.1 10).toInt ≤ v2.toInt := c_le c1
    exact tt_some ⟨k_o0, r_o0, (iv_w (a := 0) (b := 2) (by decide) (by decide) f_o0_5), trivial⟩
  · have wc1 : v2.toInt < (o0.1 10).toInt := c_nle c1
    have i2 : (0 : Int) ≤ v2.toInt ∧ v2.toInt ≤ 7 := nr_nlel c1 i_v2 (k_o0.1 10) (by decide) (by decide)
    have i3 : (1 : Int) ≤ (o0.1 10).toInt ∧ (o0.1 10).toInt ≤ 8 := nr_nler c1 i_v2 (k_o0.1 10) (by decide) (by decide)
    refine tt_kv (P := fun z => ((1 : Int) ≤ z.toInt ∧ z.toInt ≤ 8) ∧ z.toInt = v2.toInt + 1) ⟨iv_add i2 (show (1 : Int) ≤ (1 : Int32).toInt ∧ (1 : Int32).toInt ≤ 1 by decide) (by decide) (by decide) (by decide) (by decide), iq_add i2 (show (1 : Int) ≤ (1 : Int32).toInt ∧ (1 : Int32).toInt ≤ 1 by decide) (by decide) (by decide)⟩ (fun x4 qi5 => ?_)
    obtain ⟨i5, ei5⟩ := qi5
    refine tt_n (ix_ok i5 (by decide) (by decide)) ?_
    refine tt_kv (P := fun z => ((0 : Int) ≤ z.toInt ∧ z.toInt ≤ 1599) ∧ z.toInt = (o0.2.1 8 x4.toNatClampNeg).toInt) ⟨(k_o0.2 8 _), rfl⟩ (fun x6 qi7 => ?_)
    obtain ⟨i7, ei7⟩ := qi7
    refine tt_n (ix_ok i2 (by decide) (by decide)) ?_
    refine tt_ko ?_
    have k8 := ok_xp (k := 11) (i := v2.toNatClampNeg) (v := x6) k_o0 i7
    have r9 := fr_xp (k := 11) (i := v2.toNatClampNeg) (v := x6) r_o0 rfl
    refine tt_kv (P := fun z => ((1 : Int) ≤ z.toInt ∧ z.toInt ≤ 8) ∧ z.toInt = v2.toInt + 1) ⟨iv_add i2 (show (1 : Int) ≤ (1 : Int32).toInt ∧ (1 : Int32).toInt ≤ 1 by decide) (by decide) (by decide) (by decide) (by decide), iq_add i2 (show (1 : Int) ≤ (1 : Int32).toInt ∧ (1 : Int32).toInt ≤ 1 by decide) (by decide) (by decide)⟩ (fun x10 qi11 => ?_)
    obtain ⟨i11, ei11⟩ := qi11
    refine tt_n (ix_ok i11 (by decide) (by decide)) ?_
    refine tt_kv (P := fun z => ((0 : Int) ≤ z.toInt ∧ z.toInt ≤ 1600) ∧ z.toInt = (o0.2.1 9 x10.toNatClampNeg).toInt) ⟨(k8.2 9 _), rfl⟩ (fun x12 qi13 => ?_)
    obtain ⟨i13, ei13⟩ := qi13
    refine tt_n (ix_ok i2 (by decide) (by decide)) ?_
    refine tt_ko ?_
    have k14 := ok_xp (k := 12) (i := v2.toNatClampNeg) (v := x12) k8 i13
    have r15 := fr_xp (k := 12) (i := v2.toNatClampNeg) (v := x12) r9 rfl
    refine tt_kv (P := fun z => ((1 : Int) ≤ z.toInt ∧ z.toInt ≤ 8) ∧ z.toInt = v2.toInt + 1) ⟨iv_add i2 (show (1 : Int) ≤ (1 : Int32).toInt ∧ (1 : Int32).toInt ≤ 1 by decide) (by decide) (by decide) (by decide) (by decide), iq_add i2 (show (1 : Int) ≤ (1 : Int32).toInt ∧ (1 : Int32).toInt ≤ 1 by decide) (by decide) (by decide)⟩ (fun x16 qi17 => ?_)
    obtain ⟨i17, ei17⟩ := qi17
    exact H _ _ k14 r15 (iv_w (a := 0) (b := 8) (by decide) (by decide) i17) f_o0_0 f_o0_5 f_o0_7 f_o0_95 (show 0 + (8 - x16.toInt) * 2 < (n : Int) by omega)
set_option maxHeartbeats 4000000 in
set_option maxRecDepth 100000 in
theorem hM_inputLine (yv1 : Int32) (yo0 : cf_O) : ∀ n, HM_inputLine yv1 yo0 n := by
  intro n
  induction n with
  | zero => exact (fun v2 o0 k_o0 r_o0 i_v2 f_o0_0 f_o0_5 f_o0_7 f_o0_95 hm => by exact absurd (show 0 + (8 - v2.toInt) * 2 < (0 : Int) from hm) (by omega))
  | succ n ih => exact (fun v2 o0 k_o0 r_o0 i_v2 f_o0_0 f_o0_5 f_o0_7 f_o0_95 hm => tM_inputLine_42 ih v2 o0 k_o0 r_o0 i_v2 f_o0_0 f_o0_5 f_o0_7 f_o0_95 (by omega))
set_option maxHeartbeats 4000000 in
set_option maxRecDepth 100000 in
theorem sM_inputLine (v1 : Int32) (o0 : cf_O) (k_o0 : okO I_M o0) (f_o0_0 : (0 : Int) ≤ (o0.1 0).toInt ∧ (o0.1 0).toInt ≤ 0) (f_o0_5 : (0 : Int) ≤ (o0.1 5).toInt ∧ (o0.1 5).toInt ≤ 0) (f_o0_7 : (1 : Int) ≤ (o0.1 7).toInt ∧ (o0.1 7).toInt ≤ 801) (f_o0_95 : (0 : Int) ≤ (o0.1 95).toInt ∧ (o0.1 95).toInt ≤ 0) : tt (fM_inputLine v1 o0) (QM_inputLine v1 o0) := by
  have H := hM_inputLine v1 o0 cfFU
  have hm : (19 : Int) ≤ (cfFU : Nat) := by decide
  have r_o0 : Fr (fr_M [5, 6, 10] [11, 12] []) o0 o0 := fr_rfl
  unfold fM_inputLine fM_inputLine_0
  have i_v1 := iv_top v1
  refine tt_b (sM_areNames _ _ k_o0 (iv_w (a := 6) (b := 8) (by decide) (by decide) (show (8 : Int) ≤ (8 : Int32).toInt ∧ (8 : Int32).toInt ≤ 8 by decide)) f_o0_0 f_o0_5 f_o0_7 f_o0_95) (fun q1 hq1 => ?_)
  obtain ⟨i_q1, zq1_0, -⟩ := hq1
  have zq1_0 : q1.toInt = 0 ∨ (2 ≤ (o0.1 7).toInt ∧ (o0.1 7).toInt ≤ 8 + 1) := zq1_0
  refine tt_if (fun c2 => ?_) (fun c2 => ?_)
  · have wc2 : q1.toInt = (0 : Int) := c_eq c2
    have i3 : (0 : Int) ≤ q1.toInt ∧ q1.toInt ≤ 0 := nr_eql c2 i_q1 (show (0 : Int) ≤ (0 : Int32).toInt ∧ (0 : Int32).toInt ≤ 0 by decide) (by decide) (by decide)
    try unfold fM_fail
    try unfold fM_fail_0
    refine tt_bif (fun c4 => ?_) (fun c4 => ?_)
    · have wc4 : (o0.1 5).toInt = (0 : Int) := c_eq c4
      refine tt_bko ?_
      have k5 := ok_fp (k := 5) (v := 1) k_o0 (iv_w (a := 0) (b := 4) (by decide) (by decide) (show (1 : Int) ≤ (1 : Int32).toInt ∧ (1 : Int32).toInt ≤ 1 by decide))
      have r6 := fr_fp (k := 5) (v := 1) r_o0 rfl
      refine tt_bko ?_
      have k7 := ok_fp (k := 6) (v := v1) k5 (iv_top v1)
      have r8 := fr_fp (k := 6) (v := v1) r6 rfl
      try unfold fM_fail_17
      refine tt_bs ?_
      exact tt_some ⟨k7, r8, (iv_w (a := 0) (b := 2) (by decide) (by decide) (show (1 : Int) ≤ (1 : Int32).toInt ∧ (1 : Int32).toInt ≤ 1 by decide)), trivial⟩
    · have wc4 : ¬ (o0.1 5).toInt = (0 : Int) := c_ne c4
      exact (dd_ne c4 f_o0_5 (show (0 : Int) ≤ (0 : Int32).toInt ∧ (0 : Int32).toInt ≤ 0 by decide)).elim
  · have wc2 : ¬ q1.toInt = (0 : Int) := c_ne c2
    have i9 : (1 : Int) ≤ q1.toInt ∧ q1.toInt ≤ 1 := nr_nela c2 i_q1 (show (0 : Int) ≤ (0 : Int32).toInt ∧ (0 : Int32).toInt ≤ 0 by decide) (by decide) (by decide)
    refine tt_b (sM_hasTwice _ k_o0 f_o0_0 f_o0_5 f_o0_7 f_o0_95) (fun q10 hq10 => ?_)
    obtain ⟨i_q10, -⟩ := hq10
    refine tt_if (fun c11 => ?_) (fun c11 => ?_)
    · have wc11 : q10.toInt = (0 : Int) := c_eq c11
      have i12 : (0 : Int) ≤ q10.toInt ∧ q10.toInt ≤ 0 := nr_eql c11 i_q10 (show (0 : Int) ≤ (0 : Int32).toInt ∧ (0 : Int32).toInt ≤ 0 by decide) (by decide) (by decide)
      refine tt_kv (P := fun z => ((0 : Int) ≤ z.toInt ∧ z.toInt ≤ 800) ∧ z.toInt = (o0.1 7).toInt - 1) ⟨iv_sub f_o0_7 (show (1 : Int) ≤ (1 : Int32).toInt ∧ (1 : Int32).toInt ≤ 1 by decide) (by decide) (by decide) (by decide) (by decide), iq_sub f_o0_7 (show (1 : Int) ≤ (1 : Int32).toInt ∧ (1 : Int32).toInt ≤ 1 by decide) (by decide) (by decide)⟩ (fun x13 qi14 => ?_)
      obtain ⟨i14, ei14⟩ := qi14
      refine tt_ko ?_
      have k15 := ok_fp (k := 10) (v := x13) k_o0 (show (0 : Int) ≤ _ ∧ _ ≤ (8 : Int) by omega)
      have i16 : (0 : Int) ≤ x13.toInt ∧ x13.toInt ≤ 8 := (by omega)
      have i17 : (1 : Int) ≤ (o0.1 7).toInt ∧ (o0.1 7).toInt ≤ 9 := by omega
      have r18 := fr_fp (k := 10) (v := x13) r_o0 rfl
      exact H _ _ k15 r18 (iv_w (a := 0) (b := 8) (by decide) (by decide) (show (0 : Int) ≤ (0 : Int32).toInt ∧ (0 : Int32).toInt ≤ 0 by decide)) f_o0_0 f_o0_5 i17 f_o0_95 (show 0 + (8 - 0) * 2 < ((cfFU : Nat) : Int) by omega)
    · have wc11 : ¬ q10.toInt = (0 : Int) := c_ne c11
      have i19 : (1 : Int) ≤ q10.toInt ∧ q10.toInt ≤ 1 := nr_nela c11 i_q10 (show (0 : Int) ≤ (0 : Int32).toInt ∧ (0 : Int32).toInt ≤ 0 by decide) (by decide) (by decide)
      try unfold fM_fail
      try unfold fM_fail_0
      refine tt_bif (fun c20 => ?_) (fun c20 => ?_)
      · have wc20 : (o0.1 5).toInt = (0 : Int) := c_eq c20
        refine tt_bko ?_
        have k21 := ok_fp (k := 5) (v := 2) k_o0 (iv_w (a := 0) (b := 4) (by decide) (by decide) (show (2 : Int) ≤ (2 : Int32).toInt ∧ (2 : Int32).toInt ≤ 2 by decide))
        have r22 := fr_fp (k := 5) (v := 2) r_o0 rfl
        refine tt_bko ?_
        have k23 := ok_fp (k := 6) (v := v1) k21 (iv_top v1)
        have r24 := fr_fp (k := 6) (v := v1) r22 rfl
        try unfold fM_fail_17
        refine tt_bs ?_
        exact tt_some ⟨k23, r24, (iv_w (a := 0) (b := 2) (by decide) (by decide) (show (2 : Int) ≤ (2 : Int32).toInt ∧ (2 : Int32).toInt ≤ 2 by decide)), trivial⟩
      · have wc20 : ¬ (o0.1 5).toInt = (0 : Int) := c_ne c20
        exact (dd_ne c20 f_o0_5 (show (0 : Int) ≤ (0 : Int32).toInt ∧ (0 : Int32).toInt ≤ 0 by decide)).elim
def QM_outputsLine (v1 : Int32) (o0 : cf_O) (r : (cf_O)) : Prop := (okO I_M r) ∧ (Fr (fr_M [5, 6, 13, 16] [14, 15] []) o0 r) ∧ ((0 : Int) ≤ (r.1 5).toInt ∧ (r.1 5).toInt ≤ 2) ∧ True
def HM_outputsLine (yv1 : Int32) (yo0 : cf_O) (n : Nat) : Prop := (∀ (v2 : Int32) (o0 : cf_O), (okO I_M o0) → (Fr (fr_M [5, 6, 13, 16] [14, 15] []) yo0 o0) → ((0 : Int) ≤ v2.toInt ∧ v2.toInt ≤ 6) → ((0 : Int) ≤ (o0.1 0).toInt ∧ (o0.1 0).toInt ≤ 0) → ((0 : Int) ≤ (o0.1 5).toInt ∧ (o0.1 5).toInt ≤ 0) → ((1 : Int) ≤ (o0.1 7).toInt ∧ (o0.1 7).toInt ≤ 7) → ((0 : Int) ≤ (o0.1 95).toInt ∧ (o0.1 95).toInt ≤ 0) → 0 + (6 - v2.toInt) * 2 < (n : Int) → tt (gM_outputsLine n 0 v2 o0) (QM_outputsLine yv1 yo0))
set_option maxHeartbeats 4000000 in
set_option maxRecDepth 100000 in
theorem tM_outputsLine_47 {yv1 : Int32} {yo0 : cf_O} {n : Nat} (H : HM_outputsLine yv1 yo0 n) (v2 : Int32) (o0 : cf_O) (k_o0 : okO I_M o0) (r_o0 : Fr (fr_M [5, 6, 13, 16] [14, 15] []) yo0 o0) (i_v2 : (0 : Int) ≤ v2.toInt ∧ v2.toInt ≤ 6) (f_o0_0 : (0 : Int) ≤ (o0.1 0).toInt ∧ (o0.1 0).toInt ≤ 0) (f_o0_5 : (0 : Int) ≤ (o0.1 5).toInt ∧ (o0.1 5).toInt ≤ 0) (f_o0_7 : (1 : Int) ≤ (o0.1 7).toInt ∧ (o0.1 7).toInt ≤ 7) (f_o0_95 : (0 : Int) ≤ (o0.1 95).toInt ∧ (o0.1 95).toInt ≤ 0) (hm : 0 + (6 - v2.toInt) * 2 ≤ (n : Int)) : tt (fM_outputsLine_47 (gM_outputsLine n) v2 o0) (QM_outputsLine yv1 yo0) := by
  unfold fM_outputsLine_47
  have ey_o0_7 : (o0.1 7).toInt = (yo0.1 7).toInt := congrArg Int32.toInt (r_o0.1 7 rfl)
  refine tt_if (fun c1 => ?_) (fun c1 => ?_)
  · have wc1 : (o0.1 13).toInt ≤ v2.toInt := c_le c1
    exact tt_some ⟨k_o0, r_o0, (iv_w (a := 0) (b := 2) (by decide) (by decide) f_o0_5), trivial⟩
  · have wc1 : v2.toInt < (o0.1 13).toInt := c_nle c1
    have i2 : (0 : Int) ≤ v2.toInt ∧ v2.toInt ≤ 5 := nr_nlel c1 i_v2 (k_o0.1 13) (by decide) (by decide)
    have i3 : (1 : Int) ≤ (o0.1 13).toInt ∧ (o0.1 13).toInt ≤ 6 := nr_nler c1 i_v2 (k_o0.1 13) (by decide) (by decide)
    refine tt_kv (P := fun z => ((1 : Int) ≤ z.toInt ∧ z.toInt ≤ 6) ∧ z.toInt = v2.toInt + 1) ⟨iv_add i2 (show (1 : Int) ≤ (1 : Int32).toInt ∧ (1 : Int32).toInt ≤ 1 by decide) (by decide) (by decide) (by decide) (by decide), iq_add i2 (show (1 : Int) ≤ (1 : Int32).toInt ∧ (1 : Int32).toInt ≤ 1 by decide) (by decide) (by decide)⟩ (fun x4 qi5 => ?_)
    obtain ⟨i5, ei5⟩ := qi5
    refine tt_n (ix_ok i5 (by decide) (by decide)) ?_
    refine tt_kv (P := fun z => ((0 : Int) ≤ z.toInt ∧ z.toInt ≤ 1599) ∧ z.toInt = (o0.2.1 8 x4.toNatClampNeg).toInt) ⟨(k_o0.2 8 _), rfl⟩ (fun x6 qi7 => ?_)
    obtain ⟨i7, ei7⟩ := qi7
    refine tt_n (ix_ok i2 (by decide) (by decide)) ?_
    refine tt_ko ?_
    have k8 := ok_xp (k := 14) (i := v2.toNatClampNeg) (v := x6) k_o0 i7
    have r9 := fr_xp (k := 14) (i := v2.toNatClampNeg) (v := x6) r_o0 rfl
    refine tt_kv (P := fun z => ((1 : Int) ≤ z.toInt ∧ z.toInt ≤ 6) ∧ z.toInt = v2.toInt + 1) ⟨iv_add i2 (show (1 : Int) ≤ (1 : Int32).toInt ∧ (1 : Int32).toInt ≤ 1 by decide) (by decide) (by decide) (by decide) (by decide), iq_add i2 (show (1 : Int) ≤ (1 : Int32).toInt ∧ (1 : Int32).toInt ≤ 1 by decide) (by decide) (by decide)⟩ (fun x10 qi11 => ?_)
    obtain ⟨i11, ei11⟩ := qi11
    refine tt_n (ix_ok i11 (by decide) (by decide)) ?_
    refine tt_kv (P := fun z => ((0 : Int) ≤ z.toInt ∧ z.toInt ≤ 1600) ∧ z.toInt = (o0.2.1 9 x10.toNatClampNeg).toInt) ⟨(k8.2 9 _), rfl⟩ (fun x12 qi13 => ?_)
    obtain ⟨i13, ei13⟩ := qi13
    refine tt_n (ix_ok i2 (by decide) (by decide)) ?_
    refine tt_ko ?_
    have k14 := ok_xp (k := 15) (i := v2.toNatClampNeg) (v := x12) k8 i13
    have r15 := fr_xp (k := 15) (i := v2.toNatClampNeg) (v := x12) r9 rfl
    refine tt_kv (P := fun z => ((1 : Int) ≤ z.toInt ∧ z.toInt ≤ 6) ∧ z.toInt = v2.toInt + 1) ⟨iv_add i2 (show (1 : Int) ≤ (1 : Int32).toInt ∧ (1 : Int32).toInt ≤ 1 by decide) (by decide) (by decide) (by decide) (by decide), iq_add i2 (show (1 : Int) ≤ (1 : Int32).toInt ∧ (1 : Int32).toInt ≤ 1 by decide) (by decide) (by decide)⟩ (fun x16 qi17 => ?_)
    obtain ⟨i17, ei17⟩ := qi17
    exact H _ _ k14 r15 (iv_w (a := 0) (b := 6) (by decide) (by decide) i17) f_o0_0 f_o0_5 f_o0_7 f_o0_95 (show 0 + (6 - x16.toInt) * 2 < (n : Int) by omega)
set_option maxHeartbeats 4000000 in
set_option maxRecDepth 100000 in
theorem hM_outputsLine (yv1 : Int32) (yo0 : cf_O) : ∀ n, HM_outputsLine yv1 yo0 n := by
  intro n
  induction n with
  | zero => exact (fun v2 o0 k_o0 r_o0 i_v2 f_o0_0 f_o0_5 f_o0_7 f_o0_95 hm => by exact absurd (show 0 + (6 - v2.toInt) * 2 < (0 : Int) from hm) (by omega))
  | succ n ih => exact (fun v2 o0 k_o0 r_o0 i_v2 f_o0_0 f_o0_5 f_o0_7 f_o0_95 hm => tM_outputsLine_47 ih v2 o0 k_o0 r_o0 i_v2 f_o0_0 f_o0_5 f_o0_7 f_o0_95 (by omega))
set_option maxHeartbeats 4000000 in
set_option maxRecDepth 100000 in
theorem sM_outputsLine (v1 : Int32) (o0 : cf_O) (k_o0 : okO I_M o0) (f_o0_0 : (0 : Int) ≤ (o0.1 0).toInt ∧ (o0.1 0).toInt ≤ 0) (f_o0_5 : (0 : Int) ≤ (o0.1 5).toInt ∧ (o0.1 5).toInt ≤ 0) (f_o0_7 : (1 : Int) ≤ (o0.1 7).toInt ∧ (o0.1 7).toInt ≤ 801) (f_o0_95 : (0 : Int) ≤ (o0.1 95).toInt ∧ (o0.1 95).toInt ≤ 0) : tt (fM_outputsLine v1 o0) (QM_outputsLine v1 o0) := by
  have H := hM_outputsLine v1 o0 cfFU
  have hm : (15 : Int) ≤ (cfFU : Nat) := by decide
  have r_o0 : Fr (fr_M [5, 6, 13, 16] [14, 15] []) o0 o0 := fr_rfl
  unfold fM_outputsLine fM_outputsLine_0
  have i_v1 := iv_top v1
  refine tt_b (sM_areNames _ _ k_o0 (iv_w (a := 6) (b := 8) (by decide) (by decide) (show (6 : Int) ≤ (6 : Int32).toInt ∧ (6 : Int32).toInt ≤ 6 by decide)) f_o0_0 f_o0_5 f_o0_7 f_o0_95) (fun q1 hq1 => ?_)
  obtain ⟨i_q1, zq1_0, -⟩ := hq1
  have zq1_0 : q1.toInt = 0 ∨ (2 ≤ (o0.1 7).toInt ∧ (o0.1 7).toInt ≤ 6 + 1) := zq1_0
  refine tt_if (fun c2 => ?_) (fun c2 => ?_)
  · have wc2 : q1.toInt = (0 : Int) := c_eq c2
    have i3 : (0 : Int) ≤ q1.toInt ∧ q1.toInt ≤ 0 := nr_eql c2 i_q1 (show (0 : Int) ≤ (0 : Int32).toInt ∧ (0 : Int32).toInt ≤ 0 by decide) (by decide) (by decide)
    try unfold fM_fail
    try unfold fM_fail_0
    refine tt_bif (fun c4 => ?_) (fun c4 => ?_)
    · have wc4 : (o0.1 5).toInt = (0 : Int) := c_eq c4
      refine tt_bko ?_
      have k5 := ok_fp (k := 5) (v := 1) k_o0 (iv_w (a := 0) (b := 4) (by decide) (by decide) (show (1 : Int) ≤ (1 : Int32).toInt ∧ (1 : Int32).toInt ≤ 1 by decide))
      have r6 := fr_fp (k := 5) (v := 1) r_o0 rfl
      refine tt_bko ?_
      have k7 := ok_fp (k := 6) (v := v1) k5 (iv_top v1)
      have r8 := fr_fp (k := 6) (v := v1) r6 rfl
      try unfold fM_fail_17
      refine tt_bs ?_
      exact tt_some ⟨k7, r8, (iv_w (a := 0) (b := 2) (by decide) (by decide) (show (1 : Int) ≤ (1 : Int32).toInt ∧ (1 : Int32).toInt ≤ 1 by decide)), trivial⟩
    · have wc4 : ¬ (o0.1 5).toInt = (0 : Int) := c_ne c4
      exact (dd_ne c4 f_o0_5 (show (0 : Int) ≤ (0 : Int32).toInt ∧ (0 : Int32).toInt ≤ 0 by decide)).elim
  · have wc2 : ¬ q1.toInt = (0 : Int) := c_ne c2
    have i9 : (1 : Int) ≤ q1.toInt ∧ q1.toInt ≤ 1 := nr_nela c2 i_q1 (show (0 : Int) ≤ (0 : Int32).toInt ∧ (0 : Int32).toInt ≤ 0 by decide) (by decide) (by decide)
    refine tt_b (sM_hasTwice _ k_o0 f_o0_0 f_o0_5 f_o0_7 f_o0_95) (fun q10 hq10 => ?_)
    obtain ⟨i_q10, -⟩ := hq10
    refine tt_if (fun c11 => ?_) (fun c11 => ?_)
    · have wc11 : q10.toInt = (0 : Int) := c_eq c11
      have i12 : (0 : Int) ≤ q10.toInt ∧ q10.toInt ≤ 0 := nr_eql c11 i_q10 (show (0 : Int) ≤ (0 : Int32).toInt ∧ (0 : Int32).toInt ≤ 0 by decide) (by decide) (by decide)
      refine tt_ko ?_
      have k13 := ok_fp (k := 16) (v := v1) k_o0 (iv_top v1)
      have r14 := fr_fp (k := 16) (v := v1) r_o0 rfl
      refine tt_kv (P := fun z => ((0 : Int) ≤ z.toInt ∧ z.toInt ≤ 800) ∧ z.toInt = (o0.1 7).toInt - 1) ⟨iv_sub f_o0_7 (show (1 : Int) ≤ (1 : Int32).toInt ∧ (1 : Int32).toInt ≤ 1 by decide) (by decide) (by decide) (by decide) (by decide), iq_sub f_o0_7 (show (1 : Int) ≤ (1 : Int32).toInt ∧ (1 : Int32).toInt ≤ 1 by decide) (by decide) (by decide)⟩ (fun x15 qi16 => ?_)
      obtain ⟨i16, ei16⟩ := qi16
      refine tt_ko ?_
      have k17 := ok_fp (k := 13) (v := x15) k13 (show (0 : Int) ≤ _ ∧ _ ≤ (6 : Int) by omega)
      have i18 : (0 : Int) ≤ x15.toInt ∧ x15.toInt ≤ 6 := (by omega)
      have i19 : (1 : Int) ≤ (o0.1 7).toInt ∧ (o0.1 7).toInt ≤ 7 := by omega
      have r20 := fr_fp (k := 13) (v := x15) r14 rfl
      exact H _ _ k17 r20 (iv_w (a := 0) (b := 6) (by decide) (by decide) (show (0 : Int) ≤ (0 : Int32).toInt ∧ (0 : Int32).toInt ≤ 0 by decide)) f_o0_0 f_o0_5 i19 f_o0_95 (show 0 + (6 - 0) * 2 < ((cfFU : Nat) : Int) by omega)
    · have wc11 : ¬ q10.toInt = (0 : Int) := c_ne c11
      have i21 : (1 : Int) ≤ q10.toInt ∧ q10.toInt ≤ 1 := nr_nela c11 i_q10 (show (0 : Int) ≤ (0 : Int32).toInt ∧ (0 : Int32).toInt ≤ 0 by decide) (by decide) (by decide)
      try unfold fM_fail
      try unfold fM_fail_0
      refine tt_bif (fun c22 => ?_) (fun c22 => ?_)
      · have wc22 : (o0.1 5).toInt = (0 : Int) := c_eq c22
        refine tt_bko ?_
        have k23 := ok_fp (k := 5) (v := 2) k_o0 (iv_w (a := 0) (b := 4) (by decide) (by decide) (show (2 : Int) ≤ (2 : Int32).toInt ∧ (2 : Int32).toInt ≤ 2 by decide))
        have r24 := fr_fp (k := 5) (v := 2) r_o0 rfl
        refine tt_bko ?_
        have k25 := ok_fp (k := 6) (v := v1) k23 (iv_top v1)
        have r26 := fr_fp (k := 6) (v := v1) r24 rfl
        try unfold fM_fail_17
        refine tt_bs ?_
        exact tt_some ⟨k25, r26, (iv_w (a := 0) (b := 2) (by decide) (by decide) (show (2 : Int) ≤ (2 : Int32).toInt ∧ (2 : Int32).toInt ≤ 2 by decide)), trivial⟩
      · have wc22 : ¬ (o0.1 5).toInt = (0 : Int) := c_ne c22
        exact (dd_ne c22 f_o0_5 (show (0 : Int) ≤ (0 : Int32).toInt ∧ (0 : Int32).toInt ≤ 0 by decide)).elim
def QM_tableLine (v1 : Int32) (o0 : cf_O) (r : (cf_O)) : Prop := (okO I_M r) ∧ (Fr (fr_M [5, 6, 17] [18, 19, 20, 21, 22] []) o0 r) ∧ ((0 : Int) ≤ (r.1 5).toInt ∧ (r.1 5).toInt ≤ 2) ∧ (Tn (r.1 17) (r.2.1 19)) ∧ (Rf (r.2.1 22) (r.2.1 23) (r.2.1 19)) ∧ True
def HM_tableLine (yv1 : Int32) (yo0 : cf_O) (n : Nat) : Prop := (∀ (v2 : Int32) (v3 : Int32) (o0 : cf_O), (okO I_M o0) → (Fr (fr_M [5, 6, 17] [18, 19, 20, 21, 22] []) yo0 o0) → ((0 : Int) ≤ v2.toInt ∧ v2.toInt ≤ 29) → ((0 : Int) ≤ v3.toInt ∧ v3.toInt ≤ 800) → ((0 : Int) ≤ (o0.1 0).toInt ∧ (o0.1 0).toInt ≤ 0) → ((0 : Int) ≤ (o0.1 5).toInt ∧ (o0.1 5).toInt ≤ 0) → ((1 : Int) ≤ (o0.1 7).toInt ∧ (o0.1 7).toInt ≤ 801) → ((0 : Int) ≤ (o0.1 17).toInt ∧ (o0.1 17).toInt ≤ 29) → ((0 : Int) ≤ (o0.1 95).toInt ∧ (o0.1 95).toInt ≤ 0) → ((o0.1 7).toInt ≤ 7) → (v2.toInt = (o0.1 17).toInt) → (1 ≤ (o0.2.1 19 v2.toNatClampNeg).toInt) → (Tn (o0.1 17) (o0.2.1 19)) → (Rf (o0.2.1 22) (o0.2.1 23) (o0.2.1 19)) → 0 + (800 - v3.toInt) * 2 < (n : Int) → tt (gM_tableLine n 0 v2 v3 o0) (QM_tableLine yv1 yo0))
set_option maxHeartbeats 4000000 in
set_option maxRecDepth 100000 in
theorem tM_tableLine_94 {yv1 : Int32} {yo0 : cf_O} {n : Nat} (H : HM_tableLine yv1 yo0 n) (v2 : Int32) (v3 : Int32) (o0 : cf_O) (k_o0 : okO I_M o0) (r_o0 : Fr (fr_M [5, 6, 17] [18, 19, 20, 21, 22] []) yo0 o0) (i_v2 : (0 : Int) ≤ v2.toInt ∧ v2.toInt ≤ 29) (i_v3 : (0 : Int) ≤ v3.toInt ∧ v3.toInt ≤ 800) (f_o0_0 : (0 : Int) ≤ (o0.1 0).toInt ∧ (o0.1 0).toInt ≤ 0) (f_o0_5 : (0 : Int) ≤ (o0.1 5).toInt ∧ (o0.1 5).toInt ≤ 0) (f_o0_7 : (1 : Int) ≤ (o0.1 7).toInt ∧ (o0.1 7).toInt ≤ 801) (f_o0_17 : (0 : Int) ≤ (o0.1 17).toInt ∧ (o0.1 17).toInt ≤ 29) (f_o0_95 : (0 : Int) ≤ (o0.1 95).toInt ∧ (o0.1 95).toInt ≤ 0) (x_0 : (o0.1 7).toInt ≤ 7) (x_1 : v2.toInt = (o0.1 17).toInt) (x_2 : 1 ≤ (o0.2.1 19 v2.toNatClampNeg).toInt) (x_3 : Tn (o0.1 17) (o0.2.1 19)) (x_4 : Rf (o0.2.1 22) (o0.2.1 23) (o0.2.1 19)) (hm : 0 + (800 - v3.toInt) * 2 ≤ (n : Int)) : tt (fM_tableLine_94 (gM_tableLine n) v2 v3 o0) (QM_tableLine yv1 yo0) := by
  unfold fM_tableLine_94
  have ey_o0_7 : (o0.1 7).toInt = (yo0.1 7).toInt := congrArg Int32.toInt (r_o0.1 7 rfl)
  refine tt_kv (P := fun z => ((0 : Int) ≤ z.toInt ∧ z.toInt ≤ 800) ∧ z.toInt = (o0.1 7).toInt - 1) ⟨iv_sub f_o0_7 (show (1 : Int) ≤ (1 : Int32).toInt ∧ (1 : Int32).toInt ≤ 1 by decide) (by decide) (by decide) (by decide) (by decide), iq_sub f_o0_7 (show (1 : Int) ≤ (1 : Int32).toInt ∧ (1 : Int32).toInt ≤ 1 by decide) (by decide) (by decide)⟩ (fun x1 qi2 => ?_)
  obtain ⟨i2, ei2⟩ := qi2
  refine tt_if (fun c3 => ?_) (fun c3 => ?_)
  · have wc3 : x1.toInt ≤ v3.toInt := c_le c3
    refine tt_kv (P := fun z => ((1 : Int) ≤ z.toInt ∧ z.toInt ≤ 30) ∧ z.toInt = (o0.1 17).toInt + 1) ⟨iv_add f_o0_17 (show (1 : Int) ≤ (1 : Int32).toInt ∧ (1 : Int32).toInt ≤ 1 by decide) (by decide) (by decide) (by decide) (by decide), iq_add f_o0_17 (show (1 : Int) ≤ (1 : Int32).toInt ∧ (1 : Int32).toInt ≤ 1 by decide) (by decide) (by decide)⟩ (fun x4 qi5 => ?_)
    obtain ⟨i5, ei5⟩ := qi5
    refine tt_ko ?_
    have k6 := ok_fp (k := 17) (v := x4) k_o0 (iv_w (a := 0) (b := 30) (by decide) (by decide) i5)
    have r7 := fr_fp (k := 17) (v := x4) r_o0 rfl
    have p8 : Tn x4 (o0.2.1 19) := by exact Tn_s x_3 (by assumption) (by rw [show (o0.1 17) = v2 from (i_eq x_1).symm]; exact x_2)
    exact tt_some ⟨k6, r7, (iv_w (a := 0) (b := 2) (by decide) (by decide) f_o0_5), p8, x_4, trivial⟩
  · have wc3 : v3.toInt < x1.toInt := c_nle c3
    have i9 : (0 : Int) ≤ v3.toInt ∧ v3.toInt ≤ 799 := nr_nlel c3 i_v3 i2 (by decide) (by decide)
    have i10 : (1 : Int) ≤ x1.toInt ∧ x1.toInt ≤ 800 := nr_nler c3 i_v3 i2 (by decide) (by decide)
    have i11 : (2 : Int) ≤ (o0.1 7).toInt ∧ (o0.1 7).toInt ≤ 801 := by omega
    refine tt_kv (P := fun z => ((0 : Int) ≤ z.toInt ∧ z.toInt ≤ 174) ∧ z.toInt = 6 * v2.toInt) ⟨iv_mul (show (6 : Int) ≤ (6 : Int32).toInt ∧ (6 : Int32).toInt ≤ 6 by decide) i_v2 (by decide) (by decide) (by decide) (by decide) (by decide), iq_mul (show (6 : Int) ≤ (6 : Int32).toInt ∧ (6 : Int32).toInt ≤ 6 by decide) i_v2 (by decide) (by decide) (by decide) (by decide)⟩ (fun x12 qi13 => ?_)
    obtain ⟨i13, ei13⟩ := qi13
    refine tt_kv (P := fun z => ((0 : Int) ≤ z.toInt ∧ z.toInt ≤ 973) ∧ z.toInt = x12.toInt + v3.toInt) ⟨iv_add i13 i9 (by decide) (by decide) (by decide) (by decide), iq_add i13 i9 (by decide) (by decide)⟩ (fun x14 qi15 => ?_)
    obtain ⟨i15, ei15⟩ := qi15
    refine tt_kv (P := fun z => ((1 : Int) ≤ z.toInt ∧ z.toInt ≤ 800) ∧ z.toInt = v3.toInt + 1) ⟨iv_add i9 (show (1 : Int) ≤ (1 : Int32).toInt ∧ (1 : Int32).toInt ≤ 1 by decide) (by decide) (by decide) (by decide) (by decide), iq_add i9 (show (1 : Int) ≤ (1 : Int32).toInt ∧ (1 : Int32).toInt ≤ 1 by decide) (by decide) (by decide)⟩ (fun x16 qi17 => ?_)
    obtain ⟨i17, ei17⟩ := qi17
    refine tt_n (ix_ok i17 (by decide) (by decide)) ?_
    refine tt_kv (P := fun z => ((0 : Int) ≤ z.toInt ∧ z.toInt ≤ 1599) ∧ z.toInt = (o0.2.1 8 x16.toNatClampNeg).toInt) ⟨(k_o0.2 8 _), rfl⟩ (fun x18 qi19 => ?_)
    obtain ⟨i19, ei19⟩ := qi19
    refine tt_n (ix_rel (by omega) (by omega)) ?_
    have i20 : (0 : Int) ≤ x14.toInt ∧ x14.toInt ≤ 185 := (by omega)
    refine tt_ko ?_
    have k21 := ok_xp (k := 20) (i := x14.toNatClampNeg) (v := x18) k_o0 i19
    have r22 := fr_xp (k := 20) (i := x14.toNatClampNeg) (v := x18) r_o0 rfl
    refine tt_kv (P := fun z => ((0 : Int) ≤ z.toInt ∧ z.toInt ≤ 174) ∧ z.toInt = 6 * v2.toInt) ⟨iv_mul (show (6 : Int) ≤ (6 : Int32).toInt ∧ (6 : Int32).toInt ≤ 6 by decide) i_v2 (by decide) (by decide) (by decide) (by decide) (by decide), iq_mul (show (6 : Int) ≤ (6 : Int32).toInt ∧ (6 : Int32).toInt ≤ 6 by decide) i_v2 (by decide) (by decide) (by decide) (by decide)⟩ (fun x23 qi24 => ?_)
    obtain ⟨i24, ei24⟩ := qi24
    refine tt_kv (P := fun z => ((0 : Int) ≤ z.toInt ∧ z.toInt ≤ 973) ∧ z.toInt = x23.toInt + v3.toInt) ⟨iv_add i24 i9 (by decide) (by decide) (by decide) (by decide), iq_add i24 i9 (by decide) (by decide)⟩ (fun x25 qi26 => ?_)
    obtain ⟨i26, ei26⟩ := qi26
    refine tt_kv (P := fun z => ((1 : Int) ≤ z.toInt ∧ z.toInt ≤ 800) ∧ z.toInt = v3.toInt + 1) ⟨iv_add i9 (show (1 : Int) ≤ (1 : Int32).toInt ∧ (1 : Int32).toInt ≤ 1 by decide) (by decide) (by decide) (by decide) (by decide), iq_add i9 (show (1 : Int) ≤ (1 : Int32).toInt ∧ (1 : Int32).toInt ≤ 1 by decide) (by decide) (by decide)⟩ (fun x27 qi28 => ?_)
    obtain ⟨i28, ei28⟩ := qi28
    refine tt_n (ix_ok i28 (by decide) (by decide)) ?_
    refine tt_kv (P := fun z => ((0 : Int) ≤ z.toInt ∧ z.toInt ≤ 1600) ∧ z.toInt = (o0.2.1 9 x27.toNatClampNeg).toInt) ⟨(k21.2 9 _), rfl⟩ (fun x29 qi30 => ?_)
    obtain ⟨i30, ei30⟩ := qi30
    refine tt_n (ix_rel (by omega) (by omega)) ?_
    have i31 : (0 : Int) ≤ x25.toInt ∧ x25.toInt ≤ 185 := (by omega)
    refine tt_ko ?_
    have k32 := ok_xp (k := 21) (i := x25.toNatClampNeg) (v := x29) k21 i30
    have r33 := fr_xp (k := 21) (i := x25.toNatClampNeg) (v := x29) r22 rfl
    refine tt_kv (P := fun z => ((1 : Int) ≤ z.toInt ∧ z.toInt ≤ 800) ∧ z.toInt = v3.toInt + 1) ⟨iv_add i9 (show (1 : Int) ≤ (1 : Int32).toInt ∧ (1 : Int32).toInt ≤ 1 by decide) (by decide) (by decide) (by decide) (by decide), iq_add i9 (show (1 : Int) ≤ (1 : Int32).toInt ∧ (1 : Int32).toInt ≤ 1 by decide) (by decide) (by decide)⟩ (fun x34 qi35 => ?_)
    obtain ⟨i35, ei35⟩ := qi35
    have t36 : (0 : Int) ≤ (o0.2.1 19 v2.toNatClampNeg).toInt ∧ (o0.2.1 19 v2.toNatClampNeg).toInt ≤ 6 := k32.2 19 _
    exact H _ _ _ k32 r33 i_v2 (iv_w (a := 0) (b := 800) (by decide) (by decide) i35) f_o0_0 f_o0_5 (iv_w (a := 1) (b := 801) (by decide) (by decide) i11) f_o0_17 f_o0_95 (show (o0.1 7).toInt ≤ 7 by omega) (show v2.toInt = (o0.1 17).toInt by omega) (show 1 ≤ (o0.2.1 19 v2.toNatClampNeg).toInt by first | exact x_2 | (rw [up_s]; omega)) x_3 x_4 (show 0 + (800 - x34.toInt) * 2 < (n : Int) by omega)
set_option maxHeartbeats 4000000 in
set_option maxRecDepth 100000 in
theorem hM_tableLine (yv1 : Int32) (yo0 : cf_O) : ∀ n, HM_tableLine yv1 yo0 n := by
  intro n
  induction n with
  | zero => exact (fun v2 v3 o0 k_o0 r_o0 i_v2 i_v3 f_o0_0 f_o0_5 f_o0_7 f_o0_17 f_o0_95 x_0 x_1 x_2 x_3 x_4 hm => by exact absurd (show 0 + (800 - v3.toInt) * 2 < (0 : Int) from hm) (by omega))
  | succ n ih => exact (fun v2 v3 o0 k_o0 r_o0 i_v2 i_v3 f_o0_0 f_o0_5 f_o0_7 f_o0_17 f_o0_95 x_0 x_1 x_2 x_3 x_4 hm => tM_tableLine_94 ih v2 v3 o0 k_o0 r_o0 i_v2 i_v3 f_o0_0 f_o0_5 f_o0_7 f_o0_17 f_o0_95 x_0 x_1 x_2 x_3 x_4 (by omega))
set_option maxHeartbeats 4000000 in
set_option maxRecDepth 100000 in
theorem sM_tableLine (v1 : Int32) (o0 : cf_O) (k_o0 : okO I_M o0) (f_o0_0 : (0 : Int) ≤ (o0.1 0).toInt ∧ (o0.1 0).toInt ≤ 0) (f_o0_5 : (0 : Int) ≤ (o0.1 5).toInt ∧ (o0.1 5).toInt ≤ 0) (f_o0_7 : (1 : Int) ≤ (o0.1 7).toInt ∧ (o0.1 7).toInt ≤ 801) (f_o0_95 : (0 : Int) ≤ (o0.1 95).toInt ∧ (o0.1 95).toInt ≤ 0) (x_0 : Tn (o0.1 17) (o0.2.1 19)) (x_1 : Rf (o0.2.1 22) (o0.2.1 23) (o0.2.1 19)) : tt (fM_tableLine v1 o0) (QM_tableLine v1 o0) := by
  have H := hM_tableLine v1 o0 cfFU
  have hm : (1603 : Int) ≤ (cfFU : Nat) := by decide
  have r_o0 : Fr (fr_M [5, 6, 17] [18, 19, 20, 21, 22] []) o0 o0 := fr_rfl
  unfold fM_tableLine fM_tableLine_0
  have i_v1 := iv_top v1
  have g_o0_17 : (0 : Int) ≤ (o0.1 17).toInt ∧ (o0.1 17).toInt ≤ 30 := k_o0.1 17
  refine tt_b (sM_areNames _ _ k_o0 (iv_w (a := 6) (b := 8) (by decide) (by decide) (show (6 : Int) ≤ (6 : Int32).toInt ∧ (6 : Int32).toInt ≤ 6 by decide)) f_o0_0 f_o0_5 f_o0_7 f_o0_95) (fun q1 hq1 => ?_)
  obtain ⟨i_q1, zq1_0, -⟩ := hq1
  have zq1_0 : q1.toInt = 0 ∨ (2 ≤ (o0.1 7).toInt ∧ (o0.1 7).toInt ≤ 6 + 1) := zq1_0
  refine tt_if (fun c2 => ?_) (fun c2 => ?_)
  · have wc2 : q1.toInt = (0 : Int) := c_eq c2
    have i3 : (0 : Int) ≤ q1.toInt ∧ q1.toInt ≤ 0 := nr_eql c2 i_q1 (show (0 : Int) ≤ (0 : Int32).toInt ∧ (0 : Int32).toInt ≤ 0 by decide) (by decide) (by decide)
    try unfold fM_tableLine_18
    try unfold fM_fail
    try unfold fM_fail_0
    refine tt_bif (fun c4 => ?_) (fun c4 => ?_)
    · have wc4 : (o0.1 5).toInt = (0 : Int) := c_eq c4
      refine tt_bko ?_
      have k5 := ok_fp (k := 5) (v := 1) k_o0 (iv_w (a := 0) (b := 4) (by decide) (by decide) (show (1 : Int) ≤ (1 : Int32).toInt ∧ (1 : Int32).toInt ≤ 1 by decide))
      have r6 := fr_fp (k := 5) (v := 1) r_o0 rfl
      refine tt_bko ?_
      have k7 := ok_fp (k := 6) (v := v1) k5 (iv_top v1)
      have r8 := fr_fp (k := 6) (v := v1) r6 rfl
      try unfold fM_fail_17
      refine tt_bs ?_
      exact tt_some ⟨k7, r8, (iv_w (a := 0) (b := 2) (by decide) (by decide) (show (1 : Int) ≤ (1 : Int32).toInt ∧ (1 : Int32).toInt ≤ 1 by decide)), x_0, x_1, trivial⟩
    · have wc4 : ¬ (o0.1 5).toInt = (0 : Int) := c_ne c4
      exact (dd_ne c4 f_o0_5 (show (0 : Int) ≤ (0 : Int32).toInt ∧ (0 : Int32).toInt ≤ 0 by decide)).elim
  · have wc2 : ¬ q1.toInt = (0 : Int) := c_ne c2
    have i9 : (1 : Int) ≤ q1.toInt ∧ q1.toInt ≤ 1 := nr_nela c2 i_q1 (show (0 : Int) ≤ (0 : Int32).toInt ∧ (0 : Int32).toInt ≤ 0 by decide) (by decide) (by decide)
    refine tt_if (fun c10 => ?_) (fun c10 => ?_)
    · have wc10 : (o0.1 17).toInt = (30 : Int) := c_eq c10
      have i11 : (30 : Int) ≤ (o0.1 17).toInt ∧ (o0.1 17).toInt ≤ 30 := nr_eql c10 (k_o0.1 17) (show (30 : Int) ≤ (30 : Int32).toInt ∧ (30 : Int32).toInt ≤ 30 by decide) (by decide) (by decide)
      try unfold fM_tableLine_18
      try unfold fM_fail
      try unfold fM_fail_0
      refine tt_bif (fun c12 => ?_) (fun c12 => ?_)
      · have wc12 : (o0.1 5).toInt = (0 : Int) := c_eq c12
        refine tt_bko ?_
        have k13 := ok_fp (k := 5) (v := 1) k_o0 (iv_w (a := 0) (b := 4) (by decide) (by decide) (show (1 : Int) ≤ (1 : Int32).toInt ∧ (1 : Int32).toInt ≤ 1 by decide))
        have r14 := fr_fp (k := 5) (v := 1) r_o0 rfl
        refine tt_bko ?_
        have k15 := ok_fp (k := 6) (v := v1) k13 (iv_top v1)
        have r16 := fr_fp (k := 6) (v := v1) r14 rfl
        try unfold fM_fail_17
        refine tt_bs ?_
        exact tt_some ⟨k15, r16, (iv_w (a := 0) (b := 2) (by decide) (by decide) (show (1 : Int) ≤ (1 : Int32).toInt ∧ (1 : Int32).toInt ≤ 1 by decide)), x_0, x_1, trivial⟩
      · have wc12 : ¬ (o0.1 5).toInt = (0 : Int) := c_ne c12
        exact (dd_ne c12 f_o0_5 (show (0 : Int) ≤ (0 : Int32).toInt ∧ (0 : Int32).toInt ≤ 0 by decide)).elim
    · have wc10 : ¬ (o0.1 17).toInt = (30 : Int) := c_ne c10
      have i17 : (0 : Int) ≤ (o0.1 17).toInt ∧ (o0.1 17).toInt ≤ 29 := nr_nelb c10 (k_o0.1 17) (show (30 : Int) ≤ (30 : Int32).toInt ∧ (30 : Int32).toInt ≤ 30 by decide) (by decide) (by decide)
      refine tt_kv (P := fun z => ((0 : Int) ≤ z.toInt ∧ z.toInt ≤ 800) ∧ z.toInt = (o0.1 7).toInt - 1) ⟨iv_sub f_o0_7 (show (1 : Int) ≤ (1 : Int32).toInt ∧ (1 : Int32).toInt ≤ 1 by decide) (by decide) (by decide) (by decide) (by decide), iq_sub f_o0_7 (show (1 : Int) ≤ (1 : Int32).toInt ∧ (1 : Int32).toInt ≤ 1 by decide) (by decide) (by decide)⟩ (fun x18 qi19 => ?_)
      obtain ⟨i19, ei19⟩ := qi19
      refine tt_n (ix_ok i19 (by decide) (by decide)) ?_
      refine tt_kv (P := fun z => ((0 : Int) ≤ z.toInt ∧ z.toInt ≤ 1599) ∧ z.toInt = (o0.2.1 8 x18.toNatClampNeg).toInt) ⟨(k_o0.2 8 _), rfl⟩ (fun x20 qi21 => ?_)
      obtain ⟨i21, ei21⟩ := qi21
      refine tt_kv (P := fun z => ((0 : Int) ≤ z.toInt ∧ z.toInt ≤ 800) ∧ z.toInt = (o0.1 7).toInt - 1) ⟨iv_sub f_o0_7 (show (1 : Int) ≤ (1 : Int32).toInt ∧ (1 : Int32).toInt ≤ 1 by decide) (by decide) (by decide) (by decide) (by decide), iq_sub f_o0_7 (show (1 : Int) ≤ (1 : Int32).toInt ∧ (1 : Int32).toInt ≤ 1 by decide) (by decide) (by decide)⟩ (fun x22 qi23 => ?_)
      obtain ⟨i23, ei23⟩ := qi23
      refine tt_n (ix_ok i23 (by decide) (by decide)) ?_
      refine tt_kv (P := fun z => ((0 : Int) ≤ z.toInt ∧ z.toInt ≤ 1600) ∧ z.toInt = (o0.2.1 9 x22.toNatClampNeg).toInt) ⟨(k_o0.2 9 _), rfl⟩ (fun x24 qi25 => ?_)
      obtain ⟨i25, ei25⟩ := qi25
      refine tt_b (sM_giver _ _ _ k_o0 i21 i25 f_o0_0 f_o0_5 f_o0_95 x_0) (fun q26 hq26 => ?_)
      obtain ⟨i_q26, zq26_0, zq26_1, -⟩ := hq26
      have zq26_0 : q26.toInt ≤ 7 + (o0.1 17).toInt := zq26_0
      have zq26_1 : 8 ≤ q26.toInt ∨ q26.toInt < (o0.1 10).toInt := zq26_1
      refine tt_if (fun c27 => ?_) (fun c27 => ?_)
      · have wc27 : q26.toInt < (0 : Int) := c_lt c27
        have i28 : ((-1) : Int) ≤ q26.toInt ∧ q26.toInt ≤ (-1) := nr_ltl c27 i_q26 (show (0 : Int) ≤ (0 : Int32).toInt ∧ (0 : Int32).toInt ≤ 0 by decide) (by decide) (by decide)
        refine tt_n (ix_ok i17 (by decide) (by decide)) ?_
        refine tt_ko ?_
        have k29 := ok_xp (k := 18) (i := (o0.1 17).toNatClampNeg) (v := v1) k_o0 (iv_top v1)
        have r30 := fr_xp (k := 18) (i := (o0.1 17).toNatClampNeg) (v := v1) r_o0 rfl
        refine tt_kv (P := fun z => ((0 : Int) ≤ z.toInt ∧ z.toInt ≤ 800) ∧ z.toInt = (o0.1 7).toInt - 1) ⟨iv_sub f_o0_7 (show (1 : Int) ≤ (1 : Int32).toInt ∧ (1 : Int32).toInt ≤ 1 by decide) (by decide) (by decide) (by decide) (by decide), iq_sub f_o0_7 (show (1 : Int) ≤ (1 : Int32).toInt ∧ (1 : Int32).toInt ≤ 1 by decide) (by decide) (by decide)⟩ (fun x31 qi32 => ?_)
        obtain ⟨i32, ei32⟩ := qi32
        refine tt_n (ix_ok i17 (by decide) (by decide)) ?_
        refine tt_ko ?_
        have k33 := ok_xp (k := 19) (i := (o0.1 17).toNatClampNeg) (v := x31) k29 (show (0 : Int) ≤ _ ∧ _ ≤ (6 : Int) by omega)
        have r34 := fr_xp (k := 19) (i := (o0.1 17).toNatClampNeg) (v := x31) r30 rfl
        refine tt_n (ix_ok i17 (by decide) (by decide)) ?_
        refine tt_ko ?_
        have k35 := ok_xp (k := 22) (i := (o0.1 17).toNatClampNeg) (v := 0) k33 (iv_w (a := 0) (b := 16) (by decide) (by decide) (show (0 : Int) ≤ (0 : Int32).toInt ∧ (0 : Int32).toInt ≤ 0 by decide))
        have r36 := fr_xp (k := 22) (i := (o0.1 17).toNatClampNeg) (v := 0) r34 rfl
        have t37 : (0 : Int) ≤ (upd (o0.2.1 19) ((o0.1 17).toNatClampNeg) x31 (o0.1 17).toNatClampNeg).toInt ∧ (upd (o0.2.1 19) ((o0.1 17).toNatClampNeg) x31 (o0.1 17).toNatClampNeg).toInt ≤ 6 := k35.2 19 _
        have p38 : Tn (o0.1 17) (upd (o0.2.1 19) ((o0.1 17).toNatClampNeg) x31) := by exact Tn_u x_0 (by omega)
        have p39 : Rf (upd (o0.2.1 22) ((o0.1 17).toNatClampNeg) 0) (o0.2.1 23) (upd (o0.2.1 19) ((o0.1 17).toNatClampNeg) x31) := by exact Rf_tab x_1 (by decide) rfl
        exact H _ _ _ k35 r36 i17 (iv_w (a := 0) (b := 800) (by decide) (by decide) (show (0 : Int) ≤ (0 : Int32).toInt ∧ (0 : Int32).toInt ≤ 0 by decide)) f_o0_0 f_o0_5 f_o0_7 i17 f_o0_95 (show (o0.1 7).toInt ≤ 7 by omega) (show (o0.1 17).toInt = (o0.1 17).toInt by omega) (show 1 ≤ (upd (o0.2.1 19) ((o0.1 17).toNatClampNeg) x31 (o0.1 17).toNatClampNeg).toInt by first | exact x_2 | (rw [up_s]; omega)) p38 p39 (show 0 + (800 - 0) * 2 < ((cfFU : Nat) : Int) by omega)
      · have wc27 : (0 : Int) ≤ q26.toInt := c_nlt c27
        have i40 : (0 : Int) ≤ q26.toInt ∧ q26.toInt ≤ 37 := nr_nltr c27 (show (0 : Int) ≤ (0 : Int32).toInt ∧ (0 : Int32).toInt ≤ 0 by decide) i_q26 (by decide) (by decide)
        try unfold fM_fail
        try unfold fM_fail_0
        refine tt_bif (fun c41 => ?_) (fun c41 => ?_)
        · have wc41 : (o0.1 5).toInt = (0 : Int) := c_eq c41
          refine tt_bko ?_
          have k42 := ok_fp (k := 5) (v := 2) k_o0 (iv_w (a := 0) (b := 4) (by decide) (by decide) (show (2 : Int) ≤ (2 : Int32).toInt ∧ (2 : Int32).toInt ≤ 2 by decide))
          have r43 := fr_fp (k := 5) (v := 2) r_o0 rfl
          refine tt_bko ?_
          have k44 := ok_fp (k := 6) (v := v1) k42 (iv_top v1)
          have r45 := fr_fp (k := 6) (v := v1) r43 rfl
          try unfold fM_fail_17
          refine tt_bs ?_
          exact tt_some ⟨k44, r45, (iv_w (a := 0) (b := 2) (by decide) (by decide) (show (2 : Int) ≤ (2 : Int32).toInt ∧ (2 : Int32).toInt ≤ 2 by decide)), x_0, x_1, trivial⟩
        · have wc41 : ¬ (o0.1 5).toInt = (0 : Int) := c_ne c41
          exact (dd_ne c41 f_o0_5 (show (0 : Int) ≤ (0 : Int32).toInt ∧ (0 : Int32).toInt ≤ 0 by decide)).elim
def QM_rowLine (v1 : Int32) (o0 : cf_O) (r : (cf_O)) : Prop := (okO I_M r) ∧ (Fr (fr_M [5, 6] [22, 23, 24] []) o0 r) ∧ ((0 : Int) ≤ (r.1 5).toInt ∧ (r.1 5).toInt ≤ 1) ∧ (Rf (r.2.1 22) (r.2.1 23) (r.2.1 19)) ∧ True
def HM_rowLine (yv1 : Int32) (yo0 : cf_O) (n : Nat) : Prop := (∀ (v1 : Int32) (v2 : Int32) (v3 : Int32) (v4 : Int32) (v5 : Int32) (v6 : Int32) (o0 : cf_O), (okO I_M o0) → (Fr (fr_M [5, 6] [22, 23, 24] []) yo0 o0) → (((-1) : Int) ≤ v2.toInt ∧ v2.toInt ≤ 29) → (((-1) : Int) ≤ v3.toInt ∧ v3.toInt ≤ 5) → ((0 : Int) ≤ v4.toInt ∧ v4.toInt ≤ 1) → ((0 : Int) ≤ v5.toInt ∧ v5.toInt ≤ 800) → ((0 : Int) ≤ v6.toInt ∧ v6.toInt ≤ 1600) → ((0 : Int) ≤ (o0.1 0).toInt ∧ (o0.1 0).toInt ≤ 0) → ((0 : Int) ≤ (o0.1 5).toInt ∧ (o0.1 5).toInt ≤ 0) → ((1 : Int) ≤ (o0.1 7).toInt ∧ (o0.1 7).toInt ≤ 801) → ((0 : Int) ≤ (o0.1 95).toInt ∧ (o0.1 95).toInt ≤ 0) → (v4.toInt = 0 ∨ (0 ≤ v2.toInt ∧ (o0.2.1 22 v2.toNatClampNeg).toInt ≤ 15)) → (v4.toInt = 0 ∨ (v3.toInt = (o0.2.1 19 v2.toNatClampNeg).toInt - 1 ∧ (v3.toInt = 0 ∨ (o0.2.1 9 (0 : Int32).toNatClampNeg).toInt - (o0.2.1 8 (0 : Int32).toNatClampNeg).toInt = v3.toInt))) → (Rf (o0.2.1 22) (o0.2.1 23) (o0.2.1 19)) → 0 + (1600 - v6.toInt) * 2 < (n : Int) → tt (gM_rowLine n 0 v1 v2 v3 v4 v5 v6 o0) (QM_rowLine yv1 yo0))
set_option maxHeartbeats 4000000 in
set_option maxRecDepth 100000 in
theorem tM_rowLine_164 {yv1 : Int32} {yo0 : cf_O} {n : Nat} (H : HM_rowLine yv1 yo0 n) (v1 : Int32) (v2 : Int32) (v3 : Int32) (v4 : Int32) (v5 : Int32) (v6 : Int32) (o0 : cf_O) (k_o0 : okO I_M o0) (r_o0 : Fr (fr_M [5, 6] [22, 23, 24] []) yo0 o0) (i_v2 : ((-1) : Int) ≤ v2.toInt ∧ v2.toInt ≤ 29) (i_v3 : ((-1) : Int) ≤ v3.toInt ∧ v3.toInt ≤ 5) (i_v4 : (0 : Int) ≤ v4.toInt ∧ v4.toInt ≤ 1) (i_v5 : (0 : Int) ≤ v5.toInt ∧ v5.toInt ≤ 800) (i_v6 : (0 : Int) ≤ v6.toInt ∧ v6.toInt ≤ 1600) (f_o0_0 : (0 : Int) ≤ (o0.1 0).toInt ∧ (o0.1 0).toInt ≤ 0) (f_o0_5 : (0 : Int) ≤ (o0.1 5).toInt ∧ (o0.1 5).toInt ≤ 0) (f_o0_7 : (1 : Int) ≤ (o0.1 7).toInt ∧ (o0.1 7).toInt ≤ 801) (f_o0_95 : (0 : Int) ≤ (o0.1 95).toInt ∧ (o0.1 95).toInt ≤ 0) (x_0 : v4.toInt = 0 ∨ (0 ≤ v2.toInt ∧ (o0.2.1 22 v2.toNatClampNeg).toInt ≤ 15)) (x_1 : v4.toInt = 0 ∨ (v3.toInt = (o0.2.1 19 v2.toNatClampNeg).toInt - 1 ∧ (v3.toInt = 0 ∨ (o0.2.1 9 (0 : Int32).toNatClampNeg).toInt - (o0.2.1 8 (0 : Int32).toNatClampNeg).toInt = v3.toInt))) (x_2 : Rf (o0.2.1 22) (o0.2.1 23) (o0.2.1 19)) (hm : 0 + (1600 - v6.toInt) * 2 ≤ (n : Int)) : tt (fM_rowLine_164 (gM_rowLine n) v1 v2 v3 v4 v5 v6 o0) (QM_rowLine yv1 yo0) := by
  unfold fM_rowLine_164
  have i_v1 := iv_top v1
  have ey_o0_7 : (o0.1 7).toInt = (yo0.1 7).toInt := congrArg Int32.toInt (r_o0.1 7 rfl)
  have g_o0_17 : (0 : Int) ≤ (o0.1 17).toInt ∧ (o0.1 17).toInt ≤ 30 := k_o0.1 17
  have ey_o0_17 : (o0.1 17).toInt = (yo0.1 17).toInt := congrArg Int32.toInt (r_o0.1 17 rfl)
  refine tt_n (ix_ok (show (0 : Int) ≤ (0 : Int32).toInt ∧ (0 : Int32).toInt ≤ 0 by decide) (by decide) (by decide)) ?_
  refine tt_kv (P := fun z => ((0 : Int) ≤ z.toInt ∧ z.toInt ≤ 1600) ∧ z.toInt = (o0.2.1 9 (0 : Int32).toNatClampNeg).toInt) ⟨(k_o0.2 9 _), rfl⟩ (fun x1 qi2 => ?_)
  obtain ⟨i2, ei2⟩ := qi2
  refine tt_if (fun c3 => ?_) (fun c3 => ?_)
  · have wc3 : x1.toInt ≤ v6.toInt := c_le c3
    try unfold fM_rowLine_233
    refine tt_if (fun c4 => ?_) (fun c4 => ?_)
    · have wc4 : v4.toInt = (0 : Int) := c_eq c4
      have i5 : (0 : Int) ≤ v4.toInt ∧ v4.toInt ≤ 0 := nr_eql c4 i_v4 (show (0 : Int) ≤ (0 : Int32).toInt ∧ (0 : Int32).toInt ≤ 0 by decide) (by decide) (by decide)
      try unfold fM_rowLine_282
      try unfold fM_rowLine_283
      refine tt_if (fun c6 => ?_) (fun c6 => ?_)
      · have wc6 : (0 : Int) = (0 : Int) := c_eq c6
        try unfold fM_fail
        try unfold fM_fail_0
        refine tt_bif (fun c7 => ?_) (fun c7 => ?_)
        · have wc7 : (o0.1 5).toInt = (0 : Int) := c_eq c7
          refine tt_bko ?_
          have k8 := ok_fp (k := 5) (v := 1) k_o0 (iv_w (a := 0) (b := 4) (by decide) (by decide) (show (1 : Int) ≤ (1 : Int32).toInt ∧ (1 : Int32).toInt ≤ 1 by decide))
          have r9 := fr_fp (k := 5) (v := 1) r_o0 rfl
          refine tt_bko ?_
          have k10 := ok_fp (k := 6) (v := v1) k8 (iv_top v1)
          have r11 := fr_fp (k := 6) (v := v1) r9 rfl
          try unfold fM_fail_17
          refine tt_bs ?_
          exact tt_some ⟨k10, r11, (iv_w (a := 0) (b := 1) (by decide) (by decide) (show (1 : Int) ≤ (1 : Int32).toInt ∧ (1 : Int32).toInt ≤ 1 by decide)), x_2, trivial⟩
        · have wc7 : ¬ (o0.1 5).toInt = (0 : Int) := c_ne c7
          exact (dd_ne c7 f_o0_5 (show (0 : Int) ≤ (0 : Int32).toInt ∧ (0 : Int32).toInt ≤ 0 by decide)).elim
      · have wc6 : ¬ (0 : Int) = (0 : Int) := c_ne c6
        exact (dd_ne c6 (show (0 : Int) ≤ (0 : Int32).toInt ∧ (0 : Int32).toInt ≤ 0 by decide) (show (0 : Int) ≤ (0 : Int32).toInt ∧ (0 : Int32).toInt ≤ 0 by decide)).elim
    · have wc4 : ¬ v4.toInt = (0 : Int) := c_ne c4
      have i12 : (1 : Int) ≤ v4.toInt ∧ v4.toInt ≤ 1 := nr_nela c4 i_v4 (show (0 : Int) ≤ (0 : Int32).toInt ∧ (0 : Int32).toInt ≤ 0 by decide) (by decide) (by decide)
      refine tt_n (ix_rel (by omega) (by omega)) ?_
      have i13 : (0 : Int) ≤ v2.toInt ∧ v2.toInt ≤ 29 := (by omega)
      refine tt_kv (P := fun z => ((0 : Int) ≤ z.toInt ∧ z.toInt ≤ 16) ∧ z.toInt = (o0.2.1 22 v2.toNatClampNeg).toInt) ⟨(k_o0.2 22 _), rfl⟩ (fun x14 qi15 => ?_)
      obtain ⟨i15, ei15⟩ := qi15
      refine tt_if (fun c16 => ?_) (fun c16 => ?_)
      · have wc16 : x14.toInt = (0 : Int) := c_eq c16
        have i17 : (0 : Int) ≤ x14.toInt ∧ x14.toInt ≤ 0 := nr_eql c16 i15 (show (0 : Int) ≤ (0 : Int32).toInt ∧ (0 : Int32).toInt ≤ 0 by decide) (by decide) (by decide)
        try unfold fM_rowLine_278
        try unfold fM_rowLine_283
        refine tt_if (fun c18 => ?_) (fun c18 => ?_)
        · have wc18 : (1 : Int) = (0 : Int) := c_eq c18
          exact (dd_eq c18 (show (1 : Int) ≤ (1 : Int32).toInt ∧ (1 : Int32).toInt ≤ 1 by decide) (show (0 : Int) ≤ (0 : Int32).toInt ∧ (0 : Int32).toInt ≤ 0 by decide) (by decide)).elim
        · have wc18 : ¬ (1 : Int) = (0 : Int) := c_ne c18
          refine tt_n (ix_ok i_v5 (by decide) (by decide)) ?_
          refine tt_kv (P := fun z => ((0 : Int) ≤ z.toInt ∧ z.toInt ≤ 1599) ∧ z.toInt = (o0.2.1 8 v5.toNatClampNeg).toInt) ⟨(k_o0.2 8 _), rfl⟩ (fun x19 qi20 => ?_)
          obtain ⟨i20, ei20⟩ := qi20
          refine tt_n (ix_ok i20 (by decide) (by decide)) ?_
          refine tt_kv (P := fun z => ((0 : Int) ≤ z.toInt ∧ z.toInt ≤ 255) ∧ z.toInt = (o0.2.1 1 x19.toNatClampNeg).toInt) ⟨(k_o0.2 1 _), rfl⟩ (fun x21 qi22 => ?_)
          obtain ⟨i22, ei22⟩ := qi22
          refine tt_if (fun c23 => ?_) (fun c23 => ?_)
          · have wc23 : x21.toInt = (49 : Int) := c_eq c23
            have i24 : (49 : Int) ≤ x21.toInt ∧ x21.toInt ≤ 49 := nr_eql c23 i22 (show (49 : Int) ≤ (49 : Int32).toInt ∧ (49 : Int32).toInt ≤ 49 by decide) (by decide) (by decide)
            try unfold fM_rowLine_324
            refine tt_n (ix_ok i13 (by decide) (by decide)) ?_
            refine tt_ko ?_
            have k25 := ok_xp (k := 24) (i := v2.toNatClampNeg) (v := (vp_nar .boolean 1)) k_o0 (iv_nz _)
            have r26 := fr_xp (k := 24) (i := v2.toNatClampNeg) (v := (vp_nar .boolean 1)) r_o0 rfl
            refine tt_kv (P := fun z => ((0 : Int) ≤ z.toInt ∧ z.toInt ≤ 464) ∧ z.toInt = 16 * v2.toInt) ⟨iv_mul (show (16 : Int) ≤ (16 : Int32).toInt ∧ (16 : Int32).toInt ≤ 16 by decide) i13 (by decide) (by decide) (by decide) (by decide) (by decide), iq_mul (show (16 : Int) ≤ (16 : Int32).toInt ∧ (16 : Int32).toInt ≤ 16 by decide) i13 (by decide) (by decide) (by decide) (by decide)⟩ (fun x27 qi28 => ?_)
            obtain ⟨i28, ei28⟩ := qi28
            refine tt_n (ix_ok i13 (by decide) (by decide)) ?_
            refine tt_kv (P := fun z => ((0 : Int) ≤ z.toInt ∧ z.toInt ≤ 16) ∧ z.toInt = (o0.2.1 22 v2.toNatClampNeg).toInt) ⟨(k25.2 22 _), rfl⟩ (fun x29 qi30 => ?_)
            obtain ⟨i30, ei30⟩ := qi30
            refine tt_kv (P := fun z => ((0 : Int) ≤ z.toInt ∧ z.toInt ≤ 480) ∧ z.toInt = x27.toInt + x29.toInt) ⟨iv_add i28 i30 (by decide) (by decide) (by decide) (by decide), iq_add i28 i30 (by decide) (by decide)⟩ (fun x31 qi32 => ?_)
            obtain ⟨i32, ei32⟩ := qi32
            refine tt_n (ix_ok (show (0 : Int) ≤ (0 : Int32).toInt ∧ (0 : Int32).toInt ≤ 0 by decide) (by decide) (by decide)) ?_
            refine tt_kv (P := fun z => ((0 : Int) ≤ z.toInt ∧ z.toInt ≤ 1599) ∧ z.toInt = (o0.2.1 8 (0 : Int32).toNatClampNeg).toInt) ⟨(k25.2 8 _), rfl⟩ (fun x33 qi34 => ?_)
            obtain ⟨i34, ei34⟩ := qi34
            refine tt_n (ix_ok i32 (by decide) (by decide)) ?_
            refine tt_ko ?_
            have k35 := ok_xp (k := 23) (i := x31.toNatClampNeg) (v := x33) k25 i34
            have r36 := fr_xp (k := 23) (i := x31.toNatClampNeg) (v := x33) r26 rfl
            refine tt_n (ix_ok i13 (by decide) (by decide)) ?_
            refine tt_kv (P := fun z => ((0 : Int) ≤ z.toInt ∧ z.toInt ≤ 16) ∧ z.toInt = (o0.2.1 22 v2.toNatClampNeg).toInt) ⟨(k35.2 22 _), rfl⟩ (fun x37 qi38 => ?_)
            obtain ⟨i38, ei38⟩ := qi38
            refine tt_kv (P := fun z => ((1 : Int) ≤ z.toInt ∧ z.toInt ≤ 17) ∧ z.toInt = x37.toInt + 1) ⟨iv_add i38 (show (1 : Int) ≤ (1 : Int32).toInt ∧ (1 : Int32).toInt ≤ 1 by decide) (by decide) (by decide) (by decide) (by decide), iq_add i38 (show (1 : Int) ≤ (1 : Int32).toInt ∧ (1 : Int32).toInt ≤ 1 by decide) (by decide) (by decide)⟩ (fun x39 qi40 => ?_)
            obtain ⟨i40, ei40⟩ := qi40
            refine tt_n (ix_ok i13 (by decide) (by decide)) ?_
            refine tt_ko ?_
            have k41 := ok_xp (k := 22) (i := v2.toNatClampNeg) (v := x39) k35 (show (0 : Int) ≤ _ ∧ _ ≤ (16 : Int) by omega)
            have r42 := fr_xp (k := 22) (i := v2.toNatClampNeg) (v := x39) r36 rfl
            have p43 : Rf (upd (o0.2.1 22) (v2.toNatClampNeg) x39) (upd (o0.2.1 23) (x31.toNatClampNeg) x33) (o0.2.1 19) := by have b9 : (o0.2.1 9 (0 : Int32).toNatClampNeg).toInt ≤ 1600 := (k_o0.2 9 _).2; have b8 : (o0.2.1 8 (0 : Int32).toNatClampNeg).toInt ≤ 1599 := (k_o0.2 8 _).2; exact Rf_row x_2 (fun t => (k_o0.2 22 t).2) (by omega) (by omega) (by rw [tn_n, tn_n]; omega) (by omega) (by omega)
            exact tt_some ⟨k41, r42, (iv_w (a := 0) (b := 1) (by decide) (by decide) f_o0_5), p43, trivial⟩
          · have wc23 : ¬ x21.toInt = (49 : Int) := c_ne c23
            try unfold fM_rowLine_324
            refine tt_n (ix_ok i13 (by decide) (by decide)) ?_
            refine tt_ko ?_
            have k44 := ok_xp (k := 24) (i := v2.toNatClampNeg) (v := (vp_nar .boolean 0)) k_o0 (iv_nz _)
            have r45 := fr_xp (k := 24) (i := v2.toNatClampNeg) (v := (vp_nar .boolean 0)) r_o0 rfl
            refine tt_kv (P := fun z => ((0 : Int) ≤ z.toInt ∧ z.toInt ≤ 464) ∧ z.toInt = 16 * v2.toInt) ⟨iv_mul (show (16 : Int) ≤ (16 : Int32).toInt ∧ (16 : Int32).toInt ≤ 16 by decide) i13 (by decide) (by decide) (by decide) (by decide) (by decide), iq_mul (show (16 : Int) ≤ (16 : Int32).toInt ∧ (16 : Int32).toInt ≤ 16 by decide) i13 (by decide) (by decide) (by decide) (by decide)⟩ (fun x46 qi47 => ?_)
            obtain ⟨i47, ei47⟩ := qi47
            refine tt_n (ix_ok i13 (by decide) (by decide)) ?_
            refine tt_kv (P := fun z => ((0 : Int) ≤ z.toInt ∧ z.toInt ≤ 16) ∧ z.toInt = (o0.2.1 22 v2.toNatClampNeg).toInt) ⟨(k44.2 22 _), rfl⟩ (fun x48 qi49 => ?_)
            obtain ⟨i49, ei49⟩ := qi49
            refine tt_kv (P := fun z => ((0 : Int) ≤ z.toInt ∧ z.toInt ≤ 480) ∧ z.toInt = x46.toInt + x48.toInt) ⟨iv_add i47 i49 (by decide) (by decide) (by decide) (by decide), iq_add i47 i49 (by decide) (by decide)⟩ (fun x50 qi51 => ?_)
            obtain ⟨i51, ei51⟩ := qi51
            refine tt_n (ix_ok (show (0 : Int) ≤ (0 : Int32).toInt ∧ (0 : Int32).toInt ≤ 0 by decide) (by decide) (by decide)) ?_
            refine tt_kv (P := fun z => ((0 : Int) ≤ z.toInt ∧ z.toInt ≤ 1599) ∧ z.toInt = (o0.2.1 8 (0 : Int32).toNatClampNeg).toInt) ⟨(k44.2 8 _), rfl⟩ (fun x52 qi53 => ?_)
            obtain ⟨i53, ei53⟩ := qi53
            refine tt_n (ix_ok i51 (by decide) (by decide)) ?_
            refine tt_ko ?_
            have k54 := ok_xp (k := 23) (i := x50.toNatClampNeg) (v := x52) k44 i53
            have r55 := fr_xp (k := 23) (i := x50.toNatClampNeg) (v := x52) r45 rfl
            refine tt_n (ix_ok i13 (by decide) (by decide)) ?_
            refine tt_kv (P := fun z => ((0 : Int) ≤ z.toInt ∧ z.toInt ≤ 16) ∧ z.toInt = (o0.2.1 22 v2.toNatClampNeg).toInt) ⟨(k54.2 22 _), rfl⟩ (fun x56 qi57 => ?_)
            obtain ⟨i57, ei57⟩ := qi57
            refine tt_kv (P := fun z => ((1 : Int) ≤ z.toInt ∧ z.toInt ≤ 17) ∧ z.toInt = x56.toInt + 1) ⟨iv_add i57 (show (1 : Int) ≤ (1 : Int32).toInt ∧ (1 : Int32).toInt ≤ 1 by decide) (by decide) (by decide) (by decide) (by decide), iq_add i57 (show (1 : Int) ≤ (1 : Int32).toInt ∧ (1 : Int32).toInt ≤ 1 by decide) (by decide) (by decide)⟩ (fun x58 qi59 => ?_)
            obtain ⟨i59, ei59⟩ := qi59
            refine tt_n (ix_ok i13 (by decide) (by decide)) ?_
            refine tt_ko ?_
            have k60 := ok_xp (k := 22) (i := v2.toNatClampNeg) (v := x58) k54 (show (0 : Int) ≤ _ ∧ _ ≤ (16 : Int) by omega)
            have r61 := fr_xp (k := 22) (i := v2.toNatClampNeg) (v := x58) r55 rfl
            have p62 : Rf (upd (o0.2.1 22) (v2.toNatClampNeg) x58) (upd (o0.2.1 23) (x50.toNatClampNeg) x52) (o0.2.1 19) := by have b9 : (o0.2.1 9 (0 : Int32).toNatClampNeg).toInt ≤ 1600 := (k_o0.2 9 _).2; have b8 : (o0.2.1 8 (0 : Int32).toNatClampNeg).toInt ≤ 1599 := (k_o0.2 8 _).2; exact Rf_row x_2 (fun t => (k_o0.2 22 t).2) (by omega) (by omega) (by rw [tn_n, tn_n]; omega) (by omega) (by omega)
            exact tt_some ⟨k60, r61, (iv_w (a := 0) (b := 1) (by decide) (by decide) f_o0_5), p62, trivial⟩
      · have wc16 : ¬ x14.toInt = (0 : Int) := c_ne c16
        have i63 : (1 : Int) ≤ x14.toInt ∧ x14.toInt ≤ 16 := nr_nela c16 i15 (show (0 : Int) ≤ (0 : Int32).toInt ∧ (0 : Int32).toInt ≤ 0 by decide) (by decide) (by decide)
        refine tt_n (ix_ok i13 (by decide) (by decide)) ?_
        refine tt_kv (P := fun z => ((0 : Int) ≤ z.toInt ∧ z.toInt ≤ 1) ∧ z.toInt = (o0.2.1 24 v2.toNatClampNeg).toInt) ⟨(k_o0.2 24 _), rfl⟩ (fun x64 qi65 => ?_)
        obtain ⟨i65, ei65⟩ := qi65
        refine tt_n (ix_ok i_v5 (by decide) (by decide)) ?_
        refine tt_kv (P := fun z => ((0 : Int) ≤ z.toInt ∧ z.toInt ≤ 1599) ∧ z.toInt = (o0.2.1 8 v5.toNatClampNeg).toInt) ⟨(k_o0.2 8 _), rfl⟩ (fun x66 qi67 => ?_)
        obtain ⟨i67, ei67⟩ := qi67
        refine tt_n (ix_ok i67 (by decide) (by decide)) ?_
        refine tt_kv (P := fun z => ((0 : Int) ≤ z.toInt ∧ z.toInt ≤ 255) ∧ z.toInt = (o0.2.1 1 x66.toNatClampNeg).toInt) ⟨(k_o0.2 1 _), rfl⟩ (fun x68 qi69 => ?_)
        obtain ⟨i69, ei69⟩ := qi69
        refine tt_if (fun c70 => ?_) (fun c70 => ?_)
        · have wc70 : x68.toInt = (49 : Int) := c_eq c70
          have i71 : (49 : Int) ≤ x68.toInt ∧ x68.toInt ≤ 49 := nr_eql c70 i69 (show (49 : Int) ≤ (49 : Int32).toInt ∧ (49 : Int32).toInt ≤ 49 by decide) (by decide) (by decide)
          try unfold fM_rowLine_275
          refine tt_if (fun c72 => ?_) (fun c72 => ?_)
          · have wc72 : x64.toInt = (1 : Int) := c_eq c72
            have i73 : (1 : Int) ≤ x64.toInt ∧ x64.toInt ≤ 1 := nr_eql c72 i65 (show (1 : Int) ≤ (1 : Int32).toInt ∧ (1 : Int32).toInt ≤ 1 by decide) (by decide) (by decide)
            try unfold fM_rowLine_278
            try unfold fM_rowLine_283
            refine tt_if (fun c74 => ?_) (fun c74 => ?_)
            · have wc74 : (1 : Int) = (0 : Int) := c_eq c74
              exact (dd_eq c74 (show (1 : Int) ≤ (1 : Int32).toInt ∧ (1 : Int32).toInt ≤ 1 by decide) (show (0 : Int) ≤ (0 : Int32).toInt ∧ (0 : Int32).toInt ≤ 0 by decide) (by decide)).elim
            · have wc74 : ¬ (1 : Int) = (0 : Int) := c_ne c74
              refine tt_n (ix_ok i_v5 (by decide) (by decide)) ?_
              refine tt_kv (P := fun z => ((0 : Int) ≤ z.toInt ∧ z.toInt ≤ 1599) ∧ z.toInt = (o0.2.1 8 v5.toNatClampNeg).toInt) ⟨(k_o0.2 8 _), rfl⟩ (fun x75 qi76 => ?_)
              obtain ⟨i76, ei76⟩ := qi76
              refine tt_n (ix_ok i76 (by decide) (by decide)) ?_
              refine tt_kv (P := fun z => ((0 : Int) ≤ z.toInt ∧ z.toInt ≤ 255) ∧ z.toInt = (o0.2.1 1 x75.toNatClampNeg).toInt) ⟨(k_o0.2 1 _), rfl⟩ (fun x77 qi78 => ?_)
              obtain ⟨i78, ei78⟩ := qi78
              refine tt_if (fun c79 => ?_) (fun c79 => ?_)
              · have wc79 : x77.toInt = (49 : Int) := c_eq c79
                have i80 : (49 : Int) ≤ x77.toInt ∧ x77.toInt ≤ 49 := nr_eql c79 i78 (show (49 : Int) ≤ (49 : Int32).toInt ∧ (49 : Int32).toInt ≤ 49 by decide) (by decide) (by decide)
                try unfold fM_rowLine_324
                refine tt_n (ix_ok i13 (by decide) (by decide)) ?_
                refine tt_ko ?_
                have k81 := ok_xp (k := 24) (i := v2.toNatClampNeg) (v := (vp_nar .boolean 1)) k_o0 (iv_nz _)
                have r82 := fr_xp (k := 24) (i := v2.toNatClampNeg) (v := (vp_nar .boolean 1)) r_o0 rfl
                refine tt_kv (P := fun z => ((0 : Int) ≤ z.toInt ∧ z.toInt ≤ 464) ∧ z.toInt = 16 * v2.toInt) ⟨iv_mul (show (16 : Int) ≤ (16 : Int32).toInt ∧ (16 : Int32).toInt ≤ 16 by decide) i13 (by decide) (by decide) (by decide) (by decide) (by decide), iq_mul (show (16 : Int) ≤ (16 : Int32).toInt ∧ (16 : Int32).toInt ≤ 16 by decide) i13 (by decide) (by decide) (by decide) (by decide)⟩ (fun x83 qi84 => ?_)
                obtain ⟨i84, ei84⟩ := qi84
                refine tt_n (ix_ok i13 (by decide) (by decide)) ?_
                refine tt_kv (P := fun z => ((0 : Int) ≤ z.toInt ∧ z.toInt ≤ 16) ∧ z.toInt = (o0.2.1 22 v2.toNatClampNeg).toInt) ⟨(k81.2 22 _), rfl⟩ (fun x85 qi86 => ?_)
                obtain ⟨i86, ei86⟩ := qi86
                refine tt_kv (P := fun z => ((0 : Int) ≤ z.toInt ∧ z.toInt ≤ 480) ∧ z.toInt = x83.toInt + x85.toInt) ⟨iv_add i84 i86 (by decide) (by decide) (by decide) (by decide), iq_add i84 i86 (by decide) (by decide)⟩ (fun x87 qi88 => ?_)
                obtain ⟨i88, ei88⟩ := qi88
                refine tt_n (ix_ok (show (0 : Int) ≤ (0 : Int32).toInt ∧ (0 : Int32).toInt ≤ 0 by decide) (by decide) (by decide)) ?_
                refine tt_kv (P := fun z => ((0 : Int) ≤ z.toInt ∧ z.toInt ≤ 1599) ∧ z.toInt = (o0.2.1 8 (0 : Int32).toNatClampNeg).toInt) ⟨(k81.2 8 _), rfl⟩ (fun x89 qi90 => ?_)
                obtain ⟨i90, ei90⟩ := qi90
                refine tt_n (ix_ok i88 (by decide) (by decide)) ?_
                refine tt_ko ?_
                have k91 := ok_xp (k := 23) (i := x87.toNatClampNeg) (v := x89) k81 i90
                have r92 := fr_xp (k := 23) (i := x87.toNatClampNeg) (v := x89) r82 rfl
                refine tt_n (ix_ok i13 (by decide) (by decide)) ?_
                refine tt_kv (P := fun z => ((0 : Int) ≤ z.toInt ∧ z.toInt ≤ 16) ∧ z.toInt = (o0.2.1 22 v2.toNatClampNeg).toInt) ⟨(k91.2 22 _), rfl⟩ (fun x93 qi94 => ?_)
                obtain ⟨i94, ei94⟩ := qi94
                refine tt_kv (P := fun z => ((1 : Int) ≤ z.toInt ∧ z.toInt ≤ 17) ∧ z.toInt = x93.toInt + 1) ⟨iv_add i94 (show (1 : Int) ≤ (1 : Int32).toInt ∧ (1 : Int32).toInt ≤ 1 by decide) (by decide) (by decide) (by decide) (by decide), iq_add i94 (show (1 : Int) ≤ (1 : Int32).toInt ∧ (1 : Int32).toInt ≤ 1 by decide) (by decide) (by decide)⟩ (fun x95 qi96 => ?_)
                obtain ⟨i96, ei96⟩ := qi96
                refine tt_n (ix_ok i13 (by decide) (by decide)) ?_
                refine tt_ko ?_
                have k97 := ok_xp (k := 22) (i := v2.toNatClampNeg) (v := x95) k91 (show (0 : Int) ≤ _ ∧ _ ≤ (16 : Int) by omega)
                have r98 := fr_xp (k := 22) (i := v2.toNatClampNeg) (v := x95) r92 rfl
                have p99 : Rf (upd (o0.2.1 22) (v2.toNatClampNeg) x95) (upd (o0.2.1 23) (x87.toNatClampNeg) x89) (o0.2.1 19) := by have b9 : (o0.2.1 9 (0 : Int32).toNatClampNeg).toInt ≤ 1600 := (k_o0.2 9 _).2; have b8 : (o0.2.1 8 (0 : Int32).toNatClampNeg).toInt ≤ 1599 := (k_o0.2 8 _).2; exact Rf_row x_2 (fun t => (k_o0.2 22 t).2) (by omega) (by omega) (by rw [tn_n, tn_n]; omega) (by omega) (by omega)
                exact tt_some ⟨k97, r98, (iv_w (a := 0) (b := 1) (by decide) (by decide) f_o0_5), p99, trivial⟩
              · have wc79 : ¬ x77.toInt = (49 : Int) := c_ne c79
                try unfold fM_rowLine_324
                refine tt_n (ix_ok i13 (by decide) (by decide)) ?_
                refine tt_ko ?_
                have k100 := ok_xp (k := 24) (i := v2.toNatClampNeg) (v := (vp_nar .boolean 0)) k_o0 (iv_nz _)
                have r101 := fr_xp (k := 24) (i := v2.toNatClampNeg) (v := (vp_nar .boolean 0)) r_o0 rfl
                refine tt_kv (P := fun z => ((0 : Int) ≤ z.toInt ∧ z.toInt ≤ 464) ∧ z.toInt = 16 * v2.toInt) ⟨iv_mul (show (16 : Int) ≤ (16 : Int32).toInt ∧ (16 : Int32).toInt ≤ 16 by decide) i13 (by decide) (by decide) (by decide) (by decide) (by decide), iq_mul (show (16 : Int) ≤ (16 : Int32).toInt ∧ (16 : Int32).toInt ≤ 16 by decide) i13 (by decide) (by decide) (by decide) (by decide)⟩ (fun x102 qi103 => ?_)
                obtain ⟨i103, ei103⟩ := qi103
                refine tt_n (ix_ok i13 (by decide) (by decide)) ?_
                refine tt_kv (P := fun z => ((0 : Int) ≤ z.toInt ∧ z.toInt ≤ 16) ∧ z.toInt = (o0.2.1 22 v2.toNatClampNeg).toInt) ⟨(k100.2 22 _), rfl⟩ (fun x104 qi105 => ?_)
                obtain ⟨i105, ei105⟩ := qi105
                refine tt_kv (P := fun z => ((0 : Int) ≤ z.toInt ∧ z.toInt ≤ 480) ∧ z.toInt = x102.toInt + x104.toInt) ⟨iv_add i103 i105 (by decide) (by decide) (by decide) (by decide), iq_add i103 i105 (by decide) (by decide)⟩ (fun x106 qi107 => ?_)
                obtain ⟨i107, ei107⟩ := qi107
                refine tt_n (ix_ok (show (0 : Int) ≤ (0 : Int32).toInt ∧ (0 : Int32).toInt ≤ 0 by decide) (by decide) (by decide)) ?_
                refine tt_kv (P := fun z => ((0 : Int) ≤ z.toInt ∧ z.toInt ≤ 1599) ∧ z.toInt = (o0.2.1 8 (0 : Int32).toNatClampNeg).toInt) ⟨(k100.2 8 _), rfl⟩ (fun x108 qi109 => ?_)
                obtain ⟨i109, ei109⟩ := qi109
                refine tt_n (ix_ok i107 (by decide) (by decide)) ?_
                refine tt_ko ?_
                have k110 := ok_xp (k := 23) (i := x106.toNatClampNeg) (v := x108) k100 i109
                have r111 := fr_xp (k := 23) (i := x106.toNatClampNeg) (v := x108) r101 rfl
                refine tt_n (ix_ok i13 (by decide) (by decide)) ?_
                refine tt_kv (P := fun z => ((0 : Int) ≤ z.toInt ∧ z.toInt ≤ 16) ∧ z.toInt = (o0.2.1 22 v2.toNatClampNeg).toInt) ⟨(k110.2 22 _), rfl⟩ (fun x112 qi113 => ?_)
                obtain ⟨i113, ei113⟩ := qi113
                refine tt_kv (P := fun z => ((1 : Int) ≤ z.toInt ∧ z.toInt ≤ 17) ∧ z.toInt = x112.toInt + 1) ⟨iv_add i113 (show (1 : Int) ≤ (1 : Int32).toInt ∧ (1 : Int32).toInt ≤ 1 by decide) (by decide) (by decide) (by decide) (by decide), iq_add i113 (show (1 : Int) ≤ (1 : Int32).toInt ∧ (1 : Int32).toInt ≤ 1 by decide) (by decide) (by decide)⟩ (fun x114 qi115 => ?_)
                obtain ⟨i115, ei115⟩ := qi115
                refine tt_n (ix_ok i13 (by decide) (by decide)) ?_
                refine tt_ko ?_
                have k116 := ok_xp (k := 22) (i := v2.toNatClampNeg) (v := x114) k110 (show (0 : Int) ≤ _ ∧ _ ≤ (16 : Int) by omega)
                have r117 := fr_xp (k := 22) (i := v2.toNatClampNeg) (v := x114) r111 rfl
                have p118 : Rf (upd (o0.2.1 22) (v2.toNatClampNeg) x114) (upd (o0.2.1 23) (x106.toNatClampNeg) x108) (o0.2.1 19) := by have b9 : (o0.2.1 9 (0 : Int32).toNatClampNeg).toInt ≤ 1600 := (k_o0.2 9 _).2; have b8 : (o0.2.1 8 (0 : Int32).toNatClampNeg).toInt ≤ 1599 := (k_o0.2 8 _).2; exact Rf_row x_2 (fun t => (k_o0.2 22 t).2) (by omega) (by omega) (by rw [tn_n, tn_n]; omega) (by omega) (by omega)
                exact tt_some ⟨k116, r117, (iv_w (a := 0) (b := 1) (by decide) (by decide) f_o0_5), p118, trivial⟩
          · have wc72 : ¬ x64.toInt = (1 : Int) := c_ne c72
            have i119 : (0 : Int) ≤ x64.toInt ∧ x64.toInt ≤ 0 := nr_nelb c72 i65 (show (1 : Int) ≤ (1 : Int32).toInt ∧ (1 : Int32).toInt ≤ 1 by decide) (by decide) (by decide)
            try unfold fM_rowLine_282
            try unfold fM_rowLine_283
            refine tt_if (fun c120 => ?_) (fun c120 => ?_)
            · have wc120 : (0 : Int) = (0 : Int) := c_eq c120
              try unfold fM_fail
              try unfold fM_fail_0
              refine tt_bif (fun c121 => ?_) (fun c121 => ?_)
              · have wc121 : (o0.1 5).toInt = (0 : Int) := c_eq c121
                refine tt_bko ?_
                have k122 := ok_fp (k := 5) (v := 1) k_o0 (iv_w (a := 0) (b := 4) (by decide) (by decide) (show (1 : Int) ≤ (1 : Int32).toInt ∧ (1 : Int32).toInt ≤ 1 by decide))
                have r123 := fr_fp (k := 5) (v := 1) r_o0 rfl
                refine tt_bko ?_
                have k124 := ok_fp (k := 6) (v := v1) k122 (iv_top v1)
                have r125 := fr_fp (k := 6) (v := v1) r123 rfl
                try unfold fM_fail_17
                refine tt_bs ?_
                exact tt_some ⟨k124, r125, (iv_w (a := 0) (b := 1) (by decide) (by decide) (show (1 : Int) ≤ (1 : Int32).toInt ∧ (1 : Int32).toInt ≤ 1 by decide)), x_2, trivial⟩
              · have wc121 : ¬ (o0.1 5).toInt = (0 : Int) := c_ne c121
                exact (dd_ne c121 f_o0_5 (show (0 : Int) ≤ (0 : Int32).toInt ∧ (0 : Int32).toInt ≤ 0 by decide)).elim
            · have wc120 : ¬ (0 : Int) = (0 : Int) := c_ne c120
              exact (dd_ne c120 (show (0 : Int) ≤ (0 : Int32).toInt ∧ (0 : Int32).toInt ≤ 0 by decide) (show (0 : Int) ≤ (0 : Int32).toInt ∧ (0 : Int32).toInt ≤ 0 by decide)).elim
        · have wc70 : ¬ x68.toInt = (49 : Int) := c_ne c70
          try unfold fM_rowLine_275
          refine tt_if (fun c126 => ?_) (fun c126 => ?_)
          · have wc126 : x64.toInt = (0 : Int) := c_eq c126
            have i127 : (0 : Int) ≤ x64.toInt ∧ x64.toInt ≤ 0 := nr_eql c126 i65 (show (0 : Int) ≤ (0 : Int32).toInt ∧ (0 : Int32).toInt ≤ 0 by decide) (by decide) (by decide)
            try unfold fM_rowLine_278
            try unfold fM_rowLine_283
            refine tt_if (fun c128 => ?_) (fun c128 => ?_)
            · have wc128 : (1 : Int) = (0 : Int) := c_eq c128
              exact (dd_eq c128 (show (1 : Int) ≤ (1 : Int32).toInt ∧ (1 : Int32).toInt ≤ 1 by decide) (show (0 : Int) ≤ (0 : Int32).toInt ∧ (0 : Int32).toInt ≤ 0 by decide) (by decide)).elim
            · have wc128 : ¬ (1 : Int) = (0 : Int) := c_ne c128
              refine tt_n (ix_ok i_v5 (by decide) (by decide)) ?_
              refine tt_kv (P := fun z => ((0 : Int) ≤ z.toInt ∧ z.toInt ≤ 1599) ∧ z.toInt = (o0.2.1 8 v5.toNatClampNeg).toInt) ⟨(k_o0.2 8 _), rfl⟩ (fun x129 qi130 => ?_)
              obtain ⟨i130, ei130⟩ := qi130
              refine tt_n (ix_ok i130 (by decide) (by decide)) ?_
              refine tt_kv (P := fun z => ((0 : Int) ≤ z.toInt ∧ z.toInt ≤ 255) ∧ z.toInt = (o0.2.1 1 x129.toNatClampNeg).toInt) ⟨(k_o0.2 1 _), rfl⟩ (fun x131 qi132 => ?_)
              obtain ⟨i132, ei132⟩ := qi132
              refine tt_if (fun c133 => ?_) (fun c133 => ?_)
              · have wc133 : x131.toInt = (49 : Int) := c_eq c133
                have i134 : (49 : Int) ≤ x131.toInt ∧ x131.toInt ≤ 49 := nr_eql c133 i132 (show (49 : Int) ≤ (49 : Int32).toInt ∧ (49 : Int32).toInt ≤ 49 by decide) (by decide) (by decide)
                try unfold fM_rowLine_324
                refine tt_n (ix_ok i13 (by decide) (by decide)) ?_
                refine tt_ko ?_
                have k135 := ok_xp (k := 24) (i := v2.toNatClampNeg) (v := (vp_nar .boolean 1)) k_o0 (iv_nz _)
                have r136 := fr_xp (k := 24) (i := v2.toNatClampNeg) (v := (vp_nar .boolean 1)) r_o0 rfl
                refine tt_kv (P := fun z => ((0 : Int) ≤ z.toInt ∧ z.toInt ≤ 464) ∧ z.toInt = 16 * v2.toInt) ⟨iv_mul (show (16 : Int) ≤ (16 : Int32).toInt ∧ (16 : Int32).toInt ≤ 16 by decide) i13 (by decide) (by decide) (by decide) (by decide) (by decide), iq_mul (show (16 : Int) ≤ (16 : Int32).toInt ∧ (16 : Int32).toInt ≤ 16 by decide) i13 (by decide) (by decide) (by decide) (by decide)⟩ (fun x137 qi138 => ?_)
                obtain ⟨i138, ei138⟩ := qi138
                refine tt_n (ix_ok i13 (by decide) (by decide)) ?_
                refine tt_kv (P := fun z => ((0 : Int) ≤ z.toInt ∧ z.toInt ≤ 16) ∧ z.toInt = (o0.2.1 22 v2.toNatClampNeg).toInt) ⟨(k135.2 22 _), rfl⟩ (fun x139 qi140 => ?_)
                obtain ⟨i140, ei140⟩ := qi140
                refine tt_kv (P := fun z => ((0 : Int) ≤ z.toInt ∧ z.toInt ≤ 480) ∧ z.toInt = x137.toInt + x139.toInt) ⟨iv_add i138 i140 (by decide) (by decide) (by decide) (by decide), iq_add i138 i140 (by decide) (by decide)⟩ (fun x141 qi142 => ?_)
                obtain ⟨i142, ei142⟩ := qi142
                refine tt_n (ix_ok (show (0 : Int) ≤ (0 : Int32).toInt ∧ (0 : Int32).toInt ≤ 0 by decide) (by decide) (by decide)) ?_
                refine tt_kv (P := fun z => ((0 : Int) ≤ z.toInt ∧ z.toInt ≤ 1599) ∧ z.toInt = (o0.2.1 8 (0 : Int32).toNatClampNeg).toInt) ⟨(k135.2 8 _), rfl⟩ (fun x143 qi144 => ?_)
                obtain ⟨i144, ei144⟩ := qi144
                refine tt_n (ix_ok i142 (by decide) (by decide)) ?_
                refine tt_ko ?_
                have k145 := ok_xp (k := 23) (i := x141.toNatClampNeg) (v := x143) k135 i144
                have r146 := fr_xp (k := 23) (i := x141.toNatClampNeg) (v := x143) r136 rfl
                refine tt_n (ix_ok i13 (by decide) (by decide)) ?_
                refine tt_kv (P := fun z => ((0 : Int) ≤ z.toInt ∧ z.toInt ≤ 16) ∧ z.toInt = (o0.2.1 22 v2.toNatClampNeg).toInt) ⟨(k145.2 22 _), rfl⟩ (fun x147 qi148 => ?_)
                obtain ⟨i148, ei148⟩ := qi148
                refine tt_kv (P := fun z => ((1 : Int) ≤ z.toInt ∧ z.toInt ≤ 17) ∧ z.toInt = x147.toInt + 1) ⟨iv_add i148 (show (1 : Int) ≤ (1 : Int32).toInt ∧ (1 : Int32).toInt ≤ 1 by decide) (by decide) (by decide) (by decide) (by decide), iq_add i148 (show (1 : Int) ≤ (1 : Int32).toInt ∧ (1 : Int32).toInt ≤ 1 by decide) (by decide) (by decide)⟩ (fun x149 qi150 => ?_)
                obtain ⟨i150, ei150⟩ := qi150
                refine tt_n (ix_ok i13 (by decide) (by decide)) ?_
                refine tt_ko ?_
                have k151 := ok_xp (k := 22) (i := v2.toNatClampNeg) (v := x149) k145 (show (0 : Int) ≤ _ ∧ _ ≤ (16 : Int) by omega)
                have r152 := fr_xp (k := 22) (i := v2.toNatClampNeg) (v := x149) r146 rfl
                have p153 : Rf (upd (o0.2.1 22) (v2.toNatClampNeg) x149) (upd (o0.2.1 23) (x141.toNatClampNeg) x143) (o0.2.1 19) := by have b9 : (o0.2.1 9 (0 : Int32).toNatClampNeg).toInt ≤ 1600 := (k_o0.2 9 _).2; have b8 : (o0.2.1 8 (0 : Int32).toNatClampNeg).toInt ≤ 1599 := (k_o0.2 8 _).2; exact Rf_row x_2 (fun t => (k_o0.2 22 t).2) (by omega) (by omega) (by rw [tn_n, tn_n]; omega) (by omega) (by omega)
                exact tt_some ⟨k151, r152, (iv_w (a := 0) (b := 1) (by decide) (by decide) f_o0_5), p153, trivial⟩
              · have wc133 : ¬ x131.toInt = (49 : Int) := c_ne c133
                try unfold fM_rowLine_324
                refine tt_n (ix_ok i13 (by decide) (by decide)) ?_
                refine tt_ko ?_
                have k154 := ok_xp (k := 24) (i := v2.toNatClampNeg) (v := (vp_nar .boolean 0)) k_o0 (iv_nz _)
                have r155 := fr_xp (k := 24) (i := v2.toNatClampNeg) (v := (vp_nar .boolean 0)) r_o0 rfl
                refine tt_kv (P := fun z => ((0 : Int) ≤ z.toInt ∧ z.toInt ≤ 464) ∧ z.toInt = 16 * v2.toInt) ⟨iv_mul (show (16 : Int) ≤ (16 : Int32).toInt ∧ (16 : Int32).toInt ≤ 16 by decide) i13 (by decide) (by decide) (by decide) (by decide) (by decide), iq_mul (show (16 : Int) ≤ (16 : Int32).toInt ∧ (16 : Int32).toInt ≤ 16 by decide) i13 (by decide) (by decide) (by decide) (by decide)⟩ (fun x156 qi157 => ?_)
                obtain ⟨i157, ei157⟩ := qi157
                refine tt_n (ix_ok i13 (by decide) (by decide)) ?_
                refine tt_kv (P := fun z => ((0 : Int) ≤ z.toInt ∧ z.toInt ≤ 16) ∧ z.toInt = (o0.2.1 22 v2.toNatClampNeg).toInt) ⟨(k154.2 22 _), rfl⟩ (fun x158 qi159 => ?_)
                obtain ⟨i159, ei159⟩ := qi159
                refine tt_kv (P := fun z => ((0 : Int) ≤ z.toInt ∧ z.toInt ≤ 480) ∧ z.toInt = x156.toInt + x158.toInt) ⟨iv_add i157 i159 (by decide) (by decide) (by decide) (by decide), iq_add i157 i159 (by decide) (by decide)⟩ (fun x160 qi161 => ?_)
                obtain ⟨i161, ei161⟩ := qi161
                refine tt_n (ix_ok (show (0 : Int) ≤ (0 : Int32).toInt ∧ (0 : Int32).toInt ≤ 0 by decide) (by decide) (by decide)) ?_
                refine tt_kv (P := fun z => ((0 : Int) ≤ z.toInt ∧ z.toInt ≤ 1599) ∧ z.toInt = (o0.2.1 8 (0 : Int32).toNatClampNeg).toInt) ⟨(k154.2 8 _), rfl⟩ (fun x162 qi163 => ?_)
                obtain ⟨i163, ei163⟩ := qi163
                refine tt_n (ix_ok i161 (by decide) (by decide)) ?_
                refine tt_ko ?_
                have k164 := ok_xp (k := 23) (i := x160.toNatClampNeg) (v := x162) k154 i163
                have r165 := fr_xp (k := 23) (i := x160.toNatClampNeg) (v := x162) r155 rfl
                refine tt_n (ix_ok i13 (by decide) (by decide)) ?_
                refine tt_kv (P := fun z => ((0 : Int) ≤ z.toInt ∧ z.toInt ≤ 16) ∧ z.toInt = (o0.2.1 22 v2.toNatClampNeg).toInt) ⟨(k164.2 22 _), rfl⟩ (fun x166 qi167 => ?_)
                obtain ⟨i167, ei167⟩ := qi167
                refine tt_kv (P := fun z => ((1 : Int) ≤ z.toInt ∧ z.toInt ≤ 17) ∧ z.toInt = x166.toInt + 1) ⟨iv_add i167 (show (1 : Int) ≤ (1 : Int32).toInt ∧ (1 : Int32).toInt ≤ 1 by decide) (by decide) (by decide) (by decide) (by decide), iq_add i167 (show (1 : Int) ≤ (1 : Int32).toInt ∧ (1 : Int32).toInt ≤ 1 by decide) (by decide) (by decide)⟩ (fun x168 qi169 => ?_)
                obtain ⟨i169, ei169⟩ := qi169
                refine tt_n (ix_ok i13 (by decide) (by decide)) ?_
                refine tt_ko ?_
                have k170 := ok_xp (k := 22) (i := v2.toNatClampNeg) (v := x168) k164 (show (0 : Int) ≤ _ ∧ _ ≤ (16 : Int) by omega)
                have r171 := fr_xp (k := 22) (i := v2.toNatClampNeg) (v := x168) r165 rfl
                have p172 : Rf (upd (o0.2.1 22) (v2.toNatClampNeg) x168) (upd (o0.2.1 23) (x160.toNatClampNeg) x162) (o0.2.1 19) := by have b9 : (o0.2.1 9 (0 : Int32).toNatClampNeg).toInt ≤ 1600 := (k_o0.2 9 _).2; have b8 : (o0.2.1 8 (0 : Int32).toNatClampNeg).toInt ≤ 1599 := (k_o0.2 8 _).2; exact Rf_row x_2 (fun t => (k_o0.2 22 t).2) (by omega) (by omega) (by rw [tn_n, tn_n]; omega) (by omega) (by omega)
                exact tt_some ⟨k170, r171, (iv_w (a := 0) (b := 1) (by decide) (by decide) f_o0_5), p172, trivial⟩
          · have wc126 : ¬ x64.toInt = (0 : Int) := c_ne c126
            have i173 : (1 : Int) ≤ x64.toInt ∧ x64.toInt ≤ 1 := nr_nela c126 i65 (show (0 : Int) ≤ (0 : Int32).toInt ∧ (0 : Int32).toInt ≤ 0 by decide) (by decide) (by decide)
            try unfold fM_rowLine_282
            try unfold fM_rowLine_283
            refine tt_if (fun c174 => ?_) (fun c174 => ?_)
            · have wc174 : (0 : Int) = (0 : Int) := c_eq c174
              try unfold fM_fail
              try unfold fM_fail_0
              refine tt_bif (fun c175 => ?_) (fun c175 => ?_)
              · have wc175 : (o0.1 5).toInt = (0 : Int) := c_eq c175
                refine tt_bko ?_
                have k176 := ok_fp (k := 5) (v := 1) k_o0 (iv_w (a := 0) (b := 4) (by decide) (by decide) (show (1 : Int) ≤ (1 : Int32).toInt ∧ (1 : Int32).toInt ≤ 1 by decide))
                have r177 := fr_fp (k := 5) (v := 1) r_o0 rfl
                refine tt_bko ?_
                have k178 := ok_fp (k := 6) (v := v1) k176 (iv_top v1)
                have r179 := fr_fp (k := 6) (v := v1) r177 rfl
                try unfold fM_fail_17
                refine tt_bs ?_
                exact tt_some ⟨k178, r179, (iv_w (a := 0) (b := 1) (by decide) (by decide) (show (1 : Int) ≤ (1 : Int32).toInt ∧ (1 : Int32).toInt ≤ 1 by decide)), x_2, trivial⟩
              · have wc175 : ¬ (o0.1 5).toInt = (0 : Int) := c_ne c175
                exact (dd_ne c175 f_o0_5 (show (0 : Int) ≤ (0 : Int32).toInt ∧ (0 : Int32).toInt ≤ 0 by decide)).elim
            · have wc174 : ¬ (0 : Int) = (0 : Int) := c_ne c174
              exact (dd_ne c174 (show (0 : Int) ≤ (0 : Int32).toInt ∧ (0 : Int32).toInt ≤ 0 by decide) (show (0 : Int) ≤ (0 : Int32).toInt ∧ (0 : Int32).toInt ≤ 0 by decide)).elim
  · have wc3 : v6.toInt < x1.toInt := c_nle c3
    have i180 : (0 : Int) ≤ v6.toInt ∧ v6.toInt ≤ 1599 := nr_nlel c3 i_v6 i2 (by decide) (by decide)
    have i181 : (1 : Int) ≤ x1.toInt ∧ x1.toInt ≤ 1600 := nr_nler c3 i_v6 i2 (by decide) (by decide)
    refine tt_if (fun c182 => ?_) (fun c182 => ?_)
    · have wc182 : v4.toInt = (0 : Int) := c_eq c182
      have i183 : (0 : Int) ≤ v4.toInt ∧ v4.toInt ≤ 0 := nr_eql c182 i_v4 (show (0 : Int) ≤ (0 : Int32).toInt ∧ (0 : Int32).toInt ≤ 0 by decide) (by decide) (by decide)
      try unfold fM_rowLine_233
      refine tt_if (fun c184 => ?_) (fun c184 => ?_)
      · have wc184 : v4.toInt = (0 : Int) := c_eq c184
        try unfold fM_rowLine_282
        try unfold fM_rowLine_283
        refine tt_if (fun c185 => ?_) (fun c185 => ?_)
        · have wc185 : (0 : Int) = (0 : Int) := c_eq c185
          try unfold fM_fail
          try unfold fM_fail_0
          refine tt_bif (fun c186 => ?_) (fun c186 => ?_)
          · have wc186 : (o0.1 5).toInt = (0 : Int) := c_eq c186
            refine tt_bko ?_
            have k187 := ok_fp (k := 5) (v := 1) k_o0 (iv_w (a := 0) (b := 4) (by decide) (by decide) (show (1 : Int) ≤ (1 : Int32).toInt ∧ (1 : Int32).toInt ≤ 1 by decide))
            have r188 := fr_fp (k := 5) (v := 1) r_o0 rfl
            refine tt_bko ?_
            have k189 := ok_fp (k := 6) (v := v1) k187 (iv_top v1)
            have r190 := fr_fp (k := 6) (v := v1) r188 rfl
            try unfold fM_fail_17
            refine tt_bs ?_
            exact tt_some ⟨k189, r190, (iv_w (a := 0) (b := 1) (by decide) (by decide) (show (1 : Int) ≤ (1 : Int32).toInt ∧ (1 : Int32).toInt ≤ 1 by decide)), x_2, trivial⟩
          · have wc186 : ¬ (o0.1 5).toInt = (0 : Int) := c_ne c186
            exact (dd_ne c186 f_o0_5 (show (0 : Int) ≤ (0 : Int32).toInt ∧ (0 : Int32).toInt ≤ 0 by decide)).elim
        · have wc185 : ¬ (0 : Int) = (0 : Int) := c_ne c185
          exact (dd_ne c185 (show (0 : Int) ≤ (0 : Int32).toInt ∧ (0 : Int32).toInt ≤ 0 by decide) (show (0 : Int) ≤ (0 : Int32).toInt ∧ (0 : Int32).toInt ≤ 0 by decide)).elim
      · have wc184 : ¬ v4.toInt = (0 : Int) := c_ne c184
        exact (dd_ne c184 i183 (show (0 : Int) ≤ (0 : Int32).toInt ∧ (0 : Int32).toInt ≤ 0 by decide)).elim
    · have wc182 : ¬ v4.toInt = (0 : Int) := c_ne c182
      have i191 : (1 : Int) ≤ v4.toInt ∧ v4.toInt ≤ 1 := nr_nela c182 i_v4 (show (0 : Int) ≤ (0 : Int32).toInt ∧ (0 : Int32).toInt ≤ 0 by decide) (by decide) (by decide)
      refine tt_if (fun c192 => ?_) (fun c192 => ?_)
      · have wc192 : v3.toInt ≤ (0 : Int) := c_le c192
        have i193 : ((-1) : Int) ≤ v3.toInt ∧ v3.toInt ≤ 0 := nr_lel c192 i_v3 (show (0 : Int) ≤ (0 : Int32).toInt ∧ (0 : Int32).toInt ≤ 0 by decide) (by decide) (by decide)
        try unfold fM_rowLine_233
        refine tt_if (fun c194 => ?_) (fun c194 => ?_)
        · have wc194 : v4.toInt = (0 : Int) := c_eq c194
          exact (dd_eq c194 i191 (show (0 : Int) ≤ (0 : Int32).toInt ∧ (0 : Int32).toInt ≤ 0 by decide) (by decide)).elim
        · have wc194 : ¬ v4.toInt = (0 : Int) := c_ne c194
          refine tt_n (ix_rel (by omega) (by omega)) ?_
          have i195 : (0 : Int) ≤ v2.toInt ∧ v2.toInt ≤ 29 := (by omega)
          refine tt_kv (P := fun z => ((0 : Int) ≤ z.toInt ∧ z.toInt ≤ 16) ∧ z.toInt = (o0.2.1 22 v2.toNatClampNeg).toInt) ⟨(k_o0.2 22 _), rfl⟩ (fun x196 qi197 => ?_)
          obtain ⟨i197, ei197⟩ := qi197
          refine tt_if (fun c198 => ?_) (fun c198 => ?_)
          · have wc198 : x196.toInt = (0 : Int) := c_eq c198
            have i199 : (0 : Int) ≤ x196.toInt ∧ x196.toInt ≤ 0 := nr_eql c198 i197 (show (0 : Int) ≤ (0 : Int32).toInt ∧ (0 : Int32).toInt ≤ 0 by decide) (by decide) (by decide)
            try unfold fM_rowLine_278
            try unfold fM_rowLine_283
            refine tt_if (fun c200 => ?_) (fun c200 => ?_)
            · have wc200 : (1 : Int) = (0 : Int) := c_eq c200
              exact (dd_eq c200 (show (1 : Int) ≤ (1 : Int32).toInt ∧ (1 : Int32).toInt ≤ 1 by decide) (show (0 : Int) ≤ (0 : Int32).toInt ∧ (0 : Int32).toInt ≤ 0 by decide) (by decide)).elim
            · have wc200 : ¬ (1 : Int) = (0 : Int) := c_ne c200
              refine tt_n (ix_ok i_v5 (by decide) (by decide)) ?_
              refine tt_kv (P := fun z => ((0 : Int) ≤ z.toInt ∧ z.toInt ≤ 1599) ∧ z.toInt = (o0.2.1 8 v5.toNatClampNeg).toInt) ⟨(k_o0.2 8 _), rfl⟩ (fun x201 qi202 => ?_)
              obtain ⟨i202, ei202⟩ := qi202
              refine tt_n (ix_ok i202 (by decide) (by decide)) ?_
              refine tt_kv (P := fun z => ((0 : Int) ≤ z.toInt ∧ z.toInt ≤ 255) ∧ z.toInt = (o0.2.1 1 x201.toNatClampNeg).toInt) ⟨(k_o0.2 1 _), rfl⟩ (fun x203 qi204 => ?_)
              obtain ⟨i204, ei204⟩ := qi204
              refine tt_if (fun c205 => ?_) (fun c205 => ?_)
              · have wc205 : x203.toInt = (49 : Int) := c_eq c205
                have i206 : (49 : Int) ≤ x203.toInt ∧ x203.toInt ≤ 49 := nr_eql c205 i204 (show (49 : Int) ≤ (49 : Int32).toInt ∧ (49 : Int32).toInt ≤ 49 by decide) (by decide) (by decide)
                try unfold fM_rowLine_324
                refine tt_n (ix_ok i195 (by decide) (by decide)) ?_
                refine tt_ko ?_
                have k207 := ok_xp (k := 24) (i := v2.toNatClampNeg) (v := (vp_nar .boolean 1)) k_o0 (iv_nz _)
                have r208 := fr_xp (k := 24) (i := v2.toNatClampNeg) (v := (vp_nar .boolean 1)) r_o0 rfl
                refine tt_kv (P := fun z => ((0 : Int) ≤ z.toInt ∧ z.toInt ≤ 464) ∧ z.toInt = 16 * v2.toInt) ⟨iv_mul (show (16 : Int) ≤ (16 : Int32).toInt ∧ (16 : Int32).toInt ≤ 16 by decide) i195 (by decide) (by decide) (by decide) (by decide) (by decide), iq_mul (show (16 : Int) ≤ (16 : Int32).toInt ∧ (16 : Int32).toInt ≤ 16 by decide) i195 (by decide) (by decide) (by decide) (by decide)⟩ (fun x209 qi210 => ?_)
                obtain ⟨i210, ei210⟩ := qi210
                refine tt_n (ix_ok i195 (by decide) (by decide)) ?_
                refine tt_kv (P := fun z => ((0 : Int) ≤ z.toInt ∧ z.toInt ≤ 16) ∧ z.toInt = (o0.2.1 22 v2.toNatClampNeg).toInt) ⟨(k207.2 22 _), rfl⟩ (fun x211 qi212 => ?_)
                obtain ⟨i212, ei212⟩ := qi212
                refine tt_kv (P := fun z => ((0 : Int) ≤ z.toInt ∧ z.toInt ≤ 480) ∧ z.toInt = x209.toInt + x211.toInt) ⟨iv_add i210 i212 (by decide) (by decide) (by decide) (by decide), iq_add i210 i212 (by decide) (by decide)⟩ (fun x213 qi214 => ?_)
                obtain ⟨i214, ei214⟩ := qi214
                refine tt_n (ix_ok (show (0 : Int) ≤ (0 : Int32).toInt ∧ (0 : Int32).toInt ≤ 0 by decide) (by decide) (by decide)) ?_
                refine tt_kv (P := fun z => ((0 : Int) ≤ z.toInt ∧ z.toInt ≤ 1599) ∧ z.toInt = (o0.2.1 8 (0 : Int32).toNatClampNeg).toInt) ⟨(k207.2 8 _), rfl⟩ (fun x215 qi216 => ?_)
                obtain ⟨i216, ei216⟩ := qi216
                refine tt_n (ix_ok i214 (by decide) (by decide)) ?_
                refine tt_ko ?_
                have k217 := ok_xp (k := 23) (i := x213.toNatClampNeg) (v := x215) k207 i216
                have r218 := fr_xp (k := 23) (i := x213.toNatClampNeg) (v := x215) r208 rfl
                refine tt_n (ix_ok i195 (by decide) (by decide)) ?_
                refine tt_kv (P := fun z => ((0 : Int) ≤ z.toInt ∧ z.toInt ≤ 16) ∧ z.toInt = (o0.2.1 22 v2.toNatClampNeg).toInt) ⟨(k217.2 22 _), rfl⟩ (fun x219 qi220 => ?_)
                obtain ⟨i220, ei220⟩ := qi220
                refine tt_kv (P := fun z => ((1 : Int) ≤ z.toInt ∧ z.toInt ≤ 17) ∧ z.toInt = x219.toInt + 1) ⟨iv_add i220 (show (1 : Int) ≤ (1 : Int32).toInt ∧ (1 : Int32).toInt ≤ 1 by decide) (by decide) (by decide) (by decide) (by decide), iq_add i220 (show (1 : Int) ≤ (1 : Int32).toInt ∧ (1 : Int32).toInt ≤ 1 by decide) (by decide) (by decide)⟩ (fun x221 qi222 => ?_)
                obtain ⟨i222, ei222⟩ := qi222
                refine tt_n (ix_ok i195 (by decide) (by decide)) ?_
                refine tt_ko ?_
                have k223 := ok_xp (k := 22) (i := v2.toNatClampNeg) (v := x221) k217 (show (0 : Int) ≤ _ ∧ _ ≤ (16 : Int) by omega)
                have r224 := fr_xp (k := 22) (i := v2.toNatClampNeg) (v := x221) r218 rfl
                have p225 : Rf (upd (o0.2.1 22) (v2.toNatClampNeg) x221) (upd (o0.2.1 23) (x213.toNatClampNeg) x215) (o0.2.1 19) := by have b9 : (o0.2.1 9 (0 : Int32).toNatClampNeg).toInt ≤ 1600 := (k_o0.2 9 _).2; have b8 : (o0.2.1 8 (0 : Int32).toNatClampNeg).toInt ≤ 1599 := (k_o0.2 8 _).2; exact Rf_row x_2 (fun t => (k_o0.2 22 t).2) (by omega) (by omega) (by rw [tn_n, tn_n]; omega) (by omega) (by omega)
                exact tt_some ⟨k223, r224, (iv_w (a := 0) (b := 1) (by decide) (by decide) f_o0_5), p225, trivial⟩
              · have wc205 : ¬ x203.toInt = (49 : Int) := c_ne c205
                try unfold fM_rowLine_324
                refine tt_n (ix_ok i195 (by decide) (by decide)) ?_
                refine tt_ko ?_
                have k226 := ok_xp (k := 24) (i := v2.toNatClampNeg) (v := (vp_nar .boolean 0)) k_o0 (iv_nz _)
                have r227 := fr_xp (k := 24) (i := v2.toNatClampNeg) (v := (vp_nar .boolean 0)) r_o0 rfl
                refine tt_kv (P := fun z => ((0 : Int) ≤ z.toInt ∧ z.toInt ≤ 464) ∧ z.toInt = 16 * v2.toInt) ⟨iv_mul (show (16 : Int) ≤ (16 : Int32).toInt ∧ (16 : Int32).toInt ≤ 16 by decide) i195 (by decide) (by decide) (by decide) (by decide) (by decide), iq_mul (show (16 : Int) ≤ (16 : Int32).toInt ∧ (16 : Int32).toInt ≤ 16 by decide) i195 (by decide) (by decide) (by decide) (by decide)⟩ (fun x228 qi229 => ?_)
                obtain ⟨i229, ei229⟩ := qi229
                refine tt_n (ix_ok i195 (by decide) (by decide)) ?_
                refine tt_kv (P := fun z => ((0 : Int) ≤ z.toInt ∧ z.toInt ≤ 16) ∧ z.toInt = (o0.2.1 22 v2.toNatClampNeg).toInt) ⟨(k226.2 22 _), rfl⟩ (fun x230 qi231 => ?_)
                obtain ⟨i231, ei231⟩ := qi231
                refine tt_kv (P := fun z => ((0 : Int) ≤ z.toInt ∧ z.toInt ≤ 480) ∧ z.toInt = x228.toInt + x230.toInt) ⟨iv_add i229 i231 (by decide) (by decide) (by decide) (by decide), iq_add i229 i231 (by decide) (by decide)⟩ (fun x232 qi233 => ?_)
                obtain ⟨i233, ei233⟩ := qi233
                refine tt_n (ix_ok (show (0 : Int) ≤ (0 : Int32).toInt ∧ (0 : Int32).toInt ≤ 0 by decide) (by decide) (by decide)) ?_
                refine tt_kv (P := fun z => ((0 : Int) ≤ z.toInt ∧ z.toInt ≤ 1599) ∧ z.toInt = (o0.2.1 8 (0 : Int32).toNatClampNeg).toInt) ⟨(k226.2 8 _), rfl⟩ (fun x234 qi235 => ?_)
                obtain ⟨i235, ei235⟩ := qi235
                refine tt_n (ix_ok i233 (by decide) (by decide)) ?_
                refine tt_ko ?_
                have k236 := ok_xp (k := 23) (i := x232.toNatClampNeg) (v := x234) k226 i235
                have r237 := fr_xp (k := 23) (i := x232.toNatClampNeg) (v := x234) r227 rfl
                refine tt_n (ix_ok i195 (by decide) (by decide)) ?_
                refine tt_kv (P := fun z => ((0 : Int) ≤ z.toInt ∧ z.toInt ≤ 16) ∧ z.toInt = (o0.2.1 22 v2.toNatClampNeg).toInt) ⟨(k236.2 22 _), rfl⟩ (fun x238 qi239 => ?_)
                obtain ⟨i239, ei239⟩ := qi239
                refine tt_kv (P := fun z => ((1 : Int) ≤ z.toInt ∧ z.toInt ≤ 17) ∧ z.toInt = x238.toInt + 1) ⟨iv_add i239 (show (1 : Int) ≤ (1 : Int32).toInt ∧ (1 : Int32).toInt ≤ 1 by decide) (by decide) (by decide) (by decide) (by decide), iq_add i239 (show (1 : Int) ≤ (1 : Int32).toInt ∧ (1 : Int32).toInt ≤ 1 by decide) (by decide) (by decide)⟩ (fun x240 qi241 => ?_)
                obtain ⟨i241, ei241⟩ := qi241
                refine tt_n (ix_ok i195 (by decide) (by decide)) ?_
                refine tt_ko ?_
                have k242 := ok_xp (k := 22) (i := v2.toNatClampNeg) (v := x240) k236 (show (0 : Int) ≤ _ ∧ _ ≤ (16 : Int) by omega)
                have r243 := fr_xp (k := 22) (i := v2.toNatClampNeg) (v := x240) r237 rfl
                have p244 : Rf (upd (o0.2.1 22) (v2.toNatClampNeg) x240) (upd (o0.2.1 23) (x232.toNatClampNeg) x234) (o0.2.1 19) := by have b9 : (o0.2.1 9 (0 : Int32).toNatClampNeg).toInt ≤ 1600 := (k_o0.2 9 _).2; have b8 : (o0.2.1 8 (0 : Int32).toNatClampNeg).toInt ≤ 1599 := (k_o0.2 8 _).2; exact Rf_row x_2 (fun t => (k_o0.2 22 t).2) (by omega) (by omega) (by rw [tn_n, tn_n]; omega) (by omega) (by omega)
                exact tt_some ⟨k242, r243, (iv_w (a := 0) (b := 1) (by decide) (by decide) f_o0_5), p244, trivial⟩
          · have wc198 : ¬ x196.toInt = (0 : Int) := c_ne c198
            have i245 : (1 : Int) ≤ x196.toInt ∧ x196.toInt ≤ 16 := nr_nela c198 i197 (show (0 : Int) ≤ (0 : Int32).toInt ∧ (0 : Int32).toInt ≤ 0 by decide) (by decide) (by decide)
            refine tt_n (ix_ok i195 (by decide) (by decide)) ?_
            refine tt_kv (P := fun z => ((0 : Int) ≤ z.toInt ∧ z.toInt ≤ 1) ∧ z.toInt = (o0.2.1 24 v2.toNatClampNeg).toInt) ⟨(k_o0.2 24 _), rfl⟩ (fun x246 qi247 => ?_)
            obtain ⟨i247, ei247⟩ := qi247
            refine tt_n (ix_ok i_v5 (by decide) (by decide)) ?_
            refine tt_kv (P := fun z => ((0 : Int) ≤ z.toInt ∧ z.toInt ≤ 1599) ∧ z.toInt = (o0.2.1 8 v5.toNatClampNeg).toInt) ⟨(k_o0.2 8 _), rfl⟩ (fun x248 qi249 => ?_)
            obtain ⟨i249, ei249⟩ := qi249
            refine tt_n (ix_ok i249 (by decide) (by decide)) ?_
            refine tt_kv (P := fun z => ((0 : Int) ≤ z.toInt ∧ z.toInt ≤ 255) ∧ z.toInt = (o0.2.1 1 x248.toNatClampNeg).toInt) ⟨(k_o0.2 1 _), rfl⟩ (fun x250 qi251 => ?_)
            obtain ⟨i251, ei251⟩ := qi251
            refine tt_if (fun c252 => ?_) (fun c252 => ?_)
            · have wc252 : x250.toInt = (49 : Int) := c_eq c252
              have i253 : (49 : Int) ≤ x250.toInt ∧ x250.toInt ≤ 49 := nr_eql c252 i251 (show (49 : Int) ≤ (49 : Int32).toInt ∧ (49 : Int32).toInt ≤ 49 by decide) (by decide) (by decide)
              try unfold fM_rowLine_275
              refine tt_if (fun c254 => ?_) (fun c254 => ?_)
              · have wc254 : x246.toInt = (1 : Int) := c_eq c254
                have i255 : (1 : Int) ≤ x246.toInt ∧ x246.toInt ≤ 1 := nr_eql c254 i247 (show (1 : Int) ≤ (1 : Int32).toInt ∧ (1 : Int32).toInt ≤ 1 by decide) (by decide) (by decide)
                try unfold fM_rowLine_278
                try unfold fM_rowLine_283
                refine tt_if (fun c256 => ?_) (fun c256 => ?_)
                · have wc256 : (1 : Int) = (0 : Int) := c_eq c256
                  exact (dd_eq c256 (show (1 : Int) ≤ (1 : Int32).toInt ∧ (1 : Int32).toInt ≤ 1 by decide) (show (0 : Int) ≤ (0 : Int32).toInt ∧ (0 : Int32).toInt ≤ 0 by decide) (by decide)).elim
                · have wc256 : ¬ (1 : Int) = (0 : Int) := c_ne c256
                  refine tt_n (ix_ok i_v5 (by decide) (by decide)) ?_
                  refine tt_kv (P := fun z => ((0 : Int) ≤ z.toInt ∧ z.toInt ≤ 1599) ∧ z.toInt = (o0.2.1 8 v5.toNatClampNeg).toInt) ⟨(k_o0.2 8 _), rfl⟩ (fun x257 qi258 => ?_)
                  obtain ⟨i258, ei258⟩ := qi258
                  refine tt_n (ix_ok i258 (by decide) (by decide)) ?_
                  refine tt_kv (P := fun z => ((0 : Int) ≤ z.toInt ∧ z.toInt ≤ 255) ∧ z.toInt = (o0.2.1 1 x257.toNatClampNeg).toInt) ⟨(k_o0.2 1 _), rfl⟩ (fun x259 qi260 => ?_)
                  obtain ⟨i260, ei260⟩ := qi260
                  refine tt_if (fun c261 => ?_) (fun c261 => ?_)
                  · have wc261 : x259.toInt = (49 : Int) := c_eq c261
                    have i262 : (49 : Int) ≤ x259.toInt ∧ x259.toInt ≤ 49 := nr_eql c261 i260 (show (49 : Int) ≤ (49 : Int32).toInt ∧ (49 : Int32).toInt ≤ 49 by decide) (by decide) (by decide)
                    try unfold fM_rowLine_324
                    refine tt_n (ix_ok i195 (by decide) (by decide)) ?_
                    refine tt_ko ?_
                    have k263 := ok_xp (k := 24) (i := v2.toNatClampNeg) (v := (vp_nar .boolean 1)) k_o0 (iv_nz _)
                    have r264 := fr_xp (k := 24) (i := v2.toNatClampNeg) (v := (vp_nar .boolean 1)) r_o0 rfl
                    refine tt_kv (P := fun z => ((0 : Int) ≤ z.toInt ∧ z.toInt ≤ 464) ∧ z.toInt = 16 * v2.toInt) ⟨iv_mul (show (16 : Int) ≤ (16 : Int32).toInt ∧ (16 : Int32).toInt ≤ 16 by decide) i195 (by decide) (by decide) (by decide) (by decide) (by decide), iq_mul (show (16 : Int) ≤ (16 : Int32).toInt ∧ (16 : Int32).toInt ≤ 16 by decide) i195 (by decide) (by decide) (by decide) (by decide)⟩ (fun x265 qi266 => ?_)
                    obtain ⟨i266, ei266⟩ := qi266
                    refine tt_n (ix_ok i195 (by decide) (by decide)) ?_
                    refine tt_kv (P := fun z => ((0 : Int) ≤ z.toInt ∧ z.toInt ≤ 16) ∧ z.toInt = (o0.2.1 22 v2.toNatClampNeg).toInt) ⟨(k263.2 22 _), rfl⟩ (fun x267 qi268 => ?_)
                    obtain ⟨i268, ei268⟩ := qi268
                    refine tt_kv (P := fun z => ((0 : Int) ≤ z.toInt ∧ z.toInt ≤ 480) ∧ z.toInt = x265.toInt + x267.toInt) ⟨iv_add i266 i268 (by decide) (by decide) (by decide) (by decide), iq_add i266 i268 (by decide) (by decide)⟩ (fun x269 qi270 => ?_)
                    obtain ⟨i270, ei270⟩ := qi270
                    refine tt_n (ix_ok (show (0 : Int) ≤ (0 : Int32).toInt ∧ (0 : Int32).toInt ≤ 0 by decide) (by decide) (by decide)) ?_
                    refine tt_kv (P := fun z => ((0 : Int) ≤ z.toInt ∧ z.toInt ≤ 1599) ∧ z.toInt = (o0.2.1 8 (0 : Int32).toNatClampNeg).toInt) ⟨(k263.2 8 _), rfl⟩ (fun x271 qi272 => ?_)
                    obtain ⟨i272, ei272⟩ := qi272
                    refine tt_n (ix_ok i270 (by decide) (by decide)) ?_
                    refine tt_ko ?_
                    have k273 := ok_xp (k := 23) (i := x269.toNatClampNeg) (v := x271) k263 i272
                    have r274 := fr_xp (k := 23) (i := x269.toNatClampNeg) (v := x271) r264 rfl
                    refine tt_n (ix_ok i195 (by decide) (by decide)) ?_
                    refine tt_kv (P := fun z => ((0 : Int) ≤ z.toInt ∧ z.toInt ≤ 16) ∧ z.toInt = (o0.2.1 22 v2.toNatClampNeg).toInt) ⟨(k273.2 22 _), rfl⟩ (fun x275 qi276 => ?_)
                    obtain ⟨i276, ei276⟩ := qi276
                    refine tt_kv (P := fun z => ((1 : Int) ≤ z.toInt ∧ z.toInt ≤ 17) ∧ z.toInt = x275.toInt + 1) ⟨iv_add i276 (show (1 : Int) ≤ (1 : Int32).toInt ∧ (1 : Int32).toInt ≤ 1 by decide) (by decide) (by decide) (by decide) (by decide), iq_add i276 (show (1 : Int) ≤ (1 : Int32).toInt ∧ (1 : Int32).toInt ≤ 1 by decide) (by decide) (by decide)⟩ (fun x277 qi278 => ?_)
                    obtain ⟨i278, ei278⟩ := qi278
                    refine tt_n (ix_ok i195 (by decide) (by decide)) ?_
                    refine tt_ko ?_
                    have k279 := ok_xp (k := 22) (i := v2.toNatClampNeg) (v := x277) k273 (show (0 : Int) ≤ _ ∧ _ ≤ (16 : Int) by omega)
                    have r280 := fr_xp (k := 22) (i := v2.toNatClampNeg) (v := x277) r274 rfl
                    have p281 : Rf (upd (o0.2.1 22) (v2.toNatClampNeg) x277) (upd (o0.2.1 23) (x269.toNatClampNeg) x271) (o0.2.1 19) := by have b9 : (o0.2.1 9 (0 : Int32).toNatClampNeg).toInt ≤ 1600 := (k_o0.2 9 _).2; have b8 : (o0.2.1 8 (0 : Int32).toNatClampNeg).toInt ≤ 1599 := (k_o0.2 8 _).2; exact Rf_row x_2 (fun t => (k_o0.2 22 t).2) (by omega) (by omega) (by rw [tn_n, tn_n]; omega) (by omega) (by omega)
                    exact tt_some ⟨k279, r280, (iv_w (a := 0) (b := 1) (by decide) (by decide) f_o0_5), p281, trivial⟩
                  · have wc261 : ¬ x259.toInt = (49 : Int) := c_ne c261
                    try unfold fM_rowLine_324
                    refine tt_n (ix_ok i195 (by decide) (by decide)) ?_
                    refine tt_ko ?_
                    have k282 := ok_xp (k := 24) (i := v2.toNatClampNeg) (v := (vp_nar .boolean 0)) k_o0 (iv_nz _)
                    have r283 := fr_xp (k := 24) (i := v2.toNatClampNeg) (v := (vp_nar .boolean 0)) r_o0 rfl
                    refine tt_kv (P := fun z => ((0 : Int) ≤ z.toInt ∧ z.toInt ≤ 464) ∧ z.toInt = 16 * v2.toInt) ⟨iv_mul (show (16 : Int) ≤ (16 : Int32).toInt ∧ (16 : Int32).toInt ≤ 16 by decide) i195 (by decide) (by decide) (by decide) (by decide) (by decide), iq_mul (show (16 : Int) ≤ (16 : Int32).toInt ∧ (16 : Int32).toInt ≤ 16 by decide) i195 (by decide) (by decide) (by decide) (by decide)⟩ (fun x284 qi285 => ?_)
                    obtain ⟨i285, ei285⟩ := qi285
                    refine tt_n (ix_ok i195 (by decide) (by decide)) ?_
                    refine tt_kv (P := fun z => ((0 : Int) ≤ z.toInt ∧ z.toInt ≤ 16) ∧ z.toInt = (o0.2.1 22 v2.toNatClampNeg).toInt) ⟨(k282.2 22 _), rfl⟩ (fun x286 qi287 => ?_)
                    obtain ⟨i287, ei287⟩ := qi287
                    refine tt_kv (P := fun z => ((0 : Int) ≤ z.toInt ∧ z.toInt ≤ 480) ∧ z.toInt = x284.toInt + x286.toInt) ⟨iv_add i285 i287 (by decide) (by decide) (by decide) (by decide), iq_add i285 i287 (by decide) (by decide)⟩ (fun x288 qi289 => ?_)
                    obtain ⟨i289, ei289⟩ := qi289
                    refine tt_n (ix_ok (show (0 : Int) ≤ (0 : Int32).toInt ∧ (0 : Int32).toInt ≤ 0 by decide) (by decide) (by decide)) ?_
                    refine tt_kv (P := fun z => ((0 : Int) ≤ z.toInt ∧ z.toInt ≤ 1599) ∧ z.toInt = (o0.2.1 8 (0 : Int32).toNatClampNeg).toInt) ⟨(k282.2 8 _), rfl⟩ (fun x290 qi291 => ?_)
                    obtain ⟨i291, ei291⟩ := qi291
                    refine tt_n (ix_ok i289 (by decide) (by decide)) ?_
                    refine tt_ko ?_
                    have k292 := ok_xp (k := 23) (i := x288.toNatClampNeg) (v := x290) k282 i291
                    have r293 := fr_xp (k := 23) (i := x288.toNatClampNeg) (v := x290) r283 rfl
                    refine tt_n (ix_ok i195 (by decide) (by decide)) ?_
                    refine tt_kv (P := fun z => ((0 : Int) ≤ z.toInt ∧ z.toInt ≤ 16) ∧ z.toInt = (o0.2.1 22 v2.toNatClampNeg).toInt) ⟨(k292.2 22 _), rfl⟩ (fun x294 qi295 => ?_)
                    obtain ⟨i295, ei295⟩ := qi295
                    refine tt_kv (P := fun z => ((1 : Int) ≤ z.toInt ∧ z.toInt ≤ 17) ∧ z.toInt = x294.toInt + 1) ⟨iv_add i295 (show (1 : Int) ≤ (1 : Int32).toInt ∧ (1 : Int32).toInt ≤ 1 by decide) (by decide) (by decide) (by decide) (by decide), iq_add i295 (show (1 : Int) ≤ (1 : Int32).toInt ∧ (1 : Int32).toInt ≤ 1 by decide) (by decide) (by decide)⟩ (fun x296 qi297 => ?_)
                    obtain ⟨i297, ei297⟩ := qi297
                    refine tt_n (ix_ok i195 (by decide) (by decide)) ?_
                    refine tt_ko ?_
                    have k298 := ok_xp (k := 22) (i := v2.toNatClampNeg) (v := x296) k292 (show (0 : Int) ≤ _ ∧ _ ≤ (16 : Int) by omega)
                    have r299 := fr_xp (k := 22) (i := v2.toNatClampNeg) (v := x296) r293 rfl
                    have p300 : Rf (upd (o0.2.1 22) (v2.toNatClampNeg) x296) (upd (o0.2.1 23) (x288.toNatClampNeg) x290) (o0.2.1 19) := by have b9 : (o0.2.1 9 (0 : Int32).toNatClampNeg).toInt ≤ 1600 := (k_o0.2 9 _).2; have b8 : (o0.2.1 8 (0 : Int32).toNatClampNeg).toInt ≤ 1599 := (k_o0.2 8 _).2; exact Rf_row x_2 (fun t => (k_o0.2 22 t).2) (by omega) (by omega) (by rw [tn_n, tn_n]; omega) (by omega) (by omega)
                    exact tt_some ⟨k298, r299, (iv_w (a := 0) (b := 1) (by decide) (by decide) f_o0_5), p300, trivial⟩
              · have wc254 : ¬ x246.toInt = (1 : Int) := c_ne c254
                have i301 : (0 : Int) ≤ x246.toInt ∧ x246.toInt ≤ 0 := nr_nelb c254 i247 (show (1 : Int) ≤ (1 : Int32).toInt ∧ (1 : Int32).toInt ≤ 1 by decide) (by decide) (by decide)
                try unfold fM_rowLine_282
                try unfold fM_rowLine_283
                refine tt_if (fun c302 => ?_) (fun c302 => ?_)
                · have wc302 : (0 : Int) = (0 : Int) := c_eq c302
                  try unfold fM_fail
                  try unfold fM_fail_0
                  refine tt_bif (fun c303 => ?_) (fun c303 => ?_)
                  · have wc303 : (o0.1 5).toInt = (0 : Int) := c_eq c303
                    refine tt_bko ?_
                    have k304 := ok_fp (k := 5) (v := 1) k_o0 (iv_w (a := 0) (b := 4) (by decide) (by decide) (show (1 : Int) ≤ (1 : Int32).toInt ∧ (1 : Int32).toInt ≤ 1 by decide))
                    have r305 := fr_fp (k := 5) (v := 1) r_o0 rfl
                    refine tt_bko ?_
                    have k306 := ok_fp (k := 6) (v := v1) k304 (iv_top v1)
                    have r307 := fr_fp (k := 6) (v := v1) r305 rfl
                    try unfold fM_fail_17
                    refine tt_bs ?_
                    exact tt_some ⟨k306, r307, (iv_w (a := 0) (b := 1) (by decide) (by decide) (show (1 : Int) ≤ (1 : Int32).toInt ∧ (1 : Int32).toInt ≤ 1 by decide)), x_2, trivial⟩
                  · have wc303 : ¬ (o0.1 5).toInt = (0 : Int) := c_ne c303
                    exact (dd_ne c303 f_o0_5 (show (0 : Int) ≤ (0 : Int32).toInt ∧ (0 : Int32).toInt ≤ 0 by decide)).elim
                · have wc302 : ¬ (0 : Int) = (0 : Int) := c_ne c302
                  exact (dd_ne c302 (show (0 : Int) ≤ (0 : Int32).toInt ∧ (0 : Int32).toInt ≤ 0 by decide) (show (0 : Int) ≤ (0 : Int32).toInt ∧ (0 : Int32).toInt ≤ 0 by decide)).elim
            · have wc252 : ¬ x250.toInt = (49 : Int) := c_ne c252
              try unfold fM_rowLine_275
              refine tt_if (fun c308 => ?_) (fun c308 => ?_)
              · have wc308 : x246.toInt = (0 : Int) := c_eq c308
                have i309 : (0 : Int) ≤ x246.toInt ∧ x246.toInt ≤ 0 := nr_eql c308 i247 (show (0 : Int) ≤ (0 : Int32).toInt ∧ (0 : Int32).toInt ≤ 0 by decide) (by decide) (by decide)
                try unfold fM_rowLine_278
                try unfold fM_rowLine_283
                refine tt_if (fun c310 => ?_) (fun c310 => ?_)
                · have wc310 : (1 : Int) = (0 : Int) := c_eq c310
                  exact (dd_eq c310 (show (1 : Int) ≤ (1 : Int32).toInt ∧ (1 : Int32).toInt ≤ 1 by decide) (show (0 : Int) ≤ (0 : Int32).toInt ∧ (0 : Int32).toInt ≤ 0 by decide) (by decide)).elim
                · have wc310 : ¬ (1 : Int) = (0 : Int) := c_ne c310
                  refine tt_n (ix_ok i_v5 (by decide) (by decide)) ?_
                  refine tt_kv (P := fun z => ((0 : Int) ≤ z.toInt ∧ z.toInt ≤ 1599) ∧ z.toInt = (o0.2.1 8 v5.toNatClampNeg).toInt) ⟨(k_o0.2 8 _), rfl⟩ (fun x311 qi312 => ?_)
                  obtain ⟨i312, ei312⟩ := qi312
                  refine tt_n (ix_ok i312 (by decide) (by decide)) ?_
                  refine tt_kv (P := fun z => ((0 : Int) ≤ z.toInt ∧ z.toInt ≤ 255) ∧ z.toInt = (o0.2.1 1 x311.toNatClampNeg).toInt) ⟨(k_o0.2 1 _), rfl⟩ (fun x313 qi314 => ?_)
                  obtain ⟨i314, ei314⟩ := qi314
                  refine tt_if (fun c315 => ?_) (fun c315 => ?_)
                  · have wc315 : x313.toInt = (49 : Int) := c_eq c315
                    have i316 : (49 : Int) ≤ x313.toInt ∧ x313.toInt ≤ 49 := nr_eql c315 i314 (show (49 : Int) ≤ (49 : Int32).toInt ∧ (49 : Int32).toInt ≤ 49 by decide) (by decide) (by decide)
                    try unfold fM_rowLine_324
                    refine tt_n (ix_ok i195 (by decide) (by decide)) ?_
                    refine tt_ko ?_
                    have k317 := ok_xp (k := 24) (i := v2.toNatClampNeg) (v := (vp_nar .boolean 1)) k_o0 (iv_nz _)
                    have r318 := fr_xp (k := 24) (i := v2.toNatClampNeg) (v := (vp_nar .boolean 1)) r_o0 rfl
                    refine tt_kv (P := fun z => ((0 : Int) ≤ z.toInt ∧ z.toInt ≤ 464) ∧ z.toInt = 16 * v2.toInt) ⟨iv_mul (show (16 : Int) ≤ (16 : Int32).toInt ∧ (16 : Int32).toInt ≤ 16 by decide) i195 (by decide) (by decide) (by decide) (by decide) (by decide), iq_mul (show (16 : Int) ≤ (16 : Int32).toInt ∧ (16 : Int32).toInt ≤ 16 by decide) i195 (by decide) (by decide) (by decide) (by decide)⟩ (fun x319 qi320 => ?_)
                    obtain ⟨i320, ei320⟩ := qi320
                    refine tt_n (ix_ok i195 (by decide) (by decide)) ?_
                    refine tt_kv (P := fun z => ((0 : Int) ≤ z.toInt ∧ z.toInt ≤ 16) ∧ z.toInt = (o0.2.1 22 v2.toNatClampNeg).toInt) ⟨(k317.2 22 _), rfl⟩ (fun x321 qi322 => ?_)
                    obtain ⟨i322, ei322⟩ := qi322
                    refine tt_kv (P := fun z => ((0 : Int) ≤ z.toInt ∧ z.toInt ≤ 480) ∧ z.toInt = x319.toInt + x321.toInt) ⟨iv_add i320 i322 (by decide) (by decide) (by decide) (by decide), iq_add i320 i322 (by decide) (by decide)⟩ (fun x323 qi324 => ?_)
                    obtain ⟨i324, ei324⟩ := qi324
                    refine tt_n (ix_ok (show (0 : Int) ≤ (0 : Int32).toInt ∧ (0 : Int32).toInt ≤ 0 by decide) (by decide) (by decide)) ?_
                    refine tt_kv (P := fun z => ((0 : Int) ≤ z.toInt ∧ z.toInt ≤ 1599) ∧ z.toInt = (o0.2.1 8 (0 : Int32).toNatClampNeg).toInt) ⟨(k317.2 8 _), rfl⟩ (fun x325 qi326 => ?_)
                    obtain ⟨i326, ei326⟩ := qi326
                    refine tt_n (ix_ok i324 (by decide) (by decide)) ?_
                    refine tt_ko ?_
                    have k327 := ok_xp (k := 23) (i := x323.toNatClampNeg) (v := x325) k317 i326
                    have r328 := fr_xp (k := 23) (i := x323.toNatClampNeg) (v := x325) r318 rfl
                    refine tt_n (ix_ok i195 (by decide) (by decide)) ?_
                    refine tt_kv (P := fun z => ((0 : Int) ≤ z.toInt ∧ z.toInt ≤ 16) ∧ z.toInt = (o0.2.1 22 v2.toNatClampNeg).toInt) ⟨(k327.2 22 _), rfl⟩ (fun x329 qi330 => ?_)
                    obtain ⟨i330, ei330⟩ := qi330
                    refine tt_kv (P := fun z => ((1 : Int) ≤ z.toInt ∧ z.toInt ≤ 17) ∧ z.toInt = x329.toInt + 1) ⟨iv_add i330 (show (1 : Int) ≤ (1 : Int32).toInt ∧ (1 : Int32).toInt ≤ 1 by decide) (by decide) (by decide) (by decide) (by decide), iq_add i330 (show (1 : Int) ≤ (1 : Int32).toInt ∧ (1 : Int32).toInt ≤ 1 by decide) (by decide) (by decide)⟩ (fun x331 qi332 => ?_)
                    obtain ⟨i332, ei332⟩ := qi332
                    refine tt_n (ix_ok i195 (by decide) (by decide)) ?_
                    refine tt_ko ?_
                    have k333 := ok_xp (k := 22) (i := v2.toNatClampNeg) (v := x331) k327 (show (0 : Int) ≤ _ ∧ _ ≤ (16 : Int) by omega)
                    have r334 := fr_xp (k := 22) (i := v2.toNatClampNeg) (v := x331) r328 rfl
                    have p335 : Rf (upd (o0.2.1 22) (v2.toNatClampNeg) x331) (upd (o0.2.1 23) (x323.toNatClampNeg) x325) (o0.2.1 19) := by have b9 : (o0.2.1 9 (0 : Int32).toNatClampNeg).toInt ≤ 1600 := (k_o0.2 9 _).2; have b8 : (o0.2.1 8 (0 : Int32).toNatClampNeg).toInt ≤ 1599 := (k_o0.2 8 _).2; exact Rf_row x_2 (fun t => (k_o0.2 22 t).2) (by omega) (by omega) (by rw [tn_n, tn_n]; omega) (by omega) (by omega)
                    exact tt_some ⟨k333, r334, (iv_w (a := 0) (b := 1) (by decide) (by decide) f_o0_5), p335, trivial⟩
                  · have wc315 : ¬ x313.toInt = (49 : Int) := c_ne c315
                    try unfold fM_rowLine_324
                    refine tt_n (ix_ok i195 (by decide) (by decide)) ?_
                    refine tt_ko ?_
                    have k336 := ok_xp (k := 24) (i := v2.toNatClampNeg) (v := (vp_nar .boolean 0)) k_o0 (iv_nz _)
                    have r337 := fr_xp (k := 24) (i := v2.toNatClampNeg) (v := (vp_nar .boolean 0)) r_o0 rfl
                    refine tt_kv (P := fun z => ((0 : Int) ≤ z.toInt ∧ z.toInt ≤ 464) ∧ z.toInt = 16 * v2.toInt) ⟨iv_mul (show (16 : Int) ≤ (16 : Int32).toInt ∧ (16 : Int32).toInt ≤ 16 by decide) i195 (by decide) (by decide) (by decide) (by decide) (by decide), iq_mul (show (16 : Int) ≤ (16 : Int32).toInt ∧ (16 : Int32).toInt ≤ 16 by decide) i195 (by decide) (by decide) (by decide) (by decide)⟩ (fun x338 qi339 => ?_)
                    obtain ⟨i339, ei339⟩ := qi339
                    refine tt_n (ix_ok i195 (by decide) (by decide)) ?_
                    refine tt_kv (P := fun z => ((0 : Int) ≤ z.toInt ∧ z.toInt ≤ 16) ∧ z.toInt = (o0.2.1 22 v2.toNatClampNeg).toInt) ⟨(k336.2 22 _), rfl⟩ (fun x340 qi341 => ?_)
                    obtain ⟨i341, ei341⟩ := qi341
                    refine tt_kv (P := fun z => ((0 : Int) ≤ z.toInt ∧ z.toInt ≤ 480) ∧ z.toInt = x338.toInt + x340.toInt) ⟨iv_add i339 i341 (by decide) (by decide) (by decide) (by decide), iq_add i339 i341 (by decide) (by decide)⟩ (fun x342 qi343 => ?_)
                    obtain ⟨i343, ei343⟩ := qi343
                    refine tt_n (ix_ok (show (0 : Int) ≤ (0 : Int32).toInt ∧ (0 : Int32).toInt ≤ 0 by decide) (by decide) (by decide)) ?_
                    refine tt_kv (P := fun z => ((0 : Int) ≤ z.toInt ∧ z.toInt ≤ 1599) ∧ z.toInt = (o0.2.1 8 (0 : Int32).toNatClampNeg).toInt) ⟨(k336.2 8 _), rfl⟩ (fun x344 qi345 => ?_)
                    obtain ⟨i345, ei345⟩ := qi345
                    refine tt_n (ix_ok i343 (by decide) (by decide)) ?_
                    refine tt_ko ?_
                    have k346 := ok_xp (k := 23) (i := x342.toNatClampNeg) (v := x344) k336 i345
                    have r347 := fr_xp (k := 23) (i := x342.toNatClampNeg) (v := x344) r337 rfl
                    refine tt_n (ix_ok i195 (by decide) (by decide)) ?_
                    refine tt_kv (P := fun z => ((0 : Int) ≤ z.toInt ∧ z.toInt ≤ 16) ∧ z.toInt = (o0.2.1 22 v2.toNatClampNeg).toInt) ⟨(k346.2 22 _), rfl⟩ (fun x348 qi349 => ?_)
                    obtain ⟨i349, ei349⟩ := qi349
                    refine tt_kv (P := fun z => ((1 : Int) ≤ z.toInt ∧ z.toInt ≤ 17) ∧ z.toInt = x348.toInt + 1) ⟨iv_add i349 (show (1 : Int) ≤ (1 : Int32).toInt ∧ (1 : Int32).toInt ≤ 1 by decide) (by decide) (by decide) (by decide) (by decide), iq_add i349 (show (1 : Int) ≤ (1 : Int32).toInt ∧ (1 : Int32).toInt ≤ 1 by decide) (by decide) (by decide)⟩ (fun x350 qi351 => ?_)
                    obtain ⟨i351, ei351⟩ := qi351
                    refine tt_n (ix_ok i195 (by decide) (by decide)) ?_
                    refine tt_ko ?_
                    have k352 := ok_xp (k := 22) (i := v2.toNatClampNeg) (v := x350) k346 (show (0 : Int) ≤ _ ∧ _ ≤ (16 : Int) by omega)
                    have r353 := fr_xp (k := 22) (i := v2.toNatClampNeg) (v := x350) r347 rfl
                    have p354 : Rf (upd (o0.2.1 22) (v2.toNatClampNeg) x350) (upd (o0.2.1 23) (x342.toNatClampNeg) x344) (o0.2.1 19) := by have b9 : (o0.2.1 9 (0 : Int32).toNatClampNeg).toInt ≤ 1600 := (k_o0.2 9 _).2; have b8 : (o0.2.1 8 (0 : Int32).toNatClampNeg).toInt ≤ 1599 := (k_o0.2 8 _).2; exact Rf_row x_2 (fun t => (k_o0.2 22 t).2) (by omega) (by omega) (by rw [tn_n, tn_n]; omega) (by omega) (by omega)
                    exact tt_some ⟨k352, r353, (iv_w (a := 0) (b := 1) (by decide) (by decide) f_o0_5), p354, trivial⟩
              · have wc308 : ¬ x246.toInt = (0 : Int) := c_ne c308
                have i355 : (1 : Int) ≤ x246.toInt ∧ x246.toInt ≤ 1 := nr_nela c308 i247 (show (0 : Int) ≤ (0 : Int32).toInt ∧ (0 : Int32).toInt ≤ 0 by decide) (by decide) (by decide)
                try unfold fM_rowLine_282
                try unfold fM_rowLine_283
                refine tt_if (fun c356 => ?_) (fun c356 => ?_)
                · have wc356 : (0 : Int) = (0 : Int) := c_eq c356
                  try unfold fM_fail
                  try unfold fM_fail_0
                  refine tt_bif (fun c357 => ?_) (fun c357 => ?_)
                  · have wc357 : (o0.1 5).toInt = (0 : Int) := c_eq c357
                    refine tt_bko ?_
                    have k358 := ok_fp (k := 5) (v := 1) k_o0 (iv_w (a := 0) (b := 4) (by decide) (by decide) (show (1 : Int) ≤ (1 : Int32).toInt ∧ (1 : Int32).toInt ≤ 1 by decide))
                    have r359 := fr_fp (k := 5) (v := 1) r_o0 rfl
                    refine tt_bko ?_
                    have k360 := ok_fp (k := 6) (v := v1) k358 (iv_top v1)
                    have r361 := fr_fp (k := 6) (v := v1) r359 rfl
                    try unfold fM_fail_17
                    refine tt_bs ?_
                    exact tt_some ⟨k360, r361, (iv_w (a := 0) (b := 1) (by decide) (by decide) (show (1 : Int) ≤ (1 : Int32).toInt ∧ (1 : Int32).toInt ≤ 1 by decide)), x_2, trivial⟩
                  · have wc357 : ¬ (o0.1 5).toInt = (0 : Int) := c_ne c357
                    exact (dd_ne c357 f_o0_5 (show (0 : Int) ≤ (0 : Int32).toInt ∧ (0 : Int32).toInt ≤ 0 by decide)).elim
                · have wc356 : ¬ (0 : Int) = (0 : Int) := c_ne c356
                  exact (dd_ne c356 (show (0 : Int) ≤ (0 : Int32).toInt ∧ (0 : Int32).toInt ≤ 0 by decide) (show (0 : Int) ≤ (0 : Int32).toInt ∧ (0 : Int32).toInt ≤ 0 by decide)).elim
      · have wc192 : (0 : Int) < v3.toInt := c_nle c192
        have i362 : (1 : Int) ≤ v3.toInt ∧ v3.toInt ≤ 5 := nr_nler c192 (show (0 : Int) ≤ (0 : Int32).toInt ∧ (0 : Int32).toInt ≤ 0 by decide) i_v3 (by decide) (by decide)
        refine tt_n (ix_ok i180 (by decide) (by decide)) ?_
        refine tt_kv (P := fun z => ((0 : Int) ≤ z.toInt ∧ z.toInt ≤ 255) ∧ z.toInt = (o0.2.1 1 v6.toNatClampNeg).toInt) ⟨(k_o0.2 1 _), rfl⟩ (fun x363 qi364 => ?_)
        obtain ⟨i364, ei364⟩ := qi364
        refine tt_if (fun c365 => ?_) (fun c365 => ?_)
        · have wc365 : x363.toInt = (48 : Int) := c_eq c365
          have i366 : (48 : Int) ≤ x363.toInt ∧ x363.toInt ≤ 48 := nr_eql c365 i364 (show (48 : Int) ≤ (48 : Int32).toInt ∧ (48 : Int32).toInt ≤ 48 by decide) (by decide) (by decide)
          try unfold fM_rowLine_220
          try unfold fM_rowLine_225
          refine tt_kv (P := fun z => ((1 : Int) ≤ z.toInt ∧ z.toInt ≤ 1600) ∧ z.toInt = v6.toInt + 1) ⟨iv_add i180 (show (1 : Int) ≤ (1 : Int32).toInt ∧ (1 : Int32).toInt ≤ 1 by decide) (by decide) (by decide) (by decide) (by decide), iq_add i180 (show (1 : Int) ≤ (1 : Int32).toInt ∧ (1 : Int32).toInt ≤ 1 by decide) (by decide) (by decide)⟩ (fun x367 qi368 => ?_)
          obtain ⟨i368, ei368⟩ := qi368
          have t369 : (0 : Int) ≤ (o0.2.1 22 v2.toNatClampNeg).toInt ∧ (o0.2.1 22 v2.toNatClampNeg).toInt ≤ 16 := k_o0.2 22 _
          have t370 : (0 : Int) ≤ (o0.2.1 19 v2.toNatClampNeg).toInt ∧ (o0.2.1 19 v2.toNatClampNeg).toInt ≤ 6 := k_o0.2 19 _
          have t371 : (0 : Int) ≤ (o0.2.1 9 (0 : Int32).toNatClampNeg).toInt ∧ (o0.2.1 9 (0 : Int32).toNatClampNeg).toInt ≤ 1600 := k_o0.2 9 _
          have t372 : (0 : Int) ≤ (o0.2.1 8 (0 : Int32).toNatClampNeg).toInt ∧ (o0.2.1 8 (0 : Int32).toNatClampNeg).toInt ≤ 1599 := k_o0.2 8 _
          exact H _ _ _ _ _ _ _ k_o0 r_o0 i_v2 (iv_w (a := (-1)) (b := 5) (by decide) (by decide) i362) (iv_w (a := 0) (b := 1) (by decide) (by decide) (show (1 : Int) ≤ (1 : Int32).toInt ∧ (1 : Int32).toInt ≤ 1 by decide)) i_v5 (iv_w (a := 0) (b := 1600) (by decide) (by decide) i368) f_o0_0 f_o0_5 f_o0_7 f_o0_95 (show 1 = 0 ∨ (0 ≤ v2.toInt ∧ (o0.2.1 22 v2.toNatClampNeg).toInt ≤ 15) by omega) (show 1 = 0 ∨ (v3.toInt = (o0.2.1 19 v2.toNatClampNeg).toInt - 1 ∧ (v3.toInt = 0 ∨ (o0.2.1 9 (0 : Int32).toNatClampNeg).toInt - (o0.2.1 8 (0 : Int32).toNatClampNeg).toInt = v3.toInt)) by omega) x_2 (show 0 + (1600 - x367.toInt) * 2 < (n : Int) by omega)
        · have wc365 : ¬ x363.toInt = (48 : Int) := c_ne c365
          refine tt_n (ix_ok i180 (by decide) (by decide)) ?_
          refine tt_kv (P := fun z => ((0 : Int) ≤ z.toInt ∧ z.toInt ≤ 255) ∧ z.toInt = (o0.2.1 1 v6.toNatClampNeg).toInt) ⟨(k_o0.2 1 _), rfl⟩ (fun x373 qi374 => ?_)
          obtain ⟨i374, ei374⟩ := qi374
          refine tt_if (fun c375 => ?_) (fun c375 => ?_)
          · have wc375 : x373.toInt = (49 : Int) := c_eq c375
            have i376 : (49 : Int) ≤ x373.toInt ∧ x373.toInt ≤ 49 := nr_eql c375 i374 (show (49 : Int) ≤ (49 : Int32).toInt ∧ (49 : Int32).toInt ≤ 49 by decide) (by decide) (by decide)
            try unfold fM_rowLine_220
            try unfold fM_rowLine_225
            refine tt_kv (P := fun z => ((1 : Int) ≤ z.toInt ∧ z.toInt ≤ 1600) ∧ z.toInt = v6.toInt + 1) ⟨iv_add i180 (show (1 : Int) ≤ (1 : Int32).toInt ∧ (1 : Int32).toInt ≤ 1 by decide) (by decide) (by decide) (by decide) (by decide), iq_add i180 (show (1 : Int) ≤ (1 : Int32).toInt ∧ (1 : Int32).toInt ≤ 1 by decide) (by decide) (by decide)⟩ (fun x377 qi378 => ?_)
            obtain ⟨i378, ei378⟩ := qi378
            have t379 : (0 : Int) ≤ (o0.2.1 22 v2.toNatClampNeg).toInt ∧ (o0.2.1 22 v2.toNatClampNeg).toInt ≤ 16 := k_o0.2 22 _
            have t380 : (0 : Int) ≤ (o0.2.1 19 v2.toNatClampNeg).toInt ∧ (o0.2.1 19 v2.toNatClampNeg).toInt ≤ 6 := k_o0.2 19 _
            have t381 : (0 : Int) ≤ (o0.2.1 9 (0 : Int32).toNatClampNeg).toInt ∧ (o0.2.1 9 (0 : Int32).toNatClampNeg).toInt ≤ 1600 := k_o0.2 9 _
            have t382 : (0 : Int) ≤ (o0.2.1 8 (0 : Int32).toNatClampNeg).toInt ∧ (o0.2.1 8 (0 : Int32).toNatClampNeg).toInt ≤ 1599 := k_o0.2 8 _
            exact H _ _ _ _ _ _ _ k_o0 r_o0 i_v2 (iv_w (a := (-1)) (b := 5) (by decide) (by decide) i362) (iv_w (a := 0) (b := 1) (by decide) (by decide) (show (1 : Int) ≤ (1 : Int32).toInt ∧ (1 : Int32).toInt ≤ 1 by decide)) i_v5 (iv_w (a := 0) (b := 1600) (by decide) (by decide) i378) f_o0_0 f_o0_5 f_o0_7 f_o0_95 (show 1 = 0 ∨ (0 ≤ v2.toInt ∧ (o0.2.1 22 v2.toNatClampNeg).toInt ≤ 15) by omega) (show 1 = 0 ∨ (v3.toInt = (o0.2.1 19 v2.toNatClampNeg).toInt - 1 ∧ (v3.toInt = 0 ∨ (o0.2.1 9 (0 : Int32).toNatClampNeg).toInt - (o0.2.1 8 (0 : Int32).toNatClampNeg).toInt = v3.toInt)) by omega) x_2 (show 0 + (1600 - x377.toInt) * 2 < (n : Int) by omega)
          · have wc375 : ¬ x373.toInt = (49 : Int) := c_ne c375
            refine tt_n (ix_ok i180 (by decide) (by decide)) ?_
            refine tt_kv (P := fun z => ((0 : Int) ≤ z.toInt ∧ z.toInt ≤ 255) ∧ z.toInt = (o0.2.1 1 v6.toNatClampNeg).toInt) ⟨(k_o0.2 1 _), rfl⟩ (fun x383 qi384 => ?_)
            obtain ⟨i384, ei384⟩ := qi384
            refine tt_if (fun c385 => ?_) (fun c385 => ?_)
            · have wc385 : x383.toInt = (45 : Int) := c_eq c385
              have i386 : (45 : Int) ≤ x383.toInt ∧ x383.toInt ≤ 45 := nr_eql c385 i384 (show (45 : Int) ≤ (45 : Int32).toInt ∧ (45 : Int32).toInt ≤ 45 by decide) (by decide) (by decide)
              try unfold fM_rowLine_220
              try unfold fM_rowLine_225
              refine tt_kv (P := fun z => ((1 : Int) ≤ z.toInt ∧ z.toInt ≤ 1600) ∧ z.toInt = v6.toInt + 1) ⟨iv_add i180 (show (1 : Int) ≤ (1 : Int32).toInt ∧ (1 : Int32).toInt ≤ 1 by decide) (by decide) (by decide) (by decide) (by decide), iq_add i180 (show (1 : Int) ≤ (1 : Int32).toInt ∧ (1 : Int32).toInt ≤ 1 by decide) (by decide) (by decide)⟩ (fun x387 qi388 => ?_)
              obtain ⟨i388, ei388⟩ := qi388
              have t389 : (0 : Int) ≤ (o0.2.1 22 v2.toNatClampNeg).toInt ∧ (o0.2.1 22 v2.toNatClampNeg).toInt ≤ 16 := k_o0.2 22 _
              have t390 : (0 : Int) ≤ (o0.2.1 19 v2.toNatClampNeg).toInt ∧ (o0.2.1 19 v2.toNatClampNeg).toInt ≤ 6 := k_o0.2 19 _
              have t391 : (0 : Int) ≤ (o0.2.1 9 (0 : Int32).toNatClampNeg).toInt ∧ (o0.2.1 9 (0 : Int32).toNatClampNeg).toInt ≤ 1600 := k_o0.2 9 _
              have t392 : (0 : Int) ≤ (o0.2.1 8 (0 : Int32).toNatClampNeg).toInt ∧ (o0.2.1 8 (0 : Int32).toNatClampNeg).toInt ≤ 1599 := k_o0.2 8 _
              exact H _ _ _ _ _ _ _ k_o0 r_o0 i_v2 (iv_w (a := (-1)) (b := 5) (by decide) (by decide) i362) (iv_w (a := 0) (b := 1) (by decide) (by decide) (show (1 : Int) ≤ (1 : Int32).toInt ∧ (1 : Int32).toInt ≤ 1 by decide)) i_v5 (iv_w (a := 0) (b := 1600) (by decide) (by decide) i388) f_o0_0 f_o0_5 f_o0_7 f_o0_95 (show 1 = 0 ∨ (0 ≤ v2.toInt ∧ (o0.2.1 22 v2.toNatClampNeg).toInt ≤ 15) by omega) (show 1 = 0 ∨ (v3.toInt = (o0.2.1 19 v2.toNatClampNeg).toInt - 1 ∧ (v3.toInt = 0 ∨ (o0.2.1 9 (0 : Int32).toNatClampNeg).toInt - (o0.2.1 8 (0 : Int32).toNatClampNeg).toInt = v3.toInt)) by omega) x_2 (show 0 + (1600 - x387.toInt) * 2 < (n : Int) by omega)
            · have wc385 : ¬ x383.toInt = (45 : Int) := c_ne c385
              try unfold fM_rowLine_225
              refine tt_kv (P := fun z => ((1 : Int) ≤ z.toInt ∧ z.toInt ≤ 1600) ∧ z.toInt = v6.toInt + 1) ⟨iv_add i180 (show (1 : Int) ≤ (1 : Int32).toInt ∧ (1 : Int32).toInt ≤ 1 by decide) (by decide) (by decide) (by decide) (by decide), iq_add i180 (show (1 : Int) ≤ (1 : Int32).toInt ∧ (1 : Int32).toInt ≤ 1 by decide) (by decide) (by decide)⟩ (fun x393 qi394 => ?_)
              obtain ⟨i394, ei394⟩ := qi394
              have t395 : (0 : Int) ≤ (o0.2.1 22 v2.toNatClampNeg).toInt ∧ (o0.2.1 22 v2.toNatClampNeg).toInt ≤ 16 := k_o0.2 22 _
              have t396 : (0 : Int) ≤ (o0.2.1 19 v2.toNatClampNeg).toInt ∧ (o0.2.1 19 v2.toNatClampNeg).toInt ≤ 6 := k_o0.2 19 _
              have t397 : (0 : Int) ≤ (o0.2.1 9 (0 : Int32).toNatClampNeg).toInt ∧ (o0.2.1 9 (0 : Int32).toNatClampNeg).toInt ≤ 1600 := k_o0.2 9 _
              have t398 : (0 : Int) ≤ (o0.2.1 8 (0 : Int32).toNatClampNeg).toInt ∧ (o0.2.1 8 (0 : Int32).toNatClampNeg).toInt ≤ 1599 := k_o0.2 8 _
              exact H _ _ _ _ _ _ _ k_o0 r_o0 i_v2 (iv_w (a := (-1)) (b := 5) (by decide) (by decide) i362) (iv_w (a := 0) (b := 1) (by decide) (by decide) (show (0 : Int) ≤ (0 : Int32).toInt ∧ (0 : Int32).toInt ≤ 0 by decide)) i_v5 (iv_w (a := 0) (b := 1600) (by decide) (by decide) i394) f_o0_0 f_o0_5 f_o0_7 f_o0_95 (show 0 = 0 ∨ (0 ≤ v2.toInt ∧ (o0.2.1 22 v2.toNatClampNeg).toInt ≤ 15) by omega) (show 0 = 0 ∨ (v3.toInt = (o0.2.1 19 v2.toNatClampNeg).toInt - 1 ∧ (v3.toInt = 0 ∨ (o0.2.1 9 (0 : Int32).toNatClampNeg).toInt - (o0.2.1 8 (0 : Int32).toNatClampNeg).toInt = v3.toInt)) by omega) x_2 (show 0 + (1600 - x393.toInt) * 2 < (n : Int) by omega)
set_option maxHeartbeats 4000000 in
set_option maxRecDepth 100000 in
theorem hM_rowLine (yv1 : Int32) (yo0 : cf_O) : ∀ n, HM_rowLine yv1 yo0 n := by
  intro n
  induction n with
  | zero => exact (fun v1 v2 v3 v4 v5 v6 o0 k_o0 r_o0 i_v2 i_v3 i_v4 i_v5 i_v6 f_o0_0 f_o0_5 f_o0_7 f_o0_95 x_0 x_1 x_2 hm => by exact absurd (show 0 + (1600 - v6.toInt) * 2 < (0 : Int) from hm) (by omega))
  | succ n ih => exact (fun v1 v2 v3 v4 v5 v6 o0 k_o0 r_o0 i_v2 i_v3 i_v4 i_v5 i_v6 f_o0_0 f_o0_5 f_o0_7 f_o0_95 x_0 x_1 x_2 hm => tM_rowLine_164 ih v1 v2 v3 v4 v5 v6 o0 k_o0 r_o0 i_v2 i_v3 i_v4 i_v5 i_v6 f_o0_0 f_o0_5 f_o0_7 f_o0_95 x_0 x_1 x_2 (by omega))
set_option maxHeartbeats 4000000 in
set_option maxRecDepth 100000 in
theorem sM_rowLine (v1 : Int32) (o0 : cf_O) (k_o0 : okO I_M o0) (f_o0_0 : (0 : Int) ≤ (o0.1 0).toInt ∧ (o0.1 0).toInt ≤ 0) (f_o0_5 : (0 : Int) ≤ (o0.1 5).toInt ∧ (o0.1 5).toInt ≤ 0) (f_o0_7 : (1 : Int) ≤ (o0.1 7).toInt ∧ (o0.1 7).toInt ≤ 801) (f_o0_95 : (0 : Int) ≤ (o0.1 95).toInt ∧ (o0.1 95).toInt ≤ 0) (x_0 : Rf (o0.2.1 22) (o0.2.1 23) (o0.2.1 19)) : tt (fM_rowLine v1 o0) (QM_rowLine v1 o0) := by
  have H := hM_rowLine v1 o0 cfFU
  have hm : (3203 : Int) ≤ (cfFU : Nat) := by decide
  have r_o0 : Fr (fr_M [5, 6] [22, 23, 24] []) o0 o0 := fr_rfl
  unfold fM_rowLine fM_rowLine_0
  have i_v1 := iv_top v1
  have g_o0_17 : (0 : Int) ≤ (o0.1 17).toInt ∧ (o0.1 17).toInt ≤ 30 := k_o0.1 17
  refine tt_kv (P := fun z => (((-1) : Int) ≤ z.toInt ∧ z.toInt ≤ 29) ∧ z.toInt = (o0.1 17).toInt - 1) ⟨iv_sub (k_o0.1 17) (show (1 : Int) ≤ (1 : Int32).toInt ∧ (1 : Int32).toInt ≤ 1 by decide) (by decide) (by decide) (by decide) (by decide), iq_sub (k_o0.1 17) (show (1 : Int) ≤ (1 : Int32).toInt ∧ (1 : Int32).toInt ≤ 1 by decide) (by decide) (by decide)⟩ (fun x1 qi2 => ?_)
  obtain ⟨i2, ei2⟩ := qi2
  refine tt_if (fun c3 => ?_) (fun c3 => ?_)
  · have wc3 : (0 : Int) ≤ x1.toInt := c_le c3
    have i4 : (0 : Int) ≤ x1.toInt ∧ x1.toInt ≤ 29 := nr_ler c3 (show (0 : Int) ≤ (0 : Int32).toInt ∧ (0 : Int32).toInt ≤ 0 by decide) i2 (by decide) (by decide)
    have i5 : (1 : Int) ≤ (o0.1 17).toInt ∧ (o0.1 17).toInt ≤ 30 := by omega
    refine tt_n (ix_ok i4 (by decide) (by decide)) ?_
    refine tt_kv (P := fun z => ((0 : Int) ≤ z.toInt ∧ z.toInt ≤ 6) ∧ z.toInt = (o0.2.1 19 x1.toNatClampNeg).toInt) ⟨(k_o0.2 19 _), rfl⟩ (fun x6 qi7 => ?_)
    obtain ⟨i7, ei7⟩ := qi7
    refine tt_kv (P := fun z => (((-1) : Int) ≤ z.toInt ∧ z.toInt ≤ 5) ∧ z.toInt = x6.toInt - 1) ⟨iv_sub i7 (show (1 : Int) ≤ (1 : Int32).toInt ∧ (1 : Int32).toInt ≤ 1 by decide) (by decide) (by decide) (by decide) (by decide), iq_sub i7 (show (1 : Int) ≤ (1 : Int32).toInt ∧ (1 : Int32).toInt ≤ 1 by decide) (by decide) (by decide)⟩ (fun x8 qi9 => ?_)
    obtain ⟨i9, ei9⟩ := qi9
    try unfold fM_rowLine_23
    refine tt_if (fun c10 => ?_) (fun c10 => ?_)
    · have wc10 : x1.toInt < (0 : Int) := c_lt c10
      exact (dd_lt c10 i4 (show (0 : Int) ≤ (0 : Int32).toInt ∧ (0 : Int32).toInt ≤ 0 by decide) (by decide)).elim
    · have wc10 : (0 : Int) ≤ x1.toInt := c_nlt c10
      refine tt_n (ix_ok i4 (by decide) (by decide)) ?_
      refine tt_kv (P := fun z => ((0 : Int) ≤ z.toInt ∧ z.toInt ≤ 16) ∧ z.toInt = (o0.2.1 22 x1.toNatClampNeg).toInt) ⟨(k_o0.2 22 _), rfl⟩ (fun x11 qi12 => ?_)
      obtain ⟨i12, ei12⟩ := qi12
      refine tt_if (fun c13 => ?_) (fun c13 => ?_)
      · have wc13 : (16 : Int) ≤ x11.toInt := c_le c13
        have i14 : (16 : Int) ≤ x11.toInt ∧ x11.toInt ≤ 16 := nr_ler c13 (show (16 : Int) ≤ (16 : Int32).toInt ∧ (16 : Int32).toInt ≤ 16 by decide) i12 (by decide) (by decide)
        try unfold fM_rowLine_59
        try unfold fM_rowLine_60
        refine tt_kv (P := fun z => ((0 : Int) ≤ z.toInt ∧ z.toInt ≤ 800) ∧ z.toInt = (o0.1 7).toInt - 1) ⟨iv_sub f_o0_7 (show (1 : Int) ≤ (1 : Int32).toInt ∧ (1 : Int32).toInt ≤ 1 by decide) (by decide) (by decide) (by decide) (by decide), iq_sub f_o0_7 (show (1 : Int) ≤ (1 : Int32).toInt ∧ (1 : Int32).toInt ≤ 1 by decide) (by decide) (by decide)⟩ (fun x15 qi16 => ?_)
        obtain ⟨i16, ei16⟩ := qi16
        refine tt_if (fun c17 => ?_) (fun c17 => ?_)
        · have wc17 : (0 : Int) = (0 : Int) := c_eq c17
          try unfold fM_rowLine_120
          try unfold fM_rowLine_121
          refine tt_if (fun c18 => ?_) (fun c18 => ?_)
          · have wc18 : (0 : Int) = (0 : Int) := c_eq c18
            try unfold fM_rowLine_153
            try unfold fM_rowLine_154
            refine tt_n (ix_ok (show (0 : Int) ≤ (0 : Int32).toInt ∧ (0 : Int32).toInt ≤ 0 by decide) (by decide) (by decide)) ?_
            refine tt_kv (P := fun z => ((0 : Int) ≤ z.toInt ∧ z.toInt ≤ 1599) ∧ z.toInt = (o0.2.1 8 (0 : Int32).toNatClampNeg).toInt) ⟨(k_o0.2 8 _), rfl⟩ (fun x19 qi20 => ?_)
            obtain ⟨i20, ei20⟩ := qi20
            have t21 : (0 : Int) ≤ (o0.2.1 22 x1.toNatClampNeg).toInt ∧ (o0.2.1 22 x1.toNatClampNeg).toInt ≤ 16 := k_o0.2 22 _
            have t22 : (0 : Int) ≤ (o0.2.1 19 x1.toNatClampNeg).toInt ∧ (o0.2.1 19 x1.toNatClampNeg).toInt ≤ 6 := k_o0.2 19 _
            have t23 : (0 : Int) ≤ (o0.2.1 9 (0 : Int32).toNatClampNeg).toInt ∧ (o0.2.1 9 (0 : Int32).toNatClampNeg).toInt ≤ 1600 := k_o0.2 9 _
            have t24 : (0 : Int) ≤ (o0.2.1 8 (0 : Int32).toNatClampNeg).toInt ∧ (o0.2.1 8 (0 : Int32).toNatClampNeg).toInt ≤ 1599 := k_o0.2 8 _
            exact H _ _ _ _ _ _ _ k_o0 r_o0 (iv_w (a := (-1)) (b := 29) (by decide) (by decide) i4) i9 (iv_w (a := 0) (b := 1) (by decide) (by decide) (show (0 : Int) ≤ (0 : Int32).toInt ∧ (0 : Int32).toInt ≤ 0 by decide)) i16 (iv_w (a := 0) (b := 1600) (by decide) (by decide) i20) f_o0_0 f_o0_5 f_o0_7 f_o0_95 (show 0 = 0 ∨ (0 ≤ x1.toInt ∧ (o0.2.1 22 x1.toNatClampNeg).toInt ≤ 15) by omega) (show 0 = 0 ∨ (x8.toInt = (o0.2.1 19 x1.toNatClampNeg).toInt - 1 ∧ (x8.toInt = 0 ∨ (o0.2.1 9 (0 : Int32).toNatClampNeg).toInt - (o0.2.1 8 (0 : Int32).toNatClampNeg).toInt = x8.toInt)) by omega) x_0 (show 0 + (1600 - x19.toInt) * 2 < ((cfFU : Nat) : Int) by omega)
          · have wc18 : ¬ (0 : Int) = (0 : Int) := c_ne c18
            exact (dd_ne c18 (show (0 : Int) ≤ (0 : Int32).toInt ∧ (0 : Int32).toInt ≤ 0 by decide) (show (0 : Int) ≤ (0 : Int32).toInt ∧ (0 : Int32).toInt ≤ 0 by decide)).elim
        · have wc17 : ¬ (0 : Int) = (0 : Int) := c_ne c17
          exact (dd_ne c17 (show (0 : Int) ≤ (0 : Int32).toInt ∧ (0 : Int32).toInt ≤ 0 by decide) (show (0 : Int) ≤ (0 : Int32).toInt ∧ (0 : Int32).toInt ≤ 0 by decide)).elim
      · have wc13 : x11.toInt < (16 : Int) := c_nle c13
        have i25 : (0 : Int) ≤ x11.toInt ∧ x11.toInt ≤ 15 := nr_nlel c13 i12 (show (16 : Int) ≤ (16 : Int32).toInt ∧ (16 : Int32).toInt ≤ 16 by decide) (by decide) (by decide)
        refine tt_if (fun c26 => ?_) (fun c26 => ?_)
        · have wc26 : x8.toInt ≤ (0 : Int) := c_le c26
          have i27 : ((-1) : Int) ≤ x8.toInt ∧ x8.toInt ≤ 0 := nr_lel c26 i9 (show (0 : Int) ≤ (0 : Int32).toInt ∧ (0 : Int32).toInt ≤ 0 by decide) (by decide) (by decide)
          have i28 : (0 : Int) ≤ x6.toInt ∧ x6.toInt ≤ 1 := by omega
          try unfold fM_rowLine_52
          refine tt_if (fun c29 => ?_) (fun c29 => ?_)
          · have wc29 : (o0.1 7).toInt = (1 : Int) := c_eq c29
            have i30 : (1 : Int) ≤ (o0.1 7).toInt ∧ (o0.1 7).toInt ≤ 1 := nr_eql c29 f_o0_7 (show (1 : Int) ≤ (1 : Int32).toInt ∧ (1 : Int32).toInt ≤ 1 by decide) (by decide) (by decide)
            try unfold fM_rowLine_60
            refine tt_kv (P := fun z => ((0 : Int) ≤ z.toInt ∧ z.toInt ≤ 0) ∧ z.toInt = (o0.1 7).toInt - 1) ⟨iv_sub i30 (show (1 : Int) ≤ (1 : Int32).toInt ∧ (1 : Int32).toInt ≤ 1 by decide) (by decide) (by decide) (by decide) (by decide), iq_sub i30 (show (1 : Int) ≤ (1 : Int32).toInt ∧ (1 : Int32).toInt ≤ 1 by decide) (by decide) (by decide)⟩ (fun x31 qi32 => ?_)
            obtain ⟨i32, ei32⟩ := qi32
            refine tt_if (fun c33 => ?_) (fun c33 => ?_)
            · have wc33 : (1 : Int) = (0 : Int) := c_eq c33
              exact (dd_eq c33 (show (1 : Int) ≤ (1 : Int32).toInt ∧ (1 : Int32).toInt ≤ 1 by decide) (show (0 : Int) ≤ (0 : Int32).toInt ∧ (0 : Int32).toInt ≤ 0 by decide) (by decide)).elim
            · have wc33 : ¬ (1 : Int) = (0 : Int) := c_ne c33
              refine tt_n (ix_ok i32 (by decide) (by decide)) ?_
              refine tt_kv (P := fun z => ((0 : Int) ≤ z.toInt ∧ z.toInt ≤ 1600) ∧ z.toInt = (o0.2.1 9 x31.toNatClampNeg).toInt) ⟨(k_o0.2 9 _), rfl⟩ (fun x34 qi35 => ?_)
              obtain ⟨i35, ei35⟩ := qi35
              refine tt_n (ix_ok i32 (by decide) (by decide)) ?_
              refine tt_kv (P := fun z => ((0 : Int) ≤ z.toInt ∧ z.toInt ≤ 1599) ∧ z.toInt = (o0.2.1 8 x31.toNatClampNeg).toInt) ⟨(k_o0.2 8 _), rfl⟩ (fun x36 qi37 => ?_)
              obtain ⟨i37, ei37⟩ := qi37
              refine tt_kv (P := fun z => (((-1599) : Int) ≤ z.toInt ∧ z.toInt ≤ 1600) ∧ z.toInt = x34.toInt - x36.toInt) ⟨iv_sub i35 i37 (by decide) (by decide) (by decide) (by decide), iq_sub i35 i37 (by decide) (by decide)⟩ (fun x38 qi39 => ?_)
              obtain ⟨i39, ei39⟩ := qi39
              refine tt_if (fun c40 => ?_) (fun c40 => ?_)
              · have wc40 : x38.toInt = (1 : Int) := c_eq c40
                have i41 : (1 : Int) ≤ x38.toInt ∧ x38.toInt ≤ 1 := nr_eql c40 i39 (show (1 : Int) ≤ (1 : Int32).toInt ∧ (1 : Int32).toInt ≤ 1 by decide) (by decide) (by decide)
                refine tt_n (ix_ok i32 (by decide) (by decide)) ?_
                refine tt_kv (P := fun z => ((0 : Int) ≤ z.toInt ∧ z.toInt ≤ 1599) ∧ z.toInt = (o0.2.1 8 x31.toNatClampNeg).toInt) ⟨(k_o0.2 8 _), rfl⟩ (fun x42 qi43 => ?_)
                obtain ⟨i43, ei43⟩ := qi43
                refine tt_n (ix_ok i43 (by decide) (by decide)) ?_
                refine tt_kv (P := fun z => ((0 : Int) ≤ z.toInt ∧ z.toInt ≤ 255) ∧ z.toInt = (o0.2.1 1 x42.toNatClampNeg).toInt) ⟨(k_o0.2 1 _), rfl⟩ (fun x44 qi45 => ?_)
                obtain ⟨i45, ei45⟩ := qi45
                try unfold fM_in
                try unfold fM_in_0
                refine tt_bif (fun c46 => ?_) (fun c46 => ?_)
                · have wc46 : x44.toInt < (48 : Int) := c_lt c46
                  have i47 : (0 : Int) ≤ x44.toInt ∧ x44.toInt ≤ 47 := nr_ltl c46 i45 (show (48 : Int) ≤ (48 : Int32).toInt ∧ (48 : Int32).toInt ≤ 48 by decide) (by decide) (by decide)
                  try unfold fM_in_14
                  try unfold fM_in_15
                  refine tt_bw (iv_b (show (0 : Int) ≤ (0 : Int32).toInt ∧ (0 : Int32).toInt ≤ 0 by decide) (by decide) (by decide)) ?_
                  refine tt_bs ?_
                  refine tt_if (fun c48 => ?_) (fun c48 => ?_)
                  · have wc48 : (0 : Int) = (0 : Int) := c_eq c48
                    try unfold fM_rowLine_120
                    try unfold fM_rowLine_121
                    refine tt_if (fun c49 => ?_) (fun c49 => ?_)
                    · have wc49 : (0 : Int) = (0 : Int) := c_eq c49
                      try unfold fM_rowLine_153
                      try unfold fM_rowLine_154
                      refine tt_n (ix_ok (show (0 : Int) ≤ (0 : Int32).toInt ∧ (0 : Int32).toInt ≤ 0 by decide) (by decide) (by decide)) ?_
                      refine tt_kv (P := fun z => ((0 : Int) ≤ z.toInt ∧ z.toInt ≤ 1599) ∧ z.toInt = (o0.2.1 8 (0 : Int32).toNatClampNeg).toInt) ⟨(k_o0.2 8 _), rfl⟩ (fun x50 qi51 => ?_)
                      obtain ⟨i51, ei51⟩ := qi51
                      have t52 : (0 : Int) ≤ (o0.2.1 22 x1.toNatClampNeg).toInt ∧ (o0.2.1 22 x1.toNatClampNeg).toInt ≤ 16 := k_o0.2 22 _
                      have t53 : (0 : Int) ≤ (o0.2.1 19 x1.toNatClampNeg).toInt ∧ (o0.2.1 19 x1.toNatClampNeg).toInt ≤ 6 := k_o0.2 19 _
                      have t54 : (0 : Int) ≤ (o0.2.1 9 (0 : Int32).toNatClampNeg).toInt ∧ (o0.2.1 9 (0 : Int32).toNatClampNeg).toInt ≤ 1600 := k_o0.2 9 _
                      have t55 : (0 : Int) ≤ (o0.2.1 8 (0 : Int32).toNatClampNeg).toInt ∧ (o0.2.1 8 (0 : Int32).toNatClampNeg).toInt ≤ 1599 := k_o0.2 8 _
                      exact H _ _ _ _ _ _ _ k_o0 r_o0 (iv_w (a := (-1)) (b := 29) (by decide) (by decide) i4) (iv_w (a := (-1)) (b := 5) (by decide) (by decide) i27) (iv_w (a := 0) (b := 1) (by decide) (by decide) (show (0 : Int) ≤ (0 : Int32).toInt ∧ (0 : Int32).toInt ≤ 0 by decide)) (iv_w (a := 0) (b := 800) (by decide) (by decide) i32) (iv_w (a := 0) (b := 1600) (by decide) (by decide) i51) f_o0_0 f_o0_5 (iv_w (a := 1) (b := 801) (by decide) (by decide) i30) f_o0_95 (show 0 = 0 ∨ (0 ≤ x1.toInt ∧ (o0.2.1 22 x1.toNatClampNeg).toInt ≤ 15) by omega) (show 0 = 0 ∨ (x8.toInt = (o0.2.1 19 x1.toNatClampNeg).toInt - 1 ∧ (x8.toInt = 0 ∨ (o0.2.1 9 (0 : Int32).toNatClampNeg).toInt - (o0.2.1 8 (0 : Int32).toNatClampNeg).toInt = x8.toInt)) by omega) x_0 (show 0 + (1600 - x50.toInt) * 2 < ((cfFU : Nat) : Int) by omega)
                    · have wc49 : ¬ (0 : Int) = (0 : Int) := c_ne c49
                      exact (dd_ne c49 (show (0 : Int) ≤ (0 : Int32).toInt ∧ (0 : Int32).toInt ≤ 0 by decide) (show (0 : Int) ≤ (0 : Int32).toInt ∧ (0 : Int32).toInt ≤ 0 by decide)).elim
                  · have wc48 : ¬ (0 : Int) = (0 : Int) := c_ne c48
                    exact (dd_ne c48 (show (0 : Int) ≤ (0 : Int32).toInt ∧ (0 : Int32).toInt ≤ 0 by decide) (show (0 : Int) ≤ (0 : Int32).toInt ∧ (0 : Int32).toInt ≤ 0 by decide)).elim
                · have wc46 : (48 : Int) ≤ x44.toInt := c_nlt c46
                  have i56 : (48 : Int) ≤ x44.toInt ∧ x44.toInt ≤ 255 := nr_nltr c46 (show (48 : Int) ≤ (48 : Int32).toInt ∧ (48 : Int32).toInt ≤ 48 by decide) i45 (by decide) (by decide)
                  refine tt_bif (fun c57 => ?_) (fun c57 => ?_)
                  · have wc57 : (49 : Int) < x44.toInt := c_lt c57
                    have i58 : (50 : Int) ≤ x44.toInt ∧ x44.toInt ≤ 255 := nr_ltr c57 (show (49 : Int) ≤ (49 : Int32).toInt ∧ (49 : Int32).toInt ≤ 49 by decide) i56 (by decide) (by decide)
                    try unfold fM_in_14
                    try unfold fM_in_15
                    refine tt_bw (iv_b (show (0 : Int) ≤ (0 : Int32).toInt ∧ (0 : Int32).toInt ≤ 0 by decide) (by decide) (by decide)) ?_
                    refine tt_bs ?_
                    refine tt_if (fun c59 => ?_) (fun c59 => ?_)
                    · have wc59 : (0 : Int) = (0 : Int) := c_eq c59
                      try unfold fM_rowLine_120
                      try unfold fM_rowLine_121
                      refine tt_if (fun c60 => ?_) (fun c60 => ?_)
                      · have wc60 : (0 : Int) = (0 : Int) := c_eq c60
                        try unfold fM_rowLine_153
                        try unfold fM_rowLine_154
                        refine tt_n (ix_ok (show (0 : Int) ≤ (0 : Int32).toInt ∧ (0 : Int32).toInt ≤ 0 by decide) (by decide) (by decide)) ?_
                        refine tt_kv (P := fun z => ((0 : Int) ≤ z.toInt ∧ z.toInt ≤ 1599) ∧ z.toInt = (o0.2.1 8 (0 : Int32).toNatClampNeg).toInt) ⟨(k_o0.2 8 _), rfl⟩ (fun x61 qi62 => ?_)
                        obtain ⟨i62, ei62⟩ := qi62
                        have t63 : (0 : Int) ≤ (o0.2.1 22 x1.toNatClampNeg).toInt ∧ (o0.2.1 22 x1.toNatClampNeg).toInt ≤ 16 := k_o0.2 22 _
                        have t64 : (0 : Int) ≤ (o0.2.1 19 x1.toNatClampNeg).toInt ∧ (o0.2.1 19 x1.toNatClampNeg).toInt ≤ 6 := k_o0.2 19 _
                        have t65 : (0 : Int) ≤ (o0.2.1 9 (0 : Int32).toNatClampNeg).toInt ∧ (o0.2.1 9 (0 : Int32).toNatClampNeg).toInt ≤ 1600 := k_o0.2 9 _
                        have t66 : (0 : Int) ≤ (o0.2.1 8 (0 : Int32).toNatClampNeg).toInt ∧ (o0.2.1 8 (0 : Int32).toNatClampNeg).toInt ≤ 1599 := k_o0.2 8 _
                        exact H _ _ _ _ _ _ _ k_o0 r_o0 (iv_w (a := (-1)) (b := 29) (by decide) (by decide) i4) (iv_w (a := (-1)) (b := 5) (by decide) (by decide) i27) (iv_w (a := 0) (b := 1) (by decide) (by decide) (show (0 : Int) ≤ (0 : Int32).toInt ∧ (0 : Int32).toInt ≤ 0 by decide)) (iv_w (a := 0) (b := 800) (by decide) (by decide) i32) (iv_w (a := 0) (b := 1600) (by decide) (by decide) i62) f_o0_0 f_o0_5 (iv_w (a := 1) (b := 801) (by decide) (by decide) i30) f_o0_95 (show 0 = 0 ∨ (0 ≤ x1.toInt ∧ (o0.2.1 22 x1.toNatClampNeg).toInt ≤ 15) by omega) (show 0 = 0 ∨ (x8.toInt = (o0.2.1 19 x1.toNatClampNeg).toInt - 1 ∧ (x8.toInt = 0 ∨ (o0.2.1 9 (0 : Int32).toNatClampNeg).toInt - (o0.2.1 8 (0 : Int32).toNatClampNeg).toInt = x8.toInt)) by omega) x_0 (show 0 + (1600 - x61.toInt) * 2 < ((cfFU : Nat) : Int) by omega)
                      · have wc60 : ¬ (0 : Int) = (0 : Int) := c_ne c60
                        exact (dd_ne c60 (show (0 : Int) ≤ (0 : Int32).toInt ∧ (0 : Int32).toInt ≤ 0 by decide) (show (0 : Int) ≤ (0 : Int32).toInt ∧ (0 : Int32).toInt ≤ 0 by decide)).elim
                    · have wc59 : ¬ (0 : Int) = (0 : Int) := c_ne c59
                      exact (dd_ne c59 (show (0 : Int) ≤ (0 : Int32).toInt ∧ (0 : Int32).toInt ≤ 0 by decide) (show (0 : Int) ≤ (0 : Int32).toInt ∧ (0 : Int32).toInt ≤ 0 by decide)).elim
                  · have wc57 : x44.toInt ≤ (49 : Int) := c_nlt c57
                    have i67 : (48 : Int) ≤ x44.toInt ∧ x44.toInt ≤ 49 := nr_nltl c57 i56 (show (49 : Int) ≤ (49 : Int32).toInt ∧ (49 : Int32).toInt ≤ 49 by decide) (by decide) (by decide)
                    try unfold fM_in_15
                    refine tt_bw (iv_b (show (1 : Int) ≤ (1 : Int32).toInt ∧ (1 : Int32).toInt ≤ 1 by decide) (by decide) (by decide)) ?_
                    refine tt_bs ?_
                    refine tt_if (fun c68 => ?_) (fun c68 => ?_)
                    · have wc68 : (1 : Int) = (0 : Int) := c_eq c68
                      exact (dd_eq c68 (show (1 : Int) ≤ (1 : Int32).toInt ∧ (1 : Int32).toInt ≤ 1 by decide) (show (0 : Int) ≤ (0 : Int32).toInt ∧ (0 : Int32).toInt ≤ 0 by decide) (by decide)).elim
                    · have wc68 : ¬ (1 : Int) = (0 : Int) := c_ne c68
                      try unfold fM_rowLine_121
                      refine tt_if (fun c69 => ?_) (fun c69 => ?_)
                      · have wc69 : (1 : Int) = (0 : Int) := c_eq c69
                        exact (dd_eq c69 (show (1 : Int) ≤ (1 : Int32).toInt ∧ (1 : Int32).toInt ≤ 1 by decide) (show (0 : Int) ≤ (0 : Int32).toInt ∧ (0 : Int32).toInt ≤ 0 by decide) (by decide)).elim
                      · have wc69 : ¬ (1 : Int) = (0 : Int) := c_ne c69
                        refine tt_if (fun c70 => ?_) (fun c70 => ?_)
                        · have wc70 : x8.toInt = (0 : Int) := c_eq c70
                          have i71 : (0 : Int) ≤ x8.toInt ∧ x8.toInt ≤ 0 := nr_eql c70 i27 (show (0 : Int) ≤ (0 : Int32).toInt ∧ (0 : Int32).toInt ≤ 0 by decide) (by decide) (by decide)
                          have i72 : (1 : Int) ≤ x6.toInt ∧ x6.toInt ≤ 1 := by omega
                          try unfold fM_rowLine_149
                          try unfold fM_rowLine_154
                          refine tt_n (ix_ok (show (0 : Int) ≤ (0 : Int32).toInt ∧ (0 : Int32).toInt ≤ 0 by decide) (by decide) (by decide)) ?_
                          refine tt_kv (P := fun z => ((0 : Int) ≤ z.toInt ∧ z.toInt ≤ 1599) ∧ z.toInt = (o0.2.1 8 (0 : Int32).toNatClampNeg).toInt) ⟨(k_o0.2 8 _), rfl⟩ (fun x73 qi74 => ?_)
                          obtain ⟨i74, ei74⟩ := qi74
                          have t75 : (0 : Int) ≤ (o0.2.1 22 x1.toNatClampNeg).toInt ∧ (o0.2.1 22 x1.toNatClampNeg).toInt ≤ 16 := k_o0.2 22 _
                          have t76 : (0 : Int) ≤ (o0.2.1 19 x1.toNatClampNeg).toInt ∧ (o0.2.1 19 x1.toNatClampNeg).toInt ≤ 6 := k_o0.2 19 _
                          have t77 : (0 : Int) ≤ (o0.2.1 9 (0 : Int32).toNatClampNeg).toInt ∧ (o0.2.1 9 (0 : Int32).toNatClampNeg).toInt ≤ 1600 := k_o0.2 9 _
                          have t78 : (0 : Int) ≤ (o0.2.1 8 (0 : Int32).toNatClampNeg).toInt ∧ (o0.2.1 8 (0 : Int32).toNatClampNeg).toInt ≤ 1599 := k_o0.2 8 _
                          exact H _ _ _ _ _ _ _ k_o0 r_o0 (iv_w (a := (-1)) (b := 29) (by decide) (by decide) i4) (iv_w (a := (-1)) (b := 5) (by decide) (by decide) i71) (iv_w (a := 0) (b := 1) (by decide) (by decide) (show (1 : Int) ≤ (1 : Int32).toInt ∧ (1 : Int32).toInt ≤ 1 by decide)) (iv_w (a := 0) (b := 800) (by decide) (by decide) i32) (iv_w (a := 0) (b := 1600) (by decide) (by decide) i74) f_o0_0 f_o0_5 (iv_w (a := 1) (b := 801) (by decide) (by decide) i30) f_o0_95 (show 1 = 0 ∨ (0 ≤ x1.toInt ∧ (o0.2.1 22 x1.toNatClampNeg).toInt ≤ 15) by omega) (show 1 = 0 ∨ (x8.toInt = (o0.2.1 19 x1.toNatClampNeg).toInt - 1 ∧ (x8.toInt = 0 ∨ (o0.2.1 9 (0 : Int32).toNatClampNeg).toInt - (o0.2.1 8 (0 : Int32).toNatClampNeg).toInt = x8.toInt)) by omega) x_0 (show 0 + (1600 - x73.toInt) * 2 < ((cfFU : Nat) : Int) by omega)
                        · have wc70 : ¬ x8.toInt = (0 : Int) := c_ne c70
                          have i79 : ((-1) : Int) ≤ x8.toInt ∧ x8.toInt ≤ (-1) := nr_nelb c70 i27 (show (0 : Int) ≤ (0 : Int32).toInt ∧ (0 : Int32).toInt ≤ 0 by decide) (by decide) (by decide)
                          have i80 : (0 : Int) ≤ x6.toInt ∧ x6.toInt ≤ 0 := by omega
                          refine tt_n (ix_ok (show (0 : Int) ≤ (0 : Int32).toInt ∧ (0 : Int32).toInt ≤ 0 by decide) (by decide) (by decide)) ?_
                          refine tt_kv (P := fun z => ((0 : Int) ≤ z.toInt ∧ z.toInt ≤ 1600) ∧ z.toInt = (o0.2.1 9 (0 : Int32).toNatClampNeg).toInt) ⟨(k_o0.2 9 _), rfl⟩ (fun x81 qi82 => ?_)
                          obtain ⟨i82, ei82⟩ := qi82
                          refine tt_n (ix_ok (show (0 : Int) ≤ (0 : Int32).toInt ∧ (0 : Int32).toInt ≤ 0 by decide) (by decide) (by decide)) ?_
                          refine tt_kv (P := fun z => ((0 : Int) ≤ z.toInt ∧ z.toInt ≤ 1599) ∧ z.toInt = (o0.2.1 8 (0 : Int32).toNatClampNeg).toInt) ⟨(k_o0.2 8 _), rfl⟩ (fun x83 qi84 => ?_)
                          obtain ⟨i84, ei84⟩ := qi84
                          refine tt_kv (P := fun z => (((-1599) : Int) ≤ z.toInt ∧ z.toInt ≤ 1600) ∧ z.toInt = x81.toInt - x83.toInt) ⟨iv_sub i82 i84 (by decide) (by decide) (by decide) (by decide), iq_sub i82 i84 (by decide) (by decide)⟩ (fun x85 qi86 => ?_)
                          obtain ⟨i86, ei86⟩ := qi86
                          refine tt_if (fun c87 => ?_) (fun c87 => ?_)
                          · have wc87 : x85.toInt = x8.toInt := c_eq c87
                            have i88 : ((-1) : Int) ≤ x85.toInt ∧ x85.toInt ≤ (-1) := nr_eql c87 i86 i79 (by decide) (by decide)
                            try unfold fM_rowLine_149
                            try unfold fM_rowLine_154
                            refine tt_n (ix_ok (show (0 : Int) ≤ (0 : Int32).toInt ∧ (0 : Int32).toInt ≤ 0 by decide) (by decide) (by decide)) ?_
                            refine tt_kv (P := fun z => ((0 : Int) ≤ z.toInt ∧ z.toInt ≤ 1599) ∧ z.toInt = (o0.2.1 8 (0 : Int32).toNatClampNeg).toInt) ⟨(k_o0.2 8 _), rfl⟩ (fun x89 qi90 => ?_)
                            obtain ⟨i90, ei90⟩ := qi90
                            have t91 : (0 : Int) ≤ (o0.2.1 22 x1.toNatClampNeg).toInt ∧ (o0.2.1 22 x1.toNatClampNeg).toInt ≤ 16 := k_o0.2 22 _
                            have t92 : (0 : Int) ≤ (o0.2.1 19 x1.toNatClampNeg).toInt ∧ (o0.2.1 19 x1.toNatClampNeg).toInt ≤ 6 := k_o0.2 19 _
                            have t93 : (0 : Int) ≤ (o0.2.1 9 (0 : Int32).toNatClampNeg).toInt ∧ (o0.2.1 9 (0 : Int32).toNatClampNeg).toInt ≤ 1600 := k_o0.2 9 _
                            have t94 : (0 : Int) ≤ (o0.2.1 8 (0 : Int32).toNatClampNeg).toInt ∧ (o0.2.1 8 (0 : Int32).toNatClampNeg).toInt ≤ 1599 := k_o0.2 8 _
                            exact H _ _ _ _ _ _ _ k_o0 r_o0 (iv_w (a := (-1)) (b := 29) (by decide) (by decide) i4) (iv_w (a := (-1)) (b := 5) (by decide) (by decide) i79) (iv_w (a := 0) (b := 1) (by decide) (by decide) (show (1 : Int) ≤ (1 : Int32).toInt ∧ (1 : Int32).toInt ≤ 1 by decide)) (iv_w (a := 0) (b := 800) (by decide) (by decide) i32) (iv_w (a := 0) (b := 1600) (by decide) (by decide) i90) f_o0_0 f_o0_5 (iv_w (a := 1) (b := 801) (by decide) (by decide) i30) f_o0_95 (show 1 = 0 ∨ (0 ≤ x1.toInt ∧ (o0.2.1 22 x1.toNatClampNeg).toInt ≤ 15) by omega) (show 1 = 0 ∨ (x8.toInt = (o0.2.1 19 x1.toNatClampNeg).toInt - 1 ∧ (x8.toInt = 0 ∨ (o0.2.1 9 (0 : Int32).toNatClampNeg).toInt - (o0.2.1 8 (0 : Int32).toNatClampNeg).toInt = x8.toInt)) by omega) x_0 (show 0 + (1600 - x89.toInt) * 2 < ((cfFU : Nat) : Int) by omega)
                          · have wc87 : ¬ x85.toInt = x8.toInt := c_ne c87
                            try unfold fM_rowLine_153
                            try unfold fM_rowLine_154
                            refine tt_n (ix_ok (show (0 : Int) ≤ (0 : Int32).toInt ∧ (0 : Int32).toInt ≤ 0 by decide) (by decide) (by decide)) ?_
                            refine tt_kv (P := fun z => ((0 : Int) ≤ z.toInt ∧ z.toInt ≤ 1599) ∧ z.toInt = (o0.2.1 8 (0 : Int32).toNatClampNeg).toInt) ⟨(k_o0.2 8 _), rfl⟩ (fun x95 qi96 => ?_)
                            obtain ⟨i96, ei96⟩ := qi96
                            have t97 : (0 : Int) ≤ (o0.2.1 22 x1.toNatClampNeg).toInt ∧ (o0.2.1 22 x1.toNatClampNeg).toInt ≤ 16 := k_o0.2 22 _
                            have t98 : (0 : Int) ≤ (o0.2.1 19 x1.toNatClampNeg).toInt ∧ (o0.2.1 19 x1.toNatClampNeg).toInt ≤ 6 := k_o0.2 19 _
                            have t99 : (0 : Int) ≤ (o0.2.1 9 (0 : Int32).toNatClampNeg).toInt ∧ (o0.2.1 9 (0 : Int32).toNatClampNeg).toInt ≤ 1600 := k_o0.2 9 _
                            have t100 : (0 : Int) ≤ (o0.2.1 8 (0 : Int32).toNatClampNeg).toInt ∧ (o0.2.1 8 (0 : Int32).toNatClampNeg).toInt ≤ 1599 := k_o0.2 8 _
                            exact H _ _ _ _ _ _ _ k_o0 r_o0 (iv_w (a := (-1)) (b := 29) (by decide) (by decide) i4) (iv_w (a := (-1)) (b := 5) (by decide) (by decide) i79) (iv_w (a := 0) (b := 1) (by decide) (by decide) (show (0 : Int) ≤ (0 : Int32).toInt ∧ (0 : Int32).toInt ≤ 0 by decide)) (iv_w (a := 0) (b := 800) (by decide) (by decide) i32) (iv_w (a := 0) (b := 1600) (by decide) (by decide) i96) f_o0_0 f_o0_5 (iv_w (a := 1) (b := 801) (by decide) (by decide) i30) f_o0_95 (show 0 = 0 ∨ (0 ≤ x1.toInt ∧ (o0.2.1 22 x1.toNatClampNeg).toInt ≤ 15) by omega) (show 0 = 0 ∨ (x8.toInt = (o0.2.1 19 x1.toNatClampNeg).toInt - 1 ∧ (x8.toInt = 0 ∨ (o0.2.1 9 (0 : Int32).toNatClampNeg).toInt - (o0.2.1 8 (0 : Int32).toNatClampNeg).toInt = x8.toInt)) by omega) x_0 (show 0 + (1600 - x95.toInt) * 2 < ((cfFU : Nat) : Int) by omega)
              · have wc40 : ¬ x38.toInt = (1 : Int) := c_ne c40
                try unfold fM_rowLine_120
                try unfold fM_rowLine_121
                refine tt_if (fun c101 => ?_) (fun c101 => ?_)
                · have wc101 : (0 : Int) = (0 : Int) := c_eq c101
                  try unfold fM_rowLine_153
                  try unfold fM_rowLine_154
                  refine tt_n (ix_ok (show (0 : Int) ≤ (0 : Int32).toInt ∧ (0 : Int32).toInt ≤ 0 by decide) (by decide) (by decide)) ?_
                  refine tt_kv (P := fun z => ((0 : Int) ≤ z.toInt ∧ z.toInt ≤ 1599) ∧ z.toInt = (o0.2.1 8 (0 : Int32).toNatClampNeg).toInt) ⟨(k_o0.2 8 _), rfl⟩ (fun x102 qi103 => ?_)
                  obtain ⟨i103, ei103⟩ := qi103
                  have t104 : (0 : Int) ≤ (o0.2.1 22 x1.toNatClampNeg).toInt ∧ (o0.2.1 22 x1.toNatClampNeg).toInt ≤ 16 := k_o0.2 22 _
                  have t105 : (0 : Int) ≤ (o0.2.1 19 x1.toNatClampNeg).toInt ∧ (o0.2.1 19 x1.toNatClampNeg).toInt ≤ 6 := k_o0.2 19 _
                  have t106 : (0 : Int) ≤ (o0.2.1 9 (0 : Int32).toNatClampNeg).toInt ∧ (o0.2.1 9 (0 : Int32).toNatClampNeg).toInt ≤ 1600 := k_o0.2 9 _
                  have t107 : (0 : Int) ≤ (o0.2.1 8 (0 : Int32).toNatClampNeg).toInt ∧ (o0.2.1 8 (0 : Int32).toNatClampNeg).toInt ≤ 1599 := k_o0.2 8 _
                  exact H _ _ _ _ _ _ _ k_o0 r_o0 (iv_w (a := (-1)) (b := 29) (by decide) (by decide) i4) (iv_w (a := (-1)) (b := 5) (by decide) (by decide) i27) (iv_w (a := 0) (b := 1) (by decide) (by decide) (show (0 : Int) ≤ (0 : Int32).toInt ∧ (0 : Int32).toInt ≤ 0 by decide)) (iv_w (a := 0) (b := 800) (by decide) (by decide) i32) (iv_w (a := 0) (b := 1600) (by decide) (by decide) i103) f_o0_0 f_o0_5 (iv_w (a := 1) (b := 801) (by decide) (by decide) i30) f_o0_95 (show 0 = 0 ∨ (0 ≤ x1.toInt ∧ (o0.2.1 22 x1.toNatClampNeg).toInt ≤ 15) by omega) (show 0 = 0 ∨ (x8.toInt = (o0.2.1 19 x1.toNatClampNeg).toInt - 1 ∧ (x8.toInt = 0 ∨ (o0.2.1 9 (0 : Int32).toNatClampNeg).toInt - (o0.2.1 8 (0 : Int32).toNatClampNeg).toInt = x8.toInt)) by omega) x_0 (show 0 + (1600 - x102.toInt) * 2 < ((cfFU : Nat) : Int) by omega)
                · have wc101 : ¬ (0 : Int) = (0 : Int) := c_ne c101
                  exact (dd_ne c101 (show (0 : Int) ≤ (0 : Int32).toInt ∧ (0 : Int32).toInt ≤ 0 by decide) (show (0 : Int) ≤ (0 : Int32).toInt ∧ (0 : Int32).toInt ≤ 0 by decide)).elim
          · have wc29 : ¬ (o0.1 7).toInt = (1 : Int) := c_ne c29
            have i108 : (2 : Int) ≤ (o0.1 7).toInt ∧ (o0.1 7).toInt ≤ 801 := nr_nela c29 f_o0_7 (show (1 : Int) ≤ (1 : Int32).toInt ∧ (1 : Int32).toInt ≤ 1 by decide) (by decide) (by decide)
            try unfold fM_rowLine_59
            try unfold fM_rowLine_60
            refine tt_kv (P := fun z => ((1 : Int) ≤ z.toInt ∧ z.toInt ≤ 800) ∧ z.toInt = (o0.1 7).toInt - 1) ⟨iv_sub i108 (show (1 : Int) ≤ (1 : Int32).toInt ∧ (1 : Int32).toInt ≤ 1 by decide) (by decide) (by decide) (by decide) (by decide), iq_sub i108 (show (1 : Int) ≤ (1 : Int32).toInt ∧ (1 : Int32).toInt ≤ 1 by decide) (by decide) (by decide)⟩ (fun x109 qi110 => ?_)
            obtain ⟨i110, ei110⟩ := qi110
            refine tt_if (fun c111 => ?_) (fun c111 => ?_)
            · have wc111 : (0 : Int) = (0 : Int) := c_eq c111
              try unfold fM_rowLine_120
              try unfold fM_rowLine_121
              refine tt_if (fun c112 => ?_) (fun c112 => ?_)
              · have wc112 : (0 : Int) = (0 : Int) := c_eq c112
                try unfold fM_rowLine_153
                try unfold fM_rowLine_154
                refine tt_n (ix_ok (show (0 : Int) ≤ (0 : Int32).toInt ∧ (0 : Int32).toInt ≤ 0 by decide) (by decide) (by decide)) ?_
                refine tt_kv (P := fun z => ((0 : Int) ≤ z.toInt ∧ z.toInt ≤ 1599) ∧ z.toInt = (o0.2.1 8 (0 : Int32).toNatClampNeg).toInt) ⟨(k_o0.2 8 _), rfl⟩ (fun x113 qi114 => ?_)
                obtain ⟨i114, ei114⟩ := qi114
                have t115 : (0 : Int) ≤ (o0.2.1 22 x1.toNatClampNeg).toInt ∧ (o0.2.1 22 x1.toNatClampNeg).toInt ≤ 16 := k_o0.2 22 _
                have t116 : (0 : Int) ≤ (o0.2.1 19 x1.toNatClampNeg).toInt ∧ (o0.2.1 19 x1.toNatClampNeg).toInt ≤ 6 := k_o0.2 19 _
                have t117 : (0 : Int) ≤ (o0.2.1 9 (0 : Int32).toNatClampNeg).toInt ∧ (o0.2.1 9 (0 : Int32).toNatClampNeg).toInt ≤ 1600 := k_o0.2 9 _
                have t118 : (0 : Int) ≤ (o0.2.1 8 (0 : Int32).toNatClampNeg).toInt ∧ (o0.2.1 8 (0 : Int32).toNatClampNeg).toInt ≤ 1599 := k_o0.2 8 _
                exact H _ _ _ _ _ _ _ k_o0 r_o0 (iv_w (a := (-1)) (b := 29) (by decide) (by decide) i4) (iv_w (a := (-1)) (b := 5) (by decide) (by decide) i27) (iv_w (a := 0) (b := 1) (by decide) (by decide) (show (0 : Int) ≤ (0 : Int32).toInt ∧ (0 : Int32).toInt ≤ 0 by decide)) (iv_w (a := 0) (b := 800) (by decide) (by decide) i110) (iv_w (a := 0) (b := 1600) (by decide) (by decide) i114) f_o0_0 f_o0_5 (iv_w (a := 1) (b := 801) (by decide) (by decide) i108) f_o0_95 (show 0 = 0 ∨ (0 ≤ x1.toInt ∧ (o0.2.1 22 x1.toNatClampNeg).toInt ≤ 15) by omega) (show 0 = 0 ∨ (x8.toInt = (o0.2.1 19 x1.toNatClampNeg).toInt - 1 ∧ (x8.toInt = 0 ∨ (o0.2.1 9 (0 : Int32).toNatClampNeg).toInt - (o0.2.1 8 (0 : Int32).toNatClampNeg).toInt = x8.toInt)) by omega) x_0 (show 0 + (1600 - x113.toInt) * 2 < ((cfFU : Nat) : Int) by omega)
              · have wc112 : ¬ (0 : Int) = (0 : Int) := c_ne c112
                exact (dd_ne c112 (show (0 : Int) ≤ (0 : Int32).toInt ∧ (0 : Int32).toInt ≤ 0 by decide) (show (0 : Int) ≤ (0 : Int32).toInt ∧ (0 : Int32).toInt ≤ 0 by decide)).elim
            · have wc111 : ¬ (0 : Int) = (0 : Int) := c_ne c111
              exact (dd_ne c111 (show (0 : Int) ≤ (0 : Int32).toInt ∧ (0 : Int32).toInt ≤ 0 by decide) (show (0 : Int) ≤ (0 : Int32).toInt ∧ (0 : Int32).toInt ≤ 0 by decide)).elim
        · have wc26 : (0 : Int) < x8.toInt := c_nle c26
          have i119 : (1 : Int) ≤ x8.toInt ∧ x8.toInt ≤ 5 := nr_nler c26 (show (0 : Int) ≤ (0 : Int32).toInt ∧ (0 : Int32).toInt ≤ 0 by decide) i9 (by decide) (by decide)
          have i120 : (2 : Int) ≤ x6.toInt ∧ x6.toInt ≤ 6 := by omega
          try unfold fM_rowLine_52
          refine tt_if (fun c121 => ?_) (fun c121 => ?_)
          · have wc121 : (o0.1 7).toInt = (2 : Int) := c_eq c121
            have i122 : (2 : Int) ≤ (o0.1 7).toInt ∧ (o0.1 7).toInt ≤ 2 := nr_eql c121 f_o0_7 (show (2 : Int) ≤ (2 : Int32).toInt ∧ (2 : Int32).toInt ≤ 2 by decide) (by decide) (by decide)
            try unfold fM_rowLine_60
            refine tt_kv (P := fun z => ((1 : Int) ≤ z.toInt ∧ z.toInt ≤ 1) ∧ z.toInt = (o0.1 7).toInt - 1) ⟨iv_sub i122 (show (1 : Int) ≤ (1 : Int32).toInt ∧ (1 : Int32).toInt ≤ 1 by decide) (by decide) (by decide) (by decide) (by decide), iq_sub i122 (show (1 : Int) ≤ (1 : Int32).toInt ∧ (1 : Int32).toInt ≤ 1 by decide) (by decide) (by decide)⟩ (fun x123 qi124 => ?_)
            obtain ⟨i124, ei124⟩ := qi124
            refine tt_if (fun c125 => ?_) (fun c125 => ?_)
            · have wc125 : (1 : Int) = (0 : Int) := c_eq c125
              exact (dd_eq c125 (show (1 : Int) ≤ (1 : Int32).toInt ∧ (1 : Int32).toInt ≤ 1 by decide) (show (0 : Int) ≤ (0 : Int32).toInt ∧ (0 : Int32).toInt ≤ 0 by decide) (by decide)).elim
            · have wc125 : ¬ (1 : Int) = (0 : Int) := c_ne c125
              refine tt_n (ix_ok i124 (by decide) (by decide)) ?_
              refine tt_kv (P := fun z => ((0 : Int) ≤ z.toInt ∧ z.toInt ≤ 1600) ∧ z.toInt = (o0.2.1 9 x123.toNatClampNeg).toInt) ⟨(k_o0.2 9 _), rfl⟩ (fun x126 qi127 => ?_)
              obtain ⟨i127, ei127⟩ := qi127
              refine tt_n (ix_ok i124 (by decide) (by decide)) ?_
              refine tt_kv (P := fun z => ((0 : Int) ≤ z.toInt ∧ z.toInt ≤ 1599) ∧ z.toInt = (o0.2.1 8 x123.toNatClampNeg).toInt) ⟨(k_o0.2 8 _), rfl⟩ (fun x128 qi129 => ?_)
              obtain ⟨i129, ei129⟩ := qi129
              refine tt_kv (P := fun z => (((-1599) : Int) ≤ z.toInt ∧ z.toInt ≤ 1600) ∧ z.toInt = x126.toInt - x128.toInt) ⟨iv_sub i127 i129 (by decide) (by decide) (by decide) (by decide), iq_sub i127 i129 (by decide) (by decide)⟩ (fun x130 qi131 => ?_)
              obtain ⟨i131, ei131⟩ := qi131
              refine tt_if (fun c132 => ?_) (fun c132 => ?_)
              · have wc132 : x130.toInt = (1 : Int) := c_eq c132
                have i133 : (1 : Int) ≤ x130.toInt ∧ x130.toInt ≤ 1 := nr_eql c132 i131 (show (1 : Int) ≤ (1 : Int32).toInt ∧ (1 : Int32).toInt ≤ 1 by decide) (by decide) (by decide)
                refine tt_n (ix_ok i124 (by decide) (by decide)) ?_
                refine tt_kv (P := fun z => ((0 : Int) ≤ z.toInt ∧ z.toInt ≤ 1599) ∧ z.toInt = (o0.2.1 8 x123.toNatClampNeg).toInt) ⟨(k_o0.2 8 _), rfl⟩ (fun x134 qi135 => ?_)
                obtain ⟨i135, ei135⟩ := qi135
                refine tt_n (ix_ok i135 (by decide) (by decide)) ?_
                refine tt_kv (P := fun z => ((0 : Int) ≤ z.toInt ∧ z.toInt ≤ 255) ∧ z.toInt = (o0.2.1 1 x134.toNatClampNeg).toInt) ⟨(k_o0.2 1 _), rfl⟩ (fun x136 qi137 => ?_)
                obtain ⟨i137, ei137⟩ := qi137
                try unfold fM_in
                try unfold fM_in_0
                refine tt_bif (fun c138 => ?_) (fun c138 => ?_)
                · have wc138 : x136.toInt < (48 : Int) := c_lt c138
                  have i139 : (0 : Int) ≤ x136.toInt ∧ x136.toInt ≤ 47 := nr_ltl c138 i137 (show (48 : Int) ≤ (48 : Int32).toInt ∧ (48 : Int32).toInt ≤ 48 by decide) (by decide) (by decide)
                  try unfold fM_in_14
                  try unfold fM_in_15
                  refine tt_bw (iv_b (show (0 : Int) ≤ (0 : Int32).toInt ∧ (0 : Int32).toInt ≤ 0 by decide) (by decide) (by decide)) ?_
                  refine tt_bs ?_
                  refine tt_if (fun c140 => ?_) (fun c140 => ?_)
                  · have wc140 : (0 : Int) = (0 : Int) := c_eq c140
                    try unfold fM_rowLine_120
                    try unfold fM_rowLine_121
                    refine tt_if (fun c141 => ?_) (fun c141 => ?_)
                    · have wc141 : (0 : Int) = (0 : Int) := c_eq c141
                      try unfold fM_rowLine_153
                      try unfold fM_rowLine_154
                      refine tt_n (ix_ok (show (0 : Int) ≤ (0 : Int32).toInt ∧ (0 : Int32).toInt ≤ 0 by decide) (by decide) (by decide)) ?_
                      refine tt_kv (P := fun z => ((0 : Int) ≤ z.toInt ∧ z.toInt ≤ 1599) ∧ z.toInt = (o0.2.1 8 (0 : Int32).toNatClampNeg).toInt) ⟨(k_o0.2 8 _), rfl⟩ (fun x142 qi143 => ?_)
                      obtain ⟨i143, ei143⟩ := qi143
                      have t144 : (0 : Int) ≤ (o0.2.1 22 x1.toNatClampNeg).toInt ∧ (o0.2.1 22 x1.toNatClampNeg).toInt ≤ 16 := k_o0.2 22 _
                      have t145 : (0 : Int) ≤ (o0.2.1 19 x1.toNatClampNeg).toInt ∧ (o0.2.1 19 x1.toNatClampNeg).toInt ≤ 6 := k_o0.2 19 _
                      have t146 : (0 : Int) ≤ (o0.2.1 9 (0 : Int32).toNatClampNeg).toInt ∧ (o0.2.1 9 (0 : Int32).toNatClampNeg).toInt ≤ 1600 := k_o0.2 9 _
                      have t147 : (0 : Int) ≤ (o0.2.1 8 (0 : Int32).toNatClampNeg).toInt ∧ (o0.2.1 8 (0 : Int32).toNatClampNeg).toInt ≤ 1599 := k_o0.2 8 _
                      exact H _ _ _ _ _ _ _ k_o0 r_o0 (iv_w (a := (-1)) (b := 29) (by decide) (by decide) i4) (iv_w (a := (-1)) (b := 5) (by decide) (by decide) i119) (iv_w (a := 0) (b := 1) (by decide) (by decide) (show (0 : Int) ≤ (0 : Int32).toInt ∧ (0 : Int32).toInt ≤ 0 by decide)) (iv_w (a := 0) (b := 800) (by decide) (by decide) i124) (iv_w (a := 0) (b := 1600) (by decide) (by decide) i143) f_o0_0 f_o0_5 (iv_w (a := 1) (b := 801) (by decide) (by decide) i122) f_o0_95 (show 0 = 0 ∨ (0 ≤ x1.toInt ∧ (o0.2.1 22 x1.toNatClampNeg).toInt ≤ 15) by omega) (show 0 = 0 ∨ (x8.toInt = (o0.2.1 19 x1.toNatClampNeg).toInt - 1 ∧ (x8.toInt = 0 ∨ (o0.2.1 9 (0 : Int32).toNatClampNeg).toInt - (o0.2.1 8 (0 : Int32).toNatClampNeg).toInt = x8.toInt)) by omega) x_0 (show 0 + (1600 - x142.toInt) * 2 < ((cfFU : Nat) : Int) by omega)
                    · have wc141 : ¬ (0 : Int) = (0 : Int) := c_ne c141
                      exact (dd_ne c141 (show (0 : Int) ≤ (0 : Int32).toInt ∧ (0 : Int32).toInt ≤ 0 by decide) (show (0 : Int) ≤ (0 : Int32).toInt ∧ (0 : Int32).toInt ≤ 0 by decide)).elim
                  · have wc140 : ¬ (0 : Int) = (0 : Int) := c_ne c140
                    exact (dd_ne c140 (show (0 : Int) ≤ (0 : Int32).toInt ∧ (0 : Int32).toInt ≤ 0 by decide) (show (0 : Int) ≤ (0 : Int32).toInt ∧ (0 : Int32).toInt ≤ 0 by decide)).elim
                · have wc138 : (48 : Int) ≤ x136.toInt := c_nlt c138
                  have i148 : (48 : Int) ≤ x136.toInt ∧ x136.toInt ≤ 255 := nr_nltr c138 (show (48 : Int) ≤ (48 : Int32).toInt ∧ (48 : Int32).toInt ≤ 48 by decide) i137 (by decide) (by decide)
                  refine tt_bif (fun c149 => ?_) (fun c149 => ?_)
                  · have wc149 : (49 : Int) < x136.toInt := c_lt c149
                    have i150 : (50 : Int) ≤ x136.toInt ∧ x136.toInt ≤ 255 := nr_ltr c149 (show (49 : Int) ≤ (49 : Int32).toInt ∧ (49 : Int32).toInt ≤ 49 by decide) i148 (by decide) (by decide)
                    try unfold fM_in_14
                    try unfold fM_in_15
                    refine tt_bw (iv_b (show (0 : Int) ≤ (0 : Int32).toInt ∧ (0 : Int32).toInt ≤ 0 by decide) (by decide) (by decide)) ?_
                    refine tt_bs ?_
                    refine tt_if (fun c151 => ?_) (fun c151 => ?_)
                    · have wc151 : (0 : Int) = (0 : Int) := c_eq c151
                      try unfold fM_rowLine_120
                      try unfold fM_rowLine_121
                      refine tt_if (fun c152 => ?_) (fun c152 => ?_)
                      · have wc152 : (0 : Int) = (0 : Int) := c_eq c152
                        try unfold fM_rowLine_153
                        try unfold fM_rowLine_154
                        refine tt_n (ix_ok (show (0 : Int) ≤ (0 : Int32).toInt ∧ (0 : Int32).toInt ≤ 0 by decide) (by decide) (by decide)) ?_
                        refine tt_kv (P := fun z => ((0 : Int) ≤ z.toInt ∧ z.toInt ≤ 1599) ∧ z.toInt = (o0.2.1 8 (0 : Int32).toNatClampNeg).toInt) ⟨(k_o0.2 8 _), rfl⟩ (fun x153 qi154 => ?_)
                        obtain ⟨i154, ei154⟩ := qi154
                        have t155 : (0 : Int) ≤ (o0.2.1 22 x1.toNatClampNeg).toInt ∧ (o0.2.1 22 x1.toNatClampNeg).toInt ≤ 16 := k_o0.2 22 _
                        have t156 : (0 : Int) ≤ (o0.2.1 19 x1.toNatClampNeg).toInt ∧ (o0.2.1 19 x1.toNatClampNeg).toInt ≤ 6 := k_o0.2 19 _
                        have t157 : (0 : Int) ≤ (o0.2.1 9 (0 : Int32).toNatClampNeg).toInt ∧ (o0.2.1 9 (0 : Int32).toNatClampNeg).toInt ≤ 1600 := k_o0.2 9 _
                        have t158 : (0 : Int) ≤ (o0.2.1 8 (0 : Int32).toNatClampNeg).toInt ∧ (o0.2.1 8 (0 : Int32).toNatClampNeg).toInt ≤ 1599 := k_o0.2 8 _
                        exact H _ _ _ _ _ _ _ k_o0 r_o0 (iv_w (a := (-1)) (b := 29) (by decide) (by decide) i4) (iv_w (a := (-1)) (b := 5) (by decide) (by decide) i119) (iv_w (a := 0) (b := 1) (by decide) (by decide) (show (0 : Int) ≤ (0 : Int32).toInt ∧ (0 : Int32).toInt ≤ 0 by decide)) (iv_w (a := 0) (b := 800) (by decide) (by decide) i124) (iv_w (a := 0) (b := 1600) (by decide) (by decide) i154) f_o0_0 f_o0_5 (iv_w (a := 1) (b := 801) (by decide) (by decide) i122) f_o0_95 (show 0 = 0 ∨ (0 ≤ x1.toInt ∧ (o0.2.1 22 x1.toNatClampNeg).toInt ≤ 15) by omega) (show 0 = 0 ∨ (x8.toInt = (o0.2.1 19 x1.toNatClampNeg).toInt - 1 ∧ (x8.toInt = 0 ∨ (o0.2.1 9 (0 : Int32).toNatClampNeg).toInt - (o0.2.1 8 (0 : Int32).toNatClampNeg).toInt = x8.toInt)) by omega) x_0 (show 0 + (1600 - x153.toInt) * 2 < ((cfFU : Nat) : Int) by omega)
                      · have wc152 : ¬ (0 : Int) = (0 : Int) := c_ne c152
                        exact (dd_ne c152 (show (0 : Int) ≤ (0 : Int32).toInt ∧ (0 : Int32).toInt ≤ 0 by decide) (show (0 : Int) ≤ (0 : Int32).toInt ∧ (0 : Int32).toInt ≤ 0 by decide)).elim
                    · have wc151 : ¬ (0 : Int) = (0 : Int) := c_ne c151
                      exact (dd_ne c151 (show (0 : Int) ≤ (0 : Int32).toInt ∧ (0 : Int32).toInt ≤ 0 by decide) (show (0 : Int) ≤ (0 : Int32).toInt ∧ (0 : Int32).toInt ≤ 0 by decide)).elim
                  · have wc149 : x136.toInt ≤ (49 : Int) := c_nlt c149
                    have i159 : (48 : Int) ≤ x136.toInt ∧ x136.toInt ≤ 49 := nr_nltl c149 i148 (show (49 : Int) ≤ (49 : Int32).toInt ∧ (49 : Int32).toInt ≤ 49 by decide) (by decide) (by decide)
                    try unfold fM_in_15
                    refine tt_bw (iv_b (show (1 : Int) ≤ (1 : Int32).toInt ∧ (1 : Int32).toInt ≤ 1 by decide) (by decide) (by decide)) ?_
                    refine tt_bs ?_
                    refine tt_if (fun c160 => ?_) (fun c160 => ?_)
                    · have wc160 : (1 : Int) = (0 : Int) := c_eq c160
                      exact (dd_eq c160 (show (1 : Int) ≤ (1 : Int32).toInt ∧ (1 : Int32).toInt ≤ 1 by decide) (show (0 : Int) ≤ (0 : Int32).toInt ∧ (0 : Int32).toInt ≤ 0 by decide) (by decide)).elim
                    · have wc160 : ¬ (1 : Int) = (0 : Int) := c_ne c160
                      try unfold fM_rowLine_121
                      refine tt_if (fun c161 => ?_) (fun c161 => ?_)
                      · have wc161 : (1 : Int) = (0 : Int) := c_eq c161
                        exact (dd_eq c161 (show (1 : Int) ≤ (1 : Int32).toInt ∧ (1 : Int32).toInt ≤ 1 by decide) (show (0 : Int) ≤ (0 : Int32).toInt ∧ (0 : Int32).toInt ≤ 0 by decide) (by decide)).elim
                      · have wc161 : ¬ (1 : Int) = (0 : Int) := c_ne c161
                        refine tt_if (fun c162 => ?_) (fun c162 => ?_)
                        · have wc162 : x8.toInt = (0 : Int) := c_eq c162
                          exact (dd_eq c162 i119 (show (0 : Int) ≤ (0 : Int32).toInt ∧ (0 : Int32).toInt ≤ 0 by decide) (by decide)).elim
                        · have wc162 : ¬ x8.toInt = (0 : Int) := c_ne c162
                          refine tt_n (ix_ok (show (0 : Int) ≤ (0 : Int32).toInt ∧ (0 : Int32).toInt ≤ 0 by decide) (by decide) (by decide)) ?_
                          refine tt_kv (P := fun z => ((0 : Int) ≤ z.toInt ∧ z.toInt ≤ 1600) ∧ z.toInt = (o0.2.1 9 (0 : Int32).toNatClampNeg).toInt) ⟨(k_o0.2 9 _), rfl⟩ (fun x163 qi164 => ?_)
                          obtain ⟨i164, ei164⟩ := qi164
                          refine tt_n (ix_ok (show (0 : Int) ≤ (0 : Int32).toInt ∧ (0 : Int32).toInt ≤ 0 by decide) (by decide) (by decide)) ?_
                          refine tt_kv (P := fun z => ((0 : Int) ≤ z.toInt ∧ z.toInt ≤ 1599) ∧ z.toInt = (o0.2.1 8 (0 : Int32).toNatClampNeg).toInt) ⟨(k_o0.2 8 _), rfl⟩ (fun x165 qi166 => ?_)
                          obtain ⟨i166, ei166⟩ := qi166
                          refine tt_kv (P := fun z => (((-1599) : Int) ≤ z.toInt ∧ z.toInt ≤ 1600) ∧ z.toInt = x163.toInt - x165.toInt) ⟨iv_sub i164 i166 (by decide) (by decide) (by decide) (by decide), iq_sub i164 i166 (by decide) (by decide)⟩ (fun x167 qi168 => ?_)
                          obtain ⟨i168, ei168⟩ := qi168
                          refine tt_if (fun c169 => ?_) (fun c169 => ?_)
                          · have wc169 : x167.toInt = x8.toInt := c_eq c169
                            have i170 : (1 : Int) ≤ x167.toInt ∧ x167.toInt ≤ 5 := nr_eql c169 i168 i119 (by decide) (by decide)
                            try unfold fM_rowLine_149
                            try unfold fM_rowLine_154
                            refine tt_n (ix_ok (show (0 : Int) ≤ (0 : Int32).toInt ∧ (0 : Int32).toInt ≤ 0 by decide) (by decide) (by decide)) ?_
                            refine tt_kv (P := fun z => ((0 : Int) ≤ z.toInt ∧ z.toInt ≤ 1599) ∧ z.toInt = (o0.2.1 8 (0 : Int32).toNatClampNeg).toInt) ⟨(k_o0.2 8 _), rfl⟩ (fun x171 qi172 => ?_)
                            obtain ⟨i172, ei172⟩ := qi172
                            have t173 : (0 : Int) ≤ (o0.2.1 22 x1.toNatClampNeg).toInt ∧ (o0.2.1 22 x1.toNatClampNeg).toInt ≤ 16 := k_o0.2 22 _
                            have t174 : (0 : Int) ≤ (o0.2.1 19 x1.toNatClampNeg).toInt ∧ (o0.2.1 19 x1.toNatClampNeg).toInt ≤ 6 := k_o0.2 19 _
                            have t175 : (0 : Int) ≤ (o0.2.1 9 (0 : Int32).toNatClampNeg).toInt ∧ (o0.2.1 9 (0 : Int32).toNatClampNeg).toInt ≤ 1600 := k_o0.2 9 _
                            have t176 : (0 : Int) ≤ (o0.2.1 8 (0 : Int32).toNatClampNeg).toInt ∧ (o0.2.1 8 (0 : Int32).toNatClampNeg).toInt ≤ 1599 := k_o0.2 8 _
                            exact H _ _ _ _ _ _ _ k_o0 r_o0 (iv_w (a := (-1)) (b := 29) (by decide) (by decide) i4) (iv_w (a := (-1)) (b := 5) (by decide) (by decide) i119) (iv_w (a := 0) (b := 1) (by decide) (by decide) (show (1 : Int) ≤ (1 : Int32).toInt ∧ (1 : Int32).toInt ≤ 1 by decide)) (iv_w (a := 0) (b := 800) (by decide) (by decide) i124) (iv_w (a := 0) (b := 1600) (by decide) (by decide) i172) f_o0_0 f_o0_5 (iv_w (a := 1) (b := 801) (by decide) (by decide) i122) f_o0_95 (show 1 = 0 ∨ (0 ≤ x1.toInt ∧ (o0.2.1 22 x1.toNatClampNeg).toInt ≤ 15) by omega) (show 1 = 0 ∨ (x8.toInt = (o0.2.1 19 x1.toNatClampNeg).toInt - 1 ∧ (x8.toInt = 0 ∨ (o0.2.1 9 (0 : Int32).toNatClampNeg).toInt - (o0.2.1 8 (0 : Int32).toNatClampNeg).toInt = x8.toInt)) by omega) x_0 (show 0 + (1600 - x171.toInt) * 2 < ((cfFU : Nat) : Int) by omega)
                          · have wc169 : ¬ x167.toInt = x8.toInt := c_ne c169
                            try unfold fM_rowLine_153
                            try unfold fM_rowLine_154
                            refine tt_n (ix_ok (show (0 : Int) ≤ (0 : Int32).toInt ∧ (0 : Int32).toInt ≤ 0 by decide) (by decide) (by decide)) ?_
                            refine tt_kv (P := fun z => ((0 : Int) ≤ z.toInt ∧ z.toInt ≤ 1599) ∧ z.toInt = (o0.2.1 8 (0 : Int32).toNatClampNeg).toInt) ⟨(k_o0.2 8 _), rfl⟩ (fun x177 qi178 => ?_)
                            obtain ⟨i178, ei178⟩ := qi178
                            have t179 : (0 : Int) ≤ (o0.2.1 22 x1.toNatClampNeg).toInt ∧ (o0.2.1 22 x1.toNatClampNeg).toInt ≤ 16 := k_o0.2 22 _
                            have t180 : (0 : Int) ≤ (o0.2.1 19 x1.toNatClampNeg).toInt ∧ (o0.2.1 19 x1.toNatClampNeg).toInt ≤ 6 := k_o0.2 19 _
                            have t181 : (0 : Int) ≤ (o0.2.1 9 (0 : Int32).toNatClampNeg).toInt ∧ (o0.2.1 9 (0 : Int32).toNatClampNeg).toInt ≤ 1600 := k_o0.2 9 _
                            have t182 : (0 : Int) ≤ (o0.2.1 8 (0 : Int32).toNatClampNeg).toInt ∧ (o0.2.1 8 (0 : Int32).toNatClampNeg).toInt ≤ 1599 := k_o0.2 8 _
                            exact H _ _ _ _ _ _ _ k_o0 r_o0 (iv_w (a := (-1)) (b := 29) (by decide) (by decide) i4) (iv_w (a := (-1)) (b := 5) (by decide) (by decide) i119) (iv_w (a := 0) (b := 1) (by decide) (by decide) (show (0 : Int) ≤ (0 : Int32).toInt ∧ (0 : Int32).toInt ≤ 0 by decide)) (iv_w (a := 0) (b := 800) (by decide) (by decide) i124) (iv_w (a := 0) (b := 1600) (by decide) (by decide) i178) f_o0_0 f_o0_5 (iv_w (a := 1) (b := 801) (by decide) (by decide) i122) f_o0_95 (show 0 = 0 ∨ (0 ≤ x1.toInt ∧ (o0.2.1 22 x1.toNatClampNeg).toInt ≤ 15) by omega) (show 0 = 0 ∨ (x8.toInt = (o0.2.1 19 x1.toNatClampNeg).toInt - 1 ∧ (x8.toInt = 0 ∨ (o0.2.1 9 (0 : Int32).toNatClampNeg).toInt - (o0.2.1 8 (0 : Int32).toNatClampNeg).toInt = x8.toInt)) by omega) x_0 (show 0 + (1600 - x177.toInt) * 2 < ((cfFU : Nat) : Int) by omega)
              · have wc132 : ¬ x130.toInt = (1 : Int) := c_ne c132
                try unfold fM_rowLine_120
                try unfold fM_rowLine_121
                refine tt_if (fun c183 => ?_) (fun c183 => ?_)
                · have wc183 : (0 : Int) = (0 : Int) := c_eq c183
                  try unfold fM_rowLine_153
                  try unfold fM_rowLine_154
                  refine tt_n (ix_ok (show (0 : Int) ≤ (0 : Int32).toInt ∧ (0 : Int32).toInt ≤ 0 by decide) (by decide) (by decide)) ?_
                  refine tt_kv (P := fun z => ((0 : Int) ≤ z.toInt ∧ z.toInt ≤ 1599) ∧ z.toInt = (o0.2.1 8 (0 : Int32).toNatClampNeg).toInt) ⟨(k_o0.2 8 _), rfl⟩ (fun x184 qi185 => ?_)
                  obtain ⟨i185, ei185⟩ := qi185
                  have t186 : (0 : Int) ≤ (o0.2.1 22 x1.toNatClampNeg).toInt ∧ (o0.2.1 22 x1.toNatClampNeg).toInt ≤ 16 := k_o0.2 22 _
                  have t187 : (0 : Int) ≤ (o0.2.1 19 x1.toNatClampNeg).toInt ∧ (o0.2.1 19 x1.toNatClampNeg).toInt ≤ 6 := k_o0.2 19 _
                  have t188 : (0 : Int) ≤ (o0.2.1 9 (0 : Int32).toNatClampNeg).toInt ∧ (o0.2.1 9 (0 : Int32).toNatClampNeg).toInt ≤ 1600 := k_o0.2 9 _
                  have t189 : (0 : Int) ≤ (o0.2.1 8 (0 : Int32).toNatClampNeg).toInt ∧ (o0.2.1 8 (0 : Int32).toNatClampNeg).toInt ≤ 1599 := k_o0.2 8 _
                  exact H _ _ _ _ _ _ _ k_o0 r_o0 (iv_w (a := (-1)) (b := 29) (by decide) (by decide) i4) (iv_w (a := (-1)) (b := 5) (by decide) (by decide) i119) (iv_w (a := 0) (b := 1) (by decide) (by decide) (show (0 : Int) ≤ (0 : Int32).toInt ∧ (0 : Int32).toInt ≤ 0 by decide)) (iv_w (a := 0) (b := 800) (by decide) (by decide) i124) (iv_w (a := 0) (b := 1600) (by decide) (by decide) i185) f_o0_0 f_o0_5 (iv_w (a := 1) (b := 801) (by decide) (by decide) i122) f_o0_95 (show 0 = 0 ∨ (0 ≤ x1.toInt ∧ (o0.2.1 22 x1.toNatClampNeg).toInt ≤ 15) by omega) (show 0 = 0 ∨ (x8.toInt = (o0.2.1 19 x1.toNatClampNeg).toInt - 1 ∧ (x8.toInt = 0 ∨ (o0.2.1 9 (0 : Int32).toNatClampNeg).toInt - (o0.2.1 8 (0 : Int32).toNatClampNeg).toInt = x8.toInt)) by omega) x_0 (show 0 + (1600 - x184.toInt) * 2 < ((cfFU : Nat) : Int) by omega)
                · have wc183 : ¬ (0 : Int) = (0 : Int) := c_ne c183
                  exact (dd_ne c183 (show (0 : Int) ≤ (0 : Int32).toInt ∧ (0 : Int32).toInt ≤ 0 by decide) (show (0 : Int) ≤ (0 : Int32).toInt ∧ (0 : Int32).toInt ≤ 0 by decide)).elim
          · have wc121 : ¬ (o0.1 7).toInt = (2 : Int) := c_ne c121
            try unfold fM_rowLine_59
            try unfold fM_rowLine_60
            refine tt_kv (P := fun z => ((0 : Int) ≤ z.toInt ∧ z.toInt ≤ 800) ∧ z.toInt = (o0.1 7).toInt - 1) ⟨iv_sub f_o0_7 (show (1 : Int) ≤ (1 : Int32).toInt ∧ (1 : Int32).toInt ≤ 1 by decide) (by decide) (by decide) (by decide) (by decide), iq_sub f_o0_7 (show (1 : Int) ≤ (1 : Int32).toInt ∧ (1 : Int32).toInt ≤ 1 by decide) (by decide) (by decide)⟩ (fun x190 qi191 => ?_)
            obtain ⟨i191, ei191⟩ := qi191
            refine tt_if (fun c192 => ?_) (fun c192 => ?_)
            · have wc192 : (0 : Int) = (0 : Int) := c_eq c192
              try unfold fM_rowLine_120
              try unfold fM_rowLine_121
              refine tt_if (fun c193 => ?_) (fun c193 => ?_)
              · have wc193 : (0 : Int) = (0 : Int) := c_eq c193
                try unfold fM_rowLine_153
                try unfold fM_rowLine_154
                refine tt_n (ix_ok (show (0 : Int) ≤ (0 : Int32).toInt ∧ (0 : Int32).toInt ≤ 0 by decide) (by decide) (by decide)) ?_
                refine tt_kv (P := fun z => ((0 : Int) ≤ z.toInt ∧ z.toInt ≤ 1599) ∧ z.toInt = (o0.2.1 8 (0 : Int32).toNatClampNeg).toInt) ⟨(k_o0.2 8 _), rfl⟩ (fun x194 qi195 => ?_)
                obtain ⟨i195, ei195⟩ := qi195
                have t196 : (0 : Int) ≤ (o0.2.1 22 x1.toNatClampNeg).toInt ∧ (o0.2.1 22 x1.toNatClampNeg).toInt ≤ 16 := k_o0.2 22 _
                have t197 : (0 : Int) ≤ (o0.2.1 19 x1.toNatClampNeg).toInt ∧ (o0.2.1 19 x1.toNatClampNeg).toInt ≤ 6 := k_o0.2 19 _
                have t198 : (0 : Int) ≤ (o0.2.1 9 (0 : Int32).toNatClampNeg).toInt ∧ (o0.2.1 9 (0 : Int32).toNatClampNeg).toInt ≤ 1600 := k_o0.2 9 _
                have t199 : (0 : Int) ≤ (o0.2.1 8 (0 : Int32).toNatClampNeg).toInt ∧ (o0.2.1 8 (0 : Int32).toNatClampNeg).toInt ≤ 1599 := k_o0.2 8 _
                exact H _ _ _ _ _ _ _ k_o0 r_o0 (iv_w (a := (-1)) (b := 29) (by decide) (by decide) i4) (iv_w (a := (-1)) (b := 5) (by decide) (by decide) i119) (iv_w (a := 0) (b := 1) (by decide) (by decide) (show (0 : Int) ≤ (0 : Int32).toInt ∧ (0 : Int32).toInt ≤ 0 by decide)) i191 (iv_w (a := 0) (b := 1600) (by decide) (by decide) i195) f_o0_0 f_o0_5 f_o0_7 f_o0_95 (show 0 = 0 ∨ (0 ≤ x1.toInt ∧ (o0.2.1 22 x1.toNatClampNeg).toInt ≤ 15) by omega) (show 0 = 0 ∨ (x8.toInt = (o0.2.1 19 x1.toNatClampNeg).toInt - 1 ∧ (x8.toInt = 0 ∨ (o0.2.1 9 (0 : Int32).toNatClampNeg).toInt - (o0.2.1 8 (0 : Int32).toNatClampNeg).toInt = x8.toInt)) by omega) x_0 (show 0 + (1600 - x194.toInt) * 2 < ((cfFU : Nat) : Int) by omega)
              · have wc193 : ¬ (0 : Int) = (0 : Int) := c_ne c193
                exact (dd_ne c193 (show (0 : Int) ≤ (0 : Int32).toInt ∧ (0 : Int32).toInt ≤ 0 by decide) (show (0 : Int) ≤ (0 : Int32).toInt ∧ (0 : Int32).toInt ≤ 0 by decide)).elim
            · have wc192 : ¬ (0 : Int) = (0 : Int) := c_ne c192
              exact (dd_ne c192 (show (0 : Int) ≤ (0 : Int32).toInt ∧ (0 : Int32).toInt ≤ 0 by decide) (show (0 : Int) ≤ (0 : Int32).toInt ∧ (0 : Int32).toInt ≤ 0 by decide)).elim
  · have wc3 : x1.toInt < (0 : Int) := c_nle c3
    have i200 : ((-1) : Int) ≤ x1.toInt ∧ x1.toInt ≤ (-1) := nr_nlel c3 i2 (show (0 : Int) ≤ (0 : Int32).toInt ∧ (0 : Int32).toInt ≤ 0 by decide) (by decide) (by decide)
    have i201 : (0 : Int) ≤ (o0.1 17).toInt ∧ (o0.1 17).toInt ≤ 0 := by omega
    try unfold fM_rowLine_23
    refine tt_if (fun c202 => ?_) (fun c202 => ?_)
    · have wc202 : x1.toInt < (0 : Int) := c_lt c202
      try unfold fM_rowLine_59
      try unfold fM_rowLine_60
      refine tt_kv (P := fun z => ((0 : Int) ≤ z.toInt ∧ z.toInt ≤ 800) ∧ z.toInt = (o0.1 7).toInt - 1) ⟨iv_sub f_o0_7 (show (1 : Int) ≤ (1 : Int32).toInt ∧ (1 : Int32).toInt ≤ 1 by decide) (by decide) (by decide) (by decide) (by decide), iq_sub f_o0_7 (show (1 : Int) ≤ (1 : Int32).toInt ∧ (1 : Int32).toInt ≤ 1 by decide) (by decide) (by decide)⟩ (fun x203 qi204 => ?_)
      obtain ⟨i204, ei204⟩ := qi204
      refine tt_if (fun c205 => ?_) (fun c205 => ?_)
      · have wc205 : (0 : Int) = (0 : Int) := c_eq c205
        try unfold fM_rowLine_120
        try unfold fM_rowLine_121
        refine tt_if (fun c206 => ?_) (fun c206 => ?_)
        · have wc206 : (0 : Int) = (0 : Int) := c_eq c206
          try unfold fM_rowLine_153
          try unfold fM_rowLine_154
          refine tt_n (ix_ok (show (0 : Int) ≤ (0 : Int32).toInt ∧ (0 : Int32).toInt ≤ 0 by decide) (by decide) (by decide)) ?_
          refine tt_kv (P := fun z => ((0 : Int) ≤ z.toInt ∧ z.toInt ≤ 1599) ∧ z.toInt = (o0.2.1 8 (0 : Int32).toNatClampNeg).toInt) ⟨(k_o0.2 8 _), rfl⟩ (fun x207 qi208 => ?_)
          obtain ⟨i208, ei208⟩ := qi208
          have t209 : (0 : Int) ≤ (o0.2.1 22 x1.toNatClampNeg).toInt ∧ (o0.2.1 22 x1.toNatClampNeg).toInt ≤ 16 := k_o0.2 22 _
          have t210 : (0 : Int) ≤ (o0.2.1 19 x1.toNatClampNeg).toInt ∧ (o0.2.1 19 x1.toNatClampNeg).toInt ≤ 6 := k_o0.2 19 _
          have t211 : (0 : Int) ≤ (o0.2.1 9 (0 : Int32).toNatClampNeg).toInt ∧ (o0.2.1 9 (0 : Int32).toNatClampNeg).toInt ≤ 1600 := k_o0.2 9 _
          have t212 : (0 : Int) ≤ (o0.2.1 8 (0 : Int32).toNatClampNeg).toInt ∧ (o0.2.1 8 (0 : Int32).toNatClampNeg).toInt ≤ 1599 := k_o0.2 8 _
          exact H _ _ _ _ _ _ _ k_o0 r_o0 (iv_w (a := (-1)) (b := 29) (by decide) (by decide) i200) (iv_w (a := (-1)) (b := 5) (by decide) (by decide) (show (0 : Int) ≤ (0 : Int32).toInt ∧ (0 : Int32).toInt ≤ 0 by decide)) (iv_w (a := 0) (b := 1) (by decide) (by decide) (show (0 : Int) ≤ (0 : Int32).toInt ∧ (0 : Int32).toInt ≤ 0 by decide)) i204 (iv_w (a := 0) (b := 1600) (by decide) (by decide) i208) f_o0_0 f_o0_5 f_o0_7 f_o0_95 (show 0 = 0 ∨ (0 ≤ x1.toInt ∧ (o0.2.1 22 x1.toNatClampNeg).toInt ≤ 15) by omega) (show 0 = 0 ∨ (0 = (o0.2.1 19 x1.toNatClampNeg).toInt - 1 ∧ (0 = 0 ∨ (o0.2.1 9 (0 : Int32).toNatClampNeg).toInt - (o0.2.1 8 (0 : Int32).toNatClampNeg).toInt = 0)) by omega) x_0 (show 0 + (1600 - x207.toInt) * 2 < ((cfFU : Nat) : Int) by omega)
        · have wc206 : ¬ (0 : Int) = (0 : Int) := c_ne c206
          exact (dd_ne c206 (show (0 : Int) ≤ (0 : Int32).toInt ∧ (0 : Int32).toInt ≤ 0 by decide) (show (0 : Int) ≤ (0 : Int32).toInt ∧ (0 : Int32).toInt ≤ 0 by decide)).elim
      · have wc205 : ¬ (0 : Int) = (0 : Int) := c_ne c205
        exact (dd_ne c205 (show (0 : Int) ≤ (0 : Int32).toInt ∧ (0 : Int32).toInt ≤ 0 by decide) (show (0 : Int) ≤ (0 : Int32).toInt ∧ (0 : Int32).toInt ≤ 0 by decide)).elim
    · have wc202 : (0 : Int) ≤ x1.toInt := c_nlt c202
      exact (dd_nlt c202 (show (0 : Int) ≤ (0 : Int32).toInt ∧ (0 : Int32).toInt ≤ 0 by decide) i200 (by decide)).elim
