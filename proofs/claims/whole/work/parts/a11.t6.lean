def QM_cover (v1 : Int32) (o0 : cf_O) (r : (Int32 × cf_O)) : Prop := ((0 : Int) ≤ r.1.toInt ∧ r.1.toInt ≤ 200) ∧ (okO I_M r.2) ∧ (Fr (fr_M [0, 36, 64, 65, 66, 73, 76, 96] [57, 58, 59, 60, 61, 62, 63, 67, 72, 74, 75, 77, 97] []) o0 r.2) ∧ (Ch (r.2.1 64) (r.2.1 73) (r.2.1 39) (r.2.1 43) (r.2.2.1 74)) ∧ (Lmd (r.2.1 64).toInt (r.2.1 65).toInt) ∧ (Cn (r.2.2.1 59) (r.2.2.1 58)) ∧ (Gx ((r.2.1 39).toInt + 1) (r.2.1 43).toInt (r.2.2.1 44) (r.2.2.1 45)) ∧ (No (r.2.1 40).toInt ((r.2.1 39).toInt + 1 + (r.2.1 43).toInt) (r.2.2.1 47)) ∧ (Hc (r.2.1 64).toInt ((r.2.1 39).toInt + 1) (r.2.1 43).toInt (r.2.1 65).toInt (r.2.2.1 44) (r.2.2.1 45)) ∧ True
set_option maxHeartbeats 4000000 in
set_option maxRecDepth 100000 in
theorem sM_cover (v1 : Int32) (o0 : cf_O) (k_o0 : okO I_M o0) (f_o0_95 : (0 : Int) ≤ (o0.1 95).toInt ∧ (o0.1 95).toInt ≤ 0) (x_0 : Ch (o0.1 64) (o0.1 73) (o0.1 39) (o0.1 43) (o0.2.1 74)) (x_1 : Lmd (o0.1 64).toInt (o0.1 65).toInt) (x_2 : Cn (o0.2.1 59) (o0.2.1 58)) (x_3 : Gx ((o0.1 39).toInt + 1) (o0.1 43).toInt (o0.2.1 44) (o0.2.1 45)) (x_4 : No (o0.1 40).toInt ((o0.1 39).toInt + 1 + (o0.1 43).toInt) (o0.2.1 47)) (x_5 : Hc (o0.1 64).toInt ((o0.1 39).toInt + 1) (o0.1 43).toInt (o0.1 65).toInt (o0.2.1 44) (o0.2.1 45)) : tt (fM_cover v1 o0) (QM_cover v1 o0) := by
  have r_o0 : Fr (fr_M [0, 36, 64, 65, 66, 73, 76, 96] [57, 58, 59, 60, 61, 62, 63, 67, 72, 74, 75, 77, 97] []) o0 o0 := fr_rfl
  unfold fM_cover fM_cover_0
  have i_v1 := iv_top v1
  refine tt_if (fun c1 => ?_) (fun c1 => ?_)
  · have wc1 : (o0.1 38).toInt = (0 : Int) := c_eq c1
    have i2 : (0 : Int) ≤ (o0.1 38).toInt ∧ (o0.1 38).toInt ≤ 0 := nr_eql c1 (k_o0.1 38) (show (0 : Int) ≤ (0 : Int32).toInt ∧ (0 : Int32).toInt ≤ 0 by decide) (by decide) (by decide)
    try unfold fM_cover_13
    refine tt_if (fun c3 => ?_) (fun c3 => ?_)
    · have wc3 : (o0.1 38).toInt = (0 : Int) := c_eq c3
      try unfold fM_cover_33
      try unfold fM_cover_34
      try unfold fM_refuse
      try unfold fM_refuse_0
      refine tt_bif (fun c4 => ?_) (fun c4 => ?_)
      · have wc4 : (1 : Int) = (0 : Int) := c_eq c4
        exact (dd_eq c4 (show (1 : Int) ≤ (1 : Int32).toInt ∧ (1 : Int32).toInt ≤ 1 by decide) (show (0 : Int) ≤ (0 : Int32).toInt ∧ (0 : Int32).toInt ≤ 0 by decide) (by decide)).elim
      · have wc4 : ¬ (1 : Int) = (0 : Int) := c_ne c4
        try unfold fM_refuse_26
        refine tt_bko ?_
        have k5 := ok_fp (k := 0) (v := 1) k_o0 (iv_w (a := 0) (b := 3) (by decide) (by decide) (show (1 : Int) ≤ (1 : Int32).toInt ∧ (1 : Int32).toInt ≤ 1 by decide))
        have r6 := fr_fp (k := 0) (v := 1) r_o0 rfl
        refine tt_bif (fun c7 => ?_) (fun c7 => ?_)
        · have wc7 : (1 : Int) ≤ (0 : Int) := c_le c7
          exact (dd_le c7 (show (1 : Int) ≤ (1 : Int32).toInt ∧ (1 : Int32).toInt ≤ 1 by decide) (show (0 : Int) ≤ (0 : Int32).toInt ∧ (0 : Int32).toInt ≤ 0 by decide) (by decide)).elim
        · have wc7 : (0 : Int) < (1 : Int) := c_nle c7
          try unfold fM_refuse_41
          refine tt_bw (iv_b (show (1 : Int) ≤ (1 : Int32).toInt ∧ (1 : Int32).toInt ≤ 1 by decide) (by decide) (by decide)) ?_
          refine tt_bs ?_
          refine tt_if (fun c8 => ?_) (fun c8 => ?_)
          · have wc8 : (1 : Int) = (0 : Int) := c_eq c8
            exact (dd_eq c8 (show (1 : Int) ≤ (1 : Int32).toInt ∧ (1 : Int32).toInt ≤ 1 by decide) (show (0 : Int) ≤ (0 : Int32).toInt ∧ (0 : Int32).toInt ≤ 0 by decide) (by decide)).elim
          · have wc8 : ¬ (1 : Int) = (0 : Int) := c_ne c8
            exact tt_some ⟨(iv_w (a := 0) (b := 200) (by decide) (by decide) (show (0 : Int) ≤ (0 : Int32).toInt ∧ (0 : Int32).toInt ≤ 0 by decide)), k5, r6, x_0, x_1, x_2, x_3, x_4, x_5, trivial⟩
    · have wc3 : ¬ (o0.1 38).toInt = (0 : Int) := c_ne c3
      exact (dd_ne c3 i2 (show (0 : Int) ≤ (0 : Int32).toInt ∧ (0 : Int32).toInt ≤ 0 by decide)).elim
  · have wc1 : ¬ (o0.1 38).toInt = (0 : Int) := c_ne c1
    have i9 : (1 : Int) ≤ (o0.1 38).toInt ∧ (o0.1 38).toInt ≤ 1 := nr_nela c1 (k_o0.1 38) (show (0 : Int) ≤ (0 : Int32).toInt ∧ (0 : Int32).toInt ≤ 0 by decide) (by decide) (by decide)
    try unfold fM_cover_13
    refine tt_if (fun c10 => ?_) (fun c10 => ?_)
    · have wc10 : (o0.1 38).toInt = (0 : Int) := c_eq c10
      exact (dd_eq c10 i9 (show (0 : Int) ≤ (0 : Int32).toInt ∧ (0 : Int32).toInt ≤ 0 by decide) (by decide)).elim
    · have wc10 : ¬ (o0.1 38).toInt = (0 : Int) := c_ne c10
      try unfold fM_in
      try unfold fM_in_0
      refine tt_bif (fun c11 => ?_) (fun c11 => ?_)
      · have wc11 : v1.toInt < (2 : Int) := c_lt c11
        have i12 : ((-2147483648) : Int) ≤ v1.toInt ∧ v1.toInt ≤ 1 := nr_ltl c11 (iv_top v1) (show (2 : Int) ≤ (2 : Int32).toInt ∧ (2 : Int32).toInt ≤ 2 by decide) (by decide) (by decide)
        try unfold fM_in_14
        try unfold fM_in_15
        refine tt_bw (iv_b (show (0 : Int) ≤ (0 : Int32).toInt ∧ (0 : Int32).toInt ≤ 0 by decide) (by decide) (by decide)) ?_
        refine tt_bs ?_
        refine tt_if (fun c13 => ?_) (fun c13 => ?_)
        · have wc13 : (0 : Int) = (0 : Int) := c_eq c13
          try unfold fM_cover_34
          try unfold fM_refuse
          try unfold fM_refuse_0
          refine tt_bif (fun c14 => ?_) (fun c14 => ?_)
          · have wc14 : (0 : Int) = (0 : Int) := c_eq c14
            refine tt_bif (fun c15 => ?_) (fun c15 => ?_)
            · have wc15 : (1 : Int) = (0 : Int) := c_eq c15
              exact (dd_eq c15 (show (1 : Int) ≤ (1 : Int32).toInt ∧ (1 : Int32).toInt ≤ 1 by decide) (show (0 : Int) ≤ (0 : Int32).toInt ∧ (0 : Int32).toInt ≤ 0 by decide) (by decide)).elim
            · have wc15 : ¬ (1 : Int) = (0 : Int) := c_ne c15
              try unfold fM_refuse_26
              refine tt_bko ?_
              have k16 := ok_fp (k := 0) (v := 2) k_o0 (iv_w (a := 0) (b := 3) (by decide) (by decide) (show (2 : Int) ≤ (2 : Int32).toInt ∧ (2 : Int32).toInt ≤ 2 by decide))
              have r17 := fr_fp (k := 0) (v := 2) r_o0 rfl
              refine tt_bif (fun c18 => ?_) (fun c18 => ?_)
              · have wc18 : (2 : Int) ≤ (0 : Int) := c_le c18
                exact (dd_le c18 (show (2 : Int) ≤ (2 : Int32).toInt ∧ (2 : Int32).toInt ≤ 2 by decide) (show (0 : Int) ≤ (0 : Int32).toInt ∧ (0 : Int32).toInt ≤ 0 by decide) (by decide)).elim
              · have wc18 : (0 : Int) < (2 : Int) := c_nle c18
                try unfold fM_refuse_41
                refine tt_bw (iv_b (show (1 : Int) ≤ (1 : Int32).toInt ∧ (1 : Int32).toInt ≤ 1 by decide) (by decide) (by decide)) ?_
                refine tt_bs ?_
                refine tt_if (fun c19 => ?_) (fun c19 => ?_)
                · have wc19 : (1 : Int) = (0 : Int) := c_eq c19
                  exact (dd_eq c19 (show (1 : Int) ≤ (1 : Int32).toInt ∧ (1 : Int32).toInt ≤ 1 by decide) (show (0 : Int) ≤ (0 : Int32).toInt ∧ (0 : Int32).toInt ≤ 0 by decide) (by decide)).elim
                · have wc19 : ¬ (1 : Int) = (0 : Int) := c_ne c19
                  exact tt_some ⟨(iv_w (a := 0) (b := 200) (by decide) (by decide) (show (0 : Int) ≤ (0 : Int32).toInt ∧ (0 : Int32).toInt ≤ 0 by decide)), k16, r17, x_0, x_1, x_2, x_3, x_4, x_5, trivial⟩
          · have wc14 : ¬ (0 : Int) = (0 : Int) := c_ne c14
            exact (dd_ne c14 (show (0 : Int) ≤ (0 : Int32).toInt ∧ (0 : Int32).toInt ≤ 0 by decide) (show (0 : Int) ≤ (0 : Int32).toInt ∧ (0 : Int32).toInt ≤ 0 by decide)).elim
        · have wc13 : ¬ (0 : Int) = (0 : Int) := c_ne c13
          exact (dd_ne c13 (show (0 : Int) ≤ (0 : Int32).toInt ∧ (0 : Int32).toInt ≤ 0 by decide) (show (0 : Int) ≤ (0 : Int32).toInt ∧ (0 : Int32).toInt ≤ 0 by decide)).elim
      · have wc11 : (2 : Int) ≤ v1.toInt := c_nlt c11
        have i20 : (2 : Int) ≤ v1.toInt ∧ v1.toInt ≤ 2147483647 := nr_nltr c11 (show (2 : Int) ≤ (2 : Int32).toInt ∧ (2 : Int32).toInt ≤ 2 by decide) (iv_top v1) (by decide) (by decide)
        refine tt_bif (fun c21 => ?_) (fun c21 => ?_)
        · have wc21 : (5 : Int) < v1.toInt := c_lt c21
          have i22 : (6 : Int) ≤ v1.toInt ∧ v1.toInt ≤ 2147483647 := nr_ltr c21 (show (5 : Int) ≤ (5 : Int32).toInt ∧ (5 : Int32).toInt ≤ 5 by decide) i20 (by decide) (by decide)
          try unfold fM_in_14
          try unfold fM_in_15
          refine tt_bw (iv_b (show (0 : Int) ≤ (0 : Int32).toInt ∧ (0 : Int32).toInt ≤ 0 by decide) (by decide) (by decide)) ?_
          refine tt_bs ?_
          refine tt_if (fun c23 => ?_) (fun c23 => ?_)
          · have wc23 : (0 : Int) = (0 : Int) := c_eq c23
            try unfold fM_cover_34
            try unfold fM_refuse
            try unfold fM_refuse_0
            refine tt_bif (fun c24 => ?_) (fun c24 => ?_)
            · have wc24 : (0 : Int) = (0 : Int) := c_eq c24
              refine tt_bif (fun c25 => ?_) (fun c25 => ?_)
              · have wc25 : (1 : Int) = (0 : Int) := c_eq c25
                exact (dd_eq c25 (show (1 : Int) ≤ (1 : Int32).toInt ∧ (1 : Int32).toInt ≤ 1 by decide) (show (0 : Int) ≤ (0 : Int32).toInt ∧ (0 : Int32).toInt ≤ 0 by decide) (by decide)).elim
              · have wc25 : ¬ (1 : Int) = (0 : Int) := c_ne c25
                try unfold fM_refuse_26
                refine tt_bko ?_
                have k26 := ok_fp (k := 0) (v := 2) k_o0 (iv_w (a := 0) (b := 3) (by decide) (by decide) (show (2 : Int) ≤ (2 : Int32).toInt ∧ (2 : Int32).toInt ≤ 2 by decide))
                have r27 := fr_fp (k := 0) (v := 2) r_o0 rfl
                refine tt_bif (fun c28 => ?_) (fun c28 => ?_)
                · have wc28 : (2 : Int) ≤ (0 : Int) := c_le c28
                  exact (dd_le c28 (show (2 : Int) ≤ (2 : Int32).toInt ∧ (2 : Int32).toInt ≤ 2 by decide) (show (0 : Int) ≤ (0 : Int32).toInt ∧ (0 : Int32).toInt ≤ 0 by decide) (by decide)).elim
                · have wc28 : (0 : Int) < (2 : Int) := c_nle c28
                  try unfold fM_refuse_41
                  refine tt_bw (iv_b (show (1 : Int) ≤ (1 : Int32).toInt ∧ (1 : Int32).toInt ≤ 1 by decide) (by decide) (by decide)) ?_
                  refine tt_bs ?_
                  refine tt_if (fun c29 => ?_) (fun c29 => ?_)
                  · have wc29 : (1 : Int) = (0 : Int) := c_eq c29
                    exact (dd_eq c29 (show (1 : Int) ≤ (1 : Int32).toInt ∧ (1 : Int32).toInt ≤ 1 by decide) (show (0 : Int) ≤ (0 : Int32).toInt ∧ (0 : Int32).toInt ≤ 0 by decide) (by decide)).elim
                  · have wc29 : ¬ (1 : Int) = (0 : Int) := c_ne c29
                    exact tt_some ⟨(iv_w (a := 0) (b := 200) (by decide) (by decide) (show (0 : Int) ≤ (0 : Int32).toInt ∧ (0 : Int32).toInt ≤ 0 by decide)), k26, r27, x_0, x_1, x_2, x_3, x_4, x_5, trivial⟩
            · have wc24 : ¬ (0 : Int) = (0 : Int) := c_ne c24
              exact (dd_ne c24 (show (0 : Int) ≤ (0 : Int32).toInt ∧ (0 : Int32).toInt ≤ 0 by decide) (show (0 : Int) ≤ (0 : Int32).toInt ∧ (0 : Int32).toInt ≤ 0 by decide)).elim
          · have wc23 : ¬ (0 : Int) = (0 : Int) := c_ne c23
            exact (dd_ne c23 (show (0 : Int) ≤ (0 : Int32).toInt ∧ (0 : Int32).toInt ≤ 0 by decide) (show (0 : Int) ≤ (0 : Int32).toInt ∧ (0 : Int32).toInt ≤ 0 by decide)).elim
        · have wc21 : v1.toInt ≤ (5 : Int) := c_nlt c21
          have i30 : (2 : Int) ≤ v1.toInt ∧ v1.toInt ≤ 5 := nr_nltl c21 i20 (show (5 : Int) ≤ (5 : Int32).toInt ∧ (5 : Int32).toInt ≤ 5 by decide) (by decide) (by decide)
          try unfold fM_in_15
          refine tt_bw (iv_b (show (1 : Int) ≤ (1 : Int32).toInt ∧ (1 : Int32).toInt ≤ 1 by decide) (by decide) (by decide)) ?_
          refine tt_bs ?_
          refine tt_if (fun c31 => ?_) (fun c31 => ?_)
          · have wc31 : (1 : Int) = (0 : Int) := c_eq c31
            exact (dd_eq c31 (show (1 : Int) ≤ (1 : Int32).toInt ∧ (1 : Int32).toInt ≤ 1 by decide) (show (0 : Int) ≤ (0 : Int32).toInt ∧ (0 : Int32).toInt ≤ 0 by decide) (by decide)).elim
          · have wc31 : ¬ (1 : Int) = (0 : Int) := c_ne c31
            try unfold fM_cover_33
            try unfold fM_cover_34
            try unfold fM_refuse
            try unfold fM_refuse_0
            refine tt_bif (fun c32 => ?_) (fun c32 => ?_)
            · have wc32 : (0 : Int) = (0 : Int) := c_eq c32
              refine tt_bif (fun c33 => ?_) (fun c33 => ?_)
              · have wc33 : (0 : Int) = (0 : Int) := c_eq c33
                refine tt_bif (fun c34 => ?_) (fun c34 => ?_)
                · have wc34 : (0 : Int) = (0 : Int) := c_eq c34
                  try unfold fM_refuse_26
                  refine tt_bko ?_
                  have k35 := ok_fp (k := 0) (v := 0) k_o0 (iv_w (a := 0) (b := 3) (by decide) (by decide) (show (0 : Int) ≤ (0 : Int32).toInt ∧ (0 : Int32).toInt ≤ 0 by decide))
                  have r36 := fr_fp (k := 0) (v := 0) r_o0 rfl
                  refine tt_bif (fun c37 => ?_) (fun c37 => ?_)
                  · have wc37 : (0 : Int) ≤ (0 : Int) := c_le c37
                    try unfold fM_refuse_41
                    refine tt_bw (iv_b (show (0 : Int) ≤ (0 : Int32).toInt ∧ (0 : Int32).toInt ≤ 0 by decide) (by decide) (by decide)) ?_
                    refine tt_bs ?_
                    refine tt_if (fun c38 => ?_) (fun c38 => ?_)
                    · have wc38 : (0 : Int) = (0 : Int) := c_eq c38
                      refine tt_b (sM_coverBy _ _ _ k35 i30 (iv_w (a := 0) (b := 1) (by decide) (by decide) (show (0 : Int) ≤ (0 : Int32).toInt ∧ (0 : Int32).toInt ≤ 0 by decide)) (show (0 : Int) ≤ (0 : Int32).toInt ∧ (0 : Int32).toInt ≤ 0 by decide) i9 f_o0_95 x_0 x_1 x_2 x_3 x_4 x_5 (show 2 ≤ v1.toInt by omega)) (fun q39 hq39 => ?_)
                      obtain ⟨i_q39, k_q39_2, n_q39_2, zq39_0, zq39_1, zq39_2, zq39_3, zq39_4, zq39_5, -⟩ := hq39
                      have r_q39_2 := fr_tr r36 n_q39_2 rfl rfl rfl
                      have f_q39_2_38 : (1 : Int) ≤ (q39.2.1 38).toInt ∧ (q39.2.1 38).toInt ≤ 1 := by rw [n_q39_2.1 38 rfl]; exact i9
                      have f_q39_2_95 : (0 : Int) ≤ (q39.2.1 95).toInt ∧ (q39.2.1 95).toInt ≤ 0 := by rw [n_q39_2.1 95 rfl]; exact f_o0_95
                      have zq39_0 : Ch (q39.2.1 64) (q39.2.1 73) (q39.2.1 39) (q39.2.1 43) (q39.2.2.1 74) := zq39_0
                      have zq39_1 : Lmd (q39.2.1 64).toInt (q39.2.1 65).toInt := zq39_1
                      have zq39_2 : Cn (q39.2.2.1 59) (q39.2.2.1 58) := zq39_2
                      have zq39_3 : Gx ((q39.2.1 39).toInt + 1) (q39.2.1 43).toInt (q39.2.2.1 44) (q39.2.2.1 45) := zq39_3
                      have zq39_4 : No (q39.2.1 40).toInt ((q39.2.1 39).toInt + 1 + (q39.2.1 43).toInt) (q39.2.2.1 47) := zq39_4
                      have zq39_5 : Hc (q39.2.1 64).toInt ((q39.2.1 39).toInt + 1) (q39.2.1 43).toInt (q39.2.1 65).toInt (q39.2.2.1 44) (q39.2.2.1 45) := zq39_5
                      exact tt_some ⟨i_q39, k_q39_2, r_q39_2, zq39_0, zq39_1, zq39_2, zq39_3, zq39_4, zq39_5, trivial⟩
                    · have wc38 : ¬ (0 : Int) = (0 : Int) := c_ne c38
                      exact (dd_ne c38 (show (0 : Int) ≤ (0 : Int32).toInt ∧ (0 : Int32).toInt ≤ 0 by decide) (show (0 : Int) ≤ (0 : Int32).toInt ∧ (0 : Int32).toInt ≤ 0 by decide)).elim
                  · have wc37 : (0 : Int) < (0 : Int) := c_nle c37
                    exact (dd_nle c37 (show (0 : Int) ≤ (0 : Int32).toInt ∧ (0 : Int32).toInt ≤ 0 by decide) (show (0 : Int) ≤ (0 : Int32).toInt ∧ (0 : Int32).toInt ≤ 0 by decide) (by decide)).elim
                · have wc34 : ¬ (0 : Int) = (0 : Int) := c_ne c34
                  exact (dd_ne c34 (show (0 : Int) ≤ (0 : Int32).toInt ∧ (0 : Int32).toInt ≤ 0 by decide) (show (0 : Int) ≤ (0 : Int32).toInt ∧ (0 : Int32).toInt ≤ 0 by decide)).elim
              · have wc33 : ¬ (0 : Int) = (0 : Int) := c_ne c33
                exact (dd_ne c33 (show (0 : Int) ≤ (0 : Int32).toInt ∧ (0 : Int32).toInt ≤ 0 by decide) (show (0 : Int) ≤ (0 : Int32).toInt ∧ (0 : Int32).toInt ≤ 0 by decide)).elim
            · have wc32 : ¬ (0 : Int) = (0 : Int) := c_ne c32
              exact (dd_ne c32 (show (0 : Int) ≤ (0 : Int32).toInt ∧ (0 : Int32).toInt ≤ 0 by decide) (show (0 : Int) ≤ (0 : Int32).toInt ∧ (0 : Int32).toInt ≤ 0 by decide)).elim
def QM_coverFew (v1 : Int32) (o0 : cf_O) (r : (Int32 × cf_O)) : Prop := ((0 : Int) ≤ r.1.toInt ∧ r.1.toInt ≤ 200) ∧ (okO I_M r.2) ∧ (Fr (fr_M [0, 36, 64, 65, 66, 73, 76, 96] [57, 58, 59, 60, 61, 62, 63, 67, 72, 74, 75, 77, 97] []) o0 r.2) ∧ (Ch (r.2.1 64) (r.2.1 73) (r.2.1 39) (r.2.1 43) (r.2.2.1 74)) ∧ (Lmd (r.2.1 64).toInt (r.2.1 65).toInt) ∧ (Cn (r.2.2.1 59) (r.2.2.1 58)) ∧ (Gx ((r.2.1 39).toInt + 1) (r.2.1 43).toInt (r.2.2.1 44) (r.2.2.1 45)) ∧ (No (r.2.1 40).toInt ((r.2.1 39).toInt + 1 + (r.2.1 43).toInt) (r.2.2.1 47)) ∧ (Hc (r.2.1 64).toInt ((r.2.1 39).toInt + 1) (r.2.1 43).toInt (r.2.1 65).toInt (r.2.2.1 44) (r.2.2.1 45)) ∧ True
set_option maxHeartbeats 4000000 in
set_option maxRecDepth 100000 in
theorem sM_coverFew (v1 : Int32) (o0 : cf_O) (k_o0 : okO I_M o0) (f_o0_95 : (0 : Int) ≤ (o0.1 95).toInt ∧ (o0.1 95).toInt ≤ 0) (x_0 : Ch (o0.1 64) (o0.1 73) (o0.1 39) (o0.1 43) (o0.2.1 74)) (x_1 : Lmd (o0.1 64).toInt (o0.1 65).toInt) (x_2 : Cn (o0.2.1 59) (o0.2.1 58)) (x_3 : Gx ((o0.1 39).toInt + 1) (o0.1 43).toInt (o0.2.1 44) (o0.2.1 45)) (x_4 : No (o0.1 40).toInt ((o0.1 39).toInt + 1 + (o0.1 43).toInt) (o0.2.1 47)) (x_5 : Hc (o0.1 64).toInt ((o0.1 39).toInt + 1) (o0.1 43).toInt (o0.1 65).toInt (o0.2.1 44) (o0.2.1 45)) : tt (fM_coverFew v1 o0) (QM_coverFew v1 o0) := by
  have r_o0 : Fr (fr_M [0, 36, 64, 65, 66, 73, 76, 96] [57, 58, 59, 60, 61, 62, 63, 67, 72, 74, 75, 77, 97] []) o0 o0 := fr_rfl
  unfold fM_coverFew fM_coverFew_0
  have i_v1 := iv_top v1
  refine tt_if (fun c1 => ?_) (fun c1 => ?_)
  · have wc1 : (o0.1 38).toInt = (0 : Int) := c_eq c1
    have i2 : (0 : Int) ≤ (o0.1 38).toInt ∧ (o0.1 38).toInt ≤ 0 := nr_eql c1 (k_o0.1 38) (show (0 : Int) ≤ (0 : Int32).toInt ∧ (0 : Int32).toInt ≤ 0 by decide) (by decide) (by decide)
    try unfold fM_coverFew_13
    refine tt_if (fun c3 => ?_) (fun c3 => ?_)
    · have wc3 : (o0.1 38).toInt = (0 : Int) := c_eq c3
      try unfold fM_coverFew_33
      try unfold fM_coverFew_34
      try unfold fM_refuse
      try unfold fM_refuse_0
      refine tt_bif (fun c4 => ?_) (fun c4 => ?_)
      · have wc4 : (1 : Int) = (0 : Int) := c_eq c4
        exact (dd_eq c4 (show (1 : Int) ≤ (1 : Int32).toInt ∧ (1 : Int32).toInt ≤ 1 by decide) (show (0 : Int) ≤ (0 : Int32).toInt ∧ (0 : Int32).toInt ≤ 0 by decide) (by decide)).elim
      · have wc4 : ¬ (1 : Int) = (0 : Int) := c_ne c4
        try unfold fM_refuse_26
        refine tt_bko ?_
        have k5 := ok_fp (k := 0) (v := 1) k_o0 (iv_w (a := 0) (b := 3) (by decide) (by decide) (show (1 : Int) ≤ (1 : Int32).toInt ∧ (1 : Int32).toInt ≤ 1 by decide))
        have r6 := fr_fp (k := 0) (v := 1) r_o0 rfl
        refine tt_bif (fun c7 => ?_) (fun c7 => ?_)
        · have wc7 : (1 : Int) ≤ (0 : Int) := c_le c7
          exact (dd_le c7 (show (1 : Int) ≤ (1 : Int32).toInt ∧ (1 : Int32).toInt ≤ 1 by decide) (show (0 : Int) ≤ (0 : Int32).toInt ∧ (0 : Int32).toInt ≤ 0 by decide) (by decide)).elim
        · have wc7 : (0 : Int) < (1 : Int) := c_nle c7
          try unfold fM_refuse_41
          refine tt_bw (iv_b (show (1 : Int) ≤ (1 : Int32).toInt ∧ (1 : Int32).toInt ≤ 1 by decide) (by decide) (by decide)) ?_
          refine tt_bs ?_
          refine tt_if (fun c8 => ?_) (fun c8 => ?_)
          · have wc8 : (1 : Int) = (0 : Int) := c_eq c8
            exact (dd_eq c8 (show (1 : Int) ≤ (1 : Int32).toInt ∧ (1 : Int32).toInt ≤ 1 by decide) (show (0 : Int) ≤ (0 : Int32).toInt ∧ (0 : Int32).toInt ≤ 0 by decide) (by decide)).elim
          · have wc8 : ¬ (1 : Int) = (0 : Int) := c_ne c8
            exact tt_some ⟨(iv_w (a := 0) (b := 200) (by decide) (by decide) (show (0 : Int) ≤ (0 : Int32).toInt ∧ (0 : Int32).toInt ≤ 0 by decide)), k5, r6, x_0, x_1, x_2, x_3, x_4, x_5, trivial⟩
    · have wc3 : ¬ (o0.1 38).toInt = (0 : Int) := c_ne c3
      exact (dd_ne c3 i2 (show (0 : Int) ≤ (0 : Int32).toInt ∧ (0 : Int32).toInt ≤ 0 by decide)).elim
  · have wc1 : ¬ (o0.1 38).toInt = (0 : Int) := c_ne c1
    have i9 : (1 : Int) ≤ (o0.1 38).toInt ∧ (o0.1 38).toInt ≤ 1 := nr_nela c1 (k_o0.1 38) (show (0 : Int) ≤ (0 : Int32).toInt ∧ (0 : Int32).toInt ≤ 0 by decide) (by decide) (by decide)
    try unfold fM_coverFew_13
    refine tt_if (fun c10 => ?_) (fun c10 => ?_)
    · have wc10 : (o0.1 38).toInt = (0 : Int) := c_eq c10
      exact (dd_eq c10 i9 (show (0 : Int) ≤ (0 : Int32).toInt ∧ (0 : Int32).toInt ≤ 0 by decide) (by decide)).elim
    · have wc10 : ¬ (o0.1 38).toInt = (0 : Int) := c_ne c10
      try unfold fM_in
      try unfold fM_in_0
      refine tt_bif (fun c11 => ?_) (fun c11 => ?_)
      · have wc11 : v1.toInt < (2 : Int) := c_lt c11
        have i12 : ((-2147483648) : Int) ≤ v1.toInt ∧ v1.toInt ≤ 1 := nr_ltl c11 (iv_top v1) (show (2 : Int) ≤ (2 : Int32).toInt ∧ (2 : Int32).toInt ≤ 2 by decide) (by decide) (by decide)
        try unfold fM_in_14
        try unfold fM_in_15
        refine tt_bw (iv_b (show (0 : Int) ≤ (0 : Int32).toInt ∧ (0 : Int32).toInt ≤ 0 by decide) (by decide) (by decide)) ?_
        refine tt_bs ?_
        refine tt_if (fun c13 => ?_) (fun c13 => ?_)
        · have wc13 : (0 : Int) = (0 : Int) := c_eq c13
          try unfold fM_coverFew_34
          try unfold fM_refuse
          try unfold fM_refuse_0
          refine tt_bif (fun c14 => ?_) (fun c14 => ?_)
          · have wc14 : (0 : Int) = (0 : Int) := c_eq c14
            refine tt_bif (fun c15 => ?_) (fun c15 => ?_)
            · have wc15 : (1 : Int) = (0 : Int) := c_eq c15
              exact (dd_eq c15 (show (1 : Int) ≤ (1 : Int32).toInt ∧ (1 : Int32).toInt ≤ 1 by decide) (show (0 : Int) ≤ (0 : Int32).toInt ∧ (0 : Int32).toInt ≤ 0 by decide) (by decide)).elim
            · have wc15 : ¬ (1 : Int) = (0 : Int) := c_ne c15
              try unfold fM_refuse_26
              refine tt_bko ?_
              have k16 := ok_fp (k := 0) (v := 2) k_o0 (iv_w (a := 0) (b := 3) (by decide) (by decide) (show (2 : Int) ≤ (2 : Int32).toInt ∧ (2 : Int32).toInt ≤ 2 by decide))
              have r17 := fr_fp (k := 0) (v := 2) r_o0 rfl
              refine tt_bif (fun c18 => ?_) (fun c18 => ?_)
              · have wc18 : (2 : Int) ≤ (0 : Int) := c_le c18
                exact (dd_le c18 (show (2 : Int) ≤ (2 : Int32).toInt ∧ (2 : Int32).toInt ≤ 2 by decide) (show (0 : Int) ≤ (0 : Int32).toInt ∧ (0 : Int32).toInt ≤ 0 by decide) (by decide)).elim
              · have wc18 : (0 : Int) < (2 : Int) := c_nle c18
                try unfold fM_refuse_41
                refine tt_bw (iv_b (show (1 : Int) ≤ (1 : Int32).toInt ∧ (1 : Int32).toInt ≤ 1 by decide) (by decide) (by decide)) ?_
                refine tt_bs ?_
                refine tt_if (fun c19 => ?_) (fun c19 => ?_)
                · have wc19 : (1 : Int) = (0 : Int) := c_eq c19
                  exact (dd_eq c19 (show (1 : Int) ≤ (1 : Int32).toInt ∧ (1 : Int32).toInt ≤ 1 by decide) (show (0 : Int) ≤ (0 : Int32).toInt ∧ (0 : Int32).toInt ≤ 0 by decide) (by decide)).elim
                · have wc19 : ¬ (1 : Int) = (0 : Int) := c_ne c19
                  exact tt_some ⟨(iv_w (a := 0) (b := 200) (by decide) (by decide) (show (0 : Int) ≤ (0 : Int32).toInt ∧ (0 : Int32).toInt ≤ 0 by decide)), k16, r17, x_0, x_1, x_2, x_3, x_4, x_5, trivial⟩
          · have wc14 : ¬ (0 : Int) = (0 : Int) := c_ne c14
            exact (dd_ne c14 (show (0 : Int) ≤ (0 : Int32).toInt ∧ (0 : Int32).toInt ≤ 0 by decide) (show (0 : Int) ≤ (0 : Int32).toInt ∧ (0 : Int32).toInt ≤ 0 by decide)).elim
        · have wc13 : ¬ (0 : Int) = (0 : Int) := c_ne c13
          exact (dd_ne c13 (show (0 : Int) ≤ (0 : Int32).toInt ∧ (0 : Int32).toInt ≤ 0 by decide) (show (0 : Int) ≤ (0 : Int32).toInt ∧ (0 : Int32).toInt ≤ 0 by decide)).elim
      · have wc11 : (2 : Int) ≤ v1.toInt := c_nlt c11
        have i20 : (2 : Int) ≤ v1.toInt ∧ v1.toInt ≤ 2147483647 := nr_nltr c11 (show (2 : Int) ≤ (2 : Int32).toInt ∧ (2 : Int32).toInt ≤ 2 by decide) (iv_top v1) (by decide) (by decide)
        refine tt_bif (fun c21 => ?_) (fun c21 => ?_)
        · have wc21 : (5 : Int) < v1.toInt := c_lt c21
          have i22 : (6 : Int) ≤ v1.toInt ∧ v1.toInt ≤ 2147483647 := nr_ltr c21 (show (5 : Int) ≤ (5 : Int32).toInt ∧ (5 : Int32).toInt ≤ 5 by decide) i20 (by decide) (by decide)
          try unfold fM_in_14
          try unfold fM_in_15
          refine tt_bw (iv_b (show (0 : Int) ≤ (0 : Int32).toInt ∧ (0 : Int32).toInt ≤ 0 by decide) (by decide) (by decide)) ?_
          refine tt_bs ?_
          refine tt_if (fun c23 => ?_) (fun c23 => ?_)
          · have wc23 : (0 : Int) = (0 : Int) := c_eq c23
            try unfold fM_coverFew_34
            try unfold fM_refuse
            try unfold fM_refuse_0
            refine tt_bif (fun c24 => ?_) (fun c24 => ?_)
            · have wc24 : (0 : Int) = (0 : Int) := c_eq c24
              refine tt_bif (fun c25 => ?_) (fun c25 => ?_)
              · have wc25 : (1 : Int) = (0 : Int) := c_eq c25
                exact (dd_eq c25 (show (1 : Int) ≤ (1 : Int32).toInt ∧ (1 : Int32).toInt ≤ 1 by decide) (show (0 : Int) ≤ (0 : Int32).toInt ∧ (0 : Int32).toInt ≤ 0 by decide) (by decide)).elim
              · have wc25 : ¬ (1 : Int) = (0 : Int) := c_ne c25
                try unfold fM_refuse_26
                refine tt_bko ?_
                have k26 := ok_fp (k := 0) (v := 2) k_o0 (iv_w (a := 0) (b := 3) (by decide) (by decide) (show (2 : Int) ≤ (2 : Int32).toInt ∧ (2 : Int32).toInt ≤ 2 by decide))
                have r27 := fr_fp (k := 0) (v := 2) r_o0 rfl
                refine tt_bif (fun c28 => ?_) (fun c28 => ?_)
                · have wc28 : (2 : Int) ≤ (0 : Int) := c_le c28
                  exact (dd_le c28 (show (2 : Int) ≤ (2 : Int32).toInt ∧ (2 : Int32).toInt ≤ 2 by decide) (show (0 : Int) ≤ (0 : Int32).toInt ∧ (0 : Int32).toInt ≤ 0 by decide) (by decide)).elim
                · have wc28 : (0 : Int) < (2 : Int) := c_nle c28
                  try unfold fM_refuse_41
                  refine tt_bw (iv_b (show (1 : Int) ≤ (1 : Int32).toInt ∧ (1 : Int32).toInt ≤ 1 by decide) (by decide) (by decide)) ?_
                  refine tt_bs ?_
                  refine tt_if (fun c29 => ?_) (fun c29 => ?_)
                  · have wc29 : (1 : Int) = (0 : Int) := c_eq c29
                    exact (dd_eq c29 (show (1 : Int) ≤ (1 : Int32).toInt ∧ (1 : Int32).toInt ≤ 1 by decide) (show (0 : Int) ≤ (0 : Int32).toInt ∧ (0 : Int32).toInt ≤ 0 by decide) (by decide)).elim
                  · have wc29 : ¬ (1 : Int) = (0 : Int) := c_ne c29
                    exact tt_some ⟨(iv_w (a := 0) (b := 200) (by decide) (by decide) (show (0 : Int) ≤ (0 : Int32).toInt ∧ (0 : Int32).toInt ≤ 0 by decide)), k26, r27, x_0, x_1, x_2, x_3, x_4, x_5, trivial⟩
            · have wc24 : ¬ (0 : Int) = (0 : Int) := c_ne c24
              exact (dd_ne c24 (show (0 : Int) ≤ (0 : Int32).toInt ∧ (0 : Int32).toInt ≤ 0 by decide) (show (0 : Int) ≤ (0 : Int32).toInt ∧ (0 : Int32).toInt ≤ 0 by decide)).elim
          · have wc23 : ¬ (0 : Int) = (0 : Int) := c_ne c23
            exact (dd_ne c23 (show (0 : Int) ≤ (0 : Int32).toInt ∧ (0 : Int32).toInt ≤ 0 by decide) (show (0 : Int) ≤ (0 : Int32).toInt ∧ (0 : Int32).toInt ≤ 0 by decide)).elim
        · have wc21 : v1.toInt ≤ (5 : Int) := c_nlt c21
          have i30 : (2 : Int) ≤ v1.toInt ∧ v1.toInt ≤ 5 := nr_nltl c21 i20 (show (5 : Int) ≤ (5 : Int32).toInt ∧ (5 : Int32).toInt ≤ 5 by decide) (by decide) (by decide)
          try unfold fM_in_15
          refine tt_bw (iv_b (show (1 : Int) ≤ (1 : Int32).toInt ∧ (1 : Int32).toInt ≤ 1 by decide) (by decide) (by decide)) ?_
          refine tt_bs ?_
          refine tt_if (fun c31 => ?_) (fun c31 => ?_)
          · have wc31 : (1 : Int) = (0 : Int) := c_eq c31
            exact (dd_eq c31 (show (1 : Int) ≤ (1 : Int32).toInt ∧ (1 : Int32).toInt ≤ 1 by decide) (show (0 : Int) ≤ (0 : Int32).toInt ∧ (0 : Int32).toInt ≤ 0 by decide) (by decide)).elim
          · have wc31 : ¬ (1 : Int) = (0 : Int) := c_ne c31
            try unfold fM_coverFew_33
            try unfold fM_coverFew_34
            try unfold fM_refuse
            try unfold fM_refuse_0
            refine tt_bif (fun c32 => ?_) (fun c32 => ?_)
            · have wc32 : (0 : Int) = (0 : Int) := c_eq c32
              refine tt_bif (fun c33 => ?_) (fun c33 => ?_)
              · have wc33 : (0 : Int) = (0 : Int) := c_eq c33
                refine tt_bif (fun c34 => ?_) (fun c34 => ?_)
                · have wc34 : (0 : Int) = (0 : Int) := c_eq c34
                  try unfold fM_refuse_26
                  refine tt_bko ?_
                  have k35 := ok_fp (k := 0) (v := 0) k_o0 (iv_w (a := 0) (b := 3) (by decide) (by decide) (show (0 : Int) ≤ (0 : Int32).toInt ∧ (0 : Int32).toInt ≤ 0 by decide))
                  have r36 := fr_fp (k := 0) (v := 0) r_o0 rfl
                  refine tt_bif (fun c37 => ?_) (fun c37 => ?_)
                  · have wc37 : (0 : Int) ≤ (0 : Int) := c_le c37
                    try unfold fM_refuse_41
                    refine tt_bw (iv_b (show (0 : Int) ≤ (0 : Int32).toInt ∧ (0 : Int32).toInt ≤ 0 by decide) (by decide) (by decide)) ?_
                    refine tt_bs ?_
                    refine tt_if (fun c38 => ?_) (fun c38 => ?_)
                    · have wc38 : (0 : Int) = (0 : Int) := c_eq c38
                      refine tt_b (sM_coverBy _ _ _ k35 i30 (iv_w (a := 0) (b := 1) (by decide) (by decide) (show (1 : Int) ≤ (1 : Int32).toInt ∧ (1 : Int32).toInt ≤ 1 by decide)) (show (0 : Int) ≤ (0 : Int32).toInt ∧ (0 : Int32).toInt ≤ 0 by decide) i9 f_o0_95 x_0 x_1 x_2 x_3 x_4 x_5 (show 2 ≤ v1.toInt by omega)) (fun q39 hq39 => ?_)
                      obtain ⟨i_q39, k_q39_2, n_q39_2, zq39_0, zq39_1, zq39_2, zq39_3, zq39_4, zq39_5, -⟩ := hq39
                      have r_q39_2 := fr_tr r36 n_q39_2 rfl rfl rfl
                      have f_q39_2_38 : (1 : Int) ≤ (q39.2.1 38).toInt ∧ (q39.2.1 38).toInt ≤ 1 := by rw [n_q39_2.1 38 rfl]; exact i9
                      have f_q39_2_95 : (0 : Int) ≤ (q39.2.1 95).toInt ∧ (q39.2.1 95).toInt ≤ 0 := by rw [n_q39_2.1 95 rfl]; exact f_o0_95
                      have zq39_0 : Ch (q39.2.1 64) (q39.2.1 73) (q39.2.1 39) (q39.2.1 43) (q39.2.2.1 74) := zq39_0
                      have zq39_1 : Lmd (q39.2.1 64).toInt (q39.2.1 65).toInt := zq39_1
                      have zq39_2 : Cn (q39.2.2.1 59) (q39.2.2.1 58) := zq39_2
                      have zq39_3 : Gx ((q39.2.1 39).toInt + 1) (q39.2.1 43).toInt (q39.2.2.1 44) (q39.2.2.1 45) := zq39_3
                      have zq39_4 : No (q39.2.1 40).toInt ((q39.2.1 39).toInt + 1 + (q39.2.1 43).toInt) (q39.2.2.1 47) := zq39_4
                      have zq39_5 : Hc (q39.2.1 64).toInt ((q39.2.1 39).toInt + 1) (q39.2.1 43).toInt (q39.2.1 65).toInt (q39.2.2.1 44) (q39.2.2.1 45) := zq39_5
                      exact tt_some ⟨i_q39, k_q39_2, r_q39_2, zq39_0, zq39_1, zq39_2, zq39_3, zq39_4, zq39_5, trivial⟩
                    · have wc38 : ¬ (0 : Int) = (0 : Int) := c_ne c38
                      exact (dd_ne c38 (show (0 : Int) ≤ (0 : Int32).toInt ∧ (0 : Int32).toInt ≤ 0 by decide) (show (0 : Int) ≤ (0 : Int32).toInt ∧ (0 : Int32).toInt ≤ 0 by decide)).elim
                  · have wc37 : (0 : Int) < (0 : Int) := c_nle c37
                    exact (dd_nle c37 (show (0 : Int) ≤ (0 : Int32).toInt ∧ (0 : Int32).toInt ≤ 0 by decide) (show (0 : Int) ≤ (0 : Int32).toInt ∧ (0 : Int32).toInt ≤ 0 by decide) (by decide)).elim
                · have wc34 : ¬ (0 : Int) = (0 : Int) := c_ne c34
                  exact (dd_ne c34 (show (0 : Int) ≤ (0 : Int32).toInt ∧ (0 : Int32).toInt ≤ 0 by decide) (show (0 : Int) ≤ (0 : Int32).toInt ∧ (0 : Int32).toInt ≤ 0 by decide)).elim
              · have wc33 : ¬ (0 : Int) = (0 : Int) := c_ne c33
                exact (dd_ne c33 (show (0 : Int) ≤ (0 : Int32).toInt ∧ (0 : Int32).toInt ≤ 0 by decide) (show (0 : Int) ≤ (0 : Int32).toInt ∧ (0 : Int32).toInt ≤ 0 by decide)).elim
            · have wc32 : ¬ (0 : Int) = (0 : Int) := c_ne c32
              exact (dd_ne c32 (show (0 : Int) ≤ (0 : Int32).toInt ∧ (0 : Int32).toInt ≤ 0 by decide) (show (0 : Int) ≤ (0 : Int32).toInt ∧ (0 : Int32).toInt ≤ 0 by decide)).elim
def QM_inCut (v1 : Int32) (v2 : Int32) (o0 : cf_O) (r : (Int32)) : Prop := ((0 : Int) ≤ r.toInt ∧ r.toInt ≤ 1) ∧ True
def HM_inCut (yv1 : Int32) (yv2 : Int32) (yo0 : cf_O) (n : Nat) : Prop := (∀ (v1 : Int32) (v2 : Int32) (v3 : Int32) (v4 : Int32) (o0 : cf_O), (okO I_M o0) → (Fr (fr_M [] [] []) yo0 o0) → ((0 : Int) ≤ v1.toInt ∧ v1.toInt ≤ 63209) → ((1 : Int) ≤ v2.toInt ∧ v2.toInt ≤ 208) → ((0 : Int) ≤ v3.toInt ∧ v3.toInt ≤ 1) → ((0 : Int) ≤ v4.toInt ∧ v4.toInt ≤ 5) → ((0 : Int) ≤ (o0.1 0).toInt ∧ (o0.1 0).toInt ≤ 0) → ((1 : Int) ≤ (o0.1 37).toInt ∧ (o0.1 37).toInt ≤ 9) → ((1 : Int) ≤ (o0.1 38).toInt ∧ (o0.1 38).toInt ≤ 1) → ((1 : Int) ≤ (o0.1 43).toInt ∧ (o0.1 43).toInt ≤ 200) → ((0 : Int) ≤ (o0.1 95).toInt ∧ (o0.1 95).toInt ≤ 0) → 0 + (5 - v4.toInt) * 2 < (n : Int) → tt (gM_inCut n 0 v1 v2 v3 v4 o0) (QM_inCut yv1 yv2 yo0))
set_option maxHeartbeats 4000000 in
set_option maxRecDepth 100000 in
theorem tM_inCut_5 {yv1 : Int32} {yv2 : Int32} {yo0 : cf_O} {n : Nat} (H : HM_inCut yv1 yv2 yo0 n) (v1 : Int32) (v2 : Int32) (v3 : Int32) (v4 : Int32) (o0 : cf_O) (k_o0 : okO I_M o0) (r_o0 : Fr (fr_M [] [] []) yo0 o0) (i_v1 : (0 : Int) ≤ v1.toInt ∧ v1.toInt ≤ 63209) (i_v2 : (1 : Int) ≤ v2.toInt ∧ v2.toInt ≤ 208) (i_v3 : (0 : Int) ≤ v3.toInt ∧ v3.toInt ≤ 1) (i_v4 : (0 : Int) ≤ v4.toInt ∧ v4.toInt ≤ 5) (f_o0_0 : (0 : Int) ≤ (o0.1 0).toInt ∧ (o0.1 0).toInt ≤ 0) (f_o0_37 : (1 : Int) ≤ (o0.1 37).toInt ∧ (o0.1 37).toInt ≤ 9) (f_o0_38 : (1 : Int) ≤ (o0.1 38).toInt ∧ (o0.1 38).toInt ≤ 1) (f_o0_43 : (1 : Int) ≤ (o0.1 43).toInt ∧ (o0.1 43).toInt ≤ 200) (f_o0_95 : (0 : Int) ≤ (o0.1 95).toInt ∧ (o0.1 95).toInt ≤ 0) (hm : 0 + (5 - v4.toInt) * 2 ≤ (n : Int)) : tt (fM_inCut_5 (gM_inCut n) v1 v2 v3 v4 o0) (QM_inCut yv1 yv2 yo0) := by
  unfold fM_inCut_5
  refine tt_n (ix_ok i_v1 (by decide) (by decide)) ?_
  refine tt_kv (P := fun z => (0 : Int) ≤ z.toInt ∧ z.toInt ≤ 5) (k_o0.2 59 _) (fun x1 i2 => ?_)
  refine tt_if (fun c3 => ?_) (fun c3 => ?_)
  · refine tt_w (iv_b i_v3 (by decide) (by decide)) ?_
    exact tt_some ⟨i_v3, trivial⟩
  · have i4 : (0 : Int) ≤ v4.toInt ∧ v4.toInt ≤ 4 := nr_nlel c3 i_v4 i2 (by decide) (by decide)
    have i5 : (1 : Int) ≤ x1.toInt ∧ x1.toInt ≤ 5 := nr_nler c3 i_v4 i2 (by decide) (by decide)
    refine tt_if (fun c6 => ?_) (fun c6 => ?_)
    · have i7 : (0 : Int) ≤ v3.toInt ∧ v3.toInt ≤ 0 := nr_eql c6 i_v3 (show (0 : Int) ≤ (0 : Int32).toInt ∧ (0 : Int32).toInt ≤ 0 by decide) (by decide) (by decide)
      refine tt_kv (P := fun z => (0 : Int) ≤ z.toInt ∧ z.toInt ≤ 316045) (iv_mul (show (5 : Int) ≤ (5 : Int32).toInt ∧ (5 : Int32).toInt ≤ 5 by decide) i_v1 (by decide) (by decide) (by decide) (by decide) (by decide)) (fun x8 i9 => ?_)
      refine tt_kv (P := fun z => (0 : Int) ≤ z.toInt ∧ z.toInt ≤ 316049) (iv_add i9 i4 (by decide) (by decide) (by decide) (by decide)) (fun x10 i11 => ?_)
      refine tt_n (ix_ok i11 (by decide) (by decide)) ?_
      refine tt_kv (P := fun z => (0 : Int) ≤ z.toInt ∧ z.toInt ≤ 208) (k_o0.2 58 _) (fun x12 i13 => ?_)
      refine tt_if (fun c14 => ?_) (fun c14 => ?_)
      · have i15 : (1 : Int) ≤ x12.toInt ∧ x12.toInt ≤ 208 := nr_eql c14 i13 i_v2 (by decide) (by decide)
        try unfold fM_inCut_35
        try unfold fM_inCut_40
        refine tt_kv (P := fun z => ((1 : Int) ≤ z.toInt ∧ z.toInt ≤ 5) ∧ z.toInt = v4.toInt + 1) ⟨iv_add i4 (show (1 : Int) ≤ (1 : Int32).toInt ∧ (1 : Int32).toInt ≤ 1 by decide) (by decide) (by decide) (by decide) (by decide), iq_add i4 (show (1 : Int) ≤ (1 : Int32).toInt ∧ (1 : Int32).toInt ≤ 1 by decide) (by decide) (by decide)⟩ (fun x16 qi17 => ?_)
        obtain ⟨i17, ei17⟩ := qi17
        exact H _ _ _ _ _ k_o0 r_o0 i_v1 i_v2 (iv_w (a := 0) (b := 1) (by decide) (by decide) (show (1 : Int) ≤ (1 : Int32).toInt ∧ (1 : Int32).toInt ≤ 1 by decide)) (iv_w (a := 0) (b := 5) (by decide) (by decide) i17) f_o0_0 f_o0_37 f_o0_38 f_o0_43 f_o0_95 (show 0 + (5 - x16.toInt) * 2 < (n : Int) by omega)
      · try unfold fM_inCut_40
        refine tt_kv (P := fun z => ((1 : Int) ≤ z.toInt ∧ z.toInt ≤ 5) ∧ z.toInt = v4.toInt + 1) ⟨iv_add i4 (show (1 : Int) ≤ (1 : Int32).toInt ∧ (1 : Int32).toInt ≤ 1 by decide) (by decide) (by decide) (by decide) (by decide), iq_add i4 (show (1 : Int) ≤ (1 : Int32).toInt ∧ (1 : Int32).toInt ≤ 1 by decide) (by decide) (by decide)⟩ (fun x18 qi19 => ?_)
        obtain ⟨i19, ei19⟩ := qi19
        exact H _ _ _ _ _ k_o0 r_o0 i_v1 i_v2 (iv_w (a := 0) (b := 1) (by decide) (by decide) (show (0 : Int) ≤ (0 : Int32).toInt ∧ (0 : Int32).toInt ≤ 0 by decide)) (iv_w (a := 0) (b := 5) (by decide) (by decide) i19) f_o0_0 f_o0_37 f_o0_38 f_o0_43 f_o0_95 (show 0 + (5 - x18.toInt) * 2 < (n : Int) by omega)
    · have i20 : (1 : Int) ≤ v3.toInt ∧ v3.toInt ≤ 1 := nr_nela c6 i_v3 (show (0 : Int) ≤ (0 : Int32).toInt ∧ (0 : Int32).toInt ≤ 0 by decide) (by decide) (by decide)
      try unfold fM_inCut_35
      try unfold fM_inCut_40
      refine tt_kv (P := fun z => ((1 : Int) ≤ z.toInt ∧ z.toInt ≤ 5) ∧ z.toInt = v4.toInt + 1) ⟨iv_add i4 (show (1 : Int) ≤ (1 : Int32).toInt ∧ (1 : Int32).toInt ≤ 1 by decide) (by decide) (by decide) (by decide) (by decide), iq_add i4 (show (1 : Int) ≤ (1 : Int32).toInt ∧ (1 : Int32).toInt ≤ 1 by decide) (by decide) (by decide)⟩ (fun x21 qi22 => ?_)
      obtain ⟨i22, ei22⟩ := qi22
      exact H _ _ _ _ _ k_o0 r_o0 i_v1 i_v2 (iv_w (a := 0) (b := 1) (by decide) (by decide) (show (1 : Int) ≤ (1 : Int32).toInt ∧ (1 : Int32).toInt ≤ 1 by decide)) (iv_w (a := 0) (b := 5) (by decide) (by decide) i22) f_o0_0 f_o0_37 f_o0_38 f_o0_43 f_o0_95 (show 0 + (5 - x21.toInt) * 2 < (n : Int) by omega)
set_option maxHeartbeats 4000000 in
set_option maxRecDepth 100000 in
theorem hM_inCut (yv1 : Int32) (yv2 : Int32) (yo0 : cf_O) : ∀ n, HM_inCut yv1 yv2 yo0 n := by
  intro n
  induction n with
  | zero => exact (fun v1 v2 v3 v4 o0 k_o0 r_o0 i_v1 i_v2 i_v3 i_v4 f_o0_0 f_o0_37 f_o0_38 f_o0_43 f_o0_95 hm => by exact absurd (show 0 + (5 - v4.toInt) * 2 < (0 : Int) from hm) (by omega))
  | succ n ih => exact (fun v1 v2 v3 v4 o0 k_o0 r_o0 i_v1 i_v2 i_v3 i_v4 f_o0_0 f_o0_37 f_o0_38 f_o0_43 f_o0_95 hm => tM_inCut_5 ih v1 v2 v3 v4 o0 k_o0 r_o0 i_v1 i_v2 i_v3 i_v4 f_o0_0 f_o0_37 f_o0_38 f_o0_43 f_o0_95 (by omega))
set_option maxHeartbeats 4000000 in
set_option maxRecDepth 100000 in
theorem sM_inCut (v1 : Int32) (v2 : Int32) (o0 : cf_O) (k_o0 : okO I_M o0) (i_v1 : (0 : Int) ≤ v1.toInt ∧ v1.toInt ≤ 63209) (i_v2 : (1 : Int) ≤ v2.toInt ∧ v2.toInt ≤ 208) (f_o0_0 : (0 : Int) ≤ (o0.1 0).toInt ∧ (o0.1 0).toInt ≤ 0) (f_o0_37 : (1 : Int) ≤ (o0.1 37).toInt ∧ (o0.1 37).toInt ≤ 9) (f_o0_38 : (1 : Int) ≤ (o0.1 38).toInt ∧ (o0.1 38).toInt ≤ 1) (f_o0_43 : (1 : Int) ≤ (o0.1 43).toInt ∧ (o0.1 43).toInt ≤ 200) (f_o0_95 : (0 : Int) ≤ (o0.1 95).toInt ∧ (o0.1 95).toInt ≤ 0) : tt (fM_inCut v1 v2 o0) (QM_inCut v1 v2 o0) := by
  have H := hM_inCut v1 v2 o0 cfFU
  have hm : (13 : Int) ≤ (cfFU : Nat) := by decide
  have r_o0 : Fr (fr_M [] [] []) o0 o0 := fr_rfl
  unfold fM_inCut fM_inCut_0
  exact H _ _ _ _ _ k_o0 r_o0 i_v1 i_v2 (iv_w (a := 0) (b := 1) (by decide) (by decide) (show (0 : Int) ≤ (0 : Int32).toInt ∧ (0 : Int32).toInt ≤ 0 by decide)) (iv_w (a := 0) (b := 5) (by decide) (by decide) (show (0 : Int) ≤ (0 : Int32).toInt ∧ (0 : Int32).toInt ≤ 0 by decide)) f_o0_0 f_o0_37 f_o0_38 f_o0_43 f_o0_95 (show 0 + (5 - 0) * 2 < ((cfFU : Nat) : Int) by omega)
def QM_freed (v1 : Int32) (o0 : cf_O) (r : (Int32 × cf_O)) : Prop := (okO I_M r.2) ∧ (Fr (fr_M [] [68] []) o0 r.2) ∧ True
def HM_freed (yv1 : Int32) (yo0 : cf_O) (n : Nat) : Prop := (∀ (v1 : Int32) (v2 : Int32) (v3 : Int32) (o0 : cf_O), (okO I_M o0) → (Fr (fr_M [] [68] []) yo0 o0) → ((1 : Int) ≤ v1.toInt ∧ v1.toInt ≤ 208) → ((0 : Int) ≤ v2.toInt ∧ v2.toInt ≤ 63209) → ((0 : Int) ≤ v3.toInt ∧ v3.toInt ≤ 210) → ((0 : Int) ≤ (o0.1 0).toInt ∧ (o0.1 0).toInt ≤ 0) → ((1 : Int) ≤ (o0.1 37).toInt ∧ (o0.1 37).toInt ≤ 9) → ((1 : Int) ≤ (o0.1 38).toInt ∧ (o0.1 38).toInt ≤ 1) → ((1 : Int) ≤ (o0.1 43).toInt ∧ (o0.1 43).toInt ≤ 200) → ((0 : Int) ≤ (o0.1 95).toInt ∧ (o0.1 95).toInt ≤ 0) → (v1.toInt ≤ (o0.1 39).toInt + (o0.1 43).toInt) → 84452 + (210 - v3.toInt) * 2 < (n : Int) → tt (gM_freed n 0 v1 v2 v3 0 0 0 o0) (QM_freed yv1 yo0)) ∧ (∀ (v1 : Int32) (v2 : Int32) (v3 : Int32) (o0 : cf_O), (okO I_M o0) → (Fr (fr_M [] [68] []) yo0 o0) → ((1 : Int) ≤ v1.toInt ∧ v1.toInt ≤ 208) → ((0 : Int) ≤ v2.toInt ∧ v2.toInt ≤ 63209) → ((0 : Int) ≤ v3.toInt ∧ v3.toInt ≤ 208) → ((0 : Int) ≤ (o0.1 0).toInt ∧ (o0.1 0).toInt ≤ 0) → ((1 : Int) ≤ (o0.1 37).toInt ∧ (o0.1 37).toInt ≤ 9) → ((1 : Int) ≤ (o0.1 38).toInt ∧ (o0.1 38).toInt ≤ 1) → ((1 : Int) ≤ (o0.1 43).toInt ∧ (o0.1 43).toInt ≤ 200) → ((0 : Int) ≤ (o0.1 95).toInt ∧ (o0.1 95).toInt ≤ 0) → (v1.toInt ≤ (o0.1 39).toInt + (o0.1 43).toInt) → (v3.toInt ≤ v1.toInt) → 84034 + (v3.toInt - 0) * 2 < (n : Int) → tt (gM_freed n 1 v1 v2 v3 0 0 0 o0) (QM_freed yv1 yo0)) ∧ (∀ (v1 : Int32) (v3 : Int32) (v4 : Int32) (o0 : cf_O), (okO I_M o0) → (Fr (fr_M [] [68] []) yo0 o0) → ((1 : Int) ≤ v1.toInt ∧ v1.toInt ≤ 208) → ((1 : Int) ≤ v4.toInt ∧ v4.toInt ≤ 209) → ((0 : Int) ≤ (o0.1 0).toInt ∧ (o0.1 0).toInt ≤ 0) → ((1 : Int) ≤ (o0.1 37).toInt ∧ (o0.1 37).toInt ≤ 9) → ((1 : Int) ≤ (o0.1 38).toInt ∧ (o0.1 38).toInt ≤ 1) → ((1 : Int) ≤ (o0.1 43).toInt ∧ (o0.1 43).toInt ≤ 200) → ((0 : Int) ≤ (o0.1 95).toInt ∧ (o0.1 95).toInt ≤ 0) → 0 + (209 - v4.toInt) * 404 < (n : Int) → tt (gM_freed n 2 v1 0 v3 v4 0 0 o0) (QM_freed yv1 yo0)) ∧ (∀ (v1 : Int32) (v3 : Int32) (v4 : Int32) (v5 : Int32) (v6 : Int32) (o0 : cf_O), (okO I_M o0) → (Fr (fr_M [] [68] []) yo0 o0) → ((2 : Int) ≤ v1.toInt ∧ v1.toInt ≤ 208) → ((1 : Int) ≤ v4.toInt ∧ v4.toInt ≤ 208) → ((0 : Int) ≤ v6.toInt ∧ v6.toInt ≤ 200) → ((0 : Int) ≤ (o0.1 0).toInt ∧ (o0.1 0).toInt ≤ 0) → ((1 : Int) ≤ (o0.1 37).toInt ∧ (o0.1 37).toInt ≤ 9) → ((1 : Int) ≤ (o0.1 38).toInt ∧ (o0.1 38).toInt ≤ 1) → ((1 : Int) ≤ (o0.1 43).toInt ∧ (o0.1 43).toInt ≤ 200) → ((0 : Int) ≤ (o0.1 95).toInt ∧ (o0.1 95).toInt ≤ 0) → 0 + (209 - v4.toInt - 1) * 404 + 1 + (200 - v6.toInt) * 2 < (n : Int) → tt (gM_freed n 3 v1 0 v3 v4 v5 v6 o0) (QM_freed yv1 yo0))
set_option maxHeartbeats 4000000 in
set_option maxRecDepth 100000 in
theorem tM_freed_204 {yv1 : Int32} {yo0 : cf_O} {n : Nat} (H : HM_freed yv1 yo0 n) (v1 : Int32) (v3 : Int32) (v4 : Int32) (v5 : Int32) (v6 : Int32) (o0 : cf_O) (k_o0 : okO I_M o0) (r_o0 : Fr (fr_M [] [68] []) yo0 o0) (i_v1 : (2 : Int) ≤ v1.toInt ∧ v1.toInt ≤ 208) (i_v4 : (1 : Int) ≤ v4.toInt ∧ v4.toInt ≤ 208) (i_v6 : (0 : Int) ≤ v6.toInt ∧ v6.toInt ≤ 200) (f_o0_0 : (0 : Int) ≤ (o0.1 0).toInt ∧ (o0.1 0).toInt ≤ 0) (f_o0_37 : (1 : Int) ≤ (o0.1 37).toInt ∧ (o0.1 37).toInt ≤ 9) (f_o0_38 : (1 : Int) ≤ (o0.1 38).toInt ∧ (o0.1 38).toInt ≤ 1) (f_o0_43 : (1 : Int) ≤ (o0.1 43).toInt ∧ (o0.1 43).toInt ≤ 200) (f_o0_95 : (0 : Int) ≤ (o0.1 95).toInt ∧ (o0.1 95).toInt ≤ 0) (hm : 0 + (209 - v4.toInt - 1) * 404 + 1 + (200 - v6.toInt) * 2 ≤ (n : Int)) : tt (fM_freed_204 (gM_freed n) v1 v3 v4 v5 v6 o0) (QM_freed yv1 yo0) := by
  unfold fM_freed_204
  have i_v3 := iv_top v3
  have i_v5 := iv_top v5
  have g_o0_39 : (0 : Int) ≤ (o0.1 39).toInt ∧ (o0.1 39).toInt ≤ 8 := k_o0.1 39
  have ey_o0_39 : (o0.1 39).toInt = (yo0.1 39).toInt := congrArg Int32.toInt (r_o0.1 39 rfl)
  have ey_o0_43 : (o0.1 43).toInt = (yo0.1 43).toInt := congrArg Int32.toInt (r_o0.1 43 rfl)
  refine tt_if (fun c1 => ?_) (fun c1 => ?_)
  · have wc1 : (o0.1 43).toInt ≤ v6.toInt := c_le c1
    have i2 : (1 : Int) ≤ v6.toInt ∧ v6.toInt ≤ 200 := nr_ler c1 f_o0_43 i_v6 (by decide) (by decide)
    refine tt_n (ix_ok i_v4 (by decide) (by decide)) ?_
    refine tt_kv (P := fun z => ((0 : Int) ≤ z.toInt ∧ z.toInt ≤ 1) ∧ z.toInt = (o0.2.1 68 v4.toNatClampNeg).toInt) ⟨(k_o0.2 68 _), rfl⟩ (fun x3 qi4 => ?_)
    obtain ⟨i4, ei4⟩ := qi4
    refine tt_if (fun c5 => ?_) (fun c5 => ?_)
    · have wc5 : x3.toInt = (0 : Int) := c_eq c5
      have i6 : (0 : Int) ≤ x3.toInt ∧ x3.toInt ≤ 0 := nr_eql c5 i4 (show (0 : Int) ≤ (0 : Int32).toInt ∧ (0 : Int32).toInt ≤ 0 by decide) (by decide) (by decide)
      try unfold fM_freed_327
      try unfold fM_freed_328
      refine tt_kv (P := fun z => ((2 : Int) ≤ z.toInt ∧ z.toInt ≤ 209) ∧ z.toInt = v4.toInt + 1) ⟨iv_add i_v4 (show (1 : Int) ≤ (1 : Int32).toInt ∧ (1 : Int32).toInt ≤ 1 by decide) (by decide) (by decide) (by decide) (by decide), iq_add i_v4 (show (1 : Int) ≤ (1 : Int32).toInt ∧ (1 : Int32).toInt ≤ 1 by decide) (by decide) (by decide)⟩ (fun x7 qi8 => ?_)
      obtain ⟨i8, ei8⟩ := qi8
      exact H.2.2.1 _ _ _ _ k_o0 r_o0 (iv_w (a := 1) (b := 208) (by decide) (by decide) i_v1) (iv_w (a := 1) (b := 209) (by decide) (by decide) i8) f_o0_0 f_o0_37 f_o0_38 f_o0_43 f_o0_95 (show 0 + (209 - x7.toInt) * 404 < (n : Int) by omega)
    · have wc5 : ¬ x3.toInt = (0 : Int) := c_ne c5
      have i9 : (1 : Int) ≤ x3.toInt ∧ x3.toInt ≤ 1 := nr_nela c5 i4 (show (0 : Int) ≤ (0 : Int32).toInt ∧ (0 : Int32).toInt ≤ 0 by decide) (by decide) (by decide)
      refine tt_n (ix_ok i_v4 (by decide) (by decide)) ?_
      refine tt_kv (P := fun z => ((0 : Int) ≤ z.toInt ∧ z.toInt ≤ 406) ∧ z.toInt = (o0.2.1 48 v4.toNatClampNeg).toInt) ⟨(k_o0.2 48 _), rfl⟩ (fun x10 qi11 => ?_)
      obtain ⟨i11, ei11⟩ := qi11
      refine tt_if (fun c12 => ?_) (fun c12 => ?_)
      · have wc12 : v5.toInt = x10.toInt := c_eq c12
        have i13 : (0 : Int) ≤ v5.toInt ∧ v5.toInt ≤ 406 := nr_eql c12 (iv_top v5) i11 (by decide) (by decide)
        refine tt_kv (P := fun z => ((-2147483648) : Int) ≤ z.toInt ∧ z.toInt ≤ 2147483647) (iv_top _) (fun x14 i15 => ?_)
        try unfold fM_freed_328
        refine tt_kv (P := fun z => ((2 : Int) ≤ z.toInt ∧ z.toInt ≤ 209) ∧ z.toInt = v4.toInt + 1) ⟨iv_add i_v4 (show (1 : Int) ≤ (1 : Int32).toInt ∧ (1 : Int32).toInt ≤ 1 by decide) (by decide) (by decide) (by decide) (by decide), iq_add i_v4 (show (1 : Int) ≤ (1 : Int32).toInt ∧ (1 : Int32).toInt ≤ 1 by decide) (by decide) (by decide)⟩ (fun x16 qi17 => ?_)
        obtain ⟨i17, ei17⟩ := qi17
        exact H.2.2.1 _ _ _ _ k_o0 r_o0 (iv_w (a := 1) (b := 208) (by decide) (by decide) i_v1) (iv_w (a := 1) (b := 209) (by decide) (by decide) i17) f_o0_0 f_o0_37 f_o0_38 f_o0_43 f_o0_95 (show 0 + (209 - x16.toInt) * 404 < (n : Int) by omega)
      · have wc12 : ¬ v5.toInt = x10.toInt := c_ne c12
        try unfold fM_freed_327
        try unfold fM_freed_328
        refine tt_kv (P := fun z => ((2 : Int) ≤ z.toInt ∧ z.toInt ≤ 209) ∧ z.toInt = v4.toInt + 1) ⟨iv_add i_v4 (show (1 : Int) ≤ (1 : Int32).toInt ∧ (1 : Int32).toInt ≤ 1 by decide) (by decide) (by decide) (by decide) (by decide), iq_add i_v4 (show (1 : Int) ≤ (1 : Int32).toInt ∧ (1 : Int32).toInt ≤ 1 by decide) (by decide) (by decide)⟩ (fun x18 qi19 => ?_)
        obtain ⟨i19, ei19⟩ := qi19
        exact H.2.2.1 _ _ _ _ k_o0 r_o0 (iv_w (a := 1) (b := 208) (by decide) (by decide) i_v1) (iv_w (a := 1) (b := 209) (by decide) (by decide) i19) f_o0_0 f_o0_37 f_o0_38 f_o0_43 f_o0_95 (show 0 + (209 - x18.toInt) * 404 < (n : Int) by omega)
  · have wc1 : v6.toInt < (o0.1 43).toInt := c_nle c1
    have i20 : (0 : Int) ≤ v6.toInt ∧ v6.toInt ≤ 199 := nr_nlel c1 i_v6 f_o0_43 (by decide) (by decide)
    try unfold fM_base
    try unfold fM_base_0
    refine tt_bkv (P := fun z => ((1 : Int) ≤ z.toInt ∧ z.toInt ≤ 9) ∧ z.toInt = (o0.1 39).toInt + 1) ⟨iv_add (k_o0.1 39) (show (1 : Int) ≤ (1 : Int32).toInt ∧ (1 : Int32).toInt ≤ 1 by decide) (by decide) (by decide) (by decide) (by decide), iq_add (k_o0.1 39) (show (1 : Int) ≤ (1 : Int32).toInt ∧ (1 : Int32).toInt ≤ 1 by decide) (by decide) (by decide)⟩ (fun x21 qi22 => ?_)
    obtain ⟨i22, ei22⟩ := qi22
    refine tt_bs ?_
    refine tt_kv (P := fun z => ((1 : Int) ≤ z.toInt ∧ z.toInt ≤ 208) ∧ z.toInt = x21.toInt + v6.toInt) ⟨iv_add i22 i20 (by decide) (by decide) (by decide) (by decide), iq_add i22 i20 (by decide) (by decide)⟩ (fun x23 qi24 => ?_)
    obtain ⟨i24, ei24⟩ := qi24
    refine tt_n (ix_ok i24 (by decide) (by decide)) ?_
    refine tt_kv (P := fun z => ((0 : Int) ≤ z.toInt ∧ z.toInt ≤ 1) ∧ z.toInt = (o0.2.1 68 x23.toNatClampNeg).toInt) ⟨(k_o0.2 68 _), rfl⟩ (fun x25 qi26 => ?_)
    obtain ⟨i26, ei26⟩ := qi26
    refine tt_if (fun c27 => ?_) (fun c27 => ?_)
    · have wc27 : x25.toInt = (0 : Int) := c_eq c27
      have i28 : (0 : Int) ≤ x25.toInt ∧ x25.toInt ≤ 0 := nr_eql c27 i26 (show (0 : Int) ≤ (0 : Int32).toInt ∧ (0 : Int32).toInt ≤ 0 by decide) (by decide) (by decide)
      try unfold fM_freed_249
      try unfold fM_freed_251
      try unfold fM_base
      try unfold fM_base_0
      refine tt_bkv (P := fun z => ((1 : Int) ≤ z.toInt ∧ z.toInt ≤ 9) ∧ z.toInt = (o0.1 39).toInt + 1) ⟨iv_add (k_o0.1 39) (show (1 : Int) ≤ (1 : Int32).toInt ∧ (1 : Int32).toInt ≤ 1 by decide) (by decide) (by decide) (by decide) (by decide), iq_add (k_o0.1 39) (show (1 : Int) ≤ (1 : Int32).toInt ∧ (1 : Int32).toInt ≤ 1 by decide) (by decide) (by decide)⟩ (fun x29 qi30 => ?_)
      obtain ⟨i30, ei30⟩ := qi30
      refine tt_bs ?_
      refine tt_kv (P := fun z => ((1 : Int) ≤ z.toInt ∧ z.toInt ≤ 208) ∧ z.toInt = x29.toInt + v6.toInt) ⟨iv_add i30 i20 (by decide) (by decide) (by decide) (by decide), iq_add i30 i20 (by decide) (by decide)⟩ (fun x31 qi32 => ?_)
      obtain ⟨i32, ei32⟩ := qi32
      refine tt_n (ix_ok i32 (by decide) (by decide)) ?_
      refine tt_kv (P := fun z => ((0 : Int) ≤ z.toInt ∧ z.toInt ≤ 1) ∧ z.toInt = (o0.2.1 68 x31.toNatClampNeg).toInt) ⟨(k_o0.2 68 _), rfl⟩ (fun x33 qi34 => ?_)
      obtain ⟨i34, ei34⟩ := qi34
      refine tt_if (fun c35 => ?_) (fun c35 => ?_)
      · have wc35 : x33.toInt = (0 : Int) := c_eq c35
        have i36 : (0 : Int) ≤ x33.toInt ∧ x33.toInt ≤ 0 := nr_eql c35 i34 (show (0 : Int) ≤ (0 : Int32).toInt ∧ (0 : Int32).toInt ≤ 0 by decide) (by decide) (by decide)
        try unfold fM_freed_289
        try unfold fM_freed_291
        refine tt_kv (P := fun z => ((1 : Int) ≤ z.toInt ∧ z.toInt ≤ 200) ∧ z.toInt = v6.toInt + 1) ⟨iv_add i20 (show (1 : Int) ≤ (1 : Int32).toInt ∧ (1 : Int32).toInt ≤ 1 by decide) (by decide) (by decide) (by decide) (by decide), iq_add i20 (show (1 : Int) ≤ (1 : Int32).toInt ∧ (1 : Int32).toInt ≤ 1 by decide) (by decide) (by decide)⟩ (fun x37 qi38 => ?_)
        obtain ⟨i38, ei38⟩ := qi38
        exact H.2.2.2 _ _ _ _ _ _ k_o0 r_o0 i_v1 i_v4 (iv_w (a := 0) (b := 200) (by decide) (by decide) i38) f_o0_0 f_o0_37 f_o0_38 f_o0_43 f_o0_95 (show 0 + (209 - v4.toInt - 1) * 404 + 1 + (200 - x37.toInt) * 2 < (n : Int) by omega)
      · have wc35 : ¬ x33.toInt = (0 : Int) := c_ne c35
        have i39 : (1 : Int) ≤ x33.toInt ∧ x33.toInt ≤ 1 := nr_nela c35 i34 (show (0 : Int) ≤ (0 : Int32).toInt ∧ (0 : Int32).toInt ≤ 0 by decide) (by decide) (by decide)
        refine tt_n (ix_ok i20 (by decide) (by decide)) ?_
        refine tt_kv (P := fun z => ((0 : Int) ≤ z.toInt ∧ z.toInt ≤ 417) ∧ z.toInt = (o0.2.1 45 v6.toNatClampNeg).toInt) ⟨(k_o0.2 45 _), rfl⟩ (fun x40 qi41 => ?_)
        obtain ⟨i41, ei41⟩ := qi41
        refine tt_kv (P := fun z => ((0 : Int) ≤ z.toInt ∧ z.toInt ≤ 208) ∧ z.toInt = x40.toInt / 2) ⟨iv_div (k := 2) i41 (show (2 : Int) ≤ (2 : Int32).toInt ∧ (2 : Int32).toInt ≤ 2 by decide) (by decide) (by decide) (by decide) (by decide), i_dv (Int.le_trans (by decide) i41.1) (by decide)⟩ (fun x42 qi43 => ?_)
        obtain ⟨i43, ei43⟩ := qi43
        refine tt_if (fun c44 => ?_) (fun c44 => ?_)
        · have wc44 : x42.toInt = v4.toInt := c_eq c44
          have i45 : (1 : Int) ≤ x42.toInt ∧ x42.toInt ≤ 208 := nr_eql c44 i43 i_v4 (by decide) (by decide)
          refine tt_kv (P := fun z => ((-2147483648) : Int) ≤ z.toInt ∧ z.toInt ≤ 2147483647) (iv_top _) (fun x46 i47 => ?_)
          try unfold fM_freed_291
          refine tt_kv (P := fun z => ((1 : Int) ≤ z.toInt ∧ z.toInt ≤ 200) ∧ z.toInt = v6.toInt + 1) ⟨iv_add i20 (show (1 : Int) ≤ (1 : Int32).toInt ∧ (1 : Int32).toInt ≤ 1 by decide) (by decide) (by decide) (by decide) (by decide), iq_add i20 (show (1 : Int) ≤ (1 : Int32).toInt ∧ (1 : Int32).toInt ≤ 1 by decide) (by decide) (by decide)⟩ (fun x48 qi49 => ?_)
          obtain ⟨i49, ei49⟩ := qi49
          exact H.2.2.2 _ _ _ _ _ _ k_o0 r_o0 i_v1 i_v4 (iv_w (a := 0) (b := 200) (by decide) (by decide) i49) f_o0_0 f_o0_37 f_o0_38 f_o0_43 f_o0_95 (show 0 + (209 - v4.toInt - 1) * 404 + 1 + (200 - x48.toInt) * 2 < (n : Int) by omega)
        · have wc44 : ¬ x42.toInt = v4.toInt := c_ne c44
          try unfold fM_freed_289
          try unfold fM_freed_291
          refine tt_kv (P := fun z => ((1 : Int) ≤ z.toInt ∧ z.toInt ≤ 200) ∧ z.toInt = v6.toInt + 1) ⟨iv_add i20 (show (1 : Int) ≤ (1 : Int32).toInt ∧ (1 : Int32).toInt ≤ 1 by decide) (by decide) (by decide) (by decide) (by decide), iq_add i20 (show (1 : Int) ≤ (1 : Int32).toInt ∧ (1 : Int32).toInt ≤ 1 by decide) (by decide) (by decide)⟩ (fun x50 qi51 => ?_)
          obtain ⟨i51, ei51⟩ := qi51
          exact H.2.2.2 _ _ _ _ _ _ k_o0 r_o0 i_v1 i_v4 (iv_w (a := 0) (b := 200) (by decide) (by decide) i51) f_o0_0 f_o0_37 f_o0_38 f_o0_43 f_o0_95 (show 0 + (209 - v4.toInt - 1) * 404 + 1 + (200 - x50.toInt) * 2 < (n : Int) by omega)
    · have wc27 : ¬ x25.toInt = (0 : Int) := c_ne c27
      have i52 : (1 : Int) ≤ x25.toInt ∧ x25.toInt ≤ 1 := nr_nela c27 i26 (show (0 : Int) ≤ (0 : Int32).toInt ∧ (0 : Int32).toInt ≤ 0 by decide) (by decide) (by decide)
      refine tt_n (ix_ok i20 (by decide) (by decide)) ?_
      refine tt_kv (P := fun z => ((0 : Int) ≤ z.toInt ∧ z.toInt ≤ 417) ∧ z.toInt = (o0.2.1 44 v6.toNatClampNeg).toInt) ⟨(k_o0.2 44 _), rfl⟩ (fun x53 qi54 => ?_)
      obtain ⟨i54, ei54⟩ := qi54
      refine tt_kv (P := fun z => ((0 : Int) ≤ z.toInt ∧ z.toInt ≤ 208) ∧ z.toInt = x53.toInt / 2) ⟨iv_div (k := 2) i54 (show (2 : Int) ≤ (2 : Int32).toInt ∧ (2 : Int32).toInt ≤ 2 by decide) (by decide) (by decide) (by decide) (by decide), i_dv (Int.le_trans (by decide) i54.1) (by decide)⟩ (fun x55 qi56 => ?_)
      obtain ⟨i56, ei56⟩ := qi56
      refine tt_if (fun c57 => ?_) (fun c57 => ?_)
      · have wc57 : x55.toInt = v4.toInt := c_eq c57
        have i58 : (1 : Int) ≤ x55.toInt ∧ x55.toInt ≤ 208 := nr_eql c57 i56 i_v4 (by decide) (by decide)
        refine tt_kv (P := fun z => ((-2147483648) : Int) ≤ z.toInt ∧ z.toInt ≤ 2147483647) (iv_top _) (fun x59 i60 => ?_)
        try unfold fM_freed_251
        try unfold fM_base
        try unfold fM_base_0
        refine tt_bkv (P := fun z => ((1 : Int) ≤ z.toInt ∧ z.toInt ≤ 9) ∧ z.toInt = (o0.1 39).toInt + 1) ⟨iv_add (k_o0.1 39) (show (1 : Int) ≤ (1 : Int32).toInt ∧ (1 : Int32).toInt ≤ 1 by decide) (by decide) (by decide) (by decide) (by decide), iq_add (k_o0.1 39) (show (1 : Int) ≤ (1 : Int32).toInt ∧ (1 : Int32).toInt ≤ 1 by decide) (by decide) (by decide)⟩ (fun x61 qi62 => ?_)
        obtain ⟨i62, ei62⟩ := qi62
        refine tt_bs ?_
        refine tt_kv (P := fun z => ((1 : Int) ≤ z.toInt ∧ z.toInt ≤ 208) ∧ z.toInt = x61.toInt + v6.toInt) ⟨iv_add i62 i20 (by decide) (by decide) (by decide) (by decide), iq_add i62 i20 (by decide) (by decide)⟩ (fun x63 qi64 => ?_)
        obtain ⟨i64, ei64⟩ := qi64
        refine tt_n (ix_ok i64 (by decide) (by decide)) ?_
        refine tt_kv (P := fun z => ((0 : Int) ≤ z.toInt ∧ z.toInt ≤ 1) ∧ z.toInt = (o0.2.1 68 x63.toNatClampNeg).toInt) ⟨(k_o0.2 68 _), rfl⟩ (fun x65 qi66 => ?_)
        obtain ⟨i66, ei66⟩ := qi66
        refine tt_if (fun c67 => ?_) (fun c67 => ?_)
        · have wc67 : x65.toInt = (0 : Int) := c_eq c67
          have i68 : (0 : Int) ≤ x65.toInt ∧ x65.toInt ≤ 0 := nr_eql c67 i66 (show (0 : Int) ≤ (0 : Int32).toInt ∧ (0 : Int32).toInt ≤ 0 by decide) (by decide) (by decide)
          try unfold fM_freed_289
          try unfold fM_freed_291
          refine tt_kv (P := fun z => ((1 : Int) ≤ z.toInt ∧ z.toInt ≤ 200) ∧ z.toInt = v6.toInt + 1) ⟨iv_add i20 (show (1 : Int) ≤ (1 : Int32).toInt ∧ (1 : Int32).toInt ≤ 1 by decide) (by decide) (by decide) (by decide) (by decide), iq_add i20 (show (1 : Int) ≤ (1 : Int32).toInt ∧ (1 : Int32).toInt ≤ 1 by decide) (by decide) (by decide)⟩ (fun x69 qi70 => ?_)
          obtain ⟨i70, ei70⟩ := qi70
          exact H.2.2.2 _ _ _ _ _ _ k_o0 r_o0 i_v1 i_v4 (iv_w (a := 0) (b := 200) (by decide) (by decide) i70) f_o0_0 f_o0_37 f_o0_38 f_o0_43 f_o0_95 (show 0 + (209 - v4.toInt - 1) * 404 + 1 + (200 - x69.toInt) * 2 < (n : Int) by omega)
        · have wc67 : ¬ x65.toInt = (0 : Int) := c_ne c67
          have i71 : (1 : Int) ≤ x65.toInt ∧ x65.toInt ≤ 1 := nr_nela c67 i66 (show (0 : Int) ≤ (0 : Int32).toInt ∧ (0 : Int32).toInt ≤ 0 by decide) (by decide) (by decide)
          refine tt_n (ix_ok i20 (by decide) (by decide)) ?_
          refine tt_kv (P := fun z => ((0 : Int) ≤ z.toInt ∧ z.toInt ≤ 417) ∧ z.toInt = (o0.2.1 45 v6.toNatClampNeg).toInt) ⟨(k_o0.2 45 _), rfl⟩ (fun x72 qi73 => ?_)
          obtain ⟨i73, ei73⟩ := qi73
          refine tt_kv (P := fun z => ((0 : Int) ≤ z.toInt ∧ z.toInt ≤ 208) ∧ z.toInt = x72.toInt / 2) ⟨iv_div (k := 2) i73 (show (2 : Int) ≤ (2 : Int32).toInt ∧ (2 : Int32).toInt ≤ 2 by decide) (by decide) (by decide) (by decide) (by decide), i_dv (Int.le_trans (by decide) i73.1) (by decide)⟩ (fun x74 qi75 => ?_)
          obtain ⟨i75, ei75⟩ := qi75
          refine tt_if (fun c76 => ?_) (fun c76 => ?_)
          · have wc76 : x74.toInt = v4.toInt := c_eq c76
            have i77 : (1 : Int) ≤ x74.toInt ∧ x74.toInt ≤ 208 := nr_eql c76 i75 i_v4 (by decide) (by decide)
            refine tt_kv (P := fun z => ((-2147483648) : Int) ≤ z.toInt ∧ z.toInt ≤ 2147483647) (iv_top _) (fun x78 i79 => ?_)
            try unfold fM_freed_291
            refine tt_kv (P := fun z => ((1 : Int) ≤ z.toInt ∧ z.toInt ≤ 200) ∧ z.toInt = v6.toInt + 1) ⟨iv_add i20 (show (1 : Int) ≤ (1 : Int32).toInt ∧ (1 : Int32).toInt ≤ 1 by decide) (by decide) (by decide) (by decide) (by decide), iq_add i20 (show (1 : Int) ≤ (1 : Int32).toInt ∧ (1 : Int32).toInt ≤ 1 by decide) (by decide) (by decide)⟩ (fun x80 qi81 => ?_)
            obtain ⟨i81, ei81⟩ := qi81
            exact H.2.2.2 _ _ _ _ _ _ k_o0 r_o0 i_v1 i_v4 (iv_w (a := 0) (b := 200) (by decide) (by decide) i81) f_o0_0 f_o0_37 f_o0_38 f_o0_43 f_o0_95 (show 0 + (209 - v4.toInt - 1) * 404 + 1 + (200 - x80.toInt) * 2 < (n : Int) by omega)
          · have wc76 : ¬ x74.toInt = v4.toInt := c_ne c76
            try unfold fM_freed_289
            try unfold fM_freed_291
            refine tt_kv (P := fun z => ((1 : Int) ≤ z.toInt ∧ z.toInt ≤ 200) ∧ z.toInt = v6.toInt + 1) ⟨iv_add i20 (show (1 : Int) ≤ (1 : Int32).toInt ∧ (1 : Int32).toInt ≤ 1 by decide) (by decide) (by decide) (by decide) (by decide), iq_add i20 (show (1 : Int) ≤ (1 : Int32).toInt ∧ (1 : Int32).toInt ≤ 1 by decide) (by decide) (by decide)⟩ (fun x82 qi83 => ?_)
            obtain ⟨i83, ei83⟩ := qi83
            exact H.2.2.2 _ _ _ _ _ _ k_o0 r_o0 i_v1 i_v4 (iv_w (a := 0) (b := 200) (by decide) (by decide) i83) f_o0_0 f_o0_37 f_o0_38 f_o0_43 f_o0_95 (show 0 + (209 - v4.toInt - 1) * 404 + 1 + (200 - x82.toInt) * 2 < (n : Int) by omega)
      · have wc57 : ¬ x55.toInt = v4.toInt := c_ne c57
        try unfold fM_freed_249
        try unfold fM_freed_251
        try unfold fM_base
        try unfold fM_base_0
        refine tt_bkv (P := fun z => ((1 : Int) ≤ z.toInt ∧ z.toInt ≤ 9) ∧ z.toInt = (o0.1 39).toInt + 1) ⟨iv_add (k_o0.1 39) (show (1 : Int) ≤ (1 : Int32).toInt ∧ (1 : Int32).toInt ≤ 1 by decide) (by decide) (by decide) (by decide) (by decide), iq_add (k_o0.1 39) (show (1 : Int) ≤ (1 : Int32).toInt ∧ (1 : Int32).toInt ≤ 1 by decide) (by decide) (by decide)⟩ (fun x84 qi85 => ?_)
        obtain ⟨i85, ei85⟩ := qi85
        refine tt_bs ?_
        refine tt_kv (P := fun z => ((1 : Int) ≤ z.toInt ∧ z.toInt ≤ 208) ∧ z.toInt = x84.toInt + v6.toInt) ⟨iv_add i85 i20 (by decide) (by decide) (by decide) (by decide), iq_add i85 i20 (by decide) (by decide)⟩ (fun x86 qi87 => ?_)
        obtain ⟨i87, ei87⟩ := qi87
        refine tt_n (ix_ok i87 (by decide) (by decide)) ?_
        refine tt_kv (P := fun z => ((0 : Int) ≤ z.toInt ∧ z.toInt ≤ 1) ∧ z.toInt = (o0.2.1 68 x86.toNatClampNeg).toInt) ⟨(k_o0.2 68 _), rfl⟩ (fun x88 qi89 => ?_)
        obtain ⟨i89, ei89⟩ := qi89
        refine tt_if (fun c90 => ?_) (fun c90 => ?_)
        · have wc90 : x88.toInt = (0 : Int) := c_eq c90
          have i91 : (0 : Int) ≤ x88.toInt ∧ x88.toInt ≤ 0 := nr_eql c90 i89 (show (0 : Int) ≤ (0 : Int32).toInt ∧ (0 : Int32).toInt ≤ 0 by decide) (by decide) (by decide)
          try unfold fM_freed_289
          try unfold fM_freed_291
          refine tt_kv (P := fun z => ((1 : Int) ≤ z.toInt ∧ z.toInt ≤ 200) ∧ z.toInt = v6.toInt + 1) ⟨iv_add i20 (show (1 : Int) ≤ (1 : Int32).toInt ∧ (1 : Int32).toInt ≤ 1 by decide) (by decide) (by decide) (by decide) (by decide), iq_add i20 (show (1 : Int) ≤ (1 : Int32).toInt ∧ (1 : Int32).toInt ≤ 1 by decide) (by decide) (by decide)⟩ (fun x92 qi93 => ?_)
          obtain ⟨i93, ei93⟩ := qi93
          exact H.2.2.2 _ _ _ _ _ _ k_o0 r_o0 i_v1 i_v4 (iv_w (a := 0) (b := 200) (by decide) (by decide) i93) f_o0_0 f_o0_37 f_o0_38 f_o0_43 f_o0_95 (show 0 + (209 - v4.toInt - 1) * 404 + 1 + (200 - x92.toInt) * 2 < (n : Int) by omega)
        · have wc90 : ¬ x88.toInt = (0 : Int) := c_ne c90
          have i94 : (1 : Int) ≤ x88.toInt ∧ x88.toInt ≤ 1 := nr_nela c90 i89 (show (0 : Int) ≤ (0 : Int32).toInt ∧ (0 : Int32).toInt ≤ 0 by decide) (by decide) (by decide)
          refine tt_n (ix_ok i20 (by decide) (by decide)) ?_
          refine tt_kv (P := fun z => ((0 : Int) ≤ z.toInt ∧ z.toInt ≤ 417) ∧ z.toInt = (o0.2.1 45 v6.toNatClampNeg).toInt) ⟨(k_o0.2 45 _), rfl⟩ (fun x95 qi96 => ?_)
          obtain ⟨i96, ei96⟩ := qi96
          refine tt_kv (P := fun z => ((0 : Int) ≤ z.toInt ∧ z.toInt ≤ 208) ∧ z.toInt = x95.toInt / 2) ⟨iv_div (k := 2) i96 (show (2 : Int) ≤ (2 : Int32).toInt ∧ (2 : Int32).toInt ≤ 2 by decide) (by decide) (by decide) (by decide) (by decide), i_dv (Int.le_trans (by decide) i96.1) (by decide)⟩ (fun x97 qi98 => ?_)
          obtain ⟨i98, ei98⟩ := qi98
          refine tt_if (fun c99 => ?_) (fun c99 => ?_)
          · have wc99 : x97.toInt = v4.toInt := c_eq c99
            have i100 : (1 : Int) ≤ x97.toInt ∧ x97.toInt ≤ 208 := nr_eql c99 i98 i_v4 (by decide) (by decide)
            refine tt_kv (P := fun z => ((-2147483648) : Int) ≤ z.toInt ∧ z.toInt ≤ 2147483647) (iv_top _) (fun x101 i102 => ?_)
            try unfold fM_freed_291
            refine tt_kv (P := fun z => ((1 : Int) ≤ z.toInt ∧ z.toInt ≤ 200) ∧ z.toInt = v6.toInt + 1) ⟨iv_add i20 (show (1 : Int) ≤ (1 : Int32).toInt ∧ (1 : Int32).toInt ≤ 1 by decide) (by decide) (by decide) (by decide) (by decide), iq_add i20 (show (1 : Int) ≤ (1 : Int32).toInt ∧ (1 : Int32).toInt ≤ 1 by decide) (by decide) (by decide)⟩ (fun x103 qi104 => ?_)
            obtain ⟨i104, ei104⟩ := qi104
            exact H.2.2.2 _ _ _ _ _ _ k_o0 r_o0 i_v1 i_v4 (iv_w (a := 0) (b := 200) (by decide) (by decide) i104) f_o0_0 f_o0_37 f_o0_38 f_o0_43 f_o0_95 (show 0 + (209 - v4.toInt - 1) * 404 + 1 + (200 - x103.toInt) * 2 < (n : Int) by omega)
          · have wc99 : ¬ x97.toInt = v4.toInt := c_ne c99
            try unfold fM_freed_289
            try unfold fM_freed_291
            refine tt_kv (P := fun z => ((1 : Int) ≤ z.toInt ∧ z.toInt ≤ 200) ∧ z.toInt = v6.toInt + 1) ⟨iv_add i20 (show (1 : Int) ≤ (1 : Int32).toInt ∧ (1 : Int32).toInt ≤ 1 by decide) (by decide) (by decide) (by decide) (by decide), iq_add i20 (show (1 : Int) ≤ (1 : Int32).toInt ∧ (1 : Int32).toInt ≤ 1 by decide) (by decide) (by decide)⟩ (fun x105 qi106 => ?_)
            obtain ⟨i106, ei106⟩ := qi106
            exact H.2.2.2 _ _ _ _ _ _ k_o0 r_o0 i_v1 i_v4 (iv_w (a := 0) (b := 200) (by decide) (by decide) i106) f_o0_0 f_o0_37 f_o0_38 f_o0_43 f_o0_95 (show 0 + (209 - v4.toInt - 1) * 404 + 1 + (200 - x105.toInt) * 2 < (n : Int) by omega)
set_option maxHeartbeats 4000000 in
set_option maxRecDepth 100000 in
theorem tM_freed_192 {yv1 : Int32} {yo0 : cf_O} {n : Nat} (H : HM_freed yv1 yo0 n) (v1 : Int32) (v3 : Int32) (v4 : Int32) (o0 : cf_O) (k_o0 : okO I_M o0) (r_o0 : Fr (fr_M [] [68] []) yo0 o0) (i_v1 : (1 : Int) ≤ v1.toInt ∧ v1.toInt ≤ 208) (i_v4 : (1 : Int) ≤ v4.toInt ∧ v4.toInt ≤ 209) (f_o0_0 : (0 : Int) ≤ (o0.1 0).toInt ∧ (o0.1 0).toInt ≤ 0) (f_o0_37 : (1 : Int) ≤ (o0.1 37).toInt ∧ (o0.1 37).toInt ≤ 9) (f_o0_38 : (1 : Int) ≤ (o0.1 38).toInt ∧ (o0.1 38).toInt ≤ 1) (f_o0_43 : (1 : Int) ≤ (o0.1 43).toInt ∧ (o0.1 43).toInt ≤ 200) (f_o0_95 : (0 : Int) ≤ (o0.1 95).toInt ∧ (o0.1 95).toInt ≤ 0) (hm : 0 + (209 - v4.toInt) * 404 ≤ (n : Int)) : tt (fM_freed_192 (gM_freed n) v1 v3 v4 o0) (QM_freed yv1 yo0) := by
  unfold fM_freed_192
  have i_v3 := iv_top v3
  have g_o0_39 : (0 : Int) ≤ (o0.1 39).toInt ∧ (o0.1 39).toInt ≤ 8 := k_o0.1 39
  have ey_o0_39 : (o0.1 39).toInt = (yo0.1 39).toInt := congrArg Int32.toInt (r_o0.1 39 rfl)
  have ey_o0_43 : (o0.1 43).toInt = (yo0.1 43).toInt := congrArg Int32.toInt (r_o0.1 43 rfl)
  refine tt_if (fun c1 => ?_) (fun c1 => ?_)
  · have wc1 : v1.toInt ≤ v4.toInt := c_le c1
    exact tt_some ⟨k_o0, r_o0, trivial⟩
  · have wc1 : v4.toInt < v1.toInt := c_nle c1
    have i2 : (1 : Int) ≤ v4.toInt ∧ v4.toInt ≤ 207 := nr_nlel c1 i_v4 i_v1 (by decide) (by decide)
    have i3 : (2 : Int) ≤ v1.toInt ∧ v1.toInt ≤ 208 := nr_nler c1 i_v4 i_v1 (by decide) (by decide)
    exact H.2.2.2 _ _ _ _ _ _ k_o0 r_o0 i3 (iv_w (a := 1) (b := 208) (by decide) (by decide) i2) (iv_w (a := 0) (b := 200) (by decide) (by decide) (show (0 : Int) ≤ (0 : Int32).toInt ∧ (0 : Int32).toInt ≤ 0 by decide)) f_o0_0 f_o0_37 f_o0_38 f_o0_43 f_o0_95 (show 0 + (209 - v4.toInt - 1) * 404 + 1 + (200 - 0) * 2 < (n : Int) by omega)
set_option maxHeartbeats 4000000 in
set_option maxRecDepth 100000 in
theorem tM_freed_40 {yv1 : Int32} {yo0 : cf_O} {n : Nat} (H : HM_freed yv1 yo0 n) (v1 : Int32) (v2 : Int32) (v3 : Int32) (o0 : cf_O) (k_o0 : okO I_M o0) (r_o0 : Fr (fr_M [] [68] []) yo0 o0) (i_v1 : (1 : Int) ≤ v1.toInt ∧ v1.toInt ≤ 208) (i_v2 : (0 : Int) ≤ v2.toInt ∧ v2.toInt ≤ 63209) (i_v3 : (0 : Int) ≤ v3.toInt ∧ v3.toInt ≤ 208) (f_o0_0 : (0 : Int) ≤ (o0.1 0).toInt ∧ (o0.1 0).toInt ≤ 0) (f_o0_37 : (1 : Int) ≤ (o0.1 37).toInt ∧ (o0.1 37).toInt ≤ 9) (f_o0_38 : (1 : Int) ≤ (o0.1 38).toInt ∧ (o0.1 38).toInt ≤ 1) (f_o0_43 : (1 : Int) ≤ (o0.1 43).toInt ∧ (o0.1 43).toInt ≤ 200) (f_o0_95 : (0 : Int) ≤ (o0.1 95).toInt ∧ (o0.1 95).toInt ≤ 0) (x_0 : v1.toInt ≤ (o0.1 39).toInt + (o0.1 43).toInt) (x_1 : v3.toInt ≤ v1.toInt) (hm : 84034 + (v3.toInt - 0) * 2 ≤ (n : Int)) : tt (fM_freed_40 (gM_freed n) v1 v2 v3 o0) (QM_freed yv1 yo0) := by
  unfold fM_freed_40
  have g_o0_39 : (0 : Int) ≤ (o0.1 39).toInt ∧ (o0.1 39).toInt ≤ 8 := k_o0.1 39
  have ey_o0_39 : (o0.1 39).toInt = (yo0.1 39).toInt := congrArg Int32.toInt (r_o0.1 39 rfl)
  have ey_o0_43 : (o0.1 43).toInt = (yo0.1 43).toInt := congrArg Int32.toInt (r_o0.1 43 rfl)
  try unfold fM_base
  try unfold fM_base_0
  refine tt_bkv (P := fun z => ((1 : Int) ≤ z.toInt ∧ z.toInt ≤ 9) ∧ z.toInt = (o0.1 39).toInt + 1) ⟨iv_add (k_o0.1 39) (show (1 : Int) ≤ (1 : Int32).toInt ∧ (1 : Int32).toInt ≤ 1 by decide) (by decide) (by decide) (by decide) (by decide), iq_add (k_o0.1 39) (show (1 : Int) ≤ (1 : Int32).toInt ∧ (1 : Int32).toInt ≤ 1 by decide) (by decide) (by decide)⟩ (fun x1 qi2 => ?_)
  obtain ⟨i2, ei2⟩ := qi2
  refine tt_bs ?_
  refine tt_if (fun c3 => ?_) (fun c3 => ?_)
  · have wc3 : v3.toInt < x1.toInt := c_lt c3
    have i4 : (0 : Int) ≤ v3.toInt ∧ v3.toInt ≤ 8 := nr_ltl c3 i_v3 i2 (by decide) (by decide)
    try unfold fM_base
    try unfold fM_base_0
    refine tt_bkv (P := fun z => ((1 : Int) ≤ z.toInt ∧ z.toInt ≤ 9) ∧ z.toInt = (o0.1 39).toInt + 1) ⟨iv_add (k_o0.1 39) (show (1 : Int) ≤ (1 : Int32).toInt ∧ (1 : Int32).toInt ≤ 1 by decide) (by decide) (by decide) (by decide) (by decide), iq_add (k_o0.1 39) (show (1 : Int) ≤ (1 : Int32).toInt ∧ (1 : Int32).toInt ≤ 1 by decide) (by decide) (by decide)⟩ (fun x5 qi6 => ?_)
    obtain ⟨i6, ei6⟩ := qi6
    refine tt_bs ?_
    exact H.2.2.1 _ _ _ _ k_o0 r_o0 i_v1 (iv_w (a := 1) (b := 209) (by decide) (by decide) i6) f_o0_0 f_o0_37 f_o0_38 f_o0_43 f_o0_95 (show 0 + (209 - x5.toInt) * 404 < (n : Int) by omega)
  · have wc3 : x1.toInt ≤ v3.toInt := c_nlt c3
    have i7 : (1 : Int) ≤ v3.toInt ∧ v3.toInt ≤ 208 := nr_nltr c3 i2 i_v3 (by decide) (by decide)
    try unfold fM_base
    try unfold fM_base_0
    refine tt_bkv (P := fun z => ((1 : Int) ≤ z.toInt ∧ z.toInt ≤ 9) ∧ z.toInt = (o0.1 39).toInt + 1) ⟨iv_add (k_o0.1 39) (show (1 : Int) ≤ (1 : Int32).toInt ∧ (1 : Int32).toInt ≤ 1 by decide) (by decide) (by decide) (by decide) (by decide), iq_add (k_o0.1 39) (show (1 : Int) ≤ (1 : Int32).toInt ∧ (1 : Int32).toInt ≤ 1 by decide) (by decide) (by decide)⟩ (fun x8 qi9 => ?_)
    obtain ⟨i9, ei9⟩ := qi9
    refine tt_bs ?_
    refine tt_kv (P := fun z => (((-8) : Int) ≤ z.toInt ∧ z.toInt ≤ 207) ∧ z.toInt = v3.toInt - x8.toInt) ⟨iv_sub i7 i9 (by decide) (by decide) (by decide) (by decide), iq_sub i7 i9 (by decide) (by decide)⟩ (fun x10 qi11 => ?_)
    obtain ⟨i11, ei11⟩ := qi11
    refine tt_n (ix_rel (by omega) (by omega)) ?_
    have i12 : (0 : Int) ≤ x10.toInt ∧ x10.toInt ≤ 200 := (by omega)
    refine tt_kv (P := fun z => ((0 : Int) ≤ z.toInt ∧ z.toInt ≤ 417) ∧ z.toInt = (o0.2.1 44 x10.toNatClampNeg).toInt) ⟨(k_o0.2 44 _), rfl⟩ (fun x13 qi14 => ?_)
    obtain ⟨i14, ei14⟩ := qi14
    refine tt_kv (P := fun z => ((0 : Int) ≤ z.toInt ∧ z.toInt ≤ 208) ∧ z.toInt = x13.toInt / 2) ⟨iv_div (k := 2) i14 (show (2 : Int) ≤ (2 : Int32).toInt ∧ (2 : Int32).toInt ≤ 2 by decide) (by decide) (by decide) (by decide) (by decide), i_dv (Int.le_trans (by decide) i14.1) (by decide)⟩ (fun x15 qi16 => ?_)
    obtain ⟨i16, ei16⟩ := qi16
    try unfold fM_base
    try unfold fM_base_0
    refine tt_bkv (P := fun z => ((1 : Int) ≤ z.toInt ∧ z.toInt ≤ 9) ∧ z.toInt = (o0.1 39).toInt + 1) ⟨iv_add (k_o0.1 39) (show (1 : Int) ≤ (1 : Int32).toInt ∧ (1 : Int32).toInt ≤ 1 by decide) (by decide) (by decide) (by decide) (by decide), iq_add (k_o0.1 39) (show (1 : Int) ≤ (1 : Int32).toInt ∧ (1 : Int32).toInt ≤ 1 by decide) (by decide) (by decide)⟩ (fun x17 qi18 => ?_)
    obtain ⟨i18, ei18⟩ := qi18
    refine tt_bs ?_
    refine tt_kv (P := fun z => (((-8) : Int) ≤ z.toInt ∧ z.toInt ≤ 207) ∧ z.toInt = v3.toInt - x17.toInt) ⟨iv_sub i7 i18 (by decide) (by decide) (by decide) (by decide), iq_sub i7 i18 (by decide) (by decide)⟩ (fun x19 qi20 => ?_)
    obtain ⟨i20, ei20⟩ := qi20
    refine tt_n (ix_rel (by omega) (by omega)) ?_
    have i21 : (0 : Int) ≤ x19.toInt ∧ x19.toInt ≤ 200 := (by omega)
    refine tt_kv (P := fun z => ((0 : Int) ≤ z.toInt ∧ z.toInt ≤ 417) ∧ z.toInt = (o0.2.1 45 x19.toNatClampNeg).toInt) ⟨(k_o0.2 45 _), rfl⟩ (fun x22 qi23 => ?_)
    obtain ⟨i23, ei23⟩ := qi23
    refine tt_kv (P := fun z => ((0 : Int) ≤ z.toInt ∧ z.toInt ≤ 208) ∧ z.toInt = x22.toInt / 2) ⟨iv_div (k := 2) i23 (show (2 : Int) ≤ (2 : Int32).toInt ∧ (2 : Int32).toInt ≤ 2 by decide) (by decide) (by decide) (by decide) (by decide), i_dv (Int.le_trans (by decide) i23.1) (by decide)⟩ (fun x24 qi25 => ?_)
    obtain ⟨i25, ei25⟩ := qi25
    refine tt_n (ix_ok i16 (by decide) (by decide)) ?_
    refine tt_kv (P := fun z => ((0 : Int) ≤ z.toInt ∧ z.toInt ≤ 1) ∧ z.toInt = (o0.2.1 68 x15.toNatClampNeg).toInt) ⟨(k_o0.2 68 _), rfl⟩ (fun x26 qi27 => ?_)
    obtain ⟨i27, ei27⟩ := qi27
    refine tt_if (fun c28 => ?_) (fun c28 => ?_)
    · have wc28 : x26.toInt = (0 : Int) := c_eq c28
      have i29 : (0 : Int) ≤ x26.toInt ∧ x26.toInt ≤ 0 := nr_eql c28 i27 (show (0 : Int) ≤ (0 : Int32).toInt ∧ (0 : Int32).toInt ≤ 0 by decide) (by decide) (by decide)
      refine tt_n (ix_ok i7 (by decide) (by decide)) ?_
      refine tt_kv (P := fun z => ((0 : Int) ≤ z.toInt ∧ z.toInt ≤ 1) ∧ z.toInt = (o0.2.1 68 v3.toNatClampNeg).toInt) ⟨(k_o0.2 68 _), rfl⟩ (fun x30 qi31 => ?_)
      obtain ⟨i31, ei31⟩ := qi31
      refine tt_if (fun c32 => ?_) (fun c32 => ?_)
      · have wc32 : x30.toInt = (0 : Int) := c_eq c32
        have i33 : (0 : Int) ≤ x30.toInt ∧ x30.toInt ≤ 0 := nr_eql c32 i31 (show (0 : Int) ≤ (0 : Int32).toInt ∧ (0 : Int32).toInt ≤ 0 by decide) (by decide) (by decide)
        try unfold fM_freed_126
        try unfold fM_freed_127
        refine tt_n (ix_ok i16 (by decide) (by decide)) ?_
        refine tt_ko ?_
        have k34 := ok_xp (k := 68) (i := x15.toNatClampNeg) (v := (vp_nar .boolean 0)) k_o0 (iv_nz _)
        have r35 := fr_xp (k := 68) (i := x15.toNatClampNeg) (v := (vp_nar .boolean 0)) r_o0 rfl
        refine tt_n (ix_ok i25 (by decide) (by decide)) ?_
        refine tt_kv (P := fun z => ((0 : Int) ≤ z.toInt ∧ z.toInt ≤ 1) ∧ z.toInt = (upd (o0.2.1 68) (x15.toNatClampNeg) (vp_nar .boolean 0) x24.toNatClampNeg).toInt) ⟨(k34.2 68 _), rfl⟩ (fun x36 qi37 => ?_)
        obtain ⟨i37, ei37⟩ := qi37
        refine tt_if (fun c38 => ?_) (fun c38 => ?_)
        · have wc38 : x36.toInt = (0 : Int) := c_eq c38
          have i39 : (0 : Int) ≤ x36.toInt ∧ x36.toInt ≤ 0 := nr_eql c38 i37 (show (0 : Int) ≤ (0 : Int32).toInt ∧ (0 : Int32).toInt ≤ 0 by decide) (by decide) (by decide)
          refine tt_n (ix_ok i7 (by decide) (by decide)) ?_
          refine tt_kv (P := fun z => ((0 : Int) ≤ z.toInt ∧ z.toInt ≤ 1) ∧ z.toInt = (upd (o0.2.1 68) (x15.toNatClampNeg) (vp_nar .boolean 0) v3.toNatClampNeg).toInt) ⟨(k34.2 68 _), rfl⟩ (fun x40 qi41 => ?_)
          obtain ⟨i41, ei41⟩ := qi41
          refine tt_if (fun c42 => ?_) (fun c42 => ?_)
          · have wc42 : x40.toInt = (0 : Int) := c_eq c42
            have i43 : (0 : Int) ≤ x40.toInt ∧ x40.toInt ≤ 0 := nr_eql c42 i41 (show (0 : Int) ≤ (0 : Int32).toInt ∧ (0 : Int32).toInt ≤ 0 by decide) (by decide) (by decide)
            try unfold fM_freed_176
            try unfold fM_freed_177
            refine tt_n (ix_ok i25 (by decide) (by decide)) ?_
            refine tt_ko ?_
            have k44 := ok_xp (k := 68) (i := x24.toNatClampNeg) (v := (vp_nar .boolean 0)) k34 (iv_nz _)
            have r45 := fr_xp (k := 68) (i := x24.toNatClampNeg) (v := (vp_nar .boolean 0)) r35 rfl
            refine tt_kv (P := fun z => ((0 : Int) ≤ z.toInt ∧ z.toInt ≤ 207) ∧ z.toInt = v3.toInt + (-1)) ⟨iv_add i7 (show ((-1) : Int) ≤ ((-1) : Int32).toInt ∧ ((-1) : Int32).toInt ≤ (-1) by decide) (by decide) (by decide) (by decide) (by decide), iq_add i7 (show ((-1) : Int) ≤ ((-1) : Int32).toInt ∧ ((-1) : Int32).toInt ≤ (-1) by decide) (by decide) (by decide)⟩ (fun x46 qi47 => ?_)
            obtain ⟨i47, ei47⟩ := qi47
            exact H.2.1 _ _ _ _ k44 r45 i_v1 i_v2 (iv_w (a := 0) (b := 208) (by decide) (by decide) i47) f_o0_0 f_o0_37 f_o0_38 f_o0_43 f_o0_95 (show v1.toInt ≤ (o0.1 39).toInt + (o0.1 43).toInt by omega) (show x46.toInt ≤ v1.toInt by omega) (show 84034 + (x46.toInt - 0) * 2 < (n : Int) by omega)
          · have wc42 : ¬ x40.toInt = (0 : Int) := c_ne c42
            have i48 : (1 : Int) ≤ x40.toInt ∧ x40.toInt ≤ 1 := nr_nela c42 i41 (show (0 : Int) ≤ (0 : Int32).toInt ∧ (0 : Int32).toInt ≤ 0 by decide) (by decide) (by decide)
            try unfold fM_base
            try unfold fM_base_0
            refine tt_bkv (P := fun z => ((1 : Int) ≤ z.toInt ∧ z.toInt ≤ 9) ∧ z.toInt = (o0.1 39).toInt + 1) ⟨iv_add (k_o0.1 39) (show (1 : Int) ≤ (1 : Int32).toInt ∧ (1 : Int32).toInt ≤ 1 by decide) (by decide) (by decide) (by decide) (by decide), iq_add (k_o0.1 39) (show (1 : Int) ≤ (1 : Int32).toInt ∧ (1 : Int32).toInt ≤ 1 by decide) (by decide) (by decide)⟩ (fun x49 qi50 => ?_)
            obtain ⟨i50, ei50⟩ := qi50
            refine tt_bs ?_
            refine tt_if (fun c51 => ?_) (fun c51 => ?_)
            · have wc51 : x24.toInt < x49.toInt := c_lt c51
              have i52 : (0 : Int) ≤ x24.toInt ∧ x24.toInt ≤ 8 := nr_ltl c51 i25 i50 (by decide) (by decide)
              try unfold fM_freed_176
              try unfold fM_freed_177
              refine tt_n (ix_ok i52 (by decide) (by decide)) ?_
              refine tt_ko ?_
              have k53 := ok_xp (k := 68) (i := x24.toNatClampNeg) (v := (vp_nar .boolean 0)) k34 (iv_nz _)
              have r54 := fr_xp (k := 68) (i := x24.toNatClampNeg) (v := (vp_nar .boolean 0)) r35 rfl
              refine tt_kv (P := fun z => ((0 : Int) ≤ z.toInt ∧ z.toInt ≤ 207) ∧ z.toInt = v3.toInt + (-1)) ⟨iv_add i7 (show ((-1) : Int) ≤ ((-1) : Int32).toInt ∧ ((-1) : Int32).toInt ≤ (-1) by decide) (by decide) (by decide) (by decide) (by decide), iq_add i7 (show ((-1) : Int) ≤ ((-1) : Int32).toInt ∧ ((-1) : Int32).toInt ≤ (-1) by decide) (by decide) (by decide)⟩ (fun x55 qi56 => ?_)
              obtain ⟨i56, ei56⟩ := qi56
              exact H.2.1 _ _ _ _ k53 r54 i_v1 i_v2 (iv_w (a := 0) (b := 208) (by decide) (by decide) i56) f_o0_0 f_o0_37 f_o0_38 f_o0_43 f_o0_95 (show v1.toInt ≤ (o0.1 39).toInt + (o0.1 43).toInt by omega) (show x55.toInt ≤ v1.toInt by omega) (show 84034 + (x55.toInt - 0) * 2 < (n : Int) by omega)
            · have wc51 : x49.toInt ≤ x24.toInt := c_nlt c51
              have i57 : (1 : Int) ≤ x24.toInt ∧ x24.toInt ≤ 208 := nr_nltr c51 i50 i25 (by decide) (by decide)
              refine tt_b (sM_inCut _ _ _ k34 i_v2 i57 f_o0_0 f_o0_37 f_o0_38 f_o0_43 f_o0_95) (fun q58 hq58 => ?_)
              obtain ⟨i_q58, -⟩ := hq58
              refine tt_if (fun c59 => ?_) (fun c59 => ?_)
              · have wc59 : q58.toInt = (0 : Int) := c_eq c59
                have i60 : (0 : Int) ≤ q58.toInt ∧ q58.toInt ≤ 0 := nr_eql c59 i_q58 (show (0 : Int) ≤ (0 : Int32).toInt ∧ (0 : Int32).toInt ≤ 0 by decide) (by decide) (by decide)
                try unfold fM_freed_172
                try unfold fM_freed_177
                refine tt_n (ix_ok i57 (by decide) (by decide)) ?_
                refine tt_ko ?_
                have k61 := ok_xp (k := 68) (i := x24.toNatClampNeg) (v := (vp_nar .boolean 1)) k34 (iv_nz _)
                have r62 := fr_xp (k := 68) (i := x24.toNatClampNeg) (v := (vp_nar .boolean 1)) r35 rfl
                refine tt_kv (P := fun z => ((0 : Int) ≤ z.toInt ∧ z.toInt ≤ 207) ∧ z.toInt = v3.toInt + (-1)) ⟨iv_add i7 (show ((-1) : Int) ≤ ((-1) : Int32).toInt ∧ ((-1) : Int32).toInt ≤ (-1) by decide) (by decide) (by decide) (by decide) (by decide), iq_add i7 (show ((-1) : Int) ≤ ((-1) : Int32).toInt ∧ ((-1) : Int32).toInt ≤ (-1) by decide) (by decide) (by decide)⟩ (fun x63 qi64 => ?_)
                obtain ⟨i64, ei64⟩ := qi64
                exact H.2.1 _ _ _ _ k61 r62 i_v1 i_v2 (iv_w (a := 0) (b := 208) (by decide) (by decide) i64) f_o0_0 f_o0_37 f_o0_38 f_o0_43 f_o0_95 (show v1.toInt ≤ (o0.1 39).toInt + (o0.1 43).toInt by omega) (show x63.toInt ≤ v1.toInt by omega) (show 84034 + (x63.toInt - 0) * 2 < (n : Int) by omega)
              · have wc59 : ¬ q58.toInt = (0 : Int) := c_ne c59
                have i65 : (1 : Int) ≤ q58.toInt ∧ q58.toInt ≤ 1 := nr_nela c59 i_q58 (show (0 : Int) ≤ (0 : Int32).toInt ∧ (0 : Int32).toInt ≤ 0 by decide) (by decide) (by decide)
                try unfold fM_freed_176
                try unfold fM_freed_177
                refine tt_n (ix_ok i57 (by decide) (by decide)) ?_
                refine tt_ko ?_
                have k66 := ok_xp (k := 68) (i := x24.toNatClampNeg) (v := (vp_nar .boolean 0)) k34 (iv_nz _)
                have r67 := fr_xp (k := 68) (i := x24.toNatClampNeg) (v := (vp_nar .boolean 0)) r35 rfl
                refine tt_kv (P := fun z => ((0 : Int) ≤ z.toInt ∧ z.toInt ≤ 207) ∧ z.toInt = v3.toInt + (-1)) ⟨iv_add i7 (show ((-1) : Int) ≤ ((-1) : Int32).toInt ∧ ((-1) : Int32).toInt ≤ (-1) by decide) (by decide) (by decide) (by decide) (by decide), iq_add i7 (show ((-1) : Int) ≤ ((-1) : Int32).toInt ∧ ((-1) : Int32).toInt ≤ (-1) by decide) (by decide) (by decide)⟩ (fun x68 qi69 => ?_)
                obtain ⟨i69, ei69⟩ := qi69
                exact H.2.1 _ _ _ _ k66 r67 i_v1 i_v2 (iv_w (a := 0) (b := 208) (by decide) (by decide) i69) f_o0_0 f_o0_37 f_o0_38 f_o0_43 f_o0_95 (show v1.toInt ≤ (o0.1 39).toInt + (o0.1 43).toInt by omega) (show x68.toInt ≤ v1.toInt by omega) (show 84034 + (x68.toInt - 0) * 2 < (n : Int) by omega)
        · have wc38 : ¬ x36.toInt = (0 : Int) := c_ne c38
          have i70 : (1 : Int) ≤ x36.toInt ∧ x36.toInt ≤ 1 := nr_nela c38 i37 (show (0 : Int) ≤ (0 : Int32).toInt ∧ (0 : Int32).toInt ≤ 0 by decide) (by decide) (by decide)
          try unfold fM_freed_172
          try unfold fM_freed_177
          refine tt_n (ix_ok i25 (by decide) (by decide)) ?_
          refine tt_ko ?_
          have k71 := ok_xp (k := 68) (i := x24.toNatClampNeg) (v := (vp_nar .boolean 1)) k34 (iv_nz _)
          have r72 := fr_xp (k := 68) (i := x24.toNatClampNeg) (v := (vp_nar .boolean 1)) r35 rfl
          refine tt_kv (P := fun z => ((0 : Int) ≤ z.toInt ∧ z.toInt ≤ 207) ∧ z.toInt = v3.toInt + (-1)) ⟨iv_add i7 (show ((-1) : Int) ≤ ((-1) : Int32).toInt ∧ ((-1) : Int32).toInt ≤ (-1) by decide) (by decide) (by decide) (by decide) (by decide), iq_add i7 (show ((-1) : Int) ≤ ((-1) : Int32).toInt ∧ ((-1) : Int32).toInt ≤ (-1) by decide) (by decide) (by decide)⟩ (fun x73 qi74 => ?_)
          obtain ⟨i74, ei74⟩ := qi74
          exact H.2.1 _ _ _ _ k71 r72 i_v1 i_v2 (iv_w (a := 0) (b := 208) (by decide) (by decide) i74) f_o0_0 f_o0_37 f_o0_38 f_o0_43 f_o0_95 (show v1.toInt ≤ (o0.1 39).toInt + (o0.1 43).toInt by omega) (show x73.toInt ≤ v1.toInt by omega) (show 84034 + (x73.toInt - 0) * 2 < (n : Int) by omega)
      · have wc32 : ¬ x30.toInt = (0 : Int) := c_ne c32
        have i75 : (1 : Int) ≤ x30.toInt ∧ x30.toInt ≤ 1 := nr_nela c32 i31 (show (0 : Int) ≤ (0 : Int32).toInt ∧ (0 : Int32).toInt ≤ 0 by decide) (by decide) (by decide)
        try unfold fM_base
        try unfold fM_base_0
        refine tt_bkv (P := fun z => ((1 : Int) ≤ z.toInt ∧ z.toInt ≤ 9) ∧ z.toInt = (o0.1 39).toInt + 1) ⟨iv_add (k_o0.1 39) (show (1 : Int) ≤ (1 : Int32).toInt ∧ (1 : Int32).toInt ≤ 1 by decide) (by decide) (by decide) (by decide) (by decide), iq_add (k_o0.1 39) (show (1 : Int) ≤ (1 : Int32).toInt ∧ (1 : Int32).toInt ≤ 1 by decide) (by decide) (by decide)⟩ (fun x76 qi77 => ?_)
        obtain ⟨i77, ei77⟩ := qi77
        refine tt_bs ?_
        refine tt_if (fun c78 => ?_) (fun c78 => ?_)
        · have wc78 : x15.toInt < x76.toInt := c_lt c78
          have i79 : (0 : Int) ≤ x15.toInt ∧ x15.toInt ≤ 8 := nr_ltl c78 i16 i77 (by decide) (by decide)
          try unfold fM_freed_126
          try unfold fM_freed_127
          refine tt_n (ix_ok i79 (by decide) (by decide)) ?_
          refine tt_ko ?_
          have k80 := ok_xp (k := 68) (i := x15.toNatClampNeg) (v := (vp_nar .boolean 0)) k_o0 (iv_nz _)
          have r81 := fr_xp (k := 68) (i := x15.toNatClampNeg) (v := (vp_nar .boolean 0)) r_o0 rfl
          refine tt_n (ix_ok i25 (by decide) (by decide)) ?_
          refine tt_kv (P := fun z => ((0 : Int) ≤ z.toInt ∧ z.toInt ≤ 1) ∧ z.toInt = (upd (o0.2.1 68) (x15.toNatClampNeg) (vp_nar .boolean 0) x24.toNatClampNeg).toInt) ⟨(k80.2 68 _), rfl⟩ (fun x82 qi83 => ?_)
          obtain ⟨i83, ei83⟩ := qi83
          refine tt_if (fun c84 => ?_) (fun c84 => ?_)
          · have wc84 : x82.toInt = (0 : Int) := c_eq c84
            have i85 : (0 : Int) ≤ x82.toInt ∧ x82.toInt ≤ 0 := nr_eql c84 i83 (show (0 : Int) ≤ (0 : Int32).toInt ∧ (0 : Int32).toInt ≤ 0 by decide) (by decide) (by decide)
            refine tt_n (ix_ok i7 (by decide) (by decide)) ?_
            refine tt_kv (P := fun z => ((0 : Int) ≤ z.toInt ∧ z.toInt ≤ 1) ∧ z.toInt = (upd (o0.2.1 68) (x15.toNatClampNeg) (vp_nar .boolean 0) v3.toNatClampNeg).toInt) ⟨(k80.2 68 _), rfl⟩ (fun x86 qi87 => ?_)
            obtain ⟨i87, ei87⟩ := qi87
            refine tt_if (fun c88 => ?_) (fun c88 => ?_)
            · have wc88 : x86.toInt = (0 : Int) := c_eq c88
              have i89 : (0 : Int) ≤ x86.toInt ∧ x86.toInt ≤ 0 := nr_eql c88 i87 (show (0 : Int) ≤ (0 : Int32).toInt ∧ (0 : Int32).toInt ≤ 0 by decide) (by decide) (by decide)
              try unfold fM_freed_176
              try unfold fM_freed_177
              refine tt_n (ix_ok i25 (by decide) (by decide)) ?_
              refine tt_ko ?_
              have k90 := ok_xp (k := 68) (i := x24.toNatClampNeg) (v := (vp_nar .boolean 0)) k80 (iv_nz _)
              have r91 := fr_xp (k := 68) (i := x24.toNatClampNeg) (v := (vp_nar .boolean 0)) r81 rfl
              refine tt_kv (P := fun z => ((0 : Int) ≤ z.toInt ∧ z.toInt ≤ 207) ∧ z.toInt = v3.toInt + (-1)) ⟨iv_add i7 (show ((-1) : Int) ≤ ((-1) : Int32).toInt ∧ ((-1) : Int32).toInt ≤ (-1) by decide) (by decide) (by decide) (by decide) (by decide), iq_add i7 (show ((-1) : Int) ≤ ((-1) : Int32).toInt ∧ ((-1) : Int32).toInt ≤ (-1) by decide) (by decide) (by decide)⟩ (fun x92 qi93 => ?_)
              obtain ⟨i93, ei93⟩ := qi93
              exact H.2.1 _ _ _ _ k90 r91 i_v1 i_v2 (iv_w (a := 0) (b := 208) (by decide) (by decide) i93) f_o0_0 f_o0_37 f_o0_38 f_o0_43 f_o0_95 (show v1.toInt ≤ (o0.1 39).toInt + (o0.1 43).toInt by omega) (show x92.toInt ≤ v1.toInt by omega) (show 84034 + (x92.toInt - 0) * 2 < (n : Int) by omega)
            · have wc88 : ¬ x86.toInt = (0 : Int) := c_ne c88
              have i94 : (1 : Int) ≤ x86.toInt ∧ x86.toInt ≤ 1 := nr_nela c88 i87 (show (0 : Int) ≤ (0 : Int32).toInt ∧ (0 : Int32).toInt ≤ 0 by decide) (by decide) (by decide)
              try unfold fM_base
              try unfold fM_base_0
              refine tt_bkv (P := fun z => ((1 : Int) ≤ z.toInt ∧ z.toInt ≤ 9) ∧ z.toInt = (o0.1 39).toInt + 1) ⟨iv_add (k_o0.1 39) (show (1 : Int) ≤ (1 : Int32).toInt ∧ (1 : Int32).toInt ≤ 1 by decide) (by decide) (by decide) (by decide) (by decide), iq_add (k_o0.1 39) (show (1 : Int) ≤ (1 : Int32).toInt ∧ (1 : Int32).toInt ≤ 1 by decide) (by decide) (by decide)⟩ (fun x95 qi96 => ?_)
              obtain ⟨i96, ei96⟩ := qi96
              refine tt_bs ?_
              refine tt_if (fun c97 => ?_) (fun c97 => ?_)
              · have wc97 : x24.toInt < x95.toInt := c_lt c97
                have i98 : (0 : Int) ≤ x24.toInt ∧ x24.toInt ≤ 8 := nr_ltl c97 i25 i96 (by decide) (by decide)
                try unfold fM_freed_176
                try unfold fM_freed_177
                refine tt_n (ix_ok i98 (by decide) (by decide)) ?_
                refine tt_ko ?_
                have k99 := ok_xp (k := 68) (i := x24.toNatClampNeg) (v := (vp_nar .boolean 0)) k80 (iv_nz _)
                have r100 := fr_xp (k := 68) (i := x24.toNatClampNeg) (v := (vp_nar .boolean 0)) r81 rfl
                refine tt_kv (P := fun z => ((0 : Int) ≤ z.toInt ∧ z.toInt ≤ 207) ∧ z.toInt = v3.toInt + (-1)) ⟨iv_add i7 (show ((-1) : Int) ≤ ((-1) : Int32).toInt ∧ ((-1) : Int32).toInt ≤ (-1) by decide) (by decide) (by decide) (by decide) (by decide), iq_add i7 (show ((-1) : Int) ≤ ((-1) : Int32).toInt ∧ ((-1) : Int32).toInt ≤ (-1) by decide) (by decide) (by decide)⟩ (fun x101 qi102 => ?_)
                obtain ⟨i102, ei102⟩ := qi102
                exact H.2.1 _ _ _ _ k99 r100 i_v1 i_v2 (iv_w (a := 0) (b := 208) (by decide) (by decide) i102) f_o0_0 f_o0_37 f_o0_38 f_o0_43 f_o0_95 (show v1.toInt ≤ (o0.1 39).toInt + (o0.1 43).toInt by omega) (show x101.toInt ≤ v1.toInt by omega) (show 84034 + (x101.toInt - 0) * 2 < (n : Int) by omega)
              · have wc97 : x95.toInt ≤ x24.toInt := c_nlt c97
                have i103 : (1 : Int) ≤ x24.toInt ∧ x24.toInt ≤ 208 := nr_nltr c97 i96 i25 (by decide) (by decide)
                refine tt_b (sM_inCut _ _ _ k80 i_v2 i103 f_o0_0 f_o0_37 f_o0_38 f_o0_43 f_o0_95) (fun q104 hq104 => ?_)
                obtain ⟨i_q104, -⟩ := hq104
                refine tt_if (fun c105 => ?_) (fun c105 => ?_)
                · have wc105 : q104.toInt = (0 : Int) := c_eq c105
                  have i106 : (0 : Int) ≤ q104.toInt ∧ q104.toInt ≤ 0 := nr_eql c105 i_q104 (show (0 : Int) ≤ (0 : Int32).toInt ∧ (0 : Int32).toInt ≤ 0 by decide) (by decide) (by decide)
                  try unfold fM_freed_172
                  try unfold fM_freed_177
                  refine tt_n (ix_ok i103 (by decide) (by decide)) ?_
                  refine tt_ko ?_
                  have k107 := ok_xp (k := 68) (i := x24.toNatClampNeg) (v := (vp_nar .boolean 1)) k80 (iv_nz _)
                  have r108 := fr_xp (k := 68) (i := x24.toNatClampNeg) (v := (vp_nar .boolean 1)) r81 rfl
                  refine tt_kv (P := fun z => ((0 : Int) ≤ z.toInt ∧ z.toInt ≤ 207) ∧ z.toInt = v3.toInt + (-1)) ⟨iv_add i7 (show ((-1) : Int) ≤ ((-1) : Int32).toInt ∧ ((-1) : Int32).toInt ≤ (-1) by decide) (by decide) (by decide) (by decide) (by decide), iq_add i7 (show ((-1) : Int) ≤ ((-1) : Int32).toInt ∧ ((-1) : Int32).toInt ≤ (-1) by decide) (by decide) (by decide)⟩ (fun x109 qi110 => ?_)
                  obtain ⟨i110, ei110⟩ := qi110
                  exact H.2.1 _ _ _ _ k107 r108 i_v1 i_v2 (iv_w (a := 0) (b := 208) (by decide) (by decide) i110) f_o0_0 f_o0_37 f_o0_38 f_o0_43 f_o0_95 (show v1.toInt ≤ (o0.1 39).toInt + (o0.1 43).toInt by omega) (show x109.toInt ≤ v1.toInt by omega) (show 84034 + (x109.toInt - 0) * 2 < (n : Int) by omega)
                · have wc105 : ¬ q104.toInt = (0 : Int) := c_ne c105
                  have i111 : (1 : Int) ≤ q104.toInt ∧ q104.toInt ≤ 1 := nr_nela c105 i_q104 (show (0 : Int) ≤ (0 : Int32).toInt ∧ (0 : Int32).toInt ≤ 0 by decide) (by decide) (by decide)
                  try unfold fM_freed_176
                  try unfold fM_freed_177
                  refine tt_n (ix_ok i103 (by decide) (by decide)) ?_
                  refine tt_ko ?_
                  have k112 := ok_xp (k := 68) (i := x24.toNatClampNeg) (v := (vp_nar .boolean 0)) k80 (iv_nz _)
                  have r113 := fr_xp (k := 68) (i := x24.toNatClampNeg) (v := (vp_nar .boolean 0)) r81 rfl
                  refine tt_kv (P := fun z => ((0 : Int) ≤ z.toInt ∧ z.toInt ≤ 207) ∧ z.toInt = v3.toInt + (-1)) ⟨iv_add i7 (show ((-1) : Int) ≤ ((-1) : Int32).toInt ∧ ((-1) : Int32).toInt ≤ (-1) by decide) (by decide) (by decide) (by decide) (by decide), iq_add i7 (show ((-1) : Int) ≤ ((-1) : Int32).toInt ∧ ((-1) : Int32).toInt ≤ (-1) by decide) (by decide) (by decide)⟩ (fun x114 qi115 => ?_)
                  obtain ⟨i115, ei115⟩ := qi115
                  exact H.2.1 _ _ _ _ k112 r113 i_v1 i_v2 (iv_w (a := 0) (b := 208) (by decide) (by decide) i115) f_o0_0 f_o0_37 f_o0_38 f_o0_43 f_o0_95 (show v1.toInt ≤ (o0.1 39).toInt + (o0.1 43).toInt by omega) (show x114.toInt ≤ v1.toInt by omega) (show 84034 + (x114.toInt - 0) * 2 < (n : Int) by omega)
          · have wc84 : ¬ x82.toInt = (0 : Int) := c_ne c84
            have i116 : (1 : Int) ≤ x82.toInt ∧ x82.toInt ≤ 1 := nr_nela c84 i83 (show (0 : Int) ≤ (0 : Int32).toInt ∧ (0 : Int32).toInt ≤ 0 by decide) (by decide) (by decide)
            try unfold fM_freed_172
            try unfold fM_freed_177
            refine tt_n (ix_ok i25 (by decide) (by decide)) ?_
            refine tt_ko ?_
            have k117 := ok_xp (k := 68) (i := x24.toNatClampNeg) (v := (vp_nar .boolean 1)) k80 (iv_nz _)
            have r118 := fr_xp (k := 68) (i := x24.toNatClampNeg) (v := (vp_nar .boolean 1)) r81 rfl
            refine tt_kv (P := fun z => ((0 : Int) ≤ z.toInt ∧ z.toInt ≤ 207) ∧ z.toInt = v3.toInt + (-1)) ⟨iv_add i7 (show ((-1) : Int) ≤ ((-1) : Int32).toInt ∧ ((-1) : Int32).toInt ≤ (-1) by decide) (by decide) (by decide) (by decide) (by decide), iq_add i7 (show ((-1) : Int) ≤ ((-1) : Int32).toInt ∧ ((-1) : Int32).toInt ≤ (-1) by decide) (by decide) (by decide)⟩ (fun x119 qi120 => ?_)
            obtain ⟨i120, ei120⟩ := qi120
            exact H.2.1 _ _ _ _ k117 r118 i_v1 i_v2 (iv_w (a := 0) (b := 208) (by decide) (by decide) i120) f_o0_0 f_o0_37 f_o0_38 f_o0_43 f_o0_95 (show v1.toInt ≤ (o0.1 39).toInt + (o0.1 43).toInt by omega) (show x119.toInt ≤ v1.toInt by omega) (show 84034 + (x119.toInt - 0) * 2 < (n : Int) by omega)
        · have wc78 : x76.toInt ≤ x15.toInt := c_nlt c78
          have i121 : (1 : Int) ≤ x15.toInt ∧ x15.toInt ≤ 208 := nr_nltr c78 i77 i16 (by decide) (by decide)
          refine tt_b (sM_inCut _ _ _ k_o0 i_v2 i121 f_o0_0 f_o0_37 f_o0_38 f_o0_43 f_o0_95) (fun q122 hq122 => ?_)
          obtain ⟨i_q122, -⟩ := hq122
          refine tt_if (fun c123 => ?_) (fun c123 => ?_)
          · have wc123 : q122.toInt = (0 : Int) := c_eq c123
            have i124 : (0 : Int) ≤ q122.toInt ∧ q122.toInt ≤ 0 := nr_eql c123 i_q122 (show (0 : Int) ≤ (0 : Int32).toInt ∧ (0 : Int32).toInt ≤ 0 by decide) (by decide) (by decide)
            try unfold fM_freed_122
            try unfold fM_freed_127
            refine tt_n (ix_ok i121 (by decide) (by decide)) ?_
            refine tt_ko ?_
            have k125 := ok_xp (k := 68) (i := x15.toNatClampNeg) (v := (vp_nar .boolean 1)) k_o0 (iv_nz _)
            have r126 := fr_xp (k := 68) (i := x15.toNatClampNeg) (v := (vp_nar .boolean 1)) r_o0 rfl
            refine tt_n (ix_ok i25 (by decide) (by decide)) ?_
            refine tt_kv (P := fun z => ((0 : Int) ≤ z.toInt ∧ z.toInt ≤ 1) ∧ z.toInt = (upd (o0.2.1 68) (x15.toNatClampNeg) (vp_nar .boolean 1) x24.toNatClampNeg).toInt) ⟨(k125.2 68 _), rfl⟩ (fun x127 qi128 => ?_)
            obtain ⟨i128, ei128⟩ := qi128
            refine tt_if (fun c129 => ?_) (fun c129 => ?_)
            · have wc129 : x127.toInt = (0 : Int) := c_eq c129
              have i130 : (0 : Int) ≤ x127.toInt ∧ x127.toInt ≤ 0 := nr_eql c129 i128 (show (0 : Int) ≤ (0 : Int32).toInt ∧ (0 : Int32).toInt ≤ 0 by decide) (by decide) (by decide)
              refine tt_n (ix_ok i7 (by decide) (by decide)) ?_
              refine tt_kv (P := fun z => ((0 : Int) ≤ z.toInt ∧ z.toInt ≤ 1) ∧ z.toInt = (upd (o0.2.1 68) (x15.toNatClampNeg) (vp_nar .boolean 1) v3.toNatClampNeg).toInt) ⟨(k125.2 68 _), rfl⟩ (fun x131 qi132 => ?_)
              obtain ⟨i132, ei132⟩ := qi132
              refine tt_if (fun c133 => ?_) (fun c133 => ?_)
              · have wc133 : x131.toInt = (0 : Int) := c_eq c133
                have i134 : (0 : Int) ≤ x131.toInt ∧ x131.toInt ≤ 0 := nr_eql c133 i132 (show (0 : Int) ≤ (0 : Int32).toInt ∧ (0 : Int32).toInt ≤ 0 by decide) (by decide) (by decide)
                try unfold fM_freed_176
                try unfold fM_freed_177
                refine tt_n (ix_ok i25 (by decide) (by decide)) ?_
                refine tt_ko ?_
                have k135 := ok_xp (k := 68) (i := x24.toNatClampNeg) (v := (vp_nar .boolean 0)) k125 (iv_nz _)
                have r136 := fr_xp (k := 68) (i := x24.toNatClampNeg) (v := (vp_nar .boolean 0)) r126 rfl
                refine tt_kv (P := fun z => ((0 : Int) ≤ z.toInt ∧ z.toInt ≤ 207) ∧ z.toInt = v3.toInt + (-1)) ⟨iv_add i7 (show ((-1) : Int) ≤ ((-1) : Int32).toInt ∧ ((-1) : Int32).toInt ≤ (-1) by decide) (by decide) (by decide) (by decide) (by decide), iq_add i7 (show ((-1) : Int) ≤ ((-1) : Int32).toInt ∧ ((-1) : Int32).toInt ≤ (-1) by decide) (by decide) (by decide)⟩ (fun x137 qi138 => ?_)
                obtain ⟨i138, ei138⟩ := qi138
                exact H.2.1 _ _ _ _ k135 r136 i_v1 i_v2 (iv_w (a := 0) (b := 208) (by decide) (by decide) i138) f_o0_0 f_o0_37 f_o0_38 f_o0_43 f_o0_95 (show v1.toInt ≤ (o0.1 39).toInt + (o0.1 43).toInt by omega) (show x137.toInt ≤ v1.toInt by omega) (show 84034 + (x137.toInt - 0) * 2 < (n : Int) by omega)
              · have wc133 : ¬ x131.toInt = (0 : Int) := c_ne c133
                have i139 : (1 : Int) ≤ x131.toInt ∧ x131.toInt ≤ 1 := nr_nela c133 i132 (show (0 : Int) ≤ (0 : Int32).toInt ∧ (0 : Int32).toInt ≤ 0 by decide) (by decide) (by decide)
                try unfold fM_base
                try unfold fM_base_0
                refine tt_bkv (P := fun z => ((1 : Int) ≤ z.toInt ∧ z.toInt ≤ 9) ∧ z.toInt = (o0.1 39).toInt + 1) ⟨iv_add (k_o0.1 39) (show (1 : Int) ≤ (1 : Int32).toInt ∧ (1 : Int32).toInt ≤ 1 by decide) (by decide) (by decide) (by decide) (by decide), iq_add (k_o0.1 39) (show (1 : Int) ≤ (1 : Int32).toInt ∧ (1 : Int32).toInt ≤ 1 by decide) (by decide) (by decide)⟩ (fun x140 qi141 => ?_)
                obtain ⟨i141, ei141⟩ := qi141
                refine tt_bs ?_
                refine tt_if (fun c142 => ?_) (fun c142 => ?_)
                · have wc142 : x24.toInt < x140.toInt := c_lt c142
                  have i143 : (0 : Int) ≤ x24.toInt ∧ x24.toInt ≤ 8 := nr_ltl c142 i25 i141 (by decide) (by decide)
                  try unfold fM_freed_176
                  try unfold fM_freed_177
                  refine tt_n (ix_ok i143 (by decide) (by decide)) ?_
                  refine tt_ko ?_
                  have k144 := ok_xp (k := 68) (i := x24.toNatClampNeg) (v := (vp_nar .boolean 0)) k125 (iv_nz _)
                  have r145 := fr_xp (k := 68) (i := x24.toNatClampNeg) (v := (vp_nar .boolean 0)) r126 rfl
                  refine tt_kv (P := fun z => ((0 : Int) ≤ z.toInt ∧ z.toInt ≤ 207) ∧ z.toInt = v3.toInt + (-1)) ⟨iv_add i7 (show ((-1) : Int) ≤ ((-1) : Int32).toInt ∧ ((-1) : Int32).toInt ≤ (-1) by decide) (by decide) (by decide) (by decide) (by decide), iq_add i7 (show ((-1) : Int) ≤ ((-1) : Int32).toInt ∧ ((-1) : Int32).toInt ≤ (-1) by decide) (by decide) (by decide)⟩ (fun x146 qi147 => ?_)
                  obtain ⟨i147, ei147⟩ := qi147
                  exact H.2.1 _ _ _ _ k144 r145 i_v1 i_v2 (iv_w (a := 0) (b := 208) (by decide) (by decide) i147) f_o0_0 f_o0_37 f_o0_38 f_o0_43 f_o0_95 (show v1.toInt ≤ (o0.1 39).toInt + (o0.1 43).toInt by omega) (show x146.toInt ≤ v1.toInt by omega) (show 84034 + (x146.toInt - 0) * 2 < (n : Int) by omega)
                · have wc142 : x140.toInt ≤ x24.toInt := c_nlt c142
                  have i148 : (1 : Int) ≤ x24.toInt ∧ x24.toInt ≤ 208 := nr_nltr c142 i141 i25 (by decide) (by decide)
                  refine tt_b (sM_inCut _ _ _ k125 i_v2 i148 f_o0_0 f_o0_37 f_o0_38 f_o0_43 f_o0_95) (fun q149 hq149 => ?_)
                  obtain ⟨i_q149, -⟩ := hq149
                  refine tt_if (fun c150 => ?_) (fun c150 => ?_)
                  · have wc150 : q149.toInt = (0 : Int) := c_eq c150
                    have i151 : (0 : Int) ≤ q149.toInt ∧ q149.toInt ≤ 0 := nr_eql c150 i_q149 (show (0 : Int) ≤ (0 : Int32).toInt ∧ (0 : Int32).toInt ≤ 0 by decide) (by decide) (by decide)
                    try unfold fM_freed_172
                    try unfold fM_freed_177
                    refine tt_n (ix_ok i148 (by decide) (by decide)) ?_
                    refine tt_ko ?_
                    have k152 := ok_xp (k := 68) (i := x24.toNatClampNeg) (v := (vp_nar .boolean 1)) k125 (iv_nz _)
                    have r153 := fr_xp (k := 68) (i := x24.toNatClampNeg) (v := (vp_nar .boolean 1)) r126 rfl
                    refine tt_kv (P := fun z => ((0 : Int) ≤ z.toInt ∧ z.toInt ≤ 207) ∧ z.toInt = v3.toInt + (-1)) ⟨iv_add i7 (show ((-1) : Int) ≤ ((-1) : Int32).toInt ∧ ((-1) : Int32).toInt ≤ (-1) by decide) (by decide) (by decide) (by decide) (by decide), iq_add i7 (show ((-1) : Int) ≤ ((-1) : Int32).toInt ∧ ((-1) : Int32).toInt ≤ (-1) by decide) (by decide) (by decide)⟩ (fun x154 qi155 => ?_)
                    obtain ⟨i155, ei155⟩ := qi155
                    exact H.2.1 _ _ _ _ k152 r153 i_v1 i_v2 (iv_w (a := 0) (b := 208) (by decide) (by decide) i155) f_o0_0 f_o0_37 f_o0_38 f_o0_43 f_o0_95 (show v1.toInt ≤ (o0.1 39).toInt + (o0.1 43).toInt by omega) (show x154.toInt ≤ v1.toInt by omega) (show 84034 + (x154.toInt - 0) * 2 < (n : Int) by omega)
                  · have wc150 : ¬ q149.toInt = (0 : Int) := c_ne c150
                    have i156 : (1 : Int) ≤ q149.toInt ∧ q149.toInt ≤ 1 := nr_nela c150 i_q149 (show (0 : Int) ≤ (0 : Int32).toInt ∧ (0 : Int32).toInt ≤ 0 by decide) (by decide) (by decide)
                    try unfold fM_freed_176
                    try unfold fM_freed_177
                    refine tt_n (ix_ok i148 (by decide) (by decide)) ?_
                    refine tt_ko ?_
                    have k157 := ok_xp (k := 68) (i := x24.toNatClampNeg) (v := (vp_nar .boolean 0)) k125 (iv_nz _)
                    have r158 := fr_xp (k := 68) (i := x24.toNatClampNeg) (v := (vp_nar .boolean 0)) r126 rfl
                    refine tt_kv (P := fun z => ((0 : Int) ≤ z.toInt ∧ z.toInt ≤ 207) ∧ z.toInt = v3.toInt + (-1)) ⟨iv_add i7 (show ((-1) : Int) ≤ ((-1) : Int32).toInt ∧ ((-1) : Int32).toInt ≤ (-1) by decide) (by decide) (by decide) (by decide) (by decide), iq_add i7 (show ((-1) : Int) ≤ ((-1) : Int32).toInt ∧ ((-1) : Int32).toInt ≤ (-1) by decide) (by decide) (by decide)⟩ (fun x159 qi160 => ?_)
                    obtain ⟨i160, ei160⟩ := qi160
                    exact H.2.1 _ _ _ _ k157 r158 i_v1 i_v2 (iv_w (a := 0) (b := 208) (by decide) (by decide) i160) f_o0_0 f_o0_37 f_o0_38 f_o0_43 f_o0_95 (show v1.toInt ≤ (o0.1 39).toInt + (o0.1 43).toInt by omega) (show x159.toInt ≤ v1.toInt by omega) (show 84034 + (x159.toInt - 0) * 2 < (n : Int) by omega)
            · have wc129 : ¬ x127.toInt = (0 : Int) := c_ne c129
              have i161 : (1 : Int) ≤ x127.toInt ∧ x127.toInt ≤ 1 := nr_nela c129 i128 (show (0 : Int) ≤ (0 : Int32).toInt ∧ (0 : Int32).toInt ≤ 0 by decide) (by decide) (by decide)
              try unfold fM_freed_172
              try unfold fM_freed_177
              refine tt_n (ix_ok i25 (by decide) (by decide)) ?_
              refine tt_ko ?_
              have k162 := ok_xp (k := 68) (i := x24.toNatClampNeg) (v := (vp_nar .boolean 1)) k125 (iv_nz _)
              have r163 := fr_xp (k := 68) (i := x24.toNatClampNeg) (v := (vp_nar .boolean 1)) r126 rfl
              refine tt_kv (P := fun z => ((0 : Int) ≤ z.toInt ∧ z.toInt ≤ 207) ∧ z.toInt = v3.toInt + (-1)) ⟨iv_add i7 (show ((-1) : Int) ≤ ((-1) : Int32).toInt ∧ ((-1) : Int32).toInt ≤ (-1) by decide) (by decide) (by decide) (by decide) (by decide), iq_add i7 (show ((-1) : Int) ≤ ((-1) : Int32).toInt ∧ ((-1) : Int32).toInt ≤ (-1) by decide) (by decide) (by decide)⟩ (fun x164 qi165 => ?_)
              obtain ⟨i165, ei165⟩ := qi165
              exact H.2.1 _ _ _ _ k162 r163 i_v1 i_v2 (iv_w (a := 0) (b := 208) (by decide) (by decide) i165) f_o0_0 f_o0_37 f_o0_38 f_o0_43 f_o0_95 (show v1.toInt ≤ (o0.1 39).toInt + (o0.1 43).toInt by omega) (show x164.toInt ≤ v1.toInt by omega) (show 84034 + (x164.toInt - 0) * 2 < (n : Int) by omega)
          · have wc123 : ¬ q122.toInt = (0 : Int) := c_ne c123
            have i166 : (1 : Int) ≤ q122.toInt ∧ q122.toInt ≤ 1 := nr_nela c123 i_q122 (show (0 : Int) ≤ (0 : Int32).toInt ∧ (0 : Int32).toInt ≤ 0 by decide) (by decide) (by decide)
            try unfold fM_freed_126
            try unfold fM_freed_127
            refine tt_n (ix_ok i121 (by decide) (by decide)) ?_
            refine tt_ko ?_
            have k167 := ok_xp (k := 68) (i := x15.toNatClampNeg) (v := (vp_nar .boolean 0)) k_o0 (iv_nz _)
            have r168 := fr_xp (k := 68) (i := x15.toNatClampNeg) (v := (vp_nar .boolean 0)) r_o0 rfl
            refine tt_n (ix_ok i25 (by decide) (by decide)) ?_
            refine tt_kv (P := fun z => ((0 : Int) ≤ z.toInt ∧ z.toInt ≤ 1) ∧ z.toInt = (upd (o0.2.1 68) (x15.toNatClampNeg) (vp_nar .boolean 0) x24.toNatClampNeg).toInt) ⟨(k167.2 68 _), rfl⟩ (fun x169 qi170 => ?_)
            obtain ⟨i170, ei170⟩ := qi170
            refine tt_if (fun c171 => ?_) (fun c171 => ?_)
            · have wc171 : x169.toInt = (0 : Int) := c_eq c171
              have i172 : (0 : Int) ≤ x169.toInt ∧ x169.toInt ≤ 0 := nr_eql c171 i170 (show (0 : Int) ≤ (0 : Int32).toInt ∧ (0 : Int32).toInt ≤ 0 by decide) (by decide) (by decide)
              refine tt_n (ix_ok i7 (by decide) (by decide)) ?_
              refine tt_kv (P := fun z => ((0 : Int) ≤ z.toInt ∧ z.toInt ≤ 1) ∧ z.toInt = (upd (o0.2.1 68) (x15.toNatClampNeg) (vp_nar .boolean 0) v3.toNatClampNeg).toInt) ⟨(k167.2 68 _), rfl⟩ (fun x173 qi174 => ?_)
              obtain ⟨i174, ei174⟩ := qi174
              refine tt_if (fun c175 => ?_) (fun c175 => ?_)
              · have wc175 : x173.toInt = (0 : Int) := c_eq c175
                have i176 : (0 : Int) ≤ x173.toInt ∧ x173.toInt ≤ 0 := nr_eql c175 i174 (show (0 : Int) ≤ (0 : Int32).toInt ∧ (0 : Int32).toInt ≤ 0 by decide) (by decide) (by decide)
                try unfold fM_freed_176
                try unfold fM_freed_177
                refine tt_n (ix_ok i25 (by decide) (by decide)) ?_
                refine tt_ko ?_
                have k177 := ok_xp (k := 68) (i := x24.toNatClampNeg) (v := (vp_nar .boolean 0)) k167 (iv_nz _)
                have r178 := fr_xp (k := 68) (i := x24.toNatClampNeg) (v := (vp_nar .boolean 0)) r168 rfl
                refine tt_kv (P := fun z => ((0 : Int) ≤ z.toInt ∧ z.toInt ≤ 207) ∧ z.toInt = v3.toInt + (-1)) ⟨iv_add i7 (show ((-1) : Int) ≤ ((-1) : Int32).toInt ∧ ((-1) : Int32).toInt ≤ (-1) by decide) (by decide) (by decide) (by decide) (by decide), iq_add i7 (show ((-1) : Int) ≤ ((-1) : Int32).toInt ∧ ((-1) : Int32).toInt ≤ (-1) by decide) (by decide) (by decide)⟩ (fun x179 qi180 => ?_)
                obtain ⟨i180, ei180⟩ := qi180
                exact H.2.1 _ _ _ _ k177 r178 i_v1 i_v2 (iv_w (a := 0) (b := 208) (by decide) (by decide) i180) f_o0_0 f_o0_37 f_o0_38 f_o0_43 f_o0_95 (show v1.toInt ≤ (o0.1 39).toInt + (o0.1 43).toInt by omega) (show x179.toInt ≤ v1.toInt by omega) (show 84034 + (x179.toInt - 0) * 2 < (n : Int) by omega)
              · have wc175 : ¬ x173.toInt = (0 : Int) := c_ne c175
                have i181 : (1 : Int) ≤ x173.toInt ∧ x173.toInt ≤ 1 := nr_nela c175 i174 (show (0 : Int) ≤ (0 : Int32).toInt ∧ (0 : Int32).toInt ≤ 0 by decide) (by decide) (by decide)
                try unfold fM_base
                try unfold fM_base_0
                refine tt_bkv (P := fun z => ((1 : Int) ≤ z.toInt ∧ z.toInt ≤ 9) ∧ z.toInt = (o0.1 39).toInt + 1) ⟨iv_add (k_o0.1 39) (show (1 : Int) ≤ (1 : Int32).toInt ∧ (1 : Int32).toInt ≤ 1 by decide) (by decide) (by decide) (by decide) (by decide), iq_add (k_o0.1 39) (show (1 : Int) ≤ (1 : Int32).toInt ∧ (1 : Int32).toInt ≤ 1 by decide) (by decide) (by decide)⟩ (fun x182 qi183 => ?_)
                obtain ⟨i183, ei183⟩ := qi183
                refine tt_bs ?_
                refine tt_if (fun c184 => ?_) (fun c184 => ?_)
                · have wc184 : x24.toInt < x182.toInt := c_lt c184
                  have i185 : (0 : Int) ≤ x24.toInt ∧ x24.toInt ≤ 8 := nr_ltl c184 i25 i183 (by decide) (by decide)
                  try unfold fM_freed_176
                  try unfold fM_freed_177
                  refine tt_n (ix_ok i185 (by decide) (by decide)) ?_
                  refine tt_ko ?_
                  have k186 := ok_xp (k := 68) (i := x24.toNatClampNeg) (v := (vp_nar .boolean 0)) k167 (iv_nz _)
                  have r187 := fr_xp (k := 68) (i := x24.toNatClampNeg) (v := (vp_nar .boolean 0)) r168 rfl
                  refine tt_kv (P := fun z => ((0 : Int) ≤ z.toInt ∧ z.toInt ≤ 207) ∧ z.toInt = v3.toInt + (-1)) ⟨iv_add i7 (show ((-1) : Int) ≤ ((-1) : Int32).toInt ∧ ((-1) : Int32).toInt ≤ (-1) by decide) (by decide) (by decide) (by decide) (by decide), iq_add i7 (show ((-1) : Int) ≤ ((-1) : Int32).toInt ∧ ((-1) : Int32).toInt ≤ (-1) by decide) (by decide) (by decide)⟩ (fun x188 qi189 => ?_)
                  obtain ⟨i189, ei189⟩ := qi189
                  exact H.2.1 _ _ _ _ k186 r187 i_v1 i_v2 (iv_w (a := 0) (b := 208) (by decide) (by decide) i189) f_o0_0 f_o0_37 f_o0_38 f_o0_43 f_o0_95 (show v1.toInt ≤ (o0.1 39).toInt + (o0.1 43).toInt by omega) (show x188.toInt ≤ v1.toInt by omega) (show 84034 + (x188.toInt - 0) * 2 < (n : Int) by omega)
                · have wc184 : x182.toInt ≤ x24.toInt := c_nlt c184
                  have i190 : (1 : Int) ≤ x24.toInt ∧ x24.toInt ≤ 208 := nr_nltr c184 i183 i25 (by decide) (by decide)
                  refine tt_b (sM_inCut _ _ _ k167 i_v2 i190 f_o0_0 f_o0_37 f_o0_38 f_o0_43 f_o0_95) (fun q191 hq191 => ?_)
                  obtain ⟨i_q191, -⟩ := hq191
                  refine tt_if (fun c192 => ?_) (fun c192 => ?_)
                  · have wc192 : q191.toInt = (0 : Int) := c_eq c192
                    have i193 : (0 : Int) ≤ q191.toInt ∧ q191.toInt ≤ 0 := nr_eql c192 i_q191 (show (0 : Int) ≤ (0 : Int32).toInt ∧ (0 : Int32).toInt ≤ 0 by decide) (by decide) (by decide)
                    try unfold fM_freed_172
                    try unfold fM_freed_177
                    refine tt_n (ix_ok i190 (by decide) (by decide)) ?_
                    refine tt_ko ?_
                    have k194 := ok_xp (k := 68) (i := x24.toNatClampNeg) (v := (vp_nar .boolean 1)) k167 (iv_nz _)
                    have r195 := fr_xp (k := 68) (i := x24.toNatClampNeg) (v := (vp_nar .boolean 1)) r168 rfl
                    refine tt_kv (P := fun z => ((0 : Int) ≤ z.toInt ∧ z.toInt ≤ 207) ∧ z.toInt = v3.toInt + (-1)) ⟨iv_add i7 (show ((-1) : Int) ≤ ((-1) : Int32).toInt ∧ ((-1) : Int32).toInt ≤ (-1) by decide) (by decide) (by decide) (by decide) (by decide), iq_add i7 (show ((-1) : Int) ≤ ((-1) : Int32).toInt ∧ ((-1) : Int32).toInt ≤ (-1) by decide) (by decide) (by decide)⟩ (fun x196 qi197 => ?_)
                    obtain ⟨i197, ei197⟩ := qi197
                    exact H.2.1 _ _ _ _ k194 r195 i_v1 i_v2 (iv_w (a := 0) (b := 208) (by decide) (by decide) i197) f_o0_0 f_o0_37 f_o0_38 f_o0_43 f_o0_95 (show v1.toInt ≤ (o0.1 39).toInt + (o0.1 43).toInt by omega) (show x196.toInt ≤ v1.toInt by omega) (show 84034 + (x196.toInt - 0) * 2 < (n : Int) by omega)
                  · have wc192 : ¬ q191.toInt = (0 : Int) := c_ne c192
                    have i198 : (1 : Int) ≤ q191.toInt ∧ q191.toInt ≤ 1 := nr_nela c192 i_q191 (show (0 : Int) ≤ (0 : Int32).toInt ∧ (0 : Int32).toInt ≤ 0 by decide) (by decide) (by decide)
                    try unfold fM_freed_176
                    try unfold fM_freed_177
                    refine tt_n (ix_ok i190 (by decide) (by decide)) ?_
                    refine tt_ko ?_
                    have k199 := ok_xp (k := 68) (i := x24.toNatClampNeg) (v := (vp_nar .boolean 0)) k167 (iv_nz _)
                    have r200 := fr_xp (k := 68) (i := x24.toNatClampNeg) (v := (vp_nar .boolean 0)) r168 rfl
                    refine tt_kv (P := fun z => ((0 : Int) ≤ z.toInt ∧ z.toInt ≤ 207) ∧ z.toInt = v3.toInt + (-1)) ⟨iv_add i7 (show ((-1) : Int) ≤ ((-1) : Int32).toInt ∧ ((-1) : Int32).toInt ≤ (-1) by decide) (by decide) (by decide) (by decide) (by decide), iq_add i7 (show ((-1) : Int) ≤ ((-1) : Int32).toInt ∧ ((-1) : Int32).toInt ≤ (-1) by decide) (by decide) (by decide)⟩ (fun x201 qi202 => ?_)
                    obtain ⟨i202, ei202⟩ := qi202
                    exact H.2.1 _ _ _ _ k199 r200 i_v1 i_v2 (iv_w (a := 0) (b := 208) (by decide) (by decide) i202) f_o0_0 f_o0_37 f_o0_38 f_o0_43 f_o0_95 (show v1.toInt ≤ (o0.1 39).toInt + (o0.1 43).toInt by omega) (show x201.toInt ≤ v1.toInt by omega) (show 84034 + (x201.toInt - 0) * 2 < (n : Int) by omega)
            · have wc171 : ¬ x169.toInt = (0 : Int) := c_ne c171
              have i203 : (1 : Int) ≤ x169.toInt ∧ x169.toInt ≤ 1 := nr_nela c171 i170 (show (0 : Int) ≤ (0 : Int32).toInt ∧ (0 : Int32).toInt ≤ 0 by decide) (by decide) (by decide)
              try unfold fM_freed_172
              try unfold fM_freed_177
              refine tt_n (ix_ok i25 (by decide) (by decide)) ?_
              refine tt_ko ?_
              have k204 := ok_xp (k := 68) (i := x24.toNatClampNeg) (v := (vp_nar .boolean 1)) k167 (iv_nz _)
              have r205 := fr_xp (k := 68) (i := x24.toNatClampNeg) (v := (vp_nar .boolean 1)) r168 rfl
              refine tt_kv (P := fun z => ((0 : Int) ≤ z.toInt ∧ z.toInt ≤ 207) ∧ z.toInt = v3.toInt + (-1)) ⟨iv_add i7 (show ((-1) : Int) ≤ ((-1) : Int32).toInt ∧ ((-1) : Int32).toInt ≤ (-1) by decide) (by decide) (by decide) (by decide) (by decide), iq_add i7 (show ((-1) : Int) ≤ ((-1) : Int32).toInt ∧ ((-1) : Int32).toInt ≤ (-1) by decide) (by decide) (by decide)⟩ (fun x206 qi207 => ?_)
              obtain ⟨i207, ei207⟩ := qi207
              exact H.2.1 _ _ _ _ k204 r205 i_v1 i_v2 (iv_w (a := 0) (b := 208) (by decide) (by decide) i207) f_o0_0 f_o0_37 f_o0_38 f_o0_43 f_o0_95 (show v1.toInt ≤ (o0.1 39).toInt + (o0.1 43).toInt by omega) (show x206.toInt ≤ v1.toInt by omega) (show 84034 + (x206.toInt - 0) * 2 < (n : Int) by omega)
    · have wc28 : ¬ x26.toInt = (0 : Int) := c_ne c28
      have i208 : (1 : Int) ≤ x26.toInt ∧ x26.toInt ≤ 1 := nr_nela c28 i27 (show (0 : Int) ≤ (0 : Int32).toInt ∧ (0 : Int32).toInt ≤ 0 by decide) (by decide) (by decide)
      try unfold fM_freed_122
      try unfold fM_freed_127
      refine tt_n (ix_ok i16 (by decide) (by decide)) ?_
      refine tt_ko ?_
      have k209 := ok_xp (k := 68) (i := x15.toNatClampNeg) (v := (vp_nar .boolean 1)) k_o0 (iv_nz _)
      have r210 := fr_xp (k := 68) (i := x15.toNatClampNeg) (v := (vp_nar .boolean 1)) r_o0 rfl
      refine tt_n (ix_ok i25 (by decide) (by decide)) ?_
      refine tt_kv (P := fun z => ((0 : Int) ≤ z.toInt ∧ z.toInt ≤ 1) ∧ z.toInt = (upd (o0.2.1 68) (x15.toNatClampNeg) (vp_nar .boolean 1) x24.toNatClampNeg).toInt) ⟨(k209.2 68 _), rfl⟩ (fun x211 qi212 => ?_)
      obtain ⟨i212, ei212⟩ := qi212
      refine tt_if (fun c213 => ?_) (fun c213 => ?_)
      · have wc213 : x211.toInt = (0 : Int) := c_eq c213
        have i214 : (0 : Int) ≤ x211.toInt ∧ x211.toInt ≤ 0 := nr_eql c213 i212 (show (0 : Int) ≤ (0 : Int32).toInt ∧ (0 : Int32).toInt ≤ 0 by decide) (by decide) (by decide)
        refine tt_n (ix_ok i7 (by decide) (by decide)) ?_
        refine tt_kv (P := fun z => ((0 : Int) ≤ z.toInt ∧ z.toInt ≤ 1) ∧ z.toInt = (upd (o0.2.1 68) (x15.toNatClampNeg) (vp_nar .boolean 1) v3.toNatClampNeg).toInt) ⟨(k209.2 68 _), rfl⟩ (fun x215 qi216 => ?_)
        obtain ⟨i216, ei216⟩ := qi216
        refine tt_if (fun c217 => ?_) (fun c217 => ?_)
        · have wc217 : x215.toInt = (0 : Int) := c_eq c217
          have i218 : (0 : Int) ≤ x215.toInt ∧ x215.toInt ≤ 0 := nr_eql c217 i216 (show (0 : Int) ≤ (0 : Int32).toInt ∧ (0 : Int32).toInt ≤ 0 by decide) (by decide) (by decide)
          try unfold fM_freed_176
          try unfold fM_freed_177
          refine tt_n (ix_ok i25 (by decide) (by decide)) ?_
          refine tt_ko ?_
          have k219 := ok_xp (k := 68) (i := x24.toNatClampNeg) (v := (vp_nar .boolean 0)) k209 (iv_nz _)
          have r220 := fr_xp (k := 68) (i := x24.toNatClampNeg) (v := (vp_nar .boolean 0)) r210 rfl
          refine tt_kv (P := fun z => ((0 : Int) ≤ z.toInt ∧ z.toInt ≤ 207) ∧ z.toInt = v3.toInt + (-1)) ⟨iv_add i7 (show ((-1) : Int) ≤ ((-1) : Int32).toInt ∧ ((-1) : Int32).toInt ≤ (-1) by decide) (by decide) (by decide) (by decide) (by decide), iq_add i7 (show ((-1) : Int) ≤ ((-1) : Int32).toInt ∧ ((-1) : Int32).toInt ≤ (-1) by decide) (by decide) (by decide)⟩ (fun x221 qi222 => ?_)
          obtain ⟨i222, ei222⟩ := qi222
          exact H.2.1 _ _ _ _ k219 r220 i_v1 i_v2 (iv_w (a := 0) (b := 208) (by decide) (by decide) i222) f_o0_0 f_o0_37 f_o0_38 f_o0_43 f_o0_95 (show v1.toInt ≤ (o0.1 39).toInt + (o0.1 43).toInt by omega) (show x221.toInt ≤ v1.toInt by omega) (show 84034 + (x221.toInt - 0) * 2 < (n : Int) by omega)
        · have wc217 : ¬ x215.toInt = (0 : Int) := c_ne c217
          have i223 : (1 : Int) ≤ x215.toInt ∧ x215.toInt ≤ 1 := nr_nela c217 i216 (show (0 : Int) ≤ (0 : Int32).toInt ∧ (0 : Int32).toInt ≤ 0 by decide) (by decide) (by decide)
          try unfold fM_base
          try unfold fM_base_0
          refine tt_bkv (P := fun z => ((1 : Int) ≤ z.toInt ∧ z.toInt ≤ 9) ∧ z.toInt = (o0.1 39).toInt + 1) ⟨iv_add (k_o0.1 39) (show (1 : Int) ≤ (1 : Int32).toInt ∧ (1 : Int32).toInt ≤ 1 by decide) (by decide) (by decide) (by decide) (by decide), iq_add (k_o0.1 39) (show (1 : Int) ≤ (1 : Int32).toInt ∧ (1 : Int32).toInt ≤ 1 by decide) (by decide) (by decide)⟩ (fun x224 qi225 => ?_)
          obtain ⟨i225, ei225⟩ := qi225
          refine tt_bs ?_
          refine tt_if (fun c226 => ?_) (fun c226 => ?_)
          · have wc226 : x24.toInt < x224.toInt := c_lt c226
            have i227 : (0 : Int) ≤ x24.toInt ∧ x24.toInt ≤ 8 := nr_ltl c226 i25 i225 (by decide) (by decide)
            try unfold fM_freed_176
            try unfold fM_freed_177
            refine tt_n (ix_ok i227 (by decide) (by decide)) ?_
            refine tt_ko ?_
            have k228 := ok_xp (k := 68) (i := x24.toNatClampNeg) (v := (vp_nar .boolean 0)) k209 (iv_nz _)
            have r229 := fr_xp (k := 68) (i := x24.toNatClampNeg) (v := (vp_nar .boolean 0)) r210 rfl
            refine tt_kv (P := fun z => ((0 : Int) ≤ z.toInt ∧ z.toInt ≤ 207) ∧ z.toInt = v3.toInt + (-1)) ⟨iv_add i7 (show ((-1) : Int) ≤ ((-1) : Int32).toInt ∧ ((-1) : Int32).toInt ≤ (-1) by decide) (by decide) (by decide) (by decide) (by decide), iq_add i7 (show ((-1) : Int) ≤ ((-1) : Int32).toInt ∧ ((-1) : Int32).toInt ≤ (-1) by decide) (by decide) (by decide)⟩ (fun x230 qi231 => ?_)
            obtain ⟨i231, ei231⟩ := qi231
            exact H.2.1 _ _ _ _ k228 r229 i_v1 i_v2 (iv_w (a := 0) (b := 208) (by decide) (by decide) i231) f_o0_0 f_o0_37 f_o0_38 f_o0_43 f_o0_95 (show v1.toInt ≤ (o0.1 39).toInt + (o0.1 43).toInt by omega) (show x230.toInt ≤ v1.toInt by omega) (show 84034 + (x230.toInt - 0) * 2 < (n : Int) by omega)
          · have wc226 : x224.toInt ≤ x24.toInt := c_nlt c226
            have i232 : (1 : Int) ≤ x24.toInt ∧ x24.toInt ≤ 208 := nr_nltr c226 i225 i25 (by decide) (by decide)
            refine tt_b (sM_inCut _ _ _ k209 i_v2 i232 f_o0_0 f_o0_37 f_o0_38 f_o0_43 f_o0_95) (fun q233 hq233 => ?_)
            obtain ⟨i_q233, -⟩ := hq233
            refine tt_if (fun c234 => ?_) (fun c234 => ?_)
            · have wc234 : q233.toInt = (0 : Int) := c_eq c234
              have i235 : (0 : Int) ≤ q233.toInt ∧ q233.toInt ≤ 0 := nr_eql c234 i_q233 (show (0 : Int) ≤ (0 : Int32).toInt ∧ (0 : Int32).toInt ≤ 0 by decide) (by decide) (by decide)
              try unfold fM_freed_172
              try unfold fM_freed_177
              refine tt_n (ix_ok i232 (by decide) (by decide)) ?_
              refine tt_ko ?_
              have k236 := ok_xp (k := 68) (i := x24.toNatClampNeg) (v := (vp_nar .boolean 1)) k209 (iv_nz _)
              have r237 := fr_xp (k := 68) (i := x24.toNatClampNeg) (v := (vp_nar .boolean 1)) r210 rfl
              refine tt_kv (P := fun z => ((0 : Int) ≤ z.toInt ∧ z.toInt ≤ 207) ∧ z.toInt = v3.toInt + (-1)) ⟨iv_add i7 (show ((-1) : Int) ≤ ((-1) : Int32).toInt ∧ ((-1) : Int32).toInt ≤ (-1) by decide) (by decide) (by decide) (by decide) (by decide), iq_add i7 (show ((-1) : Int) ≤ ((-1) : Int32).toInt ∧ ((-1) : Int32).toInt ≤ (-1) by decide) (by decide) (by decide)⟩ (fun x238 qi239 => ?_)
              obtain ⟨i239, ei239⟩ := qi239
              exact H.2.1 _ _ _ _ k236 r237 i_v1 i_v2 (iv_w (a := 0) (b := 208) (by decide) (by decide) i239) f_o0_0 f_o0_37 f_o0_38 f_o0_43 f_o0_95 (show v1.toInt ≤ (o0.1 39).toInt + (o0.1 43).toInt by omega) (show x238.toInt ≤ v1.toInt by omega) (show 84034 + (x238.toInt - 0) * 2 < (n : Int) by omega)
            · have wc234 : ¬ q233.toInt = (0 : Int) := c_ne c234
              have i240 : (1 : Int) ≤ q233.toInt ∧ q233.toInt ≤ 1 := nr_nela c234 i_q233 (show (0 : Int) ≤ (0 : Int32).toInt ∧ (0 : Int32).toInt ≤ 0 by decide) (by decide) (by decide)
              try unfold fM_freed_176
              try unfold fM_freed_177
              refine tt_n (ix_ok i232 (by decide) (by decide)) ?_
              refine tt_ko ?_
              have k241 := ok_xp (k := 68) (i := x24.toNatClampNeg) (v := (vp_nar .boolean 0)) k209 (iv_nz _)
              have r242 := fr_xp (k := 68) (i := x24.toNatClampNeg) (v := (vp_nar .boolean 0)) r210 rfl
              refine tt_kv (P := fun z => ((0 : Int) ≤ z.toInt ∧ z.toInt ≤ 207) ∧ z.toInt = v3.toInt + (-1)) ⟨iv_add i7 (show ((-1) : Int) ≤ ((-1) : Int32).toInt ∧ ((-1) : Int32).toInt ≤ (-1) by decide) (by decide) (by decide) (by decide) (by decide), iq_add i7 (show ((-1) : Int) ≤ ((-1) : Int32).toInt ∧ ((-1) : Int32).toInt ≤ (-1) by decide) (by decide) (by decide)⟩ (fun x243 qi244 => ?_)
              obtain ⟨i244, ei244⟩ := qi244
              exact H.2.1 _ _ _ _ k241 r242 i_v1 i_v2 (iv_w (a := 0) (b := 208) (by decide) (by decide) i244) f_o0_0 f_o0_37 f_o0_38 f_o0_43 f_o0_95 (show v1.toInt ≤ (o0.1 39).toInt + (o0.1 43).toInt by omega) (show x243.toInt ≤ v1.toInt by omega) (show 84034 + (x243.toInt - 0) * 2 < (n : Int) by omega)
      · have wc213 : ¬ x211.toInt = (0 : Int) := c_ne c213
        have i245 : (1 : Int) ≤ x211.toInt ∧ x211.toInt ≤ 1 := nr_nela c213 i212 (show (0 : Int) ≤ (0 : Int32).toInt ∧ (0 : Int32).toInt ≤ 0 by decide) (by decide) (by decide)
        try unfold fM_freed_172
        try unfold fM_freed_177
        refine tt_n (ix_ok i25 (by decide) (by decide)) ?_
        refine tt_ko ?_
        have k246 := ok_xp (k := 68) (i := x24.toNatClampNeg) (v := (vp_nar .boolean 1)) k209 (iv_nz _)
        have r247 := fr_xp (k := 68) (i := x24.toNatClampNeg) (v := (vp_nar .boolean 1)) r210 rfl
        refine tt_kv (P := fun z => ((0 : Int) ≤ z.toInt ∧ z.toInt ≤ 207) ∧ z.toInt = v3.toInt + (-1)) ⟨iv_add i7 (show ((-1) : Int) ≤ ((-1) : Int32).toInt ∧ ((-1) : Int32).toInt ≤ (-1) by decide) (by decide) (by decide) (by decide) (by decide), iq_add i7 (show ((-1) : Int) ≤ ((-1) : Int32).toInt ∧ ((-1) : Int32).toInt ≤ (-1) by decide) (by decide) (by decide)⟩ (fun x248 qi249 => ?_)
        obtain ⟨i249, ei249⟩ := qi249
        exact H.2.1 _ _ _ _ k246 r247 i_v1 i_v2 (iv_w (a := 0) (b := 208) (by decide) (by decide) i249) f_o0_0 f_o0_37 f_o0_38 f_o0_43 f_o0_95 (show v1.toInt ≤ (o0.1 39).toInt + (o0.1 43).toInt by omega) (show x248.toInt ≤ v1.toInt by omega) (show 84034 + (x248.toInt - 0) * 2 < (n : Int) by omega)
set_option maxHeartbeats 4000000 in
set_option maxRecDepth 100000 in
theorem tM_freed_9 {yv1 : Int32} {yo0 : cf_O} {n : Nat} (H : HM_freed yv1 yo0 n) (v1 : Int32) (v2 : Int32) (v3 : Int32) (o0 : cf_O) (k_o0 : okO I_M o0) (r_o0 : Fr (fr_M [] [68] []) yo0 o0) (i_v1 : (1 : Int) ≤ v1.toInt ∧ v1.toInt ≤ 208) (i_v2 : (0 : Int) ≤ v2.toInt ∧ v2.toInt ≤ 63209) (i_v3 : (0 : Int) ≤ v3.toInt ∧ v3.toInt ≤ 210) (f_o0_0 : (0 : Int) ≤ (o0.1 0).toInt ∧ (o0.1 0).toInt ≤ 0) (f_o0_37 : (1 : Int) ≤ (o0.1 37).toInt ∧ (o0.1 37).toInt ≤ 9) (f_o0_38 : (1 : Int) ≤ (o0.1 38).toInt ∧ (o0.1 38).toInt ≤ 1) (f_o0_43 : (1 : Int) ≤ (o0.1 43).toInt ∧ (o0.1 43).toInt ≤ 200) (f_o0_95 : (0 : Int) ≤ (o0.1 95).toInt ∧ (o0.1 95).toInt ≤ 0) (x_0 : v1.toInt ≤ (o0.1 39).toInt + (o0.1 43).toInt) (hm : 84452 + (210 - v3.toInt) * 2 ≤ (n : Int)) : tt (fM_freed_9 (gM_freed n) v1 v2 v3 o0) (QM_freed yv1 yo0) := by
  unfold fM_freed_9
  have g_o0_39 : (0 : Int) ≤ (o0.1 39).toInt ∧ (o0.1 39).toInt ≤ 8 := k_o0.1 39
  have ey_o0_39 : (o0.1 39).toInt = (yo0.1 39).toInt := congrArg Int32.toInt (r_o0.1 39 rfl)
  have ey_o0_43 : (o0.1 43).toInt = (yo0.1 43).toInt := congrArg Int32.toInt (r_o0.1 43 rfl)
  refine tt_if (fun c1 => ?_) (fun c1 => ?_)
  · have wc1 : (210 : Int) ≤ v3.toInt := c_le c1
    have i2 : (210 : Int) ≤ v3.toInt ∧ v3.toInt ≤ 210 := nr_ler c1 (show (210 : Int) ≤ (210 : Int32).toInt ∧ (210 : Int32).toInt ≤ 210 by decide) i_v3 (by decide) (by decide)
    exact H.2.1 _ _ _ _ k_o0 r_o0 i_v1 i_v2 (iv_w (a := 0) (b := 208) (by decide) (by decide) i_v1) f_o0_0 f_o0_37 f_o0_38 f_o0_43 f_o0_95 (show v1.toInt ≤ (o0.1 39).toInt + (o0.1 43).toInt by omega) (show v1.toInt ≤ v1.toInt by omega) (show 84034 + (v1.toInt - 0) * 2 < (n : Int) by omega)
  · have wc1 : v3.toInt < (210 : Int) := c_nle c1
    have i3 : (0 : Int) ≤ v3.toInt ∧ v3.toInt ≤ 209 := nr_nlel c1 i_v3 (show (210 : Int) ≤ (210 : Int32).toInt ∧ (210 : Int32).toInt ≤ 210 by decide) (by decide) (by decide)
    refine tt_if (fun c4 => ?_) (fun c4 => ?_)
    · have wc4 : v3.toInt = v1.toInt := c_eq c4
      have i5 : (1 : Int) ≤ v3.toInt ∧ v3.toInt ≤ 208 := nr_eql c4 i3 i_v1 (by decide) (by decide)
      try unfold fM_freed_31
      refine tt_n (ix_ok i5 (by decide) (by decide)) ?_
      refine tt_ko ?_
      have k6 := ok_xp (k := 68) (i := v3.toNatClampNeg) (v := (vp_nar .boolean 1)) k_o0 (iv_nz _)
      have r7 := fr_xp (k := 68) (i := v3.toNatClampNeg) (v := (vp_nar .boolean 1)) r_o0 rfl
      refine tt_kv (P := fun z => ((2 : Int) ≤ z.toInt ∧ z.toInt ≤ 209) ∧ z.toInt = v3.toInt + 1) ⟨iv_add i5 (show (1 : Int) ≤ (1 : Int32).toInt ∧ (1 : Int32).toInt ≤ 1 by decide) (by decide) (by decide) (by decide) (by decide), iq_add i5 (show (1 : Int) ≤ (1 : Int32).toInt ∧ (1 : Int32).toInt ≤ 1 by decide) (by decide) (by decide)⟩ (fun x8 qi9 => ?_)
      obtain ⟨i9, ei9⟩ := qi9
      exact H.1 _ _ _ _ k6 r7 i_v1 i_v2 (iv_w (a := 0) (b := 210) (by decide) (by decide) i9) f_o0_0 f_o0_37 f_o0_38 f_o0_43 f_o0_95 (show v1.toInt ≤ (o0.1 39).toInt + (o0.1 43).toInt by omega) (show 84452 + (210 - x8.toInt) * 2 < (n : Int) by omega)
    · have wc4 : ¬ v3.toInt = v1.toInt := c_ne c4
      try unfold fM_freed_31
      refine tt_n (ix_ok i3 (by decide) (by decide)) ?_
      refine tt_ko ?_
      have k10 := ok_xp (k := 68) (i := v3.toNatClampNeg) (v := (vp_nar .boolean 0)) k_o0 (iv_nz _)
      have r11 := fr_xp (k := 68) (i := v3.toNatClampNeg) (v := (vp_nar .boolean 0)) r_o0 rfl
      refine tt_kv (P := fun z => ((1 : Int) ≤ z.toInt ∧ z.toInt ≤ 210) ∧ z.toInt = v3.toInt + 1) ⟨iv_add i3 (show (1 : Int) ≤ (1 : Int32).toInt ∧ (1 : Int32).toInt ≤ 1 by decide) (by decide) (by decide) (by decide) (by decide), iq_add i3 (show (1 : Int) ≤ (1 : Int32).toInt ∧ (1 : Int32).toInt ≤ 1 by decide) (by decide) (by decide)⟩ (fun x12 qi13 => ?_)
      obtain ⟨i13, ei13⟩ := qi13
      exact H.1 _ _ _ _ k10 r11 i_v1 i_v2 (iv_w (a := 0) (b := 210) (by decide) (by decide) i13) f_o0_0 f_o0_37 f_o0_38 f_o0_43 f_o0_95 (show v1.toInt ≤ (o0.1 39).toInt + (o0.1 43).toInt by omega) (show 84452 + (210 - x12.toInt) * 2 < (n : Int) by omega)
set_option maxHeartbeats 4000000 in
set_option maxRecDepth 100000 in
theorem hM_freed (yv1 : Int32) (yo0 : cf_O) : ∀ n, HM_freed yv1 yo0 n := by
  intro n
  induction n with
  | zero => exact ⟨(fun v1 v2 v3 o0 k_o0 r_o0 i_v1 i_v2 i_v3 f_o0_0 f_o0_37 f_o0_38 f_o0_43 f_o0_95 x_0 hm => by exact absurd (show 84452 + (210 - v3.toInt) * 2 < (0 : Int) from hm) (by omega)), (fun v1 v2 v3 o0 k_o0 r_o0 i_v1 i_v2 i_v3 f_o0_0 f_o0_37 f_o0_38 f_o0_43 f_o0_95 x_0 x_1 hm => by exact absurd (show 84034 + (v3.toInt - 0) * 2 < (0 : Int) from hm) (by omega)), (fun v1 v3 v4 o0 k_o0 r_o0 i_v1 i_v4 f_o0_0 f_o0_37 f_o0_38 f_o0_43 f_o0_95 hm => by exact absurd (show 0 + (209 - v4.toInt) * 404 < (0 : Int) from hm) (by omega)), (fun v1 v3 v4 v5 v6 o0 k_o0 r_o0 i_v1 i_v4 i_v6 f_o0_0 f_o0_37 f_o0_38 f_o0_43 f_o0_95 hm => by exact absurd (show 0 + (209 - v4.toInt - 1) * 404 + 1 + (200 - v6.toInt) * 2 < (0 : Int) from hm) (by omega))⟩
  | succ n ih => exact ⟨(fun v1 v2 v3 o0 k_o0 r_o0 i_v1 i_v2 i_v3 f_o0_0 f_o0_37 f_o0_38 f_o0_43 f_o0_95 x_0 hm => tM_freed_9 ih v1 v2 v3 o0 k_o0 r_o0 i_v1 i_v2 i_v3 f_o0_0 f_o0_37 f_o0_38 f_o0_43 f_o0_95 x_0 (by omega)), (fun v1 v2 v3 o0 k_o0 r_o0 i_v1 i_v2 i_v3 f_o0_0 f_o0_37 f_o0_38 f_o0_43 f_o0_95 x_0 x_1 hm => tM_freed_40 ih v1 v2 v3 o0 k_o0 r_o0 i_v1 i_v2 i_v3 f_o0_0 f_o0_37 f_o0_38 f_o0_43 f_o0_95 x_0 x_1 (by omega)), (fun v1 v3 v4 o0 k_o0 r_o0 i_v1 i_v4 f_o0_0 f_o0_37 f_o0_38 f_o0_43 f_o0_95 hm => tM_freed_192 ih v1 v3 v4 o0 k_o0 r_o0 i_v1 i_v4 f_o0_0 f_o0_37 f_o0_38 f_o0_43 f_o0_95 (by omega)), (fun v1 v3 v4 v5 v6 o0 k_o0 r_o0 i_v1 i_v4 i_v6 f_o0_0 f_o0_37 f_o0_38 f_o0_43 f_o0_95 hm => tM_freed_204 ih v1 v3 v4 v5 v6 o0 k_o0 r_o0 i_v1 i_v4 i_v6 f_o0_0 f_o0_37 f_o0_38 f_o0_43 f_o0_95 (by omega))⟩
set_option maxHeartbeats 4000000 in
set_option maxRecDepth 100000 in
theorem sM_freed (v1 : Int32) (o0 : cf_O) (k_o0 : okO I_M o0) (i_v1 : (1 : Int) ≤ v1.toInt ∧ v1.toInt ≤ 208) (f_o0_0 : (0 : Int) ≤ (o0.1 0).toInt ∧ (o0.1 0).toInt ≤ 0) (f_o0_37 : (1 : Int) ≤ (o0.1 37).toInt ∧ (o0.1 37).toInt ≤ 9) (f_o0_38 : (1 : Int) ≤ (o0.1 38).toInt ∧ (o0.1 38).toInt ≤ 1) (f_o0_43 : (1 : Int) ≤ (o0.1 43).toInt ∧ (o0.1 43).toInt ≤ 200) (f_o0_95 : (0 : Int) ≤ (o0.1 95).toInt ∧ (o0.1 95).toInt ≤ 0) (x_0 : v1.toInt ≤ (o0.1 39).toInt + (o0.1 43).toInt) : tt (fM_freed v1 o0) (QM_freed v1 o0) := by
  have H := hM_freed v1 o0 cfFU
  have hm : (84875 : Int) ≤ (cfFU : Nat) := by decide
  have r_o0 : Fr (fr_M [] [68] []) o0 o0 := fr_rfl
  unfold fM_freed fM_freed_0
  have g_o0_39 : (0 : Int) ≤ (o0.1 39).toInt ∧ (o0.1 39).toInt ≤ 8 := k_o0.1 39
  refine tt_n (ix_ok i_v1 (by decide) (by decide)) ?_
  refine tt_kv (P := fun z => ((0 : Int) ≤ z.toInt ∧ z.toInt ≤ 63209) ∧ z.toInt = (o0.2.1 63 v1.toNatClampNeg).toInt) ⟨(k_o0.2 63 _), rfl⟩ (fun x1 qi2 => ?_)
  obtain ⟨i2, ei2⟩ := qi2
  exact H.1 _ _ _ _ k_o0 r_o0 i_v1 i2 (iv_w (a := 0) (b := 210) (by decide) (by decide) (show (0 : Int) ≤ (0 : Int32).toInt ∧ (0 : Int32).toInt ≤ 0 by decide)) f_o0_0 f_o0_37 f_o0_38 f_o0_43 f_o0_95 (show v1.toInt ≤ (o0.1 39).toInt + (o0.1 43).toInt by omega) (show 84452 + (210 - 0) * 2 < ((cfFU : Nat) : Int) by omega)
def QM_digit (v0 : Int32) (v1 : Int32) (r : (Int32)) : Prop := True
def HM_digit (yv0 : Int32) (yv1 : Int32) (n : Nat) : Prop := (∀ (v1 : Int32) (v2 : Int32) (v3 : Int32), ((0 : Int) ≤ v1.toInt ∧ v1.toInt ≤ 4) → ((0 : Int) ≤ v3.toInt ∧ v3.toInt ≤ 4) → 0 + (4 - v3.toInt) * 2 < (n : Int) → tt (gM_digit n 0 v1 v2 v3) (QM_digit yv0 yv1))
set_option maxHeartbeats 4000000 in
set_option maxRecDepth 100000 in
theorem tM_digit_4 {yv0 : Int32} {yv1 : Int32} {n : Nat} (H : HM_digit yv0 yv1 n) (v1 : Int32) (v2 : Int32) (v3 : Int32) (i_v1 : (0 : Int) ≤ v1.toInt ∧ v1.toInt ≤ 4) (i_v3 : (0 : Int) ≤ v3.toInt ∧ v3.toInt ≤ 4) (hm : 0 + (4 - v3.toInt) * 2 ≤ (n : Int)) : tt (fM_digit_4 (gM_digit n) v1 v2 v3) (QM_digit yv0 yv1) := by
  unfold fM_digit_4
  refine tt_if (fun c1 => ?_) (fun c1 => ?_)
  · refine tt_kv (P := fun z => ((-2147483648) : Int) ≤ z.toInt ∧ z.toInt ≤ 2147483647) (iv_top _) (fun x2 i3 => ?_)
    exact tt_some trivial
  · have i4 : (0 : Int) ≤ v3.toInt ∧ v3.toInt ≤ 3 := nr_nlel c1 i_v3 i_v1 (by decide) (by decide)
    have i5 : (1 : Int) ≤ v1.toInt ∧ v1.toInt ≤ 4 := nr_nler c1 i_v3 i_v1 (by decide) (by decide)
    refine tt_kv (P := fun z => ((-2147483648) : Int) ≤ z.toInt ∧ z.toInt ≤ 2147483647) (iv_top _) (fun x6 i7 => ?_)
    refine tt_kv (P := fun z => ((1 : Int) ≤ z.toInt ∧ z.toInt ≤ 4) ∧ z.toInt = v3.toInt + 1) ⟨iv_add i4 (show (1 : Int) ≤ (1 : Int32).toInt ∧ (1 : Int32).toInt ≤ 1 by decide) (by decide) (by decide) (by decide) (by decide), iq_add i4 (show (1 : Int) ≤ (1 : Int32).toInt ∧ (1 : Int32).toInt ≤ 1 by decide) (by decide) (by decide)⟩ (fun x8 qi9 => ?_)
    obtain ⟨i9, ei9⟩ := qi9
    exact H _ _ _ (iv_w (a := 0) (b := 4) (by decide) (by decide) i5) (iv_w (a := 0) (b := 4) (by decide) (by decide) i9) (show 0 + (4 - x8.toInt) * 2 < (n : Int) by omega)
set_option maxHeartbeats 4000000 in
set_option maxRecDepth 100000 in
theorem hM_digit (yv0 : Int32) (yv1 : Int32) : ∀ n, HM_digit yv0 yv1 n := by
  intro n
  induction n with
  | zero => exact (fun v1 v2 v3 i_v1 i_v3 hm => by exact absurd (show 0 + (4 - v3.toInt) * 2 < (0 : Int) from hm) (by omega))
  | succ n ih => exact (fun v1 v2 v3 i_v1 i_v3 hm => tM_digit_4 ih v1 v2 v3 i_v1 i_v3 (by omega))
set_option maxHeartbeats 4000000 in
set_option maxRecDepth 100000 in
theorem sM_digit (v0 : Int32) (v1 : Int32) (i_v1 : (0 : Int) ≤ v1.toInt ∧ v1.toInt ≤ 4) : tt (fM_digit v0 v1) (QM_digit v0 v1) := by
  have H := hM_digit v0 v1 cfFU
  have hm : (11 : Int) ≤ (cfFU : Nat) := by decide
  unfold fM_digit fM_digit_0
  exact H _ _ _ i_v1 (iv_w (a := 0) (b := 4) (by decide) (by decide) (show (0 : Int) ≤ (0 : Int32).toInt ∧ (0 : Int32).toInt ≤ 0 by decide)) (show 0 + (4 - 0) * 2 < ((cfFU : Nat) : Int) by omega)
def QM_isOne (v0 : Int32) (v1 : Int32) (v2 : Int32) (r : (Int32)) : Prop := ((0 : Int) ≤ r.toInt ∧ r.toInt ≤ 1) ∧ True
def HM_isOne (yv0 : Int32) (yv1 : Int32) (yv2 : Int32) (n : Nat) : Prop := (∀ (v0 : Int32) (v1 : Int32) (v2 : Int32) (v3 : Int32) (v4 : Int32), ((0 : Int) ≤ v1.toInt ∧ v1.toInt ≤ 16) → ((0 : Int) ≤ v2.toInt ∧ v2.toInt ≤ 4) → ((0 : Int) ≤ v3.toInt ∧ v3.toInt ≤ 1) → ((0 : Int) ≤ v4.toInt ∧ v4.toInt ≤ 4) → 0 + (4 - v4.toInt) * 2 < (n : Int) → tt (gM_isOne n 0 v0 v1 v2 v3 v4) (QM_isOne yv0 yv1 yv2))
set_option maxHeartbeats 4000000 in
set_option maxRecDepth 100000 in
theorem tM_isOne_5 {yv0 : Int32} {yv1 : Int32} {yv2 : Int32} {n : Nat} (H : HM_isOne yv0 yv1 yv2 n) (v0 : Int32) (v1 : Int32) (v2 : Int32) (v3 : Int32) (v4 : Int32) (i_v1 : (0 : Int) ≤ v1.toInt ∧ v1.toInt ≤ 16) (i_v2 : (0 : Int) ≤ v2.toInt ∧ v2.toInt ≤ 4) (i_v3 : (0 : Int) ≤ v3.toInt ∧ v3.toInt ≤ 1) (i_v4 : (0 : Int) ≤ v4.toInt ∧ v4.toInt ≤ 4) (hm : 0 + (4 - v4.toInt) * 2 ≤ (n : Int)) : tt (fM_isOne_5 (gM_isOne n) v0 v1 v2 v3 v4) (QM_isOne yv0 yv1 yv2) := by
  unfold fM_isOne_5
  refine tt_if (fun c1 => ?_) (fun c1 => ?_)
  · refine tt_w (iv_b i_v3 (by decide) (by decide)) ?_
    exact tt_some ⟨i_v3, trivial⟩
  · have i2 : (0 : Int) ≤ v4.toInt ∧ v4.toInt ≤ 3 := nr_nlel c1 i_v4 i_v2 (by decide) (by decide)
    have i3 : (1 : Int) ≤ v2.toInt ∧ v2.toInt ≤ 4 := nr_nler c1 i_v4 i_v2 (by decide) (by decide)
    refine tt_b (sM_digit _ _ (iv_w (a := 0) (b := 4) (by decide) (by decide) i2)) (fun q4 hq4 => ?_)
    refine tt_if (fun c5 => ?_) (fun c5 => ?_)
    · have i6 : (0 : Int) ≤ v3.toInt ∧ v3.toInt ≤ 0 := nr_eql c5 i_v3 (show (0 : Int) ≤ (0 : Int32).toInt ∧ (0 : Int32).toInt ≤ 0 by decide) (by decide) (by decide)
      try unfold fM_isOne_61
      try unfold fM_isOne_62
      refine tt_kv (P := fun z => ((1 : Int) ≤ z.toInt ∧ z.toInt ≤ 4) ∧ z.toInt = v4.toInt + 1) ⟨iv_add i2 (show (1 : Int) ≤ (1 : Int32).toInt ∧ (1 : Int32).toInt ≤ 1 by decide) (by decide) (by decide) (by decide) (by decide), iq_add i2 (show (1 : Int) ≤ (1 : Int32).toInt ∧ (1 : Int32).toInt ≤ 1 by decide) (by decide) (by decide)⟩ (fun x7 qi8 => ?_)
      obtain ⟨i8, ei8⟩ := qi8
      exact H _ _ _ _ _ i_v1 (iv_w (a := 0) (b := 4) (by decide) (by decide) i3) (iv_w (a := 0) (b := 1) (by decide) (by decide) (show (0 : Int) ≤ (0 : Int32).toInt ∧ (0 : Int32).toInt ≤ 0 by decide)) (iv_w (a := 0) (b := 4) (by decide) (by decide) i8) (show 0 + (4 - x7.toInt) * 2 < (n : Int) by omega)
    · have i9 : (1 : Int) ≤ v3.toInt ∧ v3.toInt ≤ 1 := nr_nela c5 i_v3 (show (0 : Int) ≤ (0 : Int32).toInt ∧ (0 : Int32).toInt ≤ 0 by decide) (by decide) (by decide)
      refine tt_if (fun c10 => ?_) (fun c10 => ?_)
      · have i11 : (0 : Int) ≤ q4.toInt ∧ q4.toInt ≤ 0 := nr_eql c10 (iv_top q4) (show (0 : Int) ≤ (0 : Int32).toInt ∧ (0 : Int32).toInt ≤ 0 by decide) (by decide) (by decide)
        try unfold fM_isOne_57
        try unfold fM_isOne_62
        refine tt_kv (P := fun z => ((1 : Int) ≤ z.toInt ∧ z.toInt ≤ 4) ∧ z.toInt = v4.toInt + 1) ⟨iv_add i2 (show (1 : Int) ≤ (1 : Int32).toInt ∧ (1 : Int32).toInt ≤ 1 by decide) (by decide) (by decide) (by decide) (by decide), iq_add i2 (show (1 : Int) ≤ (1 : Int32).toInt ∧ (1 : Int32).toInt ≤ 1 by decide) (by decide) (by decide)⟩ (fun x12 qi13 => ?_)
        obtain ⟨i13, ei13⟩ := qi13
        exact H _ _ _ _ _ i_v1 (iv_w (a := 0) (b := 4) (by decide) (by decide) i3) (iv_w (a := 0) (b := 1) (by decide) (by decide) (show (1 : Int) ≤ (1 : Int32).toInt ∧ (1 : Int32).toInt ≤ 1 by decide)) (iv_w (a := 0) (b := 4) (by decide) (by decide) i13) (show 0 + (4 - x12.toInt) * 2 < (n : Int) by omega)
      · refine tt_if (fun c14 => ?_) (fun c14 => ?_)
        · have i15 : (1 : Int) ≤ q4.toInt ∧ q4.toInt ≤ 1 := nr_eql c14 (iv_top q4) (show (1 : Int) ≤ (1 : Int32).toInt ∧ (1 : Int32).toInt ≤ 1 by decide) (by decide) (by decide)
          try unfold fM_isOne_39
          refine tt_kv (P := fun z => (0 : Int) ≤ z.toInt ∧ z.toInt ≤ 16) (iv_shr (p := 0) (q := 3) i_v1 i2 (by decide) (by decide) (by decide) (by decide)) (fun x16 i17 => ?_)
          refine tt_kv (P := fun z => (0 : Int) ≤ z.toInt ∧ z.toInt ≤ 1) (iv_and (show (1 : Int) ≤ (1 : Int32).toInt ∧ (1 : Int32).toInt ≤ 1 by decide) (by decide) (by decide) (by decide)) (fun x18 i19 => ?_)
          refine tt_if (fun c20 => ?_) (fun c20 => ?_)
          · have i21 : (1 : Int) ≤ x18.toInt ∧ x18.toInt ≤ 1 := nr_eql c20 i19 (show (1 : Int) ≤ (1 : Int32).toInt ∧ (1 : Int32).toInt ≤ 1 by decide) (by decide) (by decide)
            try unfold fM_isOne_54
            refine tt_if (fun c22 => ?_) (fun c22 => ?_)
            · try unfold fM_isOne_57
              try unfold fM_isOne_62
              refine tt_kv (P := fun z => ((1 : Int) ≤ z.toInt ∧ z.toInt ≤ 4) ∧ z.toInt = v4.toInt + 1) ⟨iv_add i2 (show (1 : Int) ≤ (1 : Int32).toInt ∧ (1 : Int32).toInt ≤ 1 by decide) (by decide) (by decide) (by decide) (by decide), iq_add i2 (show (1 : Int) ≤ (1 : Int32).toInt ∧ (1 : Int32).toInt ≤ 1 by decide) (by decide) (by decide)⟩ (fun x23 qi24 => ?_)
              obtain ⟨i24, ei24⟩ := qi24
              exact H _ _ _ _ _ i_v1 (iv_w (a := 0) (b := 4) (by decide) (by decide) i3) (iv_w (a := 0) (b := 1) (by decide) (by decide) (show (1 : Int) ≤ (1 : Int32).toInt ∧ (1 : Int32).toInt ≤ 1 by decide)) (iv_w (a := 0) (b := 4) (by decide) (by decide) i24) (show 0 + (4 - x23.toInt) * 2 < (n : Int) by omega)
            · exact (dd_ne c22 (show (1 : Int) ≤ (1 : Int32).toInt ∧ (1 : Int32).toInt ≤ 1 by decide) (show (1 : Int) ≤ (1 : Int32).toInt ∧ (1 : Int32).toInt ≤ 1 by decide)).elim
          · have i25 : (0 : Int) ≤ x18.toInt ∧ x18.toInt ≤ 0 := nr_nelb c20 i19 (show (1 : Int) ≤ (1 : Int32).toInt ∧ (1 : Int32).toInt ≤ 1 by decide) (by decide) (by decide)
            try unfold fM_isOne_54
            refine tt_if (fun c26 => ?_) (fun c26 => ?_)
            · exact (dd_eq c26 (show (1 : Int) ≤ (1 : Int32).toInt ∧ (1 : Int32).toInt ≤ 1 by decide) (show (0 : Int) ≤ (0 : Int32).toInt ∧ (0 : Int32).toInt ≤ 0 by decide) (by decide)).elim
            · try unfold fM_isOne_61
              try unfold fM_isOne_62
              refine tt_kv (P := fun z => ((1 : Int) ≤ z.toInt ∧ z.toInt ≤ 4) ∧ z.toInt = v4.toInt + 1) ⟨iv_add i2 (show (1 : Int) ≤ (1 : Int32).toInt ∧ (1 : Int32).toInt ≤ 1 by decide) (by decide) (by decide) (by decide) (by decide), iq_add i2 (show (1 : Int) ≤ (1 : Int32).toInt ∧ (1 : Int32).toInt ≤ 1 by decide) (by decide) (by decide)⟩ (fun x27 qi28 => ?_)
              obtain ⟨i28, ei28⟩ := qi28
              exact H _ _ _ _ _ i_v1 (iv_w (a := 0) (b := 4) (by decide) (by decide) i3) (iv_w (a := 0) (b := 1) (by decide) (by decide) (show (0 : Int) ≤ (0 : Int32).toInt ∧ (0 : Int32).toInt ≤ 0 by decide)) (iv_w (a := 0) (b := 4) (by decide) (by decide) i28) (show 0 + (4 - x27.toInt) * 2 < (n : Int) by omega)
        · try unfold fM_isOne_39
          refine tt_kv (P := fun z => (0 : Int) ≤ z.toInt ∧ z.toInt ≤ 16) (iv_shr (p := 0) (q := 3) i_v1 i2 (by decide) (by decide) (by decide) (by decide)) (fun x29 i30 => ?_)
          refine tt_kv (P := fun z => (0 : Int) ≤ z.toInt ∧ z.toInt ≤ 1) (iv_and (show (1 : Int) ≤ (1 : Int32).toInt ∧ (1 : Int32).toInt ≤ 1 by decide) (by decide) (by decide) (by decide)) (fun x31 i32 => ?_)
          refine tt_if (fun c33 => ?_) (fun c33 => ?_)
          · have i34 : (1 : Int) ≤ x31.toInt ∧ x31.toInt ≤ 1 := nr_eql c33 i32 (show (1 : Int) ≤ (1 : Int32).toInt ∧ (1 : Int32).toInt ≤ 1 by decide) (by decide) (by decide)
            try unfold fM_isOne_54
            refine tt_if (fun c35 => ?_) (fun c35 => ?_)
            · exact (dd_eq c35 (show (0 : Int) ≤ (0 : Int32).toInt ∧ (0 : Int32).toInt ≤ 0 by decide) (show (1 : Int) ≤ (1 : Int32).toInt ∧ (1 : Int32).toInt ≤ 1 by decide) (by decide)).elim
            · try unfold fM_isOne_61
              try unfold fM_isOne_62
              refine tt_kv (P := fun z => ((1 : Int) ≤ z.toInt ∧ z.toInt ≤ 4) ∧ z.toInt = v4.toInt + 1) ⟨iv_add i2 (show (1 : Int) ≤ (1 : Int32).toInt ∧ (1 : Int32).toInt ≤ 1 by decide) (by decide) (by decide) (by decide) (by decide), iq_add i2 (show (1 : Int) ≤ (1 : Int32).toInt ∧ (1 : Int32).toInt ≤ 1 by decide) (by decide) (by decide)⟩ (fun x36 qi37 => ?_)
              obtain ⟨i37, ei37⟩ := qi37
              exact H _ _ _ _ _ i_v1 (iv_w (a := 0) (b := 4) (by decide) (by decide) i3) (iv_w (a := 0) (b := 1) (by decide) (by decide) (show (0 : Int) ≤ (0 : Int32).toInt ∧ (0 : Int32).toInt ≤ 0 by decide)) (iv_w (a := 0) (b := 4) (by decide) (by decide) i37) (show 0 + (4 - x36.toInt) * 2 < (n : Int) by omega)
          · have i38 : (0 : Int) ≤ x31.toInt ∧ x31.toInt ≤ 0 := nr_nelb c33 i32 (show (1 : Int) ≤ (1 : Int32).toInt ∧ (1 : Int32).toInt ≤ 1 by decide) (by decide) (by decide)
            try unfold fM_isOne_54
            refine tt_if (fun c39 => ?_) (fun c39 => ?_)
            · try unfold fM_isOne_57
              try unfold fM_isOne_62
              refine tt_kv (P := fun z => ((1 : Int) ≤ z.toInt ∧ z.toInt ≤ 4) ∧ z.toInt = v4.toInt + 1) ⟨iv_add i2 (show (1 : Int) ≤ (1 : Int32).toInt ∧ (1 : Int32).toInt ≤ 1 by decide) (by decide) (by decide) (by decide) (by decide), iq_add i2 (show (1 : Int) ≤ (1 : Int32).toInt ∧ (1 : Int32).toInt ≤ 1 by decide) (by decide) (by decide)⟩ (fun x40 qi41 => ?_)
              obtain ⟨i41, ei41⟩ := qi41
              exact H _ _ _ _ _ i_v1 (iv_w (a := 0) (b := 4) (by decide) (by decide) i3) (iv_w (a := 0) (b := 1) (by decide) (by decide) (show (1 : Int) ≤ (1 : Int32).toInt ∧ (1 : Int32).toInt ≤ 1 by decide)) (iv_w (a := 0) (b := 4) (by decide) (by decide) i41) (show 0 + (4 - x40.toInt) * 2 < (n : Int) by omega)
            · exact (dd_ne c39 (show (0 : Int) ≤ (0 : Int32).toInt ∧ (0 : Int32).toInt ≤ 0 by decide) (show (0 : Int) ≤ (0 : Int32).toInt ∧ (0 : Int32).toInt ≤ 0 by decide)).elim
set_option maxHeartbeats 4000000 in
set_option maxRecDepth 100000 in
theorem hM_isOne (yv0 : Int32) (yv1 : Int32) (yv2 : Int32) : ∀ n, HM_isOne yv0 yv1 yv2 n := by
  intro n
  induction n with
  | zero => exact (fun v0 v1 v2 v3 v4 i_v1 i_v2 i_v3 i_v4 hm => by exact absurd (show 0 + (4 - v4.toInt) * 2 < (0 : Int) from hm) (by omega))
  | succ n ih => exact (fun v0 v1 v2 v3 v4 i_v1 i_v2 i_v3 i_v4 hm => tM_isOne_5 ih v0 v1 v2 v3 v4 i_v1 i_v2 i_v3 i_v4 (by omega))
set_option maxHeartbeats 4000000 in
set_option maxRecDepth 100000 in
theorem sM_isOne (v0 : Int32) (v1 : Int32) (v2 : Int32) (i_v1 : (0 : Int) ≤ v1.toInt ∧ v1.toInt ≤ 16) (i_v2 : (0 : Int) ≤ v2.toInt ∧ v2.toInt ≤ 4) : tt (fM_isOne v0 v1 v2) (QM_isOne v0 v1 v2) := by
  have H := hM_isOne v0 v1 v2 cfFU
  have hm : (11 : Int) ≤ (cfFU : Nat) := by decide
  unfold fM_isOne fM_isOne_0
  exact H _ _ _ _ _ i_v1 i_v2 (iv_w (a := 0) (b := 1) (by decide) (by decide) (show (1 : Int) ≤ (1 : Int32).toInt ∧ (1 : Int32).toInt ≤ 1 by decide)) (iv_w (a := 0) (b := 4) (by decide) (by decide) (show (0 : Int) ≤ (0 : Int32).toInt ∧ (0 : Int32).toInt ≤ 0 by decide)) (show 0 + (4 - 0) * 2 < ((cfFU : Nat) : Int) by omega)
def QM_isWithin (v0 : Int32) (v1 : Int32) (v2 : Int32) (r : (Int32)) : Prop := ((0 : Int) ≤ r.toInt ∧ r.toInt ≤ 1) ∧ True
def HM_isWithin (yv0 : Int32) (yv1 : Int32) (yv2 : Int32) (n : Nat) : Prop := (∀ (v0 : Int32) (v1 : Int32) (v2 : Int32) (v3 : Int32) (v4 : Int32), ((0 : Int) ≤ v2.toInt ∧ v2.toInt ≤ 4) → ((0 : Int) ≤ v3.toInt ∧ v3.toInt ≤ 1) → ((0 : Int) ≤ v4.toInt ∧ v4.toInt ≤ 16) → 0 + (16 - v4.toInt) * 2 < (n : Int) → tt (gM_isWithin n 0 v0 v1 v2 v3 v4) (QM_isWithin yv0 yv1 yv2))
set_option maxHeartbeats 4000000 in
set_option maxRecDepth 100000 in
theorem tM_isWithin_5 {yv0 : Int32} {yv1 : Int32} {yv2 : Int32} {n : Nat} (H : HM_isWithin yv0 yv1 yv2 n) (v0 : Int32) (v1 : Int32) (v2 : Int32) (v3 : Int32) (v4 : Int32) (i_v2 : (0 : Int) ≤ v2.toInt ∧ v2.toInt ≤ 4) (i_v3 : (0 : Int) ≤ v3.toInt ∧ v3.toInt ≤ 1) (i_v4 : (0 : Int) ≤ v4.toInt ∧ v4.toInt ≤ 16) (hm : 0 + (16 - v4.toInt) * 2 ≤ (n : Int)) : tt (fM_isWithin_5 (gM_isWithin n) v0 v1 v2 v3 v4) (QM_isWithin yv0 yv1 yv2) := by
  unfold fM_isWithin_5
  refine tt_kv (P := fun z => (1 : Int) ≤ z.toInt ∧ z.toInt ≤ 16) (iv_shl (p := 0) (q := 4) (show (1 : Int) ≤ (1 : Int32).toInt ∧ (1 : Int32).toInt ≤ 1 by decide) i_v2 (by decide) (by decide) (by decide) (by decide) (by decide)) (fun x1 i2 => ?_)
  refine tt_if (fun c3 => ?_) (fun c3 => ?_)
  · have i4 : (1 : Int) ≤ v4.toInt ∧ v4.toInt ≤ 16 := nr_ler c3 i2 i_v4 (by decide) (by decide)
    refine tt_w (iv_b i_v3 (by decide) (by decide)) ?_
    exact tt_some ⟨i_v3, trivial⟩
  · have i5 : (0 : Int) ≤ v4.toInt ∧ v4.toInt ≤ 15 := nr_nlel c3 i_v4 i2 (by decide) (by decide)
    refine tt_if (fun c6 => ?_) (fun c6 => ?_)
    · have i7 : (0 : Int) ≤ v3.toInt ∧ v3.toInt ≤ 0 := nr_eql c6 i_v3 (show (0 : Int) ≤ (0 : Int32).toInt ∧ (0 : Int32).toInt ≤ 0 by decide) (by decide) (by decide)
      try unfold fM_isWithin_41
      try unfold fM_isWithin_42
      refine tt_kv (P := fun z => ((1 : Int) ≤ z.toInt ∧ z.toInt ≤ 16) ∧ z.toInt = v4.toInt + 1) ⟨iv_add i5 (show (1 : Int) ≤ (1 : Int32).toInt ∧ (1 : Int32).toInt ≤ 1 by decide) (by decide) (by decide) (by decide) (by decide), iq_add i5 (show (1 : Int) ≤ (1 : Int32).toInt ∧ (1 : Int32).toInt ≤ 1 by decide) (by decide) (by decide)⟩ (fun x8 qi9 => ?_)
      obtain ⟨i9, ei9⟩ := qi9
      exact H _ _ _ _ _ i_v2 (iv_w (a := 0) (b := 1) (by decide) (by decide) (show (0 : Int) ≤ (0 : Int32).toInt ∧ (0 : Int32).toInt ≤ 0 by decide)) (iv_w (a := 0) (b := 16) (by decide) (by decide) i9) (show 0 + (16 - x8.toInt) * 2 < (n : Int) by omega)
    · have i10 : (1 : Int) ≤ v3.toInt ∧ v3.toInt ≤ 1 := nr_nela c6 i_v3 (show (0 : Int) ≤ (0 : Int32).toInt ∧ (0 : Int32).toInt ≤ 0 by decide) (by decide) (by decide)
      refine tt_b (sM_isOne _ _ _ (iv_w (a := 0) (b := 16) (by decide) (by decide) i5) i_v2) (fun q11 hq11 => ?_)
      obtain ⟨i_q11, -⟩ := hq11
      refine tt_if (fun c12 => ?_) (fun c12 => ?_)
      · have i13 : (0 : Int) ≤ q11.toInt ∧ q11.toInt ≤ 0 := nr_eql c12 i_q11 (show (0 : Int) ≤ (0 : Int32).toInt ∧ (0 : Int32).toInt ≤ 0 by decide) (by decide) (by decide)
        try unfold fM_isWithin_37
        try unfold fM_isWithin_42
        refine tt_kv (P := fun z => ((1 : Int) ≤ z.toInt ∧ z.toInt ≤ 16) ∧ z.toInt = v4.toInt + 1) ⟨iv_add i5 (show (1 : Int) ≤ (1 : Int32).toInt ∧ (1 : Int32).toInt ≤ 1 by decide) (by decide) (by decide) (by decide) (by decide), iq_add i5 (show (1 : Int) ≤ (1 : Int32).toInt ∧ (1 : Int32).toInt ≤ 1 by decide) (by decide) (by decide)⟩ (fun x14 qi15 => ?_)
        obtain ⟨i15, ei15⟩ := qi15
        exact H _ _ _ _ _ i_v2 (iv_w (a := 0) (b := 1) (by decide) (by decide) (show (1 : Int) ≤ (1 : Int32).toInt ∧ (1 : Int32).toInt ≤ 1 by decide)) (iv_w (a := 0) (b := 16) (by decide) (by decide) i15) (show 0 + (16 - x14.toInt) * 2 < (n : Int) by omega)
      · have i16 : (1 : Int) ≤ q11.toInt ∧ q11.toInt ≤ 1 := nr_nela c12 i_q11 (show (0 : Int) ≤ (0 : Int32).toInt ∧ (0 : Int32).toInt ≤ 0 by decide) (by decide) (by decide)
        refine tt_kv (P := fun z => ((-2147483648) : Int) ≤ z.toInt ∧ z.toInt ≤ 2147483647) (iv_top _) (fun x17 i18 => ?_)
        refine tt_kv (P := fun z => (0 : Int) ≤ z.toInt ∧ z.toInt ≤ 1) (iv_and (show (1 : Int) ≤ (1 : Int32).toInt ∧ (1 : Int32).toInt ≤ 1 by decide) (by decide) (by decide) (by decide)) (fun x19 i20 => ?_)
        refine tt_if (fun c21 => ?_) (fun c21 => ?_)
        · have i22 : (1 : Int) ≤ x19.toInt ∧ x19.toInt ≤ 1 := nr_eql c21 i20 (show (1 : Int) ≤ (1 : Int32).toInt ∧ (1 : Int32).toInt ≤ 1 by decide) (by decide) (by decide)
          try unfold fM_isWithin_37
          try unfold fM_isWithin_42
          refine tt_kv (P := fun z => ((1 : Int) ≤ z.toInt ∧ z.toInt ≤ 16) ∧ z.toInt = v4.toInt + 1) ⟨iv_add i5 (show (1 : Int) ≤ (1 : Int32).toInt ∧ (1 : Int32).toInt ≤ 1 by decide) (by decide) (by decide) (by decide) (by decide), iq_add i5 (show (1 : Int) ≤ (1 : Int32).toInt ∧ (1 : Int32).toInt ≤ 1 by decide) (by decide) (by decide)⟩ (fun x23 qi24 => ?_)
          obtain ⟨i24, ei24⟩ := qi24
          exact H _ _ _ _ _ i_v2 (iv_w (a := 0) (b := 1) (by decide) (by decide) (show (1 : Int) ≤ (1 : Int32).toInt ∧ (1 : Int32).toInt ≤ 1 by decide)) (iv_w (a := 0) (b := 16) (by decide) (by decide) i24) (show 0 + (16 - x23.toInt) * 2 < (n : Int) by omega)
        · have i25 : (0 : Int) ≤ x19.toInt ∧ x19.toInt ≤ 0 := nr_nelb c21 i20 (show (1 : Int) ≤ (1 : Int32).toInt ∧ (1 : Int32).toInt ≤ 1 by decide) (by decide) (by decide)
          try unfold fM_isWithin_41
          try unfold fM_isWithin_42
          refine tt_kv (P := fun z => ((1 : Int) ≤ z.toInt ∧ z.toInt ≤ 16) ∧ z.toInt = v4.toInt + 1) ⟨iv_add i5 (show (1 : Int) ≤ (1 : Int32).toInt ∧ (1 : Int32).toInt ≤ 1 by decide) (by decide) (by decide) (by decide) (by decide), iq_add i5 (show (1 : Int) ≤ (1 : Int32).toInt ∧ (1 : Int32).toInt ≤ 1 by decide) (by decide) (by decide)⟩ (fun x26 qi27 => ?_)
          obtain ⟨i27, ei27⟩ := qi27
          exact H _ _ _ _ _ i_v2 (iv_w (a := 0) (b := 1) (by decide) (by decide) (show (0 : Int) ≤ (0 : Int32).toInt ∧ (0 : Int32).toInt ≤ 0 by decide)) (iv_w (a := 0) (b := 16) (by decide) (by decide) i27) (show 0 + (16 - x26.toInt) * 2 < (n : Int) by omega)
set_option maxHeartbeats 4000000 in
set_option maxRecDepth 100000 in
theorem hM_isWithin (yv0 : Int32) (yv1 : Int32) (yv2 : Int32) : ∀ n, HM_isWithin yv0 yv1 yv2 n := by
  intro n
  induction n with
  | zero => exact (fun v0 v1 v2 v3 v4 i_v2 i_v3 i_v4 hm => by exact absurd (show 0 + (16 - v4.toInt) * 2 < (0 : Int) from hm) (by omega))
  | succ n ih => exact (fun v0 v1 v2 v3 v4 i_v2 i_v3 i_v4 hm => tM_isWithin_5 ih v0 v1 v2 v3 v4 i_v2 i_v3 i_v4 (by omega))
set_option maxHeartbeats 4000000 in
set_option maxRecDepth 100000 in
theorem sM_isWithin (v0 : Int32) (v1 : Int32) (v2 : Int32) (i_v2 : (0 : Int) ≤ v2.toInt ∧ v2.toInt ≤ 4) : tt (fM_isWithin v0 v1 v2) (QM_isWithin v0 v1 v2) := by
  have H := hM_isWithin v0 v1 v2 cfFU
  have hm : (35 : Int) ≤ (cfFU : Nat) := by decide
  unfold fM_isWithin fM_isWithin_0
  exact H _ _ _ _ _ i_v2 (iv_w (a := 0) (b := 1) (by decide) (by decide) (show (1 : Int) ≤ (1 : Int32).toInt ∧ (1 : Int32).toInt ≤ 1 by decide)) (iv_w (a := 0) (b := 16) (by decide) (by decide) (show (0 : Int) ≤ (0 : Int32).toInt ∧ (0 : Int32).toInt ≤ 0 by decide)) (show 0 + (16 - 0) * 2 < ((cfFU : Nat) : Int) by omega)
def QM_literalsOf (v0 : Int32) (v1 : Int32) (r : (Int32)) : Prop := True
def HM_literalsOf (yv0 : Int32) (yv1 : Int32) (n : Nat) : Prop := (∀ (v0 : Int32) (v1 : Int32) (v2 : Int32) (v3 : Int32), (((-1) : Int) ≤ v0.toInt ∧ v0.toInt ≤ 81) → ((0 : Int) ≤ v1.toInt ∧ v1.toInt ≤ 4) → ((0 : Int) ≤ v3.toInt ∧ v3.toInt ≤ 4) → 0 + (4 - v3.toInt) * 2 < (n : Int) → tt (gM_literalsOf n 0 v0 v1 v2 v3) (QM_literalsOf yv0 yv1))
set_option maxHeartbeats 4000000 in
set_option maxRecDepth 100000 in
theorem tM_literalsOf_4 {yv0 : Int32} {yv1 : Int32} {n : Nat} (H : HM_literalsOf yv0 yv1 n) (v0 : Int32) (v1 : Int32) (v2 : Int32) (v3 : Int32) (i_v0 : ((-1) : Int) ≤ v0.toInt ∧ v0.toInt ≤ 81) (i_v1 : (0 : Int) ≤ v1.toInt ∧ v1.toInt ≤ 4) (i_v3 : (0 : Int) ≤ v3.toInt ∧ v3.toInt ≤ 4) (hm : 0 + (4 - v3.toInt) * 2 ≤ (n : Int)) : tt (fM_literalsOf_4 (gM_literalsOf n) v0 v1 v2 v3) (QM_literalsOf yv0 yv1) := by
  unfold fM_literalsOf_4
  refine tt_if (fun c1 => ?_) (fun c1 => ?_)
  · exact tt_some trivial
  · have i2 : (0 : Int) ≤ v3.toInt ∧ v3.toInt ≤ 3 := nr_nlel c1 i_v3 i_v1 (by decide) (by decide)
    have i3 : (1 : Int) ≤ v1.toInt ∧ v1.toInt ≤ 4 := nr_nler c1 i_v3 i_v1 (by decide) (by decide)
    refine tt_b (sM_digit _ _ (iv_w (a := 0) (b := 4) (by decide) (by decide) i2)) (fun q4 hq4 => ?_)
    refine tt_if (fun c5 => ?_) (fun c5 => ?_)
    · have i6 : ((-2147483648) : Int) ≤ q4.toInt ∧ q4.toInt ≤ 0 := nr_lel c5 (iv_top q4) (show (0 : Int) ≤ (0 : Int32).toInt ∧ (0 : Int32).toInt ≤ 0 by decide) (by decide) (by decide)
      try unfold fM_literalsOf_24
      refine tt_kv (P := fun z => ((1 : Int) ≤ z.toInt ∧ z.toInt ≤ 4) ∧ z.toInt = v3.toInt + 1) ⟨iv_add i2 (show (1 : Int) ≤ (1 : Int32).toInt ∧ (1 : Int32).toInt ≤ 1 by decide) (by decide) (by decide) (by decide) (by decide), iq_add i2 (show (1 : Int) ≤ (1 : Int32).toInt ∧ (1 : Int32).toInt ≤ 1 by decide) (by decide) (by decide)⟩ (fun x7 qi8 => ?_)
      obtain ⟨i8, ei8⟩ := qi8
      exact H _ _ _ _ i_v0 (iv_w (a := 0) (b := 4) (by decide) (by decide) i3) (iv_w (a := 0) (b := 4) (by decide) (by decide) i8) (show 0 + (4 - x7.toInt) * 2 < (n : Int) by omega)
    · have i9 : (1 : Int) ≤ q4.toInt ∧ q4.toInt ≤ 2147483647 := nr_nler c5 (show (0 : Int) ≤ (0 : Int32).toInt ∧ (0 : Int32).toInt ≤ 0 by decide) (iv_top q4) (by decide) (by decide)
      refine tt_kv (P := fun z => ((-2147483648) : Int) ≤ z.toInt ∧ z.toInt ≤ 2147483647) (iv_top _) (fun x10 i11 => ?_)
      try unfold fM_literalsOf_24
      refine tt_kv (P := fun z => ((1 : Int) ≤ z.toInt ∧ z.toInt ≤ 4) ∧ z.toInt = v3.toInt + 1) ⟨iv_add i2 (show (1 : Int) ≤ (1 : Int32).toInt ∧ (1 : Int32).toInt ≤ 1 by decide) (by decide) (by decide) (by decide) (by decide), iq_add i2 (show (1 : Int) ≤ (1 : Int32).toInt ∧ (1 : Int32).toInt ≤ 1 by decide) (by decide) (by decide)⟩ (fun x12 qi13 => ?_)
      obtain ⟨i13, ei13⟩ := qi13
      exact H _ _ _ _ i_v0 (iv_w (a := 0) (b := 4) (by decide) (by decide) i3) (iv_w (a := 0) (b := 4) (by decide) (by decide) i13) (show 0 + (4 - x12.toInt) * 2 < (n : Int) by omega)
set_option maxHeartbeats 4000000 in
set_option maxRecDepth 100000 in
theorem hM_literalsOf (yv0 : Int32) (yv1 : Int32) : ∀ n, HM_literalsOf yv0 yv1 n := by
  intro n
  induction n with
  | zero => exact (fun v0 v1 v2 v3 i_v0 i_v1 i_v3 hm => by exact absurd (show 0 + (4 - v3.toInt) * 2 < (0 : Int) from hm) (by omega))
  | succ n ih => exact (fun v0 v1 v2 v3 i_v0 i_v1 i_v3 hm => tM_literalsOf_4 ih v0 v1 v2 v3 i_v0 i_v1 i_v3 (by omega))
set_option maxHeartbeats 4000000 in
set_option maxRecDepth 100000 in
theorem sM_literalsOf (v0 : Int32) (v1 : Int32) (i_v0 : ((-1) : Int) ≤ v0.toInt ∧ v0.toInt ≤ 81) (i_v1 : (0 : Int) ≤ v1.toInt ∧ v1.toInt ≤ 4) : tt (fM_literalsOf v0 v1) (QM_literalsOf v0 v1) := by
  have H := hM_literalsOf v0 v1 cfFU
  have hm : (11 : Int) ≤ (cfFU : Nat) := by decide
  unfold fM_literalsOf fM_literalsOf_0
  exact H _ _ _ _ i_v0 i_v1 (iv_w (a := 0) (b := 4) (by decide) (by decide) (show (0 : Int) ≤ (0 : Int32).toInt ∧ (0 : Int32).toInt ≤ 0 by decide)) (show 0 + (4 - 0) * 2 < ((cfFU : Nat) : Int) by omega)
def QM_isPrime (v0 : Int32) (v1 : Int32) (v2 : Int32) (r : (Int32)) : Prop := ((0 : Int) ≤ r.toInt ∧ r.toInt ≤ 1) ∧ True
def HM_isPrime (yv0 : Int32) (yv1 : Int32) (yv2 : Int32) (n : Nat) : Prop := (∀ (v0 : Int32) (v1 : Int32) (v2 : Int32) (v3 : Int32) (v4 : Int32) (v5 : Int32), ((0 : Int) ≤ v0.toInt ∧ v0.toInt ≤ 80) → ((0 : Int) ≤ v2.toInt ∧ v2.toInt ≤ 4) → ((0 : Int) ≤ v3.toInt ∧ v3.toInt ≤ 1) → ((0 : Int) ≤ v5.toInt ∧ v5.toInt ≤ 4) → 0 + (4 - v5.toInt) * 2 < (n : Int) → tt (gM_isPrime n 0 v0 v1 v2 v3 v4 v5) (QM_isPrime yv0 yv1 yv2))
set_option maxHeartbeats 4000000 in
set_option maxRecDepth 100000 in
theorem tM_isPrime_13 {yv0 : Int32} {yv1 : Int32} {yv2 : Int32} {n : Nat} (H : HM_isPrime yv0 yv1 yv2 n) (v0 : Int32) (v1 : Int32) (v2 : Int32) (v3 : Int32) (v4 : Int32) (v5 : Int32) (i_v0 : (0 : Int) ≤ v0.toInt ∧ v0.toInt ≤ 80) (i_v2 : (0 : Int) ≤ v2.toInt ∧ v2.toInt ≤ 4) (i_v3 : (0 : Int) ≤ v3.toInt ∧ v3.toInt ≤ 1) (i_v5 : (0 : Int) ≤ v5.toInt ∧ v5.toInt ≤ 4) (hm : 0 + (4 - v5.toInt) * 2 ≤ (n : Int)) : tt (fM_isPrime_13 (gM_isPrime n) v0 v1 v2 v3 v4 v5) (QM_isPrime yv0 yv1 yv2) := by
  unfold fM_isPrime_13
  refine tt_if (fun c1 => ?_) (fun c1 => ?_)
  · refine tt_w (iv_b i_v3 (by decide) (by decide)) ?_
    exact tt_some ⟨i_v3, trivial⟩
  · have i2 : (0 : Int) ≤ v5.toInt ∧ v5.toInt ≤ 3 := nr_nlel c1 i_v5 i_v2 (by decide) (by decide)
    have i3 : (1 : Int) ≤ v2.toInt ∧ v2.toInt ≤ 4 := nr_nler c1 i_v5 i_v2 (by decide) (by decide)
    refine tt_b (sM_digit _ _ (iv_w (a := 0) (b := 4) (by decide) (by decide) i2)) (fun q4 hq4 => ?_)
    refine tt_if (fun c5 => ?_) (fun c5 => ?_)
    · have i6 : (0 : Int) ≤ v3.toInt ∧ v3.toInt ≤ 0 := nr_eql c5 i_v3 (show (0 : Int) ≤ (0 : Int32).toInt ∧ (0 : Int32).toInt ≤ 0 by decide) (by decide) (by decide)
      try unfold fM_isPrime_55
      try unfold fM_isPrime_56
      refine tt_kv (P := fun z => ((-2147483648) : Int) ≤ z.toInt ∧ z.toInt ≤ 2147483647) (iv_top _) (fun x7 i8 => ?_)
      refine tt_kv (P := fun z => ((1 : Int) ≤ z.toInt ∧ z.toInt ≤ 4) ∧ z.toInt = v5.toInt + 1) ⟨iv_add i2 (show (1 : Int) ≤ (1 : Int32).toInt ∧ (1 : Int32).toInt ≤ 1 by decide) (by decide) (by decide) (by decide) (by decide), iq_add i2 (show (1 : Int) ≤ (1 : Int32).toInt ∧ (1 : Int32).toInt ≤ 1 by decide) (by decide) (by decide)⟩ (fun x9 qi10 => ?_)
      obtain ⟨i10, ei10⟩ := qi10
      exact H _ _ _ _ _ _ i_v0 (iv_w (a := 0) (b := 4) (by decide) (by decide) i3) (iv_w (a := 0) (b := 1) (by decide) (by decide) (show (0 : Int) ≤ (0 : Int32).toInt ∧ (0 : Int32).toInt ≤ 0 by decide)) (iv_w (a := 0) (b := 4) (by decide) (by decide) i10) (show 0 + (4 - x9.toInt) * 2 < (n : Int) by omega)
    · have i11 : (1 : Int) ≤ v3.toInt ∧ v3.toInt ≤ 1 := nr_nela c5 i_v3 (show (0 : Int) ≤ (0 : Int32).toInt ∧ (0 : Int32).toInt ≤ 0 by decide) (by decide) (by decide)
      refine tt_if (fun c12 => ?_) (fun c12 => ?_)
      · have i13 : (0 : Int) ≤ q4.toInt ∧ q4.toInt ≤ 0 := nr_eql c12 (iv_top q4) (show (0 : Int) ≤ (0 : Int32).toInt ∧ (0 : Int32).toInt ≤ 0 by decide) (by decide) (by decide)
        try unfold fM_isPrime_51
        try unfold fM_isPrime_56
        refine tt_kv (P := fun z => ((-2147483648) : Int) ≤ z.toInt ∧ z.toInt ≤ 2147483647) (iv_top _) (fun x14 i15 => ?_)
        refine tt_kv (P := fun z => ((1 : Int) ≤ z.toInt ∧ z.toInt ≤ 4) ∧ z.toInt = v5.toInt + 1) ⟨iv_add i2 (show (1 : Int) ≤ (1 : Int32).toInt ∧ (1 : Int32).toInt ≤ 1 by decide) (by decide) (by decide) (by decide) (by decide), iq_add i2 (show (1 : Int) ≤ (1 : Int32).toInt ∧ (1 : Int32).toInt ≤ 1 by decide) (by decide) (by decide)⟩ (fun x16 qi17 => ?_)
        obtain ⟨i17, ei17⟩ := qi17
        exact H _ _ _ _ _ _ i_v0 (iv_w (a := 0) (b := 4) (by decide) (by decide) i3) (iv_w (a := 0) (b := 1) (by decide) (by decide) (show (1 : Int) ≤ (1 : Int32).toInt ∧ (1 : Int32).toInt ≤ 1 by decide)) (iv_w (a := 0) (b := 4) (by decide) (by decide) i17) (show 0 + (4 - x16.toInt) * 2 < (n : Int) by omega)
      · refine tt_kv (P := fun z => ((-2147483648) : Int) ≤ z.toInt ∧ z.toInt ≤ 2147483647) (iv_top _) (fun x18 i19 => ?_)
        refine tt_kv (P := fun z => ((-2147483648) : Int) ≤ z.toInt ∧ z.toInt ≤ 2147483647) (iv_top _) (fun x20 i21 => ?_)
        refine tt_b (sM_isWithin _ _ _ (iv_w (a := 0) (b := 4) (by decide) (by decide) i3)) (fun q22 hq22 => ?_)
        obtain ⟨i_q22, -⟩ := hq22
        refine tt_if (fun c23 => ?_) (fun c23 => ?_)
        · have i24 : (0 : Int) ≤ q22.toInt ∧ q22.toInt ≤ 0 := nr_eql c23 i_q22 (show (0 : Int) ≤ (0 : Int32).toInt ∧ (0 : Int32).toInt ≤ 0 by decide) (by decide) (by decide)
          try unfold fM_isPrime_51
          try unfold fM_isPrime_56
          refine tt_kv (P := fun z => ((-2147483648) : Int) ≤ z.toInt ∧ z.toInt ≤ 2147483647) (iv_top _) (fun x25 i26 => ?_)
          refine tt_kv (P := fun z => ((1 : Int) ≤ z.toInt ∧ z.toInt ≤ 4) ∧ z.toInt = v5.toInt + 1) ⟨iv_add i2 (show (1 : Int) ≤ (1 : Int32).toInt ∧ (1 : Int32).toInt ≤ 1 by decide) (by decide) (by decide) (by decide) (by decide), iq_add i2 (show (1 : Int) ≤ (1 : Int32).toInt ∧ (1 : Int32).toInt ≤ 1 by decide) (by decide) (by decide)⟩ (fun x27 qi28 => ?_)
          obtain ⟨i28, ei28⟩ := qi28
          exact H _ _ _ _ _ _ i_v0 (iv_w (a := 0) (b := 4) (by decide) (by decide) i3) (iv_w (a := 0) (b := 1) (by decide) (by decide) (show (1 : Int) ≤ (1 : Int32).toInt ∧ (1 : Int32).toInt ≤ 1 by decide)) (iv_w (a := 0) (b := 4) (by decide) (by decide) i28) (show 0 + (4 - x27.toInt) * 2 < (n : Int) by omega)
        · have i29 : (1 : Int) ≤ q22.toInt ∧ q22.toInt ≤ 1 := nr_nela c23 i_q22 (show (0 : Int) ≤ (0 : Int32).toInt ∧ (0 : Int32).toInt ≤ 0 by decide) (by decide) (by decide)
          try unfold fM_isPrime_55
          try unfold fM_isPrime_56
          refine tt_kv (P := fun z => ((-2147483648) : Int) ≤ z.toInt ∧ z.toInt ≤ 2147483647) (iv_top _) (fun x30 i31 => ?_)
          refine tt_kv (P := fun z => ((1 : Int) ≤ z.toInt ∧ z.toInt ≤ 4) ∧ z.toInt = v5.toInt + 1) ⟨iv_add i2 (show (1 : Int) ≤ (1 : Int32).toInt ∧ (1 : Int32).toInt ≤ 1 by decide) (by decide) (by decide) (by decide) (by decide), iq_add i2 (show (1 : Int) ≤ (1 : Int32).toInt ∧ (1 : Int32).toInt ≤ 1 by decide) (by decide) (by decide)⟩ (fun x32 qi33 => ?_)
          obtain ⟨i33, ei33⟩ := qi33
          exact H _ _ _ _ _ _ i_v0 (iv_w (a := 0) (b := 4) (by decide) (by decide) i3) (iv_w (a := 0) (b := 1) (by decide) (by decide) (show (0 : Int) ≤ (0 : Int32).toInt ∧ (0 : Int32).toInt ≤ 0 by decide)) (iv_w (a := 0) (b := 4) (by decide) (by decide) i33) (show 0 + (4 - x32.toInt) * 2 < (n : Int) by omega)
set_option maxHeartbeats 4000000 in
set_option maxRecDepth 100000 in
theorem hM_isPrime (yv0 : Int32) (yv1 : Int32) (yv2 : Int32) : ∀ n, HM_isPrime yv0 yv1 yv2 n := by
  intro n
  induction n with
  | zero => exact (fun v0 v1 v2 v3 v4 v5 i_v0 i_v2 i_v3 i_v5 hm => by exact absurd (show 0 + (4 - v5.toInt) * 2 < (0 : Int) from hm) (by omega))
  | succ n ih => exact (fun v0 v1 v2 v3 v4 v5 i_v0 i_v2 i_v3 i_v5 hm => tM_isPrime_13 ih v0 v1 v2 v3 v4 v5 i_v0 i_v2 i_v3 i_v5 (by omega))
set_option maxHeartbeats 4000000 in
set_option maxRecDepth 100000 in
theorem sM_isPrime (v0 : Int32) (v1 : Int32) (v2 : Int32) (i_v0 : (0 : Int) ≤ v0.toInt ∧ v0.toInt ≤ 80) (i_v2 : (0 : Int) ≤ v2.toInt ∧ v2.toInt ≤ 4) : tt (fM_isPrime v0 v1 v2) (QM_isPrime v0 v1 v2) := by
  have H := hM_isPrime v0 v1 v2 cfFU
  have hm : (11 : Int) ≤ (cfFU : Nat) := by decide
  unfold fM_isPrime fM_isPrime_0
  refine tt_b (sM_isWithin _ _ _ i_v2) (fun q1 hq1 => ?_)
  obtain ⟨i_q1, -⟩ := hq1
  exact H _ _ _ _ _ _ i_v0 i_v2 i_q1 (iv_w (a := 0) (b := 4) (by decide) (by decide) (show (0 : Int) ≤ (0 : Int32).toInt ∧ (0 : Int32).toInt ≤ 0 by decide)) (show 0 + (4 - 0) * 2 < ((cfFU : Nat) : Int) by omega)
def QM_sum (v1 : Int32) (v2 : Int32) (o0 : cf_O) (r : (Int32 × cf_O)) : Prop := (okO I_M r.2) ∧ (Fr (fr_M [70] [69] []) o0 r.2) ∧ True
def HM_sum (yv1 : Int32) (yv2 : Int32) (yo0 : cf_O) (n : Nat) : Prop := (∀ (v1 : Int32) (v2 : Int32) (v3 : Int32) (v4 : Int32) (v5 : Int32) (o0 : cf_O), (okO I_M o0) → (Fr (fr_M [70] [69] []) yo0 o0) → ((0 : Int) ≤ v2.toInt ∧ v2.toInt ≤ 4) → ((0 : Int) ≤ v3.toInt ∧ v3.toInt ≤ 0) → ((1 : Int) ≤ v4.toInt ∧ v4.toInt ≤ 81) → ((0 : Int) ≤ v5.toInt ∧ v5.toInt ≤ 4) → ((0 : Int) ≤ (o0.1 0).toInt ∧ (o0.1 0).toInt ≤ 0) → ((1 : Int) ≤ (o0.1 37).toInt ∧ (o0.1 37).toInt ≤ 9) → ((1 : Int) ≤ (o0.1 38).toInt ∧ (o0.1 38).toInt ≤ 1) → ((1 : Int) ≤ (o0.1 43).toInt ∧ (o0.1 43).toInt ≤ 200) → ((0 : Int) ≤ (o0.1 70).toInt ∧ (o0.1 70).toInt ≤ 0) → ((0 : Int) ≤ (o0.1 95).toInt ∧ (o0.1 95).toInt ≤ 0) → ((v5.toInt = 0 ∧ v4.toInt = 1) ∨ (v5.toInt = 1 ∧ v4.toInt = 3) ∨ (v5.toInt = 2 ∧ v4.toInt = 9) ∨ (v5.toInt = 3 ∧ v4.toInt = 27) ∨ (v5.toInt = 4 ∧ v4.toInt = 81)) → 100000 + (5 - v5.toInt) < (n : Int) → tt (gM_sum n 0 v1 v2 v3 v4 v5 0 0 0 o0) (QM_sum yv1 yv2 yo0)) ∧ (∀ (v1 : Int32) (v2 : Int32) (v3 : Int32) (v4 : Int32) (v5 : Int32) (o0 : cf_O), (okO I_M o0) → (Fr (fr_M [70] [69] []) yo0 o0) → ((0 : Int) ≤ v2.toInt ∧ v2.toInt ≤ 4) → ((1 : Int) ≤ v4.toInt ∧ v4.toInt ≤ 81) → ((0 : Int) ≤ v5.toInt ∧ v5.toInt ≤ 17) → ((0 : Int) ≤ (o0.1 0).toInt ∧ (o0.1 0).toInt ≤ 0) → ((1 : Int) ≤ (o0.1 37).toInt ∧ (o0.1 37).toInt ≤ 9) → ((1 : Int) ≤ (o0.1 38).toInt ∧ (o0.1 38).toInt ≤ 1) → ((1 : Int) ≤ (o0.1 43).toInt ∧ (o0.1 43).toInt ≤ 200) → ((0 : Int) ≤ (o0.1 95).toInt ∧ (o0.1 95).toInt ≤ 0) → ((o0.1 70).toInt ≤ v5.toInt) → (v4.toInt ≤ 81) → (1 ≤ v4.toInt) → (17 - v5.toInt) * 200 < (n : Int) → tt (gM_sum n 1 v1 v2 v3 v4 v5 0 0 0 o0) (QM_sum yv1 yv2 yo0)) ∧ (∀ (v1 : Int32) (v2 : Int32) (v3 : Int32) (v4 : Int32) (v5 : Int32) (v6 : Int32) (v7 : Int32) (o0 : cf_O), (okO I_M o0) → (Fr (fr_M [70] [69] []) yo0 o0) → ((0 : Int) ≤ v2.toInt ∧ v2.toInt ≤ 4) → ((1 : Int) ≤ v4.toInt ∧ v4.toInt ≤ 81) → ((0 : Int) ≤ v5.toInt ∧ v5.toInt ≤ 16) → ((0 : Int) ≤ v6.toInt ∧ v6.toInt ≤ 1) → ((0 : Int) ≤ v7.toInt ∧ v7.toInt ≤ 16) → ((0 : Int) ≤ (o0.1 0).toInt ∧ (o0.1 0).toInt ≤ 0) → ((1 : Int) ≤ (o0.1 37).toInt ∧ (o0.1 37).toInt ≤ 9) → ((1 : Int) ≤ (o0.1 38).toInt ∧ (o0.1 38).toInt ≤ 1) → ((1 : Int) ≤ (o0.1 43).toInt ∧ (o0.1 43).toInt ≤ 200) → ((0 : Int) ≤ (o0.1 95).toInt ∧ (o0.1 95).toInt ≤ 0) → ((o0.1 70).toInt ≤ v5.toInt) → (v4.toInt ≤ 81) → (1 ≤ v4.toInt) → (v5.toInt ≤ 15) → (16 - v5.toInt) * 200 + 101 + (17 - v7.toInt) < (n : Int) → tt (gM_sum n 2 v1 v2 v3 v4 v5 v6 v7 0 o0) (QM_sum yv1 yv2 yo0)) ∧ (∀ (v1 : Int32) (v2 : Int32) (v3 : Int32) (v4 : Int32) (v5 : Int32) (v7 : Int32) (v8 : Int32) (o0 : cf_O), (okO I_M o0) → (Fr (fr_M [70] [69] []) yo0 o0) → ((0 : Int) ≤ v2.toInt ∧ v2.toInt ≤ 4) → ((1 : Int) ≤ v4.toInt ∧ v4.toInt ≤ 81) → ((0 : Int) ≤ v5.toInt ∧ v5.toInt ≤ 16) → (((-1) : Int) ≤ v7.toInt ∧ v7.toInt ≤ 81) → ((0 : Int) ≤ v8.toInt ∧ v8.toInt ≤ 81) → ((0 : Int) ≤ (o0.1 0).toInt ∧ (o0.1 0).toInt ≤ 0) → ((1 : Int) ≤ (o0.1 37).toInt ∧ (o0.1 37).toInt ≤ 9) → ((1 : Int) ≤ (o0.1 38).toInt ∧ (o0.1 38).toInt ≤ 1) → ((1 : Int) ≤ (o0.1 43).toInt ∧ (o0.1 43).toInt ≤ 200) → ((0 : Int) ≤ (o0.1 95).toInt ∧ (o0.1 95).toInt ≤ 0) → ((o0.1 70).toInt ≤ v5.toInt) → (v4.toInt ≤ 81) → (1 ≤ v4.toInt) → (v8.toInt ≤ v4.toInt) → (v5.toInt ≤ 15) → (16 - v5.toInt) * 200 + 1 + (82 - v8.toInt) < (n : Int) → tt (gM_sum n 3 v1 v2 v3 v4 v5 0 v7 v8 o0) (QM_sum yv1 yv2 yo0))
set_option maxHeartbeats 4000000 in
set_option maxRecDepth 100000 in
theorem tM_sum_118 {yv1 : Int32} {yv2 : Int32} {yo0 : cf_O} {n : Nat} (H : HM_sum yv1 yv2 yo0 n) (v1 : Int32) (v2 : Int32) (v3 : Int32) (v4 : Int32) (v5 : Int32) (v7 : Int32) (v8 : Int32) (o0 : cf_O) (k_o0 : okO I_M o0) (r_o0 : Fr (fr_M [70] [69] []) yo0 o0) (i_v2 : (0 : Int) ≤ v2.toInt ∧ v2.toInt ≤ 4) (i_v4 : (1 : Int) ≤ v4.toInt ∧ v4.toInt ≤ 81) (i_v5 : (0 : Int) ≤ v5.toInt ∧ v5.toInt ≤ 16) (i_v7 : ((-1) : Int) ≤ v7.toInt ∧ v7.toInt ≤ 81) (i_v8 : (0 : Int) ≤ v8.toInt ∧ v8.toInt ≤ 81) (f_o0_0 : (0 : Int) ≤ (o0.1 0).toInt ∧ (o0.1 0).toInt ≤ 0) (f_o0_37 : (1 : Int) ≤ (o0.1 37).toInt ∧ (o0.1 37).toInt ≤ 9) (f_o0_38 : (1 : Int) ≤ (o0.1 38).toInt ∧ (o0.1 38).toInt ≤ 1) (f_o0_43 : (1 : Int) ≤ (o0.1 43).toInt ∧ (o0.1 43).toInt ≤ 200) (f_o0_95 : (0 : Int) ≤ (o0.1 95).toInt ∧ (o0.1 95).toInt ≤ 0) (x_0 : (o0.1 70).toInt ≤ v5.toInt) (x_1 : v4.toInt ≤ 81) (x_2 : 1 ≤ v4.toInt) (x_3 : v8.toInt ≤ v4.toInt) (x_4 : v5.toInt ≤ 15) (hm : (16 - v5.toInt) * 200 + 1 + (82 - v8.toInt) ≤ (n : Int)) : tt (fM_sum_118 (gM_sum n) v1 v2 v3 v4 v5 v7 v8 o0) (QM_sum yv1 yv2 yo0) := by
  unfold fM_sum_118
  have i_v1 := iv_top v1
  have i_v3 := iv_top v3
  have g_o0_70 : (0 : Int) ≤ (o0.1 70).toInt ∧ (o0.1 70).toInt ≤ 16 := k_o0.1 70
  refine tt_if (fun c1 => ?_) (fun c1 => ?_)
  · have wc1 : v4.toInt ≤ v8.toInt := c_le c1
    have i2 : (1 : Int) ≤ v8.toInt ∧ v8.toInt ≤ 81 := nr_ler c1 i_v4 i_v8 (by decide) (by decide)
    refine tt_n (ix_rel (x := (o0.1 70)) (by omega) (by omega)) ?_
    have i3 : (0 : Int) ≤ (o0.1 70).toInt ∧ (o0.1 70).toInt ≤ 15 := (by omega)
    refine tt_ko ?_
    have k4 := ok_xp (k := 69) (i := (o0.1 70).toNatClampNeg) (v := v7) k_o0 i_v7
    have r5 := fr_xp (k := 69) (i := (o0.1 70).toNatClampNeg) (v := v7) r_o0 rfl
    refine tt_kv (P := fun z => ((1 : Int) ≤ z.toInt ∧ z.toInt ≤ 16) ∧ z.toInt = (o0.1 70).toInt + 1) ⟨iv_add i3 (show (1 : Int) ≤ (1 : Int32).toInt ∧ (1 : Int32).toInt ≤ 1 by decide) (by decide) (by decide) (by decide) (by decide), iq_add i3 (show (1 : Int) ≤ (1 : Int32).toInt ∧ (1 : Int32).toInt ≤ 1 by decide) (by decide) (by decide)⟩ (fun x6 qi7 => ?_)
    obtain ⟨i7, ei7⟩ := qi7
    refine tt_ko ?_
    have k8 := ok_fp (k := 70) (v := x6) k4 (iv_w (a := 0) (b := 16) (by decide) (by decide) i7)
    have r9 := fr_fp (k := 70) (v := x6) r5 rfl
    refine tt_b (sM_literalsOf _ _ i_v7 i_v2) (fun q10 hq10 => ?_)
    have i_q10 := iv_top q10
    refine tt_if (fun c11 => ?_) (fun c11 => ?_)
    · have wc11 : q10.toInt ≤ (0 : Int) := c_le c11
      have i12 : ((-2147483648) : Int) ≤ q10.toInt ∧ q10.toInt ≤ 0 := nr_lel c11 (iv_top q10) (show (0 : Int) ≤ (0 : Int32).toInt ∧ (0 : Int32).toInt ≤ 0 by decide) (by decide) (by decide)
      try unfold fM_sum_236
      refine tt_kv (P := fun z => ((-2147483648) : Int) ≤ z.toInt ∧ z.toInt ≤ 2147483647) (iv_add (iv_top v3) (show (0 : Int) ≤ (0 : Int32).toInt ∧ (0 : Int32).toInt ≤ 0 by decide) (by decide) (by decide) (by decide) (by decide)) (fun x13 i14 => ?_)
      refine tt_if (fun c15 => ?_) (fun c15 => ?_)
      · have wc15 : x6.toInt ≤ (1 : Int) := c_le c15
        have i16 : (1 : Int) ≤ x6.toInt ∧ x6.toInt ≤ 1 := nr_lel c15 i7 (show (1 : Int) ≤ (1 : Int32).toInt ∧ (1 : Int32).toInt ≤ 1 by decide) (by decide) (by decide)
        have i17 : (0 : Int) ≤ (o0.1 70).toInt ∧ (o0.1 70).toInt ≤ 0 := by omega
        try unfold fM_sum_250
        refine tt_kv (P := fun z => ((-2147483648) : Int) ≤ z.toInt ∧ z.toInt ≤ 2147483647) (iv_add i14 (show (0 : Int) ≤ (0 : Int32).toInt ∧ (0 : Int32).toInt ≤ 0 by decide) (by decide) (by decide) (by decide) (by decide)) (fun x18 i19 => ?_)
        try unfold fM_sum_252
        refine tt_kv (P := fun z => ((1 : Int) ≤ z.toInt ∧ z.toInt ≤ 17) ∧ z.toInt = v5.toInt + 1) ⟨iv_add i_v5 (show (1 : Int) ≤ (1 : Int32).toInt ∧ (1 : Int32).toInt ≤ 1 by decide) (by decide) (by decide) (by decide) (by decide), iq_add i_v5 (show (1 : Int) ≤ (1 : Int32).toInt ∧ (1 : Int32).toInt ≤ 1 by decide) (by decide) (by decide)⟩ (fun x20 qi21 => ?_)
        obtain ⟨i21, ei21⟩ := qi21
        exact H.2.1 _ _ _ _ _ _ k8 r9 i_v2 i_v4 (iv_w (a := 0) (b := 17) (by decide) (by decide) i21) f_o0_0 f_o0_37 f_o0_38 f_o0_43 f_o0_95 (show x6.toInt ≤ x20.toInt by omega) (show v4.toInt ≤ 81 by omega) (show 1 ≤ v4.toInt by omega) (show (17 - x20.toInt) * 200 < (n : Int) by omega)
      · have wc15 : (1 : Int) < x6.toInt := c_nle c15
        have i22 : (2 : Int) ≤ x6.toInt ∧ x6.toInt ≤ 16 := nr_nler c15 (show (1 : Int) ≤ (1 : Int32).toInt ∧ (1 : Int32).toInt ≤ 1 by decide) i7 (by decide) (by decide)
        have i23 : (1 : Int) ≤ (o0.1 70).toInt ∧ (o0.1 70).toInt ≤ 15 := by omega
        try unfold fM_sum_250
        refine tt_kv (P := fun z => ((-2147483648) : Int) ≤ z.toInt ∧ z.toInt ≤ 2147483647) (iv_top _) (fun x24 i25 => ?_)
        try unfold fM_sum_252
        refine tt_kv (P := fun z => ((1 : Int) ≤ z.toInt ∧ z.toInt ≤ 17) ∧ z.toInt = v5.toInt + 1) ⟨iv_add i_v5 (show (1 : Int) ≤ (1 : Int32).toInt ∧ (1 : Int32).toInt ≤ 1 by decide) (by decide) (by decide) (by decide) (by decide), iq_add i_v5 (show (1 : Int) ≤ (1 : Int32).toInt ∧ (1 : Int32).toInt ≤ 1 by decide) (by decide) (by decide)⟩ (fun x26 qi27 => ?_)
        obtain ⟨i27, ei27⟩ := qi27
        exact H.2.1 _ _ _ _ _ _ k8 r9 i_v2 i_v4 (iv_w (a := 0) (b := 17) (by decide) (by decide) i27) f_o0_0 f_o0_37 f_o0_38 f_o0_43 f_o0_95 (show x6.toInt ≤ x26.toInt by omega) (show v4.toInt ≤ 81 by omega) (show 1 ≤ v4.toInt by omega) (show (17 - x26.toInt) * 200 < (n : Int) by omega)
    · have wc11 : (0 : Int) < q10.toInt := c_nle c11
      have i28 : (1 : Int) ≤ q10.toInt ∧ q10.toInt ≤ 2147483647 := nr_nler c11 (show (0 : Int) ≤ (0 : Int32).toInt ∧ (0 : Int32).toInt ≤ 0 by decide) (iv_top q10) (by decide) (by decide)
      refine tt_kv (P := fun z => ((0 : Int) ≤ z.toInt ∧ z.toInt ≤ 2147483646) ∧ z.toInt = q10.toInt - 1) ⟨iv_sub i28 (show (1 : Int) ≤ (1 : Int32).toInt ∧ (1 : Int32).toInt ≤ 1 by decide) (by decide) (by decide) (by decide) (by decide), iq_sub i28 (show (1 : Int) ≤ (1 : Int32).toInt ∧ (1 : Int32).toInt ≤ 1 by decide) (by decide) (by decide)⟩ (fun x29 qi30 => ?_)
      obtain ⟨i30, ei30⟩ := qi30
      try unfold fM_sum_236
      refine tt_kv (P := fun z => ((-2147483648) : Int) ≤ z.toInt ∧ z.toInt ≤ 2147483647) (iv_top _) (fun x31 i32 => ?_)
      refine tt_if (fun c33 => ?_) (fun c33 => ?_)
      · have wc33 : x6.toInt ≤ (1 : Int) := c_le c33
        have i34 : (1 : Int) ≤ x6.toInt ∧ x6.toInt ≤ 1 := nr_lel c33 i7 (show (1 : Int) ≤ (1 : Int32).toInt ∧ (1 : Int32).toInt ≤ 1 by decide) (by decide) (by decide)
        have i35 : (0 : Int) ≤ (o0.1 70).toInt ∧ (o0.1 70).toInt ≤ 0 := by omega
        try unfold fM_sum_250
        refine tt_kv (P := fun z => ((-2147483648) : Int) ≤ z.toInt ∧ z.toInt ≤ 2147483647) (iv_add i32 (show (0 : Int) ≤ (0 : Int32).toInt ∧ (0 : Int32).toInt ≤ 0 by decide) (by decide) (by decide) (by decide) (by decide)) (fun x36 i37 => ?_)
        try unfold fM_sum_252
        refine tt_kv (P := fun z => ((1 : Int) ≤ z.toInt ∧ z.toInt ≤ 17) ∧ z.toInt = v5.toInt + 1) ⟨iv_add i_v5 (show (1 : Int) ≤ (1 : Int32).toInt ∧ (1 : Int32).toInt ≤ 1 by decide) (by decide) (by decide) (by decide) (by decide), iq_add i_v5 (show (1 : Int) ≤ (1 : Int32).toInt ∧ (1 : Int32).toInt ≤ 1 by decide) (by decide) (by decide)⟩ (fun x38 qi39 => ?_)
        obtain ⟨i39, ei39⟩ := qi39
        exact H.2.1 _ _ _ _ _ _ k8 r9 i_v2 i_v4 (iv_w (a := 0) (b := 17) (by decide) (by decide) i39) f_o0_0 f_o0_37 f_o0_38 f_o0_43 f_o0_95 (show x6.toInt ≤ x38.toInt by omega) (show v4.toInt ≤ 81 by omega) (show 1 ≤ v4.toInt by omega) (show (17 - x38.toInt) * 200 < (n : Int) by omega)
      · have wc33 : (1 : Int) < x6.toInt := c_nle c33
        have i40 : (2 : Int) ≤ x6.toInt ∧ x6.toInt ≤ 16 := nr_nler c33 (show (1 : Int) ≤ (1 : Int32).toInt ∧ (1 : Int32).toInt ≤ 1 by decide) i7 (by decide) (by decide)
        have i41 : (1 : Int) ≤ (o0.1 70).toInt ∧ (o0.1 70).toInt ≤ 15 := by omega
        try unfold fM_sum_250
        refine tt_kv (P := fun z => ((-2147483648) : Int) ≤ z.toInt ∧ z.toInt ≤ 2147483647) (iv_top _) (fun x42 i43 => ?_)
        try unfold fM_sum_252
        refine tt_kv (P := fun z => ((1 : Int) ≤ z.toInt ∧ z.toInt ≤ 17) ∧ z.toInt = v5.toInt + 1) ⟨iv_add i_v5 (show (1 : Int) ≤ (1 : Int32).toInt ∧ (1 : Int32).toInt ≤ 1 by decide) (by decide) (by decide) (by decide) (by decide), iq_add i_v5 (show (1 : Int) ≤ (1 : Int32).toInt ∧ (1 : Int32).toInt ≤ 1 by decide) (by decide) (by decide)⟩ (fun x44 qi45 => ?_)
        obtain ⟨i45, ei45⟩ := qi45
        exact H.2.1 _ _ _ _ _ _ k8 r9 i_v2 i_v4 (iv_w (a := 0) (b := 17) (by decide) (by decide) i45) f_o0_0 f_o0_37 f_o0_38 f_o0_43 f_o0_95 (show x6.toInt ≤ x44.toInt by omega) (show v4.toInt ≤ 81 by omega) (show 1 ≤ v4.toInt by omega) (show (17 - x44.toInt) * 200 < (n : Int) by omega)
  · have wc1 : v8.toInt < v4.toInt := c_nle c1
    have i46 : (0 : Int) ≤ v8.toInt ∧ v8.toInt ≤ 80 := nr_nlel c1 i_v8 i_v4 (by decide) (by decide)
    refine tt_b (sM_isOne _ _ _ i_v5 i_v2) (fun q47 hq47 => ?_)
    obtain ⟨i_q47, -⟩ := hq47
    refine tt_if (fun c48 => ?_) (fun c48 => ?_)
    · have wc48 : q47.toInt = (0 : Int) := c_eq c48
      have i49 : (0 : Int) ≤ q47.toInt ∧ q47.toInt ≤ 0 := nr_eql c48 i_q47 (show (0 : Int) ≤ (0 : Int32).toInt ∧ (0 : Int32).toInt ≤ 0 by decide) (by decide) (by decide)
      try unfold fM_sum_150
      try unfold fM_sum_151
      refine tt_if (fun c50 => ?_) (fun c50 => ?_)
      · have wc50 : (0 : Int) = (0 : Int) := c_eq c50
        try unfold fM_sum_183
        try unfold fM_sum_185
        refine tt_kv (P := fun z => ((1 : Int) ≤ z.toInt ∧ z.toInt ≤ 81) ∧ z.toInt = v8.toInt + 1) ⟨iv_add i46 (show (1 : Int) ≤ (1 : Int32).toInt ∧ (1 : Int32).toInt ≤ 1 by decide) (by decide) (by decide) (by decide) (by decide), iq_add i46 (show (1 : Int) ≤ (1 : Int32).toInt ∧ (1 : Int32).toInt ≤ 1 by decide) (by decide) (by decide)⟩ (fun x51 qi52 => ?_)
        obtain ⟨i52, ei52⟩ := qi52
        exact H.2.2.2 _ _ _ _ _ _ _ _ k_o0 r_o0 i_v2 i_v4 i_v5 i_v7 (iv_w (a := 0) (b := 81) (by decide) (by decide) i52) f_o0_0 f_o0_37 f_o0_38 f_o0_43 f_o0_95 (show (o0.1 70).toInt ≤ v5.toInt by omega) (show v4.toInt ≤ 81 by omega) (show 1 ≤ v4.toInt by omega) (show x51.toInt ≤ v4.toInt by omega) (show v5.toInt ≤ 15 by omega) (show (16 - v5.toInt) * 200 + 1 + (82 - x51.toInt) < (n : Int) by omega)
      · have wc50 : ¬ (0 : Int) = (0 : Int) := c_ne c50
        exact (dd_ne c50 (show (0 : Int) ≤ (0 : Int32).toInt ∧ (0 : Int32).toInt ≤ 0 by decide) (show (0 : Int) ≤ (0 : Int32).toInt ∧ (0 : Int32).toInt ≤ 0 by decide)).elim
    · have wc48 : ¬ q47.toInt = (0 : Int) := c_ne c48
      have i53 : (1 : Int) ≤ q47.toInt ∧ q47.toInt ≤ 1 := nr_nela c48 i_q47 (show (0 : Int) ≤ (0 : Int32).toInt ∧ (0 : Int32).toInt ≤ 0 by decide) (by decide) (by decide)
      refine tt_b (sM_isPrime _ _ _ i46 i_v2) (fun q54 hq54 => ?_)
      obtain ⟨i_q54, -⟩ := hq54
      refine tt_if (fun c55 => ?_) (fun c55 => ?_)
      · have wc55 : q54.toInt = (0 : Int) := c_eq c55
        have i56 : (0 : Int) ≤ q54.toInt ∧ q54.toInt ≤ 0 := nr_eql c55 i_q54 (show (0 : Int) ≤ (0 : Int32).toInt ∧ (0 : Int32).toInt ≤ 0 by decide) (by decide) (by decide)
        try unfold fM_sum_150
        try unfold fM_sum_151
        refine tt_if (fun c57 => ?_) (fun c57 => ?_)
        · have wc57 : (0 : Int) = (0 : Int) := c_eq c57
          try unfold fM_sum_183
          try unfold fM_sum_185
          refine tt_kv (P := fun z => ((1 : Int) ≤ z.toInt ∧ z.toInt ≤ 81) ∧ z.toInt = v8.toInt + 1) ⟨iv_add i46 (show (1 : Int) ≤ (1 : Int32).toInt ∧ (1 : Int32).toInt ≤ 1 by decide) (by decide) (by decide) (by decide) (by decide), iq_add i46 (show (1 : Int) ≤ (1 : Int32).toInt ∧ (1 : Int32).toInt ≤ 1 by decide) (by decide) (by decide)⟩ (fun x58 qi59 => ?_)
          obtain ⟨i59, ei59⟩ := qi59
          exact H.2.2.2 _ _ _ _ _ _ _ _ k_o0 r_o0 i_v2 i_v4 i_v5 i_v7 (iv_w (a := 0) (b := 81) (by decide) (by decide) i59) f_o0_0 f_o0_37 f_o0_38 f_o0_43 f_o0_95 (show (o0.1 70).toInt ≤ v5.toInt by omega) (show v4.toInt ≤ 81 by omega) (show 1 ≤ v4.toInt by omega) (show x58.toInt ≤ v4.toInt by omega) (show v5.toInt ≤ 15 by omega) (show (16 - v5.toInt) * 200 + 1 + (82 - x58.toInt) < (n : Int) by omega)
        · have wc57 : ¬ (0 : Int) = (0 : Int) := c_ne c57
          exact (dd_ne c57 (show (0 : Int) ≤ (0 : Int32).toInt ∧ (0 : Int32).toInt ≤ 0 by decide) (show (0 : Int) ≤ (0 : Int32).toInt ∧ (0 : Int32).toInt ≤ 0 by decide)).elim
      · have wc55 : ¬ q54.toInt = (0 : Int) := c_ne c55
        have i60 : (1 : Int) ≤ q54.toInt ∧ q54.toInt ≤ 1 := nr_nela c55 i_q54 (show (0 : Int) ≤ (0 : Int32).toInt ∧ (0 : Int32).toInt ≤ 0 by decide) (by decide) (by decide)
        try unfold fM_sum_151
        refine tt_if (fun c61 => ?_) (fun c61 => ?_)
        · have wc61 : (1 : Int) = (0 : Int) := c_eq c61
          exact (dd_eq c61 (show (1 : Int) ≤ (1 : Int32).toInt ∧ (1 : Int32).toInt ≤ 1 by decide) (show (0 : Int) ≤ (0 : Int32).toInt ∧ (0 : Int32).toInt ≤ 0 by decide) (by decide)).elim
        · have wc61 : ¬ (1 : Int) = (0 : Int) := c_ne c61
          refine tt_if (fun c62 => ?_) (fun c62 => ?_)
          · have wc62 : v7.toInt < (0 : Int) := c_lt c62
            have i63 : ((-1) : Int) ≤ v7.toInt ∧ v7.toInt ≤ (-1) := nr_ltl c62 i_v7 (show (0 : Int) ≤ (0 : Int32).toInt ∧ (0 : Int32).toInt ≤ 0 by decide) (by decide) (by decide)
            try unfold fM_sum_178
            try unfold fM_sum_185
            refine tt_kv (P := fun z => ((1 : Int) ≤ z.toInt ∧ z.toInt ≤ 81) ∧ z.toInt = v8.toInt + 1) ⟨iv_add i46 (show (1 : Int) ≤ (1 : Int32).toInt ∧ (1 : Int32).toInt ≤ 1 by decide) (by decide) (by decide) (by decide) (by decide), iq_add i46 (show (1 : Int) ≤ (1 : Int32).toInt ∧ (1 : Int32).toInt ≤ 1 by decide) (by decide) (by decide)⟩ (fun x64 qi65 => ?_)
            obtain ⟨i65, ei65⟩ := qi65
            exact H.2.2.2 _ _ _ _ _ _ _ _ k_o0 r_o0 i_v2 i_v4 i_v5 (iv_w (a := (-1)) (b := 81) (by decide) (by decide) i46) (iv_w (a := 0) (b := 81) (by decide) (by decide) i65) f_o0_0 f_o0_37 f_o0_38 f_o0_43 f_o0_95 (show (o0.1 70).toInt ≤ v5.toInt by omega) (show v4.toInt ≤ 81 by omega) (show 1 ≤ v4.toInt by omega) (show x64.toInt ≤ v4.toInt by omega) (show v5.toInt ≤ 15 by omega) (show (16 - v5.toInt) * 200 + 1 + (82 - x64.toInt) < (n : Int) by omega)
          · have wc62 : (0 : Int) ≤ v7.toInt := c_nlt c62
            have i66 : (0 : Int) ≤ v7.toInt ∧ v7.toInt ≤ 81 := nr_nltr c62 (show (0 : Int) ≤ (0 : Int32).toInt ∧ (0 : Int32).toInt ≤ 0 by decide) i_v7 (by decide) (by decide)
            refine tt_b (sM_literalsOf _ _ (iv_w (a := (-1)) (b := 81) (by decide) (by decide) i46) i_v2) (fun q67 hq67 => ?_)
            have i_q67 := iv_top q67
            refine tt_b (sM_literalsOf _ _ (iv_w (a := (-1)) (b := 81) (by decide) (by decide) i66) i_v2) (fun q68 hq68 => ?_)
            have i_q68 := iv_top q68
            refine tt_if (fun c69 => ?_) (fun c69 => ?_)
            · have wc69 : q68.toInt ≤ q67.toInt := c_le c69
              try unfold fM_sum_183
              try unfold fM_sum_185
              refine tt_kv (P := fun z => ((1 : Int) ≤ z.toInt ∧ z.toInt ≤ 81) ∧ z.toInt = v8.toInt + 1) ⟨iv_add i46 (show (1 : Int) ≤ (1 : Int32).toInt ∧ (1 : Int32).toInt ≤ 1 by decide) (by decide) (by decide) (by decide) (by decide), iq_add i46 (show (1 : Int) ≤ (1 : Int32).toInt ∧ (1 : Int32).toInt ≤ 1 by decide) (by decide) (by decide)⟩ (fun x70 qi71 => ?_)
              obtain ⟨i71, ei71⟩ := qi71
              exact H.2.2.2 _ _ _ _ _ _ _ _ k_o0 r_o0 i_v2 i_v4 i_v5 (iv_w (a := (-1)) (b := 81) (by decide) (by decide) i66) (iv_w (a := 0) (b := 81) (by decide) (by decide) i71) f_o0_0 f_o0_37 f_o0_38 f_o0_43 f_o0_95 (show (o0.1 70).toInt ≤ v5.toInt by omega) (show v4.toInt ≤ 81 by omega) (show 1 ≤ v4.toInt by omega) (show x70.toInt ≤ v4.toInt by omega) (show v5.toInt ≤ 15 by omega) (show (16 - v5.toInt) * 200 + 1 + (82 - x70.toInt) < (n : Int) by omega)
            · have wc69 : q67.toInt < q68.toInt := c_nle c69
              have i72 : ((-2147483648) : Int) ≤ q67.toInt ∧ q67.toInt ≤ 2147483646 := nr_nlel c69 (iv_top q67) (iv_top q68) (by decide) (by decide)
              have i73 : ((-2147483647) : Int) ≤ q68.toInt ∧ q68.toInt ≤ 2147483647 := nr_nler c69 (iv_top q67) (iv_top q68) (by decide) (by decide)
              try unfold fM_sum_178
              try unfold fM_sum_185
              refine tt_kv (P := fun z => ((1 : Int) ≤ z.toInt ∧ z.toInt ≤ 81) ∧ z.toInt = v8.toInt + 1) ⟨iv_add i46 (show (1 : Int) ≤ (1 : Int32).toInt ∧ (1 : Int32).toInt ≤ 1 by decide) (by decide) (by decide) (by decide) (by decide), iq_add i46 (show (1 : Int) ≤ (1 : Int32).toInt ∧ (1 : Int32).toInt ≤ 1 by decide) (by decide) (by decide)⟩ (fun x74 qi75 => ?_)
              obtain ⟨i75, ei75⟩ := qi75
              exact H.2.2.2 _ _ _ _ _ _ _ _ k_o0 r_o0 i_v2 i_v4 i_v5 (iv_w (a := (-1)) (b := 81) (by decide) (by decide) i46) (iv_w (a := 0) (b := 81) (by decide) (by decide) i75) f_o0_0 f_o0_37 f_o0_38 f_o0_43 f_o0_95 (show (o0.1 70).toInt ≤ v5.toInt by omega) (show v4.toInt ≤ 81 by omega) (show 1 ≤ v4.toInt by omega) (show x74.toInt ≤ v4.toInt by omega) (show v5.toInt ≤ 15 by omega) (show (16 - v5.toInt) * 200 + 1 + (82 - x74.toInt) < (n : Int) by omega)
set_option maxHeartbeats 4000000 in
set_option maxRecDepth 100000 in
theorem tM_sum_61 {yv1 : Int32} {yv2 : Int32} {yo0 : cf_O} {n : Nat} (H : HM_sum yv1 yv2 yo0 n) (v1 : Int32) (v2 : Int32) (v3 : Int32) (v4 : Int32) (v5 : Int32) (v6 : Int32) (v7 : Int32) (o0 : cf_O) (k_o0 : okO I_M o0) (r_o0 : Fr (fr_M [70] [69] []) yo0 o0) (i_v2 : (0 : Int) ≤ v2.toInt ∧ v2.toInt ≤ 4) (i_v4 : (1 : Int) ≤ v4.toInt ∧ v4.toInt ≤ 81) (i_v5 : (0 : Int) ≤ v5.toInt ∧ v5.toInt ≤ 16) (i_v6 : (0 : Int) ≤ v6.toInt ∧ v6.toInt ≤ 1) (i_v7 : (0 : Int) ≤ v7.toInt ∧ v7.toInt ≤ 16) (f_o0_0 : (0 : Int) ≤ (o0.1 0).toInt ∧ (o0.1 0).toInt ≤ 0) (f_o0_37 : (1 : Int) ≤ (o0.1 37).toInt ∧ (o0.1 37).toInt ≤ 9) (f_o0_38 : (1 : Int) ≤ (o0.1 38).toInt ∧ (o0.1 38).toInt ≤ 1) (f_o0_43 : (1 : Int) ≤ (o0.1 43).toInt ∧ (o0.1 43).toInt ≤ 200) (f_o0_95 : (0 : Int) ≤ (o0.1 95).toInt ∧ (o0.1 95).toInt ≤ 0) (x_0 : (o0.1 70).toInt ≤ v5.toInt) (x_1 : v4.toInt ≤ 81) (x_2 : 1 ≤ v4.toInt) (x_3 : v5.toInt ≤ 15) (hm : (16 - v5.toInt) * 200 + 101 + (17 - v7.toInt) ≤ (n : Int)) : tt (fM_sum_61 (gM_sum n) v1 v2 v3 v4 v5 v6 v7 o0) (QM_sum yv1 yv2 yo0) := by
  unfold fM_sum_61
  have i_v1 := iv_top v1
  have i_v3 := iv_top v3
  have g_o0_70 : (0 : Int) ≤ (o0.1 70).toInt ∧ (o0.1 70).toInt ≤ 16 := k_o0.1 70
  refine tt_if (fun c1 => ?_) (fun c1 => ?_)
  · have wc1 : (o0.1 70).toInt ≤ v7.toInt := c_le c1
    refine tt_if (fun c2 => ?_) (fun c2 => ?_)
    · have wc2 : v6.toInt = (0 : Int) := c_eq c2
      have i3 : (0 : Int) ≤ v6.toInt ∧ v6.toInt ≤ 0 := nr_eql c2 i_v6 (show (0 : Int) ≤ (0 : Int32).toInt ∧ (0 : Int32).toInt ≤ 0 by decide) (by decide) (by decide)
      exact H.2.2.2 _ _ _ _ _ _ _ _ k_o0 r_o0 i_v2 i_v4 i_v5 (iv_w (a := (-1)) (b := 81) (by decide) (by decide) (show ((-1) : Int) ≤ ((-1) : Int32).toInt ∧ ((-1) : Int32).toInt ≤ (-1) by decide)) (iv_w (a := 0) (b := 81) (by decide) (by decide) (show (0 : Int) ≤ (0 : Int32).toInt ∧ (0 : Int32).toInt ≤ 0 by decide)) f_o0_0 f_o0_37 f_o0_38 f_o0_43 f_o0_95 (show (o0.1 70).toInt ≤ v5.toInt by omega) (show v4.toInt ≤ 81 by omega) (show 1 ≤ v4.toInt by omega) (show 0 ≤ v4.toInt by omega) (show v5.toInt ≤ 15 by omega) (show (16 - v5.toInt) * 200 + 1 + (82 - 0) < (n : Int) by omega)
    · have wc2 : ¬ v6.toInt = (0 : Int) := c_ne c2
      have i4 : (1 : Int) ≤ v6.toInt ∧ v6.toInt ≤ 1 := nr_nela c2 i_v6 (show (0 : Int) ≤ (0 : Int32).toInt ∧ (0 : Int32).toInt ≤ 0 by decide) (by decide) (by decide)
      try unfold fM_sum_252
      refine tt_kv (P := fun z => ((1 : Int) ≤ z.toInt ∧ z.toInt ≤ 17) ∧ z.toInt = v5.toInt + 1) ⟨iv_add i_v5 (show (1 : Int) ≤ (1 : Int32).toInt ∧ (1 : Int32).toInt ≤ 1 by decide) (by decide) (by decide) (by decide) (by decide), iq_add i_v5 (show (1 : Int) ≤ (1 : Int32).toInt ∧ (1 : Int32).toInt ≤ 1 by decide) (by decide) (by decide)⟩ (fun x5 qi6 => ?_)
      obtain ⟨i6, ei6⟩ := qi6
      exact H.2.1 _ _ _ _ _ _ k_o0 r_o0 i_v2 i_v4 (iv_w (a := 0) (b := 17) (by decide) (by decide) i6) f_o0_0 f_o0_37 f_o0_38 f_o0_43 f_o0_95 (show (o0.1 70).toInt ≤ x5.toInt by omega) (show v4.toInt ≤ 81 by omega) (show 1 ≤ v4.toInt by omega) (show (17 - x5.toInt) * 200 < (n : Int) by omega)
  · have wc1 : v7.toInt < (o0.1 70).toInt := c_nle c1
    have i7 : (0 : Int) ≤ v7.toInt ∧ v7.toInt ≤ 15 := nr_nlel c1 i_v7 (k_o0.1 70) (by decide) (by decide)
    have i8 : (1 : Int) ≤ (o0.1 70).toInt ∧ (o0.1 70).toInt ≤ 16 := nr_nler c1 i_v7 (k_o0.1 70) (by decide) (by decide)
    refine tt_if (fun c9 => ?_) (fun c9 => ?_)
    · have wc9 : v6.toInt = (0 : Int) := c_eq c9
      have i10 : (0 : Int) ≤ v6.toInt ∧ v6.toInt ≤ 0 := nr_eql c9 i_v6 (show (0 : Int) ≤ (0 : Int32).toInt ∧ (0 : Int32).toInt ≤ 0 by decide) (by decide) (by decide)
      refine tt_n (ix_ok i7 (by decide) (by decide)) ?_
      refine tt_kv (P := fun z => (((-1) : Int) ≤ z.toInt ∧ z.toInt ≤ 81) ∧ z.toInt = (o0.2.1 69 v7.toNatClampNeg).toInt) ⟨(k_o0.2 69 _), rfl⟩ (fun x11 qi12 => ?_)
      obtain ⟨i12, ei12⟩ := qi12
      refine tt_b (sM_isOne _ _ _ i_v5 i_v2) (fun q13 hq13 => ?_)
      obtain ⟨i_q13, -⟩ := hq13
      refine tt_if (fun c14 => ?_) (fun c14 => ?_)
      · have wc14 : q13.toInt = (0 : Int) := c_eq c14
        have i15 : (0 : Int) ≤ q13.toInt ∧ q13.toInt ≤ 0 := nr_eql c14 i_q13 (show (0 : Int) ≤ (0 : Int32).toInt ∧ (0 : Int32).toInt ≤ 0 by decide) (by decide) (by decide)
        try unfold fM_sum_96
        refine tt_kv (P := fun z => ((1 : Int) ≤ z.toInt ∧ z.toInt ≤ 16) ∧ z.toInt = v7.toInt + 1) ⟨iv_add i7 (show (1 : Int) ≤ (1 : Int32).toInt ∧ (1 : Int32).toInt ≤ 1 by decide) (by decide) (by decide) (by decide) (by decide), iq_add i7 (show (1 : Int) ≤ (1 : Int32).toInt ∧ (1 : Int32).toInt ≤ 1 by decide) (by decide) (by decide)⟩ (fun x16 qi17 => ?_)
        obtain ⟨i17, ei17⟩ := qi17
        exact H.2.2.1 _ _ _ _ _ _ _ _ k_o0 r_o0 i_v2 i_v4 i_v5 (iv_w (a := 0) (b := 1) (by decide) (by decide) (show (0 : Int) ≤ (0 : Int32).toInt ∧ (0 : Int32).toInt ≤ 0 by decide)) (iv_w (a := 0) (b := 16) (by decide) (by decide) i17) f_o0_0 f_o0_37 f_o0_38 f_o0_43 f_o0_95 (show (o0.1 70).toInt ≤ v5.toInt by omega) (show v4.toInt ≤ 81 by omega) (show 1 ≤ v4.toInt by omega) (show v5.toInt ≤ 15 by omega) (show (16 - v5.toInt) * 200 + 101 + (17 - x16.toInt) < (n : Int) by omega)
      · have wc14 : ¬ q13.toInt = (0 : Int) := c_ne c14
        have i18 : (1 : Int) ≤ q13.toInt ∧ q13.toInt ≤ 1 := nr_nela c14 i_q13 (show (0 : Int) ≤ (0 : Int32).toInt ∧ (0 : Int32).toInt ≤ 0 by decide) (by decide) (by decide)
        try unfold fM_sum_91
        try unfold fM_sum_96
        refine tt_kv (P := fun z => ((1 : Int) ≤ z.toInt ∧ z.toInt ≤ 16) ∧ z.toInt = v7.toInt + 1) ⟨iv_add i7 (show (1 : Int) ≤ (1 : Int32).toInt ∧ (1 : Int32).toInt ≤ 1 by decide) (by decide) (by decide) (by decide) (by decide), iq_add i7 (show (1 : Int) ≤ (1 : Int32).toInt ∧ (1 : Int32).toInt ≤ 1 by decide) (by decide) (by decide)⟩ (fun x19 qi20 => ?_)
        obtain ⟨i20, ei20⟩ := qi20
        exact H.2.2.1 _ _ _ _ _ _ _ _ k_o0 r_o0 i_v2 i_v4 i_v5 (iv_w (a := 0) (b := 1) (by decide) (by decide) (show (1 : Int) ≤ (1 : Int32).toInt ∧ (1 : Int32).toInt ≤ 1 by decide)) (iv_w (a := 0) (b := 16) (by decide) (by decide) i20) f_o0_0 f_o0_37 f_o0_38 f_o0_43 f_o0_95 (show (o0.1 70).toInt ≤ v5.toInt by omega) (show v4.toInt ≤ 81 by omega) (show 1 ≤ v4.toInt by omega) (show v5.toInt ≤ 15 by omega) (show (16 - v5.toInt) * 200 + 101 + (17 - x19.toInt) < (n : Int) by omega)
    · have wc9 : ¬ v6.toInt = (0 : Int) := c_ne c9
      have i21 : (1 : Int) ≤ v6.toInt ∧ v6.toInt ≤ 1 := nr_nela c9 i_v6 (show (0 : Int) ≤ (0 : Int32).toInt ∧ (0 : Int32).toInt ≤ 0 by decide) (by decide) (by decide)
      try unfold fM_sum_91
      try unfold fM_sum_96
      refine tt_kv (P := fun z => ((1 : Int) ≤ z.toInt ∧ z.toInt ≤ 16) ∧ z.toInt = v7.toInt + 1) ⟨iv_add i7 (show (1 : Int) ≤ (1 : Int32).toInt ∧ (1 : Int32).toInt ≤ 1 by decide) (by decide) (by decide) (by decide) (by decide), iq_add i7 (show (1 : Int) ≤ (1 : Int32).toInt ∧ (1 : Int32).toInt ≤ 1 by decide) (by decide) (by decide)⟩ (fun x22 qi23 => ?_)
      obtain ⟨i23, ei23⟩ := qi23
      exact H.2.2.1 _ _ _ _ _ _ _ _ k_o0 r_o0 i_v2 i_v4 i_v5 (iv_w (a := 0) (b := 1) (by decide) (by decide) (show (1 : Int) ≤ (1 : Int32).toInt ∧ (1 : Int32).toInt ≤ 1 by decide)) (iv_w (a := 0) (b := 16) (by decide) (by decide) i23) f_o0_0 f_o0_37 f_o0_38 f_o0_43 f_o0_95 (show (o0.1 70).toInt ≤ v5.toInt by omega) (show v4.toInt ≤ 81 by omega) (show 1 ≤ v4.toInt by omega) (show v5.toInt ≤ 15 by omega) (show (16 - v5.toInt) * 200 + 101 + (17 - x22.toInt) < (n : Int) by omega)
set_option maxHeartbeats 4000000 in
set_option maxRecDepth 100000 in
theorem tM_sum_34 {yv1 : Int32} {yv2 : Int32} {yo0 : cf_O} {n : Nat} (H : HM_sum yv1 yv2 yo0 n) (v1 : Int32) (v2 : Int32) (v3 : Int32) (v4 : Int32) (v5 : Int32) (o0 : cf_O) (k_o0 : okO I_M o0) (r_o0 : Fr (fr_M [70] [69] []) yo0 o0) (i_v2 : (0 : Int) ≤ v2.toInt ∧ v2.toInt ≤ 4) (i_v4 : (1 : Int) ≤ v4.toInt ∧ v4.toInt ≤ 81) (i_v5 : (0 : Int) ≤ v5.toInt ∧ v5.toInt ≤ 17) (f_o0_0 : (0 : Int) ≤ (o0.1 0).toInt ∧ (o0.1 0).toInt ≤ 0) (f_o0_37 : (1 : Int) ≤ (o0.1 37).toInt ∧ (o0.1 37).toInt ≤ 9) (f_o0_38 : (1 : Int) ≤ (o0.1 38).toInt ∧ (o0.1 38).toInt ≤ 1) (f_o0_43 : (1 : Int) ≤ (o0.1 43).toInt ∧ (o0.1 43).toInt ≤ 200) (f_o0_95 : (0 : Int) ≤ (o0.1 95).toInt ∧ (o0.1 95).toInt ≤ 0) (x_0 : (o0.1 70).toInt ≤ v5.toInt) (x_1 : v4.toInt ≤ 81) (x_2 : 1 ≤ v4.toInt) (hm : (17 - v5.toInt) * 200 ≤ (n : Int)) : tt (fM_sum_34 (gM_sum n) v1 v2 v3 v4 v5 o0) (QM_sum yv1 yv2 yo0) := by
  unfold fM_sum_34
  have i_v1 := iv_top v1
  have i_v3 := iv_top v3
  have g_o0_70 : (0 : Int) ≤ (o0.1 70).toInt ∧ (o0.1 70).toInt ≤ 16 := k_o0.1 70
  refine tt_kv (P := fun z => ((1 : Int) ≤ z.toInt ∧ z.toInt ≤ 16) ∧ z.toInt = ((1 : Int32) <<< (v2 &&& (31 : Int32))).toInt) ⟨iv_shl (p := 0) (q := 4) (show (1 : Int) ≤ (1 : Int32).toInt ∧ (1 : Int32).toInt ≤ 1 by decide) i_v2 (by decide) (by decide) (by decide) (by decide) (by decide), rfl⟩ (fun x1 qi2 => ?_)
  obtain ⟨i2, ei2⟩ := qi2
  refine tt_if (fun c3 => ?_) (fun c3 => ?_)
  · have wc3 : x1.toInt ≤ v5.toInt := c_le c3
    have i4 : (1 : Int) ≤ v5.toInt ∧ v5.toInt ≤ 17 := nr_ler c3 i2 i_v5 (by decide) (by decide)
    exact tt_some ⟨k_o0, r_o0, trivial⟩
  · have wc3 : v5.toInt < x1.toInt := c_nle c3
    have i5 : (0 : Int) ≤ v5.toInt ∧ v5.toInt ≤ 15 := nr_nlel c3 i_v5 i2 (by decide) (by decide)
    refine tt_kv (P := fun z => ((-2147483648) : Int) ≤ z.toInt ∧ z.toInt ≤ 2147483647) (iv_top _) (fun x6 i7 => ?_)
    refine tt_kv (P := fun z => (0 : Int) ≤ z.toInt ∧ z.toInt ≤ 1) (iv_and (show (1 : Int) ≤ (1 : Int32).toInt ∧ (1 : Int32).toInt ≤ 1 by decide) (by decide) (by decide) (by decide)) (fun x8 i9 => ?_)
    refine tt_if (fun c10 => ?_) (fun c10 => ?_)
    · have wc10 : x8.toInt = (0 : Int) := c_eq c10
      have i11 : (0 : Int) ≤ x8.toInt ∧ x8.toInt ≤ 0 := nr_eql c10 i9 (show (0 : Int) ≤ (0 : Int32).toInt ∧ (0 : Int32).toInt ≤ 0 by decide) (by decide) (by decide)
      try unfold fM_sum_56
      exact H.2.2.1 _ _ _ _ _ _ _ _ k_o0 r_o0 i_v2 i_v4 (iv_w (a := 0) (b := 16) (by decide) (by decide) i5) (iv_w (a := 0) (b := 1) (by decide) (by decide) (show (1 : Int) ≤ (1 : Int32).toInt ∧ (1 : Int32).toInt ≤ 1 by decide)) (iv_w (a := 0) (b := 16) (by decide) (by decide) (show (0 : Int) ≤ (0 : Int32).toInt ∧ (0 : Int32).toInt ≤ 0 by decide)) f_o0_0 f_o0_37 f_o0_38 f_o0_43 f_o0_95 (show (o0.1 70).toInt ≤ v5.toInt by omega) (show v4.toInt ≤ 81 by omega) (show 1 ≤ v4.toInt by omega) (show v5.toInt ≤ 15 by omega) (show (16 - v5.toInt) * 200 + 101 + (17 - 0) < (n : Int) by omega)
    · have wc10 : ¬ x8.toInt = (0 : Int) := c_ne c10
      have i12 : (1 : Int) ≤ x8.toInt ∧ x8.toInt ≤ 1 := nr_nela c10 i9 (show (0 : Int) ≤ (0 : Int32).toInt ∧ (0 : Int32).toInt ≤ 0 by decide) (by decide) (by decide)
      try unfold fM_sum_56
      exact H.2.2.1 _ _ _ _ _ _ _ _ k_o0 r_o0 i_v2 i_v4 (iv_w (a := 0) (b := 16) (by decide) (by decide) i5) (iv_w (a := 0) (b := 1) (by decide) (by decide) (show (0 : Int) ≤ (0 : Int32).toInt ∧ (0 : Int32).toInt ≤ 0 by decide)) (iv_w (a := 0) (b := 16) (by decide) (by decide) (show (0 : Int) ≤ (0 : Int32).toInt ∧ (0 : Int32).toInt ≤ 0 by decide)) f_o0_0 f_o0_37 f_o0_38 f_o0_43 f_o0_95 (show (o0.1 70).toInt ≤ v5.toInt by omega) (show v4.toInt ≤ 81 by omega) (show 1 ≤ v4.toInt by omega) (show v5.toInt ≤ 15 by omega) (show (16 - v5.toInt) * 200 + 101 + (17 - 0) < (n : Int) by omega)
set_option maxHeartbeats 4000000 in
set_option maxRecDepth 100000 in
theorem tM_sum_13 {yv1 : Int32} {yv2 : Int32} {yo0 : cf_O} {n : Nat} (H : HM_sum yv1 yv2 yo0 n) (v1 : Int32) (v2 : Int32) (v3 : Int32) (v4 : Int32) (v5 : Int32) (o0 : cf_O) (k_o0 : okO I_M o0) (r_o0 : Fr (fr_M [70] [69] []) yo0 o0) (i_v2 : (0 : Int) ≤ v2.toInt ∧ v2.toInt ≤ 4) (i_v3 : (0 : Int) ≤ v3.toInt ∧ v3.toInt ≤ 0) (i_v4 : (1 : Int) ≤ v4.toInt ∧ v4.toInt ≤ 81) (i_v5 : (0 : Int) ≤ v5.toInt ∧ v5.toInt ≤ 4) (f_o0_0 : (0 : Int) ≤ (o0.1 0).toInt ∧ (o0.1 0).toInt ≤ 0) (f_o0_37 : (1 : Int) ≤ (o0.1 37).toInt ∧ (o0.1 37).toInt ≤ 9) (f_o0_38 : (1 : Int) ≤ (o0.1 38).toInt ∧ (o0.1 38).toInt ≤ 1) (f_o0_43 : (1 : Int) ≤ (o0.1 43).toInt ∧ (o0.1 43).toInt ≤ 200) (f_o0_70 : (0 : Int) ≤ (o0.1 70).toInt ∧ (o0.1 70).toInt ≤ 0) (f_o0_95 : (0 : Int) ≤ (o0.1 95).toInt ∧ (o0.1 95).toInt ≤ 0) (x_0 : (v5.toInt = 0 ∧ v4.toInt = 1) ∨ (v5.toInt = 1 ∧ v4.toInt = 3) ∨ (v5.toInt = 2 ∧ v4.toInt = 9) ∨ (v5.toInt = 3 ∧ v4.toInt = 27) ∨ (v5.toInt = 4 ∧ v4.toInt = 81)) (hm : 100000 + (5 - v5.toInt) ≤ (n : Int)) : tt (fM_sum_13 (gM_sum n) v1 v2 v3 v4 v5 o0) (QM_sum yv1 yv2 yo0) := by
  unfold fM_sum_13
  have i_v1 := iv_top v1
  refine tt_if (fun c1 => ?_) (fun c1 => ?_)
  · have wc1 : v2.toInt ≤ v5.toInt := c_le c1
    exact H.2.1 _ _ _ _ _ _ k_o0 r_o0 i_v2 i_v4 (iv_w (a := 0) (b := 17) (by decide) (by decide) (show (0 : Int) ≤ (0 : Int32).toInt ∧ (0 : Int32).toInt ≤ 0 by decide)) f_o0_0 f_o0_37 f_o0_38 f_o0_43 f_o0_95 (show (o0.1 70).toInt ≤ 0 by omega) (show v4.toInt ≤ 81 by omega) (show 1 ≤ v4.toInt by omega) (show (17 - 0) * 200 < (n : Int) by omega)
  · have wc1 : v5.toInt < v2.toInt := c_nle c1
    have i2 : (0 : Int) ≤ v5.toInt ∧ v5.toInt ≤ 3 := nr_nlel c1 i_v5 i_v2 (by decide) (by decide)
    have i3 : (1 : Int) ≤ v2.toInt ∧ v2.toInt ≤ 4 := nr_nler c1 i_v5 i_v2 (by decide) (by decide)
    refine tt_kv (P := fun z => ((3 : Int) ≤ z.toInt ∧ z.toInt ≤ 243) ∧ z.toInt = 3 * v4.toInt) ⟨iv_mul (show (3 : Int) ≤ (3 : Int32).toInt ∧ (3 : Int32).toInt ≤ 3 by decide) i_v4 (by decide) (by decide) (by decide) (by decide) (by decide), iq_mul (show (3 : Int) ≤ (3 : Int32).toInt ∧ (3 : Int32).toInt ≤ 3 by decide) i_v4 (by decide) (by decide) (by decide) (by decide)⟩ (fun x4 qi5 => ?_)
    obtain ⟨i5, ei5⟩ := qi5
    refine tt_kv (P := fun z => ((1 : Int) ≤ z.toInt ∧ z.toInt ≤ 4) ∧ z.toInt = v5.toInt + 1) ⟨iv_add i2 (show (1 : Int) ≤ (1 : Int32).toInt ∧ (1 : Int32).toInt ≤ 1 by decide) (by decide) (by decide) (by decide) (by decide), iq_add i2 (show (1 : Int) ≤ (1 : Int32).toInt ∧ (1 : Int32).toInt ≤ 1 by decide) (by decide) (by decide)⟩ (fun x6 qi7 => ?_)
    obtain ⟨i7, ei7⟩ := qi7
    exact H.1 _ _ _ _ _ _ k_o0 r_o0 (iv_w (a := 0) (b := 4) (by decide) (by decide) i3) i_v3 (show (1 : Int) ≤ _ ∧ _ ≤ (81 : Int) by omega) (iv_w (a := 0) (b := 4) (by decide) (by decide) i7) f_o0_0 f_o0_37 f_o0_38 f_o0_43 f_o0_70 f_o0_95 (show (x6.toInt = 0 ∧ x4.toInt = 1) ∨ (x6.toInt = 1 ∧ x4.toInt = 3) ∨ (x6.toInt = 2 ∧ x4.toInt = 9) ∨ (x6.toInt = 3 ∧ x4.toInt = 27) ∨ (x6.toInt = 4 ∧ x4.toInt = 81) by omega) (show 100000 + (5 - x6.toInt) < (n : Int) by omega)
set_option maxHeartbeats 4000000 in
set_option maxRecDepth 100000 in
theorem hM_sum (yv1 : Int32) (yv2 : Int32) (yo0 : cf_O) : ∀ n, HM_sum yv1 yv2 yo0 n := by
  intro n
  induction n with
  | zero => exact ⟨(fun v1 v2 v3 v4 v5 o0 k_o0 r_o0 i_v2 i_v3 i_v4 i_v5 f_o0_0 f_o0_37 f_o0_38 f_o0_43 f_o0_70 f_o0_95 x_0 hm => by exact absurd (show 100000 + (5 - v5.toInt) < (0 : Int) from hm) (by omega)), (fun v1 v2 v3 v4 v5 o0 k_o0 r_o0 i_v2 i_v4 i_v5 f_o0_0 f_o0_37 f_o0_38 f_o0_43 f_o0_95 x_0 x_1 x_2 hm => by exact absurd (show (17 - v5.toInt) * 200 < (0 : Int) from hm) (by omega)), (fun v1 v2 v3 v4 v5 v6 v7 o0 k_o0 r_o0 i_v2 i_v4 i_v5 i_v6 i_v7 f_o0_0 f_o0_37 f_o0_38 f_o0_43 f_o0_95 x_0 x_1 x_2 x_3 hm => by exact absurd (show (16 - v5.toInt) * 200 + 101 + (17 - v7.toInt) < (0 : Int) from hm) (by omega)), (fun v1 v2 v3 v4 v5 v7 v8 o0 k_o0 r_o0 i_v2 i_v4 i_v5 i_v7 i_v8 f_o0_0 f_o0_37 f_o0_38 f_o0_43 f_o0_95 x_0 x_1 x_2 x_3 x_4 hm => by exact absurd (show (16 - v5.toInt) * 200 + 1 + (82 - v8.toInt) < (0 : Int) from hm) (by omega))⟩
  | succ n ih => exact ⟨(fun v1 v2 v3 v4 v5 o0 k_o0 r_o0 i_v2 i_v3 i_v4 i_v5 f_o0_0 f_o0_37 f_o0_38 f_o0_43 f_o0_70 f_o0_95 x_0 hm => tM_sum_13 ih v1 v2 v3 v4 v5 o0 k_o0 r_o0 i_v2 i_v3 i_v4 i_v5 f_o0_0 f_o0_37 f_o0_38 f_o0_43 f_o0_70 f_o0_95 x_0 (by omega)), (fun v1 v2 v3 v4 v5 o0 k_o0 r_o0 i_v2 i_v4 i_v5 f_o0_0 f_o0_37 f_o0_38 f_o0_43 f_o0_95 x_0 x_1 x_2 hm => tM_sum_34 ih v1 v2 v3 v4 v5 o0 k_o0 r_o0 i_v2 i_v4 i_v5 f_o0_0 f_o0_37 f_o0_38 f_o0_43 f_o0_95 x_0 x_1 x_2 (by omega)), (fun v1 v2 v3 v4 v5 v6 v7 o0 k_o0 r_o0 i_v2 i_v4 i_v5 i_v6 i_v7 f_o0_0 f_o0_37 f_o0_38 f_o0_43 f_o0_95 x_0 x_1 x_2 x_3 hm => tM_sum_61 ih v1 v2 v3 v4 v5 v6 v7 o0 k_o0 r_o0 i_v2 i_v4 i_v5 i_v6 i_v7 f_o0_0 f_o0_37 f_o0_38 f_o0_43 f_o0_95 x_0 x_1 x_2 x_3 (by omega)), (fun v1 v2 v3 v4 v5 v7 v8 o0 k_o0 r_o0 i_v2 i_v4 i_v5 i_v7 i_v8 f_o0_0 f_o0_37 f_o0_38 f_o0_43 f_o0_95 x_0 x_1 x_2 x_3 x_4 hm => tM_sum_118 ih v1 v2 v3 v4 v5 v7 v8 o0 k_o0 r_o0 i_v2 i_v4 i_v5 i_v7 i_v8 f_o0_0 f_o0_37 f_o0_38 f_o0_43 f_o0_95 x_0 x_1 x_2 x_3 x_4 (by omega))⟩
set_option maxHeartbeats 4000000 in
set_option maxRecDepth 100000 in
theorem sM_sum (v1 : Int32) (v2 : Int32) (o0 : cf_O) (k_o0 : okO I_M o0) (i_v2 : (0 : Int) ≤ v2.toInt ∧ v2.toInt ≤ 4) (f_o0_0 : (0 : Int) ≤ (o0.1 0).toInt ∧ (o0.1 0).toInt ≤ 0) (f_o0_37 : (1 : Int) ≤ (o0.1 37).toInt ∧ (o0.1 37).toInt ≤ 9) (f_o0_38 : (1 : Int) ≤ (o0.1 38).toInt ∧ (o0.1 38).toInt ≤ 1) (f_o0_43 : (1 : Int) ≤ (o0.1 43).toInt ∧ (o0.1 43).toInt ≤ 200) (f_o0_95 : (0 : Int) ≤ (o0.1 95).toInt ∧ (o0.1 95).toInt ≤ 0) : tt (fM_sum v1 v2 o0) (QM_sum v1 v2 o0) := by
  have H := hM_sum v1 v2 o0 cfFU
  have hm : (200000 : Int) ≤ (cfFU : Nat) := by decide
  have r_o0 : Fr (fr_M [70] [69] []) o0 o0 := fr_rfl
  unfold fM_sum fM_sum_0
  have i_v1 := iv_top v1
  have g_o0_70 : (0 : Int) ≤ (o0.1 70).toInt ∧ (o0.1 70).toInt ≤ 16 := k_o0.1 70
  refine tt_ko ?_
  have k1 := ok_fp (k := 70) (v := 0) k_o0 (iv_w (a := 0) (b := 16) (by decide) (by decide) (show (0 : Int) ≤ (0 : Int32).toInt ∧ (0 : Int32).toInt ≤ 0 by decide))
  have r2 := fr_fp (k := 70) (v := 0) r_o0 rfl
  exact H.1 _ _ _ _ _ _ k1 r2 i_v2 (show (0 : Int) ≤ (0 : Int32).toInt ∧ (0 : Int32).toInt ≤ 0 by decide) (iv_w (a := 1) (b := 81) (by decide) (by decide) (show (1 : Int) ≤ (1 : Int32).toInt ∧ (1 : Int32).toInt ≤ 1 by decide)) (iv_w (a := 0) (b := 4) (by decide) (by decide) (show (0 : Int) ≤ (0 : Int32).toInt ∧ (0 : Int32).toInt ≤ 0 by decide)) f_o0_0 f_o0_37 f_o0_38 f_o0_43 (show (0 : Int) ≤ (0 : Int32).toInt ∧ (0 : Int32).toInt ≤ 0 by decide) f_o0_95 (show (0 = 0 ∧ 1 = 1) ∨ (0 = 1 ∧ 1 = 3) ∨ (0 = 2 ∧ 1 = 9) ∨ (0 = 3 ∧ 1 = 27) ∨ (0 = 4 ∧ 1 = 81) by omega) (show 100000 + (5 - 0) < ((cfFU : Nat) : Int) by omega)
def QM_build_I (v1 : Int32) (o0 : cf_O) (r : (Int32 × cf_O)) : Prop := ((0 : Int) ≤ r.1.toInt ∧ r.1.toInt ≤ 417) ∧ (okO I_M r.2) ∧ (Fr (fr_M [31, 36] [32, 33, 34] []) o0 r.2) ∧ (Gx (r.2.1 37).toInt (r.2.1 31).toInt (r.2.2.1 32) (r.2.2.1 33)) ∧ (r.1.toInt < 2 * ((r.2.1 37).toInt + (r.2.1 31).toInt)) ∧ ((o0.1 31).toInt ≤ (r.2.1 31).toInt) ∧ True
def HM_build_I (yv1 : Int32) (yo0 : cf_O) (n : Nat) : Prop := (∀ (v1 : Int32) (v2 : Int32) (v3 : Int32) (o0 : cf_O), (okO I_M o0) → (Fr (fr_M [31, 36] [32, 33, 34] []) yo0 o0) → ((0 : Int) ≤ v1.toInt ∧ v1.toInt ≤ 63209) → ((0 : Int) ≤ v2.toInt ∧ v2.toInt ≤ 417) → ((0 : Int) ≤ v3.toInt ∧ v3.toInt ≤ 16) → ((0 : Int) ≤ (o0.1 0).toInt ∧ (o0.1 0).toInt ≤ 0) → ((1 : Int) ≤ (o0.1 37).toInt ∧ (o0.1 37).toInt ≤ 9) → ((1 : Int) ≤ (o0.1 38).toInt ∧ (o0.1 38).toInt ≤ 1) → ((1 : Int) ≤ (o0.1 43).toInt ∧ (o0.1 43).toInt ≤ 200) → ((0 : Int) ≤ (o0.1 95).toInt ∧ (o0.1 95).toInt ≤ 0) → (Gx (o0.1 37).toInt (o0.1 31).toInt (o0.2.1 32) (o0.2.1 33)) → (Rb v1.toNatClampNeg ((yo0.1 37).toInt + (yo0.1 31).toInt) (o0.2.1 59) (o0.2.1 58) (o0.2.1 51)) → (1 ≤ (o0.1 37).toInt) → ((yo0.1 31).toInt ≤ (o0.1 31).toInt) → ((o0.1 37).toInt = (yo0.1 37).toInt) → (v2.toInt < 2 * ((o0.1 37).toInt + (o0.1 31).toInt)) → (0 ≤ v1.toInt) → 0 + (16 - v3.toInt) * 14 < (n : Int) → tt (gM_build_I n 0 v1 v2 v3 0 0 o0) (QM_build_I yv1 yo0)) ∧ (∀ (v1 : Int32) (v2 : Int32) (v3 : Int32) (v4 : Int32) (v5 : Int32) (o0 : cf_O), (okO I_M o0) → (Fr (fr_M [31, 36] [32, 33, 34] []) yo0 o0) → ((0 : Int) ≤ v1.toInt ∧ v1.toInt ≤ 63209) → ((0 : Int) ≤ v2.toInt ∧ v2.toInt ≤ 417) → ((0 : Int) ≤ v3.toInt ∧ v3.toInt ≤ 15) → ((0 : Int) ≤ v4.toInt ∧ v4.toInt ≤ 417) → ((0 : Int) ≤ v5.toInt ∧ v5.toInt ≤ 5) → ((0 : Int) ≤ (o0.1 0).toInt ∧ (o0.1 0).toInt ≤ 0) → ((1 : Int) ≤ (o0.1 37).toInt ∧ (o0.1 37).toInt ≤ 9) → ((1 : Int) ≤ (o0.1 38).toInt ∧ (o0.1 38).toInt ≤ 1) → ((1 : Int) ≤ (o0.1 43).toInt ∧ (o0.1 43).toInt ≤ 200) → ((1 : Int) ≤ (o0.1 70).toInt ∧ (o0.1 70).toInt ≤ 16) → ((0 : Int) ≤ (o0.1 95).toInt ∧ (o0.1 95).toInt ≤ 0) → (Gx (o0.1 37).toInt (o0.1 31).toInt (o0.2.1 32) (o0.2.1 33)) → (Rb v1.toNatClampNeg ((yo0.1 37).toInt + (yo0.1 31).toInt) (o0.2.1 59) (o0.2.1 58) (o0.2.1 51)) → (1 ≤ (o0.1 37).toInt) → ((yo0.1 31).toInt ≤ (o0.1 31).toInt) → ((o0.1 37).toInt = (yo0.1 37).toInt) → (v2.toInt < 2 * ((o0.1 37).toInt + (o0.1 31).toInt)) → (0 ≤ v1.toInt) → (v4.toInt < 2 * ((o0.1 37).toInt + (o0.1 31).toInt)) → (0 ≤ v5.toInt) → 0 + (16 - v3.toInt - 1) * 14 + 1 + (5 - v5.toInt) * 2 < (n : Int) → tt (gM_build_I n 1 v1 v2 v3 v4 v5 o0) (QM_build_I yv1 yo0))
set_option maxHeartbeats 4000000 in
set_option maxRecDepth 100000 in
theorem tM_build_I_18 {yv1 : Int32} {yo0 : cf_O} {n : Nat} (H : HM_build_I yv1 yo0 n) (v1 : Int32) (v2 : Int32) (v3 : Int32) (v4 : Int32) (v5 : Int32) (o0 : cf_O) (k_o0 : okO I_M o0) (r_o0 : Fr (fr_M [31, 36] [32, 33, 34] []) yo0 o0) (i_v1 : (0 : Int) ≤ v1.toInt ∧ v1.toInt ≤ 63209) (i_v2 : (0 : Int) ≤ v2.toInt ∧ v2.toInt ≤ 417) (i_v3 : (0 : Int) ≤ v3.toInt ∧ v3.toInt ≤ 15) (i_v4 : (0 : Int) ≤ v4.toInt ∧ v4.toInt ≤ 417) (i_v5 : (0 : Int) ≤ v5.toInt ∧ v5.toInt ≤ 5) (f_o0_0 : (0 : Int) ≤ (o0.1 0).toInt ∧ (o0.1 0).toInt ≤ 0) (f_o0_37 : (1 : Int) ≤ (o0.1 37).toInt ∧ (o0.1 37).toInt ≤ 9) (f_o0_38 : (1 : Int) ≤ (o0.1 38).toInt ∧ (o0.1 38).toInt ≤ 1) (f_o0_43 : (1 : Int) ≤ (o0.1 43).toInt ∧ (o0.1 43).toInt ≤ 200) (f_o0_70 : (1 : Int) ≤ (o0.1 70).toInt ∧ (o0.1 70).toInt ≤ 16) (f_o0_95 : (0 : Int) ≤ (o0.1 95).toInt ∧ (o0.1 95).toInt ≤ 0) (x_0 : Gx (o0.1 37).toInt (o0.1 31).toInt (o0.2.1 32) (o0.2.1 33)) (x_1 : Rb v1.toNatClampNeg ((yo0.1 37).toInt + (yo0.1 31).toInt) (o0.2.1 59) (o0.2.1 58) (o0.2.1 51)) (x_2 : 1 ≤ (o0.1 37).toInt) (x_3 : (yo0.1 31).toInt ≤ (o0.1 31).toInt) (x_4 : (o0.1 37).toInt = (yo0.1 37).toInt) (x_5 : v2.toInt < 2 * ((o0.1 37).toInt + (o0.1 31).toInt)) (x_6 : 0 ≤ v1.toInt) (x_7 : v4.toInt < 2 * ((o0.1 37).toInt + (o0.1 31).toInt)) (x_8 : 0 ≤ v5.toInt) (hm : 0 + (16 - v3.toInt - 1) * 14 + 1 + (5 - v5.toInt) * 2 ≤ (n : Int)) : tt (fM_build_I_18 (gM_build_I n) v1 v2 v3 v4 v5 o0) (QM_build_I yv1 yo0) := by
  unfold fM_build_I_18
  have g_o0_31 : (0 : Int) ≤ (o0.1 31).toInt ∧ (o0.1 31).toInt ≤ 200 := k_o0.1 31
  have ey_o0_37 : (o0.1 37).toInt = (yo0.1 37).toInt := congrArg Int32.toInt (r_o0.1 37 rfl)
  have ey_o0_70 : (o0.1 70).toInt = (yo0.1 70).toInt := congrArg Int32.toInt (r_o0.1 70 rfl)
  refine tt_n (ix_ok i_v1 (by decide) (by decide)) ?_
  refine tt_kv (P := fun z => ((0 : Int) ≤ z.toInt ∧ z.toInt ≤ 5) ∧ z.toInt = (o0.2.1 59 v1.toNatClampNeg).toInt) ⟨(k_o0.2 59 _), rfl⟩ (fun x1 qi2 => ?_)
  obtain ⟨i2, ei2⟩ := qi2
  refine tt_if (fun c3 => ?_) (fun c3 => ?_)
  · have wc3 : x1.toInt ≤ v5.toInt := c_le c3
    refine tt_if (fun c4 => ?_) (fun c4 => ?_)
    · have wc4 : v3.toInt = (0 : Int) := c_eq c4
      have i5 : (0 : Int) ≤ v3.toInt ∧ v3.toInt ≤ 0 := nr_eql c4 i_v3 (show (0 : Int) ≤ (0 : Int32).toInt ∧ (0 : Int32).toInt ≤ 0 by decide) (by decide) (by decide)
      try unfold fM_build_I_121
      refine tt_kv (P := fun z => ((1 : Int) ≤ z.toInt ∧ z.toInt ≤ 1) ∧ z.toInt = v3.toInt + 1) ⟨iv_add i5 (show (1 : Int) ≤ (1 : Int32).toInt ∧ (1 : Int32).toInt ≤ 1 by decide) (by decide) (by decide) (by decide) (by decide), iq_add i5 (show (1 : Int) ≤ (1 : Int32).toInt ∧ (1 : Int32).toInt ≤ 1 by decide) (by decide) (by decide)⟩ (fun x6 qi7 => ?_)
      obtain ⟨i7, ei7⟩ := qi7
      exact H.1 _ _ _ _ k_o0 r_o0 i_v1 i_v4 (iv_w (a := 0) (b := 16) (by decide) (by decide) i7) f_o0_0 f_o0_37 f_o0_38 f_o0_43 f_o0_95 x_0 x_1 (show 1 ≤ (o0.1 37).toInt by omega) (show (yo0.1 31).toInt ≤ (o0.1 31).toInt by omega) (show (o0.1 37).toInt = (yo0.1 37).toInt by omega) (show v4.toInt < 2 * ((o0.1 37).toInt + (o0.1 31).toInt) by omega) (show 0 ≤ v1.toInt by omega) (show 0 + (16 - x6.toInt) * 14 < (n : Int) by omega)
    · have wc4 : ¬ v3.toInt = (0 : Int) := c_ne c4
      have i8 : (1 : Int) ≤ v3.toInt ∧ v3.toInt ≤ 15 := nr_nela c4 i_v3 (show (0 : Int) ≤ (0 : Int32).toInt ∧ (0 : Int32).toInt ≤ 0 by decide) (by decide) (by decide)
      refine tt_kv (P := fun z => ((0 : Int) ≤ z.toInt ∧ z.toInt ≤ 417) ∧ z.toInt = v2.toInt + 1 - 2 * (v2.toInt % 2)) ⟨iv_x1 i_v2 (show (1 : Int) ≤ (1 : Int32).toInt ∧ (1 : Int32).toInt ≤ 1 by decide) (by decide) (by decide) (by decide) (by decide) (by decide), i_x1 (Int.le_trans (by decide) i_v2.1)⟩ (fun x9 qi10 => ?_)
      obtain ⟨i10, ei10⟩ := qi10
      refine tt_kv (P := fun z => ((0 : Int) ≤ z.toInt ∧ z.toInt ≤ 417) ∧ z.toInt = v4.toInt + 1 - 2 * (v4.toInt % 2)) ⟨iv_x1 i_v4 (show (1 : Int) ≤ (1 : Int32).toInt ∧ (1 : Int32).toInt ≤ 1 by decide) (by decide) (by decide) (by decide) (by decide) (by decide), i_x1 (Int.le_trans (by decide) i_v4.1)⟩ (fun x11 qi12 => ?_)
      obtain ⟨i12, ei12⟩ := qi12
      refine tt_b (sM_and _ _ _ k_o0 i10 i12 (iv_w (a := 0) (b := 2) (by decide) (by decide) f_o0_0) f_o0_37 f_o0_95 x_0 (show x9.toInt < 2 * ((o0.1 37).toInt + (o0.1 31).toInt) by omega) (show x11.toInt < 2 * ((o0.1 37).toInt + (o0.1 31).toInt) by omega)) (fun q13 hq13 => ?_)
      obtain ⟨i_q13, k_q13_2, n_q13_2, zq13_0, zq13_1, zq13_2, -⟩ := hq13
      have r_q13_2 := fr_tr r_o0 n_q13_2 rfl rfl rfl
      have f_q13_2_0 : (0 : Int) ≤ (q13.2.1 0).toInt ∧ (q13.2.1 0).toInt ≤ 0 := by rw [n_q13_2.1 0 rfl]; exact f_o0_0
      have f_q13_2_37 : (1 : Int) ≤ (q13.2.1 37).toInt ∧ (q13.2.1 37).toInt ≤ 9 := by rw [n_q13_2.1 37 rfl]; exact f_o0_37
      have f_q13_2_70 : (1 : Int) ≤ (q13.2.1 70).toInt ∧ (q13.2.1 70).toInt ≤ 16 := by rw [n_q13_2.1 70 rfl]; exact f_o0_70
      have f_q13_2_38 : (1 : Int) ≤ (q13.2.1 38).toInt ∧ (q13.2.1 38).toInt ≤ 1 := by rw [n_q13_2.1 38 rfl]; exact f_o0_38
      have f_q13_2_43 : (1 : Int) ≤ (q13.2.1 43).toInt ∧ (q13.2.1 43).toInt ≤ 200 := by rw [n_q13_2.1 43 rfl]; exact f_o0_43
      have f_q13_2_95 : (0 : Int) ≤ (q13.2.1 95).toInt ∧ (q13.2.1 95).toInt ≤ 0 := by rw [n_q13_2.1 95 rfl]; exact f_o0_95
      have g_q13_2_31 : (0 : Int) ≤ (q13.2.1 31).toInt ∧ (q13.2.1 31).toInt ≤ 200 := k_q13_2.1 31
      have e_q13_2_37 : (q13.2.1 37).toInt = (o0.1 37).toInt := congrArg Int32.toInt (n_q13_2.1 37 rfl)
      have e_q13_2_70 : (q13.2.1 70).toInt = (o0.1 70).toInt := congrArg Int32.toInt (n_q13_2.1 70 rfl)
      have zq13_1 : q13.1.toInt < 2 * ((q13.2.1 37).toInt + (q13.2.1 31).toInt) := zq13_1
      have zq13_2 : (o0.1 31).toInt ≤ (q13.2.1 31).toInt := zq13_2
      have u14 : Rb v1.toNatClampNeg ((yo0.1 37).toInt + (yo0.1 31).toInt) (q13.2.2.1 59) (q13.2.2.1 58) (q13.2.2.1 51) := by rw [n_q13_2.2.1 51 rfl, n_q13_2.2.1 58 rfl, n_q13_2.2.1 59 rfl]; exact x_1
      refine tt_kv (P := fun z => ((0 : Int) ≤ z.toInt ∧ z.toInt ≤ 417) ∧ z.toInt = q13.1.toInt + 1 - 2 * (q13.1.toInt % 2)) ⟨iv_x1 i_q13 (show (1 : Int) ≤ (1 : Int32).toInt ∧ (1 : Int32).toInt ≤ 1 by decide) (by decide) (by decide) (by decide) (by decide) (by decide), i_x1 (Int.le_trans (by decide) i_q13.1)⟩ (fun x15 qi16 => ?_)
      obtain ⟨i16, ei16⟩ := qi16
      try unfold fM_build_I_121
      refine tt_kv (P := fun z => ((2 : Int) ≤ z.toInt ∧ z.toInt ≤ 16) ∧ z.toInt = v3.toInt + 1) ⟨iv_add i8 (show (1 : Int) ≤ (1 : Int32).toInt ∧ (1 : Int32).toInt ≤ 1 by decide) (by decide) (by decide) (by decide) (by decide), iq_add i8 (show (1 : Int) ≤ (1 : Int32).toInt ∧ (1 : Int32).toInt ≤ 1 by decide) (by decide) (by decide)⟩ (fun x17 qi18 => ?_)
      obtain ⟨i18, ei18⟩ := qi18
      exact H.1 _ _ _ _ k_q13_2 r_q13_2 i_v1 i16 (iv_w (a := 0) (b := 16) (by decide) (by decide) i18) f_q13_2_0 f_q13_2_37 f_q13_2_38 f_q13_2_43 f_q13_2_95 zq13_0 u14 (show 1 ≤ (q13.2.1 37).toInt by omega) (show (yo0.1 31).toInt ≤ (q13.2.1 31).toInt by omega) (show (q13.2.1 37).toInt = (yo0.1 37).toInt by omega) (show x15.toInt < 2 * ((q13.2.1 37).toInt + (q13.2.1 31).toInt) by omega) (show 0 ≤ v1.toInt by omega) (show 0 + (16 - x17.toInt) * 14 < (n : Int) by omega)
  · have wc3 : v5.toInt < x1.toInt := c_nle c3
    have i19 : (0 : Int) ≤ v5.toInt ∧ v5.toInt ≤ 4 := nr_nlel c3 i_v5 i2 (by decide) (by decide)
    have i20 : (1 : Int) ≤ x1.toInt ∧ x1.toInt ≤ 5 := nr_nler c3 i_v5 i2 (by decide) (by decide)
    refine tt_n (ix_ok i_v3 (by decide) (by decide)) ?_
    refine tt_kv (P := fun z => (((-1) : Int) ≤ z.toInt ∧ z.toInt ≤ 81) ∧ z.toInt = (o0.2.1 69 v3.toNatClampNeg).toInt) ⟨(k_o0.2 69 _), rfl⟩ (fun x21 qi22 => ?_)
    obtain ⟨i22, ei22⟩ := qi22
    refine tt_b (sM_digit _ _ i19) (fun q23 hq23 => ?_)
    have i_q23 := iv_top q23
    refine tt_kv (P := fun z => ((0 : Int) ≤ z.toInt ∧ z.toInt ≤ 316045) ∧ z.toInt = 5 * v1.toInt) ⟨iv_mul (show (5 : Int) ≤ (5 : Int32).toInt ∧ (5 : Int32).toInt ≤ 5 by decide) i_v1 (by decide) (by decide) (by decide) (by decide) (by decide), iq_mul (show (5 : Int) ≤ (5 : Int32).toInt ∧ (5 : Int32).toInt ≤ 5 by decide) i_v1 (by decide) (by decide) (by decide) (by decide)⟩ (fun x24 qi25 => ?_)
    obtain ⟨i25, ei25⟩ := qi25
    refine tt_kv (P := fun z => ((0 : Int) ≤ z.toInt ∧ z.toInt ≤ 316049) ∧ z.toInt = x24.toInt + v5.toInt) ⟨iv_add i25 i19 (by decide) (by decide) (by decide) (by decide), iq_add i25 i19 (by decide) (by decide)⟩ (fun x26 qi27 => ?_)
    obtain ⟨i27, ei27⟩ := qi27
    refine tt_n (ix_ok i27 (by decide) (by decide)) ?_
    refine tt_kv (P := fun z => ((0 : Int) ≤ z.toInt ∧ z.toInt ≤ 208) ∧ z.toInt = (o0.2.1 58 x26.toNatClampNeg).toInt) ⟨(k_o0.2 58 _), rfl⟩ (fun x28 qi29 => ?_)
    obtain ⟨i29, ei29⟩ := qi29
    have bx := ei29
    refine tt_n (ix_ok i29 (by decide) (by decide)) ?_
    refine tt_kv (P := fun z => ((0 : Int) ≤ z.toInt ∧ z.toInt ≤ 417) ∧ z.toInt = (o0.2.1 51 x28.toNatClampNeg).toInt) ⟨(k_o0.2 51 _), rfl⟩ (fun x30 qi31 => ?_)
    obtain ⟨i31, ei31⟩ := qi31
    have rb := Rb_at (k := v5.toInt) x_1 bx ei31 (by rw [tn_n, tn_n]; omega) (by rw [tn_n]; omega) (by omega) (by omega)
    refine tt_if (fun c32 => ?_) (fun c32 => ?_)
    · have wc32 : q23.toInt = (0 : Int) := c_eq c32
      have i33 : (0 : Int) ≤ q23.toInt ∧ q23.toInt ≤ 0 := nr_eql c32 (iv_top q23) (show (0 : Int) ≤ (0 : Int32).toInt ∧ (0 : Int32).toInt ≤ 0 by decide) (by decide) (by decide)
      try unfold fM_build_I_91
      refine tt_kv (P := fun z => ((1 : Int) ≤ z.toInt ∧ z.toInt ≤ 5) ∧ z.toInt = v5.toInt + 1) ⟨iv_add i19 (show (1 : Int) ≤ (1 : Int32).toInt ∧ (1 : Int32).toInt ≤ 1 by decide) (by decide) (by decide) (by decide) (by decide), iq_add i19 (show (1 : Int) ≤ (1 : Int32).toInt ∧ (1 : Int32).toInt ≤ 1 by decide) (by decide) (by decide)⟩ (fun x34 qi35 => ?_)
      obtain ⟨i35, ei35⟩ := qi35
      exact H.2 _ _ _ _ _ _ k_o0 r_o0 i_v1 i_v2 i_v3 i_v4 (iv_w (a := 0) (b := 5) (by decide) (by decide) i35) f_o0_0 f_o0_37 f_o0_38 f_o0_43 f_o0_70 f_o0_95 x_0 x_1 (show 1 ≤ (o0.1 37).toInt by omega) (show (yo0.1 31).toInt ≤ (o0.1 31).toInt by omega) (show (o0.1 37).toInt = (yo0.1 37).toInt by omega) (show v2.toInt < 2 * ((o0.1 37).toInt + (o0.1 31).toInt) by omega) (show 0 ≤ v1.toInt by omega) (show v4.toInt < 2 * ((o0.1 37).toInt + (o0.1 31).toInt) by omega) (show 0 ≤ x34.toInt by omega) (show 0 + (16 - v3.toInt - 1) * 14 + 1 + (5 - x34.toInt) * 2 < (n : Int) by omega)
    · have wc32 : ¬ q23.toInt = (0 : Int) := c_ne c32
      refine tt_if (fun c36 => ?_) (fun c36 => ?_)
      · have wc36 : q23.toInt = (1 : Int) := c_eq c36
        have i37 : (1 : Int) ≤ q23.toInt ∧ q23.toInt ≤ 1 := nr_eql c36 (iv_top q23) (show (1 : Int) ≤ (1 : Int32).toInt ∧ (1 : Int32).toInt ≤ 1 by decide) (by decide) (by decide)
        try unfold fM_build_I_88
        refine tt_b (sM_and _ _ _ k_o0 i_v4 i31 (iv_w (a := 0) (b := 2) (by decide) (by decide) f_o0_0) f_o0_37 f_o0_95 x_0 (show v4.toInt < 2 * ((o0.1 37).toInt + (o0.1 31).toInt) by omega) (show x30.toInt < 2 * ((o0.1 37).toInt + (o0.1 31).toInt) by omega)) (fun q38 hq38 => ?_)
        obtain ⟨i_q38, k_q38_2, n_q38_2, zq38_0, zq38_1, zq38_2, -⟩ := hq38
        have r_q38_2 := fr_tr r_o0 n_q38_2 rfl rfl rfl
        have f_q38_2_0 : (0 : Int) ≤ (q38.2.1 0).toInt ∧ (q38.2.1 0).toInt ≤ 0 := by rw [n_q38_2.1 0 rfl]; exact f_o0_0
        have f_q38_2_37 : (1 : Int) ≤ (q38.2.1 37).toInt ∧ (q38.2.1 37).toInt ≤ 9 := by rw [n_q38_2.1 37 rfl]; exact f_o0_37
        have f_q38_2_70 : (1 : Int) ≤ (q38.2.1 70).toInt ∧ (q38.2.1 70).toInt ≤ 16 := by rw [n_q38_2.1 70 rfl]; exact f_o0_70
        have f_q38_2_38 : (1 : Int) ≤ (q38.2.1 38).toInt ∧ (q38.2.1 38).toInt ≤ 1 := by rw [n_q38_2.1 38 rfl]; exact f_o0_38
        have f_q38_2_43 : (1 : Int) ≤ (q38.2.1 43).toInt ∧ (q38.2.1 43).toInt ≤ 200 := by rw [n_q38_2.1 43 rfl]; exact f_o0_43
        have f_q38_2_95 : (0 : Int) ≤ (q38.2.1 95).toInt ∧ (q38.2.1 95).toInt ≤ 0 := by rw [n_q38_2.1 95 rfl]; exact f_o0_95
        have g_q38_2_31 : (0 : Int) ≤ (q38.2.1 31).toInt ∧ (q38.2.1 31).toInt ≤ 200 := k_q38_2.1 31
        have e_q38_2_37 : (q38.2.1 37).toInt = (o0.1 37).toInt := congrArg Int32.toInt (n_q38_2.1 37 rfl)
        have e_q38_2_70 : (q38.2.1 70).toInt = (o0.1 70).toInt := congrArg Int32.toInt (n_q38_2.1 70 rfl)
        have zq38_1 : q38.1.toInt < 2 * ((q38.2.1 37).toInt + (q38.2.1 31).toInt) := zq38_1
        have zq38_2 : (o0.1 31).toInt ≤ (q38.2.1 31).toInt := zq38_2
        have u39 : Rb v1.toNatClampNeg ((yo0.1 37).toInt + (yo0.1 31).toInt) (q38.2.2.1 59) (q38.2.2.1 58) (q38.2.2.1 51) := by rw [n_q38_2.2.1 51 rfl, n_q38_2.2.1 58 rfl, n_q38_2.2.1 59 rfl]; exact x_1
        try unfold fM_build_I_91
        refine tt_kv (P := fun z => ((1 : Int) ≤ z.toInt ∧ z.toInt ≤ 5) ∧ z.toInt = v5.toInt + 1) ⟨iv_add i19 (show (1 : Int) ≤ (1 : Int32).toInt ∧ (1 : Int32).toInt ≤ 1 by decide) (by decide) (by decide) (by decide) (by decide), iq_add i19 (show (1 : Int) ≤ (1 : Int32).toInt ∧ (1 : Int32).toInt ≤ 1 by decide) (by decide) (by decide)⟩ (fun x40 qi41 => ?_)
        obtain ⟨i41, ei41⟩ := qi41
        exact H.2 _ _ _ _ _ _ k_q38_2 r_q38_2 i_v1 i_v2 i_v3 i_q38 (iv_w (a := 0) (b := 5) (by decide) (by decide) i41) f_q38_2_0 f_q38_2_37 f_q38_2_38 f_q38_2_43 f_q38_2_70 f_q38_2_95 zq38_0 u39 (show 1 ≤ (q38.2.1 37).toInt by omega) (show (yo0.1 31).toInt ≤ (q38.2.1 31).toInt by omega) (show (q38.2.1 37).toInt = (yo0.1 37).toInt by omega) (show v2.toInt < 2 * ((q38.2.1 37).toInt + (q38.2.1 31).toInt) by omega) (show 0 ≤ v1.toInt by omega) (show q38.1.toInt < 2 * ((q38.2.1 37).toInt + (q38.2.1 31).toInt) by omega) (show 0 ≤ x40.toInt by omega) (show 0 + (16 - v3.toInt - 1) * 14 + 1 + (5 - x40.toInt) * 2 < (n : Int) by omega)
      · have wc36 : ¬ q23.toInt = (1 : Int) := c_ne c36
        refine tt_kv (P := fun z => ((0 : Int) ≤ z.toInt ∧ z.toInt ≤ 417) ∧ z.toInt = x30.toInt + 1 - 2 * (x30.toInt % 2)) ⟨iv_x1 i31 (show (1 : Int) ≤ (1 : Int32).toInt ∧ (1 : Int32).toInt ≤ 1 by decide) (by decide) (by decide) (by decide) (by decide) (by decide), i_x1 (Int.le_trans (by decide) i31.1)⟩ (fun x42 qi43 => ?_)
        obtain ⟨i43, ei43⟩ := qi43
        try unfold fM_build_I_88
        refine tt_b (sM_and _ _ _ k_o0 i_v4 i43 (iv_w (a := 0) (b := 2) (by decide) (by decide) f_o0_0) f_o0_37 f_o0_95 x_0 (show v4.toInt < 2 * ((o0.1 37).toInt + (o0.1 31).toInt) by omega) (show x42.toInt < 2 * ((o0.1 37).toInt + (o0.1 31).toInt) by omega)) (fun q44 hq44 => ?_)
        obtain ⟨i_q44, k_q44_2, n_q44_2, zq44_0, zq44_1, zq44_2, -⟩ := hq44
        have r_q44_2 := fr_tr r_o0 n_q44_2 rfl rfl rfl
        have f_q44_2_0 : (0 : Int) ≤ (q44.2.1 0).toInt ∧ (q44.2.1 0).toInt ≤ 0 := by rw [n_q44_2.1 0 rfl]; exact f_o0_0
        have f_q44_2_37 : (1 : Int) ≤ (q44.2.1 37).toInt ∧ (q44.2.1 37).toInt ≤ 9 := by rw [n_q44_2.1 37 rfl]; exact f_o0_37
        have f_q44_2_70 : (1 : Int) ≤ (q44.2.1 70).toInt ∧ (q44.2.1 70).toInt ≤ 16 := by rw [n_q44_2.1 70 rfl]; exact f_o0_70
        have f_q44_2_38 : (1 : Int) ≤ (q44.2.1 38).toInt ∧ (q44.2.1 38).toInt ≤ 1 := by rw [n_q44_2.1 38 rfl]; exact f_o0_38
        have f_q44_2_43 : (1 : Int) ≤ (q44.2.1 43).toInt ∧ (q44.2.1 43).toInt ≤ 200 := by rw [n_q44_2.1 43 rfl]; exact f_o0_43
        have f_q44_2_95 : (0 : Int) ≤ (q44.2.1 95).toInt ∧ (q44.2.1 95).toInt ≤ 0 := by rw [n_q44_2.1 95 rfl]; exact f_o0_95
        have g_q44_2_31 : (0 : Int) ≤ (q44.2.1 31).toInt ∧ (q44.2.1 31).toInt ≤ 200 := k_q44_2.1 31
        have e_q44_2_37 : (q44.2.1 37).toInt = (o0.1 37).toInt := congrArg Int32.toInt (n_q44_2.1 37 rfl)
        have e_q44_2_70 : (q44.2.1 70).toInt = (o0.1 70).toInt := congrArg Int32.toInt (n_q44_2.1 70 rfl)
        have zq44_1 : q44.1.toInt < 2 * ((q44.2.1 37).toInt + (q44.2.1 31).toInt) := zq44_1
        have zq44_2 : (o0.1 31).toInt ≤ (q44.2.1 31).toInt := zq44_2
        have u45 : Rb v1.toNatClampNeg ((yo0.1 37).toInt + (yo0.1 31).toInt) (q44.2.2.1 59) (q44.2.2.1 58) (q44.2.2.1 51) := by rw [n_q44_2.2.1 51 rfl, n_q44_2.2.1 58 rfl, n_q44_2.2.1 59 rfl]; exact x_1
        try unfold fM_build_I_91
        refine tt_kv (P := fun z => ((1 : Int) ≤ z.toInt ∧ z.toInt ≤ 5) ∧ z.toInt = v5.toInt + 1) ⟨iv_add i19 (show (1 : Int) ≤ (1 : Int32).toInt ∧ (1 : Int32).toInt ≤ 1 by decide) (by decide) (by decide) (by decide) (by decide), iq_add i19 (show (1 : Int) ≤ (1 : Int32).toInt ∧ (1 : Int32).toInt ≤ 1 by decide) (by decide) (by decide)⟩ (fun x46 qi47 => ?_)
        obtain ⟨i47, ei47⟩ := qi47
        exact H.2 _ _ _ _ _ _ k_q44_2 r_q44_2 i_v1 i_v2 i_v3 i_q44 (iv_w (a := 0) (b := 5) (by decide) (by decide) i47) f_q44_2_0 f_q44_2_37 f_q44_2_38 f_q44_2_43 f_q44_2_70 f_q44_2_95 zq44_0 u45 (show 1 ≤ (q44.2.1 37).toInt by omega) (show (yo0.1 31).toInt ≤ (q44.2.1 31).toInt by omega) (show (q44.2.1 37).toInt = (yo0.1 37).toInt by omega) (show v2.toInt < 2 * ((q44.2.1 37).toInt + (q44.2.1 31).toInt) by omega) (show 0 ≤ v1.toInt by omega) (show q44.1.toInt < 2 * ((q44.2.1 37).toInt + (q44.2.1 31).toInt) by omega) (show 0 ≤ x46.toInt by omega) (show 0 + (16 - v3.toInt - 1) * 14 + 1 + (5 - x46.toInt) * 2 < (n : Int) by omega)
set_option maxHeartbeats 4000000 in
set_option maxRecDepth 100000 in
theorem tM_build_I_4 {yv1 : Int32} {yo0 : cf_O} {n : Nat} (H : HM_build_I yv1 yo0 n) (v1 : Int32) (v2 : Int32) (v3 : Int32) (o0 : cf_O) (k_o0 : okO I_M o0) (r_o0 : Fr (fr_M [31, 36] [32, 33, 34] []) yo0 o0) (i_v1 : (0 : Int) ≤ v1.toInt ∧ v1.toInt ≤ 63209) (i_v2 : (0 : Int) ≤ v2.toInt ∧ v2.toInt ≤ 417) (i_v3 : (0 : Int) ≤ v3.toInt ∧ v3.toInt ≤ 16) (f_o0_0 : (0 : Int) ≤ (o0.1 0).toInt ∧ (o0.1 0).toInt ≤ 0) (f_o0_37 : (1 : Int) ≤ (o0.1 37).toInt ∧ (o0.1 37).toInt ≤ 9) (f_o0_38 : (1 : Int) ≤ (o0.1 38).toInt ∧ (o0.1 38).toInt ≤ 1) (f_o0_43 : (1 : Int) ≤ (o0.1 43).toInt ∧ (o0.1 43).toInt ≤ 200) (f_o0_95 : (0 : Int) ≤ (o0.1 95).toInt ∧ (o0.1 95).toInt ≤ 0) (x_0 : Gx (o0.1 37).toInt (o0.1 31).toInt (o0.2.1 32) (o0.2.1 33)) (x_1 : Rb v1.toNatClampNeg ((yo0.1 37).toInt + (yo0.1 31).toInt) (o0.2.1 59) (o0.2.1 58) (o0.2.1 51)) (x_2 : 1 ≤ (o0.1 37).toInt) (x_3 : (yo0.1 31).toInt ≤ (o0.1 31).toInt) (x_4 : (o0.1 37).toInt = (yo0.1 37).toInt) (x_5 : v2.toInt < 2 * ((o0.1 37).toInt + (o0.1 31).toInt)) (x_6 : 0 ≤ v1.toInt) (hm : 0 + (16 - v3.toInt) * 14 ≤ (n : Int)) : tt (fM_build_I_4 (gM_build_I n) v1 v2 v3 o0) (QM_build_I yv1 yo0) := by
  unfold fM_build_I_4
  have g_o0_31 : (0 : Int) ≤ (o0.1 31).toInt ∧ (o0.1 31).toInt ≤ 200 := k_o0.1 31
  have ey_o0_37 : (o0.1 37).toInt = (yo0.1 37).toInt := congrArg Int32.toInt (r_o0.1 37 rfl)
  have g_o0_70 : (0 : Int) ≤ (o0.1 70).toInt ∧ (o0.1 70).toInt ≤ 16 := k_o0.1 70
  have ey_o0_70 : (o0.1 70).toInt = (yo0.1 70).toInt := congrArg Int32.toInt (r_o0.1 70 rfl)
  refine tt_if (fun c1 => ?_) (fun c1 => ?_)
  · have wc1 : (o0.1 70).toInt ≤ v3.toInt := c_le c1
    exact tt_some ⟨i_v2, k_o0, r_o0, x_0, (show v2.toInt < 2 * ((o0.1 37).toInt + (o0.1 31).toInt) by omega), (show (yo0.1 31).toInt ≤ (o0.1 31).toInt by omega), trivial⟩
  · have wc1 : v3.toInt < (o0.1 70).toInt := c_nle c1
    have i2 : (0 : Int) ≤ v3.toInt ∧ v3.toInt ≤ 15 := nr_nlel c1 i_v3 (k_o0.1 70) (by decide) (by decide)
    have i3 : (1 : Int) ≤ (o0.1 70).toInt ∧ (o0.1 70).toInt ≤ 16 := nr_nler c1 i_v3 (k_o0.1 70) (by decide) (by decide)
    exact H.2 _ _ _ _ _ _ k_o0 r_o0 i_v1 i_v2 i2 (iv_w (a := 0) (b := 417) (by decide) (by decide) (show (1 : Int) ≤ (1 : Int32).toInt ∧ (1 : Int32).toInt ≤ 1 by decide)) (iv_w (a := 0) (b := 5) (by decide) (by decide) (show (0 : Int) ≤ (0 : Int32).toInt ∧ (0 : Int32).toInt ≤ 0 by decide)) f_o0_0 f_o0_37 f_o0_38 f_o0_43 i3 f_o0_95 x_0 x_1 (show 1 ≤ (o0.1 37).toInt by omega) (show (yo0.1 31).toInt ≤ (o0.1 31).toInt by omega) (show (o0.1 37).toInt = (yo0.1 37).toInt by omega) (show v2.toInt < 2 * ((o0.1 37).toInt + (o0.1 31).toInt) by omega) (show 0 ≤ v1.toInt by omega) (show 1 < 2 * ((o0.1 37).toInt + (o0.1 31).toInt) by omega) (show 0 ≤ 0 by omega) (show 0 + (16 - v3.toInt - 1) * 14 + 1 + (5 - 0) * 2 < (n : Int) by omega)
set_option maxHeartbeats 4000000 in
set_option maxRecDepth 100000 in
theorem hM_build_I (yv1 : Int32) (yo0 : cf_O) : ∀ n, HM_build_I yv1 yo0 n := by
  intro n
  induction n with
  | zero => exact ⟨(fun v1 v2 v3 o0 k_o0 r_o0 i_v1 i_v2 i_v3 f_o0_0 f_o0_37 f_o0_38 f_o0_43 f_o0_95 x_0 x_1 x_2 x_3 x_4 x_5 x_6 hm => by exact absurd (show 0 + (16 - v3.toInt) * 14 < (0 : Int) from hm) (by omega)), (fun v1 v2 v3 v4 v5 o0 k_o0 r_o0 i_v1 i_v2 i_v3 i_v4 i_v5 f_o0_0 f_o0_37 f_o0_38 f_o0_43 f_o0_70 f_o0_95 x_0 x_1 x_2 x_3 x_4 x_5 x_6 x_7 x_8 hm => by exact absurd (show 0 + (16 - v3.toInt - 1) * 14 + 1 + (5 - v5.toInt) * 2 < (0 : Int) from hm) (by omega))⟩
  | succ n ih => exact ⟨(fun v1 v2 v3 o0 k_o0 r_o0 i_v1 i_v2 i_v3 f_o0_0 f_o0_37 f_o0_38 f_o0_43 f_o0_95 x_0 x_1 x_2 x_3 x_4 x_5 x_6 hm => tM_build_I_4 ih v1 v2 v3 o0 k_o0 r_o0 i_v1 i_v2 i_v3 f_o0_0 f_o0_37 f_o0_38 f_o0_43 f_o0_95 x_0 x_1 x_2 x_3 x_4 x_5 x_6 (by omega)), (fun v1 v2 v3 v4 v5 o0 k_o0 r_o0 i_v1 i_v2 i_v3 i_v4 i_v5 f_o0_0 f_o0_37 f_o0_38 f_o0_43 f_o0_70 f_o0_95 x_0 x_1 x_2 x_3 x_4 x_5 x_6 x_7 x_8 hm => tM_build_I_18 ih v1 v2 v3 v4 v5 o0 k_o0 r_o0 i_v1 i_v2 i_v3 i_v4 i_v5 f_o0_0 f_o0_37 f_o0_38 f_o0_43 f_o0_70 f_o0_95 x_0 x_1 x_2 x_3 x_4 x_5 x_6 x_7 x_8 (by omega))⟩
set_option maxHeartbeats 4000000 in
set_option maxRecDepth 100000 in
theorem sM_build_I (v1 : Int32) (o0 : cf_O) (k_o0 : okO I_M o0) (i_v1 : (0 : Int) ≤ v1.toInt ∧ v1.toInt ≤ 63209) (f_o0_0 : (0 : Int) ≤ (o0.1 0).toInt ∧ (o0.1 0).toInt ≤ 0) (f_o0_37 : (1 : Int) ≤ (o0.1 37).toInt ∧ (o0.1 37).toInt ≤ 9) (f_o0_38 : (1 : Int) ≤ (o0.1 38).toInt ∧ (o0.1 38).toInt ≤ 1) (f_o0_43 : (1 : Int) ≤ (o0.1 43).toInt ∧ (o0.1 43).toInt ≤ 200) (f_o0_95 : (0 : Int) ≤ (o0.1 95).toInt ∧ (o0.1 95).toInt ≤ 0) (x_0 : Gx (o0.1 37).toInt (o0.1 31).toInt (o0.2.1 32) (o0.2.1 33)) (x_1 : Rb v1.toNatClampNeg ((o0.1 37).toInt + (o0.1 31).toInt) (o0.2.1 59) (o0.2.1 58) (o0.2.1 51)) (x_2 : 1 ≤ (o0.1 37).toInt) : tt (fM_build_I v1 o0) (QM_build_I v1 o0) := by
  have H := hM_build_I v1 o0 cfFU
  have hm : (227 : Int) ≤ (cfFU : Nat) := by decide
  have r_o0 : Fr (fr_M [31, 36] [32, 33, 34] []) o0 o0 := fr_rfl
  unfold fM_build_I fM_build_I_0
  have g_o0_31 : (0 : Int) ≤ (o0.1 31).toInt ∧ (o0.1 31).toInt ≤ 200 := k_o0.1 31
  have g_o0_70 : (0 : Int) ≤ (o0.1 70).toInt ∧ (o0.1 70).toInt ≤ 16 := k_o0.1 70
  exact H.1 _ _ _ _ k_o0 r_o0 i_v1 (iv_w (a := 0) (b := 417) (by decide) (by decide) (show (0 : Int) ≤ (0 : Int32).toInt ∧ (0 : Int32).toInt ≤ 0 by decide)) (iv_w (a := 0) (b := 16) (by decide) (by decide) (show (0 : Int) ≤ (0 : Int32).toInt ∧ (0 : Int32).toInt ≤ 0 by decide)) f_o0_0 f_o0_37 f_o0_38 f_o0_43 f_o0_95 x_0 x_1 (show 1 ≤ (o0.1 37).toInt by omega) (show (o0.1 31).toInt ≤ (o0.1 31).toInt by omega) (show (o0.1 37).toInt = (o0.1 37).toInt by omega) (show 0 < 2 * ((o0.1 37).toInt + (o0.1 31).toInt) by omega) (show 0 ≤ v1.toInt by omega) (show 0 + (16 - 0) * 14 < ((cfFU : Nat) : Int) by omega)
def QM_table (v1 : Int32) (o0 : cf_O) (r : (Int32 × cf_O)) : Prop := (okO I_M r.2) ∧ (Fr (fr_M [] [75] []) o0 r.2) ∧ True
def HM_table (yv1 : Int32) (yo0 : cf_O) (n : Nat) : Prop := (∀ (v1 : Int32) (v2 : Int32) (v3 : Int32) (o0 : cf_O), (okO I_M o0) → (Fr (fr_M [] [75] []) yo0 o0) → ((0 : Int) ≤ v1.toInt ∧ v1.toInt ≤ 208) → ((0 : Int) ≤ v3.toInt ∧ v3.toInt ≤ 32) → ((0 : Int) ≤ (o0.1 0).toInt ∧ (o0.1 0).toInt ≤ 0) → ((0 : Int) ≤ (o0.1 95).toInt ∧ (o0.1 95).toInt ≤ 0) → (v1.toInt ≤ (o0.1 39).toInt + (o0.1 43).toInt) → 0 + (32 - v3.toInt) * 2 < (n : Int) → tt (gM_table n 0 v1 v2 v3 o0) (QM_table yv1 yo0))
set_option maxHeartbeats 4000000 in
set_option maxRecDepth 100000 in
theorem tM_table_4 {yv1 : Int32} {yo0 : cf_O} {n : Nat} (H : HM_table yv1 yo0 n) (v1 : Int32) (v2 : Int32) (v3 : Int32) (o0 : cf_O) (k_o0 : okO I_M o0) (r_o0 : Fr (fr_M [] [75] []) yo0 o0) (i_v1 : (0 : Int) ≤ v1.toInt ∧ v1.toInt ≤ 208) (i_v3 : (0 : Int) ≤ v3.toInt ∧ v3.toInt ≤ 32) (f_o0_0 : (0 : Int) ≤ (o0.1 0).toInt ∧ (o0.1 0).toInt ≤ 0) (f_o0_95 : (0 : Int) ≤ (o0.1 95).toInt ∧ (o0.1 95).toInt ≤ 0) (x_0 : v1.toInt ≤ (o0.1 39).toInt + (o0.1 43).toInt) (hm : 0 + (32 - v3.toInt) * 2 ≤ (n : Int)) : tt (fM_table_4 (gM_table n) v1 v2 v3 o0) (QM_table yv1 yo0) := by
  unfold fM_table_4
  have i_v2 := iv_top v2
  have g_o0_39 : (0 : Int) ≤ (o0.1 39).toInt ∧ (o0.1 39).toInt ≤ 8 := k_o0.1 39
  have ey_o0_39 : (o0.1 39).toInt = (yo0.1 39).toInt := congrArg Int32.toInt (r_o0.1 39 rfl)
  have g_o0_43 : (0 : Int) ≤ (o0.1 43).toInt ∧ (o0.1 43).toInt ≤ 200 := k_o0.1 43
  have ey_o0_43 : (o0.1 43).toInt = (yo0.1 43).toInt := congrArg Int32.toInt (r_o0.1 43 rfl)
  refine tt_n (ix_ok i_v1 (by decide) (by decide)) ?_
  refine tt_kv (P := fun z => ((0 : Int) ≤ z.toInt ∧ z.toInt ≤ 63209) ∧ z.toInt = (o0.2.1 63 v1.toNatClampNeg).toInt) ⟨(k_o0.2 63 _), rfl⟩ (fun x1 qi2 => ?_)
  obtain ⟨i2, ei2⟩ := qi2
  refine tt_n (ix_ok i2 (by decide) (by decide)) ?_
  refine tt_kv (P := fun z => ((0 : Int) ≤ z.toInt ∧ z.toInt ≤ 5) ∧ z.toInt = (o0.2.1 59 x1.toNatClampNeg).toInt) ⟨(k_o0.2 59 _), rfl⟩ (fun x3 qi4 => ?_)
  obtain ⟨i4, ei4⟩ := qi4
  refine tt_kv (P := fun z => ((1 : Int) ≤ z.toInt ∧ z.toInt ≤ 32) ∧ z.toInt = ((1 : Int32) <<< (x3 &&& (31 : Int32))).toInt) ⟨iv_shl (p := 0) (q := 5) (show (1 : Int) ≤ (1 : Int32).toInt ∧ (1 : Int32).toInt ≤ 1 by decide) i4 (by decide) (by decide) (by decide) (by decide) (by decide), rfl⟩ (fun x5 qi6 => ?_)
  obtain ⟨i6, ei6⟩ := qi6
  refine tt_if (fun c7 => ?_) (fun c7 => ?_)
  · have wc7 : x5.toInt ≤ v3.toInt := c_le c7
    have i8 : (1 : Int) ≤ v3.toInt ∧ v3.toInt ≤ 32 := nr_ler c7 i6 i_v3 (by decide) (by decide)
    exact tt_some ⟨k_o0, r_o0, trivial⟩
  · have wc7 : v3.toInt < x5.toInt := c_nle c7
    have i9 : (0 : Int) ≤ v3.toInt ∧ v3.toInt ≤ 31 := nr_nlel c7 i_v3 i6 (by decide) (by decide)
    refine tt_b (sM_cellValue _ _ _ k_o0 i_v1 i9 f_o0_0 f_o0_95 (show v1.toInt ≤ (o0.1 39).toInt + (o0.1 43).toInt by omega)) (fun q10 hq10 => ?_)
    obtain ⟨i_q10, k_q10_2, n_q10_2, -⟩ := hq10
    have r_q10_2 := fr_tr r_o0 n_q10_2 rfl rfl rfl
    have f_q10_2_0 : (0 : Int) ≤ (q10.2.1 0).toInt ∧ (q10.2.1 0).toInt ≤ 0 := by rw [n_q10_2.1 0 rfl]; exact f_o0_0
    have f_q10_2_95 : (0 : Int) ≤ (q10.2.1 95).toInt ∧ (q10.2.1 95).toInt ≤ 0 := by rw [n_q10_2.1 95 rfl]; exact f_o0_95
    have e_q10_2_39 : (q10.2.1 39).toInt = (o0.1 39).toInt := congrArg Int32.toInt (n_q10_2.1 39 rfl)
    have g_q10_2_39 : (0 : Int) ≤ (q10.2.1 39).toInt ∧ (q10.2.1 39).toInt ≤ 8 := k_q10_2.1 39
    have e_q10_2_43 : (q10.2.1 43).toInt = (o0.1 43).toInt := congrArg Int32.toInt (n_q10_2.1 43 rfl)
    have g_q10_2_43 : (0 : Int) ≤ (q10.2.1 43).toInt ∧ (q10.2.1 43).toInt ≤ 200 := k_q10_2.1 43
    refine tt_if (fun c11 => ?_) (fun c11 => ?_)
    · have wc11 : q10.1.toInt = (0 : Int) := c_eq c11
      have i12 : (0 : Int) ≤ q10.1.toInt ∧ q10.1.toInt ≤ 0 := nr_eql c11 i_q10 (show (0 : Int) ≤ (0 : Int32).toInt ∧ (0 : Int32).toInt ≤ 0 by decide) (by decide) (by decide)
      try unfold fM_table_39
      refine tt_kv (P := fun z => ((1 : Int) ≤ z.toInt ∧ z.toInt ≤ 32) ∧ z.toInt = v3.toInt + 1) ⟨iv_add i9 (show (1 : Int) ≤ (1 : Int32).toInt ∧ (1 : Int32).toInt ≤ 1 by decide) (by decide) (by decide) (by decide) (by decide), iq_add i9 (show (1 : Int) ≤ (1 : Int32).toInt ∧ (1 : Int32).toInt ≤ 1 by decide) (by decide) (by decide)⟩ (fun x13 qi14 => ?_)
      obtain ⟨i14, ei14⟩ := qi14
      exact H _ _ _ _ k_q10_2 r_q10_2 i_v1 (iv_w (a := 0) (b := 32) (by decide) (by decide) i14) f_q10_2_0 f_q10_2_95 (show v1.toInt ≤ (q10.2.1 39).toInt + (q10.2.1 43).toInt by omega) (show 0 + (32 - x13.toInt) * 2 < (n : Int) by omega)
    · have wc11 : ¬ q10.1.toInt = (0 : Int) := c_ne c11
      have i15 : (1 : Int) ≤ q10.1.toInt ∧ q10.1.toInt ≤ 1 := nr_nela c11 i_q10 (show (0 : Int) ≤ (0 : Int32).toInt ∧ (0 : Int32).toInt ≤ 0 by decide) (by decide) (by decide)
      refine tt_kv (P := fun z => (((-2147483648) : Int) ≤ z.toInt ∧ z.toInt ≤ 2147483647) ∧ z.toInt = ((1 : Int32) <<< (v3 &&& (31 : Int32))).toInt) ⟨iv_top _, rfl⟩ (fun x16 qi17 => ?_)
      obtain ⟨i17, ei17⟩ := qi17
      refine tt_kv (P := fun z => ((-2147483648) : Int) ≤ z.toInt ∧ z.toInt ≤ 2147483647) (iv_top _) (fun x18 i19 => ?_)
      try unfold fM_table_39
      refine tt_kv (P := fun z => ((1 : Int) ≤ z.toInt ∧ z.toInt ≤ 32) ∧ z.toInt = v3.toInt + 1) ⟨iv_add i9 (show (1 : Int) ≤ (1 : Int32).toInt ∧ (1 : Int32).toInt ≤ 1 by decide) (by decide) (by decide) (by decide) (by decide), iq_add i9 (show (1 : Int) ≤ (1 : Int32).toInt ∧ (1 : Int32).toInt ≤ 1 by decide) (by decide) (by decide)⟩ (fun x20 qi21 => ?_)
      obtain ⟨i21, ei21⟩ := qi21
      exact H _ _ _ _ k_q10_2 r_q10_2 i_v1 (iv_w (a := 0) (b := 32) (by decide) (by decide) i21) f_q10_2_0 f_q10_2_95 (show v1.toInt ≤ (q10.2.1 39).toInt + (q10.2.1 43).toInt by omega) (show 0 + (32 - x20.toInt) * 2 < (n : Int) by omega)
set_option maxHeartbeats 4000000 in
set_option maxRecDepth 100000 in
theorem hM_table (yv1 : Int32) (yo0 : cf_O) : ∀ n, HM_table yv1 yo0 n := by
  intro n
  induction n with
  | zero => exact (fun v1 v2 v3 o0 k_o0 r_o0 i_v1 i_v3 f_o0_0 f_o0_95 x_0 hm => by exact absurd (show 0 + (32 - v3.toInt) * 2 < (0 : Int) from hm) (by omega))
  | succ n ih => exact (fun v1 v2 v3 o0 k_o0 r_o0 i_v1 i_v3 f_o0_0 f_o0_95 x_0 hm => tM_table_4 ih v1 v2 v3 o0 k_o0 r_o0 i_v1 i_v3 f_o0_0 f_o0_95 x_0 (by omega))
set_option maxHeartbeats 4000000 in
set_option maxRecDepth 100000 in
theorem sM_table (v1 : Int32) (o0 : cf_O) (k_o0 : okO I_M o0) (i_v1 : (0 : Int) ≤ v1.toInt ∧ v1.toInt ≤ 208) (f_o0_0 : (0 : Int) ≤ (o0.1 0).toInt ∧ (o0.1 0).toInt ≤ 0) (f_o0_95 : (0 : Int) ≤ (o0.1 95).toInt ∧ (o0.1 95).toInt ≤ 0) (x_0 : v1.toInt ≤ (o0.1 39).toInt + (o0.1 43).toInt) : tt (fM_table v1 o0) (QM_table v1 o0) := by
  have H := hM_table v1 o0 cfFU
  have hm : (67 : Int) ≤ (cfFU : Nat) := by decide
  have r_o0 : Fr (fr_M [] [75] []) o0 o0 := fr_rfl
  unfold fM_table fM_table_0
  have g_o0_39 : (0 : Int) ≤ (o0.1 39).toInt ∧ (o0.1 39).toInt ≤ 8 := k_o0.1 39
  have g_o0_43 : (0 : Int) ≤ (o0.1 43).toInt ∧ (o0.1 43).toInt ≤ 200 := k_o0.1 43
  exact H _ _ _ _ k_o0 r_o0 i_v1 (iv_w (a := 0) (b := 32) (by decide) (by decide) (show (0 : Int) ≤ (0 : Int32).toInt ∧ (0 : Int32).toInt ≤ 0 by decide)) f_o0_0 f_o0_95 (show v1.toInt ≤ (o0.1 39).toInt + (o0.1 43).toInt by omega) (show 0 + (32 - 0) * 2 < ((cfFU : Nat) : Int) by omega)
def QM_rewrite (o0 : cf_O) (r : (Int32 × cf_O)) : Prop := ((0 : Int) ≤ r.1.toInt ∧ r.1.toInt ≤ 200) ∧ (okO I_M r.2) ∧ (Fr (fr_M [0, 31, 36, 37, 43, 64, 70, 73, 85] [32, 33, 34, 35, 44, 45, 46, 47, 48, 49, 50, 51, 57, 58, 59, 60, 61, 62, 63, 67, 68, 69, 72, 74, 75] []) o0 r.2) ∧ ((0 : Int) ≤ (r.2.1 0).toInt ∧ (r.2.1 0).toInt ≤ 2) ∧ (Ch (r.2.1 64) (r.2.1 73) (r.2.1 39) (r.2.1 43) (r.2.2.1 74)) ∧ (Lmd (r.2.1 64).toInt (r.2.1 65).toInt) ∧ (Cn (r.2.2.1 59) (r.2.2.1 58)) ∧ (Gx ((r.2.1 39).toInt + 1) (r.2.1 43).toInt (r.2.2.1 44) (r.2.2.1 45)) ∧ (No (r.2.1 40).toInt ((r.2.1 39).toInt + 1 + (r.2.1 43).toInt) (r.2.2.1 47)) ∧ (Hc (r.2.1 64).toInt ((r.2.1 39).toInt + 1) (r.2.1 43).toInt (r.2.1 65).toInt (r.2.2.1 44) (r.2.2.1 45)) ∧ True
def HM_rewrite (yo0 : cf_O) (n : Nat) : Prop := (∀ (v1 : Int32) (o0 : cf_O), (okO I_M o0) → (Fr (fr_M [0, 31, 36, 37, 43, 64, 70, 73, 85] [32, 33, 34, 35, 44, 45, 46, 47, 48, 49, 50, 51, 57, 58, 59, 60, 61, 62, 63, 67, 68, 69, 72, 74, 75] []) yo0 o0) → ((0 : Int) ≤ v1.toInt ∧ v1.toInt ≤ 200) → ((0 : Int) ≤ (o0.1 0).toInt ∧ (o0.1 0).toInt ≤ 0) → ((1 : Int) ≤ (o0.1 37).toInt ∧ (o0.1 37).toInt ≤ 9) → ((1 : Int) ≤ (o0.1 38).toInt ∧ (o0.1 38).toInt ≤ 1) → ((0 : Int) ≤ (o0.1 95).toInt ∧ (o0.1 95).toInt ≤ 0) → (Ch (o0.1 64) (o0.1 73) (o0.1 39) (o0.1 43) (o0.2.1 74)) → (Lmd (o0.1 64).toInt (o0.1 65).toInt) → (Cn (o0.2.1 59) (o0.2.1 58)) → (Bs ((o0.1 39).toInt + 1) (o0.1 43).toInt 4 (o0.2.1 63) (o0.2.1 59)) → (Gx ((o0.1 39).toInt + 1) (o0.1 43).toInt (o0.2.1 44) (o0.2.1 45)) → (No (o0.1 40).toInt ((o0.1 39).toInt + 1 + (o0.1 43).toInt) (o0.2.1 47)) → (Hc (o0.1 64).toInt ((o0.1 39).toInt + 1) (o0.1 43).toInt (o0.1 65).toInt (o0.2.1 44) (o0.2.1 45)) → (Gx (o0.1 37).toInt (o0.1 31).toInt (o0.2.1 32) (o0.2.1 33)) → (Lk (-1) ((o0.1 39).toInt + 1) (o0.1 43).toInt (o0.1 40).toInt (o0.2.1 47) (o0.2.1 44) (o0.2.1 45) (o0.2.1 49) (o0.2.1 48)) → (Rn ((o0.1 39).toInt + 1 + v1.toInt) ((o0.1 39).toInt + 1) ((o0.1 37).toInt + (o0.1 31).toInt) (o0.2.1 49) (o0.2.1 51)) → ((o0.1 37).toInt = (o0.1 39).toInt + 1) → (v1.toInt ≤ (o0.1 43).toInt) → (Cz ((o0.1 39).toInt + 1 + (o0.1 43).toInt) ((o0.1 39).toInt + 1) (o0.1 43).toInt (o0.2.1 44) (o0.2.1 45) (o0.2.1 57) (o0.2.1 59) (o0.2.1 58)) → (Sa (o0.1 43).toInt ((o0.1 39).toInt + 1) (o0.2.1 57) (o0.2.1 59) (o0.2.1 58)) → (Be 1 ((o0.1 39).toInt + 1) (o0.1 43).toInt (o0.2.1 57) (o0.2.1 63)) → 0 + (200 - v1.toInt) * 2 < (n : Int) → tt (gM_rewrite n 0 v1 o0) (QM_rewrite yo0))
set_option maxHeartbeats 4000000 in
set_option maxRecDepth 100000 in
theorem tM_rewrite_63 {yo0 : cf_O} {n : Nat} (H : HM_rewrite yo0 n) (v1 : Int32) (o0 : cf_O) (k_o0 : okO I_M o0) (r_o0 : Fr (fr_M [0, 31, 36, 37, 43, 64, 70, 73, 85] [32, 33, 34, 35, 44, 45, 46, 47, 48, 49, 50, 51, 57, 58, 59, 60, 61, 62, 63, 67, 68, 69, 72, 74, 75] []) yo0 o0) (i_v1 : (0 : Int) ≤ v1.toInt ∧ v1.toInt ≤ 200) (f_o0_0 : (0 : Int) ≤ (o0.1 0).toInt ∧ (o0.1 0).toInt ≤ 0) (f_o0_37 : (1 : Int) ≤ (o0.1 37).toInt ∧ (o0.1 37).toInt ≤ 9) (f_o0_38 : (1 : Int) ≤ (o0.1 38).toInt ∧ (o0.1 38).toInt ≤ 1) (f_o0_95 : (0 : Int) ≤ (o0.1 95).toInt ∧ (o0.1 95).toInt ≤ 0) (x_0 : Ch (o0.1 64) (o0.1 73) (o0.1 39) (o0.1 43) (o0.2.1 74)) (x_1 : Lmd (o0.1 64).toInt (o0.1 65).toInt) (x_2 : Cn (o0.2.1 59) (o0.2.1 58)) (x_3 : Bs ((o0.1 39).toInt + 1) (o0.1 43).toInt 4 (o0.2.1 63) (o0.2.1 59)) (x_4 : Gx ((o0.1 39).toInt + 1) (o0.1 43).toInt (o0.2.1 44) (o0.2.1 45)) (x_5 : No (o0.1 40).toInt ((o0.1 39).toInt + 1 + (o0.1 43).toInt) (o0.2.1 47)) (x_6 : Hc (o0.1 64).toInt ((o0.1 39).toInt + 1) (o0.1 43).toInt (o0.1 65).toInt (o0.2.1 44) (o0.2.1 45)) (x_7 : Gx (o0.1 37).toInt (o0.1 31).toInt (o0.2.1 32) (o0.2.1 33)) (x_8 : Lk (-1) ((o0.1 39).toInt + 1) (o0.1 43).toInt (o0.1 40).toInt (o0.2.1 47) (o0.2.1 44) (o0.2.1 45) (o0.2.1 49) (o0.2.1 48)) (x_9 : Rn ((o0.1 39).toInt + 1 + v1.toInt) ((o0.1 39).toInt + 1) ((o0.1 37).toInt + (o0.1 31).toInt) (o0.2.1 49) (o0.2.1 51)) (x_10 : (o0.1 37).toInt = (o0.1 39).toInt + 1) (x_11 : v1.toInt ≤ (o0.1 43).toInt) (x_12 : Cz ((o0.1 39).toInt + 1 + (o0.1 43).toInt) ((o0.1 39).toInt + 1) (o0.1 43).toInt (o0.2.1 44) (o0.2.1 45) (o0.2.1 57) (o0.2.1 59) (o0.2.1 58)) (x_13 : Sa (o0.1 43).toInt ((o0.1 39).toInt + 1) (o0.2.1 57) (o0.2.1 59) (o0.2.1 58)) (x_14 : Be 1 ((o0.1 39).toInt + 1) (o0.1 43).toInt (o0.2.1 57) (o0.2.1 63)) (hm : 0 + (200 - v1.toInt) * 2 ≤ (n : Int)) : tt (fM_rewrite_63 (gM_rewrite n) v1 o0) (QM_rewrite yo0) := by
  unfold fM_rewrite_63
  have g_o0_31 : (0 : Int) ≤ (o0.1 31).toInt ∧ (o0.1 31).toInt ≤ 200 := k_o0.1 31
  have g_o0_39 : (0 : Int) ≤ (o0.1 39).toInt ∧ (o0.1 39).toInt ≤ 8 := k_o0.1 39
  have ey_o0_39 : (o0.1 39).toInt = (yo0.1 39).toInt := congrArg Int32.toInt (r_o0.1 39 rfl)
  have g_o0_43 : (0 : Int) ≤ (o0.1 43).toInt ∧ (o0.1 43).toInt ≤ 200 := k_o0.1 43
  refine tt_if (fun c1 => ?_) (fun c1 => ?_)
  · have wc1 : (o0.1 43).toInt ≤ v1.toInt := c_le c1
    have p2 : Fn (o0.1 40).toInt ((o0.1 37).toInt + (o0.1 31).toInt) (o0.2.1 47) (o0.2.1 51) := by exact Fn_i (show Lk (-1) _ _ _ _ _ _ _ _ by assumption) (show Rn ((o0.1 39).toInt + 1 + (o0.1 43).toInt) _ _ _ _ by rw [show (o0.1 43).toInt = v1.toInt by omega]; assumption) (by assumption) (fun k => (k_o0.2 47 k).1)
    refine tt_b (sM_finish _ k_o0 (iv_w (a := 0) (b := 2) (by decide) (by decide) f_o0_0) f_o0_37 f_o0_38 f_o0_95 x_0 x_1 x_7 x_4 x_5 p2 (show (o0.1 37).toInt = (o0.1 39).toInt + 1 by omega) x_6) (fun q3 hq3 => ?_)
    obtain ⟨i_q3, k_q3_2, n_q3_2, f_q3_2_0, zq3_0, zq3_1, zq3_2, zq3_3, zq3_4, -⟩ := hq3
    have r_q3_2 := fr_tr r_o0 n_q3_2 rfl rfl rfl
    have f_q3_2_37 : (1 : Int) ≤ (q3.2.1 37).toInt ∧ (q3.2.1 37).toInt ≤ 9 := by rw [n_q3_2.1 37 rfl]; exact f_o0_37
    have f_q3_2_38 : (1 : Int) ≤ (q3.2.1 38).toInt ∧ (q3.2.1 38).toInt ≤ 1 := by rw [n_q3_2.1 38 rfl]; exact f_o0_38
    have f_q3_2_95 : (0 : Int) ≤ (q3.2.1 95).toInt ∧ (q3.2.1 95).toInt ≤ 0 := by rw [n_q3_2.1 95 rfl]; exact f_o0_95
    have e_q3_2_31 : (q3.2.1 31).toInt = (o0.1 31).toInt := congrArg Int32.toInt (n_q3_2.1 31 rfl)
    have g_q3_2_31 : (0 : Int) ≤ (q3.2.1 31).toInt ∧ (q3.2.1 31).toInt ≤ 200 := k_q3_2.1 31
    have e_q3_2_37 : (q3.2.1 37).toInt = (o0.1 37).toInt := congrArg Int32.toInt (n_q3_2.1 37 rfl)
    have e_q3_2_39 : (q3.2.1 39).toInt = (o0.1 39).toInt := congrArg Int32.toInt (n_q3_2.1 39 rfl)
    have g_q3_2_39 : (0 : Int) ≤ (q3.2.1 39).toInt ∧ (q3.2.1 39).toInt ≤ 8 := k_q3_2.1 39
    have g_q3_2_43 : (0 : Int) ≤ (q3.2.1 43).toInt ∧ (q3.2.1 43).toInt ≤ 200 := k_q3_2.1 43
    have u4 : Cn (q3.2.2.1 59) (q3.2.2.1 58) := by rw [n_q3_2.2.1 58 rfl, n_q3_2.2.1 59 rfl]; exact x_2
    have u5 : Gx (q3.2.1 37).toInt (q3.2.1 31).toInt (q3.2.2.1 32) (q3.2.2.1 33) := by rw [n_q3_2.1 31 rfl, n_q3_2.1 37 rfl, n_q3_2.2.1 32 rfl, n_q3_2.2.1 33 rfl]; exact x_7
    have u6 : Rn ((q3.2.1 39).toInt + 1 + v1.toInt) ((q3.2.1 39).toInt + 1) ((q3.2.1 37).toInt + (q3.2.1 31).toInt) (q3.2.2.1 49) (q3.2.2.1 51) := by rw [n_q3_2.1 31 rfl, n_q3_2.1 37 rfl, n_q3_2.1 39 rfl, n_q3_2.2.1 49 rfl, n_q3_2.2.1 51 rfl]; exact x_9
    refine tt_if (fun c7 => ?_) (fun c7 => ?_)
    · have wc7 : (q3.2.1 0).toInt ≤ (0 : Int) := c_le c7
      have i8 : (0 : Int) ≤ (q3.2.1 0).toInt ∧ (q3.2.1 0).toInt ≤ 0 := nr_lel c7 f_q3_2_0 (show (0 : Int) ≤ (0 : Int32).toInt ∧ (0 : Int32).toInt ≤ 0 by decide) (by decide) (by decide)
      try unfold fM_rewrite_220
      exact tt_some ⟨i_q3, k_q3_2, r_q3_2, (iv_w (a := 0) (b := 2) (by decide) (by decide) i8), zq3_0, zq3_1, u4, zq3_2, zq3_3, zq3_4, trivial⟩
    · have wc7 : (0 : Int) < (q3.2.1 0).toInt := c_nle c7
      have i9 : (1 : Int) ≤ (q3.2.1 0).toInt ∧ (q3.2.1 0).toInt ≤ 2 := nr_nler c7 (show (0 : Int) ≤ (0 : Int32).toInt ∧ (0 : Int32).toInt ≤ 0 by decide) f_q3_2_0 (by decide) (by decide)
      refine tt_b (sM_again _ k_q3_2 (iv_w (a := 0) (b := 2) (by decide) (by decide) i9) f_q3_2_38 f_q3_2_95 zq3_0 zq3_1 u4 zq3_2 zq3_3 zq3_4) (fun q10 hq10 => ?_)
      obtain ⟨k_q10, n_q10, zq10_0, zq10_1, zq10_2, zq10_3, zq10_4, zq10_5, -⟩ := hq10
      have r_q10 := fr_tr r_q3_2 n_q10 rfl rfl rfl
      have f_q10_0 : (1 : Int) ≤ (q10.1 0).toInt ∧ (q10.1 0).toInt ≤ 2 := by rw [n_q10.1 0 rfl]; exact i9
      have f_q10_37 : (1 : Int) ≤ (q10.1 37).toInt ∧ (q10.1 37).toInt ≤ 9 := by rw [n_q10.1 37 rfl]; exact f_q3_2_37
      have f_q10_38 : (1 : Int) ≤ (q10.1 38).toInt ∧ (q10.1 38).toInt ≤ 1 := by rw [n_q10.1 38 rfl]; exact f_q3_2_38
      have f_q10_95 : (0 : Int) ≤ (q10.1 95).toInt ∧ (q10.1 95).toInt ≤ 0 := by rw [n_q10.1 95 rfl]; exact f_q3_2_95
      have e_q10_31 : (q10.1 31).toInt = (q3.2.1 31).toInt := congrArg Int32.toInt (n_q10.1 31 rfl)
      have g_q10_31 : (0 : Int) ≤ (q10.1 31).toInt ∧ (q10.1 31).toInt ≤ 200 := k_q10.1 31
      have e_q10_37 : (q10.1 37).toInt = (q3.2.1 37).toInt := congrArg Int32.toInt (n_q10.1 37 rfl)
      have e_q10_39 : (q10.1 39).toInt = (q3.2.1 39).toInt := congrArg Int32.toInt (n_q10.1 39 rfl)
      have g_q10_39 : (0 : Int) ≤ (q10.1 39).toInt ∧ (q10.1 39).toInt ≤ 8 := k_q10.1 39
      have e_q10_43 : (q10.1 43).toInt = (q3.2.1 43).toInt := congrArg Int32.toInt (n_q10.1 43 rfl)
      have g_q10_43 : (0 : Int) ≤ (q10.1 43).toInt ∧ (q10.1 43).toInt ≤ 200 := k_q10.1 43
      have u15 : Gx (q10.1 37).toInt (q10.1 31).toInt (q10.2.1 32) (q10.2.1 33) := by rw [n_q10.1 31 rfl, n_q10.1 37 rfl, n_q10.2.1 32 rfl, n_q10.2.1 33 rfl]; exact u5
      have u16 : Rn ((q10.1 39).toInt + 1 + v1.toInt) ((q10.1 39).toInt + 1) ((q10.1 37).toInt + (q10.1 31).toInt) (q10.2.1 49) (q10.2.1 51) := by rw [n_q10.1 31 rfl, n_q10.1 37 rfl, n_q10.1 39 rfl, n_q10.2.1 49 rfl, n_q10.2.1 51 rfl]; exact u6
      try unfold fM_rewrite_220
      exact tt_some ⟨i_q3, k_q10, r_q10, (iv_w (a := 0) (b := 2) (by decide) (by decide) f_q10_0), zq10_0, zq10_1, zq10_2, zq10_3, zq10_4, zq10_5, trivial⟩
  · have wc1 : v1.toInt < (o0.1 43).toInt := c_nle c1
    have i17 : (0 : Int) ≤ v1.toInt ∧ v1.toInt ≤ 199 := nr_nlel c1 i_v1 (k_o0.1 43) (by decide) (by decide)
    have i18 : (1 : Int) ≤ (o0.1 43).toInt ∧ (o0.1 43).toInt ≤ 200 := nr_nler c1 i_v1 (k_o0.1 43) (by decide) (by decide)
    try unfold fM_base
    try unfold fM_base_0
    refine tt_bkv (P := fun z => ((1 : Int) ≤ z.toInt ∧ z.toInt ≤ 9) ∧ z = ((o0.1 39) + 1) ∧ z.toInt = (o0.1 39).toInt + 1) ⟨iv_add (k_o0.1 39) (show (1 : Int) ≤ (1 : Int32).toInt ∧ (1 : Int32).toInt ≤ 1 by decide) (by decide) (by decide) (by decide) (by decide), rfl, iq_add (k_o0.1 39) (show (1 : Int) ≤ (1 : Int32).toInt ∧ (1 : Int32).toInt ≤ 1 by decide) (by decide) (by decide)⟩ (fun x19 qi20 => ?_)
    obtain ⟨i20, ax19, ei20⟩ := qi20
    refine tt_bs ?_
    refine tt_kv (P := fun z => ((1 : Int) ≤ z.toInt ∧ z.toInt ≤ 208) ∧ z = (x19 + v1) ∧ z.toInt = x19.toInt + v1.toInt) ⟨iv_add i20 i17 (by decide) (by decide) (by decide) (by decide), rfl, iq_add i20 i17 (by decide) (by decide)⟩ (fun x21 qi22 => ?_)
    obtain ⟨i22, ax21, ei22⟩ := qi22
    have u23 : ((x21.toNatClampNeg : Nat) : Int) = (o0.1 39).toInt + 1 + v1.toInt := nf_i ei22 ei20 (Int.le_trans (by decide) i22.1)
    refine tt_n (ix_ok i22 (by decide) (by decide)) ?_
    refine tt_kv (P := fun z => ((0 : Int) ≤ z.toInt ∧ z.toInt ≤ 1) ∧ z = (o0.2.1 49 x21.toNatClampNeg) ∧ z.toInt = (o0.2.1 49 x21.toNatClampNeg).toInt) ⟨(k_o0.2 49 _), rfl, rfl⟩ (fun x24 qi25 => ?_)
    obtain ⟨i25, ax24, ei25⟩ := qi25
    refine tt_if (fun c26 => ?_) (fun c26 => ?_)
    · have wc26 : x24.toInt = (0 : Int) := c_eq c26
      have i27 : (0 : Int) ≤ x24.toInt ∧ x24.toInt ≤ 0 := nr_eql c26 i25 (show (0 : Int) ≤ (0 : Int32).toInt ∧ (0 : Int32).toInt ≤ 0 by decide) (by decide) (by decide)
      try unfold fM_rewrite_198
      refine tt_kv (P := fun z => ((1 : Int) ≤ z.toInt ∧ z.toInt ≤ 200) ∧ z = (v1 + 1) ∧ z.toInt = v1.toInt + 1) ⟨iv_add i17 (show (1 : Int) ≤ (1 : Int32).toInt ∧ (1 : Int32).toInt ≤ 1 by decide) (by decide) (by decide) (by decide) (by decide), rfl, iq_add i17 (show (1 : Int) ≤ (1 : Int32).toInt ∧ (1 : Int32).toInt ≤ 1 by decide) (by decide) (by decide)⟩ (fun x28 qi29 => ?_)
      obtain ⟨i29, ax28, ei29⟩ := qi29
      have p30 : Rn ((o0.1 39).toInt + 1 + x28.toInt) ((o0.1 39).toInt + 1) ((o0.1 37).toInt + (o0.1 31).toInt) (o0.2.1 49) (o0.2.1 51) := by exact Rn_k x_9 (by omega) (by rw [tn_n]; omega) (by omega) (show (o0.2.1 49 x21.toNatClampNeg).toInt = 0 by omega)
      exact H _ _ k_o0 r_o0 (iv_w (a := 0) (b := 200) (by decide) (by decide) i29) f_o0_0 f_o0_37 f_o0_38 f_o0_95 x_0 x_1 x_2 x_3 x_4 x_5 x_6 x_7 x_8 p30 (show (o0.1 37).toInt = (o0.1 39).toInt + 1 by omega) (show x28.toInt ≤ (o0.1 43).toInt by omega) x_12 x_13 x_14 (show 0 + (200 - x28.toInt) * 2 < (n : Int) by omega)
    · have wc26 : ¬ x24.toInt = (0 : Int) := c_ne c26
      have i31 : (1 : Int) ≤ x24.toInt ∧ x24.toInt ≤ 1 := nr_nela c26 i25 (show (0 : Int) ≤ (0 : Int32).toInt ∧ (0 : Int32).toInt ≤ 0 by decide) (by decide) (by decide)
      have u32 : ¬ ((o0.2.1 49) x21.toNatClampNeg).toInt = 0 := by omega
      refine tt_n (ix_ok i22 (by decide) (by decide)) ?_
      refine tt_kv (P := fun z => ((0 : Int) ≤ z.toInt ∧ z.toInt ≤ 63209) ∧ z = (o0.2.1 63 x21.toNatClampNeg) ∧ z.toInt = (o0.2.1 63 x21.toNatClampNeg).toInt) ⟨(k_o0.2 63 _), rfl, rfl⟩ (fun x33 qi34 => ?_)
      obtain ⟨i34, ax33, ei34⟩ := qi34
      have t36 := tn_n x21
      have u35 : ((o0.2.1 59 x33.toNatClampNeg).toInt ≤ 4) := Bs_at x_3 (x21.toNatClampNeg) ax33 (by omega) (by omega)
      refine tt_b (sM_table _ _ k_o0 (iv_w (a := 0) (b := 208) (by decide) (by decide) i22) f_o0_0 f_o0_95 (show x21.toInt ≤ (o0.1 39).toInt + (o0.1 43).toInt by omega)) (fun q37 hq37 => ?_)
      obtain ⟨k_q37_2, n_q37_2, -⟩ := hq37
      have r_q37_2 := fr_tr r_o0 n_q37_2 rfl rfl rfl
      have f_q37_2_0 : (0 : Int) ≤ (q37.2.1 0).toInt ∧ (q37.2.1 0).toInt ≤ 0 := by rw [n_q37_2.1 0 rfl]; exact f_o0_0
      have f_q37_2_37 : (1 : Int) ≤ (q37.2.1 37).toInt ∧ (q37.2.1 37).toInt ≤ 9 := by rw [n_q37_2.1 37 rfl]; exact f_o0_37
      have f_q37_2_38 : (1 : Int) ≤ (q37.2.1 38).toInt ∧ (q37.2.1 38).toInt ≤ 1 := by rw [n_q37_2.1 38 rfl]; exact f_o0_38
      have f_q37_2_43 : (1 : Int) ≤ (q37.2.1 43).toInt ∧ (q37.2.1 43).toInt ≤ 200 := by rw [n_q37_2.1 43 rfl]; exact i18
      have f_q37_2_95 : (0 : Int) ≤ (q37.2.1 95).toInt ∧ (q37.2.1 95).toInt ≤ 0 := by rw [n_q37_2.1 95 rfl]; exact f_o0_95
      have e_q37_2_31 : (q37.2.1 31).toInt = (o0.1 31).toInt := congrArg Int32.toInt (n_q37_2.1 31 rfl)
      have g_q37_2_31 : (0 : Int) ≤ (q37.2.1 31).toInt ∧ (q37.2.1 31).toInt ≤ 200 := k_q37_2.1 31
      have e_q37_2_37 : (q37.2.1 37).toInt = (o0.1 37).toInt := congrArg Int32.toInt (n_q37_2.1 37 rfl)
      have e_q37_2_39 : (q37.2.1 39).toInt = (o0.1 39).toInt := congrArg Int32.toInt (n_q37_2.1 39 rfl)
      have g_q37_2_39 : (0 : Int) ≤ (q37.2.1 39).toInt ∧ (q37.2.1 39).toInt ≤ 8 := k_q37_2.1 39
      have e_q37_2_43 : (q37.2.1 43).toInt = (o0.1 43).toInt := congrArg Int32.toInt (n_q37_2.1 43 rfl)
      have u38 : Ch (q37.2.1 64) (q37.2.1 73) (q37.2.1 39) (q37.2.1 43) (q37.2.2.1 74) := by rw [n_q37_2.1 39 rfl, n_q37_2.1 43 rfl, n_q37_2.1 64 rfl, n_q37_2.1 73 rfl, n_q37_2.2.1 74 rfl]; exact x_0
      have u39 : Lmd (q37.2.1 64).toInt (q37.2.1 65).toInt := by rw [n_q37_2.1 64 rfl, n_q37_2.1 65 rfl]; exact x_1
      have u40 : Cn (q37.2.2.1 59) (q37.2.2.1 58) := by rw [n_q37_2.2.1 58 rfl, n_q37_2.2.1 59 rfl]; exact x_2
      have u41 : Bs ((q37.2.1 39).toInt + 1) (q37.2.1 43).toInt 4 (q37.2.2.1 63) (q37.2.2.1 59) := by rw [n_q37_2.1 39 rfl, n_q37_2.1 43 rfl, n_q37_2.2.1 59 rfl, n_q37_2.2.1 63 rfl]; exact x_3
      have u42 : Gx ((q37.2.1 39).toInt + 1) (q37.2.1 43).toInt (q37.2.2.1 44) (q37.2.2.1 45) := by rw [n_q37_2.1 39 rfl, n_q37_2.1 43 rfl, n_q37_2.2.1 44 rfl, n_q37_2.2.1 45 rfl]; exact x_4
      have u43 : No (q37.2.1 40).toInt ((q37.2.1 39).toInt + 1 + (q37.2.1 43).toInt) (q37.2.2.1 47) := by rw [n_q37_2.1 39 rfl, n_q37_2.1 40 rfl, n_q37_2.1 43 rfl, n_q37_2.2.1 47 rfl]; exact x_5
      have u44 : Hc (q37.2.1 64).toInt ((q37.2.1 39).toInt + 1) (q37.2.1 43).toInt (q37.2.1 65).toInt (q37.2.2.1 44) (q37.2.2.1 45) := by rw [n_q37_2.1 39 rfl, n_q37_2.1 43 rfl, n_q37_2.1 64 rfl, n_q37_2.1 65 rfl, n_q37_2.2.1 44 rfl, n_q37_2.2.1 45 rfl]; exact x_6
      have u45 : Gx (q37.2.1 37).toInt (q37.2.1 31).toInt (q37.2.2.1 32) (q37.2.2.1 33) := by rw [n_q37_2.1 31 rfl, n_q37_2.1 37 rfl, n_q37_2.2.1 32 rfl, n_q37_2.2.1 33 rfl]; exact x_7
      have u46 : Lk (-1) ((q37.2.1 39).toInt + 1) (q37.2.1 43).toInt (q37.2.1 40).toInt (q37.2.2.1 47) (q37.2.2.1 44) (q37.2.2.1 45) (q37.2.2.1 49) (q37.2.2.1 48) := by rw [n_q37_2.1 39 rfl, n_q37_2.1 40 rfl, n_q37_2.1 43 rfl, n_q37_2.2.1 44 rfl, n_q37_2.2.1 45 rfl, n_q37_2.2.1 47 rfl, n_q37_2.2.1 48 rfl, n_q37_2.2.1 49 rfl]; exact x_8
      have u47 : Rn ((q37.2.1 39).toInt + 1 + v1.toInt) ((q37.2.1 39).toInt + 1) ((q37.2.1 37).toInt + (q37.2.1 31).toInt) (q37.2.2.1 49) (q37.2.2.1 51) := by rw [n_q37_2.1 31 rfl, n_q37_2.1 37 rfl, n_q37_2.1 39 rfl, n_q37_2.2.1 49 rfl, n_q37_2.2.1 51 rfl]; exact x_9
      have u48 : Cz ((q37.2.1 39).toInt + 1 + (q37.2.1 43).toInt) ((q37.2.1 39).toInt + 1) (q37.2.1 43).toInt (q37.2.2.1 44) (q37.2.2.1 45) (q37.2.2.1 57) (q37.2.2.1 59) (q37.2.2.1 58) := by rw [n_q37_2.1 39 rfl, n_q37_2.1 43 rfl, n_q37_2.2.1 44 rfl, n_q37_2.2.1 45 rfl, n_q37_2.2.1 57 rfl, n_q37_2.2.1 58 rfl, n_q37_2.2.1 59 rfl]; exact x_12
      have u49 : Sa (q37.2.1 43).toInt ((q37.2.1 39).toInt + 1) (q37.2.2.1 57) (q37.2.2.1 59) (q37.2.2.1 58) := by rw [n_q37_2.1 39 rfl, n_q37_2.1 43 rfl, n_q37_2.2.1 57 rfl, n_q37_2.2.1 58 rfl, n_q37_2.2.1 59 rfl]; exact x_13
      have u50 : Be 1 ((q37.2.1 39).toInt + 1) (q37.2.1 43).toInt (q37.2.2.1 57) (q37.2.2.1 63) := by rw [n_q37_2.1 39 rfl, n_q37_2.1 43 rfl, n_q37_2.2.1 57 rfl, n_q37_2.2.1 63 rfl]; exact x_14
      have u51 : (v1.toInt < (q37.2.1 43).toInt) := by rw [n_q37_2.1 43 rfl]; exact wc1
      have u52 : (((x21.toNatClampNeg : Nat) : Int) = (q37.2.1 39).toInt + 1 + v1.toInt) := by rw [n_q37_2.1 39 rfl]; exact u23
      have u53 : (¬ ((q37.2.2.1 49) x21.toNatClampNeg).toInt = 0) := by rw [n_q37_2.2.1 49 rfl]; exact u32
      have u54 : (x33 = (q37.2.2.1 63 x21.toNatClampNeg)) := by rw [n_q37_2.2.1 63 rfl]; exact ax33
      have u55 : ((q37.2.2.1 59 x33.toNatClampNeg).toInt ≤ 4) := by rw [n_q37_2.2.1 59 rfl]; exact u35
      have i_q37 := iv_top q37.1
      refine tt_n (ix_ok i34 (by decide) (by decide)) ?_
      refine tt_kv (P := fun z => ((0 : Int) ≤ z.toInt ∧ z.toInt ≤ 5) ∧ z = (q37.2.2.1 59 x33.toNatClampNeg) ∧ z.toInt = (q37.2.2.1 59 x33.toNatClampNeg).toInt) ⟨(k_q37_2.2 59 _), rfl, rfl⟩ (fun x56 qi57 => ?_)
      obtain ⟨i57, ax56, ei57⟩ := qi57
      refine tt_b (sM_sum _ _ _ k_q37_2 (show (0 : Int) ≤ _ ∧ _ ≤ (4 : Int) by omega) f_q37_2_0 f_q37_2_37 f_q37_2_38 f_q37_2_43 f_q37_2_95) (fun q58 hq58 => ?_)
      obtain ⟨k_q58_2, n_q58_2, -⟩ := hq58
      have r_q58_2 := fr_tr r_q37_2 n_q58_2 rfl rfl rfl
      have f_q58_2_0 : (0 : Int) ≤ (q58.2.1 0).toInt ∧ (q58.2.1 0).toInt ≤ 0 := by rw [n_q58_2.1 0 rfl]; exact f_q37_2_0
      have f_q58_2_37 : (1 : Int) ≤ (q58.2.1 37).toInt ∧ (q58.2.1 37).toInt ≤ 9 := by rw [n_q58_2.1 37 rfl]; exact f_q37_2_37
      have f_q58_2_38 : (1 : Int) ≤ (q58.2.1 38).toInt ∧ (q58.2.1 38).toInt ≤ 1 := by rw [n_q58_2.1 38 rfl]; exact f_q37_2_38
      have f_q58_2_43 : (1 : Int) ≤ (q58.2.1 43).toInt ∧ (q58.2.1 43).toInt ≤ 200 := by rw [n_q58_2.1 43 rfl]; exact f_q37_2_43
      have f_q58_2_95 : (0 : Int) ≤ (q58.2.1 95).toInt ∧ (q58.2.1 95).toInt ≤ 0 := by rw [n_q58_2.1 95 rfl]; exact f_q37_2_95
      have e_q58_2_31 : (q58.2.1 31).toInt = (q37.2.1 31).toInt := congrArg Int32.toInt (n_q58_2.1 31 rfl)
      have g_q58_2_31 : (0 : Int) ≤ (q58.2.1 31).toInt ∧ (q58.2.1 31).toInt ≤ 200 := k_q58_2.1 31
      have e_q58_2_37 : (q58.2.1 37).toInt = (q37.2.1 37).toInt := congrArg Int32.toInt (n_q58_2.1 37 rfl)
      have e_q58_2_39 : (q58.2.1 39).toInt = (q37.2.1 39).toInt := congrArg Int32.toInt (n_q58_2.1 39 rfl)
      have g_q58_2_39 : (0 : Int) ≤ (q58.2.1 39).toInt ∧ (q58.2.1 39).toInt ≤ 8 := k_q58_2.1 39
      have e_q58_2_43 : (q58.2.1 43).toInt = (q37.2.1 43).toInt := congrArg Int32.toInt (n_q58_2.1 43 rfl)
      have u59 : Ch (q58.2.1 64) (q58.2.1 73) (q58.2.1 39) (q58.2.1 43) (q58.2.2.1 74) := by rw [n_q58_2.1 39 rfl, n_q58_2.1 43 rfl, n_q58_2.1 64 rfl, n_q58_2.1 73 rfl, n_q58_2.2.1 74 rfl]; exact u38
      have u60 : Lmd (q58.2.1 64).toInt (q58.2.1 65).toInt := by rw [n_q58_2.1 64 rfl, n_q58_2.1 65 rfl]; exact u39
      have u61 : Cn (q58.2.2.1 59) (q58.2.2.1 58) := by rw [n_q58_2.2.1 58 rfl, n_q58_2.2.1 59 rfl]; exact u40
      have u62 : Bs ((q58.2.1 39).toInt + 1) (q58.2.1 43).toInt 4 (q58.2.2.1 63) (q58.2.2.1 59) := by rw [n_q58_2.1 39 rfl, n_q58_2.1 43 rfl, n_q58_2.2.1 59 rfl, n_q58_2.2.1 63 rfl]; exact u41
      have u63 : Gx ((q58.2.1 39).toInt + 1) (q58.2.1 43).toInt (q58.2.2.1 44) (q58.2.2.1 45) := by rw [n_q58_2.1 39 rfl, n_q58_2.1 43 rfl, n_q58_2.2.1 44 rfl, n_q58_2.2.1 45 rfl]; exact u42
      have u64 : No (q58.2.1 40).toInt ((q58.2.1 39).toInt + 1 + (q58.2.1 43).toInt) (q58.2.2.1 47) := by rw [n_q58_2.1 39 rfl, n_q58_2.1 40 rfl, n_q58_2.1 43 rfl, n_q58_2.2.1 47 rfl]; exact u43
      have u65 : Hc (q58.2.1 64).toInt ((q58.2.1 39).toInt + 1) (q58.2.1 43).toInt (q58.2.1 65).toInt (q58.2.2.1 44) (q58.2.2.1 45) := by rw [n_q58_2.1 39 rfl, n_q58_2.1 43 rfl, n_q58_2.1 64 rfl, n_q58_2.1 65 rfl, n_q58_2.2.1 44 rfl, n_q58_2.2.1 45 rfl]; exact u44
      have u66 : Gx (q58.2.1 37).toInt (q58.2.1 31).toInt (q58.2.2.1 32) (q58.2.2.1 33) := by rw [n_q58_2.1 31 rfl, n_q58_2.1 37 rfl, n_q58_2.2.1 32 rfl, n_q58_2.2.1 33 rfl]; exact u45
      have u67 : Lk (-1) ((q58.2.1 39).toInt + 1) (q58.2.1 43).toInt (q58.2.1 40).toInt (q58.2.2.1 47) (q58.2.2.1 44) (q58.2.2.1 45) (q58.2.2.1 49) (q58.2.2.1 48) := by rw [n_q58_2.1 39 rfl, n_q58_2.1 40 rfl, n_q58_2.1 43 rfl, n_q58_2.2.1 44 rfl, n_q58_2.2.1 45 rfl, n_q58_2.2.1 47 rfl, n_q58_2.2.1 48 rfl, n_q58_2.2.1 49 rfl]; exact u46
      have u68 : Rn ((q58.2.1 39).toInt + 1 + v1.toInt) ((q58.2.1 39).toInt + 1) ((q58.2.1 37).toInt + (q58.2.1 31).toInt) (q58.2.2.1 49) (q58.2.2.1 51) := by rw [n_q58_2.1 31 rfl, n_q58_2.1 37 rfl, n_q58_2.1 39 rfl, n_q58_2.2.1 49 rfl, n_q58_2.2.1 51 rfl]; exact u47
      have u69 : Cz ((q58.2.1 39).toInt + 1 + (q58.2.1 43).toInt) ((q58.2.1 39).toInt + 1) (q58.2.1 43).toInt (q58.2.2.1 44) (q58.2.2.1 45) (q58.2.2.1 57) (q58.2.2.1 59) (q58.2.2.1 58) := by rw [n_q58_2.1 39 rfl, n_q58_2.1 43 rfl, n_q58_2.2.1 44 rfl, n_q58_2.2.1 45 rfl, n_q58_2.2.1 57 rfl, n_q58_2.2.1 58 rfl, n_q58_2.2.1 59 rfl]; exact u48
      have u70 : Sa (q58.2.1 43).toInt ((q58.2.1 39).toInt + 1) (q58.2.2.1 57) (q58.2.2.1 59) (q58.2.2.1 58) := by rw [n_q58_2.1 39 rfl, n_q58_2.1 43 rfl, n_q58_2.2.1 57 rfl, n_q58_2.2.1 58 rfl, n_q58_2.2.1 59 rfl]; exact u49
      have u71 : Be 1 ((q58.2.1 39).toInt + 1) (q58.2.1 43).toInt (q58.2.2.1 57) (q58.2.2.1 63) := by rw [n_q58_2.1 39 rfl, n_q58_2.1 43 rfl, n_q58_2.2.1 57 rfl, n_q58_2.2.1 63 rfl]; exact u50
      have u72 : (v1.toInt < (q58.2.1 43).toInt) := by rw [n_q58_2.1 43 rfl]; exact u51
      have u73 : (((x21.toNatClampNeg : Nat) : Int) = (q58.2.1 39).toInt + 1 + v1.toInt) := by rw [n_q58_2.1 39 rfl]; exact u52
      have u74 : (¬ ((q58.2.2.1 49) x21.toNatClampNeg).toInt = 0) := by rw [n_q58_2.2.1 49 rfl]; exact u53
      have u75 : (x33 = (q58.2.2.1 63 x21.toNatClampNeg)) := by rw [n_q58_2.2.1 63 rfl]; exact u54
      have u76 : ((q58.2.2.1 59 x33.toNatClampNeg).toInt ≤ 4) := by rw [n_q58_2.2.1 59 rfl]; exact u55
      have i_q58 := iv_top q58.1
      refine tt_b (sM_freed _ _ k_q58_2 i22 f_q58_2_0 f_q58_2_37 f_q58_2_38 f_q58_2_43 f_q58_2_95 (show x21.toInt ≤ (q58.2.1 39).toInt + (q58.2.1 43).toInt by omega)) (fun q77 hq77 => ?_)
      obtain ⟨k_q77_2, n_q77_2, -⟩ := hq77
      have r_q77_2 := fr_tr r_q58_2 n_q77_2 rfl rfl rfl
      have f_q77_2_0 : (0 : Int) ≤ (q77.2.1 0).toInt ∧ (q77.2.1 0).toInt ≤ 0 := by rw [n_q77_2.1 0 rfl]; exact f_q58_2_0
      have f_q77_2_37 : (1 : Int) ≤ (q77.2.1 37).toInt ∧ (q77.2.1 37).toInt ≤ 9 := by rw [n_q77_2.1 37 rfl]; exact f_q58_2_37
      have f_q77_2_38 : (1 : Int) ≤ (q77.2.1 38).toInt ∧ (q77.2.1 38).toInt ≤ 1 := by rw [n_q77_2.1 38 rfl]; exact f_q58_2_38
      have f_q77_2_43 : (1 : Int) ≤ (q77.2.1 43).toInt ∧ (q77.2.1 43).toInt ≤ 200 := by rw [n_q77_2.1 43 rfl]; exact f_q58_2_43
      have f_q77_2_95 : (0 : Int) ≤ (q77.2.1 95).toInt ∧ (q77.2.1 95).toInt ≤ 0 := by rw [n_q77_2.1 95 rfl]; exact f_q58_2_95
      have e_q77_2_31 : (q77.2.1 31).toInt = (q58.2.1 31).toInt := congrArg Int32.toInt (n_q77_2.1 31 rfl)
      have g_q77_2_31 : (0 : Int) ≤ (q77.2.1 31).toInt ∧ (q77.2.1 31).toInt ≤ 200 := k_q77_2.1 31
      have e_q77_2_37 : (q77.2.1 37).toInt = (q58.2.1 37).toInt := congrArg Int32.toInt (n_q77_2.1 37 rfl)
      have e_q77_2_39 : (q77.2.1 39).toInt = (q58.2.1 39).toInt := congrArg Int32.toInt (n_q77_2.1 39 rfl)
      have g_q77_2_39 : (0 : Int) ≤ (q77.2.1 39).toInt ∧ (q77.2.1 39).toInt ≤ 8 := k_q77_2.1 39
      have e_q77_2_43 : (q77.2.1 43).toInt = (q58.2.1 43).toInt := congrArg Int32.toInt (n_q77_2.1 43 rfl)
      have u78 : Ch (q77.2.1 64) (q77.2.1 73) (q77.2.1 39) (q77.2.1 43) (q77.2.2.1 74) := by rw [n_q77_2.1 39 rfl, n_q77_2.1 43 rfl, n_q77_2.1 64 rfl, n_q77_2.1 73 rfl, n_q77_2.2.1 74 rfl]; exact u59
      have u79 : Lmd (q77.2.1 64).toInt (q77.2.1 65).toInt := by rw [n_q77_2.1 64 rfl, n_q77_2.1 65 rfl]; exact u60
      have u80 : Cn (q77.2.2.1 59) (q77.2.2.1 58) := by rw [n_q77_2.2.1 58 rfl, n_q77_2.2.1 59 rfl]; exact u61
      have u81 : Bs ((q77.2.1 39).toInt + 1) (q77.2.1 43).toInt 4 (q77.2.2.1 63) (q77.2.2.1 59) := by rw [n_q77_2.1 39 rfl, n_q77_2.1 43 rfl, n_q77_2.2.1 59 rfl, n_q77_2.2.1 63 rfl]; exact u62
      have u82 : Gx ((q77.2.1 39).toInt + 1) (q77.2.1 43).toInt (q77.2.2.1 44) (q77.2.2.1 45) := by rw [n_q77_2.1 39 rfl, n_q77_2.1 43 rfl, n_q77_2.2.1 44 rfl, n_q77_2.2.1 45 rfl]; exact u63
      have u83 : No (q77.2.1 40).toInt ((q77.2.1 39).toInt + 1 + (q77.2.1 43).toInt) (q77.2.2.1 47) := by rw [n_q77_2.1 39 rfl, n_q77_2.1 40 rfl, n_q77_2.1 43 rfl, n_q77_2.2.1 47 rfl]; exact u64
      have u84 : Hc (q77.2.1 64).toInt ((q77.2.1 39).toInt + 1) (q77.2.1 43).toInt (q77.2.1 65).toInt (q77.2.2.1 44) (q77.2.2.1 45) := by rw [n_q77_2.1 39 rfl, n_q77_2.1 43 rfl, n_q77_2.1 64 rfl, n_q77_2.1 65 rfl, n_q77_2.2.1 44 rfl, n_q77_2.2.1 45 rfl]; exact u65
      have u85 : Gx (q77.2.1 37).toInt (q77.2.1 31).toInt (q77.2.2.1 32) (q77.2.2.1 33) := by rw [n_q77_2.1 31 rfl, n_q77_2.1 37 rfl, n_q77_2.2.1 32 rfl, n_q77_2.2.1 33 rfl]; exact u66
      have u86 : Lk (-1) ((q77.2.1 39).toInt + 1) (q77.2.1 43).toInt (q77.2.1 40).toInt (q77.2.2.1 47) (q77.2.2.1 44) (q77.2.2.1 45) (q77.2.2.1 49) (q77.2.2.1 48) := by rw [n_q77_2.1 39 rfl, n_q77_2.1 40 rfl, n_q77_2.1 43 rfl, n_q77_2.2.1 44 rfl, n_q77_2.2.1 45 rfl, n_q77_2.2.1 47 rfl, n_q77_2.2.1 48 rfl, n_q77_2.2.1 49 rfl]; exact u67
      have u87 : Rn ((q77.2.1 39).toInt + 1 + v1.toInt) ((q77.2.1 39).toInt + 1) ((q77.2.1 37).toInt + (q77.2.1 31).toInt) (q77.2.2.1 49) (q77.2.2.1 51) := by rw [n_q77_2.1 31 rfl, n_q77_2.1 37 rfl, n_q77_2.1 39 rfl, n_q77_2.2.1 49 rfl, n_q77_2.2.1 51 rfl]; exact u68
      have u88 : Cz ((q77.2.1 39).toInt + 1 + (q77.2.1 43).toInt) ((q77.2.1 39).toInt + 1) (q77.2.1 43).toInt (q77.2.2.1 44) (q77.2.2.1 45) (q77.2.2.1 57) (q77.2.2.1 59) (q77.2.2.1 58) := by rw [n_q77_2.1 39 rfl, n_q77_2.1 43 rfl, n_q77_2.2.1 44 rfl, n_q77_2.2.1 45 rfl, n_q77_2.2.1 57 rfl, n_q77_2.2.1 58 rfl, n_q77_2.2.1 59 rfl]; exact u69
      have u89 : Sa (q77.2.1 43).toInt ((q77.2.1 39).toInt + 1) (q77.2.2.1 57) (q77.2.2.1 59) (q77.2.2.1 58) := by rw [n_q77_2.1 39 rfl, n_q77_2.1 43 rfl, n_q77_2.2.1 57 rfl, n_q77_2.2.1 58 rfl, n_q77_2.2.1 59 rfl]; exact u70
      have u90 : Be 1 ((q77.2.1 39).toInt + 1) (q77.2.1 43).toInt (q77.2.2.1 57) (q77.2.2.1 63) := by rw [n_q77_2.1 39 rfl, n_q77_2.1 43 rfl, n_q77_2.2.1 57 rfl, n_q77_2.2.1 63 rfl]; exact u71
      have u91 : (v1.toInt < (q77.2.1 43).toInt) := by rw [n_q77_2.1 43 rfl]; exact u72
      have u92 : (((x21.toNatClampNeg : Nat) : Int) = (q77.2.1 39).toInt + 1 + v1.toInt) := by rw [n_q77_2.1 39 rfl]; exact u73
      have u93 : (¬ ((q77.2.2.1 49) x21.toNatClampNeg).toInt = 0) := by rw [n_q77_2.2.1 49 rfl]; exact u74
      have u94 : (x33 = (q77.2.2.1 63 x21.toNatClampNeg)) := by rw [n_q77_2.2.1 63 rfl]; exact u75
      have u95 : ((q77.2.2.1 59 x33.toNatClampNeg).toInt ≤ 4) := by rw [n_q77_2.2.1 59 rfl]; exact u76
      have i_q77 := iv_top q77.1
      refine tt_if (fun c96 => ?_) (fun c96 => ?_)
      · have wc96 : q77.1.toInt ≤ q58.1.toInt := c_le c96
        try unfold fM_rewrite_129
        refine tt_if (fun c97 => ?_) (fun c97 => ?_)
        · have wc97 : (0 : Int) = (0 : Int) := c_eq c97
          refine tt_n (ix_ok i17 (by decide) (by decide)) ?_
          refine tt_kv (P := fun z => ((0 : Int) ≤ z.toInt ∧ z.toInt ≤ 417) ∧ z = (q77.2.2.1 44 v1.toNatClampNeg) ∧ z.toInt = (q77.2.2.1 44 v1.toNatClampNeg).toInt) ⟨(k_q77_2.2 44 _), rfl, rfl⟩ (fun x98 qi99 => ?_)
          obtain ⟨i99, ax98, ei99⟩ := qi99
          refine tt_kv (P := fun z => ((0 : Int) ≤ z.toInt ∧ z.toInt ≤ 208) ∧ z = (x98 / 2) ∧ z.toInt = x98.toInt / 2) ⟨iv_div (k := 2) i99 (show (2 : Int) ≤ (2 : Int32).toInt ∧ (2 : Int32).toInt ≤ 2 by decide) (by decide) (by decide) (by decide) (by decide), rfl, i_dv (Int.le_trans (by decide) i99.1) (by decide)⟩ (fun x100 qi101 => ?_)
          obtain ⟨i101, ax100, ei101⟩ := qi101
          refine tt_n (ix_ok i101 (by decide) (by decide)) ?_
          refine tt_kv (P := fun z => ((0 : Int) ≤ z.toInt ∧ z.toInt ≤ 417) ∧ z = (q77.2.2.1 51 x100.toNatClampNeg) ∧ z.toInt = (q77.2.2.1 51 x100.toNatClampNeg).toInt) ⟨(k_q77_2.2 51 _), rfl, rfl⟩ (fun x102 qi103 => ?_)
          obtain ⟨i103, ax102, ei103⟩ := qi103
          have t104 := Rn_kd u87 u86 u82 ei103 (tn_p i_v1.1) u91 u92 u93 (Or.inl (ix_half ei101 ei99 i101.1))
          refine tt_n (ix_ok i17 (by decide) (by decide)) ?_
          refine tt_kv (P := fun z => x98 = z ∧ True) ⟨ax98, trivial⟩ (fun x105 hx105 => ?_)
          obtain ⟨rfl, -⟩ := hx105
          refine tt_kv (P := fun z => ((0 : Int) ≤ z.toInt ∧ z.toInt ≤ 1) ∧ z = (x98 &&& 1)) ⟨iv_and (show (1 : Int) ≤ (1 : Int32).toInt ∧ (1 : Int32).toInt ≤ 1 by decide) (by decide) (by decide) (by decide), rfl⟩ (fun x106 qi107 => ?_)
          obtain ⟨i107, ax106⟩ := qi107
          refine tt_kv (P := fun z => ((0 : Int) ≤ z.toInt ∧ z.toInt ≤ 417) ∧ z = (x102 ^^^ x106) ∧ z.toInt = x102.toInt - x102.toInt % 2 + (x102.toInt + x106.toInt) % 2) ⟨iv_x1 i103 i107 (by decide) (by decide) (by decide) (by decide) (by decide), rfl, i_xb (Int.le_trans (by decide) i103.1) (Int.le_trans (by decide) i107.1) (Int.le_trans i107.2 (by decide))⟩ (fun x108 qi109 => ?_)
          obtain ⟨i109, ax108, ei109⟩ := qi109
          refine tt_n (ix_ok i17 (by decide) (by decide)) ?_
          refine tt_kv (P := fun z => ((0 : Int) ≤ z.toInt ∧ z.toInt ≤ 417) ∧ z = (q77.2.2.1 45 v1.toNatClampNeg) ∧ z.toInt = (q77.2.2.1 45 v1.toNatClampNeg).toInt) ⟨(k_q77_2.2 45 _), rfl, rfl⟩ (fun x110 qi111 => ?_)
          obtain ⟨i111, ax110, ei111⟩ := qi111
          refine tt_kv (P := fun z => ((0 : Int) ≤ z.toInt ∧ z.toInt ≤ 208) ∧ z = (x110 / 2) ∧ z.toInt = x110.toInt / 2) ⟨iv_div (k := 2) i111 (show (2 : Int) ≤ (2 : Int32).toInt ∧ (2 : Int32).toInt ≤ 2 by decide) (by decide) (by decide) (by decide) (by decide), rfl, i_dv (Int.le_trans (by decide) i111.1) (by decide)⟩ (fun x112 qi113 => ?_)
          obtain ⟨i113, ax112, ei113⟩ := qi113
          refine tt_n (ix_ok i113 (by decide) (by decide)) ?_
          refine tt_kv (P := fun z => ((0 : Int) ≤ z.toInt ∧ z.toInt ≤ 417) ∧ z = (q77.2.2.1 51 x112.toNatClampNeg) ∧ z.toInt = (q77.2.2.1 51 x112.toNatClampNeg).toInt) ⟨(k_q77_2.2 51 _), rfl, rfl⟩ (fun x114 qi115 => ?_)
          obtain ⟨i115, ax114, ei115⟩ := qi115
          have t116 := Rn_kd u87 u86 u82 ei115 (tn_p i_v1.1) u91 u92 u93 (Or.inr (ix_half ei113 ei111 i113.1))
          refine tt_n (ix_ok i17 (by decide) (by decide)) ?_
          refine tt_kv (P := fun z => x110 = z ∧ True) ⟨ax110, trivial⟩ (fun x117 hx117 => ?_)
          obtain ⟨rfl, -⟩ := hx117
          refine tt_kv (P := fun z => ((0 : Int) ≤ z.toInt ∧ z.toInt ≤ 1) ∧ z = (x110 &&& 1)) ⟨iv_and (show (1 : Int) ≤ (1 : Int32).toInt ∧ (1 : Int32).toInt ≤ 1 by decide) (by decide) (by decide) (by decide), rfl⟩ (fun x118 qi119 => ?_)
          obtain ⟨i119, ax118⟩ := qi119
          refine tt_kv (P := fun z => ((0 : Int) ≤ z.toInt ∧ z.toInt ≤ 417) ∧ z = (x114 ^^^ x118) ∧ z.toInt = x114.toInt - x114.toInt % 2 + (x114.toInt + x118.toInt) % 2) ⟨iv_x1 i115 i119 (by decide) (by decide) (by decide) (by decide) (by decide), rfl, i_xb (Int.le_trans (by decide) i115.1) (Int.le_trans (by decide) i119.1) (Int.le_trans i119.2 (by decide))⟩ (fun x120 qi121 => ?_)
          obtain ⟨i121, ax120, ei121⟩ := qi121
          refine tt_b (sM_and _ _ _ k_q77_2 i109 i121 (iv_w (a := 0) (b := 2) (by decide) (by decide) f_q77_2_0) f_q77_2_37 f_q77_2_95 u85 (show x108.toInt < 2 * ((q77.2.1 37).toInt + (q77.2.1 31).toInt) by omega) (show x120.toInt < 2 * ((q77.2.1 37).toInt + (q77.2.1 31).toInt) by omega)) (fun q122 hq122 => ?_)
          obtain ⟨i_q122, k_q122_2, n_q122_2, zq122_0, zq122_1, zq122_2, -⟩ := hq122
          have r_q122_2 := fr_tr r_q77_2 n_q122_2 rfl rfl rfl
          have f_q122_2_0 : (0 : Int) ≤ (q122.2.1 0).toInt ∧ (q122.2.1 0).toInt ≤ 0 := by rw [n_q122_2.1 0 rfl]; exact f_q77_2_0
          have f_q122_2_37 : (1 : Int) ≤ (q122.2.1 37).toInt ∧ (q122.2.1 37).toInt ≤ 9 := by rw [n_q122_2.1 37 rfl]; exact f_q77_2_37
          have f_q122_2_38 : (1 : Int) ≤ (q122.2.1 38).toInt ∧ (q122.2.1 38).toInt ≤ 1 := by rw [n_q122_2.1 38 rfl]; exact f_q77_2_38
          have f_q122_2_43 : (1 : Int) ≤ (q122.2.1 43).toInt ∧ (q122.2.1 43).toInt ≤ 200 := by rw [n_q122_2.1 43 rfl]; exact f_q77_2_43
          have f_q122_2_95 : (0 : Int) ≤ (q122.2.1 95).toInt ∧ (q122.2.1 95).toInt ≤ 0 := by rw [n_q122_2.1 95 rfl]; exact f_q77_2_95
          have g_q122_2_31 : (0 : Int) ≤ (q122.2.1 31).toInt ∧ (q122.2.1 31).toInt ≤ 200 := k_q122_2.1 31
          have e_q122_2_37 : (q122.2.1 37).toInt = (q77.2.1 37).toInt := congrArg Int32.toInt (n_q122_2.1 37 rfl)
          have e_q122_2_39 : (q122.2.1 39).toInt = (q77.2.1 39).toInt := congrArg Int32.toInt (n_q122_2.1 39 rfl)
          have g_q122_2_39 : (0 : Int) ≤ (q122.2.1 39).toInt ∧ (q122.2.1 39).toInt ≤ 8 := k_q122_2.1 39
          have e_q122_2_43 : (q122.2.1 43).toInt = (q77.2.1 43).toInt := congrArg Int32.toInt (n_q122_2.1 43 rfl)
          have zq122_1 : q122.1.toInt < 2 * ((q122.2.1 37).toInt + (q122.2.1 31).toInt) := zq122_1
          have zq122_2 : (q77.2.1 31).toInt ≤ (q122.2.1 31).toInt := zq122_2
          have u123 : Ch (q122.2.1 64) (q122.2.1 73) (q122.2.1 39) (q122.2.1 43) (q122.2.2.1 74) := by rw [n_q122_2.1 39 rfl, n_q122_2.1 43 rfl, n_q122_2.1 64 rfl, n_q122_2.1 73 rfl, n_q122_2.2.1 74 rfl]; exact u78
          have u124 : Lmd (q122.2.1 64).toInt (q122.2.1 65).toInt := by rw [n_q122_2.1 64 rfl, n_q122_2.1 65 rfl]; exact u79
          have u125 : Cn (q122.2.2.1 59) (q122.2.2.1 58) := by rw [n_q122_2.2.1 58 rfl, n_q122_2.2.1 59 rfl]; exact u80
          have u126 : Bs ((q122.2.1 39).toInt + 1) (q122.2.1 43).toInt 4 (q122.2.2.1 63) (q122.2.2.1 59) := by rw [n_q122_2.1 39 rfl, n_q122_2.1 43 rfl, n_q122_2.2.1 59 rfl, n_q122_2.2.1 63 rfl]; exact u81
          have u127 : Gx ((q122.2.1 39).toInt + 1) (q122.2.1 43).toInt (q122.2.2.1 44) (q122.2.2.1 45) := by rw [n_q122_2.1 39 rfl, n_q122_2.1 43 rfl, n_q122_2.2.1 44 rfl, n_q122_2.2.1 45 rfl]; exact u82
          have u128 : No (q122.2.1 40).toInt ((q122.2.1 39).toInt + 1 + (q122.2.1 43).toInt) (q122.2.2.1 47) := by rw [n_q122_2.1 39 rfl, n_q122_2.1 40 rfl, n_q122_2.1 43 rfl, n_q122_2.2.1 47 rfl]; exact u83
          have u129 : Hc (q122.2.1 64).toInt ((q122.2.1 39).toInt + 1) (q122.2.1 43).toInt (q122.2.1 65).toInt (q122.2.2.1 44) (q122.2.2.1 45) := by rw [n_q122_2.1 39 rfl, n_q122_2.1 43 rfl, n_q122_2.1 64 rfl, n_q122_2.1 65 rfl, n_q122_2.2.1 44 rfl, n_q122_2.2.1 45 rfl]; exact u84
          have u130 : Lk (-1) ((q122.2.1 39).toInt + 1) (q122.2.1 43).toInt (q122.2.1 40).toInt (q122.2.2.1 47) (q122.2.2.1 44) (q122.2.2.1 45) (q122.2.2.1 49) (q122.2.2.1 48) := by rw [n_q122_2.1 39 rfl, n_q122_2.1 40 rfl, n_q122_2.1 43 rfl, n_q122_2.2.1 44 rfl, n_q122_2.2.1 45 rfl, n_q122_2.2.1 47 rfl, n_q122_2.2.1 48 rfl, n_q122_2.2.1 49 rfl]; exact u86
          have u131 : Cz ((q122.2.1 39).toInt + 1 + (q122.2.1 43).toInt) ((q122.2.1 39).toInt + 1) (q122.2.1 43).toInt (q122.2.2.1 44) (q122.2.2.1 45) (q122.2.2.1 57) (q122.2.2.1 59) (q122.2.2.1 58) := by rw [n_q122_2.1 39 rfl, n_q122_2.1 43 rfl, n_q122_2.2.1 44 rfl, n_q122_2.2.1 45 rfl, n_q122_2.2.1 57 rfl, n_q122_2.2.1 58 rfl, n_q122_2.2.1 59 rfl]; exact u88
          have u132 : Sa (q122.2.1 43).toInt ((q122.2.1 39).toInt + 1) (q122.2.2.1 57) (q122.2.2.1 59) (q122.2.2.1 58) := by rw [n_q122_2.1 39 rfl, n_q122_2.1 43 rfl, n_q122_2.2.1 57 rfl, n_q122_2.2.1 58 rfl, n_q122_2.2.1 59 rfl]; exact u89
          have u133 : Be 1 ((q122.2.1 39).toInt + 1) (q122.2.1 43).toInt (q122.2.2.1 57) (q122.2.2.1 63) := by rw [n_q122_2.1 39 rfl, n_q122_2.1 43 rfl, n_q122_2.2.1 57 rfl, n_q122_2.2.1 63 rfl]; exact u90
          have u134 : (v1.toInt < (q122.2.1 43).toInt) := by rw [n_q122_2.1 43 rfl]; exact u91
          have u135 : (((x21.toNatClampNeg : Nat) : Int) = (q122.2.1 39).toInt + 1 + v1.toInt) := by rw [n_q122_2.1 39 rfl]; exact u92
          have u136 : (¬ ((q122.2.2.1 49) x21.toNatClampNeg).toInt = 0) := by rw [n_q122_2.2.1 49 rfl]; exact u93
          have u137 : (x33 = (q122.2.2.1 63 x21.toNatClampNeg)) := by rw [n_q122_2.2.1 63 rfl]; exact u94
          have u138 : ((q122.2.2.1 59 x33.toNatClampNeg).toInt ≤ 4) := by rw [n_q122_2.2.1 59 rfl]; exact u95
          try unfold fM_rewrite_197
          refine tt_n (ix_ok i22 (by decide) (by decide)) ?_
          refine tt_ko ?_
          have k139 := ok_xp (k := 51) (i := x21.toNatClampNeg) (v := q122.1) k_q122_2 i_q122
          have r140 := fr_xp (k := 51) (i := x21.toNatClampNeg) (v := q122.1) r_q122_2 rfl
          try unfold fM_rewrite_198
          refine tt_kv (P := fun z => ((1 : Int) ≤ z.toInt ∧ z.toInt ≤ 200) ∧ z = (v1 + 1) ∧ z.toInt = v1.toInt + 1) ⟨iv_add i17 (show (1 : Int) ≤ (1 : Int32).toInt ∧ (1 : Int32).toInt ≤ 1 by decide) (by decide) (by decide) (by decide) (by decide), rfl, iq_add i17 (show (1 : Int) ≤ (1 : Int32).toInt ∧ (1 : Int32).toInt ≤ 1 by decide) (by decide) (by decide)⟩ (fun x141 qi142 => ?_)
          obtain ⟨i142, ax141, ei142⟩ := qi142
          have p143 : Rn ((q122.2.1 39).toInt + 1 + x141.toInt) ((q122.2.1 39).toInt + 1) ((q122.2.1 37).toInt + (q122.2.1 31).toInt) (q122.2.2.1 49) (upd (q122.2.2.1 51) (x21.toNatClampNeg) q122.1) := by rw [n_q122_2.2.1 49 rfl, n_q122_2.2.1 51 rfl, n_q122_2.1 39 rfl]; exact Rn_st u87 ei142 u92 e_q122_2_37 zq122_2 zq122_1
          exact H _ _ k139 r140 (iv_w (a := 0) (b := 200) (by decide) (by decide) i142) f_q122_2_0 f_q122_2_37 f_q122_2_38 f_q122_2_95 u123 u124 u125 u126 u127 u128 u129 zq122_0 u130 p143 (show (q122.2.1 37).toInt = (q122.2.1 39).toInt + 1 by omega) (show x141.toInt ≤ (q122.2.1 43).toInt by omega) u131 u132 u133 (show 0 + (200 - x141.toInt) * 2 < (n : Int) by omega)
        · have wc97 : ¬ (0 : Int) = (0 : Int) := c_ne c97
          exact (dd_ne c97 (show (0 : Int) ≤ (0 : Int32).toInt ∧ (0 : Int32).toInt ≤ 0 by decide) (show (0 : Int) ≤ (0 : Int32).toInt ∧ (0 : Int32).toInt ≤ 0 by decide)).elim
      · have wc96 : q58.1.toInt < q77.1.toInt := c_nle c96
        have i144 : ((-2147483648) : Int) ≤ q58.1.toInt ∧ q58.1.toInt ≤ 2147483646 := nr_nlel c96 (iv_top q58.1) (iv_top q77.1) (by decide) (by decide)
        have i145 : ((-2147483647) : Int) ≤ q77.1.toInt ∧ q77.1.toInt ≤ 2147483647 := nr_nler c96 (iv_top q58.1) (iv_top q77.1) (by decide) (by decide)
        try unfold fM_rewrite_129
        refine tt_if (fun c146 => ?_) (fun c146 => ?_)
        · have wc146 : (1 : Int) = (0 : Int) := c_eq c146
          exact (dd_eq c146 (show (1 : Int) ≤ (1 : Int32).toInt ∧ (1 : Int32).toInt ≤ 1 by decide) (show (0 : Int) ≤ (0 : Int32).toInt ∧ (0 : Int32).toInt ≤ 0 by decide) (by decide)).elim
        · have wc146 : ¬ (1 : Int) = (0 : Int) := c_ne c146
          have p147 : Rb x33.toNatClampNeg ((q77.2.1 37).toInt + (q77.2.1 31).toInt) (q77.2.2.1 59) (q77.2.2.1 58) (q77.2.2.1 51) := by exact Rb_j u88 u89 (fun q => (k_q77_2.2 57 q).1) u90 u86 u87 u94 (tn_p (Int.le_trans (by decide) i34.1)) u92 i_v1.1 u91 u93 (k_q77_2.1 39).1
          refine tt_b (sM_build_I _ _ k_q77_2 i34 f_q77_2_0 f_q77_2_37 f_q77_2_38 f_q77_2_43 f_q77_2_95 u85 p147 (show 1 ≤ (q77.2.1 37).toInt by omega)) (fun q148 hq148 => ?_)
          obtain ⟨i_q148, k_q148_2, n_q148_2, zq148_0, zq148_1, zq148_2, -⟩ := hq148
          have r_q148_2 := fr_tr r_q77_2 n_q148_2 rfl rfl rfl
          have f_q148_2_0 : (0 : Int) ≤ (q148.2.1 0).toInt ∧ (q148.2.1 0).toInt ≤ 0 := by rw [n_q148_2.1 0 rfl]; exact f_q77_2_0
          have f_q148_2_37 : (1 : Int) ≤ (q148.2.1 37).toInt ∧ (q148.2.1 37).toInt ≤ 9 := by rw [n_q148_2.1 37 rfl]; exact f_q77_2_37
          have f_q148_2_38 : (1 : Int) ≤ (q148.2.1 38).toInt ∧ (q148.2.1 38).toInt ≤ 1 := by rw [n_q148_2.1 38 rfl]; exact f_q77_2_38
          have f_q148_2_43 : (1 : Int) ≤ (q148.2.1 43).toInt ∧ (q148.2.1 43).toInt ≤ 200 := by rw [n_q148_2.1 43 rfl]; exact f_q77_2_43
          have f_q148_2_95 : (0 : Int) ≤ (q148.2.1 95).toInt ∧ (q148.2.1 95).toInt ≤ 0 := by rw [n_q148_2.1 95 rfl]; exact f_q77_2_95
          have g_q148_2_31 : (0 : Int) ≤ (q148.2.1 31).toInt ∧ (q148.2.1 31).toInt ≤ 200 := k_q148_2.1 31
          have e_q148_2_37 : (q148.2.1 37).toInt = (q77.2.1 37).toInt := congrArg Int32.toInt (n_q148_2.1 37 rfl)
          have e_q148_2_39 : (q148.2.1 39).toInt = (q77.2.1 39).toInt := congrArg Int32.toInt (n_q148_2.1 39 rfl)
          have g_q148_2_39 : (0 : Int) ≤ (q148.2.1 39).toInt ∧ (q148.2.1 39).toInt ≤ 8 := k_q148_2.1 39
          have e_q148_2_43 : (q148.2.1 43).toInt = (q77.2.1 43).toInt := congrArg Int32.toInt (n_q148_2.1 43 rfl)
          have zq148_1 : q148.1.toInt < 2 * ((q148.2.1 37).toInt + (q148.2.1 31).toInt) := zq148_1
          have zq148_2 : (q77.2.1 31).toInt ≤ (q148.2.1 31).toInt := zq148_2
          have u149 : Ch (q148.2.1 64) (q148.2.1 73) (q148.2.1 39) (q148.2.1 43) (q148.2.2.1 74) := by rw [n_q148_2.1 39 rfl, n_q148_2.1 43 rfl, n_q148_2.1 64 rfl, n_q148_2.1 73 rfl, n_q148_2.2.1 74 rfl]; exact u78
          have u150 : Lmd (q148.2.1 64).toInt (q148.2.1 65).toInt := by rw [n_q148_2.1 64 rfl, n_q148_2.1 65 rfl]; exact u79
          have u151 : Cn (q148.2.2.1 59) (q148.2.2.1 58) := by rw [n_q148_2.2.1 58 rfl, n_q148_2.2.1 59 rfl]; exact u80
          have u152 : Bs ((q148.2.1 39).toInt + 1) (q148.2.1 43).toInt 4 (q148.2.2.1 63) (q148.2.2.1 59) := by rw [n_q148_2.1 39 rfl, n_q148_2.1 43 rfl, n_q148_2.2.1 59 rfl, n_q148_2.2.1 63 rfl]; exact u81
          have u153 : Gx ((q148.2.1 39).toInt + 1) (q148.2.1 43).toInt (q148.2.2.1 44) (q148.2.2.1 45) := by rw [n_q148_2.1 39 rfl, n_q148_2.1 43 rfl, n_q148_2.2.1 44 rfl, n_q148_2.2.1 45 rfl]; exact u82
          have u154 : No (q148.2.1 40).toInt ((q148.2.1 39).toInt + 1 + (q148.2.1 43).toInt) (q148.2.2.1 47) := by rw [n_q148_2.1 39 rfl, n_q148_2.1 40 rfl, n_q148_2.1 43 rfl, n_q148_2.2.1 47 rfl]; exact u83
          have u155 : Hc (q148.2.1 64).toInt ((q148.2.1 39).toInt + 1) (q148.2.1 43).toInt (q148.2.1 65).toInt (q148.2.2.1 44) (q148.2.2.1 45) := by rw [n_q148_2.1 39 rfl, n_q148_2.1 43 rfl, n_q148_2.1 64 rfl, n_q148_2.1 65 rfl, n_q148_2.2.1 44 rfl, n_q148_2.2.1 45 rfl]; exact u84
          have u156 : Lk (-1) ((q148.2.1 39).toInt + 1) (q148.2.1 43).toInt (q148.2.1 40).toInt (q148.2.2.1 47) (q148.2.2.1 44) (q148.2.2.1 45) (q148.2.2.1 49) (q148.2.2.1 48) := by rw [n_q148_2.1 39 rfl, n_q148_2.1 40 rfl, n_q148_2.1 43 rfl, n_q148_2.2.1 44 rfl, n_q148_2.2.1 45 rfl, n_q148_2.2.1 47 rfl, n_q148_2.2.1 48 rfl, n_q148_2.2.1 49 rfl]; exact u86
          have u157 : Cz ((q148.2.1 39).toInt + 1 + (q148.2.1 43).toInt) ((q148.2.1 39).toInt + 1) (q148.2.1 43).toInt (q148.2.2.1 44) (q148.2.2.1 45) (q148.2.2.1 57) (q148.2.2.1 59) (q148.2.2.1 58) := by rw [n_q148_2.1 39 rfl, n_q148_2.1 43 rfl, n_q148_2.2.1 44 rfl, n_q148_2.2.1 45 rfl, n_q148_2.2.1 57 rfl, n_q148_2.2.1 58 rfl, n_q148_2.2.1 59 rfl]; exact u88
          have u158 : Sa (q148.2.1 43).toInt ((q148.2.1 39).toInt + 1) (q148.2.2.1 57) (q148.2.2.1 59) (q148.2.2.1 58) := by rw [n_q148_2.1 39 rfl, n_q148_2.1 43 rfl, n_q148_2.2.1 57 rfl, n_q148_2.2.1 58 rfl, n_q148_2.2.1 59 rfl]; exact u89
          have u159 : Be 1 ((q148.2.1 39).toInt + 1) (q148.2.1 43).toInt (q148.2.2.1 57) (q148.2.2.1 63) := by rw [n_q148_2.1 39 rfl, n_q148_2.1 43 rfl, n_q148_2.2.1 57 rfl, n_q148_2.2.1 63 rfl]; exact u90
          have u160 : (v1.toInt < (q148.2.1 43).toInt) := by rw [n_q148_2.1 43 rfl]; exact u91
          have u161 : (((x21.toNatClampNeg : Nat) : Int) = (q148.2.1 39).toInt + 1 + v1.toInt) := by rw [n_q148_2.1 39 rfl]; exact u92
          have u162 : (¬ ((q148.2.2.1 49) x21.toNatClampNeg).toInt = 0) := by rw [n_q148_2.2.1 49 rfl]; exact u93
          have u163 : (x33 = (q148.2.2.1 63 x21.toNatClampNeg)) := by rw [n_q148_2.2.1 63 rfl]; exact u94
          have u164 : ((q148.2.2.1 59 x33.toNatClampNeg).toInt ≤ 4) := by rw [n_q148_2.2.1 59 rfl]; exact u95
          try unfold fM_rewrite_197
          refine tt_n (ix_ok i22 (by decide) (by decide)) ?_
          refine tt_ko ?_
          have k165 := ok_xp (k := 51) (i := x21.toNatClampNeg) (v := q148.1) k_q148_2 i_q148
          have r166 := fr_xp (k := 51) (i := x21.toNatClampNeg) (v := q148.1) r_q148_2 rfl
          try unfold fM_rewrite_198
          refine tt_kv (P := fun z => ((1 : Int) ≤ z.toInt ∧ z.toInt ≤ 200) ∧ z = (v1 + 1) ∧ z.toInt = v1.toInt + 1) ⟨iv_add i17 (show (1 : Int) ≤ (1 : Int32).toInt ∧ (1 : Int32).toInt ≤ 1 by decide) (by decide) (by decide) (by decide) (by decide), rfl, iq_add i17 (show (1 : Int) ≤ (1 : Int32).toInt ∧ (1 : Int32).toInt ≤ 1 by decide) (by decide) (by decide)⟩ (fun x167 qi168 => ?_)
          obtain ⟨i168, ax167, ei168⟩ := qi168
          have p169 : Rn ((q148.2.1 39).toInt + 1 + x167.toInt) ((q148.2.1 39).toInt + 1) ((q148.2.1 37).toInt + (q148.2.1 31).toInt) (q148.2.2.1 49) (upd (q148.2.2.1 51) (x21.toNatClampNeg) q148.1) := by rw [n_q148_2.2.1 49 rfl, n_q148_2.2.1 51 rfl, n_q148_2.1 39 rfl]; exact Rn_st u87 ei168 u92 e_q148_2_37 zq148_2 zq148_1
          exact H _ _ k165 r166 (iv_w (a := 0) (b := 200) (by decide) (by decide) i168) f_q148_2_0 f_q148_2_37 f_q148_2_38 f_q148_2_95 u149 u150 u151 u152 u153 u154 u155 zq148_0 u156 p169 (show (q148.2.1 37).toInt = (q148.2.1 39).toInt + 1 by omega) (show x167.toInt ≤ (q148.2.1 43).toInt by omega) u157 u158 u159 (show 0 + (200 - x167.toInt) * 2 < (n : Int) by omega)
set_option maxHeartbeats 4000000 in
set_option maxRecDepth 100000 in
theorem hM_rewrite (yo0 : cf_O) : ∀ n, HM_rewrite yo0 n := by
  intro n
  induction n with
  | zero => exact (fun v1 o0 k_o0 r_o0 i_v1 f_o0_0 f_o0_37 f_o0_38 f_o0_95 x_0 x_1 x_2 x_3 x_4 x_5 x_6 x_7 x_8 x_9 x_10 x_11 x_12 x_13 x_14 hm => by exact absurd (show 0 + (200 - v1.toInt) * 2 < (0 : Int) from hm) (by omega))
  | succ n ih => exact (fun v1 o0 k_o0 r_o0 i_v1 f_o0_0 f_o0_37 f_o0_38 f_o0_95 x_0 x_1 x_2 x_3 x_4 x_5 x_6 x_7 x_8 x_9 x_10 x_11 x_12 x_13 x_14 hm => tM_rewrite_63 ih v1 o0 k_o0 r_o0 i_v1 f_o0_0 f_o0_37 f_o0_38 f_o0_95 x_0 x_1 x_2 x_3 x_4 x_5 x_6 x_7 x_8 x_9 x_10 x_11 x_12 x_13 x_14 (by omega))
set_option maxHeartbeats 4000000 in
set_option maxRecDepth 100000 in
theorem sM_rewrite (o0 : cf_O) (k_o0 : okO I_M o0) (f_o0_95 : (0 : Int) ≤ (o0.1 95).toInt ∧ (o0.1 95).toInt ≤ 0) (x_0 : Ch (o0.1 64) (o0.1 73) (o0.1 39) (o0.1 43) (o0.2.1 74)) (x_1 : Lmd (o0.1 64).toInt (o0.1 65).toInt) (x_2 : Cn (o0.2.1 59) (o0.2.1 58)) (x_3 : Gx ((o0.1 39).toInt + 1) (o0.1 43).toInt (o0.2.1 44) (o0.2.1 45)) (x_4 : No (o0.1 40).toInt ((o0.1 39).toInt + 1 + (o0.1 43).toInt) (o0.2.1 47)) (x_5 : Hc (o0.1 64).toInt ((o0.1 39).toInt + 1) (o0.1 43).toInt (o0.1 65).toInt (o0.2.1 44) (o0.2.1 45)) : tt (fM_rewrite o0) (QM_rewrite o0) := by
  have H := hM_rewrite o0 cfFU
  have hm : (403 : Int) ≤ (cfFU : Nat) := by decide
  have r_o0 : Fr (fr_M [0, 31, 36, 37, 43, 64, 70, 73, 85] [32, 33, 34, 35, 44, 45, 46, 47, 48, 49, 50, 51, 57, 58, 59, 60, 61, 62, 63, 67, 68, 69, 72, 74, 75] []) o0 o0 := fr_rfl
  unfold fM_rewrite fM_rewrite_0
  have g_o0_31 : (0 : Int) ≤ (o0.1 31).toInt ∧ (o0.1 31).toInt ≤ 200 := k_o0.1 31
  have g_o0_37 : (0 : Int) ≤ (o0.1 37).toInt ∧ (o0.1 37).toInt ≤ 9 := k_o0.1 37
  have g_o0_39 : (0 : Int) ≤ (o0.1 39).toInt ∧ (o0.1 39).toInt ≤ 8 := k_o0.1 39
  have g_o0_43 : (0 : Int) ≤ (o0.1 43).toInt ∧ (o0.1 43).toInt ≤ 200 := k_o0.1 43
  refine tt_if (fun c1 => ?_) (fun c1 => ?_)
  · have wc1 : (o0.1 38).toInt = (0 : Int) := c_eq c1
    have i2 : (0 : Int) ≤ (o0.1 38).toInt ∧ (o0.1 38).toInt ≤ 0 := nr_eql c1 (k_o0.1 38) (show (0 : Int) ≤ (0 : Int32).toInt ∧ (0 : Int32).toInt ≤ 0 by decide) (by decide) (by decide)
    try unfold fM_rewrite_13
    try unfold fM_refuse
    try unfold fM_refuse_0
    refine tt_bif (fun c3 => ?_) (fun c3 => ?_)
    · have wc3 : (1 : Int) = (0 : Int) := c_eq c3
      exact (dd_eq c3 (show (1 : Int) ≤ (1 : Int32).toInt ∧ (1 : Int32).toInt ≤ 1 by decide) (show (0 : Int) ≤ (0 : Int32).toInt ∧ (0 : Int32).toInt ≤ 0 by decide) (by decide)).elim
    · have wc3 : ¬ (1 : Int) = (0 : Int) := c_ne c3
      try unfold fM_refuse_26
      refine tt_bko ?_
      have k4 := ok_fp (k := 0) (v := 1) k_o0 (iv_w (a := 0) (b := 3) (by decide) (by decide) (show (1 : Int) ≤ (1 : Int32).toInt ∧ (1 : Int32).toInt ≤ 1 by decide))
      have r5 := fr_fp (k := 0) (v := 1) r_o0 rfl
      refine tt_bif (fun c6 => ?_) (fun c6 => ?_)
      · have wc6 : (1 : Int) ≤ (0 : Int) := c_le c6
        exact (dd_le c6 (show (1 : Int) ≤ (1 : Int32).toInt ∧ (1 : Int32).toInt ≤ 1 by decide) (show (0 : Int) ≤ (0 : Int32).toInt ∧ (0 : Int32).toInt ≤ 0 by decide) (by decide)).elim
      · have wc6 : (0 : Int) < (1 : Int) := c_nle c6
        try unfold fM_refuse_41
        refine tt_bw (iv_b (show (1 : Int) ≤ (1 : Int32).toInt ∧ (1 : Int32).toInt ≤ 1 by decide) (by decide) (by decide)) ?_
        refine tt_bs ?_
        refine tt_if (fun c7 => ?_) (fun c7 => ?_)
        · have wc7 : (1 : Int) = (0 : Int) := c_eq c7
          exact (dd_eq c7 (show (1 : Int) ≤ (1 : Int32).toInt ∧ (1 : Int32).toInt ≤ 1 by decide) (show (0 : Int) ≤ (0 : Int32).toInt ∧ (0 : Int32).toInt ≤ 0 by decide) (by decide)).elim
        · have wc7 : ¬ (1 : Int) = (0 : Int) := c_ne c7
          exact tt_some ⟨(iv_w (a := 0) (b := 200) (by decide) (by decide) (show (0 : Int) ≤ (0 : Int32).toInt ∧ (0 : Int32).toInt ≤ 0 by decide)), k4, r5, (iv_w (a := 0) (b := 2) (by decide) (by decide) (show (1 : Int) ≤ (1 : Int32).toInt ∧ (1 : Int32).toInt ≤ 1 by decide)), x_0, x_1, x_2, x_3, x_4, x_5, trivial⟩
  · have wc1 : ¬ (o0.1 38).toInt = (0 : Int) := c_ne c1
    have i8 : (1 : Int) ≤ (o0.1 38).toInt ∧ (o0.1 38).toInt ≤ 1 := nr_nela c1 (k_o0.1 38) (show (0 : Int) ≤ (0 : Int32).toInt ∧ (0 : Int32).toInt ≤ 0 by decide) (by decide) (by decide)
    try unfold fM_rewrite_13
    try unfold fM_refuse
    try unfold fM_refuse_0
    refine tt_bif (fun c9 => ?_) (fun c9 => ?_)
    · have wc9 : (0 : Int) = (0 : Int) := c_eq c9
      refine tt_bif (fun c10 => ?_) (fun c10 => ?_)
      · have wc10 : (0 : Int) = (0 : Int) := c_eq c10
        refine tt_bif (fun c11 => ?_) (fun c11 => ?_)
        · have wc11 : (0 : Int) = (0 : Int) := c_eq c11
          try unfold fM_refuse_26
          refine tt_bko ?_
          have k12 := ok_fp (k := 0) (v := 0) k_o0 (iv_w (a := 0) (b := 3) (by decide) (by decide) (show (0 : Int) ≤ (0 : Int32).toInt ∧ (0 : Int32).toInt ≤ 0 by decide))
          have r13 := fr_fp (k := 0) (v := 0) r_o0 rfl
          refine tt_bif (fun c14 => ?_) (fun c14 => ?_)
          · have wc14 : (0 : Int) ≤ (0 : Int) := c_le c14
            try unfold fM_refuse_41
            refine tt_bw (iv_b (show (0 : Int) ≤ (0 : Int32).toInt ∧ (0 : Int32).toInt ≤ 0 by decide) (by decide) (by decide)) ?_
            refine tt_bs ?_
            refine tt_if (fun c15 => ?_) (fun c15 => ?_)
            · have wc15 : (0 : Int) = (0 : Int) := c_eq c15
              refine tt_b (sM_cutAll _ _ k12 (iv_w (a := 0) (b := 5) (by decide) (by decide) (show (4 : Int) ≤ (4 : Int32).toInt ∧ (4 : Int32).toInt ≤ 4 by decide)) (iv_w (a := 0) (b := 2) (by decide) (by decide) (show (0 : Int) ≤ (0 : Int32).toInt ∧ (0 : Int32).toInt ≤ 0 by decide)) i8 f_o0_95 x_2 (show 1 ≤ 4 by omega) x_3 (show 2 ≤ 4 by omega)) (fun q16 hq16 => ?_)
              obtain ⟨i_q16, k_q16_2, n_q16_2, zq16_0, zq16_1, zq16_2, zq16_3, zq16_4, -⟩ := hq16
              have r_q16_2 := fr_tr r13 n_q16_2 rfl rfl rfl
              have f_q16_2_0 : (0 : Int) ≤ (q16.2.1 0).toInt ∧ (q16.2.1 0).toInt ≤ 0 := by rw [n_q16_2.1 0 rfl]; exact (show (0 : Int) ≤ (0 : Int32).toInt ∧ (0 : Int32).toInt ≤ 0 by decide)
              have f_q16_2_38 : (1 : Int) ≤ (q16.2.1 38).toInt ∧ (q16.2.1 38).toInt ≤ 1 := by rw [n_q16_2.1 38 rfl]; exact i8
              have f_q16_2_95 : (0 : Int) ≤ (q16.2.1 95).toInt ∧ (q16.2.1 95).toInt ≤ 0 := by rw [n_q16_2.1 95 rfl]; exact f_o0_95
              have e_q16_2_31 : (q16.2.1 31).toInt = (o0.1 31).toInt := congrArg Int32.toInt (n_q16_2.1 31 rfl)
              have g_q16_2_31 : (0 : Int) ≤ (q16.2.1 31).toInt ∧ (q16.2.1 31).toInt ≤ 200 := k_q16_2.1 31
              have e_q16_2_37 : (q16.2.1 37).toInt = (o0.1 37).toInt := congrArg Int32.toInt (n_q16_2.1 37 rfl)
              have g_q16_2_37 : (0 : Int) ≤ (q16.2.1 37).toInt ∧ (q16.2.1 37).toInt ≤ 9 := k_q16_2.1 37
              have e_q16_2_39 : (q16.2.1 39).toInt = (o0.1 39).toInt := congrArg Int32.toInt (n_q16_2.1 39 rfl)
              have g_q16_2_39 : (0 : Int) ≤ (q16.2.1 39).toInt ∧ (q16.2.1 39).toInt ≤ 8 := k_q16_2.1 39
              have e_q16_2_43 : (q16.2.1 43).toInt = (o0.1 43).toInt := congrArg Int32.toInt (n_q16_2.1 43 rfl)
              have g_q16_2_43 : (0 : Int) ≤ (q16.2.1 43).toInt ∧ (q16.2.1 43).toInt ≤ 200 := k_q16_2.1 43
              have zq16_0 : Cn (q16.2.2.1 59) (q16.2.2.1 58) := zq16_0
              have zq16_1 : Bc q16.1.toInt ((q16.2.1 39).toInt + 1) (q16.2.1 43).toInt 4 (q16.2.2.1 63) (q16.2.2.1 59) := zq16_1
              have zq16_2 : Hs q16.1.toInt ((q16.2.1 39).toInt + 1) (q16.2.1 43).toInt 4 (q16.2.2.1 44) (q16.2.2.1 45) := zq16_2
              have zq16_3 : Fz q16.1.toInt ((q16.2.1 39).toInt + 1) (q16.2.1 43).toInt (q16.2.2.1 44) (q16.2.2.1 45) (q16.2.2.1 57) (q16.2.2.1 59) (q16.2.2.1 58) (q16.2.2.1 62) := zq16_3
              have zq16_4 : Be q16.1.toInt ((q16.2.1 39).toInt + 1) (q16.2.1 43).toInt (q16.2.2.1 57) (q16.2.2.1 63) := zq16_4
              have u17 : Ch (q16.2.1 64) (q16.2.1 73) (q16.2.1 39) (q16.2.1 43) (q16.2.2.1 74) := by rw [n_q16_2.1 39 rfl, n_q16_2.1 43 rfl, n_q16_2.1 64 rfl, n_q16_2.1 73 rfl, n_q16_2.2.1 74 rfl]; exact x_0
              have u18 : Lmd (q16.2.1 64).toInt (q16.2.1 65).toInt := by rw [n_q16_2.1 64 rfl, n_q16_2.1 65 rfl]; exact x_1
              have u19 : Gx ((q16.2.1 39).toInt + 1) (q16.2.1 43).toInt (q16.2.2.1 44) (q16.2.2.1 45) := by rw [n_q16_2.1 39 rfl, n_q16_2.1 43 rfl, n_q16_2.2.1 44 rfl, n_q16_2.2.1 45 rfl]; exact x_3
              have u20 : No (q16.2.1 40).toInt ((q16.2.1 39).toInt + 1 + (q16.2.1 43).toInt) (q16.2.2.1 47) := by rw [n_q16_2.1 39 rfl, n_q16_2.1 40 rfl, n_q16_2.1 43 rfl, n_q16_2.2.1 47 rfl]; exact x_4
              have u21 : Hc (q16.2.1 64).toInt ((q16.2.1 39).toInt + 1) (q16.2.1 43).toInt (q16.2.1 65).toInt (q16.2.2.1 44) (q16.2.2.1 45) := by rw [n_q16_2.1 39 rfl, n_q16_2.1 43 rfl, n_q16_2.1 64 rfl, n_q16_2.1 65 rfl, n_q16_2.2.1 44 rfl, n_q16_2.2.1 45 rfl]; exact x_5
              refine tt_if (fun c22 => ?_) (fun c22 => ?_)
              · have wc22 : q16.1.toInt = (0 : Int) := c_eq c22
                have i23 : (0 : Int) ≤ q16.1.toInt ∧ q16.1.toInt ≤ 0 := nr_eql c22 i_q16 (show (0 : Int) ≤ (0 : Int32).toInt ∧ (0 : Int32).toInt ≤ 0 by decide) (by decide) (by decide)
                refine tt_b (sM_again _ k_q16_2 (iv_w (a := 0) (b := 2) (by decide) (by decide) f_q16_2_0) f_q16_2_38 f_q16_2_95 u17 u18 zq16_0 u19 u20 u21) (fun q24 hq24 => ?_)
                obtain ⟨k_q24, n_q24, zq24_0, zq24_1, zq24_2, zq24_3, zq24_4, zq24_5, -⟩ := hq24
                have r_q24 := fr_tr r_q16_2 n_q24 rfl rfl rfl
                have f_q24_0 : (0 : Int) ≤ (q24.1 0).toInt ∧ (q24.1 0).toInt ≤ 0 := by rw [n_q24.1 0 rfl]; exact f_q16_2_0
                have f_q24_38 : (1 : Int) ≤ (q24.1 38).toInt ∧ (q24.1 38).toInt ≤ 1 := by rw [n_q24.1 38 rfl]; exact f_q16_2_38
                have f_q24_95 : (0 : Int) ≤ (q24.1 95).toInt ∧ (q24.1 95).toInt ≤ 0 := by rw [n_q24.1 95 rfl]; exact f_q16_2_95
                have e_q24_31 : (q24.1 31).toInt = (q16.2.1 31).toInt := congrArg Int32.toInt (n_q24.1 31 rfl)
                have g_q24_31 : (0 : Int) ≤ (q24.1 31).toInt ∧ (q24.1 31).toInt ≤ 200 := k_q24.1 31
                have e_q24_37 : (q24.1 37).toInt = (q16.2.1 37).toInt := congrArg Int32.toInt (n_q24.1 37 rfl)
                have g_q24_37 : (0 : Int) ≤ (q24.1 37).toInt ∧ (q24.1 37).toInt ≤ 9 := k_q24.1 37
                have e_q24_39 : (q24.1 39).toInt = (q16.2.1 39).toInt := congrArg Int32.toInt (n_q24.1 39 rfl)
                have g_q24_39 : (0 : Int) ≤ (q24.1 39).toInt ∧ (q24.1 39).toInt ≤ 8 := k_q24.1 39
                have e_q24_43 : (q24.1 43).toInt = (q16.2.1 43).toInt := congrArg Int32.toInt (n_q24.1 43 rfl)
                have g_q24_43 : (0 : Int) ≤ (q24.1 43).toInt ∧ (q24.1 43).toInt ≤ 200 := k_q24.1 43
                have u25 : Hs q16.1.toInt ((q24.1 39).toInt + 1) (q24.1 43).toInt 4 (q24.2.1 44) (q24.2.1 45) := by rw [n_q24.1 39 rfl, n_q24.1 43 rfl, n_q24.2.1 44 rfl, n_q24.2.1 45 rfl]; exact zq16_2
                try unfold fM_refuse
                try unfold fM_refuse_0
                refine tt_bif (fun c30 => ?_) (fun c30 => ?_)
                · have wc30 : (0 : Int) = (0 : Int) := c_eq c30
                  refine tt_bif (fun c31 => ?_) (fun c31 => ?_)
                  · have wc31 : (1 : Int) = (0 : Int) := c_eq c31
                    exact (dd_eq c31 (show (1 : Int) ≤ (1 : Int32).toInt ∧ (1 : Int32).toInt ≤ 1 by decide) (show (0 : Int) ≤ (0 : Int32).toInt ∧ (0 : Int32).toInt ≤ 0 by decide) (by decide)).elim
                  · have wc31 : ¬ (1 : Int) = (0 : Int) := c_ne c31
                    try unfold fM_refuse_26
                    refine tt_bko ?_
                    have k32 := ok_fp (k := 0) (v := 2) k_q24 (iv_w (a := 0) (b := 3) (by decide) (by decide) (show (2 : Int) ≤ (2 : Int32).toInt ∧ (2 : Int32).toInt ≤ 2 by decide))
                    have r33 := fr_fp (k := 0) (v := 2) r_q24 rfl
                    refine tt_bif (fun c34 => ?_) (fun c34 => ?_)
                    · have wc34 : (2 : Int) ≤ (0 : Int) := c_le c34
                      exact (dd_le c34 (show (2 : Int) ≤ (2 : Int32).toInt ∧ (2 : Int32).toInt ≤ 2 by decide) (show (0 : Int) ≤ (0 : Int32).toInt ∧ (0 : Int32).toInt ≤ 0 by decide) (by decide)).elim
                    · have wc34 : (0 : Int) < (2 : Int) := c_nle c34
                      try unfold fM_refuse_41
                      refine tt_bw (iv_b (show (1 : Int) ≤ (1 : Int32).toInt ∧ (1 : Int32).toInt ≤ 1 by decide) (by decide) (by decide)) ?_
                      refine tt_bs ?_
                      exact tt_some ⟨(iv_w (a := 0) (b := 200) (by decide) (by decide) (show (0 : Int) ≤ (0 : Int32).toInt ∧ (0 : Int32).toInt ≤ 0 by decide)), k32, r33, (iv_w (a := 0) (b := 2) (by decide) (by decide) (show (2 : Int) ≤ (2 : Int32).toInt ∧ (2 : Int32).toInt ≤ 2 by decide)), zq24_0, zq24_1, zq24_2, zq24_3, zq24_4, zq24_5, trivial⟩
                · have wc30 : ¬ (0 : Int) = (0 : Int) := c_ne c30
                  exact (dd_ne c30 (show (0 : Int) ≤ (0 : Int32).toInt ∧ (0 : Int32).toInt ≤ 0 by decide) (show (0 : Int) ≤ (0 : Int32).toInt ∧ (0 : Int32).toInt ≤ 0 by decide)).elim
              · have wc22 : ¬ q16.1.toInt = (0 : Int) := c_ne c22
                have i35 : (1 : Int) ≤ q16.1.toInt ∧ q16.1.toInt ≤ 1 := nr_nela c22 i_q16 (show (0 : Int) ≤ (0 : Int32).toInt ∧ (0 : Int32).toInt ≤ 0 by decide) (by decide) (by decide)
                refine tt_b (sM_look _ k_q16_2 f_q16_2_0 f_q16_2_38 f_q16_2_95 u19) (fun q36 hq36 => ?_)
                obtain ⟨k_q36, n_q36, zq36_0, zq36_1, -⟩ := hq36
                have r_q36 := fr_tr r_q16_2 n_q36 rfl rfl rfl
                have f_q36_0 : (0 : Int) ≤ (q36.1 0).toInt ∧ (q36.1 0).toInt ≤ 0 := by rw [n_q36.1 0 rfl]; exact f_q16_2_0
                have f_q36_38 : (1 : Int) ≤ (q36.1 38).toInt ∧ (q36.1 38).toInt ≤ 1 := by rw [n_q36.1 38 rfl]; exact f_q16_2_38
                have f_q36_95 : (0 : Int) ≤ (q36.1 95).toInt ∧ (q36.1 95).toInt ≤ 0 := by rw [n_q36.1 95 rfl]; exact f_q16_2_95
                have e_q36_31 : (q36.1 31).toInt = (q16.2.1 31).toInt := congrArg Int32.toInt (n_q36.1 31 rfl)
                have g_q36_31 : (0 : Int) ≤ (q36.1 31).toInt ∧ (q36.1 31).toInt ≤ 200 := k_q36.1 31
                have e_q36_37 : (q36.1 37).toInt = (q16.2.1 37).toInt := congrArg Int32.toInt (n_q36.1 37 rfl)
                have g_q36_37 : (0 : Int) ≤ (q36.1 37).toInt ∧ (q36.1 37).toInt ≤ 9 := k_q36.1 37
                have e_q36_39 : (q36.1 39).toInt = (q16.2.1 39).toInt := congrArg Int32.toInt (n_q36.1 39 rfl)
                have g_q36_39 : (0 : Int) ≤ (q36.1 39).toInt ∧ (q36.1 39).toInt ≤ 8 := k_q36.1 39
                have e_q36_43 : (q36.1 43).toInt = (q16.2.1 43).toInt := congrArg Int32.toInt (n_q36.1 43 rfl)
                have g_q36_43 : (0 : Int) ≤ (q36.1 43).toInt ∧ (q36.1 43).toInt ≤ 200 := k_q36.1 43
                have u37 : Cn (q36.2.1 59) (q36.2.1 58) := by rw [n_q36.2.1 58 rfl, n_q36.2.1 59 rfl]; exact zq16_0
                have u38 : Bc q16.1.toInt ((q36.1 39).toInt + 1) (q36.1 43).toInt 4 (q36.2.1 63) (q36.2.1 59) := by rw [n_q36.1 39 rfl, n_q36.1 43 rfl, n_q36.2.1 59 rfl, n_q36.2.1 63 rfl]; exact zq16_1
                have u39 : Hs q16.1.toInt ((q36.1 39).toInt + 1) (q36.1 43).toInt 4 (q36.2.1 44) (q36.2.1 45) := by rw [n_q36.1 39 rfl, n_q36.1 43 rfl, n_q36.2.1 44 rfl, n_q36.2.1 45 rfl]; exact zq16_2
                have u40 : Fz q16.1.toInt ((q36.1 39).toInt + 1) (q36.1 43).toInt (q36.2.1 44) (q36.2.1 45) (q36.2.1 57) (q36.2.1 59) (q36.2.1 58) (q36.2.1 62) := by rw [n_q36.1 39 rfl, n_q36.1 43 rfl, n_q36.2.1 44 rfl, n_q36.2.1 45 rfl, n_q36.2.1 57 rfl, n_q36.2.1 58 rfl, n_q36.2.1 59 rfl, n_q36.2.1 62 rfl]; exact zq16_3
                have u41 : Be q16.1.toInt ((q36.1 39).toInt + 1) (q36.1 43).toInt (q36.2.1 57) (q36.2.1 63) := by rw [n_q36.1 39 rfl, n_q36.1 43 rfl, n_q36.2.1 57 rfl, n_q36.2.1 63 rfl]; exact zq16_4
                have u42 : Ch (q36.1 64) (q36.1 73) (q36.1 39) (q36.1 43) (q36.2.1 74) := by rw [n_q36.1 39 rfl, n_q36.1 43 rfl, n_q36.1 64 rfl, n_q36.1 73 rfl, n_q36.2.1 74 rfl]; exact u17
                have u43 : Lmd (q36.1 64).toInt (q36.1 65).toInt := by rw [n_q36.1 64 rfl, n_q36.1 65 rfl]; exact u18
                have u44 : Gx ((q36.1 39).toInt + 1) (q36.1 43).toInt (q36.2.1 44) (q36.2.1 45) := by rw [n_q36.1 39 rfl, n_q36.1 43 rfl, n_q36.2.1 44 rfl, n_q36.2.1 45 rfl]; exact u19
                have u45 : No (q36.1 40).toInt ((q36.1 39).toInt + 1 + (q36.1 43).toInt) (q36.2.1 47) := by rw [n_q36.1 39 rfl, n_q36.1 40 rfl, n_q36.1 43 rfl, n_q36.2.1 47 rfl]; exact u20
                have u46 : Hc (q36.1 64).toInt ((q36.1 39).toInt + 1) (q36.1 43).toInt (q36.1 65).toInt (q36.2.1 44) (q36.2.1 45) := by rw [n_q36.1 39 rfl, n_q36.1 43 rfl, n_q36.1 64 rfl, n_q36.1 65 rfl, n_q36.2.1 44 rfl, n_q36.2.1 45 rfl]; exact u21
                try unfold fM_base
                try unfold fM_base_0
                refine tt_bkv (P := fun z => ((1 : Int) ≤ z.toInt ∧ z.toInt ≤ 9) ∧ z = ((q36.1 39) + 1) ∧ z.toInt = (q36.1 39).toInt + 1) ⟨iv_add (k_q36.1 39) (show (1 : Int) ≤ (1 : Int32).toInt ∧ (1 : Int32).toInt ≤ 1 by decide) (by decide) (by decide) (by decide) (by decide), rfl, iq_add (k_q36.1 39) (show (1 : Int) ≤ (1 : Int32).toInt ∧ (1 : Int32).toInt ≤ 1 by decide) (by decide) (by decide)⟩ (fun x47 qi48 => ?_)
                obtain ⟨i48, ax47, ei48⟩ := qi48
                refine tt_bs ?_
                refine tt_b (sM_begin _ _ k_q36 i48 (iv_w (a := 0) (b := 2) (by decide) (by decide) f_q36_0) f_q36_95) (fun q49 hq49 => ?_)
                obtain ⟨k_q49, n_q49, f_q49_31, f_q49_36, f_q49_37, zq49_0, zq49_1, -⟩ := hq49
                have r_q49 := fr_tr r_q36 n_q49 rfl rfl rfl
                have f_q49_0 : (0 : Int) ≤ (q49.1 0).toInt ∧ (q49.1 0).toInt ≤ 0 := by rw [n_q49.1 0 rfl]; exact f_q36_0
                have f_q49_38 : (1 : Int) ≤ (q49.1 38).toInt ∧ (q49.1 38).toInt ≤ 1 := by rw [n_q49.1 38 rfl]; exact f_q36_38
                have f_q49_95 : (0 : Int) ≤ (q49.1 95).toInt ∧ (q49.1 95).toInt ≤ 0 := by rw [n_q49.1 95 rfl]; exact f_q36_95
                have e_q49_39 : (q49.1 39).toInt = (q36.1 39).toInt := congrArg Int32.toInt (n_q49.1 39 rfl)
                have g_q49_39 : (0 : Int) ≤ (q49.1 39).toInt ∧ (q49.1 39).toInt ≤ 8 := k_q49.1 39
                have e_q49_43 : (q49.1 43).toInt = (q36.1 43).toInt := congrArg Int32.toInt (n_q49.1 43 rfl)
                have g_q49_43 : (0 : Int) ≤ (q49.1 43).toInt ∧ (q49.1 43).toInt ≤ 200 := k_q49.1 43
                have zq49_0 : (q49.1 31).toInt = 0 := zq49_0
                have zq49_1 : (q49.1 37).toInt = x47.toInt := zq49_1
                have u50 : Lk (-1) ((q49.1 39).toInt + 1) (q49.1 43).toInt (q49.1 40).toInt (q49.2.1 47) (q49.2.1 44) (q49.2.1 45) (q49.2.1 49) (q49.2.1 48) := by rw [n_q49.1 39 rfl, n_q49.1 40 rfl, n_q49.1 43 rfl, n_q49.2.1 44 rfl, n_q49.2.1 45 rfl, n_q49.2.1 47 rfl, n_q49.2.1 48 rfl, n_q49.2.1 49 rfl]; exact zq36_0
                have u51 : Ap ((q49.1 39).toInt + 1) (q49.1 43).toInt (q49.2.1 44) (q49.2.1 45) (q49.2.1 49) (q49.2.1 48) (q49.2.1 50) := by rw [n_q49.1 39 rfl, n_q49.1 43 rfl, n_q49.2.1 44 rfl, n_q49.2.1 45 rfl, n_q49.2.1 48 rfl, n_q49.2.1 49 rfl, n_q49.2.1 50 rfl]; exact zq36_1
                have u52 : Cn (q49.2.1 59) (q49.2.1 58) := by rw [n_q49.2.1 58 rfl, n_q49.2.1 59 rfl]; exact u37
                have u53 : Bc q16.1.toInt ((q49.1 39).toInt + 1) (q49.1 43).toInt 4 (q49.2.1 63) (q49.2.1 59) := by rw [n_q49.1 39 rfl, n_q49.1 43 rfl, n_q49.2.1 59 rfl, n_q49.2.1 63 rfl]; exact u38
                have u54 : Hs q16.1.toInt ((q49.1 39).toInt + 1) (q49.1 43).toInt 4 (q49.2.1 44) (q49.2.1 45) := by rw [n_q49.1 39 rfl, n_q49.1 43 rfl, n_q49.2.1 44 rfl, n_q49.2.1 45 rfl]; exact u39
                have u55 : Fz q16.1.toInt ((q49.1 39).toInt + 1) (q49.1 43).toInt (q49.2.1 44) (q49.2.1 45) (q49.2.1 57) (q49.2.1 59) (q49.2.1 58) (q49.2.1 62) := by rw [n_q49.1 39 rfl, n_q49.1 43 rfl, n_q49.2.1 44 rfl, n_q49.2.1 45 rfl, n_q49.2.1 57 rfl, n_q49.2.1 58 rfl, n_q49.2.1 59 rfl, n_q49.2.1 62 rfl]; exact u40
                have u56 : Be q16.1.toInt ((q49.1 39).toInt + 1) (q49.1 43).toInt (q49.2.1 57) (q49.2.1 63) := by rw [n_q49.1 39 rfl, n_q49.1 43 rfl, n_q49.2.1 57 rfl, n_q49.2.1 63 rfl]; exact u41
                have u57 : Ch (q49.1 64) (q49.1 73) (q49.1 39) (q49.1 43) (q49.2.1 74) := by rw [n_q49.1 39 rfl, n_q49.1 43 rfl, n_q49.1 64 rfl, n_q49.1 73 rfl, n_q49.2.1 74 rfl]; exact u42
                have u58 : Lmd (q49.1 64).toInt (q49.1 65).toInt := by rw [n_q49.1 64 rfl, n_q49.1 65 rfl]; exact u43
                have u59 : Gx ((q49.1 39).toInt + 1) (q49.1 43).toInt (q49.2.1 44) (q49.2.1 45) := by rw [n_q49.1 39 rfl, n_q49.1 43 rfl, n_q49.2.1 44 rfl, n_q49.2.1 45 rfl]; exact u44
                have u60 : No (q49.1 40).toInt ((q49.1 39).toInt + 1 + (q49.1 43).toInt) (q49.2.1 47) := by rw [n_q49.1 39 rfl, n_q49.1 40 rfl, n_q49.1 43 rfl, n_q49.2.1 47 rfl]; exact u45
                have u61 : Hc (q49.1 64).toInt ((q49.1 39).toInt + 1) (q49.1 43).toInt (q49.1 65).toInt (q49.2.1 44) (q49.2.1 45) := by rw [n_q49.1 39 rfl, n_q49.1 43 rfl, n_q49.1 64 rfl, n_q49.1 65 rfl, n_q49.2.1 44 rfl, n_q49.2.1 45 rfl]; exact u46
                refine tt_b (sM_old _ k_q49 (iv_w (a := 0) (b := 2) (by decide) (by decide) f_q49_0) f_q49_31 f_q49_36 f_q49_37 f_q49_38 f_q49_95) (fun q62 hq62 => ?_)
                obtain ⟨k_q62, n_q62, zq62_0, -⟩ := hq62
                have r_q62 := fr_tr r_q49 n_q62 rfl rfl rfl
                have f_q62_0 : (0 : Int) ≤ (q62.1 0).toInt ∧ (q62.1 0).toInt ≤ 0 := by rw [n_q62.1 0 rfl]; exact f_q49_0
                have f_q62_36 : (0 : Int) ≤ (q62.1 36).toInt ∧ (q62.1 36).toInt ≤ 0 := by rw [n_q62.1 36 rfl]; exact f_q49_36
                have f_q62_37 : (1 : Int) ≤ (q62.1 37).toInt ∧ (q62.1 37).toInt ≤ 9 := by rw [n_q62.1 37 rfl]; exact f_q49_37
                have f_q62_38 : (1 : Int) ≤ (q62.1 38).toInt ∧ (q62.1 38).toInt ≤ 1 := by rw [n_q62.1 38 rfl]; exact f_q49_38
                have f_q62_95 : (0 : Int) ≤ (q62.1 95).toInt ∧ (q62.1 95).toInt ≤ 0 := by rw [n_q62.1 95 rfl]; exact f_q49_95
                have f_q62_31 : (0 : Int) ≤ (q62.1 31).toInt ∧ (q62.1 31).toInt ≤ 0 := by rw [n_q62.1 31 rfl]; exact f_q49_31
                have e_q62_31 : (q62.1 31).toInt = (q49.1 31).toInt := congrArg Int32.toInt (n_q62.1 31 rfl)
                have e_q62_37 : (q62.1 37).toInt = (q49.1 37).toInt := congrArg Int32.toInt (n_q62.1 37 rfl)
                have e_q62_39 : (q62.1 39).toInt = (q49.1 39).toInt := congrArg Int32.toInt (n_q62.1 39 rfl)
                have g_q62_39 : (0 : Int) ≤ (q62.1 39).toInt ∧ (q62.1 39).toInt ≤ 8 := k_q62.1 39
                have e_q62_43 : (q62.1 43).toInt = (q49.1 43).toInt := congrArg Int32.toInt (n_q62.1 43 rfl)
                have g_q62_43 : (0 : Int) ≤ (q62.1 43).toInt ∧ (q62.1 43).toInt ≤ 200 := k_q62.1 43
                have u63 : Lk (-1) ((q62.1 39).toInt + 1) (q62.1 43).toInt (q62.1 40).toInt (q62.2.1 47) (q62.2.1 44) (q62.2.1 45) (q62.2.1 49) (q62.2.1 48) := by rw [n_q62.1 39 rfl, n_q62.1 40 rfl, n_q62.1 43 rfl, n_q62.2.1 44 rfl, n_q62.2.1 45 rfl, n_q62.2.1 47 rfl, n_q62.2.1 48 rfl, n_q62.2.1 49 rfl]; exact u50
                have u64 : Ap ((q62.1 39).toInt + 1) (q62.1 43).toInt (q62.2.1 44) (q62.2.1 45) (q62.2.1 49) (q62.2.1 48) (q62.2.1 50) := by rw [n_q62.1 39 rfl, n_q62.1 43 rfl, n_q62.2.1 44 rfl, n_q62.2.1 45 rfl, n_q62.2.1 48 rfl, n_q62.2.1 49 rfl, n_q62.2.1 50 rfl]; exact u51
                have u65 : Cn (q62.2.1 59) (q62.2.1 58) := by rw [n_q62.2.1 58 rfl, n_q62.2.1 59 rfl]; exact u52
                have u66 : Bc q16.1.toInt ((q62.1 39).toInt + 1) (q62.1 43).toInt 4 (q62.2.1 63) (q62.2.1 59) := by rw [n_q62.1 39 rfl, n_q62.1 43 rfl, n_q62.2.1 59 rfl, n_q62.2.1 63 rfl]; exact u53
                have u67 : Hs q16.1.toInt ((q62.1 39).toInt + 1) (q62.1 43).toInt 4 (q62.2.1 44) (q62.2.1 45) := by rw [n_q62.1 39 rfl, n_q62.1 43 rfl, n_q62.2.1 44 rfl, n_q62.2.1 45 rfl]; exact u54
                have u68 : Fz q16.1.toInt ((q62.1 39).toInt + 1) (q62.1 43).toInt (q62.2.1 44) (q62.2.1 45) (q62.2.1 57) (q62.2.1 59) (q62.2.1 58) (q62.2.1 62) := by rw [n_q62.1 39 rfl, n_q62.1 43 rfl, n_q62.2.1 44 rfl, n_q62.2.1 45 rfl, n_q62.2.1 57 rfl, n_q62.2.1 58 rfl, n_q62.2.1 59 rfl, n_q62.2.1 62 rfl]; exact u55
                have u69 : Be q16.1.toInt ((q62.1 39).toInt + 1) (q62.1 43).toInt (q62.2.1 57) (q62.2.1 63) := by rw [n_q62.1 39 rfl, n_q62.1 43 rfl, n_q62.2.1 57 rfl, n_q62.2.1 63 rfl]; exact u56
                have u70 : Ch (q62.1 64) (q62.1 73) (q62.1 39) (q62.1 43) (q62.2.1 74) := by rw [n_q62.1 39 rfl, n_q62.1 43 rfl, n_q62.1 64 rfl, n_q62.1 73 rfl, n_q62.2.1 74 rfl]; exact u57
                have u71 : Lmd (q62.1 64).toInt (q62.1 65).toInt := by rw [n_q62.1 64 rfl, n_q62.1 65 rfl]; exact u58
                have u72 : Gx ((q62.1 39).toInt + 1) (q62.1 43).toInt (q62.2.1 44) (q62.2.1 45) := by rw [n_q62.1 39 rfl, n_q62.1 43 rfl, n_q62.2.1 44 rfl, n_q62.2.1 45 rfl]; exact u59
                have u73 : No (q62.1 40).toInt ((q62.1 39).toInt + 1 + (q62.1 43).toInt) (q62.2.1 47) := by rw [n_q62.1 39 rfl, n_q62.1 40 rfl, n_q62.1 43 rfl, n_q62.2.1 47 rfl]; exact u60
                have u74 : Hc (q62.1 64).toInt ((q62.1 39).toInt + 1) (q62.1 43).toInt (q62.1 65).toInt (q62.2.1 44) (q62.2.1 45) := by rw [n_q62.1 39 rfl, n_q62.1 43 rfl, n_q62.1 64 rfl, n_q62.1 65 rfl, n_q62.2.1 44 rfl, n_q62.2.1 45 rfl]; exact u61
                have p75 : Bs ((q62.1 39).toInt + 1) (q62.1 43).toInt 4 (q62.2.1 63) (q62.2.1 59) := by exact Bc_e (by assumption) (by omega)
                have p76 : Gx (q62.1 37).toInt (q62.1 31).toInt (q62.2.1 32) (q62.2.1 33) := by exact Gx_z (by omega)
                have p77 : Rn ((q62.1 39).toInt + 1 + 0) ((q62.1 39).toInt + 1) ((q62.1 37).toInt + (q62.1 31).toInt) (q62.2.1 49) (q62.2.1 51) := by exact Rn_0 (by assumption) (by omega) (by omega)
                have p78 : Cz ((q62.1 39).toInt + 1 + (q62.1 43).toInt) ((q62.1 39).toInt + 1) (q62.1 43).toInt (q62.2.1 44) (q62.2.1 45) (q62.2.1 57) (q62.2.1 59) (q62.2.1 58) := by exact ((show Fz _ _ _ _ _ _ _ _ _ by assumption) (by omega)).1
                have p79 : Sa (q62.1 43).toInt ((q62.1 39).toInt + 1) (q62.2.1 57) (q62.2.1 59) (q62.2.1 58) := by exact ((show Fz _ _ _ _ _ _ _ _ _ by assumption) (by omega)).2.1
                have p80 : Be 1 ((q62.1 39).toInt + 1) (q62.1 43).toInt (q62.2.1 57) (q62.2.1 63) := by exact be_1 (show Be _ _ _ _ _ by assumption) (by omega)
                exact H _ _ k_q62 r_q62 (iv_w (a := 0) (b := 200) (by decide) (by decide) (show (0 : Int) ≤ (0 : Int32).toInt ∧ (0 : Int32).toInt ≤ 0 by decide)) f_q62_0 f_q62_37 f_q62_38 f_q62_95 u70 u71 u65 p75 u72 u73 u74 p76 u63 p77 (show (q62.1 37).toInt = (q62.1 39).toInt + 1 by omega) (show 0 ≤ (q62.1 43).toInt by omega) p78 p79 p80 (show 0 + (200 - 0) * 2 < ((cfFU : Nat) : Int) by omega)
            · have wc15 : ¬ (0 : Int) = (0 : Int) := c_ne c15
              exact (dd_ne c15 (show (0 : Int) ≤ (0 : Int32).toInt ∧ (0 : Int32).toInt ≤ 0 by decide) (show (0 : Int) ≤ (0 : Int32).toInt ∧ (0 : Int32).toInt ≤ 0 by decide)).elim
          · have wc14 : (0 : Int) < (0 : Int) := c_nle c14
            exact (dd_nle c14 (show (0 : Int) ≤ (0 : Int32).toInt ∧ (0 : Int32).toInt ≤ 0 by decide) (show (0 : Int) ≤ (0 : Int32).toInt ∧ (0 : Int32).toInt ≤ 0 by decide) (by decide)).elim
        · have wc11 : ¬ (0 : Int) = (0 : Int) := c_ne c11
          exact (dd_ne c11 (show (0 : Int) ≤ (0 : Int32).toInt ∧ (0 : Int32).toInt ≤ 0 by decide) (show (0 : Int) ≤ (0 : Int32).toInt ∧ (0 : Int32).toInt ≤ 0 by decide)).elim
      · have wc10 : ¬ (0 : Int) = (0 : Int) := c_ne c10
        exact (dd_ne c10 (show (0 : Int) ≤ (0 : Int32).toInt ∧ (0 : Int32).toInt ≤ 0 by decide) (show (0 : Int) ≤ (0 : Int32).toInt ∧ (0 : Int32).toInt ≤ 0 by decide)).elim
    · have wc9 : ¬ (0 : Int) = (0 : Int) := c_ne c9
      exact (dd_ne c9 (show (0 : Int) ≤ (0 : Int32).toInt ∧ (0 : Int32).toInt ≤ 0 by decide) (show (0 : Int) ≤ (0 : Int32).toInt ∧ (0 : Int32).toInt ≤ 0 by decide)).elim
def QM_reckonOutput (v1 : Int32) (o0 : cf_O) (r : (cf_O)) : Prop := (okO I_M r) ∧ (Fr (fr_M [0] [71, 75] []) o0 r) ∧ ((0 : Int) ≤ (r.1 0).toInt ∧ (r.1 0).toInt ≤ 2) ∧ True
def HM_reckonOutput (yv1 : Int32) (yo0 : cf_O) (n : Nat) : Prop := (∀ (v1 : Int32) (v2 : Int32) (o0 : cf_O), (okO I_M o0) → (Fr (fr_M [0] [71, 75] []) yo0 o0) → ((0 : Int) ≤ v1.toInt ∧ v1.toInt ≤ 5) → ((0 : Int) ≤ v2.toInt ∧ v2.toInt ≤ 256) → ((0 : Int) ≤ (o0.1 0).toInt ∧ (o0.1 0).toInt ≤ 2) → ((1 : Int) ≤ (o0.1 38).toInt ∧ (o0.1 38).toInt ≤ 1) → ((1 : Int) ≤ (o0.1 40).toInt ∧ (o0.1 40).toInt ≤ 6) → ((0 : Int) ≤ (o0.1 95).toInt ∧ (o0.1 95).toInt ≤ 0) → 0 + (256 - v2.toInt) * 2 < (n : Int) → tt (gM_reckonOutput n 0 v1 v2 o0) (QM_reckonOutput yv1 yo0))
set_option maxHeartbeats 4000000 in
set_option maxRecDepth 100000 in
theorem tM_reckonOutput_2 {yv1 : Int32} {yo0 : cf_O} {n : Nat} (H : HM_reckonOutput yv1 yo0 n) (v1 : Int32) (v2 : Int32) (o0 : cf_O) (k_o0 : okO I_M o0) (r_o0 : Fr (fr_M [0] [71, 75] []) yo0 o0) (i_v1 : (0 : Int) ≤ v1.toInt ∧ v1.toInt ≤ 5) (i_v2 : (0 : Int) ≤ v2.toInt ∧ v2.toInt ≤ 256) (f_o0_0 : (0 : Int) ≤ (o0.1 0).toInt ∧ (o0.1 0).toInt ≤ 2) (f_o0_38 : (1 : Int) ≤ (o0.1 38).toInt ∧ (o0.1 38).toInt ≤ 1) (f_o0_40 : (1 : Int) ≤ (o0.1 40).toInt ∧ (o0.1 40).toInt ≤ 6) (f_o0_95 : (0 : Int) ≤ (o0.1 95).toInt ∧ (o0.1 95).toInt ≤ 0) (hm : 0 + (256 - v2.toInt) * 2 ≤ (n : Int)) : tt (fM_reckonOutput_2 (gM_reckonOutput n) v1 v2 o0) (QM_reckonOutput yv1 yo0) := by
  unfold fM_reckonOutput_2
  refine tt_kv (P := fun z => (1 : Int) ≤ z.toInt ∧ z.toInt ≤ 256) (iv_shl (p := 0) (q := 8) (show (1 : Int) ≤ (1 : Int32).toInt ∧ (1 : Int32).toInt ≤ 1 by decide) (k_o0.1 39) (by decide) (by decide) (by decide) (by decide) (by decide)) (fun x1 i2 => ?_)
  refine tt_if (fun c3 => ?_) (fun c3 => ?_)
  · have i4 : (1 : Int) ≤ v2.toInt ∧ v2.toInt ≤ 256 := nr_ler c3 i2 i_v2 (by decide) (by decide)
    exact tt_some ⟨k_o0, r_o0, f_o0_0, trivial⟩
  · have i5 : (0 : Int) ≤ v2.toInt ∧ v2.toInt ≤ 255 := nr_nlel c3 i_v2 i2 (by decide) (by decide)
    refine tt_b (sM_value _ _ k_o0 f_o0_95) (fun q6 hq6 => ?_)
    obtain ⟨i_q6, k_q6_2, n_q6_2, f_q6_2_0, -⟩ := hq6
    have r_q6_2 := fr_tr r_o0 n_q6_2 rfl rfl rfl
    have f_q6_2_40 : (1 : Int) ≤ (q6.2.1 40).toInt ∧ (q6.2.1 40).toInt ≤ 6 := by rw [n_q6_2.1 40 rfl]; exact f_o0_40
    have f_q6_2_38 : (1 : Int) ≤ (q6.2.1 38).toInt ∧ (q6.2.1 38).toInt ≤ 1 := by rw [n_q6_2.1 38 rfl]; exact f_o0_38
    have f_q6_2_95 : (0 : Int) ≤ (q6.2.1 95).toInt ∧ (q6.2.1 95).toInt ≤ 0 := by rw [n_q6_2.1 95 rfl]; exact f_o0_95
    refine tt_kv (P := fun z => (0 : Int) ≤ z.toInt ∧ z.toInt ≤ 127) (iv_shr (p := 0) (q := 5) i_q6 i_v1 (by decide) (by decide) (by decide) (by decide)) (fun x7 i8 => ?_)
    refine tt_kv (P := fun z => (0 : Int) ≤ z.toInt ∧ z.toInt ≤ 1) (iv_and (show (1 : Int) ≤ (1 : Int32).toInt ∧ (1 : Int32).toInt ≤ 1 by decide) (by decide) (by decide) (by decide)) (fun x9 i10 => ?_)
    refine tt_if (fun c11 => ?_) (fun c11 => ?_)
    · have i12 : (1 : Int) ≤ x9.toInt ∧ x9.toInt ≤ 1 := nr_eql c11 i10 (show (1 : Int) ≤ (1 : Int32).toInt ∧ (1 : Int32).toInt ≤ 1 by decide) (by decide) (by decide)
      try unfold fM_reckonOutput_35
      refine tt_n (ix_ok i5 (by decide) (by decide)) ?_
      refine tt_ko ?_
      have k13 := ok_xp (k := 71) (i := v2.toNatClampNeg) (v := (vp_nar .boolean 1)) k_q6_2 (iv_nz _)
      have r14 := fr_xp (k := 71) (i := v2.toNatClampNeg) (v := (vp_nar .boolean 1)) r_q6_2 rfl
      refine tt_kv (P := fun z => ((1 : Int) ≤ z.toInt ∧ z.toInt ≤ 256) ∧ z.toInt = v2.toInt + 1) ⟨iv_add i5 (show (1 : Int) ≤ (1 : Int32).toInt ∧ (1 : Int32).toInt ≤ 1 by decide) (by decide) (by decide) (by decide) (by decide), iq_add i5 (show (1 : Int) ≤ (1 : Int32).toInt ∧ (1 : Int32).toInt ≤ 1 by decide) (by decide) (by decide)⟩ (fun x15 qi16 => ?_)
      obtain ⟨i16, ei16⟩ := qi16
      exact H _ _ _ k13 r14 i_v1 (iv_w (a := 0) (b := 256) (by decide) (by decide) i16) f_q6_2_0 f_q6_2_38 f_q6_2_40 f_q6_2_95 (show 0 + (256 - x15.toInt) * 2 < (n : Int) by omega)
    · have i17 : (0 : Int) ≤ x9.toInt ∧ x9.toInt ≤ 0 := nr_nelb c11 i10 (show (1 : Int) ≤ (1 : Int32).toInt ∧ (1 : Int32).toInt ≤ 1 by decide) (by decide) (by decide)
      try unfold fM_reckonOutput_35
      refine tt_n (ix_ok i5 (by decide) (by decide)) ?_
      refine tt_ko ?_
      have k18 := ok_xp (k := 71) (i := v2.toNatClampNeg) (v := (vp_nar .boolean 0)) k_q6_2 (iv_nz _)
      have r19 := fr_xp (k := 71) (i := v2.toNatClampNeg) (v := (vp_nar .boolean 0)) r_q6_2 rfl
      refine tt_kv (P := fun z => ((1 : Int) ≤ z.toInt ∧ z.toInt ≤ 256) ∧ z.toInt = v2.toInt + 1) ⟨iv_add i5 (show (1 : Int) ≤ (1 : Int32).toInt ∧ (1 : Int32).toInt ≤ 1 by decide) (by decide) (by decide) (by decide) (by decide), iq_add i5 (show (1 : Int) ≤ (1 : Int32).toInt ∧ (1 : Int32).toInt ≤ 1 by decide) (by decide) (by decide)⟩ (fun x20 qi21 => ?_)
      obtain ⟨i21, ei21⟩ := qi21
      exact H _ _ _ k18 r19 i_v1 (iv_w (a := 0) (b := 256) (by decide) (by decide) i21) f_q6_2_0 f_q6_2_38 f_q6_2_40 f_q6_2_95 (show 0 + (256 - x20.toInt) * 2 < (n : Int) by omega)
set_option maxHeartbeats 4000000 in
set_option maxRecDepth 100000 in
theorem hM_reckonOutput (yv1 : Int32) (yo0 : cf_O) : ∀ n, HM_reckonOutput yv1 yo0 n := by
  intro n
  induction n with
  | zero => exact (fun v1 v2 o0 k_o0 r_o0 i_v1 i_v2 f_o0_0 f_o0_38 f_o0_40 f_o0_95 hm => by exact absurd (show 0 + (256 - v2.toInt) * 2 < (0 : Int) from hm) (by omega))
  | succ n ih => exact (fun v1 v2 o0 k_o0 r_o0 i_v1 i_v2 f_o0_0 f_o0_38 f_o0_40 f_o0_95 hm => tM_reckonOutput_2 ih v1 v2 o0 k_o0 r_o0 i_v1 i_v2 f_o0_0 f_o0_38 f_o0_40 f_o0_95 (by omega))
set_option maxHeartbeats 4000000 in
set_option maxRecDepth 100000 in
theorem sM_reckonOutput (v1 : Int32) (o0 : cf_O) (k_o0 : okO I_M o0) (i_v1 : (0 : Int) ≤ v1.toInt ∧ v1.toInt ≤ 5) (f_o0_0 : (0 : Int) ≤ (o0.1 0).toInt ∧ (o0.1 0).toInt ≤ 0) (f_o0_38 : (1 : Int) ≤ (o0.1 38).toInt ∧ (o0.1 38).toInt ≤ 1) (f_o0_40 : (1 : Int) ≤ (o0.1 40).toInt ∧ (o0.1 40).toInt ≤ 6) (f_o0_95 : (0 : Int) ≤ (o0.1 95).toInt ∧ (o0.1 95).toInt ≤ 0) : tt (fM_reckonOutput v1 o0) (QM_reckonOutput v1 o0) := by
  have H := hM_reckonOutput v1 o0 cfFU
  have hm : (515 : Int) ≤ (cfFU : Nat) := by decide
  have r_o0 : Fr (fr_M [0] [71, 75] []) o0 o0 := fr_rfl
  unfold fM_reckonOutput fM_reckonOutput_0
  exact H _ _ _ k_o0 r_o0 i_v1 (iv_w (a := 0) (b := 256) (by decide) (by decide) (show (0 : Int) ≤ (0 : Int32).toInt ∧ (0 : Int32).toInt ≤ 0 by decide)) (iv_w (a := 0) (b := 2) (by decide) (by decide) f_o0_0) f_o0_38 f_o0_40 f_o0_95 (show 0 + (256 - 0) * 2 < ((cfFU : Nat) : Int) by omega)
def QM_depends (v1 : Int32) (v2 : Int32) (o0 : cf_O) (r : (Int32)) : Prop := ((0 : Int) ≤ r.toInt ∧ r.toInt ≤ 1) ∧ True
def HM_depends (yv1 : Int32) (yv2 : Int32) (yo0 : cf_O) (n : Nat) : Prop := (∀ (v1 : Int32) (v2 : Int32) (v3 : Int32) (v4 : Int32) (o0 : cf_O), (okO I_M o0) → (Fr (fr_M [] [] []) yo0 o0) → ((0 : Int) ≤ v1.toInt ∧ v1.toInt ≤ 7) → ((0 : Int) ≤ v2.toInt ∧ v2.toInt ≤ 127) → ((0 : Int) ≤ v3.toInt ∧ v3.toInt ≤ 1) → ((0 : Int) ≤ v4.toInt ∧ v4.toInt ≤ 256) → ((0 : Int) ≤ (o0.1 0).toInt ∧ (o0.1 0).toInt ≤ 2) → ((1 : Int) ≤ (o0.1 38).toInt ∧ (o0.1 38).toInt ≤ 1) → ((1 : Int) ≤ (o0.1 39).toInt ∧ (o0.1 39).toInt ≤ 8) → ((1 : Int) ≤ (o0.1 40).toInt ∧ (o0.1 40).toInt ≤ 6) → ((0 : Int) ≤ (o0.1 95).toInt ∧ (o0.1 95).toInt ≤ 0) → (v1.toInt < (o0.1 39).toInt) → (v2.toInt < ((1 : Int32) <<< (v1 &&& (31 : Int32))).toInt) → 0 + (256 - v4.toInt) * 2 < (n : Int) → tt (gM_depends n 0 v1 v2 v3 v4 o0) (QM_depends yv1 yv2 yo0))
set_option maxHeartbeats 4000000 in
set_option maxRecDepth 100000 in
theorem tM_depends_5 {yv1 : Int32} {yv2 : Int32} {yo0 : cf_O} {n : Nat} (H : HM_depends yv1 yv2 yo0 n) (v1 : Int32) (v2 : Int32) (v3 : Int32) (v4 : Int32) (o0 : cf_O) (k_o0 : okO I_M o0) (r_o0 : Fr (fr_M [] [] []) yo0 o0) (i_v1 : (0 : Int) ≤ v1.toInt ∧ v1.toInt ≤ 7) (i_v2 : (0 : Int) ≤ v2.toInt ∧ v2.toInt ≤ 127) (i_v3 : (0 : Int) ≤ v3.toInt ∧ v3.toInt ≤ 1) (i_v4 : (0 : Int) ≤ v4.toInt ∧ v4.toInt ≤ 256) (f_o0_0 : (0 : Int) ≤ (o0.1 0).toInt ∧ (o0.1 0).toInt ≤ 2) (f_o0_38 : (1 : Int) ≤ (o0.1 38).toInt ∧ (o0.1 38).toInt ≤ 1) (f_o0_39 : (1 : Int) ≤ (o0.1 39).toInt ∧ (o0.1 39).toInt ≤ 8) (f_o0_40 : (1 : Int) ≤ (o0.1 40).toInt ∧ (o0.1 40).toInt ≤ 6) (f_o0_95 : (0 : Int) ≤ (o0.1 95).toInt ∧ (o0.1 95).toInt ≤ 0) (x_0 : v1.toInt < (o0.1 39).toInt) (x_1 : v2.toInt < ((1 : Int32) <<< (v1 &&& (31 : Int32))).toInt) (hm : 0 + (256 - v4.toInt) * 2 ≤ (n : Int)) : tt (fM_depends_5 (gM_depends n) v1 v2 v3 v4 o0) (QM_depends yv1 yv2 yo0) := by
  unfold fM_depends_5
  have ey_o0_39 : (o0.1 39).toInt = (yo0.1 39).toInt := congrArg Int32.toInt (r_o0.1 39 rfl)
  refine tt_kv (P := fun z => ((1 : Int) ≤ z.toInt ∧ z.toInt ≤ 8) ∧ z = ((o0.1 39) - v1) ∧ z.toInt = (o0.1 39).toInt - v1.toInt) ⟨iv_subo (by omega) (by omega) (by decide) (by decide), rfl, iq_sub f_o0_39 i_v1 (by decide) (by decide)⟩ (fun x1 qi2 => ?_)
  obtain ⟨i2, ax1, ei2⟩ := qi2
  refine tt_kv (P := fun z => ((2 : Int) ≤ z.toInt ∧ z.toInt ≤ 256) ∧ z = (1 <<< (x1 &&& 31)) ∧ z.toInt = ((1 : Int32) <<< (x1 &&& (31 : Int32))).toInt) ⟨iv_shl (p := 1) (q := 8) (show (1 : Int) ≤ (1 : Int32).toInt ∧ (1 : Int32).toInt ≤ 1 by decide) i2 (by decide) (by decide) (by decide) (by decide) (by decide), rfl, rfl⟩ (fun x3 qi4 => ?_)
  obtain ⟨i4, ax3, ei4⟩ := qi4
  refine tt_if (fun c5 => ?_) (fun c5 => ?_)
  · have wc5 : x3.toInt ≤ v4.toInt := c_le c5
    have i6 : (2 : Int) ≤ v4.toInt ∧ v4.toInt ≤ 256 := nr_ler c5 i4 i_v4 (by decide) (by decide)
    refine tt_w (iv_b i_v3 (by decide) (by decide)) ?_
    exact tt_some ⟨i_v3, trivial⟩
  · have wc5 : v4.toInt < x3.toInt := c_nle c5
    have i7 : (0 : Int) ≤ v4.toInt ∧ v4.toInt ≤ 255 := nr_nlel c5 i_v4 i4 (by decide) (by decide)
    refine tt_if (fun c8 => ?_) (fun c8 => ?_)
    · have wc8 : v3.toInt = (0 : Int) := c_eq c8
      have i9 : (0 : Int) ≤ v3.toInt ∧ v3.toInt ≤ 0 := nr_eql c8 i_v3 (show (0 : Int) ≤ (0 : Int32).toInt ∧ (0 : Int32).toInt ≤ 0 by decide) (by decide) (by decide)
      refine tt_kv (P := fun z => ((0 : Int) ≤ z.toInt ∧ z.toInt ≤ 32640) ∧ z = (v4 <<< (v1 &&& 31))) ⟨iv_shl (p := 0) (q := 7) i7 i_v1 (by decide) (by decide) (by decide) (by decide) (by decide), rfl⟩ (fun x10 qi11 => ?_)
      obtain ⟨i11, ax10⟩ := qi11
      refine tt_kv (P := fun z => ((0 : Int) ≤ z.toInt ∧ z.toInt ≤ 255) ∧ z = (v2 ||| x10)) ⟨bit_ix (r := v4) (j := v1) (d := x1) (Y := x3) (by omega) (by omega) (by omega) (by omega) (by omega) (by omega) ax3 (by omega) ax10, rfl⟩ (fun x12 qi13 => ?_)
      obtain ⟨i13, ax12⟩ := qi13
      refine tt_n (ix_ok i13 (by decide) (by decide)) ?_
      refine tt_kv (P := fun z => ((0 : Int) ≤ z.toInt ∧ z.toInt ≤ 1) ∧ z = (o0.2.1 71 x12.toNatClampNeg) ∧ z.toInt = (o0.2.1 71 x12.toNatClampNeg).toInt) ⟨(k_o0.2 71 _), rfl, rfl⟩ (fun x14 qi15 => ?_)
      obtain ⟨i15, ax14, ei15⟩ := qi15
      refine tt_kv (P := fun z => ((0 : Int) ≤ z.toInt ∧ z.toInt ≤ 32640) ∧ z = (v4 <<< (v1 &&& 31))) ⟨iv_shl (p := 0) (q := 7) i7 i_v1 (by decide) (by decide) (by decide) (by decide) (by decide), rfl⟩ (fun x16 qi17 => ?_)
      obtain ⟨i17, ax16⟩ := qi17
      refine tt_kv (P := fun z => ((0 : Int) ≤ z.toInt ∧ z.toInt ≤ 255) ∧ z = (v2 ||| x16)) ⟨bit_ix (r := v4) (j := v1) (d := x1) (Y := x3) (by omega) (by omega) (by omega) (by omega) (by omega) (by omega) ax3 (by omega) ax16, rfl⟩ (fun x18 qi19 => ?_)
      obtain ⟨i19, ax18⟩ := qi19
      refine tt_kv (P := fun z => ((1 : Int) ≤ z.toInt ∧ z.toInt ≤ 128) ∧ z = (1 <<< (v1 &&& 31)) ∧ z.toInt = ((1 : Int32) <<< (v1 &&& (31 : Int32))).toInt) ⟨iv_shl (p := 0) (q := 7) (show (1 : Int) ≤ (1 : Int32).toInt ∧ (1 : Int32).toInt ≤ 1 by decide) i_v1 (by decide) (by decide) (by decide) (by decide) (by decide), rfl, rfl⟩ (fun x20 qi21 => ?_)
      obtain ⟨i21, ax20, ei21⟩ := qi21
      refine tt_kv (P := fun z => ((0 : Int) ≤ z.toInt ∧ z.toInt ≤ 255) ∧ z = (x18 ^^^ x20)) ⟨iv_xor (w := 8) i19 i21 (by decide) (by decide) (by decide) (by decide) (by decide) (by decide) (by decide), rfl⟩ (fun x22 qi23 => ?_)
      obtain ⟨i23, ax22⟩ := qi23
      refine tt_n (ix_ok i23 (by decide) (by decide)) ?_
      refine tt_kv (P := fun z => ((0 : Int) ≤ z.toInt ∧ z.toInt ≤ 1) ∧ z = (o0.2.1 71 x22.toNatClampNeg) ∧ z.toInt = (o0.2.1 71 x22.toNatClampNeg).toInt) ⟨(k_o0.2 71 _), rfl, rfl⟩ (fun x24 qi25 => ?_)
      obtain ⟨i25, ax24, ei25⟩ := qi25
      refine tt_if (fun c26 => ?_) (fun c26 => ?_)
      · have wc26 : x14.toInt = x24.toInt := c_eq c26
        try unfold fM_depends_56
        refine tt_kv (P := fun z => ((1 : Int) ≤ z.toInt ∧ z.toInt ≤ 256) ∧ z = (v4 + 1) ∧ z.toInt = v4.toInt + 1) ⟨iv_add i7 (show (1 : Int) ≤ (1 : Int32).toInt ∧ (1 : Int32).toInt ≤ 1 by decide) (by decide) (by decide) (by decide) (by decide), rfl, iq_add i7 (show (1 : Int) ≤ (1 : Int32).toInt ∧ (1 : Int32).toInt ≤ 1 by decide) (by decide) (by decide)⟩ (fun x27 qi28 => ?_)
        obtain ⟨i28, ax27, ei28⟩ := qi28
        exact H _ _ _ _ _ k_o0 r_o0 i_v1 i_v2 (iv_w (a := 0) (b := 1) (by decide) (by decide) (show (0 : Int) ≤ (0 : Int32).toInt ∧ (0 : Int32).toInt ≤ 0 by decide)) (iv_w (a := 0) (b := 256) (by decide) (by decide) i28) f_o0_0 f_o0_38 f_o0_39 f_o0_40 f_o0_95 (show v1.toInt < (o0.1 39).toInt by omega) (show v2.toInt < ((1 : Int32) <<< (v1 &&& (31 : Int32))).toInt by omega) (show 0 + (256 - x27.toInt) * 2 < (n : Int) by omega)
      · have wc26 : ¬ x14.toInt = x24.toInt := c_ne c26
        try unfold fM_depends_51
        try unfold fM_depends_56
        refine tt_kv (P := fun z => ((1 : Int) ≤ z.toInt ∧ z.toInt ≤ 256) ∧ z = (v4 + 1) ∧ z.toInt = v4.toInt + 1) ⟨iv_add i7 (show (1 : Int) ≤ (1 : Int32).toInt ∧ (1 : Int32).toInt ≤ 1 by decide) (by decide) (by decide) (by decide) (by decide), rfl, iq_add i7 (show (1 : Int) ≤ (1 : Int32).toInt ∧ (1 : Int32).toInt ≤ 1 by decide) (by decide) (by decide)⟩ (fun x29 qi30 => ?_)
        obtain ⟨i30, ax29, ei30⟩ := qi30
        exact H _ _ _ _ _ k_o0 r_o0 i_v1 i_v2 (iv_w (a := 0) (b := 1) (by decide) (by decide) (show (1 : Int) ≤ (1 : Int32).toInt ∧ (1 : Int32).toInt ≤ 1 by decide)) (iv_w (a := 0) (b := 256) (by decide) (by decide) i30) f_o0_0 f_o0_38 f_o0_39 f_o0_40 f_o0_95 (show v1.toInt < (o0.1 39).toInt by omega) (show v2.toInt < ((1 : Int32) <<< (v1 &&& (31 : Int32))).toInt by omega) (show 0 + (256 - x29.toInt) * 2 < (n : Int) by omega)
    · have wc8 : ¬ v3.toInt = (0 : Int) := c_ne c8
      have i31 : (1 : Int) ≤ v3.toInt ∧ v3.toInt ≤ 1 := nr_nela c8 i_v3 (show (0 : Int) ≤ (0 : Int32).toInt ∧ (0 : Int32).toInt ≤ 0 by decide) (by decide) (by decide)
      try unfold fM_depends_51
      try unfold fM_depends_56
      refine tt_kv (P := fun z => ((1 : Int) ≤ z.toInt ∧ z.toInt ≤ 256) ∧ z = (v4 + 1) ∧ z.toInt = v4.toInt + 1) ⟨iv_add i7 (show (1 : Int) ≤ (1 : Int32).toInt ∧ (1 : Int32).toInt ≤ 1 by decide) (by decide) (by decide) (by decide) (by decide), rfl, iq_add i7 (show (1 : Int) ≤ (1 : Int32).toInt ∧ (1 : Int32).toInt ≤ 1 by decide) (by decide) (by decide)⟩ (fun x32 qi33 => ?_)
      obtain ⟨i33, ax32, ei33⟩ := qi33
      exact H _ _ _ _ _ k_o0 r_o0 i_v1 i_v2 (iv_w (a := 0) (b := 1) (by decide) (by decide) (show (1 : Int) ≤ (1 : Int32).toInt ∧ (1 : Int32).toInt ≤ 1 by decide)) (iv_w (a := 0) (b := 256) (by decide) (by decide) i33) f_o0_0 f_o0_38 f_o0_39 f_o0_40 f_o0_95 (show v1.toInt < (o0.1 39).toInt by omega) (show v2.toInt < ((1 : Int32) <<< (v1 &&& (31 : Int32))).toInt by omega) (show 0 + (256 - x32.toInt) * 2 < (n : Int) by omega)
set_option maxHeartbeats 4000000 in
set_option maxRecDepth 100000 in
theorem hM_depends (yv1 : Int32) (yv2 : Int32) (yo0 : cf_O) : ∀ n, HM_depends yv1 yv2 yo0 n := by
  intro n
  induction n with
  | zero => exact (fun v1 v2 v3 v4 o0 k_o0 r_o0 i_v1 i_v2 i_v3 i_v4 f_o0_0 f_o0_38 f_o0_39 f_o0_40 f_o0_95 x_0 x_1 hm => by exact absurd (show 0 + (256 - v4.toInt) * 2 < (0 : Int) from hm) (by omega))
  | succ n ih => exact (fun v1 v2 v3 v4 o0 k_o0 r_o0 i_v1 i_v2 i_v3 i_v4 f_o0_0 f_o0_38 f_o0_39 f_o0_40 f_o0_95 x_0 x_1 hm => tM_depends_5 ih v1 v2 v3 v4 o0 k_o0 r_o0 i_v1 i_v2 i_v3 i_v4 f_o0_0 f_o0_38 f_o0_39 f_o0_40 f_o0_95 x_0 x_1 (by omega))
set_option maxHeartbeats 4000000 in
set_option maxRecDepth 100000 in
theorem sM_depends (v1 : Int32) (v2 : Int32) (o0 : cf_O) (k_o0 : okO I_M o0) (i_v1 : (0 : Int) ≤ v1.toInt ∧ v1.toInt ≤ 7) (i_v2 : (0 : Int) ≤ v2.toInt ∧ v2.toInt ≤ 127) (f_o0_0 : (0 : Int) ≤ (o0.1 0).toInt ∧ (o0.1 0).toInt ≤ 2) (f_o0_38 : (1 : Int) ≤ (o0.1 38).toInt ∧ (o0.1 38).toInt ≤ 1) (f_o0_39 : (1 : Int) ≤ (o0.1 39).toInt ∧ (o0.1 39).toInt ≤ 8) (f_o0_40 : (1 : Int) ≤ (o0.1 40).toInt ∧ (o0.1 40).toInt ≤ 6) (f_o0_95 : (0 : Int) ≤ (o0.1 95).toInt ∧ (o0.1 95).toInt ≤ 0) (x_0 : v1.toInt < (o0.1 39).toInt) (x_1 : v2.toInt < ((1 : Int32) <<< (v1 &&& (31 : Int32))).toInt) : tt (fM_depends v1 v2 o0) (QM_depends v1 v2 o0) := by
  have H := hM_depends v1 v2 o0 cfFU
  have hm : (515 : Int) ≤ (cfFU : Nat) := by decide
  have r_o0 : Fr (fr_M [] [] []) o0 o0 := fr_rfl
  unfold fM_depends fM_depends_0
  exact H _ _ _ _ _ k_o0 r_o0 i_v1 i_v2 (iv_w (a := 0) (b := 1) (by decide) (by decide) (show (0 : Int) ≤ (0 : Int32).toInt ∧ (0 : Int32).toInt ≤ 0 by decide)) (iv_w (a := 0) (b := 256) (by decide) (by decide) (show (0 : Int) ≤ (0 : Int32).toInt ∧ (0 : Int32).toInt ≤ 0 by decide)) f_o0_0 f_o0_38 f_o0_39 f_o0_40 f_o0_95 (show v1.toInt < (o0.1 39).toInt by omega) (show v2.toInt < ((1 : Int32) <<< (v1 &&& (31 : Int32))).toInt by omega) (show 0 + (256 - 0) * 2 < ((cfFU : Nat) : Int) by omega)
def QM_isAlike (v1 : Int32) (v2 : Int32) (v3 : Int32) (o0 : cf_O) (r : (Int32)) : Prop := ((0 : Int) ≤ r.toInt ∧ r.toInt ≤ 1) ∧ True
def HM_isAlike (yv1 : Int32) (yv2 : Int32) (yv3 : Int32) (yo0 : cf_O) (n : Nat) : Prop := (∀ (v1 : Int32) (v2 : Int32) (v3 : Int32) (v4 : Int32) (v5 : Int32) (o0 : cf_O), (okO I_M o0) → (Fr (fr_M [] [] []) yo0 o0) → ((0 : Int) ≤ v1.toInt ∧ v1.toInt ≤ 7) → ((1 : Int) ≤ v2.toInt ∧ v2.toInt ≤ 127) → ((0 : Int) ≤ v3.toInt ∧ v3.toInt ≤ 127) → ((0 : Int) ≤ v4.toInt ∧ v4.toInt ≤ 1) → ((0 : Int) ≤ v5.toInt ∧ v5.toInt ≤ 256) → ((0 : Int) ≤ (o0.1 0).toInt ∧ (o0.1 0).toInt ≤ 2) → ((1 : Int) ≤ (o0.1 38).toInt ∧ (o0.1 38).toInt ≤ 1) → ((1 : Int) ≤ (o0.1 39).toInt ∧ (o0.1 39).toInt ≤ 8) → ((1 : Int) ≤ (o0.1 40).toInt ∧ (o0.1 40).toInt ≤ 6) → ((0 : Int) ≤ (o0.1 95).toInt ∧ (o0.1 95).toInt ≤ 0) → (v1.toInt < (o0.1 39).toInt) → (v2.toInt < ((1 : Int32) <<< (v1 &&& (31 : Int32))).toInt) → (v3.toInt < ((1 : Int32) <<< (v1 &&& (31 : Int32))).toInt) → 0 + (256 - v5.toInt) * 2 < (n : Int) → tt (gM_isAlike n 0 v1 v2 v3 v4 v5 o0) (QM_isAlike yv1 yv2 yv3 yo0))
set_option maxHeartbeats 4000000 in
set_option maxRecDepth 100000 in
theorem tM_isAlike_6 {yv1 : Int32} {yv2 : Int32} {yv3 : Int32} {yo0 : cf_O} {n : Nat} (H : HM_isAlike yv1 yv2 yv3 yo0 n) (v1 : Int32) (v2 : Int32) (v3 : Int32) (v4 : Int32) (v5 : Int32) (o0 : cf_O) (k_o0 : okO I_M o0) (r_o0 : Fr (fr_M [] [] []) yo0 o0) (i_v1 : (0 : Int) ≤ v1.toInt ∧ v1.toInt ≤ 7) (i_v2 : (1 : Int) ≤ v2.toInt ∧ v2.toInt ≤ 127) (i_v3 : (0 : Int) ≤ v3.toInt ∧ v3.toInt ≤ 127) (i_v4 : (0 : Int) ≤ v4.toInt ∧ v4.toInt ≤ 1) (i_v5 : (0 : Int) ≤ v5.toInt ∧ v5.toInt ≤ 256) (f_o0_0 : (0 : Int) ≤ (o0.1 0).toInt ∧ (o0.1 0).toInt ≤ 2) (f_o0_38 : (1 : Int) ≤ (o0.1 38).toInt ∧ (o0.1 38).toInt ≤ 1) (f_o0_39 : (1 : Int) ≤ (o0.1 39).toInt ∧ (o0.1 39).toInt ≤ 8) (f_o0_40 : (1 : Int) ≤ (o0.1 40).toInt ∧ (o0.1 40).toInt ≤ 6) (f_o0_95 : (0 : Int) ≤ (o0.1 95).toInt ∧ (o0.1 95).toInt ≤ 0) (x_0 : v1.toInt < (o0.1 39).toInt) (x_1 : v2.toInt < ((1 : Int32) <<< (v1 &&& (31 : Int32))).toInt) (x_2 : v3.toInt < ((1 : Int32) <<< (v1 &&& (31 : Int32))).toInt) (hm : 0 + (256 - v5.toInt) * 2 ≤ (n : Int)) : tt (fM_isAlike_6 (gM_isAlike n) v1 v2 v3 v4 v5 o0) (QM_isAlike yv1 yv2 yv3 yo0) := by
  unfold fM_isAlike_6
  have ey_o0_39 : (o0.1 39).toInt = (yo0.1 39).toInt := congrArg Int32.toInt (r_o0.1 39 rfl)
  refine tt_kv (P := fun z => ((1 : Int) ≤ z.toInt ∧ z.toInt ≤ 8) ∧ z = ((o0.1 39) - v1) ∧ z.toInt = (o0.1 39).toInt - v1.toInt) ⟨iv_subo (by omega) (by omega) (by decide) (by decide), rfl, iq_sub f_o0_39 i_v1 (by decide) (by decide)⟩ (fun x1 qi2 => ?_)
  obtain ⟨i2, ax1, ei2⟩ := qi2
  refine tt_kv (P := fun z => ((2 : Int) ≤ z.toInt ∧ z.toInt ≤ 256) ∧ z = (1 <<< (x1 &&& 31)) ∧ z.toInt = ((1 : Int32) <<< (x1 &&& (31 : Int32))).toInt) ⟨iv_shl (p := 1) (q := 8) (show (1 : Int) ≤ (1 : Int32).toInt ∧ (1 : Int32).toInt ≤ 1 by decide) i2 (by decide) (by decide) (by decide) (by decide) (by decide), rfl, rfl⟩ (fun x3 qi4 => ?_)
  obtain ⟨i4, ax3, ei4⟩ := qi4
  refine tt_if (fun c5 => ?_) (fun c5 => ?_)
  · have wc5 : x3.toInt ≤ v5.toInt := c_le c5
    have i6 : (2 : Int) ≤ v5.toInt ∧ v5.toInt ≤ 256 := nr_ler c5 i4 i_v5 (by decide) (by decide)
    refine tt_w (iv_b i_v4 (by decide) (by decide)) ?_
    exact tt_some ⟨i_v4, trivial⟩
  · have wc5 : v5.toInt < x3.toInt := c_nle c5
    have i7 : (0 : Int) ≤ v5.toInt ∧ v5.toInt ≤ 255 := nr_nlel c5 i_v5 i4 (by decide) (by decide)
    refine tt_if (fun c8 => ?_) (fun c8 => ?_)
    · have wc8 : v4.toInt = (0 : Int) := c_eq c8
      have i9 : (0 : Int) ≤ v4.toInt ∧ v4.toInt ≤ 0 := nr_eql c8 i_v4 (show (0 : Int) ≤ (0 : Int32).toInt ∧ (0 : Int32).toInt ≤ 0 by decide) (by decide) (by decide)
      try unfold fM_isAlike_53
      try unfold fM_isAlike_54
      refine tt_kv (P := fun z => ((1 : Int) ≤ z.toInt ∧ z.toInt ≤ 256) ∧ z = (v5 + 1) ∧ z.toInt = v5.toInt + 1) ⟨iv_add i7 (show (1 : Int) ≤ (1 : Int32).toInt ∧ (1 : Int32).toInt ≤ 1 by decide) (by decide) (by decide) (by decide) (by decide), rfl, iq_add i7 (show (1 : Int) ≤ (1 : Int32).toInt ∧ (1 : Int32).toInt ≤ 1 by decide) (by decide) (by decide)⟩ (fun x10 qi11 => ?_)
      obtain ⟨i11, ax10, ei11⟩ := qi11
      exact H _ _ _ _ _ _ k_o0 r_o0 i_v1 i_v2 i_v3 (iv_w (a := 0) (b := 1) (by decide) (by decide) (show (0 : Int) ≤ (0 : Int32).toInt ∧ (0 : Int32).toInt ≤ 0 by decide)) (iv_w (a := 0) (b := 256) (by decide) (by decide) i11) f_o0_0 f_o0_38 f_o0_39 f_o0_40 f_o0_95 (show v1.toInt < (o0.1 39).toInt by omega) (show v2.toInt < ((1 : Int32) <<< (v1 &&& (31 : Int32))).toInt by omega) (show v3.toInt < ((1 : Int32) <<< (v1 &&& (31 : Int32))).toInt by omega) (show 0 + (256 - x10.toInt) * 2 < (n : Int) by omega)
    · have wc8 : ¬ v4.toInt = (0 : Int) := c_ne c8
      have i12 : (1 : Int) ≤ v4.toInt ∧ v4.toInt ≤ 1 := nr_nela c8 i_v4 (show (0 : Int) ≤ (0 : Int32).toInt ∧ (0 : Int32).toInt ≤ 0 by decide) (by decide) (by decide)
      refine tt_kv (P := fun z => ((0 : Int) ≤ z.toInt ∧ z.toInt ≤ 32640) ∧ z = (v5 <<< (v1 &&& 31))) ⟨iv_shl (p := 0) (q := 7) i7 i_v1 (by decide) (by decide) (by decide) (by decide) (by decide), rfl⟩ (fun x13 qi14 => ?_)
      obtain ⟨i14, ax13⟩ := qi14
      refine tt_kv (P := fun z => ((0 : Int) ≤ z.toInt ∧ z.toInt ≤ 255) ∧ z = (v2 ||| x13)) ⟨bit_ix (r := v5) (j := v1) (d := x1) (Y := x3) (by omega) (by omega) (by omega) (by omega) (by omega) (by omega) ax3 (by omega) ax13, rfl⟩ (fun x15 qi16 => ?_)
      obtain ⟨i16, ax15⟩ := qi16
      refine tt_n (ix_ok i16 (by decide) (by decide)) ?_
      refine tt_kv (P := fun z => ((0 : Int) ≤ z.toInt ∧ z.toInt ≤ 1) ∧ z = (o0.2.1 71 x15.toNatClampNeg) ∧ z.toInt = (o0.2.1 71 x15.toNatClampNeg).toInt) ⟨(k_o0.2 71 _), rfl, rfl⟩ (fun x17 qi18 => ?_)
      obtain ⟨i18, ax17, ei18⟩ := qi18
      refine tt_kv (P := fun z => ((0 : Int) ≤ z.toInt ∧ z.toInt ≤ 32640) ∧ z = (v5 <<< (v1 &&& 31))) ⟨iv_shl (p := 0) (q := 7) i7 i_v1 (by decide) (by decide) (by decide) (by decide) (by decide), rfl⟩ (fun x19 qi20 => ?_)
      obtain ⟨i20, ax19⟩ := qi20
      refine tt_kv (P := fun z => ((0 : Int) ≤ z.toInt ∧ z.toInt ≤ 255) ∧ z = (v3 ||| x19)) ⟨bit_ix (r := v5) (j := v1) (d := x1) (Y := x3) (by omega) (by omega) (by omega) (by omega) (by omega) (by omega) ax3 (by omega) ax19, rfl⟩ (fun x21 qi22 => ?_)
      obtain ⟨i22, ax21⟩ := qi22
      refine tt_n (ix_ok i22 (by decide) (by decide)) ?_
      refine tt_kv (P := fun z => ((0 : Int) ≤ z.toInt ∧ z.toInt ≤ 1) ∧ z = (o0.2.1 71 x21.toNatClampNeg) ∧ z.toInt = (o0.2.1 71 x21.toNatClampNeg).toInt) ⟨(k_o0.2 71 _), rfl, rfl⟩ (fun x23 qi24 => ?_)
      obtain ⟨i24, ax23, ei24⟩ := qi24
      refine tt_if (fun c25 => ?_) (fun c25 => ?_)
      · have wc25 : x17.toInt = x23.toInt := c_eq c25
        try unfold fM_isAlike_54
        refine tt_kv (P := fun z => ((1 : Int) ≤ z.toInt ∧ z.toInt ≤ 256) ∧ z = (v5 + 1) ∧ z.toInt = v5.toInt + 1) ⟨iv_add i7 (show (1 : Int) ≤ (1 : Int32).toInt ∧ (1 : Int32).toInt ≤ 1 by decide) (by decide) (by decide) (by decide) (by decide), rfl, iq_add i7 (show (1 : Int) ≤ (1 : Int32).toInt ∧ (1 : Int32).toInt ≤ 1 by decide) (by decide) (by decide)⟩ (fun x26 qi27 => ?_)
        obtain ⟨i27, ax26, ei27⟩ := qi27
        exact H _ _ _ _ _ _ k_o0 r_o0 i_v1 i_v2 i_v3 (iv_w (a := 0) (b := 1) (by decide) (by decide) (show (1 : Int) ≤ (1 : Int32).toInt ∧ (1 : Int32).toInt ≤ 1 by decide)) (iv_w (a := 0) (b := 256) (by decide) (by decide) i27) f_o0_0 f_o0_38 f_o0_39 f_o0_40 f_o0_95 (show v1.toInt < (o0.1 39).toInt by omega) (show v2.toInt < ((1 : Int32) <<< (v1 &&& (31 : Int32))).toInt by omega) (show v3.toInt < ((1 : Int32) <<< (v1 &&& (31 : Int32))).toInt by omega) (show 0 + (256 - x26.toInt) * 2 < (n : Int) by omega)
      · have wc25 : ¬ x17.toInt = x23.toInt := c_ne c25
        try unfold fM_isAlike_53
        try unfold fM_isAlike_54
        refine tt_kv (P := fun z => ((1 : Int) ≤ z.toInt ∧ z.toInt ≤ 256) ∧ z = (v5 + 1) ∧ z.toInt = v5.toInt + 1) ⟨iv_add i7 (show (1 : Int) ≤ (1 : Int32).toInt ∧ (1 : Int32).toInt ≤ 1 by decide) (by decide) (by decide) (by decide) (by decide), rfl, iq_add i7 (show (1 : Int) ≤ (1 : Int32).toInt ∧ (1 : Int32).toInt ≤ 1 by decide) (by decide) (by decide)⟩ (fun x28 qi29 => ?_)
        obtain ⟨i29, ax28, ei29⟩ := qi29
        exact H _ _ _ _ _ _ k_o0 r_o0 i_v1 i_v2 i_v3 (iv_w (a := 0) (b := 1) (by decide) (by decide) (show (0 : Int) ≤ (0 : Int32).toInt ∧ (0 : Int32).toInt ≤ 0 by decide)) (iv_w (a := 0) (b := 256) (by decide) (by decide) i29) f_o0_0 f_o0_38 f_o0_39 f_o0_40 f_o0_95 (show v1.toInt < (o0.1 39).toInt by omega) (show v2.toInt < ((1 : Int32) <<< (v1 &&& (31 : Int32))).toInt by omega) (show v3.toInt < ((1 : Int32) <<< (v1 &&& (31 : Int32))).toInt by omega) (show 0 + (256 - x28.toInt) * 2 < (n : Int) by omega)
set_option maxHeartbeats 4000000 in
set_option maxRecDepth 100000 in
theorem hM_isAlike (yv1 : Int32) (yv2 : Int32) (yv3 : Int32) (yo0 : cf_O) : ∀ n, HM_isAlike yv1 yv2 yv3 yo0 n := by
  intro n
  induction n with
  | zero => exact (fun v1 v2 v3 v4 v5 o0 k_o0 r_o0 i_v1 i_v2 i_v3 i_v4 i_v5 f_o0_0 f_o0_38 f_o0_39 f_o0_40 f_o0_95 x_0 x_1 x_2 hm => by exact absurd (show 0 + (256 - v5.toInt) * 2 < (0 : Int) from hm) (by omega))
  | succ n ih => exact (fun v1 v2 v3 v4 v5 o0 k_o0 r_o0 i_v1 i_v2 i_v3 i_v4 i_v5 f_o0_0 f_o0_38 f_o0_39 f_o0_40 f_o0_95 x_0 x_1 x_2 hm => tM_isAlike_6 ih v1 v2 v3 v4 v5 o0 k_o0 r_o0 i_v1 i_v2 i_v3 i_v4 i_v5 f_o0_0 f_o0_38 f_o0_39 f_o0_40 f_o0_95 x_0 x_1 x_2 (by omega))
set_option maxHeartbeats 4000000 in
set_option maxRecDepth 100000 in
theorem sM_isAlike (v1 : Int32) (v2 : Int32) (v3 : Int32) (o0 : cf_O) (k_o0 : okO I_M o0) (i_v1 : (0 : Int) ≤ v1.toInt ∧ v1.toInt ≤ 7) (i_v2 : (1 : Int) ≤ v2.toInt ∧ v2.toInt ≤ 127) (i_v3 : (0 : Int) ≤ v3.toInt ∧ v3.toInt ≤ 126) (f_o0_0 : (0 : Int) ≤ (o0.1 0).toInt ∧ (o0.1 0).toInt ≤ 2) (f_o0_38 : (1 : Int) ≤ (o0.1 38).toInt ∧ (o0.1 38).toInt ≤ 1) (f_o0_39 : (1 : Int) ≤ (o0.1 39).toInt ∧ (o0.1 39).toInt ≤ 8) (f_o0_40 : (1 : Int) ≤ (o0.1 40).toInt ∧ (o0.1 40).toInt ≤ 6) (f_o0_95 : (0 : Int) ≤ (o0.1 95).toInt ∧ (o0.1 95).toInt ≤ 0) (x_0 : v1.toInt < (o0.1 39).toInt) (x_1 : v2.toInt < ((1 : Int32) <<< (v1 &&& (31 : Int32))).toInt) (x_2 : v3.toInt < ((1 : Int32) <<< (v1 &&& (31 : Int32))).toInt) : tt (fM_isAlike v1 v2 v3 o0) (QM_isAlike v1 v2 v3 o0) := by
  have H := hM_isAlike v1 v2 v3 o0 cfFU
  have hm : (515 : Int) ≤ (cfFU : Nat) := by decide
  have r_o0 : Fr (fr_M [] [] []) o0 o0 := fr_rfl
  unfold fM_isAlike fM_isAlike_0
  exact H _ _ _ _ _ _ k_o0 r_o0 i_v1 i_v2 (iv_w (a := 0) (b := 127) (by decide) (by decide) i_v3) (iv_w (a := 0) (b := 1) (by decide) (by decide) (show (1 : Int) ≤ (1 : Int32).toInt ∧ (1 : Int32).toInt ≤ 1 by decide)) (iv_w (a := 0) (b := 256) (by decide) (by decide) (show (0 : Int) ≤ (0 : Int32).toInt ∧ (0 : Int32).toInt ≤ 0 by decide)) f_o0_0 f_o0_38 f_o0_39 f_o0_40 f_o0_95 (show v1.toInt < (o0.1 39).toInt by omega) (show v2.toInt < ((1 : Int32) <<< (v1 &&& (31 : Int32))).toInt by omega) (show v3.toInt < ((1 : Int32) <<< (v1 &&& (31 : Int32))).toInt by omega) (show 0 + (256 - 0) * 2 < ((cfFU : Nat) : Int) by omega)
