def QM_readLines (o0 : cf_O) (r : (cf_O)) : Prop := (okO I_M r) ∧ (Fr (fr_M [5, 6, 7, 10, 13, 16, 17] [8, 9, 11, 12, 14, 15, 18, 19, 20, 21, 22, 23, 24] []) o0 r) ∧ ((0 : Int) ≤ (r.1 5).toInt ∧ (r.1 5).toInt ≤ 2) ∧ (Tn (r.1 17) (r.2.1 19)) ∧ (Rf (r.2.1 22) (r.2.1 23) (r.2.1 19)) ∧ True
def HM_readLines (yo0 : cf_O) (n : Nat) : Prop := (∀ (v1 : Int32) (v2 : Int32) (v3 : Int32) (o0 : cf_O), (okO I_M o0) → (Fr (fr_M [5, 6, 7, 10, 13, 16, 17] [8, 9, 11, 12, 14, 15, 18, 19, 20, 21, 22, 23, 24] []) yo0 o0) → ((0 : Int) ≤ v1.toInt ∧ v1.toInt ≤ 3) → ((0 : Int) ≤ v3.toInt ∧ v3.toInt ≤ 1601) → ((0 : Int) ≤ (o0.1 0).toInt ∧ (o0.1 0).toInt ≤ 0) → ((0 : Int) ≤ (o0.1 5).toInt ∧ (o0.1 5).toInt ≤ 2) → ((0 : Int) ≤ (o0.1 95).toInt ∧ (o0.1 95).toInt ≤ 0) → (Tn (o0.1 17) (o0.2.1 19)) → (Rf (o0.2.1 22) (o0.2.1 23) (o0.2.1 19)) → 1602 - v3.toInt < (n : Int) → tt (gM_readLines n 0 v1 v2 v3 o0) (QM_readLines yo0))
set_option maxHeartbeats 4000000 in
set_option maxRecDepth 100000 in
theorem tM_readLines_26 {yo0 : cf_O} {n : Nat} (H : HM_readLines yo0 n) (v1 : Int32) (v2 : Int32) (v3 : Int32) (o0 : cf_O) (k_o0 : okO I_M o0) (r_o0 : Fr (fr_M [5, 6, 7, 10, 13, 16, 17] [8, 9, 11, 12, 14, 15, 18, 19, 20, 21, 22, 23, 24] []) yo0 o0) (i_v1 : (0 : Int) ≤ v1.toInt ∧ v1.toInt ≤ 3) (i_v3 : (0 : Int) ≤ v3.toInt ∧ v3.toInt ≤ 1601) (f_o0_0 : (0 : Int) ≤ (o0.1 0).toInt ∧ (o0.1 0).toInt ≤ 0) (f_o0_5 : (0 : Int) ≤ (o0.1 5).toInt ∧ (o0.1 5).toInt ≤ 2) (f_o0_95 : (0 : Int) ≤ (o0.1 95).toInt ∧ (o0.1 95).toInt ≤ 0) (x_0 : Tn (o0.1 17) (o0.2.1 19)) (x_1 : Rf (o0.2.1 22) (o0.2.1 23) (o0.2.1 19)) (hm : 1602 - v3.toInt ≤ (n : Int)) : tt (fM_readLines_26 (gM_readLines n) v1 v2 v3 o0) (QM_readLines yo0) := by
  unfold fM_readLines_26
  have i_v2 := iv_top v2
  have g_o0_2 : (0 : Int) ≤ (o0.1 2).toInt ∧ (o0.1 2).toInt ≤ 1600 := k_o0.1 2
  have ey_o0_2 : (o0.1 2).toInt = (yo0.1 2).toInt := congrArg Int32.toInt (r_o0.1 2 rfl)
  refine tt_if (fun c1 => ?_) (fun c1 => ?_)
  · have wc1 : (o0.1 2).toInt < v3.toInt := c_lt c1
    have i2 : (1 : Int) ≤ v3.toInt ∧ v3.toInt ≤ 1601 := nr_ltr c1 (k_o0.1 2) i_v3 (by decide) (by decide)
    try unfold fM_readLines_227
    refine tt_if (fun c3 => ?_) (fun c3 => ?_)
    · have wc3 : (3 : Int) ≤ v1.toInt := c_le c3
      have i4 : (3 : Int) ≤ v1.toInt ∧ v1.toInt ≤ 3 := nr_ler c3 (show (3 : Int) ≤ (3 : Int32).toInt ∧ (3 : Int32).toInt ≤ 3 by decide) i_v1 (by decide) (by decide)
      try unfold fM_readLines_238
      exact tt_some ⟨k_o0, r_o0, f_o0_5, x_0, x_1, trivial⟩
    · have wc3 : v1.toInt < (3 : Int) := c_nle c3
      have i5 : (0 : Int) ≤ v1.toInt ∧ v1.toInt ≤ 2 := nr_nlel c3 i_v1 (show (3 : Int) ≤ (3 : Int32).toInt ∧ (3 : Int32).toInt ≤ 3 by decide) (by decide) (by decide)
      try unfold fM_fail
      try unfold fM_fail_0
      refine tt_bif (fun c6 => ?_) (fun c6 => ?_)
      · have wc6 : (o0.1 5).toInt = (0 : Int) := c_eq c6
        have i7 : (0 : Int) ≤ (o0.1 5).toInt ∧ (o0.1 5).toInt ≤ 0 := nr_eql c6 f_o0_5 (show (0 : Int) ≤ (0 : Int32).toInt ∧ (0 : Int32).toInt ≤ 0 by decide) (by decide) (by decide)
        refine tt_bko ?_
        have k8 := ok_fp (k := 5) (v := 1) k_o0 (iv_w (a := 0) (b := 4) (by decide) (by decide) (show (1 : Int) ≤ (1 : Int32).toInt ∧ (1 : Int32).toInt ≤ 1 by decide))
        have r9 := fr_fp (k := 5) (v := 1) r_o0 rfl
        refine tt_bko ?_
        have k10 := ok_fp (k := 6) (v := v2) k8 (iv_top v2)
        have r11 := fr_fp (k := 6) (v := v2) r9 rfl
        try unfold fM_fail_17
        refine tt_bs ?_
        try unfold fM_readLines_238
        exact tt_some ⟨k10, r11, (iv_w (a := 0) (b := 2) (by decide) (by decide) (show (1 : Int) ≤ (1 : Int32).toInt ∧ (1 : Int32).toInt ≤ 1 by decide)), x_0, x_1, trivial⟩
      · have wc6 : ¬ (o0.1 5).toInt = (0 : Int) := c_ne c6
        have i12 : (1 : Int) ≤ (o0.1 5).toInt ∧ (o0.1 5).toInt ≤ 2 := nr_nela c6 f_o0_5 (show (0 : Int) ≤ (0 : Int32).toInt ∧ (0 : Int32).toInt ≤ 0 by decide) (by decide) (by decide)
        try unfold fM_fail_17
        refine tt_bs ?_
        try unfold fM_readLines_238
        exact tt_some ⟨k_o0, r_o0, (iv_w (a := 0) (b := 2) (by decide) (by decide) i12), x_0, x_1, trivial⟩
  · have wc1 : v3.toInt ≤ (o0.1 2).toInt := c_nlt c1
    have i13 : (0 : Int) ≤ v3.toInt ∧ v3.toInt ≤ 1600 := nr_nltl c1 i_v3 (k_o0.1 2) (by decide) (by decide)
    refine tt_if (fun c14 => ?_) (fun c14 => ?_)
    · have wc14 : (o0.1 5).toInt = (0 : Int) := c_eq c14
      have i15 : (0 : Int) ≤ (o0.1 5).toInt ∧ (o0.1 5).toInt ≤ 0 := nr_eql c14 f_o0_5 (show (0 : Int) ≤ (0 : Int32).toInt ∧ (0 : Int32).toInt ≤ 0 by decide) (by decide) (by decide)
      refine tt_b (sM_takeLine _ _ k_o0 i13 f_o0_0 i15 f_o0_95) (fun q16 hq16 => ?_)
      obtain ⟨i_q16, k_q16_2, n_q16_2, zq16_0, -⟩ := hq16
      have r_q16_2 := fr_tr r_o0 n_q16_2 rfl rfl rfl
      have f_q16_2_0 : (0 : Int) ≤ (q16.2.1 0).toInt ∧ (q16.2.1 0).toInt ≤ 0 := by rw [n_q16_2.1 0 rfl]; exact f_o0_0
      have f_q16_2_5 : (0 : Int) ≤ (q16.2.1 5).toInt ∧ (q16.2.1 5).toInt ≤ 0 := by rw [n_q16_2.1 5 rfl]; exact i15
      have f_q16_2_95 : (0 : Int) ≤ (q16.2.1 95).toInt ∧ (q16.2.1 95).toInt ≤ 0 := by rw [n_q16_2.1 95 rfl]; exact f_o0_95
      have e_q16_2_2 : (q16.2.1 2).toInt = (o0.1 2).toInt := congrArg Int32.toInt (n_q16_2.1 2 rfl)
      have g_q16_2_2 : (0 : Int) ≤ (q16.2.1 2).toInt ∧ (q16.2.1 2).toInt ≤ 1600 := k_q16_2.1 2
      have zq16_0 : v3.toInt ≤ q16.1.toInt := zq16_0
      have u17 : Tn (q16.2.1 17) (q16.2.2.1 19) := by rw [n_q16_2.1 17 rfl, n_q16_2.2.1 19 rfl]; exact x_0
      have u18 : Rf (q16.2.2.1 22) (q16.2.2.1 23) (q16.2.2.1 19) := by rw [n_q16_2.2.1 19 rfl, n_q16_2.2.1 22 rfl, n_q16_2.2.1 23 rfl]; exact x_1
      refine tt_if (fun c19 => ?_) (fun c19 => ?_)
      · have wc19 : (q16.2.1 7).toInt ≤ (0 : Int) := c_le c19
        have i20 : (0 : Int) ≤ (q16.2.1 7).toInt ∧ (q16.2.1 7).toInt ≤ 0 := nr_lel c19 (k_q16_2.1 7) (show (0 : Int) ≤ (0 : Int32).toInt ∧ (0 : Int32).toInt ≤ 0 by decide) (by decide) (by decide)
        try unfold fM_readLines_63
        refine tt_if (fun c21 => ?_) (fun c21 => ?_)
        · have wc21 : (q16.2.1 7).toInt = (0 : Int) := c_eq c21
          try unfold fM_readLines_77
          refine tt_if (fun c22 => ?_) (fun c22 => ?_)
          · have wc22 : (1 : Int) = (0 : Int) := c_eq c22
            exact (dd_eq c22 (show (1 : Int) ≤ (1 : Int32).toInt ∧ (1 : Int32).toInt ≤ 1 by decide) (show (0 : Int) ≤ (0 : Int32).toInt ∧ (0 : Int32).toInt ≤ 0 by decide) (by decide)).elim
          · have wc22 : ¬ (1 : Int) = (0 : Int) := c_ne c22
            try unfold fM_readLines_103
            refine tt_if (fun c23 => ?_) (fun c23 => ?_)
            · have wc23 : (1 : Int) = (0 : Int) := c_eq c23
              exact (dd_eq c23 (show (1 : Int) ≤ (1 : Int32).toInt ∧ (1 : Int32).toInt ≤ 1 by decide) (show (0 : Int) ≤ (0 : Int32).toInt ∧ (0 : Int32).toInt ≤ 0 by decide) (by decide)).elim
            · have wc23 : ¬ (1 : Int) = (0 : Int) := c_ne c23
              try unfold fM_readLines_129
              refine tt_if (fun c24 => ?_) (fun c24 => ?_)
              · have wc24 : (1 : Int) = (0 : Int) := c_eq c24
                exact (dd_eq c24 (show (1 : Int) ≤ (1 : Int32).toInt ∧ (1 : Int32).toInt ≤ 1 by decide) (show (0 : Int) ≤ (0 : Int32).toInt ∧ (0 : Int32).toInt ≤ 0 by decide) (by decide)).elim
              · have wc24 : ¬ (1 : Int) = (0 : Int) := c_ne c24
                try unfold fM_readLines_153
                refine tt_if (fun c25 => ?_) (fun c25 => ?_)
                · have wc25 : (1 : Int) = (0 : Int) := c_eq c25
                  exact (dd_eq c25 (show (1 : Int) ≤ (1 : Int32).toInt ∧ (1 : Int32).toInt ≤ 1 by decide) (show (0 : Int) ≤ (0 : Int32).toInt ∧ (0 : Int32).toInt ≤ 0 by decide) (by decide)).elim
                · have wc25 : ¬ (1 : Int) = (0 : Int) := c_ne c25
                  try unfold fM_readLines_182
                  refine tt_if (fun c26 => ?_) (fun c26 => ?_)
                  · have wc26 : (1 : Int) = (0 : Int) := c_eq c26
                    exact (dd_eq c26 (show (1 : Int) ≤ (1 : Int32).toInt ∧ (1 : Int32).toInt ≤ 1 by decide) (show (0 : Int) ≤ (0 : Int32).toInt ∧ (0 : Int32).toInt ≤ 0 by decide) (by decide)).elim
                  · have wc26 : ¬ (1 : Int) = (0 : Int) := c_ne c26
                    try unfold fM_readLines_205
                    refine tt_if (fun c27 => ?_) (fun c27 => ?_)
                    · have wc27 : (1 : Int) = (0 : Int) := c_eq c27
                      exact (dd_eq c27 (show (1 : Int) ≤ (1 : Int32).toInt ∧ (1 : Int32).toInt ≤ 1 by decide) (show (0 : Int) ≤ (0 : Int32).toInt ∧ (0 : Int32).toInt ≤ 0 by decide) (by decide)).elim
                    · have wc27 : ¬ (1 : Int) = (0 : Int) := c_ne c27
                      try unfold fM_readLines_216
                      refine tt_kv (P := fun z => ((1 : Int) ≤ z.toInt ∧ z.toInt ≤ 1601) ∧ z.toInt = q16.1.toInt + 1) ⟨iv_add i_q16 (show (1 : Int) ≤ (1 : Int32).toInt ∧ (1 : Int32).toInt ≤ 1 by decide) (by decide) (by decide) (by decide) (by decide), iq_add i_q16 (show (1 : Int) ≤ (1 : Int32).toInt ∧ (1 : Int32).toInt ≤ 1 by decide) (by decide) (by decide)⟩ (fun x28 qi29 => ?_)
                      obtain ⟨i29, ei29⟩ := qi29
                      refine tt_kv (P := fun z => ((-2147483648) : Int) ≤ z.toInt ∧ z.toInt ≤ 2147483647) (iv_top _) (fun x30 i31 => ?_)
                      exact H _ _ _ _ k_q16_2 r_q16_2 i_v1 (iv_w (a := 0) (b := 1601) (by decide) (by decide) i29) f_q16_2_0 (iv_w (a := 0) (b := 2) (by decide) (by decide) f_q16_2_5) f_q16_2_95 u17 u18 (show 1602 - x28.toInt < (n : Int) by omega)
        · have wc21 : ¬ (q16.2.1 7).toInt = (0 : Int) := c_ne c21
          exact (dd_ne c21 i20 (show (0 : Int) ≤ (0 : Int32).toInt ∧ (0 : Int32).toInt ≤ 0 by decide)).elim
      · have wc19 : (0 : Int) < (q16.2.1 7).toInt := c_nle c19
        have i32 : (1 : Int) ≤ (q16.2.1 7).toInt ∧ (q16.2.1 7).toInt ≤ 801 := nr_nler c19 (show (0 : Int) ≤ (0 : Int32).toInt ∧ (0 : Int32).toInt ≤ 0 by decide) (k_q16_2.1 7) (by decide) (by decide)
        refine tt_b (sM_firstWord _ k_q16_2 f_q16_2_0 f_q16_2_5 i32 f_q16_2_95) (fun q33 hq33 => ?_)
        obtain ⟨i_q33, -⟩ := hq33
        try unfold fM_readLines_63
        refine tt_if (fun c34 => ?_) (fun c34 => ?_)
        · have wc34 : (q16.2.1 7).toInt = (0 : Int) := c_eq c34
          exact (dd_eq c34 i32 (show (0 : Int) ≤ (0 : Int32).toInt ∧ (0 : Int32).toInt ≤ 0 by decide) (by decide)).elim
        · have wc34 : ¬ (q16.2.1 7).toInt = (0 : Int) := c_ne c34
          try unfold fM_readLines_77
          refine tt_if (fun c35 => ?_) (fun c35 => ?_)
          · have wc35 : (0 : Int) = (0 : Int) := c_eq c35
            refine tt_if (fun c36 => ?_) (fun c36 => ?_)
            · have wc36 : v1.toInt = (0 : Int) := c_eq c36
              have i37 : (0 : Int) ≤ v1.toInt ∧ v1.toInt ≤ 0 := nr_eql c36 i_v1 (show (0 : Int) ≤ (0 : Int32).toInt ∧ (0 : Int32).toInt ≤ 0 by decide) (by decide) (by decide)
              refine tt_if (fun c38 => ?_) (fun c38 => ?_)
              · have wc38 : q33.toInt = (0 : Int) := c_eq c38
                have i39 : (0 : Int) ≤ q33.toInt ∧ q33.toInt ≤ 0 := nr_eql c38 i_q33 (show (0 : Int) ≤ (0 : Int32).toInt ∧ (0 : Int32).toInt ≤ 0 by decide) (by decide) (by decide)
                refine tt_b (sM_inputLine _ _ k_q16_2 f_q16_2_0 f_q16_2_5 i32 f_q16_2_95) (fun q40 hq40 => ?_)
                obtain ⟨k_q40, n_q40, f_q40_5, -⟩ := hq40
                have r_q40 := fr_tr r_q16_2 n_q40 rfl rfl rfl
                have f_q40_0 : (0 : Int) ≤ (q40.1 0).toInt ∧ (q40.1 0).toInt ≤ 0 := by rw [n_q40.1 0 rfl]; exact f_q16_2_0
                have f_q40_7 : (1 : Int) ≤ (q40.1 7).toInt ∧ (q40.1 7).toInt ≤ 801 := by rw [n_q40.1 7 rfl]; exact i32
                have f_q40_95 : (0 : Int) ≤ (q40.1 95).toInt ∧ (q40.1 95).toInt ≤ 0 := by rw [n_q40.1 95 rfl]; exact f_q16_2_95
                have e_q40_2 : (q40.1 2).toInt = (q16.2.1 2).toInt := congrArg Int32.toInt (n_q40.1 2 rfl)
                have g_q40_2 : (0 : Int) ≤ (q40.1 2).toInt ∧ (q40.1 2).toInt ≤ 1600 := k_q40.1 2
                have u41 : Tn (q40.1 17) (q40.2.1 19) := by rw [n_q40.1 17 rfl, n_q40.2.1 19 rfl]; exact u17
                have u42 : Rf (q40.2.1 22) (q40.2.1 23) (q40.2.1 19) := by rw [n_q40.2.1 19 rfl, n_q40.2.1 22 rfl, n_q40.2.1 23 rfl]; exact u18
                try unfold fM_readLines_216
                refine tt_kv (P := fun z => ((1 : Int) ≤ z.toInt ∧ z.toInt ≤ 1601) ∧ z.toInt = q16.1.toInt + 1) ⟨iv_add i_q16 (show (1 : Int) ≤ (1 : Int32).toInt ∧ (1 : Int32).toInt ≤ 1 by decide) (by decide) (by decide) (by decide) (by decide), iq_add i_q16 (show (1 : Int) ≤ (1 : Int32).toInt ∧ (1 : Int32).toInt ≤ 1 by decide) (by decide) (by decide)⟩ (fun x43 qi44 => ?_)
                obtain ⟨i44, ei44⟩ := qi44
                refine tt_kv (P := fun z => ((-2147483648) : Int) ≤ z.toInt ∧ z.toInt ≤ 2147483647) (iv_top _) (fun x45 i46 => ?_)
                exact H _ _ _ _ k_q40 r_q40 (iv_w (a := 0) (b := 3) (by decide) (by decide) (show (1 : Int) ≤ (1 : Int32).toInt ∧ (1 : Int32).toInt ≤ 1 by decide)) (iv_w (a := 0) (b := 1601) (by decide) (by decide) i44) f_q40_0 f_q40_5 f_q40_95 u41 u42 (show 1602 - x43.toInt < (n : Int) by omega)
              · have wc38 : ¬ q33.toInt = (0 : Int) := c_ne c38
                try unfold fM_readLines_103
                refine tt_if (fun c47 => ?_) (fun c47 => ?_)
                · have wc47 : (0 : Int) = (0 : Int) := c_eq c47
                  refine tt_if (fun c48 => ?_) (fun c48 => ?_)
                  · have wc48 : v1.toInt = (1 : Int) := c_eq c48
                    exact (dd_eq c48 i37 (show (1 : Int) ≤ (1 : Int32).toInt ∧ (1 : Int32).toInt ≤ 1 by decide) (by decide)).elim
                  · have wc48 : ¬ v1.toInt = (1 : Int) := c_ne c48
                    try unfold fM_readLines_129
                    refine tt_if (fun c49 => ?_) (fun c49 => ?_)
                    · have wc49 : (0 : Int) = (0 : Int) := c_eq c49
                      refine tt_if (fun c50 => ?_) (fun c50 => ?_)
                      · have wc50 : v1.toInt = (2 : Int) := c_eq c50
                        exact (dd_eq c50 i37 (show (2 : Int) ≤ (2 : Int32).toInt ∧ (2 : Int32).toInt ≤ 2 by decide) (by decide)).elim
                      · have wc50 : ¬ v1.toInt = (2 : Int) := c_ne c50
                        try unfold fM_readLines_153
                        refine tt_if (fun c51 => ?_) (fun c51 => ?_)
                        · have wc51 : (0 : Int) = (0 : Int) := c_eq c51
                          refine tt_if (fun c52 => ?_) (fun c52 => ?_)
                          · have wc52 : v1.toInt = (2 : Int) := c_eq c52
                            exact (dd_eq c52 i37 (show (2 : Int) ≤ (2 : Int32).toInt ∧ (2 : Int32).toInt ≤ 2 by decide) (by decide)).elim
                          · have wc52 : ¬ v1.toInt = (2 : Int) := c_ne c52
                            try unfold fM_readLines_182
                            refine tt_if (fun c53 => ?_) (fun c53 => ?_)
                            · have wc53 : (0 : Int) = (0 : Int) := c_eq c53
                              refine tt_if (fun c54 => ?_) (fun c54 => ?_)
                              · have wc54 : v1.toInt = (2 : Int) := c_eq c54
                                exact (dd_eq c54 i37 (show (2 : Int) ≤ (2 : Int32).toInt ∧ (2 : Int32).toInt ≤ 2 by decide) (by decide)).elim
                              · have wc54 : ¬ v1.toInt = (2 : Int) := c_ne c54
                                try unfold fM_readLines_205
                                refine tt_if (fun c55 => ?_) (fun c55 => ?_)
                                · have wc55 : (0 : Int) = (0 : Int) := c_eq c55
                                  try unfold fM_fail
                                  try unfold fM_fail_0
                                  refine tt_bif (fun c56 => ?_) (fun c56 => ?_)
                                  · have wc56 : (q16.2.1 5).toInt = (0 : Int) := c_eq c56
                                    refine tt_bko ?_
                                    have k57 := ok_fp (k := 5) (v := 1) k_q16_2 (iv_w (a := 0) (b := 4) (by decide) (by decide) (show (1 : Int) ≤ (1 : Int32).toInt ∧ (1 : Int32).toInt ≤ 1 by decide))
                                    have r58 := fr_fp (k := 5) (v := 1) r_q16_2 rfl
                                    refine tt_bko ?_
                                    have k59 := ok_fp (k := 6) (v := v2) k57 (iv_top v2)
                                    have r60 := fr_fp (k := 6) (v := v2) r58 rfl
                                    try unfold fM_fail_17
                                    refine tt_bs ?_
                                    try unfold fM_readLines_216
                                    refine tt_kv (P := fun z => ((1 : Int) ≤ z.toInt ∧ z.toInt ≤ 1601) ∧ z.toInt = q16.1.toInt + 1) ⟨iv_add i_q16 (show (1 : Int) ≤ (1 : Int32).toInt ∧ (1 : Int32).toInt ≤ 1 by decide) (by decide) (by decide) (by decide) (by decide), iq_add i_q16 (show (1 : Int) ≤ (1 : Int32).toInt ∧ (1 : Int32).toInt ≤ 1 by decide) (by decide) (by decide)⟩ (fun x61 qi62 => ?_)
                                    obtain ⟨i62, ei62⟩ := qi62
                                    refine tt_kv (P := fun z => ((-2147483648) : Int) ≤ z.toInt ∧ z.toInt ≤ 2147483647) (iv_top _) (fun x63 i64 => ?_)
                                    exact H _ _ _ _ k59 r60 (iv_w (a := 0) (b := 3) (by decide) (by decide) i37) (iv_w (a := 0) (b := 1601) (by decide) (by decide) i62) f_q16_2_0 (iv_w (a := 0) (b := 2) (by decide) (by decide) (show (1 : Int) ≤ (1 : Int32).toInt ∧ (1 : Int32).toInt ≤ 1 by decide)) f_q16_2_95 u17 u18 (show 1602 - x61.toInt < (n : Int) by omega)
                                  · have wc56 : ¬ (q16.2.1 5).toInt = (0 : Int) := c_ne c56
                                    exact (dd_ne c56 f_q16_2_5 (show (0 : Int) ≤ (0 : Int32).toInt ∧ (0 : Int32).toInt ≤ 0 by decide)).elim
                                · have wc55 : ¬ (0 : Int) = (0 : Int) := c_ne c55
                                  exact (dd_ne c55 (show (0 : Int) ≤ (0 : Int32).toInt ∧ (0 : Int32).toInt ≤ 0 by decide) (show (0 : Int) ≤ (0 : Int32).toInt ∧ (0 : Int32).toInt ≤ 0 by decide)).elim
                            · have wc53 : ¬ (0 : Int) = (0 : Int) := c_ne c53
                              exact (dd_ne c53 (show (0 : Int) ≤ (0 : Int32).toInt ∧ (0 : Int32).toInt ≤ 0 by decide) (show (0 : Int) ≤ (0 : Int32).toInt ∧ (0 : Int32).toInt ≤ 0 by decide)).elim
                        · have wc51 : ¬ (0 : Int) = (0 : Int) := c_ne c51
                          exact (dd_ne c51 (show (0 : Int) ≤ (0 : Int32).toInt ∧ (0 : Int32).toInt ≤ 0 by decide) (show (0 : Int) ≤ (0 : Int32).toInt ∧ (0 : Int32).toInt ≤ 0 by decide)).elim
                    · have wc49 : ¬ (0 : Int) = (0 : Int) := c_ne c49
                      exact (dd_ne c49 (show (0 : Int) ≤ (0 : Int32).toInt ∧ (0 : Int32).toInt ≤ 0 by decide) (show (0 : Int) ≤ (0 : Int32).toInt ∧ (0 : Int32).toInt ≤ 0 by decide)).elim
                · have wc47 : ¬ (0 : Int) = (0 : Int) := c_ne c47
                  exact (dd_ne c47 (show (0 : Int) ≤ (0 : Int32).toInt ∧ (0 : Int32).toInt ≤ 0 by decide) (show (0 : Int) ≤ (0 : Int32).toInt ∧ (0 : Int32).toInt ≤ 0 by decide)).elim
            · have wc36 : ¬ v1.toInt = (0 : Int) := c_ne c36
              have i65 : (1 : Int) ≤ v1.toInt ∧ v1.toInt ≤ 3 := nr_nela c36 i_v1 (show (0 : Int) ≤ (0 : Int32).toInt ∧ (0 : Int32).toInt ≤ 0 by decide) (by decide) (by decide)
              try unfold fM_readLines_103
              refine tt_if (fun c66 => ?_) (fun c66 => ?_)
              · have wc66 : (0 : Int) = (0 : Int) := c_eq c66
                refine tt_if (fun c67 => ?_) (fun c67 => ?_)
                · have wc67 : v1.toInt = (1 : Int) := c_eq c67
                  have i68 : (1 : Int) ≤ v1.toInt ∧ v1.toInt ≤ 1 := nr_eql c67 i65 (show (1 : Int) ≤ (1 : Int32).toInt ∧ (1 : Int32).toInt ≤ 1 by decide) (by decide) (by decide)
                  refine tt_if (fun c69 => ?_) (fun c69 => ?_)
                  · have wc69 : q33.toInt = (1 : Int) := c_eq c69
                    have i70 : (1 : Int) ≤ q33.toInt ∧ q33.toInt ≤ 1 := nr_eql c69 i_q33 (show (1 : Int) ≤ (1 : Int32).toInt ∧ (1 : Int32).toInt ≤ 1 by decide) (by decide) (by decide)
                    refine tt_b (sM_outputsLine _ _ k_q16_2 f_q16_2_0 f_q16_2_5 i32 f_q16_2_95) (fun q71 hq71 => ?_)
                    obtain ⟨k_q71, n_q71, f_q71_5, -⟩ := hq71
                    have r_q71 := fr_tr r_q16_2 n_q71 rfl rfl rfl
                    have f_q71_0 : (0 : Int) ≤ (q71.1 0).toInt ∧ (q71.1 0).toInt ≤ 0 := by rw [n_q71.1 0 rfl]; exact f_q16_2_0
                    have f_q71_7 : (1 : Int) ≤ (q71.1 7).toInt ∧ (q71.1 7).toInt ≤ 801 := by rw [n_q71.1 7 rfl]; exact i32
                    have f_q71_95 : (0 : Int) ≤ (q71.1 95).toInt ∧ (q71.1 95).toInt ≤ 0 := by rw [n_q71.1 95 rfl]; exact f_q16_2_95
                    have e_q71_2 : (q71.1 2).toInt = (q16.2.1 2).toInt := congrArg Int32.toInt (n_q71.1 2 rfl)
                    have g_q71_2 : (0 : Int) ≤ (q71.1 2).toInt ∧ (q71.1 2).toInt ≤ 1600 := k_q71.1 2
                    have u72 : Tn (q71.1 17) (q71.2.1 19) := by rw [n_q71.1 17 rfl, n_q71.2.1 19 rfl]; exact u17
                    have u73 : Rf (q71.2.1 22) (q71.2.1 23) (q71.2.1 19) := by rw [n_q71.2.1 19 rfl, n_q71.2.1 22 rfl, n_q71.2.1 23 rfl]; exact u18
                    try unfold fM_readLines_216
                    refine tt_kv (P := fun z => ((1 : Int) ≤ z.toInt ∧ z.toInt ≤ 1601) ∧ z.toInt = q16.1.toInt + 1) ⟨iv_add i_q16 (show (1 : Int) ≤ (1 : Int32).toInt ∧ (1 : Int32).toInt ≤ 1 by decide) (by decide) (by decide) (by decide) (by decide), iq_add i_q16 (show (1 : Int) ≤ (1 : Int32).toInt ∧ (1 : Int32).toInt ≤ 1 by decide) (by decide) (by decide)⟩ (fun x74 qi75 => ?_)
                    obtain ⟨i75, ei75⟩ := qi75
                    refine tt_kv (P := fun z => ((-2147483648) : Int) ≤ z.toInt ∧ z.toInt ≤ 2147483647) (iv_top _) (fun x76 i77 => ?_)
                    exact H _ _ _ _ k_q71 r_q71 (iv_w (a := 0) (b := 3) (by decide) (by decide) (show (2 : Int) ≤ (2 : Int32).toInt ∧ (2 : Int32).toInt ≤ 2 by decide)) (iv_w (a := 0) (b := 1601) (by decide) (by decide) i75) f_q71_0 f_q71_5 f_q71_95 u72 u73 (show 1602 - x74.toInt < (n : Int) by omega)
                  · have wc69 : ¬ q33.toInt = (1 : Int) := c_ne c69
                    try unfold fM_readLines_129
                    refine tt_if (fun c78 => ?_) (fun c78 => ?_)
                    · have wc78 : (0 : Int) = (0 : Int) := c_eq c78
                      refine tt_if (fun c79 => ?_) (fun c79 => ?_)
                      · have wc79 : v1.toInt = (2 : Int) := c_eq c79
                        exact (dd_eq c79 i68 (show (2 : Int) ≤ (2 : Int32).toInt ∧ (2 : Int32).toInt ≤ 2 by decide) (by decide)).elim
                      · have wc79 : ¬ v1.toInt = (2 : Int) := c_ne c79
                        try unfold fM_readLines_153
                        refine tt_if (fun c80 => ?_) (fun c80 => ?_)
                        · have wc80 : (0 : Int) = (0 : Int) := c_eq c80
                          refine tt_if (fun c81 => ?_) (fun c81 => ?_)
                          · have wc81 : v1.toInt = (2 : Int) := c_eq c81
                            exact (dd_eq c81 i68 (show (2 : Int) ≤ (2 : Int32).toInt ∧ (2 : Int32).toInt ≤ 2 by decide) (by decide)).elim
                          · have wc81 : ¬ v1.toInt = (2 : Int) := c_ne c81
                            try unfold fM_readLines_182
                            refine tt_if (fun c82 => ?_) (fun c82 => ?_)
                            · have wc82 : (0 : Int) = (0 : Int) := c_eq c82
                              refine tt_if (fun c83 => ?_) (fun c83 => ?_)
                              · have wc83 : v1.toInt = (2 : Int) := c_eq c83
                                exact (dd_eq c83 i68 (show (2 : Int) ≤ (2 : Int32).toInt ∧ (2 : Int32).toInt ≤ 2 by decide) (by decide)).elim
                              · have wc83 : ¬ v1.toInt = (2 : Int) := c_ne c83
                                try unfold fM_readLines_205
                                refine tt_if (fun c84 => ?_) (fun c84 => ?_)
                                · have wc84 : (0 : Int) = (0 : Int) := c_eq c84
                                  try unfold fM_fail
                                  try unfold fM_fail_0
                                  refine tt_bif (fun c85 => ?_) (fun c85 => ?_)
                                  · have wc85 : (q16.2.1 5).toInt = (0 : Int) := c_eq c85
                                    refine tt_bko ?_
                                    have k86 := ok_fp (k := 5) (v := 1) k_q16_2 (iv_w (a := 0) (b := 4) (by decide) (by decide) (show (1 : Int) ≤ (1 : Int32).toInt ∧ (1 : Int32).toInt ≤ 1 by decide))
                                    have r87 := fr_fp (k := 5) (v := 1) r_q16_2 rfl
                                    refine tt_bko ?_
                                    have k88 := ok_fp (k := 6) (v := v2) k86 (iv_top v2)
                                    have r89 := fr_fp (k := 6) (v := v2) r87 rfl
                                    try unfold fM_fail_17
                                    refine tt_bs ?_
                                    try unfold fM_readLines_216
                                    refine tt_kv (P := fun z => ((1 : Int) ≤ z.toInt ∧ z.toInt ≤ 1601) ∧ z.toInt = q16.1.toInt + 1) ⟨iv_add i_q16 (show (1 : Int) ≤ (1 : Int32).toInt ∧ (1 : Int32).toInt ≤ 1 by decide) (by decide) (by decide) (by decide) (by decide), iq_add i_q16 (show (1 : Int) ≤ (1 : Int32).toInt ∧ (1 : Int32).toInt ≤ 1 by decide) (by decide) (by decide)⟩ (fun x90 qi91 => ?_)
                                    obtain ⟨i91, ei91⟩ := qi91
                                    refine tt_kv (P := fun z => ((-2147483648) : Int) ≤ z.toInt ∧ z.toInt ≤ 2147483647) (iv_top _) (fun x92 i93 => ?_)
                                    exact H _ _ _ _ k88 r89 (iv_w (a := 0) (b := 3) (by decide) (by decide) i68) (iv_w (a := 0) (b := 1601) (by decide) (by decide) i91) f_q16_2_0 (iv_w (a := 0) (b := 2) (by decide) (by decide) (show (1 : Int) ≤ (1 : Int32).toInt ∧ (1 : Int32).toInt ≤ 1 by decide)) f_q16_2_95 u17 u18 (show 1602 - x90.toInt < (n : Int) by omega)
                                  · have wc85 : ¬ (q16.2.1 5).toInt = (0 : Int) := c_ne c85
                                    exact (dd_ne c85 f_q16_2_5 (show (0 : Int) ≤ (0 : Int32).toInt ∧ (0 : Int32).toInt ≤ 0 by decide)).elim
                                · have wc84 : ¬ (0 : Int) = (0 : Int) := c_ne c84
                                  exact (dd_ne c84 (show (0 : Int) ≤ (0 : Int32).toInt ∧ (0 : Int32).toInt ≤ 0 by decide) (show (0 : Int) ≤ (0 : Int32).toInt ∧ (0 : Int32).toInt ≤ 0 by decide)).elim
                            · have wc82 : ¬ (0 : Int) = (0 : Int) := c_ne c82
                              exact (dd_ne c82 (show (0 : Int) ≤ (0 : Int32).toInt ∧ (0 : Int32).toInt ≤ 0 by decide) (show (0 : Int) ≤ (0 : Int32).toInt ∧ (0 : Int32).toInt ≤ 0 by decide)).elim
                        · have wc80 : ¬ (0 : Int) = (0 : Int) := c_ne c80
                          exact (dd_ne c80 (show (0 : Int) ≤ (0 : Int32).toInt ∧ (0 : Int32).toInt ≤ 0 by decide) (show (0 : Int) ≤ (0 : Int32).toInt ∧ (0 : Int32).toInt ≤ 0 by decide)).elim
                    · have wc78 : ¬ (0 : Int) = (0 : Int) := c_ne c78
                      exact (dd_ne c78 (show (0 : Int) ≤ (0 : Int32).toInt ∧ (0 : Int32).toInt ≤ 0 by decide) (show (0 : Int) ≤ (0 : Int32).toInt ∧ (0 : Int32).toInt ≤ 0 by decide)).elim
                · have wc67 : ¬ v1.toInt = (1 : Int) := c_ne c67
                  have i94 : (2 : Int) ≤ v1.toInt ∧ v1.toInt ≤ 3 := nr_nela c67 i65 (show (1 : Int) ≤ (1 : Int32).toInt ∧ (1 : Int32).toInt ≤ 1 by decide) (by decide) (by decide)
                  try unfold fM_readLines_129
                  refine tt_if (fun c95 => ?_) (fun c95 => ?_)
                  · have wc95 : (0 : Int) = (0 : Int) := c_eq c95
                    refine tt_if (fun c96 => ?_) (fun c96 => ?_)
                    · have wc96 : v1.toInt = (2 : Int) := c_eq c96
                      have i97 : (2 : Int) ≤ v1.toInt ∧ v1.toInt ≤ 2 := nr_eql c96 i94 (show (2 : Int) ≤ (2 : Int32).toInt ∧ (2 : Int32).toInt ≤ 2 by decide) (by decide) (by decide)
                      refine tt_if (fun c98 => ?_) (fun c98 => ?_)
                      · have wc98 : q33.toInt = (2 : Int) := c_eq c98
                        have i99 : (2 : Int) ≤ q33.toInt ∧ q33.toInt ≤ 2 := nr_eql c98 i_q33 (show (2 : Int) ≤ (2 : Int32).toInt ∧ (2 : Int32).toInt ≤ 2 by decide) (by decide) (by decide)
                        refine tt_b (sM_tableLine _ _ k_q16_2 f_q16_2_0 f_q16_2_5 i32 f_q16_2_95 u17 u18) (fun q100 hq100 => ?_)
                        obtain ⟨k_q100, n_q100, f_q100_5, zq100_0, zq100_1, -⟩ := hq100
                        have r_q100 := fr_tr r_q16_2 n_q100 rfl rfl rfl
                        have f_q100_0 : (0 : Int) ≤ (q100.1 0).toInt ∧ (q100.1 0).toInt ≤ 0 := by rw [n_q100.1 0 rfl]; exact f_q16_2_0
                        have f_q100_7 : (1 : Int) ≤ (q100.1 7).toInt ∧ (q100.1 7).toInt ≤ 801 := by rw [n_q100.1 7 rfl]; exact i32
                        have f_q100_95 : (0 : Int) ≤ (q100.1 95).toInt ∧ (q100.1 95).toInt ≤ 0 := by rw [n_q100.1 95 rfl]; exact f_q16_2_95
                        have e_q100_2 : (q100.1 2).toInt = (q16.2.1 2).toInt := congrArg Int32.toInt (n_q100.1 2 rfl)
                        have g_q100_2 : (0 : Int) ≤ (q100.1 2).toInt ∧ (q100.1 2).toInt ≤ 1600 := k_q100.1 2
                        try unfold fM_readLines_216
                        refine tt_kv (P := fun z => ((1 : Int) ≤ z.toInt ∧ z.toInt ≤ 1601) ∧ z.toInt = q16.1.toInt + 1) ⟨iv_add i_q16 (show (1 : Int) ≤ (1 : Int32).toInt ∧ (1 : Int32).toInt ≤ 1 by decide) (by decide) (by decide) (by decide) (by decide), iq_add i_q16 (show (1 : Int) ≤ (1 : Int32).toInt ∧ (1 : Int32).toInt ≤ 1 by decide) (by decide) (by decide)⟩ (fun x101 qi102 => ?_)
                        obtain ⟨i102, ei102⟩ := qi102
                        refine tt_kv (P := fun z => ((-2147483648) : Int) ≤ z.toInt ∧ z.toInt ≤ 2147483647) (iv_top _) (fun x103 i104 => ?_)
                        exact H _ _ _ _ k_q100 r_q100 (iv_w (a := 0) (b := 3) (by decide) (by decide) i97) (iv_w (a := 0) (b := 1601) (by decide) (by decide) i102) f_q100_0 f_q100_5 f_q100_95 zq100_0 zq100_1 (show 1602 - x101.toInt < (n : Int) by omega)
                      · have wc98 : ¬ q33.toInt = (2 : Int) := c_ne c98
                        try unfold fM_readLines_153
                        refine tt_if (fun c105 => ?_) (fun c105 => ?_)
                        · have wc105 : (0 : Int) = (0 : Int) := c_eq c105
                          refine tt_if (fun c106 => ?_) (fun c106 => ?_)
                          · have wc106 : v1.toInt = (2 : Int) := c_eq c106
                            refine tt_if (fun c107 => ?_) (fun c107 => ?_)
                            · have wc107 : q33.toInt = (3 : Int) := c_eq c107
                              have i108 : (3 : Int) ≤ q33.toInt ∧ q33.toInt ≤ 3 := nr_eql c107 i_q33 (show (3 : Int) ≤ (3 : Int32).toInt ∧ (3 : Int32).toInt ≤ 3 by decide) (by decide) (by decide)
                              refine tt_if (fun c109 => ?_) (fun c109 => ?_)
                              · have wc109 : (q16.2.1 7).toInt = (1 : Int) := c_eq c109
                                have i110 : (1 : Int) ≤ (q16.2.1 7).toInt ∧ (q16.2.1 7).toInt ≤ 1 := nr_eql c109 i32 (show (1 : Int) ≤ (1 : Int32).toInt ∧ (1 : Int32).toInt ≤ 1 by decide) (by decide) (by decide)
                                try unfold fM_readLines_216
                                refine tt_kv (P := fun z => ((1 : Int) ≤ z.toInt ∧ z.toInt ≤ 1601) ∧ z.toInt = q16.1.toInt + 1) ⟨iv_add i_q16 (show (1 : Int) ≤ (1 : Int32).toInt ∧ (1 : Int32).toInt ≤ 1 by decide) (by decide) (by decide) (by decide) (by decide), iq_add i_q16 (show (1 : Int) ≤ (1 : Int32).toInt ∧ (1 : Int32).toInt ≤ 1 by decide) (by decide) (by decide)⟩ (fun x111 qi112 => ?_)
                                obtain ⟨i112, ei112⟩ := qi112
                                refine tt_kv (P := fun z => ((-2147483648) : Int) ≤ z.toInt ∧ z.toInt ≤ 2147483647) (iv_top _) (fun x113 i114 => ?_)
                                exact H _ _ _ _ k_q16_2 r_q16_2 (iv_w (a := 0) (b := 3) (by decide) (by decide) (show (3 : Int) ≤ (3 : Int32).toInt ∧ (3 : Int32).toInt ≤ 3 by decide)) (iv_w (a := 0) (b := 1601) (by decide) (by decide) i112) f_q16_2_0 (iv_w (a := 0) (b := 2) (by decide) (by decide) f_q16_2_5) f_q16_2_95 u17 u18 (show 1602 - x111.toInt < (n : Int) by omega)
                              · have wc109 : ¬ (q16.2.1 7).toInt = (1 : Int) := c_ne c109
                                have i115 : (2 : Int) ≤ (q16.2.1 7).toInt ∧ (q16.2.1 7).toInt ≤ 801 := nr_nela c109 i32 (show (1 : Int) ≤ (1 : Int32).toInt ∧ (1 : Int32).toInt ≤ 1 by decide) (by decide) (by decide)
                                try unfold fM_readLines_182
                                refine tt_if (fun c116 => ?_) (fun c116 => ?_)
                                · have wc116 : (0 : Int) = (0 : Int) := c_eq c116
                                  refine tt_if (fun c117 => ?_) (fun c117 => ?_)
                                  · have wc117 : v1.toInt = (2 : Int) := c_eq c117
                                    refine tt_if (fun c118 => ?_) (fun c118 => ?_)
                                    · have wc118 : (0 : Int) ≤ q33.toInt := c_le c118
                                      try unfold fM_readLines_205
                                      refine tt_if (fun c119 => ?_) (fun c119 => ?_)
                                      · have wc119 : (0 : Int) = (0 : Int) := c_eq c119
                                        try unfold fM_fail
                                        try unfold fM_fail_0
                                        refine tt_bif (fun c120 => ?_) (fun c120 => ?_)
                                        · have wc120 : (q16.2.1 5).toInt = (0 : Int) := c_eq c120
                                          refine tt_bko ?_
                                          have k121 := ok_fp (k := 5) (v := 1) k_q16_2 (iv_w (a := 0) (b := 4) (by decide) (by decide) (show (1 : Int) ≤ (1 : Int32).toInt ∧ (1 : Int32).toInt ≤ 1 by decide))
                                          have r122 := fr_fp (k := 5) (v := 1) r_q16_2 rfl
                                          refine tt_bko ?_
                                          have k123 := ok_fp (k := 6) (v := v2) k121 (iv_top v2)
                                          have r124 := fr_fp (k := 6) (v := v2) r122 rfl
                                          try unfold fM_fail_17
                                          refine tt_bs ?_
                                          try unfold fM_readLines_216
                                          refine tt_kv (P := fun z => ((1 : Int) ≤ z.toInt ∧ z.toInt ≤ 1601) ∧ z.toInt = q16.1.toInt + 1) ⟨iv_add i_q16 (show (1 : Int) ≤ (1 : Int32).toInt ∧ (1 : Int32).toInt ≤ 1 by decide) (by decide) (by decide) (by decide) (by decide), iq_add i_q16 (show (1 : Int) ≤ (1 : Int32).toInt ∧ (1 : Int32).toInt ≤ 1 by decide) (by decide) (by decide)⟩ (fun x125 qi126 => ?_)
                                          obtain ⟨i126, ei126⟩ := qi126
                                          refine tt_kv (P := fun z => ((-2147483648) : Int) ≤ z.toInt ∧ z.toInt ≤ 2147483647) (iv_top _) (fun x127 i128 => ?_)
                                          exact H _ _ _ _ k123 r124 (iv_w (a := 0) (b := 3) (by decide) (by decide) i97) (iv_w (a := 0) (b := 1601) (by decide) (by decide) i126) f_q16_2_0 (iv_w (a := 0) (b := 2) (by decide) (by decide) (show (1 : Int) ≤ (1 : Int32).toInt ∧ (1 : Int32).toInt ≤ 1 by decide)) f_q16_2_95 u17 u18 (show 1602 - x125.toInt < (n : Int) by omega)
                                        · have wc120 : ¬ (q16.2.1 5).toInt = (0 : Int) := c_ne c120
                                          exact (dd_ne c120 f_q16_2_5 (show (0 : Int) ≤ (0 : Int32).toInt ∧ (0 : Int32).toInt ≤ 0 by decide)).elim
                                      · have wc119 : ¬ (0 : Int) = (0 : Int) := c_ne c119
                                        exact (dd_ne c119 (show (0 : Int) ≤ (0 : Int32).toInt ∧ (0 : Int32).toInt ≤ 0 by decide) (show (0 : Int) ≤ (0 : Int32).toInt ∧ (0 : Int32).toInt ≤ 0 by decide)).elim
                                    · have wc118 : q33.toInt < (0 : Int) := c_nle c118
                                      exact (dd_nle c118 i108 (show (0 : Int) ≤ (0 : Int32).toInt ∧ (0 : Int32).toInt ≤ 0 by decide) (by decide)).elim
                                  · have wc117 : ¬ v1.toInt = (2 : Int) := c_ne c117
                                    exact (dd_ne c117 i97 (show (2 : Int) ≤ (2 : Int32).toInt ∧ (2 : Int32).toInt ≤ 2 by decide)).elim
                                · have wc116 : ¬ (0 : Int) = (0 : Int) := c_ne c116
                                  exact (dd_ne c116 (show (0 : Int) ≤ (0 : Int32).toInt ∧ (0 : Int32).toInt ≤ 0 by decide) (show (0 : Int) ≤ (0 : Int32).toInt ∧ (0 : Int32).toInt ≤ 0 by decide)).elim
                            · have wc107 : ¬ q33.toInt = (3 : Int) := c_ne c107
                              have i129 : ((-1) : Int) ≤ q33.toInt ∧ q33.toInt ≤ 2 := nr_nelb c107 i_q33 (show (3 : Int) ≤ (3 : Int32).toInt ∧ (3 : Int32).toInt ≤ 3 by decide) (by decide) (by decide)
                              try unfold fM_readLines_182
                              refine tt_if (fun c130 => ?_) (fun c130 => ?_)
                              · have wc130 : (0 : Int) = (0 : Int) := c_eq c130
                                refine tt_if (fun c131 => ?_) (fun c131 => ?_)
                                · have wc131 : v1.toInt = (2 : Int) := c_eq c131
                                  refine tt_if (fun c132 => ?_) (fun c132 => ?_)
                                  · have wc132 : (0 : Int) ≤ q33.toInt := c_le c132
                                    have i133 : (0 : Int) ≤ q33.toInt ∧ q33.toInt ≤ 2 := nr_ler c132 (show (0 : Int) ≤ (0 : Int32).toInt ∧ (0 : Int32).toInt ≤ 0 by decide) i129 (by decide) (by decide)
                                    try unfold fM_readLines_205
                                    refine tt_if (fun c134 => ?_) (fun c134 => ?_)
                                    · have wc134 : (0 : Int) = (0 : Int) := c_eq c134
                                      try unfold fM_fail
                                      try unfold fM_fail_0
                                      refine tt_bif (fun c135 => ?_) (fun c135 => ?_)
                                      · have wc135 : (q16.2.1 5).toInt = (0 : Int) := c_eq c135
                                        refine tt_bko ?_
                                        have k136 := ok_fp (k := 5) (v := 1) k_q16_2 (iv_w (a := 0) (b := 4) (by decide) (by decide) (show (1 : Int) ≤ (1 : Int32).toInt ∧ (1 : Int32).toInt ≤ 1 by decide))
                                        have r137 := fr_fp (k := 5) (v := 1) r_q16_2 rfl
                                        refine tt_bko ?_
                                        have k138 := ok_fp (k := 6) (v := v2) k136 (iv_top v2)
                                        have r139 := fr_fp (k := 6) (v := v2) r137 rfl
                                        try unfold fM_fail_17
                                        refine tt_bs ?_
                                        try unfold fM_readLines_216
                                        refine tt_kv (P := fun z => ((1 : Int) ≤ z.toInt ∧ z.toInt ≤ 1601) ∧ z.toInt = q16.1.toInt + 1) ⟨iv_add i_q16 (show (1 : Int) ≤ (1 : Int32).toInt ∧ (1 : Int32).toInt ≤ 1 by decide) (by decide) (by decide) (by decide) (by decide), iq_add i_q16 (show (1 : Int) ≤ (1 : Int32).toInt ∧ (1 : Int32).toInt ≤ 1 by decide) (by decide) (by decide)⟩ (fun x140 qi141 => ?_)
                                        obtain ⟨i141, ei141⟩ := qi141
                                        refine tt_kv (P := fun z => ((-2147483648) : Int) ≤ z.toInt ∧ z.toInt ≤ 2147483647) (iv_top _) (fun x142 i143 => ?_)
                                        exact H _ _ _ _ k138 r139 (iv_w (a := 0) (b := 3) (by decide) (by decide) i97) (iv_w (a := 0) (b := 1601) (by decide) (by decide) i141) f_q16_2_0 (iv_w (a := 0) (b := 2) (by decide) (by decide) (show (1 : Int) ≤ (1 : Int32).toInt ∧ (1 : Int32).toInt ≤ 1 by decide)) f_q16_2_95 u17 u18 (show 1602 - x140.toInt < (n : Int) by omega)
                                      · have wc135 : ¬ (q16.2.1 5).toInt = (0 : Int) := c_ne c135
                                        exact (dd_ne c135 f_q16_2_5 (show (0 : Int) ≤ (0 : Int32).toInt ∧ (0 : Int32).toInt ≤ 0 by decide)).elim
                                    · have wc134 : ¬ (0 : Int) = (0 : Int) := c_ne c134
                                      exact (dd_ne c134 (show (0 : Int) ≤ (0 : Int32).toInt ∧ (0 : Int32).toInt ≤ 0 by decide) (show (0 : Int) ≤ (0 : Int32).toInt ∧ (0 : Int32).toInt ≤ 0 by decide)).elim
                                  · have wc132 : q33.toInt < (0 : Int) := c_nle c132
                                    have i144 : ((-1) : Int) ≤ q33.toInt ∧ q33.toInt ≤ (-1) := nr_nlel c132 i129 (show (0 : Int) ≤ (0 : Int32).toInt ∧ (0 : Int32).toInt ≤ 0 by decide) (by decide) (by decide)
                                    refine tt_b (sM_rowLine _ _ k_q16_2 f_q16_2_0 f_q16_2_5 i32 f_q16_2_95 u18) (fun q145 hq145 => ?_)
                                    obtain ⟨k_q145, n_q145, f_q145_5, zq145_0, -⟩ := hq145
                                    have r_q145 := fr_tr r_q16_2 n_q145 rfl rfl rfl
                                    have f_q145_0 : (0 : Int) ≤ (q145.1 0).toInt ∧ (q145.1 0).toInt ≤ 0 := by rw [n_q145.1 0 rfl]; exact f_q16_2_0
                                    have f_q145_7 : (1 : Int) ≤ (q145.1 7).toInt ∧ (q145.1 7).toInt ≤ 801 := by rw [n_q145.1 7 rfl]; exact i32
                                    have f_q145_95 : (0 : Int) ≤ (q145.1 95).toInt ∧ (q145.1 95).toInt ≤ 0 := by rw [n_q145.1 95 rfl]; exact f_q16_2_95
                                    have e_q145_2 : (q145.1 2).toInt = (q16.2.1 2).toInt := congrArg Int32.toInt (n_q145.1 2 rfl)
                                    have g_q145_2 : (0 : Int) ≤ (q145.1 2).toInt ∧ (q145.1 2).toInt ≤ 1600 := k_q145.1 2
                                    have u146 : Tn (q145.1 17) (q145.2.1 19) := by rw [n_q145.1 17 rfl, n_q145.2.1 19 rfl]; exact u17
                                    try unfold fM_readLines_216
                                    refine tt_kv (P := fun z => ((1 : Int) ≤ z.toInt ∧ z.toInt ≤ 1601) ∧ z.toInt = q16.1.toInt + 1) ⟨iv_add i_q16 (show (1 : Int) ≤ (1 : Int32).toInt ∧ (1 : Int32).toInt ≤ 1 by decide) (by decide) (by decide) (by decide) (by decide), iq_add i_q16 (show (1 : Int) ≤ (1 : Int32).toInt ∧ (1 : Int32).toInt ≤ 1 by decide) (by decide) (by decide)⟩ (fun x147 qi148 => ?_)
                                    obtain ⟨i148, ei148⟩ := qi148
                                    refine tt_kv (P := fun z => ((-2147483648) : Int) ≤ z.toInt ∧ z.toInt ≤ 2147483647) (iv_top _) (fun x149 i150 => ?_)
                                    exact H _ _ _ _ k_q145 r_q145 (iv_w (a := 0) (b := 3) (by decide) (by decide) i97) (iv_w (a := 0) (b := 1601) (by decide) (by decide) i148) f_q145_0 (iv_w (a := 0) (b := 2) (by decide) (by decide) f_q145_5) f_q145_95 u146 zq145_0 (show 1602 - x147.toInt < (n : Int) by omega)
                                · have wc131 : ¬ v1.toInt = (2 : Int) := c_ne c131
                                  exact (dd_ne c131 i97 (show (2 : Int) ≤ (2 : Int32).toInt ∧ (2 : Int32).toInt ≤ 2 by decide)).elim
                              · have wc130 : ¬ (0 : Int) = (0 : Int) := c_ne c130
                                exact (dd_ne c130 (show (0 : Int) ≤ (0 : Int32).toInt ∧ (0 : Int32).toInt ≤ 0 by decide) (show (0 : Int) ≤ (0 : Int32).toInt ∧ (0 : Int32).toInt ≤ 0 by decide)).elim
                          · have wc106 : ¬ v1.toInt = (2 : Int) := c_ne c106
                            exact (dd_ne c106 i97 (show (2 : Int) ≤ (2 : Int32).toInt ∧ (2 : Int32).toInt ≤ 2 by decide)).elim
                        · have wc105 : ¬ (0 : Int) = (0 : Int) := c_ne c105
                          exact (dd_ne c105 (show (0 : Int) ≤ (0 : Int32).toInt ∧ (0 : Int32).toInt ≤ 0 by decide) (show (0 : Int) ≤ (0 : Int32).toInt ∧ (0 : Int32).toInt ≤ 0 by decide)).elim
                    · have wc96 : ¬ v1.toInt = (2 : Int) := c_ne c96
                      have i151 : (3 : Int) ≤ v1.toInt ∧ v1.toInt ≤ 3 := nr_nela c96 i94 (show (2 : Int) ≤ (2 : Int32).toInt ∧ (2 : Int32).toInt ≤ 2 by decide) (by decide) (by decide)
                      try unfold fM_readLines_153
                      refine tt_if (fun c152 => ?_) (fun c152 => ?_)
                      · have wc152 : (0 : Int) = (0 : Int) := c_eq c152
                        refine tt_if (fun c153 => ?_) (fun c153 => ?_)
                        · have wc153 : v1.toInt = (2 : Int) := c_eq c153
                          exact (dd_eq c153 i151 (show (2 : Int) ≤ (2 : Int32).toInt ∧ (2 : Int32).toInt ≤ 2 by decide) (by decide)).elim
                        · have wc153 : ¬ v1.toInt = (2 : Int) := c_ne c153
                          try unfold fM_readLines_182
                          refine tt_if (fun c154 => ?_) (fun c154 => ?_)
                          · have wc154 : (0 : Int) = (0 : Int) := c_eq c154
                            refine tt_if (fun c155 => ?_) (fun c155 => ?_)
                            · have wc155 : v1.toInt = (2 : Int) := c_eq c155
                              exact (dd_eq c155 i151 (show (2 : Int) ≤ (2 : Int32).toInt ∧ (2 : Int32).toInt ≤ 2 by decide) (by decide)).elim
                            · have wc155 : ¬ v1.toInt = (2 : Int) := c_ne c155
                              try unfold fM_readLines_205
                              refine tt_if (fun c156 => ?_) (fun c156 => ?_)
                              · have wc156 : (0 : Int) = (0 : Int) := c_eq c156
                                try unfold fM_fail
                                try unfold fM_fail_0
                                refine tt_bif (fun c157 => ?_) (fun c157 => ?_)
                                · have wc157 : (q16.2.1 5).toInt = (0 : Int) := c_eq c157
                                  refine tt_bko ?_
                                  have k158 := ok_fp (k := 5) (v := 1) k_q16_2 (iv_w (a := 0) (b := 4) (by decide) (by decide) (show (1 : Int) ≤ (1 : Int32).toInt ∧ (1 : Int32).toInt ≤ 1 by decide))
                                  have r159 := fr_fp (k := 5) (v := 1) r_q16_2 rfl
                                  refine tt_bko ?_
                                  have k160 := ok_fp (k := 6) (v := v2) k158 (iv_top v2)
                                  have r161 := fr_fp (k := 6) (v := v2) r159 rfl
                                  try unfold fM_fail_17
                                  refine tt_bs ?_
                                  try unfold fM_readLines_216
                                  refine tt_kv (P := fun z => ((1 : Int) ≤ z.toInt ∧ z.toInt ≤ 1601) ∧ z.toInt = q16.1.toInt + 1) ⟨iv_add i_q16 (show (1 : Int) ≤ (1 : Int32).toInt ∧ (1 : Int32).toInt ≤ 1 by decide) (by decide) (by decide) (by decide) (by decide), iq_add i_q16 (show (1 : Int) ≤ (1 : Int32).toInt ∧ (1 : Int32).toInt ≤ 1 by decide) (by decide) (by decide)⟩ (fun x162 qi163 => ?_)
                                  obtain ⟨i163, ei163⟩ := qi163
                                  refine tt_kv (P := fun z => ((-2147483648) : Int) ≤ z.toInt ∧ z.toInt ≤ 2147483647) (iv_top _) (fun x164 i165 => ?_)
                                  exact H _ _ _ _ k160 r161 (iv_w (a := 0) (b := 3) (by decide) (by decide) i151) (iv_w (a := 0) (b := 1601) (by decide) (by decide) i163) f_q16_2_0 (iv_w (a := 0) (b := 2) (by decide) (by decide) (show (1 : Int) ≤ (1 : Int32).toInt ∧ (1 : Int32).toInt ≤ 1 by decide)) f_q16_2_95 u17 u18 (show 1602 - x162.toInt < (n : Int) by omega)
                                · have wc157 : ¬ (q16.2.1 5).toInt = (0 : Int) := c_ne c157
                                  exact (dd_ne c157 f_q16_2_5 (show (0 : Int) ≤ (0 : Int32).toInt ∧ (0 : Int32).toInt ≤ 0 by decide)).elim
                              · have wc156 : ¬ (0 : Int) = (0 : Int) := c_ne c156
                                exact (dd_ne c156 (show (0 : Int) ≤ (0 : Int32).toInt ∧ (0 : Int32).toInt ≤ 0 by decide) (show (0 : Int) ≤ (0 : Int32).toInt ∧ (0 : Int32).toInt ≤ 0 by decide)).elim
                          · have wc154 : ¬ (0 : Int) = (0 : Int) := c_ne c154
                            exact (dd_ne c154 (show (0 : Int) ≤ (0 : Int32).toInt ∧ (0 : Int32).toInt ≤ 0 by decide) (show (0 : Int) ≤ (0 : Int32).toInt ∧ (0 : Int32).toInt ≤ 0 by decide)).elim
                      · have wc152 : ¬ (0 : Int) = (0 : Int) := c_ne c152
                        exact (dd_ne c152 (show (0 : Int) ≤ (0 : Int32).toInt ∧ (0 : Int32).toInt ≤ 0 by decide) (show (0 : Int) ≤ (0 : Int32).toInt ∧ (0 : Int32).toInt ≤ 0 by decide)).elim
                  · have wc95 : ¬ (0 : Int) = (0 : Int) := c_ne c95
                    exact (dd_ne c95 (show (0 : Int) ≤ (0 : Int32).toInt ∧ (0 : Int32).toInt ≤ 0 by decide) (show (0 : Int) ≤ (0 : Int32).toInt ∧ (0 : Int32).toInt ≤ 0 by decide)).elim
              · have wc66 : ¬ (0 : Int) = (0 : Int) := c_ne c66
                exact (dd_ne c66 (show (0 : Int) ≤ (0 : Int32).toInt ∧ (0 : Int32).toInt ≤ 0 by decide) (show (0 : Int) ≤ (0 : Int32).toInt ∧ (0 : Int32).toInt ≤ 0 by decide)).elim
          · have wc35 : ¬ (0 : Int) = (0 : Int) := c_ne c35
            exact (dd_ne c35 (show (0 : Int) ≤ (0 : Int32).toInt ∧ (0 : Int32).toInt ≤ 0 by decide) (show (0 : Int) ≤ (0 : Int32).toInt ∧ (0 : Int32).toInt ≤ 0 by decide)).elim
    · have wc14 : ¬ (o0.1 5).toInt = (0 : Int) := c_ne c14
      have i166 : (1 : Int) ≤ (o0.1 5).toInt ∧ (o0.1 5).toInt ≤ 2 := nr_nela c14 f_o0_5 (show (0 : Int) ≤ (0 : Int32).toInt ∧ (0 : Int32).toInt ≤ 0 by decide) (by decide) (by decide)
      try unfold fM_readLines_227
      refine tt_if (fun c167 => ?_) (fun c167 => ?_)
      · have wc167 : (3 : Int) ≤ v1.toInt := c_le c167
        have i168 : (3 : Int) ≤ v1.toInt ∧ v1.toInt ≤ 3 := nr_ler c167 (show (3 : Int) ≤ (3 : Int32).toInt ∧ (3 : Int32).toInt ≤ 3 by decide) i_v1 (by decide) (by decide)
        try unfold fM_readLines_238
        exact tt_some ⟨k_o0, r_o0, (iv_w (a := 0) (b := 2) (by decide) (by decide) i166), x_0, x_1, trivial⟩
      · have wc167 : v1.toInt < (3 : Int) := c_nle c167
        have i169 : (0 : Int) ≤ v1.toInt ∧ v1.toInt ≤ 2 := nr_nlel c167 i_v1 (show (3 : Int) ≤ (3 : Int32).toInt ∧ (3 : Int32).toInt ≤ 3 by decide) (by decide) (by decide)
        try unfold fM_fail
        try unfold fM_fail_0
        refine tt_bif (fun c170 => ?_) (fun c170 => ?_)
        · have wc170 : (o0.1 5).toInt = (0 : Int) := c_eq c170
          exact (dd_eq c170 i166 (show (0 : Int) ≤ (0 : Int32).toInt ∧ (0 : Int32).toInt ≤ 0 by decide) (by decide)).elim
        · have wc170 : ¬ (o0.1 5).toInt = (0 : Int) := c_ne c170
          try unfold fM_fail_17
          refine tt_bs ?_
          try unfold fM_readLines_238
          exact tt_some ⟨k_o0, r_o0, (iv_w (a := 0) (b := 2) (by decide) (by decide) i166), x_0, x_1, trivial⟩
set_option maxHeartbeats 4000000 in
set_option maxRecDepth 100000 in
theorem hM_readLines (yo0 : cf_O) : ∀ n, HM_readLines yo0 n := by
  intro n
  induction n with
  | zero => exact (fun v1 v2 v3 o0 k_o0 r_o0 i_v1 i_v3 f_o0_0 f_o0_5 f_o0_95 x_0 x_1 hm => by exact absurd (show 1602 - v3.toInt < (0 : Int) from hm) (by omega))
  | succ n ih => exact (fun v1 v2 v3 o0 k_o0 r_o0 i_v1 i_v3 f_o0_0 f_o0_5 f_o0_95 x_0 x_1 hm => tM_readLines_26 ih v1 v2 v3 o0 k_o0 r_o0 i_v1 i_v3 f_o0_0 f_o0_5 f_o0_95 x_0 x_1 (by omega))
set_option maxHeartbeats 4000000 in
set_option maxRecDepth 100000 in
theorem sM_readLines (o0 : cf_O) (k_o0 : okO I_M o0) (f_o0_0 : (0 : Int) ≤ (o0.1 0).toInt ∧ (o0.1 0).toInt ≤ 0) (f_o0_95 : (0 : Int) ≤ (o0.1 95).toInt ∧ (o0.1 95).toInt ≤ 0) (x_0 : Rf (o0.2.1 22) (o0.2.1 23) (o0.2.1 19)) : tt (fM_readLines o0) (QM_readLines o0) := by
  have H := hM_readLines o0 cfFU
  have hm : (2000 : Int) ≤ (cfFU : Nat) := by decide
  have r_o0 : Fr (fr_M [5, 6, 7, 10, 13, 16, 17] [8, 9, 11, 12, 14, 15, 18, 19, 20, 21, 22, 23, 24] []) o0 o0 := fr_rfl
  unfold fM_readLines fM_readLines_0
  have g_o0_2 : (0 : Int) ≤ (o0.1 2).toInt ∧ (o0.1 2).toInt ≤ 1600 := k_o0.1 2
  refine tt_ko ?_
  have k1 := ok_fp (k := 5) (v := 0) k_o0 (iv_w (a := 0) (b := 4) (by decide) (by decide) (show (0 : Int) ≤ (0 : Int32).toInt ∧ (0 : Int32).toInt ≤ 0 by decide))
  have r2 := fr_fp (k := 5) (v := 0) r_o0 rfl
  refine tt_ko ?_
  have k3 := ok_fp (k := 6) (v := (-1)) k1 (iv_w (a := (-2147483648)) (b := 2147483647) (by decide) (by decide) (show ((-1) : Int) ≤ ((-1) : Int32).toInt ∧ ((-1) : Int32).toInt ≤ (-1) by decide))
  have r4 := fr_fp (k := 6) (v := (-1)) r2 rfl
  refine tt_ko ?_
  have k5 := ok_fp (k := 10) (v := 0) k3 (iv_w (a := 0) (b := 8) (by decide) (by decide) (show (0 : Int) ≤ (0 : Int32).toInt ∧ (0 : Int32).toInt ≤ 0 by decide))
  have r6 := fr_fp (k := 10) (v := 0) r4 rfl
  refine tt_ko ?_
  have k7 := ok_fp (k := 17) (v := 0) k5 (iv_w (a := 0) (b := 30) (by decide) (by decide) (show (0 : Int) ≤ (0 : Int32).toInt ∧ (0 : Int32).toInt ≤ 0 by decide))
  have r8 := fr_fp (k := 17) (v := 0) r6 rfl
  have p9 : Tn (0 : Int32) (o0.2.1 19) := by exact Tn_0 _
  exact H _ _ _ _ k7 r8 (iv_w (a := 0) (b := 3) (by decide) (by decide) (show (0 : Int) ≤ (0 : Int32).toInt ∧ (0 : Int32).toInt ≤ 0 by decide)) (iv_w (a := 0) (b := 1601) (by decide) (by decide) (show (0 : Int) ≤ (0 : Int32).toInt ∧ (0 : Int32).toInt ≤ 0 by decide)) f_o0_0 (iv_w (a := 0) (b := 2) (by decide) (by decide) (show (0 : Int) ≤ (0 : Int32).toInt ∧ (0 : Int32).toInt ≤ 0 by decide)) f_o0_95 p9 x_0 (show 1602 - 0 < ((cfFU : Nat) : Int) by omega)
def QM_link (o0 : cf_O) (r : (cf_O)) : Prop := (okO I_M r) ∧ (Fr (fr_M [5, 6] [25] []) o0 r) ∧ ((0 : Int) ≤ (r.1 5).toInt ∧ (r.1 5).toInt ≤ 3) ∧ (Tn (r.1 17) (r.2.1 19)) ∧ (Rf (r.2.1 22) (r.2.1 23) (r.2.1 19)) ∧ (Gv (r.1 17).toInt (r.2.1 25) (r.2.1 19)) ∧ (Gi (r.1 17).toInt (r.1 10).toInt (r.2.1 25) (r.2.1 19)) ∧ True
def HM_link (yo0 : cf_O) (n : Nat) : Prop := (∀ (v1 : Int32) (v2 : Int32) (o0 : cf_O), (okO I_M o0) → (Fr (fr_M [5, 6] [25] []) yo0 o0) → (((-1) : Int) ≤ v2.toInt ∧ v2.toInt ≤ 5) → ((0 : Int) ≤ (o0.1 0).toInt ∧ (o0.1 0).toInt ≤ 0) → ((0 : Int) ≤ (o0.1 5).toInt ∧ (o0.1 5).toInt ≤ 0) → ((0 : Int) ≤ (o0.1 95).toInt ∧ (o0.1 95).toInt ≤ 0) → (Tn (o0.1 17) (o0.2.1 19)) → (Rf (o0.2.1 22) (o0.2.1 23) (o0.2.1 19)) → 422 + (v2.toInt - (-1)) * 2 < (n : Int) → tt (gM_link n 0 v1 v2 0 o0) (QM_link yo0)) ∧ (∀ (v1 : Int32) (v2 : Int32) (o0 : cf_O), (okO I_M o0) → (Fr (fr_M [5, 6] [25] []) yo0 o0) → ((0 : Int) ≤ v2.toInt ∧ v2.toInt ≤ 30) → ((0 : Int) ≤ (o0.1 0).toInt ∧ (o0.1 0).toInt ≤ 0) → ((0 : Int) ≤ (o0.1 5).toInt ∧ (o0.1 5).toInt ≤ 0) → ((0 : Int) ≤ (o0.1 95).toInt ∧ (o0.1 95).toInt ≤ 0) → (Tn (o0.1 17) (o0.2.1 19)) → (Rf (o0.2.1 22) (o0.2.1 23) (o0.2.1 19)) → (Gp v2.toInt 0 (o0.1 17).toInt (o0.2.1 25) (o0.2.1 19)) → (Gj v2.toInt 0 (o0.1 10).toInt (o0.2.1 25) (o0.2.1 19)) → 0 + (30 - v2.toInt) * 14 < (n : Int) → tt (gM_link n 1 v1 v2 0 o0) (QM_link yo0)) ∧ (∀ (v1 : Int32) (v2 : Int32) (v3 : Int32) (o0 : cf_O), (okO I_M o0) → (Fr (fr_M [5, 6] [25] []) yo0 o0) → ((0 : Int) ≤ v2.toInt ∧ v2.toInt ≤ 29) → ((0 : Int) ≤ v3.toInt ∧ v3.toInt ≤ 5) → ((0 : Int) ≤ (o0.1 0).toInt ∧ (o0.1 0).toInt ≤ 0) → ((0 : Int) ≤ (o0.1 5).toInt ∧ (o0.1 5).toInt ≤ 0) → ((1 : Int) ≤ (o0.1 17).toInt ∧ (o0.1 17).toInt ≤ 30) → ((0 : Int) ≤ (o0.1 95).toInt ∧ (o0.1 95).toInt ≤ 0) → (Tn (o0.1 17) (o0.2.1 19)) → (Rf (o0.2.1 22) (o0.2.1 23) (o0.2.1 19)) → (Gp v2.toInt v3.toInt (o0.1 17).toInt (o0.2.1 25) (o0.2.1 19)) → (Gj v2.toInt v3.toInt (o0.1 10).toInt (o0.2.1 25) (o0.2.1 19)) → 0 + (30 - v2.toInt - 1) * 14 + 1 + (5 - v3.toInt) * 2 < (n : Int) → tt (gM_link n 2 v1 v2 v3 o0) (QM_link yo0))
set_option maxHeartbeats 4000000 in
set_option maxRecDepth 100000 in
theorem tM_link_59 {yo0 : cf_O} {n : Nat} (H : HM_link yo0 n) (v1 : Int32) (v2 : Int32) (v3 : Int32) (o0 : cf_O) (k_o0 : okO I_M o0) (r_o0 : Fr (fr_M [5, 6] [25] []) yo0 o0) (i_v2 : (0 : Int) ≤ v2.toInt ∧ v2.toInt ≤ 29) (i_v3 : (0 : Int) ≤ v3.toInt ∧ v3.toInt ≤ 5) (f_o0_0 : (0 : Int) ≤ (o0.1 0).toInt ∧ (o0.1 0).toInt ≤ 0) (f_o0_5 : (0 : Int) ≤ (o0.1 5).toInt ∧ (o0.1 5).toInt ≤ 0) (f_o0_17 : (1 : Int) ≤ (o0.1 17).toInt ∧ (o0.1 17).toInt ≤ 30) (f_o0_95 : (0 : Int) ≤ (o0.1 95).toInt ∧ (o0.1 95).toInt ≤ 0) (x_0 : Tn (o0.1 17) (o0.2.1 19)) (x_1 : Rf (o0.2.1 22) (o0.2.1 23) (o0.2.1 19)) (x_2 : Gp v2.toInt v3.toInt (o0.1 17).toInt (o0.2.1 25) (o0.2.1 19)) (x_3 : Gj v2.toInt v3.toInt (o0.1 10).toInt (o0.2.1 25) (o0.2.1 19)) (hm : 0 + (30 - v2.toInt - 1) * 14 + 1 + (5 - v3.toInt) * 2 ≤ (n : Int)) : tt (fM_link_59 (gM_link n) v1 v2 v3 o0) (QM_link yo0) := by
  unfold fM_link_59
  have i_v1 := iv_top v1
  have g_o0_10 : (0 : Int) ≤ (o0.1 10).toInt ∧ (o0.1 10).toInt ≤ 8 := k_o0.1 10
  have ey_o0_10 : (o0.1 10).toInt = (yo0.1 10).toInt := congrArg Int32.toInt (r_o0.1 10 rfl)
  have ey_o0_17 : (o0.1 17).toInt = (yo0.1 17).toInt := congrArg Int32.toInt (r_o0.1 17 rfl)
  refine tt_kv (P := fun z => ((1 : Int) ≤ z.toInt ∧ z.toInt ≤ 6) ∧ z.toInt = v3.toInt + 1) ⟨iv_add i_v3 (show (1 : Int) ≤ (1 : Int32).toInt ∧ (1 : Int32).toInt ≤ 1 by decide) (by decide) (by decide) (by decide) (by decide), iq_add i_v3 (show (1 : Int) ≤ (1 : Int32).toInt ∧ (1 : Int32).toInt ≤ 1 by decide) (by decide) (by decide)⟩ (fun x1 qi2 => ?_)
  obtain ⟨i2, ei2⟩ := qi2
  refine tt_n (ix_ok i_v2 (by decide) (by decide)) ?_
  refine tt_kv (P := fun z => ((0 : Int) ≤ z.toInt ∧ z.toInt ≤ 6) ∧ z.toInt = (o0.2.1 19 v2.toNatClampNeg).toInt) ⟨(k_o0.2 19 _), rfl⟩ (fun x3 qi4 => ?_)
  obtain ⟨i4, ei4⟩ := qi4
  refine tt_if (fun c5 => ?_) (fun c5 => ?_)
  · have wc5 : x3.toInt ≤ x1.toInt := c_le c5
    refine tt_kv (P := fun z => ((1 : Int) ≤ z.toInt ∧ z.toInt ≤ 30) ∧ z.toInt = v2.toInt + 1) ⟨iv_add i_v2 (show (1 : Int) ≤ (1 : Int32).toInt ∧ (1 : Int32).toInt ≤ 1 by decide) (by decide) (by decide) (by decide) (by decide), iq_add i_v2 (show (1 : Int) ≤ (1 : Int32).toInt ∧ (1 : Int32).toInt ≤ 1 by decide) (by decide) (by decide)⟩ (fun x6 qi7 => ?_)
    obtain ⟨i7, ei7⟩ := qi7
    have p8 : Gp x6.toInt 0 (o0.1 17).toInt (o0.2.1 25) (o0.2.1 19) := by exact Gp_n (by assumption) (show (o0.2.1 19 v2.toNatClampNeg).toInt ≤ v3.toInt + 1 by omega) (by omega) (by omega)
    have p9 : Gj x6.toInt 0 (o0.1 10).toInt (o0.2.1 25) (o0.2.1 19) := by exact Gj_n (by assumption) (show (o0.2.1 19 v2.toNatClampNeg).toInt ≤ v3.toInt + 1 by omega) (by omega) (by omega)
    exact H.2.1 _ _ _ k_o0 r_o0 (iv_w (a := 0) (b := 30) (by decide) (by decide) i7) f_o0_0 f_o0_5 f_o0_95 x_0 x_1 p8 p9 (show 0 + (30 - x6.toInt) * 14 < (n : Int) by omega)
  · have wc5 : x1.toInt < x3.toInt := c_nle c5
    have i10 : (1 : Int) ≤ x1.toInt ∧ x1.toInt ≤ 5 := nr_nlel c5 i2 i4 (by decide) (by decide)
    have i11 : (0 : Int) ≤ v3.toInt ∧ v3.toInt ≤ 4 := by omega
    have i12 : (2 : Int) ≤ x3.toInt ∧ x3.toInt ≤ 6 := nr_nler c5 i2 i4 (by decide) (by decide)
    refine tt_kv (P := fun z => ((0 : Int) ≤ z.toInt ∧ z.toInt ≤ 174) ∧ z.toInt = 6 * v2.toInt) ⟨iv_mul (show (6 : Int) ≤ (6 : Int32).toInt ∧ (6 : Int32).toInt ≤ 6 by decide) i_v2 (by decide) (by decide) (by decide) (by decide) (by decide), iq_mul (show (6 : Int) ≤ (6 : Int32).toInt ∧ (6 : Int32).toInt ≤ 6 by decide) i_v2 (by decide) (by decide) (by decide) (by decide)⟩ (fun x13 qi14 => ?_)
    obtain ⟨i14, ei14⟩ := qi14
    refine tt_kv (P := fun z => ((0 : Int) ≤ z.toInt ∧ z.toInt ≤ 178) ∧ z.toInt = x13.toInt + v3.toInt) ⟨iv_add i14 i11 (by decide) (by decide) (by decide) (by decide), iq_add i14 i11 (by decide) (by decide)⟩ (fun x15 qi16 => ?_)
    obtain ⟨i16, ei16⟩ := qi16
    refine tt_kv (P := fun z => ((0 : Int) ≤ z.toInt ∧ z.toInt ≤ 174) ∧ z.toInt = 6 * v2.toInt) ⟨iv_mul (show (6 : Int) ≤ (6 : Int32).toInt ∧ (6 : Int32).toInt ≤ 6 by decide) i_v2 (by decide) (by decide) (by decide) (by decide) (by decide), iq_mul (show (6 : Int) ≤ (6 : Int32).toInt ∧ (6 : Int32).toInt ≤ 6 by decide) i_v2 (by decide) (by decide) (by decide) (by decide)⟩ (fun x17 qi18 => ?_)
    obtain ⟨i18, ei18⟩ := qi18
    refine tt_kv (P := fun z => ((0 : Int) ≤ z.toInt ∧ z.toInt ≤ 178) ∧ z.toInt = x17.toInt + v3.toInt) ⟨iv_add i18 i11 (by decide) (by decide) (by decide) (by decide), iq_add i18 i11 (by decide) (by decide)⟩ (fun x19 qi20 => ?_)
    obtain ⟨i20, ei20⟩ := qi20
    refine tt_n (ix_ok i20 (by decide) (by decide)) ?_
    refine tt_kv (P := fun z => ((0 : Int) ≤ z.toInt ∧ z.toInt ≤ 1599) ∧ z.toInt = (o0.2.1 20 x19.toNatClampNeg).toInt) ⟨(k_o0.2 20 _), rfl⟩ (fun x21 qi22 => ?_)
    obtain ⟨i22, ei22⟩ := qi22
    refine tt_kv (P := fun z => ((0 : Int) ≤ z.toInt ∧ z.toInt ≤ 174) ∧ z.toInt = 6 * v2.toInt) ⟨iv_mul (show (6 : Int) ≤ (6 : Int32).toInt ∧ (6 : Int32).toInt ≤ 6 by decide) i_v2 (by decide) (by decide) (by decide) (by decide) (by decide), iq_mul (show (6 : Int) ≤ (6 : Int32).toInt ∧ (6 : Int32).toInt ≤ 6 by decide) i_v2 (by decide) (by decide) (by decide) (by decide)⟩ (fun x23 qi24 => ?_)
    obtain ⟨i24, ei24⟩ := qi24
    refine tt_kv (P := fun z => ((0 : Int) ≤ z.toInt ∧ z.toInt ≤ 178) ∧ z.toInt = x23.toInt + v3.toInt) ⟨iv_add i24 i11 (by decide) (by decide) (by decide) (by decide), iq_add i24 i11 (by decide) (by decide)⟩ (fun x25 qi26 => ?_)
    obtain ⟨i26, ei26⟩ := qi26
    refine tt_n (ix_ok i26 (by decide) (by decide)) ?_
    refine tt_kv (P := fun z => ((0 : Int) ≤ z.toInt ∧ z.toInt ≤ 1600) ∧ z.toInt = (o0.2.1 21 x25.toNatClampNeg).toInt) ⟨(k_o0.2 21 _), rfl⟩ (fun x27 qi28 => ?_)
    obtain ⟨i28, ei28⟩ := qi28
    refine tt_b (sM_giver _ _ _ k_o0 i22 i28 f_o0_0 f_o0_5 f_o0_95 x_0) (fun q29 hq29 => ?_)
    obtain ⟨i_q29, zq29_0, zq29_1, -⟩ := hq29
    have zq29_0 : q29.toInt ≤ 7 + (o0.1 17).toInt := zq29_0
    have zq29_1 : 8 ≤ q29.toInt ∨ q29.toInt < (o0.1 10).toInt := zq29_1
    refine tt_n (ix_ok i16 (by decide) (by decide)) ?_
    refine tt_ko ?_
    have k30 := ok_xp (k := 25) (i := x15.toNatClampNeg) (v := q29) k_o0 i_q29
    have r31 := fr_xp (k := 25) (i := x15.toNatClampNeg) (v := q29) r_o0 rfl
    refine tt_kv (P := fun z => ((0 : Int) ≤ z.toInt ∧ z.toInt ≤ 174) ∧ z.toInt = 6 * v2.toInt) ⟨iv_mul (show (6 : Int) ≤ (6 : Int32).toInt ∧ (6 : Int32).toInt ≤ 6 by decide) i_v2 (by decide) (by decide) (by decide) (by decide) (by decide), iq_mul (show (6 : Int) ≤ (6 : Int32).toInt ∧ (6 : Int32).toInt ≤ 6 by decide) i_v2 (by decide) (by decide) (by decide) (by decide)⟩ (fun x32 qi33 => ?_)
    obtain ⟨i33, ei33⟩ := qi33
    refine tt_kv (P := fun z => ((0 : Int) ≤ z.toInt ∧ z.toInt ≤ 178) ∧ z.toInt = x32.toInt + v3.toInt) ⟨iv_add i33 i11 (by decide) (by decide) (by decide) (by decide), iq_add i33 i11 (by decide) (by decide)⟩ (fun x34 qi35 => ?_)
    obtain ⟨i35, ei35⟩ := qi35
    refine tt_n (ix_ok i35 (by decide) (by decide)) ?_
    refine tt_kv (P := fun z => (((-1) : Int) ≤ z.toInt ∧ z.toInt ≤ 37) ∧ z.toInt = (upd (o0.2.1 25) (x15.toNatClampNeg) q29 x34.toNatClampNeg).toInt) ⟨(k30.2 25 _), rfl⟩ (fun x36 qi37 => ?_)
    obtain ⟨i37, ei37⟩ := qi37
    refine tt_if (fun c38 => ?_) (fun c38 => ?_)
    · have wc38 : (0 : Int) ≤ x36.toInt := c_le c38
      have i39 : (0 : Int) ≤ x36.toInt ∧ x36.toInt ≤ 37 := nr_ler c38 (show (0 : Int) ≤ (0 : Int32).toInt ∧ (0 : Int32).toInt ≤ 0 by decide) i37 (by decide) (by decide)
      try unfold fM_link_135
      try unfold fM_link_136
      refine tt_kv (P := fun z => ((1 : Int) ≤ z.toInt ∧ z.toInt ≤ 5) ∧ z.toInt = v3.toInt + 1) ⟨iv_add i11 (show (1 : Int) ≤ (1 : Int32).toInt ∧ (1 : Int32).toInt ≤ 1 by decide) (by decide) (by decide) (by decide) (by decide), iq_add i11 (show (1 : Int) ≤ (1 : Int32).toInt ∧ (1 : Int32).toInt ≤ 1 by decide) (by decide) (by decide)⟩ (fun x40 qi41 => ?_)
      obtain ⟨i41, ei41⟩ := qi41
      have p42 : Gp v2.toInt x40.toInt (o0.1 17).toInt (upd (o0.2.1 25) (x15.toNatClampNeg) q29) (o0.2.1 19) := by exact Gp_s (by assumption) (fun t => (k_o0.2 19 t).2) (by rw [tn_n]; omega) (by omega) (by omega) (by omega)
      have p43 : Gj v2.toInt x40.toInt (o0.1 10).toInt (upd (o0.2.1 25) (x15.toNatClampNeg) q29) (o0.2.1 19) := by exact Gj_s (by assumption) (fun t => (k_o0.2 19 t).2) (by rw [tn_n]; omega) (by omega) (by omega) (by omega)
      exact H.2.2 _ _ _ _ k30 r31 i_v2 (iv_w (a := 0) (b := 5) (by decide) (by decide) i41) f_o0_0 f_o0_5 f_o0_17 f_o0_95 x_0 x_1 p42 p43 (show 0 + (30 - v2.toInt - 1) * 14 + 1 + (5 - x40.toInt) * 2 < (n : Int) by omega)
    · have wc38 : x36.toInt < (0 : Int) := c_nle c38
      have i44 : ((-1) : Int) ≤ x36.toInt ∧ x36.toInt ≤ (-1) := nr_nlel c38 i37 (show (0 : Int) ≤ (0 : Int32).toInt ∧ (0 : Int32).toInt ≤ 0 by decide) (by decide) (by decide)
      refine tt_if (fun c45 => ?_) (fun c45 => ?_)
      · have wc45 : (0 : Int) ≤ v1.toInt := c_le c45
        have i46 : (0 : Int) ≤ v1.toInt ∧ v1.toInt ≤ 2147483647 := nr_ler c45 (show (0 : Int) ≤ (0 : Int32).toInt ∧ (0 : Int32).toInt ≤ 0 by decide) (iv_top v1) (by decide) (by decide)
        try unfold fM_link_135
        try unfold fM_link_136
        refine tt_kv (P := fun z => ((1 : Int) ≤ z.toInt ∧ z.toInt ≤ 5) ∧ z.toInt = v3.toInt + 1) ⟨iv_add i11 (show (1 : Int) ≤ (1 : Int32).toInt ∧ (1 : Int32).toInt ≤ 1 by decide) (by decide) (by decide) (by decide) (by decide), iq_add i11 (show (1 : Int) ≤ (1 : Int32).toInt ∧ (1 : Int32).toInt ≤ 1 by decide) (by decide) (by decide)⟩ (fun x47 qi48 => ?_)
        obtain ⟨i48, ei48⟩ := qi48
        have p49 : Gp v2.toInt x47.toInt (o0.1 17).toInt (upd (o0.2.1 25) (x15.toNatClampNeg) q29) (o0.2.1 19) := by exact Gp_s (by assumption) (fun t => (k_o0.2 19 t).2) (by rw [tn_n]; omega) (by omega) (by omega) (by omega)
        have p50 : Gj v2.toInt x47.toInt (o0.1 10).toInt (upd (o0.2.1 25) (x15.toNatClampNeg) q29) (o0.2.1 19) := by exact Gj_s (by assumption) (fun t => (k_o0.2 19 t).2) (by rw [tn_n]; omega) (by omega) (by omega) (by omega)
        exact H.2.2 _ _ _ _ k30 r31 i_v2 (iv_w (a := 0) (b := 5) (by decide) (by decide) i48) f_o0_0 f_o0_5 f_o0_17 f_o0_95 x_0 x_1 p49 p50 (show 0 + (30 - v2.toInt - 1) * 14 + 1 + (5 - x47.toInt) * 2 < (n : Int) by omega)
      · have wc45 : v1.toInt < (0 : Int) := c_nle c45
        have i51 : ((-2147483648) : Int) ≤ v1.toInt ∧ v1.toInt ≤ (-1) := nr_nlel c45 (iv_top v1) (show (0 : Int) ≤ (0 : Int32).toInt ∧ (0 : Int32).toInt ≤ 0 by decide) (by decide) (by decide)
        refine tt_n (ix_ok i_v2 (by decide) (by decide)) ?_
        refine tt_kv (P := fun z => (((-2147483648) : Int) ≤ z.toInt ∧ z.toInt ≤ 2147483647) ∧ z.toInt = (o0.2.1 18 v2.toNatClampNeg).toInt) ⟨(k30.2 18 _), rfl⟩ (fun x52 qi53 => ?_)
        obtain ⟨i53, ei53⟩ := qi53
        try unfold fM_link_136
        refine tt_kv (P := fun z => ((1 : Int) ≤ z.toInt ∧ z.toInt ≤ 5) ∧ z.toInt = v3.toInt + 1) ⟨iv_add i11 (show (1 : Int) ≤ (1 : Int32).toInt ∧ (1 : Int32).toInt ≤ 1 by decide) (by decide) (by decide) (by decide) (by decide), iq_add i11 (show (1 : Int) ≤ (1 : Int32).toInt ∧ (1 : Int32).toInt ≤ 1 by decide) (by decide) (by decide)⟩ (fun x54 qi55 => ?_)
        obtain ⟨i55, ei55⟩ := qi55
        have p56 : Gp v2.toInt x54.toInt (o0.1 17).toInt (upd (o0.2.1 25) (x15.toNatClampNeg) q29) (o0.2.1 19) := by exact Gp_s (by assumption) (fun t => (k_o0.2 19 t).2) (by rw [tn_n]; omega) (by omega) (by omega) (by omega)
        have p57 : Gj v2.toInt x54.toInt (o0.1 10).toInt (upd (o0.2.1 25) (x15.toNatClampNeg) q29) (o0.2.1 19) := by exact Gj_s (by assumption) (fun t => (k_o0.2 19 t).2) (by rw [tn_n]; omega) (by omega) (by omega) (by omega)
        exact H.2.2 _ _ _ _ k30 r31 i_v2 (iv_w (a := 0) (b := 5) (by decide) (by decide) i55) f_o0_0 f_o0_5 f_o0_17 f_o0_95 x_0 x_1 p56 p57 (show 0 + (30 - v2.toInt - 1) * 14 + 1 + (5 - x54.toInt) * 2 < (n : Int) by omega)
set_option maxHeartbeats 4000000 in
set_option maxRecDepth 100000 in
theorem tM_link_49 {yo0 : cf_O} {n : Nat} (H : HM_link yo0 n) (v1 : Int32) (v2 : Int32) (o0 : cf_O) (k_o0 : okO I_M o0) (r_o0 : Fr (fr_M [5, 6] [25] []) yo0 o0) (i_v2 : (0 : Int) ≤ v2.toInt ∧ v2.toInt ≤ 30) (f_o0_0 : (0 : Int) ≤ (o0.1 0).toInt ∧ (o0.1 0).toInt ≤ 0) (f_o0_5 : (0 : Int) ≤ (o0.1 5).toInt ∧ (o0.1 5).toInt ≤ 0) (f_o0_95 : (0 : Int) ≤ (o0.1 95).toInt ∧ (o0.1 95).toInt ≤ 0) (x_0 : Tn (o0.1 17) (o0.2.1 19)) (x_1 : Rf (o0.2.1 22) (o0.2.1 23) (o0.2.1 19)) (x_2 : Gp v2.toInt 0 (o0.1 17).toInt (o0.2.1 25) (o0.2.1 19)) (x_3 : Gj v2.toInt 0 (o0.1 10).toInt (o0.2.1 25) (o0.2.1 19)) (hm : 0 + (30 - v2.toInt) * 14 ≤ (n : Int)) : tt (fM_link_49 (gM_link n) v1 v2 o0) (QM_link yo0) := by
  unfold fM_link_49
  have i_v1 := iv_top v1
  have g_o0_10 : (0 : Int) ≤ (o0.1 10).toInt ∧ (o0.1 10).toInt ≤ 8 := k_o0.1 10
  have ey_o0_10 : (o0.1 10).toInt = (yo0.1 10).toInt := congrArg Int32.toInt (r_o0.1 10 rfl)
  have g_o0_17 : (0 : Int) ≤ (o0.1 17).toInt ∧ (o0.1 17).toInt ≤ 30 := k_o0.1 17
  have ey_o0_17 : (o0.1 17).toInt = (yo0.1 17).toInt := congrArg Int32.toInt (r_o0.1 17 rfl)
  refine tt_if (fun c1 => ?_) (fun c1 => ?_)
  · have wc1 : (o0.1 17).toInt ≤ v2.toInt := c_le c1
    refine tt_if (fun c2 => ?_) (fun c2 => ?_)
    · have wc2 : v1.toInt < (0 : Int) := c_lt c2
      have i3 : ((-2147483648) : Int) ≤ v1.toInt ∧ v1.toInt ≤ (-1) := nr_ltl c2 (iv_top v1) (show (0 : Int) ≤ (0 : Int32).toInt ∧ (0 : Int32).toInt ≤ 0 by decide) (by decide) (by decide)
      try unfold fM_link_159
      have p4 : Gv (o0.1 17).toInt (o0.2.1 25) (o0.2.1 19) := by exact Gp_e (by assumption) (by omega)
      have p5 : Gi (o0.1 17).toInt (o0.1 10).toInt (o0.2.1 25) (o0.2.1 19) := by exact Gj_e (by assumption) (by omega)
      exact tt_some ⟨k_o0, r_o0, (iv_w (a := 0) (b := 3) (by decide) (by decide) f_o0_5), x_0, x_1, p4, p5, trivial⟩
    · have wc2 : (0 : Int) ≤ v1.toInt := c_nlt c2
      have i6 : (0 : Int) ≤ v1.toInt ∧ v1.toInt ≤ 2147483647 := nr_nltr c2 (show (0 : Int) ≤ (0 : Int32).toInt ∧ (0 : Int32).toInt ≤ 0 by decide) (iv_top v1) (by decide) (by decide)
      try unfold fM_fail
      try unfold fM_fail_0
      refine tt_bif (fun c7 => ?_) (fun c7 => ?_)
      · have wc7 : (o0.1 5).toInt = (0 : Int) := c_eq c7
        refine tt_bko ?_
        have k8 := ok_fp (k := 5) (v := 3) k_o0 (iv_w (a := 0) (b := 4) (by decide) (by decide) (show (3 : Int) ≤ (3 : Int32).toInt ∧ (3 : Int32).toInt ≤ 3 by decide))
        have r9 := fr_fp (k := 5) (v := 3) r_o0 rfl
        refine tt_bko ?_
        have k10 := ok_fp (k := 6) (v := v1) k8 (iv_w (a := (-2147483648)) (b := 2147483647) (by decide) (by decide) i6)
        have r11 := fr_fp (k := 6) (v := v1) r9 rfl
        try unfold fM_fail_17
        refine tt_bs ?_
        try unfold fM_link_159
        have p12 : Gv (o0.1 17).toInt (o0.2.1 25) (o0.2.1 19) := by exact Gp_e (by assumption) (by omega)
        have p13 : Gi (o0.1 17).toInt (o0.1 10).toInt (o0.2.1 25) (o0.2.1 19) := by exact Gj_e (by assumption) (by omega)
        exact tt_some ⟨k10, r11, (iv_w (a := 0) (b := 3) (by decide) (by decide) (show (3 : Int) ≤ (3 : Int32).toInt ∧ (3 : Int32).toInt ≤ 3 by decide)), x_0, x_1, p12, p13, trivial⟩
      · have wc7 : ¬ (o0.1 5).toInt = (0 : Int) := c_ne c7
        exact (dd_ne c7 f_o0_5 (show (0 : Int) ≤ (0 : Int32).toInt ∧ (0 : Int32).toInt ≤ 0 by decide)).elim
  · have wc1 : v2.toInt < (o0.1 17).toInt := c_nle c1
    have i14 : (0 : Int) ≤ v2.toInt ∧ v2.toInt ≤ 29 := nr_nlel c1 i_v2 (k_o0.1 17) (by decide) (by decide)
    have i15 : (1 : Int) ≤ (o0.1 17).toInt ∧ (o0.1 17).toInt ≤ 30 := nr_nler c1 i_v2 (k_o0.1 17) (by decide) (by decide)
    exact H.2.2 _ _ _ _ k_o0 r_o0 i14 (iv_w (a := 0) (b := 5) (by decide) (by decide) (show (0 : Int) ≤ (0 : Int32).toInt ∧ (0 : Int32).toInt ≤ 0 by decide)) f_o0_0 f_o0_5 i15 f_o0_95 x_0 x_1 x_2 x_3 (show 0 + (30 - v2.toInt - 1) * 14 + 1 + (5 - 0) * 2 < (n : Int) by omega)
set_option maxHeartbeats 4000000 in
set_option maxRecDepth 100000 in
theorem tM_link_9 {yo0 : cf_O} {n : Nat} (H : HM_link yo0 n) (v1 : Int32) (v2 : Int32) (o0 : cf_O) (k_o0 : okO I_M o0) (r_o0 : Fr (fr_M [5, 6] [25] []) yo0 o0) (i_v2 : ((-1) : Int) ≤ v2.toInt ∧ v2.toInt ≤ 5) (f_o0_0 : (0 : Int) ≤ (o0.1 0).toInt ∧ (o0.1 0).toInt ≤ 0) (f_o0_5 : (0 : Int) ≤ (o0.1 5).toInt ∧ (o0.1 5).toInt ≤ 0) (f_o0_95 : (0 : Int) ≤ (o0.1 95).toInt ∧ (o0.1 95).toInt ≤ 0) (x_0 : Tn (o0.1 17) (o0.2.1 19)) (x_1 : Rf (o0.2.1 22) (o0.2.1 23) (o0.2.1 19)) (hm : 422 + (v2.toInt - (-1)) * 2 ≤ (n : Int)) : tt (fM_link_9 (gM_link n) v1 v2 o0) (QM_link yo0) := by
  unfold fM_link_9
  have i_v1 := iv_top v1
  have g_o0_10 : (0 : Int) ≤ (o0.1 10).toInt ∧ (o0.1 10).toInt ≤ 8 := k_o0.1 10
  have ey_o0_10 : (o0.1 10).toInt = (yo0.1 10).toInt := congrArg Int32.toInt (r_o0.1 10 rfl)
  have g_o0_17 : (0 : Int) ≤ (o0.1 17).toInt ∧ (o0.1 17).toInt ≤ 30 := k_o0.1 17
  have ey_o0_17 : (o0.1 17).toInt = (yo0.1 17).toInt := congrArg Int32.toInt (r_o0.1 17 rfl)
  refine tt_if (fun c1 => ?_) (fun c1 => ?_)
  · have wc1 : v2.toInt < (0 : Int) := c_lt c1
    have i2 : ((-1) : Int) ≤ v2.toInt ∧ v2.toInt ≤ (-1) := nr_ltl c1 i_v2 (show (0 : Int) ≤ (0 : Int32).toInt ∧ (0 : Int32).toInt ≤ 0 by decide) (by decide) (by decide)
    have p3 : Gp 0 0 (o0.1 17).toInt (o0.2.1 25) (o0.2.1 19) := by exact Gp_0 _ _ _
    have p4 : Gj 0 0 (o0.1 10).toInt (o0.2.1 25) (o0.2.1 19) := by exact Gj_0 _ _ _
    exact H.2.1 _ _ _ k_o0 r_o0 (iv_w (a := 0) (b := 30) (by decide) (by decide) (show (0 : Int) ≤ (0 : Int32).toInt ∧ (0 : Int32).toInt ≤ 0 by decide)) f_o0_0 f_o0_5 f_o0_95 x_0 x_1 p3 p4 (show 0 + (30 - 0) * 14 < (n : Int) by omega)
  · have wc1 : (0 : Int) ≤ v2.toInt := c_nlt c1
    have i5 : (0 : Int) ≤ v2.toInt ∧ v2.toInt ≤ 5 := nr_nltr c1 (show (0 : Int) ≤ (0 : Int32).toInt ∧ (0 : Int32).toInt ≤ 0 by decide) i_v2 (by decide) (by decide)
    refine tt_n (ix_ok i5 (by decide) (by decide)) ?_
    refine tt_kv (P := fun z => ((0 : Int) ≤ z.toInt ∧ z.toInt ≤ 1599) ∧ z.toInt = (o0.2.1 14 v2.toNatClampNeg).toInt) ⟨(k_o0.2 14 _), rfl⟩ (fun x6 qi7 => ?_)
    obtain ⟨i7, ei7⟩ := qi7
    refine tt_n (ix_ok i5 (by decide) (by decide)) ?_
    refine tt_kv (P := fun z => ((0 : Int) ≤ z.toInt ∧ z.toInt ≤ 1600) ∧ z.toInt = (o0.2.1 15 v2.toNatClampNeg).toInt) ⟨(k_o0.2 15 _), rfl⟩ (fun x8 qi9 => ?_)
    obtain ⟨i9, ei9⟩ := qi9
    refine tt_b (sM_giver _ _ _ k_o0 i7 i9 f_o0_0 f_o0_5 f_o0_95 x_0) (fun q10 hq10 => ?_)
    obtain ⟨i_q10, zq10_0, zq10_1, -⟩ := hq10
    have zq10_0 : q10.toInt ≤ 7 + (o0.1 17).toInt := zq10_0
    have zq10_1 : 8 ≤ q10.toInt ∨ q10.toInt < (o0.1 10).toInt := zq10_1
    refine tt_if (fun c11 => ?_) (fun c11 => ?_)
    · have wc11 : (0 : Int) ≤ q10.toInt := c_le c11
      have i12 : (0 : Int) ≤ q10.toInt ∧ q10.toInt ≤ 37 := nr_ler c11 (show (0 : Int) ≤ (0 : Int32).toInt ∧ (0 : Int32).toInt ≤ 0 by decide) i_q10 (by decide) (by decide)
      try unfold fM_link_40
      refine tt_kv (P := fun z => (((-1) : Int) ≤ z.toInt ∧ z.toInt ≤ 4) ∧ z.toInt = v2.toInt + (-1)) ⟨iv_add i5 (show ((-1) : Int) ≤ ((-1) : Int32).toInt ∧ ((-1) : Int32).toInt ≤ (-1) by decide) (by decide) (by decide) (by decide) (by decide), iq_add i5 (show ((-1) : Int) ≤ ((-1) : Int32).toInt ∧ ((-1) : Int32).toInt ≤ (-1) by decide) (by decide) (by decide)⟩ (fun x13 qi14 => ?_)
      obtain ⟨i14, ei14⟩ := qi14
      exact H.1 _ _ _ k_o0 r_o0 (iv_w (a := (-1)) (b := 5) (by decide) (by decide) i14) f_o0_0 f_o0_5 f_o0_95 x_0 x_1 (show 422 + (x13.toInt - (-1)) * 2 < (n : Int) by omega)
    · have wc11 : q10.toInt < (0 : Int) := c_nle c11
      have i15 : ((-1) : Int) ≤ q10.toInt ∧ q10.toInt ≤ (-1) := nr_nlel c11 i_q10 (show (0 : Int) ≤ (0 : Int32).toInt ∧ (0 : Int32).toInt ≤ 0 by decide) (by decide) (by decide)
      try unfold fM_link_40
      refine tt_kv (P := fun z => (((-1) : Int) ≤ z.toInt ∧ z.toInt ≤ 4) ∧ z.toInt = v2.toInt + (-1)) ⟨iv_add i5 (show ((-1) : Int) ≤ ((-1) : Int32).toInt ∧ ((-1) : Int32).toInt ≤ (-1) by decide) (by decide) (by decide) (by decide) (by decide), iq_add i5 (show ((-1) : Int) ≤ ((-1) : Int32).toInt ∧ ((-1) : Int32).toInt ≤ (-1) by decide) (by decide) (by decide)⟩ (fun x16 qi17 => ?_)
      obtain ⟨i17, ei17⟩ := qi17
      exact H.1 _ _ _ k_o0 r_o0 (iv_w (a := (-1)) (b := 5) (by decide) (by decide) i17) f_o0_0 f_o0_5 f_o0_95 x_0 x_1 (show 422 + (x16.toInt - (-1)) * 2 < (n : Int) by omega)
set_option maxHeartbeats 4000000 in
set_option maxRecDepth 100000 in
theorem hM_link (yo0 : cf_O) : ∀ n, HM_link yo0 n := by
  intro n
  induction n with
  | zero => exact ⟨(fun v1 v2 o0 k_o0 r_o0 i_v2 f_o0_0 f_o0_5 f_o0_95 x_0 x_1 hm => by exact absurd (show 422 + (v2.toInt - (-1)) * 2 < (0 : Int) from hm) (by omega)), (fun v1 v2 o0 k_o0 r_o0 i_v2 f_o0_0 f_o0_5 f_o0_95 x_0 x_1 x_2 x_3 hm => by exact absurd (show 0 + (30 - v2.toInt) * 14 < (0 : Int) from hm) (by omega)), (fun v1 v2 v3 o0 k_o0 r_o0 i_v2 i_v3 f_o0_0 f_o0_5 f_o0_17 f_o0_95 x_0 x_1 x_2 x_3 hm => by exact absurd (show 0 + (30 - v2.toInt - 1) * 14 + 1 + (5 - v3.toInt) * 2 < (0 : Int) from hm) (by omega))⟩
  | succ n ih => exact ⟨(fun v1 v2 o0 k_o0 r_o0 i_v2 f_o0_0 f_o0_5 f_o0_95 x_0 x_1 hm => tM_link_9 ih v1 v2 o0 k_o0 r_o0 i_v2 f_o0_0 f_o0_5 f_o0_95 x_0 x_1 (by omega)), (fun v1 v2 o0 k_o0 r_o0 i_v2 f_o0_0 f_o0_5 f_o0_95 x_0 x_1 x_2 x_3 hm => tM_link_49 ih v1 v2 o0 k_o0 r_o0 i_v2 f_o0_0 f_o0_5 f_o0_95 x_0 x_1 x_2 x_3 (by omega)), (fun v1 v2 v3 o0 k_o0 r_o0 i_v2 i_v3 f_o0_0 f_o0_5 f_o0_17 f_o0_95 x_0 x_1 x_2 x_3 hm => tM_link_59 ih v1 v2 v3 o0 k_o0 r_o0 i_v2 i_v3 f_o0_0 f_o0_5 f_o0_17 f_o0_95 x_0 x_1 x_2 x_3 (by omega))⟩
set_option maxHeartbeats 4000000 in
set_option maxRecDepth 100000 in
theorem sM_link (o0 : cf_O) (k_o0 : okO I_M o0) (f_o0_0 : (0 : Int) ≤ (o0.1 0).toInt ∧ (o0.1 0).toInt ≤ 0) (f_o0_5 : (0 : Int) ≤ (o0.1 5).toInt ∧ (o0.1 5).toInt ≤ 0) (f_o0_95 : (0 : Int) ≤ (o0.1 95).toInt ∧ (o0.1 95).toInt ≤ 0) (x_0 : Tn (o0.1 17) (o0.2.1 19)) (x_1 : Rf (o0.2.1 22) (o0.2.1 23) (o0.2.1 19)) : tt (fM_link o0) (QM_link o0) := by
  have H := hM_link o0 cfFU
  have hm : (437 : Int) ≤ (cfFU : Nat) := by decide
  have r_o0 : Fr (fr_M [5, 6] [25] []) o0 o0 := fr_rfl
  unfold fM_link fM_link_0
  have g_o0_10 : (0 : Int) ≤ (o0.1 10).toInt ∧ (o0.1 10).toInt ≤ 8 := k_o0.1 10
  have g_o0_17 : (0 : Int) ≤ (o0.1 17).toInt ∧ (o0.1 17).toInt ≤ 30 := k_o0.1 17
  refine tt_kv (P := fun z => (((-1) : Int) ≤ z.toInt ∧ z.toInt ≤ 5) ∧ z.toInt = (o0.1 13).toInt - 1) ⟨iv_sub (k_o0.1 13) (show (1 : Int) ≤ (1 : Int32).toInt ∧ (1 : Int32).toInt ≤ 1 by decide) (by decide) (by decide) (by decide) (by decide), iq_sub (k_o0.1 13) (show (1 : Int) ≤ (1 : Int32).toInt ∧ (1 : Int32).toInt ≤ 1 by decide) (by decide) (by decide)⟩ (fun x1 qi2 => ?_)
  obtain ⟨i2, ei2⟩ := qi2
  exact H.1 _ _ _ k_o0 r_o0 i2 f_o0_0 f_o0_5 f_o0_95 x_0 x_1 (show 422 + (x1.toInt - (-1)) * 2 < ((cfFU : Nat) : Int) by omega)
def QM_turns (v1 : Int32) (o0 : cf_O) (r : (Int32 × cf_O)) : Prop := ((0 : Int) ≤ r.1.toInt ∧ r.1.toInt ≤ 1) ∧ (okO I_M r.2) ∧ (Fr (fr_M [] [28] []) o0 r.2) ∧ (Tr r.1.toInt v1.toInt (r.2.1 17).toInt (r.2.2.1 25) (r.2.2.1 19)) ∧ True
def HM_turns (yv1 : Int32) (yo0 : cf_O) (n : Nat) : Prop := (∀ (v1 : Int32) (v2 : Int32) (o0 : cf_O), (okO I_M o0) → (Fr (fr_M [] [28] []) yo0 o0) → ((0 : Int) ≤ v1.toInt ∧ v1.toInt ≤ 29) → ((0 : Int) ≤ v2.toInt ∧ v2.toInt ≤ 30) → ((0 : Int) ≤ (o0.1 0).toInt ∧ (o0.1 0).toInt ≤ 0) → ((0 : Int) ≤ (o0.1 5).toInt ∧ (o0.1 5).toInt ≤ 0) → ((1 : Int) ≤ (o0.1 17).toInt ∧ (o0.1 17).toInt ≤ 30) → ((0 : Int) ≤ (o0.1 95).toInt ∧ (o0.1 95).toInt ≤ 0) → (v1.toInt < (o0.1 17).toInt) → (v1.toInt = yv1.toInt) → 40000 + (31 - v2.toInt) < (n : Int) → tt (gM_turns n 0 v1 v2 0 0 o0) (QM_turns yv1 yo0)) ∧ (∀ (v1 : Int32) (v2 : Int32) (o0 : cf_O), (okO I_M o0) → (Fr (fr_M [] [28] []) yo0 o0) → ((0 : Int) ≤ v1.toInt ∧ v1.toInt ≤ 29) → ((0 : Int) ≤ v2.toInt ∧ v2.toInt ≤ 1) → ((0 : Int) ≤ (o0.1 0).toInt ∧ (o0.1 0).toInt ≤ 0) → ((0 : Int) ≤ (o0.1 5).toInt ∧ (o0.1 5).toInt ≤ 0) → ((1 : Int) ≤ (o0.1 17).toInt ∧ (o0.1 17).toInt ≤ 30) → ((0 : Int) ≤ (o0.1 95).toInt ∧ (o0.1 95).toInt ≤ 0) → (v1.toInt < (o0.1 17).toInt) → (v1.toInt = yv1.toInt) → (Cl v2.toInt v1.toInt (o0.1 17).toInt 0 (o0.2.1 28) (o0.2.1 25) (o0.2.1 19)) → (nz (o0.2.1 28) 31 + v2.toInt) * 1000 < (n : Int) → tt (gM_turns n 1 v1 v2 0 0 o0) (QM_turns yv1 yo0)) ∧ (∀ (v1 : Int32) (v2 : Int32) (v3 : Int32) (o0 : cf_O), (okO I_M o0) → (Fr (fr_M [] [28] []) yo0 o0) → ((0 : Int) ≤ v1.toInt ∧ v1.toInt ≤ 29) → ((0 : Int) ≤ v2.toInt ∧ v2.toInt ≤ 1) → ((0 : Int) ≤ v3.toInt ∧ v3.toInt ≤ 30) → ((0 : Int) ≤ (o0.1 0).toInt ∧ (o0.1 0).toInt ≤ 0) → ((0 : Int) ≤ (o0.1 5).toInt ∧ (o0.1 5).toInt ≤ 0) → ((1 : Int) ≤ (o0.1 17).toInt ∧ (o0.1 17).toInt ≤ 30) → ((0 : Int) ≤ (o0.1 95).toInt ∧ (o0.1 95).toInt ≤ 0) → (v1.toInt < (o0.1 17).toInt) → (v1.toInt = yv1.toInt) → (Cl v2.toInt v1.toInt v3.toInt 0 (o0.2.1 28) (o0.2.1 25) (o0.2.1 19)) → (nz (o0.2.1 28) 31 + v2.toInt) * 1000 + 1 + (30 - v3.toInt) * 20 < (n : Int) → tt (gM_turns n 2 v1 v2 v3 0 o0) (QM_turns yv1 yo0)) ∧ (∀ (v1 : Int32) (v2 : Int32) (v3 : Int32) (v4 : Int32) (o0 : cf_O), (okO I_M o0) → (Fr (fr_M [] [28] []) yo0 o0) → ((0 : Int) ≤ v1.toInt ∧ v1.toInt ≤ 29) → ((0 : Int) ≤ v2.toInt ∧ v2.toInt ≤ 1) → ((0 : Int) ≤ v3.toInt ∧ v3.toInt ≤ 29) → ((0 : Int) ≤ v4.toInt ∧ v4.toInt ≤ 5) → ((0 : Int) ≤ (o0.1 0).toInt ∧ (o0.1 0).toInt ≤ 0) → ((0 : Int) ≤ (o0.1 5).toInt ∧ (o0.1 5).toInt ≤ 0) → ((1 : Int) ≤ (o0.1 17).toInt ∧ (o0.1 17).toInt ≤ 30) → ((0 : Int) ≤ (o0.1 95).toInt ∧ (o0.1 95).toInt ≤ 0) → (v1.toInt < (o0.1 17).toInt) → (v1.toInt = yv1.toInt) → (Cl v2.toInt v1.toInt v3.toInt v4.toInt (o0.2.1 28) (o0.2.1 25) (o0.2.1 19)) → (nz (o0.2.1 28) 31 + v2.toInt) * 1000 + 1 + (29 - v3.toInt) * 20 + 1 + (6 - v4.toInt) * 2 < (n : Int) → tt (gM_turns n 3 v1 v2 v3 v4 o0) (QM_turns yv1 yo0))
set_option maxHeartbeats 4000000 in
set_option maxRecDepth 100000 in
theorem tM_turns_44 {yv1 : Int32} {yo0 : cf_O} {n : Nat} (H : HM_turns yv1 yo0 n) (v1 : Int32) (v2 : Int32) (v3 : Int32) (v4 : Int32) (o0 : cf_O) (k_o0 : okO I_M o0) (r_o0 : Fr (fr_M [] [28] []) yo0 o0) (i_v1 : (0 : Int) ≤ v1.toInt ∧ v1.toInt ≤ 29) (i_v2 : (0 : Int) ≤ v2.toInt ∧ v2.toInt ≤ 1) (i_v3 : (0 : Int) ≤ v3.toInt ∧ v3.toInt ≤ 29) (i_v4 : (0 : Int) ≤ v4.toInt ∧ v4.toInt ≤ 5) (f_o0_0 : (0 : Int) ≤ (o0.1 0).toInt ∧ (o0.1 0).toInt ≤ 0) (f_o0_5 : (0 : Int) ≤ (o0.1 5).toInt ∧ (o0.1 5).toInt ≤ 0) (f_o0_17 : (1 : Int) ≤ (o0.1 17).toInt ∧ (o0.1 17).toInt ≤ 30) (f_o0_95 : (0 : Int) ≤ (o0.1 95).toInt ∧ (o0.1 95).toInt ≤ 0) (x_0 : v1.toInt < (o0.1 17).toInt) (x_1 : v1.toInt = yv1.toInt) (x_2 : Cl v2.toInt v1.toInt v3.toInt v4.toInt (o0.2.1 28) (o0.2.1 25) (o0.2.1 19)) (hm : (nz (o0.2.1 28) 31 + v2.toInt) * 1000 + 1 + (29 - v3.toInt) * 20 + 1 + (6 - v4.toInt) * 2 ≤ (n : Int)) : tt (fM_turns_44 (gM_turns n) v1 v2 v3 v4 o0) (QM_turns yv1 yo0) := by
  unfold fM_turns_44
  have ey_o0_17 : (o0.1 17).toInt = (yo0.1 17).toInt := congrArg Int32.toInt (r_o0.1 17 rfl)
  have t1 := nz_b (o0.2.1 28) 31
  refine tt_kv (P := fun z => ((1 : Int) ≤ z.toInt ∧ z.toInt ≤ 6) ∧ z.toInt = v4.toInt + 1) ⟨iv_add i_v4 (show (1 : Int) ≤ (1 : Int32).toInt ∧ (1 : Int32).toInt ≤ 1 by decide) (by decide) (by decide) (by decide) (by decide), iq_add i_v4 (show (1 : Int) ≤ (1 : Int32).toInt ∧ (1 : Int32).toInt ≤ 1 by decide) (by decide) (by decide)⟩ (fun x2 qi3 => ?_)
  obtain ⟨i3, ei3⟩ := qi3
  refine tt_n (ix_ok i_v3 (by decide) (by decide)) ?_
  refine tt_kv (P := fun z => ((0 : Int) ≤ z.toInt ∧ z.toInt ≤ 6) ∧ z.toInt = (o0.2.1 19 v3.toNatClampNeg).toInt) ⟨(k_o0.2 19 _), rfl⟩ (fun x4 qi5 => ?_)
  obtain ⟨i5, ei5⟩ := qi5
  refine tt_if (fun c6 => ?_) (fun c6 => ?_)
  · have wc6 : x4.toInt ≤ x2.toInt := c_le c6
    refine tt_kv (P := fun z => ((1 : Int) ≤ z.toInt ∧ z.toInt ≤ 30) ∧ z.toInt = v3.toInt + 1) ⟨iv_add i_v3 (show (1 : Int) ≤ (1 : Int32).toInt ∧ (1 : Int32).toInt ≤ 1 by decide) (by decide) (by decide) (by decide) (by decide), iq_add i_v3 (show (1 : Int) ≤ (1 : Int32).toInt ∧ (1 : Int32).toInt ≤ 1 by decide) (by decide) (by decide)⟩ (fun x7 qi8 => ?_)
    obtain ⟨i8, ei8⟩ := qi8
    have p9 : Cl v2.toInt v1.toInt x7.toInt 0 (o0.2.1 28) (o0.2.1 25) (o0.2.1 19) := by exact Cl_n (by assumption) (show (o0.2.1 19 v3.toNatClampNeg).toInt ≤ v4.toInt + 1 by omega) (by omega) (by omega)
    exact H.2.2.1 _ _ _ _ k_o0 r_o0 i_v1 i_v2 (iv_w (a := 0) (b := 30) (by decide) (by decide) i8) f_o0_0 f_o0_5 f_o0_17 f_o0_95 (show v1.toInt < (o0.1 17).toInt by omega) (show v1.toInt = yv1.toInt by omega) p9 (show (nz (o0.2.1 28) 31 + v2.toInt) * 1000 + 1 + (30 - x7.toInt) * 20 < (n : Int) by omega)
  · have wc6 : x2.toInt < x4.toInt := c_nle c6
    have i10 : (1 : Int) ≤ x2.toInt ∧ x2.toInt ≤ 5 := nr_nlel c6 i3 i5 (by decide) (by decide)
    have i11 : (0 : Int) ≤ v4.toInt ∧ v4.toInt ≤ 4 := by omega
    have i12 : (2 : Int) ≤ x4.toInt ∧ x4.toInt ≤ 6 := nr_nler c6 i3 i5 (by decide) (by decide)
    refine tt_kv (P := fun z => ((0 : Int) ≤ z.toInt ∧ z.toInt ≤ 174) ∧ z.toInt = 6 * v3.toInt) ⟨iv_mul (show (6 : Int) ≤ (6 : Int32).toInt ∧ (6 : Int32).toInt ≤ 6 by decide) i_v3 (by decide) (by decide) (by decide) (by decide) (by decide), iq_mul (show (6 : Int) ≤ (6 : Int32).toInt ∧ (6 : Int32).toInt ≤ 6 by decide) i_v3 (by decide) (by decide) (by decide) (by decide)⟩ (fun x13 qi14 => ?_)
    obtain ⟨i14, ei14⟩ := qi14
    refine tt_kv (P := fun z => ((0 : Int) ≤ z.toInt ∧ z.toInt ≤ 178) ∧ z.toInt = x13.toInt + v4.toInt) ⟨iv_add i14 i11 (by decide) (by decide) (by decide) (by decide), iq_add i14 i11 (by decide) (by decide)⟩ (fun x15 qi16 => ?_)
    obtain ⟨i16, ei16⟩ := qi16
    refine tt_n (ix_ok i16 (by decide) (by decide)) ?_
    refine tt_kv (P := fun z => (((-1) : Int) ≤ z.toInt ∧ z.toInt ≤ 37) ∧ z.toInt = (o0.2.1 25 x15.toNatClampNeg).toInt) ⟨(k_o0.2 25 _), rfl⟩ (fun x17 qi18 => ?_)
    obtain ⟨i18, ei18⟩ := qi18
    refine tt_kv (P := fun z => (((-9) : Int) ≤ z.toInt ∧ z.toInt ≤ 29) ∧ z.toInt = x17.toInt - 8) ⟨iv_sub i18 (show (8 : Int) ≤ (8 : Int32).toInt ∧ (8 : Int32).toInt ≤ 8 by decide) (by decide) (by decide) (by decide) (by decide), iq_sub i18 (show (8 : Int) ≤ (8 : Int32).toInt ∧ (8 : Int32).toInt ≤ 8 by decide) (by decide) (by decide)⟩ (fun x19 qi20 => ?_)
    obtain ⟨i20, ei20⟩ := qi20
    refine tt_if (fun c21 => ?_) (fun c21 => ?_)
    · have wc21 : v3.toInt = v1.toInt := c_eq c21
      try unfold fM_turns_88
      refine tt_if (fun c22 => ?_) (fun c22 => ?_)
      · have wc22 : x19.toInt < (0 : Int) := c_lt c22
        have i23 : ((-9) : Int) ≤ x19.toInt ∧ x19.toInt ≤ (-1) := nr_ltl c22 i20 (show (0 : Int) ≤ (0 : Int32).toInt ∧ (0 : Int32).toInt ≤ 0 by decide) (by decide) (by decide)
        have i24 : ((-1) : Int) ≤ x17.toInt ∧ x17.toInt ≤ 7 := by omega
        try unfold fM_turns_113
        refine tt_kv (P := fun z => ((1 : Int) ≤ z.toInt ∧ z.toInt ≤ 5) ∧ z.toInt = v4.toInt + 1) ⟨iv_add i11 (show (1 : Int) ≤ (1 : Int32).toInt ∧ (1 : Int32).toInt ≤ 1 by decide) (by decide) (by decide) (by decide) (by decide), iq_add i11 (show (1 : Int) ≤ (1 : Int32).toInt ∧ (1 : Int32).toInt ≤ 1 by decide) (by decide) (by decide)⟩ (fun x25 qi26 => ?_)
        obtain ⟨i26, ei26⟩ := qi26
        have p27 : Cl v2.toInt v1.toInt v3.toInt x25.toInt (o0.2.1 28) (o0.2.1 25) (o0.2.1 19) := by first | exact fun hz => absurd hz (by omega) | exact Cl_k (by assumption) (by assumption) (by assumption) (by rw [tn_n]; omega) (by omega) (by omega) (by omega) (show (¬ v3.toInt = v1.toInt ∧ ¬ (o0.2.1 28 v3.toNatClampNeg).toInt = 1) ∨ _ ∨ _ by omega)
        exact H.2.2.2 _ _ _ _ _ k_o0 r_o0 i_v1 i_v2 i_v3 (iv_w (a := 0) (b := 5) (by decide) (by decide) i26) f_o0_0 f_o0_5 f_o0_17 f_o0_95 (show v1.toInt < (o0.1 17).toInt by omega) (show v1.toInt = yv1.toInt by omega) p27 (show (nz (o0.2.1 28) 31 + v2.toInt) * 1000 + 1 + (29 - v3.toInt) * 20 + 1 + (6 - x25.toInt) * 2 < (n : Int) by omega)
      · have wc22 : (0 : Int) ≤ x19.toInt := c_nlt c22
        have i28 : (0 : Int) ≤ x19.toInt ∧ x19.toInt ≤ 29 := nr_nltr c22 (show (0 : Int) ≤ (0 : Int32).toInt ∧ (0 : Int32).toInt ≤ 0 by decide) i20 (by decide) (by decide)
        have i29 : (8 : Int) ≤ x17.toInt ∧ x17.toInt ≤ 37 := by omega
        refine tt_n (ix_ok i28 (by decide) (by decide)) ?_
        refine tt_kv (P := fun z => ((0 : Int) ≤ z.toInt ∧ z.toInt ≤ 1) ∧ z.toInt = (o0.2.1 28 x19.toNatClampNeg).toInt) ⟨(k_o0.2 28 _), rfl⟩ (fun x30 qi31 => ?_)
        obtain ⟨i31, ei31⟩ := qi31
        refine tt_if (fun c32 => ?_) (fun c32 => ?_)
        · have wc32 : x30.toInt = (0 : Int) := c_eq c32
          have i33 : (0 : Int) ≤ x30.toInt ∧ x30.toInt ≤ 0 := nr_eql c32 i31 (show (0 : Int) ≤ (0 : Int32).toInt ∧ (0 : Int32).toInt ≤ 0 by decide) (by decide) (by decide)
          refine tt_n (ix_ok i28 (by decide) (by decide)) ?_
          refine tt_ko ?_
          have k34 := ok_xp (k := 28) (i := x19.toNatClampNeg) (v := (vp_nar .boolean 1)) k_o0 (iv_nz _)
          have r35 := fr_xp (k := 28) (i := x19.toNatClampNeg) (v := (vp_nar .boolean 1)) r_o0 rfl
          have t36 := tn_n x19
          have t37 : ((vp_nar .boolean 1) : Int32).toInt = 1 := (by decide)
          have t38 := nz_w (f := (o0.2.1 28)) (i := x19.toNatClampNeg) (n := 31) (v := (vp_nar .boolean 1))
          try unfold fM_turns_113
          refine tt_kv (P := fun z => ((1 : Int) ≤ z.toInt ∧ z.toInt ≤ 5) ∧ z.toInt = v4.toInt + 1) ⟨iv_add i11 (show (1 : Int) ≤ (1 : Int32).toInt ∧ (1 : Int32).toInt ≤ 1 by decide) (by decide) (by decide) (by decide) (by decide), iq_add i11 (show (1 : Int) ≤ (1 : Int32).toInt ∧ (1 : Int32).toInt ≤ 1 by decide) (by decide) (by decide)⟩ (fun x39 qi40 => ?_)
          obtain ⟨i40, ei40⟩ := qi40
          have p41 : Cl 1 v1.toInt v3.toInt x39.toInt (upd (o0.2.1 28) (x19.toNatClampNeg) (vp_nar .boolean 1)) (o0.2.1 25) (o0.2.1 19) := by first | exact fun hz => absurd hz (by omega) | exact Cl_k (by assumption) (by assumption) (by assumption) (by rw [tn_n]; omega) (by omega) (by omega) (by omega) (show (¬ v3.toInt = v1.toInt ∧ ¬ (o0.2.1 28 v3.toNatClampNeg).toInt = 1) ∨ _ ∨ _ by omega)
          exact H.2.2.2 _ _ _ _ _ k34 r35 i_v1 (iv_w (a := 0) (b := 1) (by decide) (by decide) (show (1 : Int) ≤ (1 : Int32).toInt ∧ (1 : Int32).toInt ≤ 1 by decide)) i_v3 (iv_w (a := 0) (b := 5) (by decide) (by decide) i40) f_o0_0 f_o0_5 f_o0_17 f_o0_95 (show v1.toInt < (o0.1 17).toInt by omega) (show v1.toInt = yv1.toInt by omega) p41 (show (nz (upd (o0.2.1 28) (x19.toNatClampNeg) (vp_nar .boolean 1)) 31 + 1) * 1000 + 1 + (29 - v3.toInt) * 20 + 1 + (6 - x39.toInt) * 2 < (n : Int) by omega)
        · have wc32 : ¬ x30.toInt = (0 : Int) := c_ne c32
          have i42 : (1 : Int) ≤ x30.toInt ∧ x30.toInt ≤ 1 := nr_nela c32 i31 (show (0 : Int) ≤ (0 : Int32).toInt ∧ (0 : Int32).toInt ≤ 0 by decide) (by decide) (by decide)
          try unfold fM_turns_113
          refine tt_kv (P := fun z => ((1 : Int) ≤ z.toInt ∧ z.toInt ≤ 5) ∧ z.toInt = v4.toInt + 1) ⟨iv_add i11 (show (1 : Int) ≤ (1 : Int32).toInt ∧ (1 : Int32).toInt ≤ 1 by decide) (by decide) (by decide) (by decide) (by decide), iq_add i11 (show (1 : Int) ≤ (1 : Int32).toInt ∧ (1 : Int32).toInt ≤ 1 by decide) (by decide) (by decide)⟩ (fun x43 qi44 => ?_)
          obtain ⟨i44, ei44⟩ := qi44
          have p45 : Cl v2.toInt v1.toInt v3.toInt x43.toInt (o0.2.1 28) (o0.2.1 25) (o0.2.1 19) := by first | exact fun hz => absurd hz (by omega) | exact Cl_k (by assumption) (by assumption) (by assumption) (by rw [tn_n]; omega) (by omega) (by omega) (by omega) (show (¬ v3.toInt = v1.toInt ∧ ¬ (o0.2.1 28 v3.toNatClampNeg).toInt = 1) ∨ _ ∨ _ by omega)
          exact H.2.2.2 _ _ _ _ _ k_o0 r_o0 i_v1 i_v2 i_v3 (iv_w (a := 0) (b := 5) (by decide) (by decide) i44) f_o0_0 f_o0_5 f_o0_17 f_o0_95 (show v1.toInt < (o0.1 17).toInt by omega) (show v1.toInt = yv1.toInt by omega) p45 (show (nz (o0.2.1 28) 31 + v2.toInt) * 1000 + 1 + (29 - v3.toInt) * 20 + 1 + (6 - x43.toInt) * 2 < (n : Int) by omega)
    · have wc21 : ¬ v3.toInt = v1.toInt := c_ne c21
      refine tt_n (ix_ok i_v3 (by decide) (by decide)) ?_
      refine tt_kv (P := fun z => ((0 : Int) ≤ z.toInt ∧ z.toInt ≤ 1) ∧ z.toInt = (o0.2.1 28 v3.toNatClampNeg).toInt) ⟨(k_o0.2 28 _), rfl⟩ (fun x46 qi47 => ?_)
      obtain ⟨i47, ei47⟩ := qi47
      refine tt_if (fun c48 => ?_) (fun c48 => ?_)
      · have wc48 : x46.toInt = (0 : Int) := c_eq c48
        have i49 : (0 : Int) ≤ x46.toInt ∧ x46.toInt ≤ 0 := nr_eql c48 i47 (show (0 : Int) ≤ (0 : Int32).toInt ∧ (0 : Int32).toInt ≤ 0 by decide) (by decide) (by decide)
        try unfold fM_turns_113
        refine tt_kv (P := fun z => ((1 : Int) ≤ z.toInt ∧ z.toInt ≤ 5) ∧ z.toInt = v4.toInt + 1) ⟨iv_add i11 (show (1 : Int) ≤ (1 : Int32).toInt ∧ (1 : Int32).toInt ≤ 1 by decide) (by decide) (by decide) (by decide) (by decide), iq_add i11 (show (1 : Int) ≤ (1 : Int32).toInt ∧ (1 : Int32).toInt ≤ 1 by decide) (by decide) (by decide)⟩ (fun x50 qi51 => ?_)
        obtain ⟨i51, ei51⟩ := qi51
        have p52 : Cl v2.toInt v1.toInt v3.toInt x50.toInt (o0.2.1 28) (o0.2.1 25) (o0.2.1 19) := by first | exact fun hz => absurd hz (by omega) | exact Cl_k (by assumption) (by assumption) (by assumption) (by rw [tn_n]; omega) (by omega) (by omega) (by omega) (show (¬ v3.toInt = v1.toInt ∧ ¬ (o0.2.1 28 v3.toNatClampNeg).toInt = 1) ∨ _ ∨ _ by omega)
        exact H.2.2.2 _ _ _ _ _ k_o0 r_o0 i_v1 i_v2 i_v3 (iv_w (a := 0) (b := 5) (by decide) (by decide) i51) f_o0_0 f_o0_5 f_o0_17 f_o0_95 (show v1.toInt < (o0.1 17).toInt by omega) (show v1.toInt = yv1.toInt by omega) p52 (show (nz (o0.2.1 28) 31 + v2.toInt) * 1000 + 1 + (29 - v3.toInt) * 20 + 1 + (6 - x50.toInt) * 2 < (n : Int) by omega)
      · have wc48 : ¬ x46.toInt = (0 : Int) := c_ne c48
        have i53 : (1 : Int) ≤ x46.toInt ∧ x46.toInt ≤ 1 := nr_nela c48 i47 (show (0 : Int) ≤ (0 : Int32).toInt ∧ (0 : Int32).toInt ≤ 0 by decide) (by decide) (by decide)
        try unfold fM_turns_88
        refine tt_if (fun c54 => ?_) (fun c54 => ?_)
        · have wc54 : x19.toInt < (0 : Int) := c_lt c54
          have i55 : ((-9) : Int) ≤ x19.toInt ∧ x19.toInt ≤ (-1) := nr_ltl c54 i20 (show (0 : Int) ≤ (0 : Int32).toInt ∧ (0 : Int32).toInt ≤ 0 by decide) (by decide) (by decide)
          have i56 : ((-1) : Int) ≤ x17.toInt ∧ x17.toInt ≤ 7 := by omega
          try unfold fM_turns_113
          refine tt_kv (P := fun z => ((1 : Int) ≤ z.toInt ∧ z.toInt ≤ 5) ∧ z.toInt = v4.toInt + 1) ⟨iv_add i11 (show (1 : Int) ≤ (1 : Int32).toInt ∧ (1 : Int32).toInt ≤ 1 by decide) (by decide) (by decide) (by decide) (by decide), iq_add i11 (show (1 : Int) ≤ (1 : Int32).toInt ∧ (1 : Int32).toInt ≤ 1 by decide) (by decide) (by decide)⟩ (fun x57 qi58 => ?_)
          obtain ⟨i58, ei58⟩ := qi58
          have p59 : Cl v2.toInt v1.toInt v3.toInt x57.toInt (o0.2.1 28) (o0.2.1 25) (o0.2.1 19) := by first | exact fun hz => absurd hz (by omega) | exact Cl_k (by assumption) (by assumption) (by assumption) (by rw [tn_n]; omega) (by omega) (by omega) (by omega) (show (¬ v3.toInt = v1.toInt ∧ ¬ (o0.2.1 28 v3.toNatClampNeg).toInt = 1) ∨ _ ∨ _ by omega)
          exact H.2.2.2 _ _ _ _ _ k_o0 r_o0 i_v1 i_v2 i_v3 (iv_w (a := 0) (b := 5) (by decide) (by decide) i58) f_o0_0 f_o0_5 f_o0_17 f_o0_95 (show v1.toInt < (o0.1 17).toInt by omega) (show v1.toInt = yv1.toInt by omega) p59 (show (nz (o0.2.1 28) 31 + v2.toInt) * 1000 + 1 + (29 - v3.toInt) * 20 + 1 + (6 - x57.toInt) * 2 < (n : Int) by omega)
        · have wc54 : (0 : Int) ≤ x19.toInt := c_nlt c54
          have i60 : (0 : Int) ≤ x19.toInt ∧ x19.toInt ≤ 29 := nr_nltr c54 (show (0 : Int) ≤ (0 : Int32).toInt ∧ (0 : Int32).toInt ≤ 0 by decide) i20 (by decide) (by decide)
          have i61 : (8 : Int) ≤ x17.toInt ∧ x17.toInt ≤ 37 := by omega
          refine tt_n (ix_ok i60 (by decide) (by decide)) ?_
          refine tt_kv (P := fun z => ((0 : Int) ≤ z.toInt ∧ z.toInt ≤ 1) ∧ z.toInt = (o0.2.1 28 x19.toNatClampNeg).toInt) ⟨(k_o0.2 28 _), rfl⟩ (fun x62 qi63 => ?_)
          obtain ⟨i63, ei63⟩ := qi63
          refine tt_if (fun c64 => ?_) (fun c64 => ?_)
          · have wc64 : x62.toInt = (0 : Int) := c_eq c64
            have i65 : (0 : Int) ≤ x62.toInt ∧ x62.toInt ≤ 0 := nr_eql c64 i63 (show (0 : Int) ≤ (0 : Int32).toInt ∧ (0 : Int32).toInt ≤ 0 by decide) (by decide) (by decide)
            refine tt_n (ix_ok i60 (by decide) (by decide)) ?_
            refine tt_ko ?_
            have k66 := ok_xp (k := 28) (i := x19.toNatClampNeg) (v := (vp_nar .boolean 1)) k_o0 (iv_nz _)
            have r67 := fr_xp (k := 28) (i := x19.toNatClampNeg) (v := (vp_nar .boolean 1)) r_o0 rfl
            have t68 := tn_n x19
            have t69 : ((vp_nar .boolean 1) : Int32).toInt = 1 := (by decide)
            have t70 := nz_w (f := (o0.2.1 28)) (i := x19.toNatClampNeg) (n := 31) (v := (vp_nar .boolean 1))
            try unfold fM_turns_113
            refine tt_kv (P := fun z => ((1 : Int) ≤ z.toInt ∧ z.toInt ≤ 5) ∧ z.toInt = v4.toInt + 1) ⟨iv_add i11 (show (1 : Int) ≤ (1 : Int32).toInt ∧ (1 : Int32).toInt ≤ 1 by decide) (by decide) (by decide) (by decide) (by decide), iq_add i11 (show (1 : Int) ≤ (1 : Int32).toInt ∧ (1 : Int32).toInt ≤ 1 by decide) (by decide) (by decide)⟩ (fun x71 qi72 => ?_)
            obtain ⟨i72, ei72⟩ := qi72
            have p73 : Cl 1 v1.toInt v3.toInt x71.toInt (upd (o0.2.1 28) (x19.toNatClampNeg) (vp_nar .boolean 1)) (o0.2.1 25) (o0.2.1 19) := by first | exact fun hz => absurd hz (by omega) | exact Cl_k (by assumption) (by assumption) (by assumption) (by rw [tn_n]; omega) (by omega) (by omega) (by omega) (show (¬ v3.toInt = v1.toInt ∧ ¬ (o0.2.1 28 v3.toNatClampNeg).toInt = 1) ∨ _ ∨ _ by omega)
            exact H.2.2.2 _ _ _ _ _ k66 r67 i_v1 (iv_w (a := 0) (b := 1) (by decide) (by decide) (show (1 : Int) ≤ (1 : Int32).toInt ∧ (1 : Int32).toInt ≤ 1 by decide)) i_v3 (iv_w (a := 0) (b := 5) (by decide) (by decide) i72) f_o0_0 f_o0_5 f_o0_17 f_o0_95 (show v1.toInt < (o0.1 17).toInt by omega) (show v1.toInt = yv1.toInt by omega) p73 (show (nz (upd (o0.2.1 28) (x19.toNatClampNeg) (vp_nar .boolean 1)) 31 + 1) * 1000 + 1 + (29 - v3.toInt) * 20 + 1 + (6 - x71.toInt) * 2 < (n : Int) by omega)
          · have wc64 : ¬ x62.toInt = (0 : Int) := c_ne c64
            have i74 : (1 : Int) ≤ x62.toInt ∧ x62.toInt ≤ 1 := nr_nela c64 i63 (show (0 : Int) ≤ (0 : Int32).toInt ∧ (0 : Int32).toInt ≤ 0 by decide) (by decide) (by decide)
            try unfold fM_turns_113
            refine tt_kv (P := fun z => ((1 : Int) ≤ z.toInt ∧ z.toInt ≤ 5) ∧ z.toInt = v4.toInt + 1) ⟨iv_add i11 (show (1 : Int) ≤ (1 : Int32).toInt ∧ (1 : Int32).toInt ≤ 1 by decide) (by decide) (by decide) (by decide) (by decide), iq_add i11 (show (1 : Int) ≤ (1 : Int32).toInt ∧ (1 : Int32).toInt ≤ 1 by decide) (by decide) (by decide)⟩ (fun x75 qi76 => ?_)
            obtain ⟨i76, ei76⟩ := qi76
            have p77 : Cl v2.toInt v1.toInt v3.toInt x75.toInt (o0.2.1 28) (o0.2.1 25) (o0.2.1 19) := by first | exact fun hz => absurd hz (by omega) | exact Cl_k (by assumption) (by assumption) (by assumption) (by rw [tn_n]; omega) (by omega) (by omega) (by omega) (show (¬ v3.toInt = v1.toInt ∧ ¬ (o0.2.1 28 v3.toNatClampNeg).toInt = 1) ∨ _ ∨ _ by omega)
            exact H.2.2.2 _ _ _ _ _ k_o0 r_o0 i_v1 i_v2 i_v3 (iv_w (a := 0) (b := 5) (by decide) (by decide) i76) f_o0_0 f_o0_5 f_o0_17 f_o0_95 (show v1.toInt < (o0.1 17).toInt by omega) (show v1.toInt = yv1.toInt by omega) p77 (show (nz (o0.2.1 28) 31 + v2.toInt) * 1000 + 1 + (29 - v3.toInt) * 20 + 1 + (6 - x75.toInt) * 2 < (n : Int) by omega)
set_option maxHeartbeats 4000000 in
set_option maxRecDepth 100000 in
theorem tM_turns_33 {yv1 : Int32} {yo0 : cf_O} {n : Nat} (H : HM_turns yv1 yo0 n) (v1 : Int32) (v2 : Int32) (v3 : Int32) (o0 : cf_O) (k_o0 : okO I_M o0) (r_o0 : Fr (fr_M [] [28] []) yo0 o0) (i_v1 : (0 : Int) ≤ v1.toInt ∧ v1.toInt ≤ 29) (i_v2 : (0 : Int) ≤ v2.toInt ∧ v2.toInt ≤ 1) (i_v3 : (0 : Int) ≤ v3.toInt ∧ v3.toInt ≤ 30) (f_o0_0 : (0 : Int) ≤ (o0.1 0).toInt ∧ (o0.1 0).toInt ≤ 0) (f_o0_5 : (0 : Int) ≤ (o0.1 5).toInt ∧ (o0.1 5).toInt ≤ 0) (f_o0_17 : (1 : Int) ≤ (o0.1 17).toInt ∧ (o0.1 17).toInt ≤ 30) (f_o0_95 : (0 : Int) ≤ (o0.1 95).toInt ∧ (o0.1 95).toInt ≤ 0) (x_0 : v1.toInt < (o0.1 17).toInt) (x_1 : v1.toInt = yv1.toInt) (x_2 : Cl v2.toInt v1.toInt v3.toInt 0 (o0.2.1 28) (o0.2.1 25) (o0.2.1 19)) (hm : (nz (o0.2.1 28) 31 + v2.toInt) * 1000 + 1 + (30 - v3.toInt) * 20 ≤ (n : Int)) : tt (fM_turns_33 (gM_turns n) v1 v2 v3 o0) (QM_turns yv1 yo0) := by
  unfold fM_turns_33
  have ey_o0_17 : (o0.1 17).toInt = (yo0.1 17).toInt := congrArg Int32.toInt (r_o0.1 17 rfl)
  have t1 := nz_b (o0.2.1 28) 31
  refine tt_if (fun c2 => ?_) (fun c2 => ?_)
  · have wc2 : (o0.1 17).toInt ≤ v3.toInt := c_le c2
    have i3 : (1 : Int) ≤ v3.toInt ∧ v3.toInt ≤ 30 := nr_ler c2 f_o0_17 i_v3 (by decide) (by decide)
    have p4 : Cl v2.toInt v1.toInt (o0.1 17).toInt 0 (o0.2.1 28) (o0.2.1 25) (o0.2.1 19) := by exact fun hz a k j u h1 h2 h3 hc => x_2 hz a k j u h1 h2 h3 (by omega)
    exact H.2.1 _ _ _ k_o0 r_o0 i_v1 i_v2 f_o0_0 f_o0_5 f_o0_17 f_o0_95 (show v1.toInt < (o0.1 17).toInt by omega) (show v1.toInt = yv1.toInt by omega) p4 (show (nz (o0.2.1 28) 31 + v2.toInt) * 1000 < (n : Int) by omega)
  · have wc2 : v3.toInt < (o0.1 17).toInt := c_nle c2
    have i5 : (0 : Int) ≤ v3.toInt ∧ v3.toInt ≤ 29 := nr_nlel c2 i_v3 f_o0_17 (by decide) (by decide)
    exact H.2.2.2 _ _ _ _ _ k_o0 r_o0 i_v1 i_v2 i5 (iv_w (a := 0) (b := 5) (by decide) (by decide) (show (0 : Int) ≤ (0 : Int32).toInt ∧ (0 : Int32).toInt ≤ 0 by decide)) f_o0_0 f_o0_5 f_o0_17 f_o0_95 (show v1.toInt < (o0.1 17).toInt by omega) (show v1.toInt = yv1.toInt by omega) x_2 (show (nz (o0.2.1 28) 31 + v2.toInt) * 1000 + 1 + (29 - v3.toInt) * 20 + 1 + (6 - 0) * 2 < (n : Int) by omega)
set_option maxHeartbeats 4000000 in
set_option maxRecDepth 100000 in
theorem tM_turns_25 {yv1 : Int32} {yo0 : cf_O} {n : Nat} (H : HM_turns yv1 yo0 n) (v1 : Int32) (v2 : Int32) (o0 : cf_O) (k_o0 : okO I_M o0) (r_o0 : Fr (fr_M [] [28] []) yo0 o0) (i_v1 : (0 : Int) ≤ v1.toInt ∧ v1.toInt ≤ 29) (i_v2 : (0 : Int) ≤ v2.toInt ∧ v2.toInt ≤ 1) (f_o0_0 : (0 : Int) ≤ (o0.1 0).toInt ∧ (o0.1 0).toInt ≤ 0) (f_o0_5 : (0 : Int) ≤ (o0.1 5).toInt ∧ (o0.1 5).toInt ≤ 0) (f_o0_17 : (1 : Int) ≤ (o0.1 17).toInt ∧ (o0.1 17).toInt ≤ 30) (f_o0_95 : (0 : Int) ≤ (o0.1 95).toInt ∧ (o0.1 95).toInt ≤ 0) (x_0 : v1.toInt < (o0.1 17).toInt) (x_1 : v1.toInt = yv1.toInt) (x_2 : Cl v2.toInt v1.toInt (o0.1 17).toInt 0 (o0.2.1 28) (o0.2.1 25) (o0.2.1 19)) (hm : (nz (o0.2.1 28) 31 + v2.toInt) * 1000 ≤ (n : Int)) : tt (fM_turns_25 (gM_turns n) v1 v2 o0) (QM_turns yv1 yo0) := by
  unfold fM_turns_25
  have ey_o0_17 : (o0.1 17).toInt = (yo0.1 17).toInt := congrArg Int32.toInt (r_o0.1 17 rfl)
  have t1 := nz_b (o0.2.1 28) 31
  refine tt_if (fun c2 => ?_) (fun c2 => ?_)
  · have wc2 : v2.toInt = (0 : Int) := c_eq c2
    have i3 : (0 : Int) ≤ v2.toInt ∧ v2.toInt ≤ 0 := nr_eql c2 i_v2 (show (0 : Int) ≤ (0 : Int32).toInt ∧ (0 : Int32).toInt ≤ 0 by decide) (by decide) (by decide)
    refine tt_n (ix_ok i_v1 (by decide) (by decide)) ?_
    refine tt_kv (P := fun z => ((0 : Int) ≤ z.toInt ∧ z.toInt ≤ 1) ∧ z.toInt = (o0.2.1 28 v1.toNatClampNeg).toInt) ⟨(k_o0.2 28 _), rfl⟩ (fun x4 qi5 => ?_)
    obtain ⟨i5, ei5⟩ := qi5
    refine tt_w (iv_b i5 (by decide) (by decide)) ?_
    have p6 : Tr x4.toInt yv1.toInt (o0.1 17).toInt (o0.2.1 25) (o0.2.1 19) := by rw [← x_1]; exact Tr_i (A := (o0.1 17).toInt) (re := o0.2.1 28) (fun _ => x_2 (by omega)) (by omega) (by omega) (by omega) (show _ = (o0.2.1 28 v1.toNatClampNeg).toInt by omega)
    exact tt_some ⟨i5, k_o0, r_o0, p6, trivial⟩
  · have wc2 : ¬ v2.toInt = (0 : Int) := c_ne c2
    have i7 : (1 : Int) ≤ v2.toInt ∧ v2.toInt ≤ 1 := nr_nela c2 i_v2 (show (0 : Int) ≤ (0 : Int32).toInt ∧ (0 : Int32).toInt ≤ 0 by decide) (by decide) (by decide)
    have p8 : Cl 0 v1.toInt 0 0 (o0.2.1 28) (o0.2.1 25) (o0.2.1 19) := by exact fun _ a k j u _ _ _ hc _ => by omega
    exact H.2.2.1 _ _ _ _ k_o0 r_o0 i_v1 (iv_w (a := 0) (b := 1) (by decide) (by decide) (show (0 : Int) ≤ (0 : Int32).toInt ∧ (0 : Int32).toInt ≤ 0 by decide)) (iv_w (a := 0) (b := 30) (by decide) (by decide) (show (0 : Int) ≤ (0 : Int32).toInt ∧ (0 : Int32).toInt ≤ 0 by decide)) f_o0_0 f_o0_5 f_o0_17 f_o0_95 (show v1.toInt < (o0.1 17).toInt by omega) (show v1.toInt = yv1.toInt by omega) p8 (show (nz (o0.2.1 28) 31 + 0) * 1000 + 1 + (30 - 0) * 20 < (n : Int) by omega)
set_option maxHeartbeats 4000000 in
set_option maxRecDepth 100000 in
theorem tM_turns_2 {yv1 : Int32} {yo0 : cf_O} {n : Nat} (H : HM_turns yv1 yo0 n) (v1 : Int32) (v2 : Int32) (o0 : cf_O) (k_o0 : okO I_M o0) (r_o0 : Fr (fr_M [] [28] []) yo0 o0) (i_v1 : (0 : Int) ≤ v1.toInt ∧ v1.toInt ≤ 29) (i_v2 : (0 : Int) ≤ v2.toInt ∧ v2.toInt ≤ 30) (f_o0_0 : (0 : Int) ≤ (o0.1 0).toInt ∧ (o0.1 0).toInt ≤ 0) (f_o0_5 : (0 : Int) ≤ (o0.1 5).toInt ∧ (o0.1 5).toInt ≤ 0) (f_o0_17 : (1 : Int) ≤ (o0.1 17).toInt ∧ (o0.1 17).toInt ≤ 30) (f_o0_95 : (0 : Int) ≤ (o0.1 95).toInt ∧ (o0.1 95).toInt ≤ 0) (x_0 : v1.toInt < (o0.1 17).toInt) (x_1 : v1.toInt = yv1.toInt) (hm : 40000 + (31 - v2.toInt) ≤ (n : Int)) : tt (fM_turns_2 (gM_turns n) v1 v2 o0) (QM_turns yv1 yo0) := by
  unfold fM_turns_2
  have ey_o0_17 : (o0.1 17).toInt = (yo0.1 17).toInt := congrArg Int32.toInt (r_o0.1 17 rfl)
  have t1 := nz_b (o0.2.1 28) 31
  refine tt_if (fun c2 => ?_) (fun c2 => ?_)
  · have wc2 : (o0.1 17).toInt ≤ v2.toInt := c_le c2
    have i3 : (1 : Int) ≤ v2.toInt ∧ v2.toInt ≤ 30 := nr_ler c2 f_o0_17 i_v2 (by decide) (by decide)
    have p4 : Cl 1 v1.toInt (o0.1 17).toInt 0 (o0.2.1 28) (o0.2.1 25) (o0.2.1 19) := by exact fun hz => absurd hz (by omega)
    exact H.2.1 _ _ _ k_o0 r_o0 i_v1 (iv_w (a := 0) (b := 1) (by decide) (by decide) (show (1 : Int) ≤ (1 : Int32).toInt ∧ (1 : Int32).toInt ≤ 1 by decide)) f_o0_0 f_o0_5 f_o0_17 f_o0_95 (show v1.toInt < (o0.1 17).toInt by omega) (show v1.toInt = yv1.toInt by omega) p4 (show (nz (o0.2.1 28) 31 + 1) * 1000 < (n : Int) by omega)
  · have wc2 : v2.toInt < (o0.1 17).toInt := c_nle c2
    have i5 : (0 : Int) ≤ v2.toInt ∧ v2.toInt ≤ 29 := nr_nlel c2 i_v2 f_o0_17 (by decide) (by decide)
    refine tt_n (ix_ok i5 (by decide) (by decide)) ?_
    refine tt_ko ?_
    have k6 := ok_xp (k := 28) (i := v2.toNatClampNeg) (v := (vp_nar .boolean 0)) k_o0 (iv_nz _)
    have r7 := fr_xp (k := 28) (i := v2.toNatClampNeg) (v := (vp_nar .boolean 0)) r_o0 rfl
    have t8 := tn_n v2
    have t9 : ((vp_nar .boolean 0) : Int32).toInt = 0 := (by decide)
    have t10 := nz_w (f := (o0.2.1 28)) (i := v2.toNatClampNeg) (n := 31) (v := (vp_nar .boolean 0))
    refine tt_kv (P := fun z => ((1 : Int) ≤ z.toInt ∧ z.toInt ≤ 30) ∧ z.toInt = v2.toInt + 1) ⟨iv_add i5 (show (1 : Int) ≤ (1 : Int32).toInt ∧ (1 : Int32).toInt ≤ 1 by decide) (by decide) (by decide) (by decide) (by decide), iq_add i5 (show (1 : Int) ≤ (1 : Int32).toInt ∧ (1 : Int32).toInt ≤ 1 by decide) (by decide) (by decide)⟩ (fun x11 qi12 => ?_)
    obtain ⟨i12, ei12⟩ := qi12
    exact H.1 _ _ _ k6 r7 i_v1 (iv_w (a := 0) (b := 30) (by decide) (by decide) i12) f_o0_0 f_o0_5 f_o0_17 f_o0_95 (show v1.toInt < (o0.1 17).toInt by omega) (show v1.toInt = yv1.toInt by omega) (show 40000 + (31 - x11.toInt) < (n : Int) by omega)
set_option maxHeartbeats 4000000 in
set_option maxRecDepth 100000 in
theorem hM_turns (yv1 : Int32) (yo0 : cf_O) : ∀ n, HM_turns yv1 yo0 n := by
  intro n
  induction n with
  | zero => exact ⟨(fun v1 v2 o0 k_o0 r_o0 i_v1 i_v2 f_o0_0 f_o0_5 f_o0_17 f_o0_95 x_0 x_1 hm => by exact absurd (show 40000 + (31 - v2.toInt) < (0 : Int) from hm) (by have zz := nz_b (o0.2.1 28) 31; omega)), (fun v1 v2 o0 k_o0 r_o0 i_v1 i_v2 f_o0_0 f_o0_5 f_o0_17 f_o0_95 x_0 x_1 x_2 hm => by exact absurd (show (nz (o0.2.1 28) 31 + v2.toInt) * 1000 < (0 : Int) from hm) (by have zz := nz_b (o0.2.1 28) 31; omega)), (fun v1 v2 v3 o0 k_o0 r_o0 i_v1 i_v2 i_v3 f_o0_0 f_o0_5 f_o0_17 f_o0_95 x_0 x_1 x_2 hm => by exact absurd (show (nz (o0.2.1 28) 31 + v2.toInt) * 1000 + 1 + (30 - v3.toInt) * 20 < (0 : Int) from hm) (by have zz := nz_b (o0.2.1 28) 31; omega)), (fun v1 v2 v3 v4 o0 k_o0 r_o0 i_v1 i_v2 i_v3 i_v4 f_o0_0 f_o0_5 f_o0_17 f_o0_95 x_0 x_1 x_2 hm => by exact absurd (show (nz (o0.2.1 28) 31 + v2.toInt) * 1000 + 1 + (29 - v3.toInt) * 20 + 1 + (6 - v4.toInt) * 2 < (0 : Int) from hm) (by have zz := nz_b (o0.2.1 28) 31; omega))⟩
  | succ n ih => exact ⟨(fun v1 v2 o0 k_o0 r_o0 i_v1 i_v2 f_o0_0 f_o0_5 f_o0_17 f_o0_95 x_0 x_1 hm => tM_turns_2 ih v1 v2 o0 k_o0 r_o0 i_v1 i_v2 f_o0_0 f_o0_5 f_o0_17 f_o0_95 x_0 x_1 (by omega)), (fun v1 v2 o0 k_o0 r_o0 i_v1 i_v2 f_o0_0 f_o0_5 f_o0_17 f_o0_95 x_0 x_1 x_2 hm => tM_turns_25 ih v1 v2 o0 k_o0 r_o0 i_v1 i_v2 f_o0_0 f_o0_5 f_o0_17 f_o0_95 x_0 x_1 x_2 (by omega)), (fun v1 v2 v3 o0 k_o0 r_o0 i_v1 i_v2 i_v3 f_o0_0 f_o0_5 f_o0_17 f_o0_95 x_0 x_1 x_2 hm => tM_turns_33 ih v1 v2 v3 o0 k_o0 r_o0 i_v1 i_v2 i_v3 f_o0_0 f_o0_5 f_o0_17 f_o0_95 x_0 x_1 x_2 (by omega)), (fun v1 v2 v3 v4 o0 k_o0 r_o0 i_v1 i_v2 i_v3 i_v4 f_o0_0 f_o0_5 f_o0_17 f_o0_95 x_0 x_1 x_2 hm => tM_turns_44 ih v1 v2 v3 v4 o0 k_o0 r_o0 i_v1 i_v2 i_v3 i_v4 f_o0_0 f_o0_5 f_o0_17 f_o0_95 x_0 x_1 x_2 (by omega))⟩
set_option maxHeartbeats 4000000 in
set_option maxRecDepth 100000 in
theorem sM_turns (v1 : Int32) (o0 : cf_O) (k_o0 : okO I_M o0) (i_v1 : (0 : Int) ≤ v1.toInt ∧ v1.toInt ≤ 29) (f_o0_0 : (0 : Int) ≤ (o0.1 0).toInt ∧ (o0.1 0).toInt ≤ 0) (f_o0_5 : (0 : Int) ≤ (o0.1 5).toInt ∧ (o0.1 5).toInt ≤ 0) (f_o0_17 : (1 : Int) ≤ (o0.1 17).toInt ∧ (o0.1 17).toInt ≤ 30) (f_o0_95 : (0 : Int) ≤ (o0.1 95).toInt ∧ (o0.1 95).toInt ≤ 0) (x_0 : v1.toInt < (o0.1 17).toInt) : tt (fM_turns v1 o0) (QM_turns v1 o0) := by
  have H := hM_turns v1 o0 cfFU
  have hm : (50000 : Int) ≤ (cfFU : Nat) := by decide
  have r_o0 : Fr (fr_M [] [28] []) o0 o0 := fr_rfl
  unfold fM_turns fM_turns_0
  exact H.1 _ _ _ k_o0 r_o0 i_v1 (iv_w (a := 0) (b := 30) (by decide) (by decide) (show (0 : Int) ≤ (0 : Int32).toInt ∧ (0 : Int32).toInt ≤ 0 by decide)) f_o0_0 f_o0_5 f_o0_17 f_o0_95 (show v1.toInt < (o0.1 17).toInt by omega) (show v1.toInt = v1.toInt by omega) (show 40000 + (31 - 0) < ((cfFU : Nat) : Int) by omega)
def QM_begin (v1 : Int32) (o0 : cf_O) (r : (cf_O)) : Prop := (okO I_M r) ∧ (Fr (fr_M [31, 36, 37] [34] []) o0 r) ∧ ((0 : Int) ≤ (r.1 31).toInt ∧ (r.1 31).toInt ≤ 0) ∧ ((0 : Int) ≤ (r.1 36).toInt ∧ (r.1 36).toInt ≤ 0) ∧ ((1 : Int) ≤ (r.1 37).toInt ∧ (r.1 37).toInt ≤ 9) ∧ ((r.1 31).toInt = 0) ∧ ((r.1 37).toInt = v1.toInt) ∧ True
def HM_begin (yv1 : Int32) (yo0 : cf_O) (n : Nat) : Prop := (∀ (v2 : Int32) (o0 : cf_O), (okO I_M o0) → (Fr (fr_M [31, 36, 37] [34] []) yo0 o0) → ((0 : Int) ≤ v2.toInt ∧ v2.toInt ≤ 210) → ((0 : Int) ≤ (o0.1 0).toInt ∧ (o0.1 0).toInt ≤ 2) → ((0 : Int) ≤ (o0.1 31).toInt ∧ (o0.1 31).toInt ≤ 0) → ((0 : Int) ≤ (o0.1 36).toInt ∧ (o0.1 36).toInt ≤ 0) → ((1 : Int) ≤ (o0.1 37).toInt ∧ (o0.1 37).toInt ≤ 9) → ((0 : Int) ≤ (o0.1 95).toInt ∧ (o0.1 95).toInt ≤ 0) → ((o0.1 31).toInt = 0) → ((o0.1 37).toInt = yv1.toInt) → 0 + (210 - v2.toInt) * 2 < (n : Int) → tt (gM_begin n 0 v2 o0) (QM_begin yv1 yo0))
set_option maxHeartbeats 4000000 in
set_option maxRecDepth 100000 in
theorem tM_begin_17 {yv1 : Int32} {yo0 : cf_O} {n : Nat} (H : HM_begin yv1 yo0 n) (v2 : Int32) (o0 : cf_O) (k_o0 : okO I_M o0) (r_o0 : Fr (fr_M [31, 36, 37] [34] []) yo0 o0) (i_v2 : (0 : Int) ≤ v2.toInt ∧ v2.toInt ≤ 210) (f_o0_0 : (0 : Int) ≤ (o0.1 0).toInt ∧ (o0.1 0).toInt ≤ 2) (f_o0_31 : (0 : Int) ≤ (o0.1 31).toInt ∧ (o0.1 31).toInt ≤ 0) (f_o0_36 : (0 : Int) ≤ (o0.1 36).toInt ∧ (o0.1 36).toInt ≤ 0) (f_o0_37 : (1 : Int) ≤ (o0.1 37).toInt ∧ (o0.1 37).toInt ≤ 9) (f_o0_95 : (0 : Int) ≤ (o0.1 95).toInt ∧ (o0.1 95).toInt ≤ 0) (x_0 : (o0.1 31).toInt = 0) (x_1 : (o0.1 37).toInt = yv1.toInt) (hm : 0 + (210 - v2.toInt) * 2 ≤ (n : Int)) : tt (fM_begin_17 (gM_begin n) v2 o0) (QM_begin yv1 yo0) := by
  unfold fM_begin_17
  refine tt_if (fun c1 => ?_) (fun c1 => ?_)
  · have wc1 : (210 : Int) ≤ v2.toInt := c_le c1
    have i2 : (210 : Int) ≤ v2.toInt ∧ v2.toInt ≤ 210 := nr_ler c1 (show (210 : Int) ≤ (210 : Int32).toInt ∧ (210 : Int32).toInt ≤ 210 by decide) i_v2 (by decide) (by decide)
    exact tt_some ⟨k_o0, r_o0, f_o0_31, f_o0_36, f_o0_37, (show (o0.1 31).toInt = 0 by omega), (show (o0.1 37).toInt = yv1.toInt by omega), trivial⟩
  · have wc1 : v2.toInt < (210 : Int) := c_nle c1
    have i3 : (0 : Int) ≤ v2.toInt ∧ v2.toInt ≤ 209 := nr_nlel c1 i_v2 (show (210 : Int) ≤ (210 : Int32).toInt ∧ (210 : Int32).toInt ≤ 210 by decide) (by decide) (by decide)
    refine tt_n (ix_ok i3 (by decide) (by decide)) ?_
    refine tt_ko ?_
    have k4 := ok_xp (k := 34) (i := v2.toNatClampNeg) (v := 0) k_o0 (iv_w (a := (-2147483648)) (b := 2147483647) (by decide) (by decide) (show (0 : Int) ≤ (0 : Int32).toInt ∧ (0 : Int32).toInt ≤ 0 by decide))
    have r5 := fr_xp (k := 34) (i := v2.toNatClampNeg) (v := 0) r_o0 rfl
    refine tt_kv (P := fun z => ((1 : Int) ≤ z.toInt ∧ z.toInt ≤ 210) ∧ z.toInt = v2.toInt + 1) ⟨iv_add i3 (show (1 : Int) ≤ (1 : Int32).toInt ∧ (1 : Int32).toInt ≤ 1 by decide) (by decide) (by decide) (by decide) (by decide), iq_add i3 (show (1 : Int) ≤ (1 : Int32).toInt ∧ (1 : Int32).toInt ≤ 1 by decide) (by decide) (by decide)⟩ (fun x6 qi7 => ?_)
    obtain ⟨i7, ei7⟩ := qi7
    exact H _ _ k4 r5 (iv_w (a := 0) (b := 210) (by decide) (by decide) i7) f_o0_0 f_o0_31 f_o0_36 f_o0_37 f_o0_95 (show (o0.1 31).toInt = 0 by omega) (show (o0.1 37).toInt = yv1.toInt by omega) (show 0 + (210 - x6.toInt) * 2 < (n : Int) by omega)
set_option maxHeartbeats 4000000 in
set_option maxRecDepth 100000 in
theorem hM_begin (yv1 : Int32) (yo0 : cf_O) : ∀ n, HM_begin yv1 yo0 n := by
  intro n
  induction n with
  | zero => exact (fun v2 o0 k_o0 r_o0 i_v2 f_o0_0 f_o0_31 f_o0_36 f_o0_37 f_o0_95 x_0 x_1 hm => by exact absurd (show 0 + (210 - v2.toInt) * 2 < (0 : Int) from hm) (by omega))
  | succ n ih => exact (fun v2 o0 k_o0 r_o0 i_v2 f_o0_0 f_o0_31 f_o0_36 f_o0_37 f_o0_95 x_0 x_1 hm => tM_begin_17 ih v2 o0 k_o0 r_o0 i_v2 f_o0_0 f_o0_31 f_o0_36 f_o0_37 f_o0_95 x_0 x_1 (by omega))
set_option maxHeartbeats 4000000 in
set_option maxRecDepth 100000 in
theorem sM_begin (v1 : Int32) (o0 : cf_O) (k_o0 : okO I_M o0) (i_v1 : (1 : Int) ≤ v1.toInt ∧ v1.toInt ≤ 9) (f_o0_0 : (0 : Int) ≤ (o0.1 0).toInt ∧ (o0.1 0).toInt ≤ 2) (f_o0_95 : (0 : Int) ≤ (o0.1 95).toInt ∧ (o0.1 95).toInt ≤ 0) : tt (fM_begin v1 o0) (QM_begin v1 o0) := by
  have H := hM_begin v1 o0 cfFU
  have hm : (423 : Int) ≤ (cfFU : Nat) := by decide
  have r_o0 : Fr (fr_M [31, 36, 37] [34] []) o0 o0 := fr_rfl
  unfold fM_begin fM_begin_0
  have g_o0_31 : (0 : Int) ≤ (o0.1 31).toInt ∧ (o0.1 31).toInt ≤ 200 := k_o0.1 31
  have g_o0_37 : (0 : Int) ≤ (o0.1 37).toInt ∧ (o0.1 37).toInt ≤ 9 := k_o0.1 37
  refine tt_ko ?_
  have k1 := ok_fp (k := 31) (v := 0) k_o0 (iv_w (a := 0) (b := 200) (by decide) (by decide) (show (0 : Int) ≤ (0 : Int32).toInt ∧ (0 : Int32).toInt ≤ 0 by decide))
  have r2 := fr_fp (k := 31) (v := 0) r_o0 rfl
  refine tt_ko ?_
  have k3 := ok_fp (k := 37) (v := v1) k1 (iv_w (a := 0) (b := 9) (by decide) (by decide) i_v1)
  have r4 := fr_fp (k := 37) (v := v1) r2 rfl
  refine tt_ko ?_
  have k5 := ok_fp (k := 36) (v := 0) k3 (iv_w (a := 0) (b := 1) (by decide) (by decide) (show (0 : Int) ≤ (0 : Int32).toInt ∧ (0 : Int32).toInt ≤ 0 by decide))
  have r6 := fr_fp (k := 36) (v := 0) r4 rfl
  exact H _ _ k5 r6 (iv_w (a := 0) (b := 210) (by decide) (by decide) (show (0 : Int) ≤ (0 : Int32).toInt ∧ (0 : Int32).toInt ≤ 0 by decide)) f_o0_0 (show (0 : Int) ≤ (0 : Int32).toInt ∧ (0 : Int32).toInt ≤ 0 by decide) (show (0 : Int) ≤ (0 : Int32).toInt ∧ (0 : Int32).toInt ≤ 0 by decide) i_v1 f_o0_95 (show 0 = 0 by omega) (show v1.toInt = v1.toInt by omega) (show 0 + (210 - 0) * 2 < ((cfFU : Nat) : Int) by omega)
def QM_and (v1 : Int32) (v2 : Int32) (o0 : cf_O) (r : (Int32 × cf_O)) : Prop := ((0 : Int) ≤ r.1.toInt ∧ r.1.toInt ≤ 417) ∧ (okO I_M r.2) ∧ (Fr (fr_M [31, 36] [32, 33, 34] []) o0 r.2) ∧ (Gx (r.2.1 37).toInt (r.2.1 31).toInt (r.2.2.1 32) (r.2.2.1 33)) ∧ (r.1.toInt < 2 * ((r.2.1 37).toInt + (r.2.1 31).toInt)) ∧ ((o0.1 31).toInt ≤ (r.2.1 31).toInt) ∧ True
def HM_and (yv1 : Int32) (yv2 : Int32) (yo0 : cf_O) (n : Nat) : Prop := (∀ (v3 : Int32) (v4 : Int32) (v5 : Int32) (o0 : cf_O), (okO I_M o0) → (Fr (fr_M [31, 36] [32, 33, 34] []) yo0 o0) → ((2 : Int) ≤ v3.toInt ∧ v3.toInt ≤ 417) → ((0 : Int) ≤ v4.toInt ∧ v4.toInt ≤ 417) → ((0 : Int) ≤ v5.toInt ∧ v5.toInt ≤ 200) → ((0 : Int) ≤ (o0.1 0).toInt ∧ (o0.1 0).toInt ≤ 2) → ((1 : Int) ≤ (o0.1 37).toInt ∧ (o0.1 37).toInt ≤ 9) → ((0 : Int) ≤ (o0.1 95).toInt ∧ (o0.1 95).toInt ≤ 0) → (Gx (o0.1 37).toInt (o0.1 31).toInt (o0.2.1 32) (o0.2.1 33)) → (2 ≤ v3.toInt) → (v3.toInt / 2 < v4.toInt / 2) → (v4.toInt < 2 * ((o0.1 37).toInt + (o0.1 31).toInt)) → ((o0.1 31).toInt = (yo0.1 31).toInt) → 0 + (200 - v5.toInt) * 2 < (n : Int) → tt (gM_and n 0 v3 v4 v5 o0) (QM_and yv1 yv2 yo0))
set_option maxHeartbeats 4000000 in
set_option maxRecDepth 100000 in
theorem tM_and_56 {yv1 : Int32} {yv2 : Int32} {yo0 : cf_O} {n : Nat} (H : HM_and yv1 yv2 yo0 n) (v3 : Int32) (v4 : Int32) (v5 : Int32) (o0 : cf_O) (k_o0 : okO I_M o0) (r_o0 : Fr (fr_M [31, 36] [32, 33, 34] []) yo0 o0) (i_v3 : (2 : Int) ≤ v3.toInt ∧ v3.toInt ≤ 417) (i_v4 : (0 : Int) ≤ v4.toInt ∧ v4.toInt ≤ 417) (i_v5 : (0 : Int) ≤ v5.toInt ∧ v5.toInt ≤ 200) (f_o0_0 : (0 : Int) ≤ (o0.1 0).toInt ∧ (o0.1 0).toInt ≤ 2) (f_o0_37 : (1 : Int) ≤ (o0.1 37).toInt ∧ (o0.1 37).toInt ≤ 9) (f_o0_95 : (0 : Int) ≤ (o0.1 95).toInt ∧ (o0.1 95).toInt ≤ 0) (x_0 : Gx (o0.1 37).toInt (o0.1 31).toInt (o0.2.1 32) (o0.2.1 33)) (x_1 : 2 ≤ v3.toInt) (x_2 : v3.toInt / 2 < v4.toInt / 2) (x_3 : v4.toInt < 2 * ((o0.1 37).toInt + (o0.1 31).toInt)) (x_4 : (o0.1 31).toInt = (yo0.1 31).toInt) (hm : 0 + (200 - v5.toInt) * 2 ≤ (n : Int)) : tt (fM_and_56 (gM_and n) v3 v4 v5 o0) (QM_and yv1 yv2 yo0) := by
  unfold fM_and_56
  have g_o0_31 : (0 : Int) ≤ (o0.1 31).toInt ∧ (o0.1 31).toInt ≤ 200 := k_o0.1 31
  have ey_o0_37 : (o0.1 37).toInt = (yo0.1 37).toInt := congrArg Int32.toInt (r_o0.1 37 rfl)
  refine tt_if (fun c1 => ?_) (fun c1 => ?_)
  · have wc1 : (o0.1 31).toInt ≤ v5.toInt := c_le c1
    refine tt_if (fun c2 => ?_) (fun c2 => ?_)
    · have wc2 : (o0.1 31).toInt = (200 : Int) := c_eq c2
      have i3 : (200 : Int) ≤ (o0.1 31).toInt ∧ (o0.1 31).toInt ≤ 200 := nr_eql c2 (k_o0.1 31) (show (200 : Int) ≤ (200 : Int32).toInt ∧ (200 : Int32).toInt ≤ 200 by decide) (by decide) (by decide)
      refine tt_ko ?_
      have k4 := ok_fp (k := 36) (v := 1) k_o0 (iv_w (a := 0) (b := 1) (by decide) (by decide) (show (1 : Int) ≤ (1 : Int32).toInt ∧ (1 : Int32).toInt ≤ 1 by decide))
      have r5 := fr_fp (k := 36) (v := 1) r_o0 rfl
      exact tt_some ⟨(iv_w (a := 0) (b := 417) (by decide) (by decide) (show (0 : Int) ≤ (0 : Int32).toInt ∧ (0 : Int32).toInt ≤ 0 by decide)), k4, r5, x_0, (show 0 < 2 * ((o0.1 37).toInt + (o0.1 31).toInt) by omega), (show (yo0.1 31).toInt ≤ (o0.1 31).toInt by omega), trivial⟩
    · have wc2 : ¬ (o0.1 31).toInt = (200 : Int) := c_ne c2
      have i6 : (0 : Int) ≤ (o0.1 31).toInt ∧ (o0.1 31).toInt ≤ 199 := nr_nelb c2 (k_o0.1 31) (show (200 : Int) ≤ (200 : Int32).toInt ∧ (200 : Int32).toInt ≤ 200 by decide) (by decide) (by decide)
      refine tt_kv (P := fun z => ((1 : Int) ≤ z.toInt ∧ z.toInt ≤ 208) ∧ z.toInt = v3.toInt / 2) ⟨iv_div (k := 2) i_v3 (show (2 : Int) ≤ (2 : Int32).toInt ∧ (2 : Int32).toInt ≤ 2 by decide) (by decide) (by decide) (by decide) (by decide), i_dv (Int.le_trans (by decide) i_v3.1) (by decide)⟩ (fun x7 qi8 => ?_)
      obtain ⟨i8, ei8⟩ := qi8
      refine tt_n (ix_ok i8 (by decide) (by decide)) ?_
      refine tt_kv (P := fun z => (((-2147483648) : Int) ≤ z.toInt ∧ z.toInt ≤ 2147483647) ∧ z.toInt = (o0.2.1 34 x7.toNatClampNeg).toInt) ⟨(k_o0.2 34 _), rfl⟩ (fun x9 qi10 => ?_)
      obtain ⟨i10, ei10⟩ := qi10
      refine tt_kv (P := fun z => ((0 : Int) ≤ z.toInt ∧ z.toInt ≤ 208) ∧ z.toInt = v4.toInt / 2) ⟨iv_div (k := 2) i_v4 (show (2 : Int) ≤ (2 : Int32).toInt ∧ (2 : Int32).toInt ≤ 2 by decide) (by decide) (by decide) (by decide) (by decide), i_dv (Int.le_trans (by decide) i_v4.1) (by decide)⟩ (fun x11 qi12 => ?_)
      obtain ⟨i12, ei12⟩ := qi12
      refine tt_n (ix_ok i12 (by decide) (by decide)) ?_
      refine tt_kv (P := fun z => (((-2147483648) : Int) ≤ z.toInt ∧ z.toInt ≤ 2147483647) ∧ z.toInt = (o0.2.1 34 x11.toNatClampNeg).toInt) ⟨(k_o0.2 34 _), rfl⟩ (fun x13 qi14 => ?_)
      obtain ⟨i14, ei14⟩ := qi14
      refine tt_if (fun c15 => ?_) (fun c15 => ?_)
      · have wc15 : x9.toInt ≤ x13.toInt := c_le c15
        refine tt_kv (P := fun z => ((0 : Int) ≤ z.toInt ∧ z.toInt ≤ 208) ∧ z.toInt = v4.toInt / 2) ⟨iv_div (k := 2) i_v4 (show (2 : Int) ≤ (2 : Int32).toInt ∧ (2 : Int32).toInt ≤ 2 by decide) (by decide) (by decide) (by decide) (by decide), i_dv (Int.le_trans (by decide) i_v4.1) (by decide)⟩ (fun x16 qi17 => ?_)
        obtain ⟨i17, ei17⟩ := qi17
        refine tt_n (ix_ok i17 (by decide) (by decide)) ?_
        refine tt_kv (P := fun z => (((-2147483648) : Int) ≤ z.toInt ∧ z.toInt ≤ 2147483647) ∧ z.toInt = (o0.2.1 34 x16.toNatClampNeg).toInt) ⟨(k_o0.2 34 _), rfl⟩ (fun x18 qi19 => ?_)
        obtain ⟨i19, ei19⟩ := qi19
        try unfold fM_and_161
        refine tt_n (ix_ok i6 (by decide) (by decide)) ?_
        refine tt_ko ?_
        have k20 := ok_xp (k := 32) (i := (o0.1 31).toNatClampNeg) (v := v3) k_o0 (iv_w (a := 0) (b := 417) (by decide) (by decide) i_v3)
        have r21 := fr_xp (k := 32) (i := (o0.1 31).toNatClampNeg) (v := v3) r_o0 rfl
        refine tt_n (ix_ok i6 (by decide) (by decide)) ?_
        refine tt_ko ?_
        have k22 := ok_xp (k := 33) (i := (o0.1 31).toNatClampNeg) (v := v4) k20 i_v4
        have r23 := fr_xp (k := 33) (i := (o0.1 31).toNatClampNeg) (v := v4) r21 rfl
        refine tt_kv (P := fun z => ((1 : Int) ≤ z.toInt ∧ z.toInt ≤ 208) ∧ z.toInt = (o0.1 37).toInt + (o0.1 31).toInt) ⟨iv_add f_o0_37 i6 (by decide) (by decide) (by decide) (by decide), iq_add f_o0_37 i6 (by decide) (by decide)⟩ (fun x24 qi25 => ?_)
        obtain ⟨i25, ei25⟩ := qi25
        refine tt_kv (P := fun z => ((-2147483648) : Int) ≤ z.toInt ∧ z.toInt ≤ 2147483647) (iv_top _) (fun x26 i27 => ?_)
        refine tt_n (ix_ok i25 (by decide) (by decide)) ?_
        refine tt_ko ?_
        have k28 := ok_xp (k := 34) (i := x24.toNatClampNeg) (v := x26) k22 i27
        have r29 := fr_xp (k := 34) (i := x24.toNatClampNeg) (v := x26) r23 rfl
        refine tt_kv (P := fun z => ((1 : Int) ≤ z.toInt ∧ z.toInt ≤ 200) ∧ z.toInt = (o0.1 31).toInt + 1) ⟨iv_add i6 (show (1 : Int) ≤ (1 : Int32).toInt ∧ (1 : Int32).toInt ≤ 1 by decide) (by decide) (by decide) (by decide) (by decide), iq_add i6 (show (1 : Int) ≤ (1 : Int32).toInt ∧ (1 : Int32).toInt ≤ 1 by decide) (by decide) (by decide)⟩ (fun x30 qi31 => ?_)
        obtain ⟨i31, ei31⟩ := qi31
        refine tt_ko ?_
        have k32 := ok_fp (k := 31) (v := x30) k28 (iv_w (a := 0) (b := 200) (by decide) (by decide) i31)
        have r33 := fr_fp (k := 31) (v := x30) r29 rfl
        refine tt_kv (P := fun z => ((2 : Int) ≤ z.toInt ∧ z.toInt ≤ 209) ∧ z.toInt = (o0.1 37).toInt + x30.toInt) ⟨iv_add f_o0_37 i31 (by decide) (by decide) (by decide) (by decide), iq_add f_o0_37 i31 (by decide) (by decide)⟩ (fun x34 qi35 => ?_)
        obtain ⟨i35, ei35⟩ := qi35
        refine tt_kv (P := fun z => ((1 : Int) ≤ z.toInt ∧ z.toInt ≤ 208) ∧ z.toInt = x34.toInt - 1) ⟨iv_sub i35 (show (1 : Int) ≤ (1 : Int32).toInt ∧ (1 : Int32).toInt ≤ 1 by decide) (by decide) (by decide) (by decide) (by decide), iq_sub i35 (show (1 : Int) ≤ (1 : Int32).toInt ∧ (1 : Int32).toInt ≤ 1 by decide) (by decide) (by decide)⟩ (fun x36 qi37 => ?_)
        obtain ⟨i37, ei37⟩ := qi37
        refine tt_kv (P := fun z => ((2 : Int) ≤ z.toInt ∧ z.toInt ≤ 416) ∧ z.toInt = 2 * x36.toInt) ⟨iv_mul (show (2 : Int) ≤ (2 : Int32).toInt ∧ (2 : Int32).toInt ≤ 2 by decide) i37 (by decide) (by decide) (by decide) (by decide) (by decide), iq_mul (show (2 : Int) ≤ (2 : Int32).toInt ∧ (2 : Int32).toInt ≤ 2 by decide) i37 (by decide) (by decide) (by decide) (by decide)⟩ (fun x38 qi39 => ?_)
        obtain ⟨i39, ei39⟩ := qi39
        have p40 : Gx (o0.1 37).toInt x30.toInt (upd (o0.2.1 32) ((o0.1 31).toNatClampNeg) v3) (upd (o0.2.1 33) ((o0.1 31).toNatClampNeg) v4) := by exact Gx_s x_0 (by omega) (by rw [tn_n]; omega) rfl (by omega) (by omega) (by omega)
        exact tt_some ⟨(iv_w (a := 0) (b := 417) (by decide) (by decide) i39), k32, r33, p40, (show x38.toInt < 2 * ((o0.1 37).toInt + x30.toInt) by omega), (show (yo0.1 31).toInt ≤ x30.toInt by omega), trivial⟩
      · have wc15 : x13.toInt < x9.toInt := c_nle c15
        have i41 : ((-2147483648) : Int) ≤ x13.toInt ∧ x13.toInt ≤ 2147483646 := nr_nlel c15 i14 i10 (by decide) (by decide)
        have i42 : ((-2147483647) : Int) ≤ x9.toInt ∧ x9.toInt ≤ 2147483647 := nr_nler c15 i14 i10 (by decide) (by decide)
        refine tt_kv (P := fun z => ((1 : Int) ≤ z.toInt ∧ z.toInt ≤ 208) ∧ z.toInt = v3.toInt / 2) ⟨iv_div (k := 2) i_v3 (show (2 : Int) ≤ (2 : Int32).toInt ∧ (2 : Int32).toInt ≤ 2 by decide) (by decide) (by decide) (by decide) (by decide), i_dv (Int.le_trans (by decide) i_v3.1) (by decide)⟩ (fun x43 qi44 => ?_)
        obtain ⟨i44, ei44⟩ := qi44
        refine tt_n (ix_ok i44 (by decide) (by decide)) ?_
        refine tt_kv (P := fun z => (((-2147483648) : Int) ≤ z.toInt ∧ z.toInt ≤ 2147483647) ∧ z.toInt = (o0.2.1 34 x43.toNatClampNeg).toInt) ⟨(k_o0.2 34 _), rfl⟩ (fun x45 qi46 => ?_)
        obtain ⟨i46, ei46⟩ := qi46
        try unfold fM_and_161
        refine tt_n (ix_ok i6 (by decide) (by decide)) ?_
        refine tt_ko ?_
        have k47 := ok_xp (k := 32) (i := (o0.1 31).toNatClampNeg) (v := v3) k_o0 (iv_w (a := 0) (b := 417) (by decide) (by decide) i_v3)
        have r48 := fr_xp (k := 32) (i := (o0.1 31).toNatClampNeg) (v := v3) r_o0 rfl
        refine tt_n (ix_ok i6 (by decide) (by decide)) ?_
        refine tt_ko ?_
        have k49 := ok_xp (k := 33) (i := (o0.1 31).toNatClampNeg) (v := v4) k47 i_v4
        have r50 := fr_xp (k := 33) (i := (o0.1 31).toNatClampNeg) (v := v4) r48 rfl
        refine tt_kv (P := fun z => ((1 : Int) ≤ z.toInt ∧ z.toInt ≤ 208) ∧ z.toInt = (o0.1 37).toInt + (o0.1 31).toInt) ⟨iv_add f_o0_37 i6 (by decide) (by decide) (by decide) (by decide), iq_add f_o0_37 i6 (by decide) (by decide)⟩ (fun x51 qi52 => ?_)
        obtain ⟨i52, ei52⟩ := qi52
        refine tt_kv (P := fun z => ((-2147483648) : Int) ≤ z.toInt ∧ z.toInt ≤ 2147483647) (iv_top _) (fun x53 i54 => ?_)
        refine tt_n (ix_ok i52 (by decide) (by decide)) ?_
        refine tt_ko ?_
        have k55 := ok_xp (k := 34) (i := x51.toNatClampNeg) (v := x53) k49 i54
        have r56 := fr_xp (k := 34) (i := x51.toNatClampNeg) (v := x53) r50 rfl
        refine tt_kv (P := fun z => ((1 : Int) ≤ z.toInt ∧ z.toInt ≤ 200) ∧ z.toInt = (o0.1 31).toInt + 1) ⟨iv_add i6 (show (1 : Int) ≤ (1 : Int32).toInt ∧ (1 : Int32).toInt ≤ 1 by decide) (by decide) (by decide) (by decide) (by decide), iq_add i6 (show (1 : Int) ≤ (1 : Int32).toInt ∧ (1 : Int32).toInt ≤ 1 by decide) (by decide) (by decide)⟩ (fun x57 qi58 => ?_)
        obtain ⟨i58, ei58⟩ := qi58
        refine tt_ko ?_
        have k59 := ok_fp (k := 31) (v := x57) k55 (iv_w (a := 0) (b := 200) (by decide) (by decide) i58)
        have r60 := fr_fp (k := 31) (v := x57) r56 rfl
        refine tt_kv (P := fun z => ((2 : Int) ≤ z.toInt ∧ z.toInt ≤ 209) ∧ z.toInt = (o0.1 37).toInt + x57.toInt) ⟨iv_add f_o0_37 i58 (by decide) (by decide) (by decide) (by decide), iq_add f_o0_37 i58 (by decide) (by decide)⟩ (fun x61 qi62 => ?_)
        obtain ⟨i62, ei62⟩ := qi62
        refine tt_kv (P := fun z => ((1 : Int) ≤ z.toInt ∧ z.toInt ≤ 208) ∧ z.toInt = x61.toInt - 1) ⟨iv_sub i62 (show (1 : Int) ≤ (1 : Int32).toInt ∧ (1 : Int32).toInt ≤ 1 by decide) (by decide) (by decide) (by decide) (by decide), iq_sub i62 (show (1 : Int) ≤ (1 : Int32).toInt ∧ (1 : Int32).toInt ≤ 1 by decide) (by decide) (by decide)⟩ (fun x63 qi64 => ?_)
        obtain ⟨i64, ei64⟩ := qi64
        refine tt_kv (P := fun z => ((2 : Int) ≤ z.toInt ∧ z.toInt ≤ 416) ∧ z.toInt = 2 * x63.toInt) ⟨iv_mul (show (2 : Int) ≤ (2 : Int32).toInt ∧ (2 : Int32).toInt ≤ 2 by decide) i64 (by decide) (by decide) (by decide) (by decide) (by decide), iq_mul (show (2 : Int) ≤ (2 : Int32).toInt ∧ (2 : Int32).toInt ≤ 2 by decide) i64 (by decide) (by decide) (by decide) (by decide)⟩ (fun x65 qi66 => ?_)
        obtain ⟨i66, ei66⟩ := qi66
        have p67 : Gx (o0.1 37).toInt x57.toInt (upd (o0.2.1 32) ((o0.1 31).toNatClampNeg) v3) (upd (o0.2.1 33) ((o0.1 31).toNatClampNeg) v4) := by exact Gx_s x_0 (by omega) (by rw [tn_n]; omega) rfl (by omega) (by omega) (by omega)
        exact tt_some ⟨(iv_w (a := 0) (b := 417) (by decide) (by decide) i66), k59, r60, p67, (show x65.toInt < 2 * ((o0.1 37).toInt + x57.toInt) by omega), (show (yo0.1 31).toInt ≤ x57.toInt by omega), trivial⟩
  · have wc1 : v5.toInt < (o0.1 31).toInt := c_nle c1
    have i68 : (0 : Int) ≤ v5.toInt ∧ v5.toInt ≤ 199 := nr_nlel c1 i_v5 (k_o0.1 31) (by decide) (by decide)
    have i69 : (1 : Int) ≤ (o0.1 31).toInt ∧ (o0.1 31).toInt ≤ 200 := nr_nler c1 i_v5 (k_o0.1 31) (by decide) (by decide)
    refine tt_n (ix_ok i68 (by decide) (by decide)) ?_
    refine tt_kv (P := fun z => ((0 : Int) ≤ z.toInt ∧ z.toInt ≤ 417) ∧ z.toInt = (o0.2.1 32 v5.toNatClampNeg).toInt) ⟨(k_o0.2 32 _), rfl⟩ (fun x70 qi71 => ?_)
    obtain ⟨i71, ei71⟩ := qi71
    refine tt_if (fun c72 => ?_) (fun c72 => ?_)
    · have wc72 : x70.toInt = v3.toInt := c_eq c72
      have i73 : (2 : Int) ≤ x70.toInt ∧ x70.toInt ≤ 417 := nr_eql c72 i71 i_v3 (by decide) (by decide)
      refine tt_n (ix_ok i68 (by decide) (by decide)) ?_
      refine tt_kv (P := fun z => ((0 : Int) ≤ z.toInt ∧ z.toInt ≤ 417) ∧ z.toInt = (o0.2.1 33 v5.toNatClampNeg).toInt) ⟨(k_o0.2 33 _), rfl⟩ (fun x74 qi75 => ?_)
      obtain ⟨i75, ei75⟩ := qi75
      refine tt_if (fun c76 => ?_) (fun c76 => ?_)
      · have wc76 : x74.toInt = v4.toInt := c_eq c76
        refine tt_kv (P := fun z => ((1 : Int) ≤ z.toInt ∧ z.toInt ≤ 208) ∧ z.toInt = (o0.1 37).toInt + v5.toInt) ⟨iv_add f_o0_37 i68 (by decide) (by decide) (by decide) (by decide), iq_add f_o0_37 i68 (by decide) (by decide)⟩ (fun x77 qi78 => ?_)
        obtain ⟨i78, ei78⟩ := qi78
        refine tt_kv (P := fun z => ((2 : Int) ≤ z.toInt ∧ z.toInt ≤ 416) ∧ z.toInt = 2 * x77.toInt) ⟨iv_mul (show (2 : Int) ≤ (2 : Int32).toInt ∧ (2 : Int32).toInt ≤ 2 by decide) i78 (by decide) (by decide) (by decide) (by decide) (by decide), iq_mul (show (2 : Int) ≤ (2 : Int32).toInt ∧ (2 : Int32).toInt ≤ 2 by decide) i78 (by decide) (by decide) (by decide) (by decide)⟩ (fun x79 qi80 => ?_)
        obtain ⟨i80, ei80⟩ := qi80
        exact tt_some ⟨(iv_w (a := 0) (b := 417) (by decide) (by decide) i80), k_o0, r_o0, x_0, (show x79.toInt < 2 * ((o0.1 37).toInt + (o0.1 31).toInt) by omega), (show (yo0.1 31).toInt ≤ (o0.1 31).toInt by omega), trivial⟩
      · have wc76 : ¬ x74.toInt = v4.toInt := c_ne c76
        try unfold fM_and_98
        refine tt_kv (P := fun z => ((1 : Int) ≤ z.toInt ∧ z.toInt ≤ 200) ∧ z.toInt = v5.toInt + 1) ⟨iv_add i68 (show (1 : Int) ≤ (1 : Int32).toInt ∧ (1 : Int32).toInt ≤ 1 by decide) (by decide) (by decide) (by decide) (by decide), iq_add i68 (show (1 : Int) ≤ (1 : Int32).toInt ∧ (1 : Int32).toInt ≤ 1 by decide) (by decide) (by decide)⟩ (fun x81 qi82 => ?_)
        obtain ⟨i82, ei82⟩ := qi82
        exact H _ _ _ _ k_o0 r_o0 i_v3 i_v4 (iv_w (a := 0) (b := 200) (by decide) (by decide) i82) f_o0_0 f_o0_37 f_o0_95 x_0 (show 2 ≤ v3.toInt by omega) (show v3.toInt / 2 < v4.toInt / 2 by omega) (show v4.toInt < 2 * ((o0.1 37).toInt + (o0.1 31).toInt) by omega) (show (o0.1 31).toInt = (yo0.1 31).toInt by omega) (show 0 + (200 - x81.toInt) * 2 < (n : Int) by omega)
    · have wc72 : ¬ x70.toInt = v3.toInt := c_ne c72
      try unfold fM_and_98
      refine tt_kv (P := fun z => ((1 : Int) ≤ z.toInt ∧ z.toInt ≤ 200) ∧ z.toInt = v5.toInt + 1) ⟨iv_add i68 (show (1 : Int) ≤ (1 : Int32).toInt ∧ (1 : Int32).toInt ≤ 1 by decide) (by decide) (by decide) (by decide) (by decide), iq_add i68 (show (1 : Int) ≤ (1 : Int32).toInt ∧ (1 : Int32).toInt ≤ 1 by decide) (by decide) (by decide)⟩ (fun x83 qi84 => ?_)
      obtain ⟨i84, ei84⟩ := qi84
      exact H _ _ _ _ k_o0 r_o0 i_v3 i_v4 (iv_w (a := 0) (b := 200) (by decide) (by decide) i84) f_o0_0 f_o0_37 f_o0_95 x_0 (show 2 ≤ v3.toInt by omega) (show v3.toInt / 2 < v4.toInt / 2 by omega) (show v4.toInt < 2 * ((o0.1 37).toInt + (o0.1 31).toInt) by omega) (show (o0.1 31).toInt = (yo0.1 31).toInt by omega) (show 0 + (200 - x83.toInt) * 2 < (n : Int) by omega)
set_option maxHeartbeats 4000000 in
set_option maxRecDepth 100000 in
theorem hM_and (yv1 : Int32) (yv2 : Int32) (yo0 : cf_O) : ∀ n, HM_and yv1 yv2 yo0 n := by
  intro n
  induction n with
  | zero => exact (fun v3 v4 v5 o0 k_o0 r_o0 i_v3 i_v4 i_v5 f_o0_0 f_o0_37 f_o0_95 x_0 x_1 x_2 x_3 x_4 hm => by exact absurd (show 0 + (200 - v5.toInt) * 2 < (0 : Int) from hm) (by omega))
  | succ n ih => exact (fun v3 v4 v5 o0 k_o0 r_o0 i_v3 i_v4 i_v5 f_o0_0 f_o0_37 f_o0_95 x_0 x_1 x_2 x_3 x_4 hm => tM_and_56 ih v3 v4 v5 o0 k_o0 r_o0 i_v3 i_v4 i_v5 f_o0_0 f_o0_37 f_o0_95 x_0 x_1 x_2 x_3 x_4 (by omega))
set_option maxHeartbeats 4000000 in
set_option maxRecDepth 100000 in
theorem sM_and (v1 : Int32) (v2 : Int32) (o0 : cf_O) (k_o0 : okO I_M o0) (i_v1 : (0 : Int) ≤ v1.toInt ∧ v1.toInt ≤ 417) (i_v2 : (0 : Int) ≤ v2.toInt ∧ v2.toInt ≤ 417) (f_o0_0 : (0 : Int) ≤ (o0.1 0).toInt ∧ (o0.1 0).toInt ≤ 2) (f_o0_37 : (1 : Int) ≤ (o0.1 37).toInt ∧ (o0.1 37).toInt ≤ 9) (f_o0_95 : (0 : Int) ≤ (o0.1 95).toInt ∧ (o0.1 95).toInt ≤ 0) (x_0 : Gx (o0.1 37).toInt (o0.1 31).toInt (o0.2.1 32) (o0.2.1 33)) (x_1 : v1.toInt < 2 * ((o0.1 37).toInt + (o0.1 31).toInt)) (x_2 : v2.toInt < 2 * ((o0.1 37).toInt + (o0.1 31).toInt)) : tt (fM_and v1 v2 o0) (QM_and v1 v2 o0) := by
  have H := hM_and v1 v2 o0 cfFU
  have hm : (403 : Int) ≤ (cfFU : Nat) := by decide
  have r_o0 : Fr (fr_M [31, 36] [32, 33, 34] []) o0 o0 := fr_rfl
  unfold fM_and fM_and_0
  have g_o0_31 : (0 : Int) ≤ (o0.1 31).toInt ∧ (o0.1 31).toInt ≤ 200 := k_o0.1 31
  refine tt_if (fun c1 => ?_) (fun c1 => ?_)
  · have wc1 : v2.toInt ≤ v1.toInt := c_le c1
    try unfold fM_and_10
    refine tt_if (fun c2 => ?_) (fun c2 => ?_)
    · have wc2 : v2.toInt ≤ v1.toInt := c_le c2
      try unfold fM_and_21
      refine tt_if (fun c3 => ?_) (fun c3 => ?_)
      · have wc3 : v2.toInt = (0 : Int) := c_eq c3
        have i4 : (0 : Int) ≤ v2.toInt ∧ v2.toInt ≤ 0 := nr_eql c3 i_v2 (show (0 : Int) ≤ (0 : Int32).toInt ∧ (0 : Int32).toInt ≤ 0 by decide) (by decide) (by decide)
        try unfold fM_and_33
        exact tt_some ⟨(iv_w (a := 0) (b := 417) (by decide) (by decide) i4), k_o0, r_o0, x_0, (show v2.toInt < 2 * ((o0.1 37).toInt + (o0.1 31).toInt) by omega), (show (o0.1 31).toInt ≤ (o0.1 31).toInt by omega), trivial⟩
      · have wc3 : ¬ v2.toInt = (0 : Int) := c_ne c3
        have i5 : (1 : Int) ≤ v2.toInt ∧ v2.toInt ≤ 417 := nr_nela c3 i_v2 (show (0 : Int) ≤ (0 : Int32).toInt ∧ (0 : Int32).toInt ≤ 0 by decide) (by decide) (by decide)
        refine tt_if (fun c6 => ?_) (fun c6 => ?_)
        · have wc6 : v2.toInt = v1.toInt := c_eq c6
          have i7 : (1 : Int) ≤ v1.toInt ∧ v1.toInt ≤ 417 := nr_eqr c6 i5 i_v1 (by decide) (by decide)
          try unfold fM_and_33
          exact tt_some ⟨(iv_w (a := 0) (b := 417) (by decide) (by decide) i5), k_o0, r_o0, x_0, (show v2.toInt < 2 * ((o0.1 37).toInt + (o0.1 31).toInt) by omega), (show (o0.1 31).toInt ≤ (o0.1 31).toInt by omega), trivial⟩
        · have wc6 : ¬ v2.toInt = v1.toInt := c_ne c6
          refine tt_if (fun c8 => ?_) (fun c8 => ?_)
          · have wc8 : v2.toInt = (1 : Int) := c_eq c8
            have i9 : (1 : Int) ≤ v2.toInt ∧ v2.toInt ≤ 1 := nr_eql c8 i5 (show (1 : Int) ≤ (1 : Int32).toInt ∧ (1 : Int32).toInt ≤ 1 by decide) (by decide) (by decide)
            exact tt_some ⟨i_v1, k_o0, r_o0, x_0, (show v1.toInt < 2 * ((o0.1 37).toInt + (o0.1 31).toInt) by omega), (show (o0.1 31).toInt ≤ (o0.1 31).toInt by omega), trivial⟩
          · have wc8 : ¬ v2.toInt = (1 : Int) := c_ne c8
            have i10 : (2 : Int) ≤ v2.toInt ∧ v2.toInt ≤ 417 := nr_nela c8 i5 (show (1 : Int) ≤ (1 : Int32).toInt ∧ (1 : Int32).toInt ≤ 1 by decide) (by decide) (by decide)
            refine tt_kv (P := fun z => ((2 : Int) ≤ z.toInt ∧ z.toInt ≤ 417) ∧ z.toInt = v2.toInt + 1 - 2 * (v2.toInt % 2)) ⟨iv_x1 i10 (show (1 : Int) ≤ (1 : Int32).toInt ∧ (1 : Int32).toInt ≤ 1 by decide) (by decide) (by decide) (by decide) (by decide) (by decide), i_x1 (Int.le_trans (by decide) i10.1)⟩ (fun x11 qi12 => ?_)
            obtain ⟨i12, ei12⟩ := qi12
            refine tt_if (fun c13 => ?_) (fun c13 => ?_)
            · have wc13 : x11.toInt = v1.toInt := c_eq c13
              have i14 : (2 : Int) ≤ v1.toInt ∧ v1.toInt ≤ 417 := nr_eqr c13 i12 i_v1 (by decide) (by decide)
              exact tt_some ⟨(iv_w (a := 0) (b := 417) (by decide) (by decide) (show (0 : Int) ≤ (0 : Int32).toInt ∧ (0 : Int32).toInt ≤ 0 by decide)), k_o0, r_o0, x_0, (show 0 < 2 * ((o0.1 37).toInt + (o0.1 31).toInt) by omega), (show (o0.1 31).toInt ≤ (o0.1 31).toInt by omega), trivial⟩
            · have wc13 : ¬ x11.toInt = v1.toInt := c_ne c13
              exact H _ _ _ _ k_o0 r_o0 i10 i_v1 (iv_w (a := 0) (b := 200) (by decide) (by decide) (show (0 : Int) ≤ (0 : Int32).toInt ∧ (0 : Int32).toInt ≤ 0 by decide)) f_o0_0 f_o0_37 f_o0_95 x_0 (show 2 ≤ v2.toInt by omega) (show v2.toInt / 2 < v1.toInt / 2 by omega) (show v1.toInt < 2 * ((o0.1 37).toInt + (o0.1 31).toInt) by omega) (show (o0.1 31).toInt = (o0.1 31).toInt by omega) (show 0 + (200 - 0) * 2 < ((cfFU : Nat) : Int) by omega)
    · have wc2 : v1.toInt < v2.toInt := c_nle c2
      have i15 : (0 : Int) ≤ v1.toInt ∧ v1.toInt ≤ 416 := nr_nlel c2 i_v1 i_v2 (by decide) (by decide)
      have i16 : (1 : Int) ≤ v2.toInt ∧ v2.toInt ≤ 417 := nr_nler c2 i_v1 i_v2 (by decide) (by decide)
      try unfold fM_and_21
      refine tt_if (fun c17 => ?_) (fun c17 => ?_)
      · have wc17 : v2.toInt = (0 : Int) := c_eq c17
        exact (dd_eq c17 i16 (show (0 : Int) ≤ (0 : Int32).toInt ∧ (0 : Int32).toInt ≤ 0 by decide) (by decide)).elim
      · have wc17 : ¬ v2.toInt = (0 : Int) := c_ne c17
        refine tt_if (fun c18 => ?_) (fun c18 => ?_)
        · have wc18 : v2.toInt = v2.toInt := c_eq c18
          try unfold fM_and_33
          exact tt_some ⟨(iv_w (a := 0) (b := 417) (by decide) (by decide) i16), k_o0, r_o0, x_0, (show v2.toInt < 2 * ((o0.1 37).toInt + (o0.1 31).toInt) by omega), (show (o0.1 31).toInt ≤ (o0.1 31).toInt by omega), trivial⟩
        · have wc18 : ¬ v2.toInt = v2.toInt := c_ne c18
          refine tt_if (fun c19 => ?_) (fun c19 => ?_)
          · have wc19 : v2.toInt = (1 : Int) := c_eq c19
            have i20 : (1 : Int) ≤ v2.toInt ∧ v2.toInt ≤ 1 := nr_eql c19 i16 (show (1 : Int) ≤ (1 : Int32).toInt ∧ (1 : Int32).toInt ≤ 1 by decide) (by decide) (by decide)
            exact tt_some ⟨(iv_w (a := 0) (b := 417) (by decide) (by decide) i20), k_o0, r_o0, x_0, (show v2.toInt < 2 * ((o0.1 37).toInt + (o0.1 31).toInt) by omega), (show (o0.1 31).toInt ≤ (o0.1 31).toInt by omega), trivial⟩
          · have wc19 : ¬ v2.toInt = (1 : Int) := c_ne c19
            have i21 : (2 : Int) ≤ v2.toInt ∧ v2.toInt ≤ 417 := nr_nela c19 i16 (show (1 : Int) ≤ (1 : Int32).toInt ∧ (1 : Int32).toInt ≤ 1 by decide) (by decide) (by decide)
            refine tt_kv (P := fun z => ((2 : Int) ≤ z.toInt ∧ z.toInt ≤ 417) ∧ z.toInt = v2.toInt + 1 - 2 * (v2.toInt % 2)) ⟨iv_x1 i21 (show (1 : Int) ≤ (1 : Int32).toInt ∧ (1 : Int32).toInt ≤ 1 by decide) (by decide) (by decide) (by decide) (by decide) (by decide), i_x1 (Int.le_trans (by decide) i21.1)⟩ (fun x22 qi23 => ?_)
            obtain ⟨i23, ei23⟩ := qi23
            refine tt_if (fun c24 => ?_) (fun c24 => ?_)
            · have wc24 : x22.toInt = v2.toInt := c_eq c24
              exact tt_some ⟨(iv_w (a := 0) (b := 417) (by decide) (by decide) (show (0 : Int) ≤ (0 : Int32).toInt ∧ (0 : Int32).toInt ≤ 0 by decide)), k_o0, r_o0, x_0, (show 0 < 2 * ((o0.1 37).toInt + (o0.1 31).toInt) by omega), (show (o0.1 31).toInt ≤ (o0.1 31).toInt by omega), trivial⟩
            · have wc24 : ¬ x22.toInt = v2.toInt := c_ne c24
              exact H _ _ _ _ k_o0 r_o0 i21 (iv_w (a := 0) (b := 417) (by decide) (by decide) i21) (iv_w (a := 0) (b := 200) (by decide) (by decide) (show (0 : Int) ≤ (0 : Int32).toInt ∧ (0 : Int32).toInt ≤ 0 by decide)) f_o0_0 f_o0_37 f_o0_95 x_0 (show 2 ≤ v2.toInt by omega) (show v2.toInt / 2 < v2.toInt / 2 by omega) (show v2.toInt < 2 * ((o0.1 37).toInt + (o0.1 31).toInt) by omega) (show (o0.1 31).toInt = (o0.1 31).toInt by omega) (show 0 + (200 - 0) * 2 < ((cfFU : Nat) : Int) by omega)
  · have wc1 : v1.toInt < v2.toInt := c_nle c1
    have i25 : (0 : Int) ≤ v1.toInt ∧ v1.toInt ≤ 416 := nr_nlel c1 i_v1 i_v2 (by decide) (by decide)
    have i26 : (1 : Int) ≤ v2.toInt ∧ v2.toInt ≤ 417 := nr_nler c1 i_v1 i_v2 (by decide) (by decide)
    try unfold fM_and_10
    refine tt_if (fun c27 => ?_) (fun c27 => ?_)
    · have wc27 : v2.toInt ≤ v1.toInt := c_le c27
      have i28 : (1 : Int) ≤ v2.toInt ∧ v2.toInt ≤ 416 := nr_lel c27 i26 i25 (by decide) (by decide)
      have i29 : (1 : Int) ≤ v1.toInt ∧ v1.toInt ≤ 416 := nr_ler c27 i26 i25 (by decide) (by decide)
      try unfold fM_and_21
      refine tt_if (fun c30 => ?_) (fun c30 => ?_)
      · have wc30 : v1.toInt = (0 : Int) := c_eq c30
        exact (dd_eq c30 i29 (show (0 : Int) ≤ (0 : Int32).toInt ∧ (0 : Int32).toInt ≤ 0 by decide) (by decide)).elim
      · have wc30 : ¬ v1.toInt = (0 : Int) := c_ne c30
        refine tt_if (fun c31 => ?_) (fun c31 => ?_)
        · have wc31 : v1.toInt = v1.toInt := c_eq c31
          try unfold fM_and_33
          exact tt_some ⟨(iv_w (a := 0) (b := 417) (by decide) (by decide) i29), k_o0, r_o0, x_0, (show v1.toInt < 2 * ((o0.1 37).toInt + (o0.1 31).toInt) by omega), (show (o0.1 31).toInt ≤ (o0.1 31).toInt by omega), trivial⟩
        · have wc31 : ¬ v1.toInt = v1.toInt := c_ne c31
          refine tt_if (fun c32 => ?_) (fun c32 => ?_)
          · have wc32 : v1.toInt = (1 : Int) := c_eq c32
            have i33 : (1 : Int) ≤ v1.toInt ∧ v1.toInt ≤ 1 := nr_eql c32 i29 (show (1 : Int) ≤ (1 : Int32).toInt ∧ (1 : Int32).toInt ≤ 1 by decide) (by decide) (by decide)
            exact tt_some ⟨(iv_w (a := 0) (b := 417) (by decide) (by decide) i33), k_o0, r_o0, x_0, (show v1.toInt < 2 * ((o0.1 37).toInt + (o0.1 31).toInt) by omega), (show (o0.1 31).toInt ≤ (o0.1 31).toInt by omega), trivial⟩
          · have wc32 : ¬ v1.toInt = (1 : Int) := c_ne c32
            have i34 : (2 : Int) ≤ v1.toInt ∧ v1.toInt ≤ 416 := nr_nela c32 i29 (show (1 : Int) ≤ (1 : Int32).toInt ∧ (1 : Int32).toInt ≤ 1 by decide) (by decide) (by decide)
            refine tt_kv (P := fun z => ((2 : Int) ≤ z.toInt ∧ z.toInt ≤ 417) ∧ z.toInt = v1.toInt + 1 - 2 * (v1.toInt % 2)) ⟨iv_x1 i34 (show (1 : Int) ≤ (1 : Int32).toInt ∧ (1 : Int32).toInt ≤ 1 by decide) (by decide) (by decide) (by decide) (by decide) (by decide), i_x1 (Int.le_trans (by decide) i34.1)⟩ (fun x35 qi36 => ?_)
            obtain ⟨i36, ei36⟩ := qi36
            refine tt_if (fun c37 => ?_) (fun c37 => ?_)
            · have wc37 : x35.toInt = v1.toInt := c_eq c37
              have i38 : (2 : Int) ≤ x35.toInt ∧ x35.toInt ≤ 416 := nr_eql c37 i36 i34 (by decide) (by decide)
              exact tt_some ⟨(iv_w (a := 0) (b := 417) (by decide) (by decide) (show (0 : Int) ≤ (0 : Int32).toInt ∧ (0 : Int32).toInt ≤ 0 by decide)), k_o0, r_o0, x_0, (show 0 < 2 * ((o0.1 37).toInt + (o0.1 31).toInt) by omega), (show (o0.1 31).toInt ≤ (o0.1 31).toInt by omega), trivial⟩
            · have wc37 : ¬ x35.toInt = v1.toInt := c_ne c37
              exact H _ _ _ _ k_o0 r_o0 (iv_w (a := 2) (b := 417) (by decide) (by decide) i34) (iv_w (a := 0) (b := 417) (by decide) (by decide) i34) (iv_w (a := 0) (b := 200) (by decide) (by decide) (show (0 : Int) ≤ (0 : Int32).toInt ∧ (0 : Int32).toInt ≤ 0 by decide)) f_o0_0 f_o0_37 f_o0_95 x_0 (show 2 ≤ v1.toInt by omega) (show v1.toInt / 2 < v1.toInt / 2 by omega) (show v1.toInt < 2 * ((o0.1 37).toInt + (o0.1 31).toInt) by omega) (show (o0.1 31).toInt = (o0.1 31).toInt by omega) (show 0 + (200 - 0) * 2 < ((cfFU : Nat) : Int) by omega)
    · have wc27 : v1.toInt < v2.toInt := c_nle c27
      try unfold fM_and_21
      refine tt_if (fun c39 => ?_) (fun c39 => ?_)
      · have wc39 : v1.toInt = (0 : Int) := c_eq c39
        have i40 : (0 : Int) ≤ v1.toInt ∧ v1.toInt ≤ 0 := nr_eql c39 i25 (show (0 : Int) ≤ (0 : Int32).toInt ∧ (0 : Int32).toInt ≤ 0 by decide) (by decide) (by decide)
        try unfold fM_and_33
        exact tt_some ⟨(iv_w (a := 0) (b := 417) (by decide) (by decide) i40), k_o0, r_o0, x_0, (show v1.toInt < 2 * ((o0.1 37).toInt + (o0.1 31).toInt) by omega), (show (o0.1 31).toInt ≤ (o0.1 31).toInt by omega), trivial⟩
      · have wc39 : ¬ v1.toInt = (0 : Int) := c_ne c39
        have i41 : (1 : Int) ≤ v1.toInt ∧ v1.toInt ≤ 416 := nr_nela c39 i25 (show (0 : Int) ≤ (0 : Int32).toInt ∧ (0 : Int32).toInt ≤ 0 by decide) (by decide) (by decide)
        refine tt_if (fun c42 => ?_) (fun c42 => ?_)
        · have wc42 : v1.toInt = v2.toInt := c_eq c42
          have i43 : (1 : Int) ≤ v2.toInt ∧ v2.toInt ≤ 416 := nr_eqr c42 i41 i26 (by decide) (by decide)
          try unfold fM_and_33
          exact tt_some ⟨(iv_w (a := 0) (b := 417) (by decide) (by decide) i41), k_o0, r_o0, x_0, (show v1.toInt < 2 * ((o0.1 37).toInt + (o0.1 31).toInt) by omega), (show (o0.1 31).toInt ≤ (o0.1 31).toInt by omega), trivial⟩
        · have wc42 : ¬ v1.toInt = v2.toInt := c_ne c42
          refine tt_if (fun c44 => ?_) (fun c44 => ?_)
          · have wc44 : v1.toInt = (1 : Int) := c_eq c44
            have i45 : (1 : Int) ≤ v1.toInt ∧ v1.toInt ≤ 1 := nr_eql c44 i41 (show (1 : Int) ≤ (1 : Int32).toInt ∧ (1 : Int32).toInt ≤ 1 by decide) (by decide) (by decide)
            exact tt_some ⟨(iv_w (a := 0) (b := 417) (by decide) (by decide) i26), k_o0, r_o0, x_0, (show v2.toInt < 2 * ((o0.1 37).toInt + (o0.1 31).toInt) by omega), (show (o0.1 31).toInt ≤ (o0.1 31).toInt by omega), trivial⟩
          · have wc44 : ¬ v1.toInt = (1 : Int) := c_ne c44
            have i46 : (2 : Int) ≤ v1.toInt ∧ v1.toInt ≤ 416 := nr_nela c44 i41 (show (1 : Int) ≤ (1 : Int32).toInt ∧ (1 : Int32).toInt ≤ 1 by decide) (by decide) (by decide)
            refine tt_kv (P := fun z => ((2 : Int) ≤ z.toInt ∧ z.toInt ≤ 417) ∧ z.toInt = v1.toInt + 1 - 2 * (v1.toInt % 2)) ⟨iv_x1 i46 (show (1 : Int) ≤ (1 : Int32).toInt ∧ (1 : Int32).toInt ≤ 1 by decide) (by decide) (by decide) (by decide) (by decide) (by decide), i_x1 (Int.le_trans (by decide) i46.1)⟩ (fun x47 qi48 => ?_)
            obtain ⟨i48, ei48⟩ := qi48
            refine tt_if (fun c49 => ?_) (fun c49 => ?_)
            · have wc49 : x47.toInt = v2.toInt := c_eq c49
              have i50 : (2 : Int) ≤ v2.toInt ∧ v2.toInt ≤ 417 := nr_eqr c49 i48 i26 (by decide) (by decide)
              exact tt_some ⟨(iv_w (a := 0) (b := 417) (by decide) (by decide) (show (0 : Int) ≤ (0 : Int32).toInt ∧ (0 : Int32).toInt ≤ 0 by decide)), k_o0, r_o0, x_0, (show 0 < 2 * ((o0.1 37).toInt + (o0.1 31).toInt) by omega), (show (o0.1 31).toInt ≤ (o0.1 31).toInt by omega), trivial⟩
            · have wc49 : ¬ x47.toInt = v2.toInt := c_ne c49
              exact H _ _ _ _ k_o0 r_o0 (iv_w (a := 2) (b := 417) (by decide) (by decide) i46) (iv_w (a := 0) (b := 417) (by decide) (by decide) i26) (iv_w (a := 0) (b := 200) (by decide) (by decide) (show (0 : Int) ≤ (0 : Int32).toInt ∧ (0 : Int32).toInt ≤ 0 by decide)) f_o0_0 f_o0_37 f_o0_95 x_0 (show 2 ≤ v1.toInt by omega) (show v1.toInt / 2 < v2.toInt / 2 by omega) (show v2.toInt < 2 * ((o0.1 37).toInt + (o0.1 31).toInt) by omega) (show (o0.1 31).toInt = (o0.1 31).toInt by omega) (show 0 + (200 - 0) * 2 < ((cfFU : Nat) : Int) by omega)
def QM_tableLiteral (v1 : Int32) (o0 : cf_O) (r : (Int32 × cf_O)) : Prop := ((0 : Int) ≤ r.1.toInt ∧ r.1.toInt ≤ 417) ∧ (okO I_M r.2) ∧ (Fr (fr_M [31, 36] [32, 33, 34] []) o0 r.2) ∧ (Gx (r.2.1 37).toInt (r.2.1 31).toInt (r.2.2.1 32) (r.2.2.1 33)) ∧ (Vl (r.2.1 17).toInt ((r.2.1 37).toInt + (r.2.1 31).toInt) (r.2.2.1 27) (r.2.2.1 26)) ∧ (r.1.toInt < 2 * ((r.2.1 37).toInt + (r.2.1 31).toInt)) ∧ ((o0.1 31).toInt ≤ (r.2.1 31).toInt) ∧ True
def HM_tableLiteral (yv1 : Int32) (yo0 : cf_O) (n : Nat) : Prop := (∀ (v1 : Int32) (v2 : Int32) (v3 : Int32) (o0 : cf_O), (okO I_M o0) → (Fr (fr_M [31, 36] [32, 33, 34] []) yo0 o0) → ((0 : Int) ≤ v1.toInt ∧ v1.toInt ≤ 29) → ((0 : Int) ≤ v2.toInt ∧ v2.toInt ≤ 417) → ((0 : Int) ≤ v3.toInt ∧ v3.toInt ≤ 17) → ((0 : Int) ≤ (o0.1 0).toInt ∧ (o0.1 0).toInt ≤ 0) → ((0 : Int) ≤ (o0.1 5).toInt ∧ (o0.1 5).toInt ≤ 0) → ((1 : Int) ≤ (o0.1 13).toInt ∧ (o0.1 13).toInt ≤ 6) → ((1 : Int) ≤ (o0.1 29).toInt ∧ (o0.1 29).toInt ≤ 32) → ((1 : Int) ≤ (o0.1 37).toInt ∧ (o0.1 37).toInt ≤ 9) → ((0 : Int) ≤ (o0.1 95).toInt ∧ (o0.1 95).toInt ≤ 0) → (Rf (o0.2.1 22) (o0.2.1 23) (o0.2.1 19)) → (Gx (o0.1 37).toInt (o0.1 31).toInt (o0.2.1 32) (o0.2.1 33)) → (Gl v1.toInt ((yo0.1 37).toInt + (yo0.1 31).toInt) (o0.2.1 25) (o0.2.1 19) (o0.2.1 26)) → (Vl (o0.1 17).toInt ((yo0.1 37).toInt + (yo0.1 31).toInt) (o0.2.1 27) (o0.2.1 26)) → (1 ≤ (o0.1 37).toInt) → ((yo0.1 31).toInt ≤ (o0.1 31).toInt) → (v2.toInt < 2 * ((o0.1 37).toInt + (o0.1 31).toInt)) → 0 + (17 - v3.toInt) * 14 < (n : Int) → tt (gM_tableLiteral n 0 v1 v2 v3 0 0 o0) (QM_tableLiteral yv1 yo0)) ∧ (∀ (v1 : Int32) (v2 : Int32) (v3 : Int32) (v4 : Int32) (v5 : Int32) (o0 : cf_O), (okO I_M o0) → (Fr (fr_M [31, 36] [32, 33, 34] []) yo0 o0) → ((0 : Int) ≤ v1.toInt ∧ v1.toInt ≤ 29) → ((0 : Int) ≤ v2.toInt ∧ v2.toInt ≤ 417) → ((0 : Int) ≤ v3.toInt ∧ v3.toInt ≤ 16) → ((0 : Int) ≤ v4.toInt ∧ v4.toInt ≤ 417) → ((0 : Int) ≤ v5.toInt ∧ v5.toInt ≤ 5) → ((0 : Int) ≤ (o0.1 0).toInt ∧ (o0.1 0).toInt ≤ 0) → ((0 : Int) ≤ (o0.1 5).toInt ∧ (o0.1 5).toInt ≤ 0) → ((1 : Int) ≤ (o0.1 13).toInt ∧ (o0.1 13).toInt ≤ 6) → ((1 : Int) ≤ (o0.1 29).toInt ∧ (o0.1 29).toInt ≤ 32) → ((1 : Int) ≤ (o0.1 37).toInt ∧ (o0.1 37).toInt ≤ 9) → ((0 : Int) ≤ (o0.1 95).toInt ∧ (o0.1 95).toInt ≤ 0) → (Rf (o0.2.1 22) (o0.2.1 23) (o0.2.1 19)) → ((v3.toInt < (o0.2.1 22 v1.toNatClampNeg).toInt)) → (Gx (o0.1 37).toInt (o0.1 31).toInt (o0.2.1 32) (o0.2.1 33)) → (Gl v1.toInt ((yo0.1 37).toInt + (yo0.1 31).toInt) (o0.2.1 25) (o0.2.1 19) (o0.2.1 26)) → (Vl (o0.1 17).toInt ((yo0.1 37).toInt + (yo0.1 31).toInt) (o0.2.1 27) (o0.2.1 26)) → (1 ≤ (o0.1 37).toInt) → ((yo0.1 31).toInt ≤ (o0.1 31).toInt) → (v2.toInt < 2 * ((o0.1 37).toInt + (o0.1 31).toInt)) → (v4.toInt < 2 * ((o0.1 37).toInt + (o0.1 31).toInt)) → 0 + (17 - v3.toInt - 1) * 14 + 1 + (5 - v5.toInt) * 2 < (n : Int) → tt (gM_tableLiteral n 1 v1 v2 v3 v4 v5 o0) (QM_tableLiteral yv1 yo0))
set_option maxHeartbeats 4000000 in
set_option maxRecDepth 100000 in
theorem tM_tableLiteral_20 {yv1 : Int32} {yo0 : cf_O} {n : Nat} (H : HM_tableLiteral yv1 yo0 n) (v1 : Int32) (v2 : Int32) (v3 : Int32) (v4 : Int32) (v5 : Int32) (o0 : cf_O) (k_o0 : okO I_M o0) (r_o0 : Fr (fr_M [31, 36] [32, 33, 34] []) yo0 o0) (i_v1 : (0 : Int) ≤ v1.toInt ∧ v1.toInt ≤ 29) (i_v2 : (0 : Int) ≤ v2.toInt ∧ v2.toInt ≤ 417) (i_v3 : (0 : Int) ≤ v3.toInt ∧ v3.toInt ≤ 16) (i_v4 : (0 : Int) ≤ v4.toInt ∧ v4.toInt ≤ 417) (i_v5 : (0 : Int) ≤ v5.toInt ∧ v5.toInt ≤ 5) (f_o0_0 : (0 : Int) ≤ (o0.1 0).toInt ∧ (o0.1 0).toInt ≤ 0) (f_o0_5 : (0 : Int) ≤ (o0.1 5).toInt ∧ (o0.1 5).toInt ≤ 0) (f_o0_13 : (1 : Int) ≤ (o0.1 13).toInt ∧ (o0.1 13).toInt ≤ 6) (f_o0_29 : (1 : Int) ≤ (o0.1 29).toInt ∧ (o0.1 29).toInt ≤ 32) (f_o0_37 : (1 : Int) ≤ (o0.1 37).toInt ∧ (o0.1 37).toInt ≤ 9) (f_o0_95 : (0 : Int) ≤ (o0.1 95).toInt ∧ (o0.1 95).toInt ≤ 0) (x_0 : Rf (o0.2.1 22) (o0.2.1 23) (o0.2.1 19)) (x_1 : (v3.toInt < (o0.2.1 22 v1.toNatClampNeg).toInt)) (x_2 : Gx (o0.1 37).toInt (o0.1 31).toInt (o0.2.1 32) (o0.2.1 33)) (x_3 : Gl v1.toInt ((yo0.1 37).toInt + (yo0.1 31).toInt) (o0.2.1 25) (o0.2.1 19) (o0.2.1 26)) (x_4 : Vl (o0.1 17).toInt ((yo0.1 37).toInt + (yo0.1 31).toInt) (o0.2.1 27) (o0.2.1 26)) (x_5 : 1 ≤ (o0.1 37).toInt) (x_6 : (yo0.1 31).toInt ≤ (o0.1 31).toInt) (x_7 : v2.toInt < 2 * ((o0.1 37).toInt + (o0.1 31).toInt)) (x_8 : v4.toInt < 2 * ((o0.1 37).toInt + (o0.1 31).toInt)) (hm : 0 + (17 - v3.toInt - 1) * 14 + 1 + (5 - v5.toInt) * 2 ≤ (n : Int)) : tt (fM_tableLiteral_20 (gM_tableLiteral n) v1 v2 v3 v4 v5 o0) (QM_tableLiteral yv1 yo0) := by
  unfold fM_tableLiteral_20
  have g_o0_31 : (0 : Int) ≤ (o0.1 31).toInt ∧ (o0.1 31).toInt ≤ 200 := k_o0.1 31
  have ey_o0_37 : (o0.1 37).toInt = (yo0.1 37).toInt := congrArg Int32.toInt (r_o0.1 37 rfl)
  have t1 := tn_n v1
  have t2 := tn_n v3
  have t3 := tn_n v5
  have t4 := tn_n v1
  refine tt_kv (P := fun z => ((1 : Int) ≤ z.toInt ∧ z.toInt ≤ 6) ∧ z.toInt = v5.toInt + 1) ⟨iv_add i_v5 (show (1 : Int) ≤ (1 : Int32).toInt ∧ (1 : Int32).toInt ≤ 1 by decide) (by decide) (by decide) (by decide) (by decide), iq_add i_v5 (show (1 : Int) ≤ (1 : Int32).toInt ∧ (1 : Int32).toInt ≤ 1 by decide) (by decide) (by decide)⟩ (fun x5 qi6 => ?_)
  obtain ⟨i6, ei6⟩ := qi6
  refine tt_n (ix_ok i_v1 (by decide) (by decide)) ?_
  refine tt_kv (P := fun z => ((0 : Int) ≤ z.toInt ∧ z.toInt ≤ 6) ∧ z.toInt = (o0.2.1 19 v1.toNatClampNeg).toInt) ⟨(k_o0.2 19 _), rfl⟩ (fun x7 qi8 => ?_)
  obtain ⟨i8, ei8⟩ := qi8
  refine tt_if (fun c9 => ?_) (fun c9 => ?_)
  · have wc9 : x7.toInt ≤ x5.toInt := c_le c9
    refine tt_kv (P := fun z => ((0 : Int) ≤ z.toInt ∧ z.toInt ≤ 417) ∧ z.toInt = v2.toInt + 1 - 2 * (v2.toInt % 2)) ⟨iv_x1 i_v2 (show (1 : Int) ≤ (1 : Int32).toInt ∧ (1 : Int32).toInt ≤ 1 by decide) (by decide) (by decide) (by decide) (by decide) (by decide), i_x1 (Int.le_trans (by decide) i_v2.1)⟩ (fun x10 qi11 => ?_)
    obtain ⟨i11, ei11⟩ := qi11
    refine tt_kv (P := fun z => ((0 : Int) ≤ z.toInt ∧ z.toInt ≤ 417) ∧ z.toInt = v4.toInt + 1 - 2 * (v4.toInt % 2)) ⟨iv_x1 i_v4 (show (1 : Int) ≤ (1 : Int32).toInt ∧ (1 : Int32).toInt ≤ 1 by decide) (by decide) (by decide) (by decide) (by decide) (by decide), i_x1 (Int.le_trans (by decide) i_v4.1)⟩ (fun x12 qi13 => ?_)
    obtain ⟨i13, ei13⟩ := qi13
    refine tt_b (sM_and _ _ _ k_o0 i11 i13 (iv_w (a := 0) (b := 2) (by decide) (by decide) f_o0_0) f_o0_37 f_o0_95 x_2 (show x10.toInt < 2 * ((o0.1 37).toInt + (o0.1 31).toInt) by omega) (show x12.toInt < 2 * ((o0.1 37).toInt + (o0.1 31).toInt) by omega)) (fun q14 hq14 => ?_)
    obtain ⟨i_q14, k_q14_2, n_q14_2, zq14_0, zq14_1, zq14_2, -⟩ := hq14
    have r_q14_2 := fr_tr r_o0 n_q14_2 rfl rfl rfl
    have f_q14_2_0 : (0 : Int) ≤ (q14.2.1 0).toInt ∧ (q14.2.1 0).toInt ≤ 0 := by rw [n_q14_2.1 0 rfl]; exact f_o0_0
    have f_q14_2_29 : (1 : Int) ≤ (q14.2.1 29).toInt ∧ (q14.2.1 29).toInt ≤ 32 := by rw [n_q14_2.1 29 rfl]; exact f_o0_29
    have f_q14_2_5 : (0 : Int) ≤ (q14.2.1 5).toInt ∧ (q14.2.1 5).toInt ≤ 0 := by rw [n_q14_2.1 5 rfl]; exact f_o0_5
    have f_q14_2_37 : (1 : Int) ≤ (q14.2.1 37).toInt ∧ (q14.2.1 37).toInt ≤ 9 := by rw [n_q14_2.1 37 rfl]; exact f_o0_37
    have f_q14_2_13 : (1 : Int) ≤ (q14.2.1 13).toInt ∧ (q14.2.1 13).toInt ≤ 6 := by rw [n_q14_2.1 13 rfl]; exact f_o0_13
    have f_q14_2_95 : (0 : Int) ≤ (q14.2.1 95).toInt ∧ (q14.2.1 95).toInt ≤ 0 := by rw [n_q14_2.1 95 rfl]; exact f_o0_95
    have g_q14_2_31 : (0 : Int) ≤ (q14.2.1 31).toInt ∧ (q14.2.1 31).toInt ≤ 200 := k_q14_2.1 31
    have e_q14_2_37 : (q14.2.1 37).toInt = (o0.1 37).toInt := congrArg Int32.toInt (n_q14_2.1 37 rfl)
    have zq14_1 : q14.1.toInt < 2 * ((q14.2.1 37).toInt + (q14.2.1 31).toInt) := zq14_1
    have zq14_2 : (o0.1 31).toInt ≤ (q14.2.1 31).toInt := zq14_2
    have u15 : Rf (q14.2.2.1 22) (q14.2.2.1 23) (q14.2.2.1 19) := by rw [n_q14_2.2.1 19 rfl, n_q14_2.2.1 22 rfl, n_q14_2.2.1 23 rfl]; exact x_0
    have u16 : (v3.toInt < (q14.2.2.1 22 v1.toNatClampNeg).toInt) := by rw [n_q14_2.2.1 22 rfl]; exact x_1
    have u17 : Gl v1.toInt ((yo0.1 37).toInt + (yo0.1 31).toInt) (q14.2.2.1 25) (q14.2.2.1 19) (q14.2.2.1 26) := by rw [n_q14_2.2.1 19 rfl, n_q14_2.2.1 25 rfl, n_q14_2.2.1 26 rfl]; exact x_3
    have u18 : Vl (q14.2.1 17).toInt ((yo0.1 37).toInt + (yo0.1 31).toInt) (q14.2.2.1 27) (q14.2.2.1 26) := by rw [n_q14_2.1 17 rfl, n_q14_2.2.1 26 rfl, n_q14_2.2.1 27 rfl]; exact x_4
    refine tt_kv (P := fun z => ((0 : Int) ≤ z.toInt ∧ z.toInt ≤ 417) ∧ z.toInt = q14.1.toInt + 1 - 2 * (q14.1.toInt % 2)) ⟨iv_x1 i_q14 (show (1 : Int) ≤ (1 : Int32).toInt ∧ (1 : Int32).toInt ≤ 1 by decide) (by decide) (by decide) (by decide) (by decide) (by decide), i_x1 (Int.le_trans (by decide) i_q14.1)⟩ (fun x19 qi20 => ?_)
    obtain ⟨i20, ei20⟩ := qi20
    refine tt_kv (P := fun z => ((1 : Int) ≤ z.toInt ∧ z.toInt ≤ 17) ∧ z.toInt = v3.toInt + 1) ⟨iv_add i_v3 (show (1 : Int) ≤ (1 : Int32).toInt ∧ (1 : Int32).toInt ≤ 1 by decide) (by decide) (by decide) (by decide) (by decide), iq_add i_v3 (show (1 : Int) ≤ (1 : Int32).toInt ∧ (1 : Int32).toInt ≤ 1 by decide) (by decide) (by decide)⟩ (fun x21 qi22 => ?_)
    obtain ⟨i22, ei22⟩ := qi22
    exact H.1 _ _ _ _ k_q14_2 r_q14_2 i_v1 i20 (iv_w (a := 0) (b := 17) (by decide) (by decide) i22) f_q14_2_0 f_q14_2_5 f_q14_2_13 f_q14_2_29 f_q14_2_37 f_q14_2_95 u15 zq14_0 u17 u18 (show 1 ≤ (q14.2.1 37).toInt by omega) (show (yo0.1 31).toInt ≤ (q14.2.1 31).toInt by omega) (show x19.toInt < 2 * ((q14.2.1 37).toInt + (q14.2.1 31).toInt) by omega) (show 0 + (17 - x21.toInt) * 14 < (n : Int) by omega)
  · have wc9 : x5.toInt < x7.toInt := c_nle c9
    have i23 : (1 : Int) ≤ x5.toInt ∧ x5.toInt ≤ 5 := nr_nlel c9 i6 i8 (by decide) (by decide)
    have i24 : (0 : Int) ≤ v5.toInt ∧ v5.toInt ≤ 4 := by omega
    have i25 : (2 : Int) ≤ x7.toInt ∧ x7.toInt ≤ 6 := nr_nler c9 i6 i8 (by decide) (by decide)
    refine tt_kv (P := fun z => ((0 : Int) ≤ z.toInt ∧ z.toInt ≤ 464) ∧ z.toInt = 16 * v1.toInt) ⟨iv_mul (show (16 : Int) ≤ (16 : Int32).toInt ∧ (16 : Int32).toInt ≤ 16 by decide) i_v1 (by decide) (by decide) (by decide) (by decide) (by decide), iq_mul (show (16 : Int) ≤ (16 : Int32).toInt ∧ (16 : Int32).toInt ≤ 16 by decide) i_v1 (by decide) (by decide) (by decide) (by decide)⟩ (fun x26 qi27 => ?_)
    obtain ⟨i27, ei27⟩ := qi27
    refine tt_kv (P := fun z => ((0 : Int) ≤ z.toInt ∧ z.toInt ≤ 480) ∧ z.toInt = x26.toInt + v3.toInt) ⟨iv_add i27 i_v3 (by decide) (by decide) (by decide) (by decide), iq_add i27 i_v3 (by decide) (by decide)⟩ (fun x28 qi29 => ?_)
    obtain ⟨i29, ei29⟩ := qi29
    refine tt_n (ix_ok i29 (by decide) (by decide)) ?_
    refine tt_kv (P := fun z => ((0 : Int) ≤ z.toInt ∧ z.toInt ≤ 1599) ∧ z.toInt = (o0.2.1 23 x28.toNatClampNeg).toInt) ⟨(k_o0.2 23 _), rfl⟩ (fun x30 qi31 => ?_)
    obtain ⟨i31, ei31⟩ := qi31
    have t32 := tn_n x28
    have t33 := x_0 v1.toNatClampNeg v3.toNatClampNeg (x28.toNatClampNeg)
    refine tt_kv (P := fun z => ((0 : Int) ≤ z.toInt ∧ z.toInt ≤ 1603) ∧ z.toInt = x30.toInt + v5.toInt) ⟨iv_add i31 i24 (by decide) (by decide) (by decide) (by decide), iq_add i31 i24 (by decide) (by decide)⟩ (fun x34 qi35 => ?_)
    obtain ⟨i35, ei35⟩ := qi35
    refine tt_n (ix_rel (by omega) (by omega)) ?_
    have i36 : (0 : Int) ≤ x34.toInt ∧ x34.toInt ≤ 1599 := (by omega)
    refine tt_kv (P := fun z => ((0 : Int) ≤ z.toInt ∧ z.toInt ≤ 255) ∧ z.toInt = (o0.2.1 1 x34.toNatClampNeg).toInt) ⟨(k_o0.2 1 _), rfl⟩ (fun x37 qi38 => ?_)
    obtain ⟨i38, ei38⟩ := qi38
    refine tt_kv (P := fun z => ((0 : Int) ≤ z.toInt ∧ z.toInt ≤ 174) ∧ z.toInt = 6 * v1.toInt) ⟨iv_mul (show (6 : Int) ≤ (6 : Int32).toInt ∧ (6 : Int32).toInt ≤ 6 by decide) i_v1 (by decide) (by decide) (by decide) (by decide) (by decide), iq_mul (show (6 : Int) ≤ (6 : Int32).toInt ∧ (6 : Int32).toInt ≤ 6 by decide) i_v1 (by decide) (by decide) (by decide) (by decide)⟩ (fun x39 qi40 => ?_)
    obtain ⟨i40, ei40⟩ := qi40
    refine tt_kv (P := fun z => ((0 : Int) ≤ z.toInt ∧ z.toInt ≤ 178) ∧ z.toInt = x39.toInt + v5.toInt) ⟨iv_add i40 i24 (by decide) (by decide) (by decide) (by decide), iq_add i40 i24 (by decide) (by decide)⟩ (fun x41 qi42 => ?_)
    obtain ⟨i42, ei42⟩ := qi42
    refine tt_n (ix_ok i42 (by decide) (by decide)) ?_
    refine tt_kv (P := fun z => (((-1) : Int) ≤ z.toInt ∧ z.toInt ≤ 37) ∧ z.toInt = (o0.2.1 25 x41.toNatClampNeg).toInt) ⟨(k_o0.2 25 _), rfl⟩ (fun x43 qi44 => ?_)
    obtain ⟨i44, ei44⟩ := qi44
    have t45 := tn_n x41
    have t46 := Gl_at x_3 v5.toNatClampNeg (x41.toNatClampNeg)
    try unfold fM_literal
    try unfold fM_literal_0
    refine tt_bif (fun c47 => ?_) (fun c47 => ?_)
    · have wc47 : (8 : Int) ≤ x43.toInt := c_le c47
      have i48 : (8 : Int) ≤ x43.toInt ∧ x43.toInt ≤ 37 := nr_ler c47 (show (8 : Int) ≤ (8 : Int32).toInt ∧ (8 : Int32).toInt ≤ 8 by decide) i44 (by decide) (by decide)
      refine tt_bkv (P := fun z => ((0 : Int) ≤ z.toInt ∧ z.toInt ≤ 29) ∧ z.toInt = x43.toInt - 8) ⟨iv_sub i48 (show (8 : Int) ≤ (8 : Int32).toInt ∧ (8 : Int32).toInt ≤ 8 by decide) (by decide) (by decide) (by decide) (by decide), iq_sub i48 (show (8 : Int) ≤ (8 : Int32).toInt ∧ (8 : Int32).toInt ≤ 8 by decide) (by decide) (by decide)⟩ (fun x49 qi50 => ?_)
      obtain ⟨i50, ei50⟩ := qi50
      refine tt_bn (ix_ok i50 (by decide) (by decide)) ?_
      refine tt_bkv (P := fun z => ((0 : Int) ≤ z.toInt ∧ z.toInt ≤ 417) ∧ z.toInt = (o0.2.1 26 x49.toNatClampNeg).toInt) ⟨(k_o0.2 26 _), rfl⟩ (fun x51 qi52 => ?_)
      obtain ⟨i52, ei52⟩ := qi52
      have t53 := tn_n x49
      have t54 := Gl_of x_3 v5.toNatClampNeg (x41.toNatClampNeg) (x49.toNatClampNeg)
      try unfold fM_literal_23
      refine tt_bs ?_
      refine tt_if (fun c55 => ?_) (fun c55 => ?_)
      · have wc55 : x37.toInt = (45 : Int) := c_eq c55
        have i56 : (45 : Int) ≤ x37.toInt ∧ x37.toInt ≤ 45 := nr_eql c55 i38 (show (45 : Int) ≤ (45 : Int32).toInt ∧ (45 : Int32).toInt ≤ 45 by decide) (by decide) (by decide)
        try unfold fM_tableLiteral_106
        refine tt_kv (P := fun z => ((1 : Int) ≤ z.toInt ∧ z.toInt ≤ 5) ∧ z.toInt = v5.toInt + 1) ⟨iv_add i24 (show (1 : Int) ≤ (1 : Int32).toInt ∧ (1 : Int32).toInt ≤ 1 by decide) (by decide) (by decide) (by decide) (by decide), iq_add i24 (show (1 : Int) ≤ (1 : Int32).toInt ∧ (1 : Int32).toInt ≤ 1 by decide) (by decide) (by decide)⟩ (fun x57 qi58 => ?_)
        obtain ⟨i58, ei58⟩ := qi58
        exact H.2 _ _ _ _ _ _ k_o0 r_o0 i_v1 i_v2 i_v3 i_v4 (iv_w (a := 0) (b := 5) (by decide) (by decide) i58) f_o0_0 f_o0_5 f_o0_13 f_o0_29 f_o0_37 f_o0_95 x_0 x_1 x_2 x_3 x_4 (show 1 ≤ (o0.1 37).toInt by omega) (show (yo0.1 31).toInt ≤ (o0.1 31).toInt by omega) (show v2.toInt < 2 * ((o0.1 37).toInt + (o0.1 31).toInt) by omega) (show v4.toInt < 2 * ((o0.1 37).toInt + (o0.1 31).toInt) by omega) (show 0 + (17 - v3.toInt - 1) * 14 + 1 + (5 - x57.toInt) * 2 < (n : Int) by omega)
      · have wc55 : ¬ x37.toInt = (45 : Int) := c_ne c55
        refine tt_if (fun c59 => ?_) (fun c59 => ?_)
        · have wc59 : x37.toInt = (49 : Int) := c_eq c59
          have i60 : (49 : Int) ≤ x37.toInt ∧ x37.toInt ≤ 49 := nr_eql c59 i38 (show (49 : Int) ≤ (49 : Int32).toInt ∧ (49 : Int32).toInt ≤ 49 by decide) (by decide) (by decide)
          try unfold fM_tableLiteral_103
          refine tt_b (sM_and _ _ _ k_o0 i_v4 i52 (iv_w (a := 0) (b := 2) (by decide) (by decide) f_o0_0) f_o0_37 f_o0_95 x_2 (show v4.toInt < 2 * ((o0.1 37).toInt + (o0.1 31).toInt) by omega) (show x51.toInt < 2 * ((o0.1 37).toInt + (o0.1 31).toInt) by omega)) (fun q61 hq61 => ?_)
          obtain ⟨i_q61, k_q61_2, n_q61_2, zq61_0, zq61_1, zq61_2, -⟩ := hq61
          have r_q61_2 := fr_tr r_o0 n_q61_2 rfl rfl rfl
          have f_q61_2_0 : (0 : Int) ≤ (q61.2.1 0).toInt ∧ (q61.2.1 0).toInt ≤ 0 := by rw [n_q61_2.1 0 rfl]; exact f_o0_0
          have f_q61_2_29 : (1 : Int) ≤ (q61.2.1 29).toInt ∧ (q61.2.1 29).toInt ≤ 32 := by rw [n_q61_2.1 29 rfl]; exact f_o0_29
          have f_q61_2_5 : (0 : Int) ≤ (q61.2.1 5).toInt ∧ (q61.2.1 5).toInt ≤ 0 := by rw [n_q61_2.1 5 rfl]; exact f_o0_5
          have f_q61_2_37 : (1 : Int) ≤ (q61.2.1 37).toInt ∧ (q61.2.1 37).toInt ≤ 9 := by rw [n_q61_2.1 37 rfl]; exact f_o0_37
          have f_q61_2_13 : (1 : Int) ≤ (q61.2.1 13).toInt ∧ (q61.2.1 13).toInt ≤ 6 := by rw [n_q61_2.1 13 rfl]; exact f_o0_13
          have f_q61_2_95 : (0 : Int) ≤ (q61.2.1 95).toInt ∧ (q61.2.1 95).toInt ≤ 0 := by rw [n_q61_2.1 95 rfl]; exact f_o0_95
          have g_q61_2_31 : (0 : Int) ≤ (q61.2.1 31).toInt ∧ (q61.2.1 31).toInt ≤ 200 := k_q61_2.1 31
          have e_q61_2_37 : (q61.2.1 37).toInt = (o0.1 37).toInt := congrArg Int32.toInt (n_q61_2.1 37 rfl)
          have zq61_1 : q61.1.toInt < 2 * ((q61.2.1 37).toInt + (q61.2.1 31).toInt) := zq61_1
          have zq61_2 : (o0.1 31).toInt ≤ (q61.2.1 31).toInt := zq61_2
          have u62 : Rf (q61.2.2.1 22) (q61.2.2.1 23) (q61.2.2.1 19) := by rw [n_q61_2.2.1 19 rfl, n_q61_2.2.1 22 rfl, n_q61_2.2.1 23 rfl]; exact x_0
          have u63 : (v3.toInt < (q61.2.2.1 22 v1.toNatClampNeg).toInt) := by rw [n_q61_2.2.1 22 rfl]; exact x_1
          have u64 : Gl v1.toInt ((yo0.1 37).toInt + (yo0.1 31).toInt) (q61.2.2.1 25) (q61.2.2.1 19) (q61.2.2.1 26) := by rw [n_q61_2.2.1 19 rfl, n_q61_2.2.1 25 rfl, n_q61_2.2.1 26 rfl]; exact x_3
          have u65 : Vl (q61.2.1 17).toInt ((yo0.1 37).toInt + (yo0.1 31).toInt) (q61.2.2.1 27) (q61.2.2.1 26) := by rw [n_q61_2.1 17 rfl, n_q61_2.2.1 26 rfl, n_q61_2.2.1 27 rfl]; exact x_4
          try unfold fM_tableLiteral_106
          refine tt_kv (P := fun z => ((1 : Int) ≤ z.toInt ∧ z.toInt ≤ 5) ∧ z.toInt = v5.toInt + 1) ⟨iv_add i24 (show (1 : Int) ≤ (1 : Int32).toInt ∧ (1 : Int32).toInt ≤ 1 by decide) (by decide) (by decide) (by decide) (by decide), iq_add i24 (show (1 : Int) ≤ (1 : Int32).toInt ∧ (1 : Int32).toInt ≤ 1 by decide) (by decide) (by decide)⟩ (fun x66 qi67 => ?_)
          obtain ⟨i67, ei67⟩ := qi67
          exact H.2 _ _ _ _ _ _ k_q61_2 r_q61_2 i_v1 i_v2 i_v3 i_q61 (iv_w (a := 0) (b := 5) (by decide) (by decide) i67) f_q61_2_0 f_q61_2_5 f_q61_2_13 f_q61_2_29 f_q61_2_37 f_q61_2_95 u62 u63 zq61_0 u64 u65 (show 1 ≤ (q61.2.1 37).toInt by omega) (show (yo0.1 31).toInt ≤ (q61.2.1 31).toInt by omega) (show v2.toInt < 2 * ((q61.2.1 37).toInt + (q61.2.1 31).toInt) by omega) (show q61.1.toInt < 2 * ((q61.2.1 37).toInt + (q61.2.1 31).toInt) by omega) (show 0 + (17 - v3.toInt - 1) * 14 + 1 + (5 - x66.toInt) * 2 < (n : Int) by omega)
        · have wc59 : ¬ x37.toInt = (49 : Int) := c_ne c59
          refine tt_kv (P := fun z => ((0 : Int) ≤ z.toInt ∧ z.toInt ≤ 417) ∧ z.toInt = x51.toInt + 1 - 2 * (x51.toInt % 2)) ⟨iv_x1 i52 (show (1 : Int) ≤ (1 : Int32).toInt ∧ (1 : Int32).toInt ≤ 1 by decide) (by decide) (by decide) (by decide) (by decide) (by decide), i_x1 (Int.le_trans (by decide) i52.1)⟩ (fun x68 qi69 => ?_)
          obtain ⟨i69, ei69⟩ := qi69
          try unfold fM_tableLiteral_103
          refine tt_b (sM_and _ _ _ k_o0 i_v4 i69 (iv_w (a := 0) (b := 2) (by decide) (by decide) f_o0_0) f_o0_37 f_o0_95 x_2 (show v4.toInt < 2 * ((o0.1 37).toInt + (o0.1 31).toInt) by omega) (show x68.toInt < 2 * ((o0.1 37).toInt + (o0.1 31).toInt) by omega)) (fun q70 hq70 => ?_)
          obtain ⟨i_q70, k_q70_2, n_q70_2, zq70_0, zq70_1, zq70_2, -⟩ := hq70
          have r_q70_2 := fr_tr r_o0 n_q70_2 rfl rfl rfl
          have f_q70_2_0 : (0 : Int) ≤ (q70.2.1 0).toInt ∧ (q70.2.1 0).toInt ≤ 0 := by rw [n_q70_2.1 0 rfl]; exact f_o0_0
          have f_q70_2_29 : (1 : Int) ≤ (q70.2.1 29).toInt ∧ (q70.2.1 29).toInt ≤ 32 := by rw [n_q70_2.1 29 rfl]; exact f_o0_29
          have f_q70_2_5 : (0 : Int) ≤ (q70.2.1 5).toInt ∧ (q70.2.1 5).toInt ≤ 0 := by rw [n_q70_2.1 5 rfl]; exact f_o0_5
          have f_q70_2_37 : (1 : Int) ≤ (q70.2.1 37).toInt ∧ (q70.2.1 37).toInt ≤ 9 := by rw [n_q70_2.1 37 rfl]; exact f_o0_37
          have f_q70_2_13 : (1 : Int) ≤ (q70.2.1 13).toInt ∧ (q70.2.1 13).toInt ≤ 6 := by rw [n_q70_2.1 13 rfl]; exact f_o0_13
          have f_q70_2_95 : (0 : Int) ≤ (q70.2.1 95).toInt ∧ (q70.2.1 95).toInt ≤ 0 := by rw [n_q70_2.1 95 rfl]; exact f_o0_95
          have g_q70_2_31 : (0 : Int) ≤ (q70.2.1 31).toInt ∧ (q70.2.1 31).toInt ≤ 200 := k_q70_2.1 31
          have e_q70_2_37 : (q70.2.1 37).toInt = (o0.1 37).toInt := congrArg Int32.toInt (n_q70_2.1 37 rfl)
          have zq70_1 : q70.1.toInt < 2 * ((q70.2.1 37).toInt + (q70.2.1 31).toInt) := zq70_1
          have zq70_2 : (o0.1 31).toInt ≤ (q70.2.1 31).toInt := zq70_2
          have u71 : Rf (q70.2.2.1 22) (q70.2.2.1 23) (q70.2.2.1 19) := by rw [n_q70_2.2.1 19 rfl, n_q70_2.2.1 22 rfl, n_q70_2.2.1 23 rfl]; exact x_0
          have u72 : (v3.toInt < (q70.2.2.1 22 v1.toNatClampNeg).toInt) := by rw [n_q70_2.2.1 22 rfl]; exact x_1
          have u73 : Gl v1.toInt ((yo0.1 37).toInt + (yo0.1 31).toInt) (q70.2.2.1 25) (q70.2.2.1 19) (q70.2.2.1 26) := by rw [n_q70_2.2.1 19 rfl, n_q70_2.2.1 25 rfl, n_q70_2.2.1 26 rfl]; exact x_3
          have u74 : Vl (q70.2.1 17).toInt ((yo0.1 37).toInt + (yo0.1 31).toInt) (q70.2.2.1 27) (q70.2.2.1 26) := by rw [n_q70_2.1 17 rfl, n_q70_2.2.1 26 rfl, n_q70_2.2.1 27 rfl]; exact x_4
          try unfold fM_tableLiteral_106
          refine tt_kv (P := fun z => ((1 : Int) ≤ z.toInt ∧ z.toInt ≤ 5) ∧ z.toInt = v5.toInt + 1) ⟨iv_add i24 (show (1 : Int) ≤ (1 : Int32).toInt ∧ (1 : Int32).toInt ≤ 1 by decide) (by decide) (by decide) (by decide) (by decide), iq_add i24 (show (1 : Int) ≤ (1 : Int32).toInt ∧ (1 : Int32).toInt ≤ 1 by decide) (by decide) (by decide)⟩ (fun x75 qi76 => ?_)
          obtain ⟨i76, ei76⟩ := qi76
          exact H.2 _ _ _ _ _ _ k_q70_2 r_q70_2 i_v1 i_v2 i_v3 i_q70 (iv_w (a := 0) (b := 5) (by decide) (by decide) i76) f_q70_2_0 f_q70_2_5 f_q70_2_13 f_q70_2_29 f_q70_2_37 f_q70_2_95 u71 u72 zq70_0 u73 u74 (show 1 ≤ (q70.2.1 37).toInt by omega) (show (yo0.1 31).toInt ≤ (q70.2.1 31).toInt by omega) (show v2.toInt < 2 * ((q70.2.1 37).toInt + (q70.2.1 31).toInt) by omega) (show q70.1.toInt < 2 * ((q70.2.1 37).toInt + (q70.2.1 31).toInt) by omega) (show 0 + (17 - v3.toInt - 1) * 14 + 1 + (5 - x75.toInt) * 2 < (n : Int) by omega)
    · have wc47 : x43.toInt < (8 : Int) := c_nle c47
      have i77 : ((-1) : Int) ≤ x43.toInt ∧ x43.toInt ≤ 7 := nr_nlel c47 i44 (show (8 : Int) ≤ (8 : Int32).toInt ∧ (8 : Int32).toInt ≤ 8 by decide) (by decide) (by decide)
      refine tt_bkv (P := fun z => ((0 : Int) ≤ z.toInt ∧ z.toInt ≤ 8) ∧ z.toInt = x43.toInt + 1) ⟨iv_add i77 (show (1 : Int) ≤ (1 : Int32).toInt ∧ (1 : Int32).toInt ≤ 1 by decide) (by decide) (by decide) (by decide) (by decide), iq_add i77 (show (1 : Int) ≤ (1 : Int32).toInt ∧ (1 : Int32).toInt ≤ 1 by decide) (by decide) (by decide)⟩ (fun x78 qi79 => ?_)
      obtain ⟨i79, ei79⟩ := qi79
      refine tt_bkv (P := fun z => ((0 : Int) ≤ z.toInt ∧ z.toInt ≤ 16) ∧ z.toInt = 2 * x78.toInt) ⟨iv_mul (show (2 : Int) ≤ (2 : Int32).toInt ∧ (2 : Int32).toInt ≤ 2 by decide) i79 (by decide) (by decide) (by decide) (by decide) (by decide), iq_mul (show (2 : Int) ≤ (2 : Int32).toInt ∧ (2 : Int32).toInt ≤ 2 by decide) i79 (by decide) (by decide) (by decide) (by decide)⟩ (fun x80 qi81 => ?_)
      obtain ⟨i81, ei81⟩ := qi81
      try unfold fM_literal_23
      refine tt_bs ?_
      refine tt_if (fun c82 => ?_) (fun c82 => ?_)
      · have wc82 : x37.toInt = (45 : Int) := c_eq c82
        have i83 : (45 : Int) ≤ x37.toInt ∧ x37.toInt ≤ 45 := nr_eql c82 i38 (show (45 : Int) ≤ (45 : Int32).toInt ∧ (45 : Int32).toInt ≤ 45 by decide) (by decide) (by decide)
        try unfold fM_tableLiteral_106
        refine tt_kv (P := fun z => ((1 : Int) ≤ z.toInt ∧ z.toInt ≤ 5) ∧ z.toInt = v5.toInt + 1) ⟨iv_add i24 (show (1 : Int) ≤ (1 : Int32).toInt ∧ (1 : Int32).toInt ≤ 1 by decide) (by decide) (by decide) (by decide) (by decide), iq_add i24 (show (1 : Int) ≤ (1 : Int32).toInt ∧ (1 : Int32).toInt ≤ 1 by decide) (by decide) (by decide)⟩ (fun x84 qi85 => ?_)
        obtain ⟨i85, ei85⟩ := qi85
        exact H.2 _ _ _ _ _ _ k_o0 r_o0 i_v1 i_v2 i_v3 i_v4 (iv_w (a := 0) (b := 5) (by decide) (by decide) i85) f_o0_0 f_o0_5 f_o0_13 f_o0_29 f_o0_37 f_o0_95 x_0 x_1 x_2 x_3 x_4 (show 1 ≤ (o0.1 37).toInt by omega) (show (yo0.1 31).toInt ≤ (o0.1 31).toInt by omega) (show v2.toInt < 2 * ((o0.1 37).toInt + (o0.1 31).toInt) by omega) (show v4.toInt < 2 * ((o0.1 37).toInt + (o0.1 31).toInt) by omega) (show 0 + (17 - v3.toInt - 1) * 14 + 1 + (5 - x84.toInt) * 2 < (n : Int) by omega)
      · have wc82 : ¬ x37.toInt = (45 : Int) := c_ne c82
        refine tt_if (fun c86 => ?_) (fun c86 => ?_)
        · have wc86 : x37.toInt = (49 : Int) := c_eq c86
          have i87 : (49 : Int) ≤ x37.toInt ∧ x37.toInt ≤ 49 := nr_eql c86 i38 (show (49 : Int) ≤ (49 : Int32).toInt ∧ (49 : Int32).toInt ≤ 49 by decide) (by decide) (by decide)
          try unfold fM_tableLiteral_103
          refine tt_b (sM_and _ _ _ k_o0 i_v4 (iv_w (a := 0) (b := 417) (by decide) (by decide) i81) (iv_w (a := 0) (b := 2) (by decide) (by decide) f_o0_0) f_o0_37 f_o0_95 x_2 (show v4.toInt < 2 * ((o0.1 37).toInt + (o0.1 31).toInt) by omega) (show x80.toInt < 2 * ((o0.1 37).toInt + (o0.1 31).toInt) by omega)) (fun q88 hq88 => ?_)
          obtain ⟨i_q88, k_q88_2, n_q88_2, zq88_0, zq88_1, zq88_2, -⟩ := hq88
          have r_q88_2 := fr_tr r_o0 n_q88_2 rfl rfl rfl
          have f_q88_2_0 : (0 : Int) ≤ (q88.2.1 0).toInt ∧ (q88.2.1 0).toInt ≤ 0 := by rw [n_q88_2.1 0 rfl]; exact f_o0_0
          have f_q88_2_29 : (1 : Int) ≤ (q88.2.1 29).toInt ∧ (q88.2.1 29).toInt ≤ 32 := by rw [n_q88_2.1 29 rfl]; exact f_o0_29
          have f_q88_2_5 : (0 : Int) ≤ (q88.2.1 5).toInt ∧ (q88.2.1 5).toInt ≤ 0 := by rw [n_q88_2.1 5 rfl]; exact f_o0_5
          have f_q88_2_37 : (1 : Int) ≤ (q88.2.1 37).toInt ∧ (q88.2.1 37).toInt ≤ 9 := by rw [n_q88_2.1 37 rfl]; exact f_o0_37
          have f_q88_2_13 : (1 : Int) ≤ (q88.2.1 13).toInt ∧ (q88.2.1 13).toInt ≤ 6 := by rw [n_q88_2.1 13 rfl]; exact f_o0_13
          have f_q88_2_95 : (0 : Int) ≤ (q88.2.1 95).toInt ∧ (q88.2.1 95).toInt ≤ 0 := by rw [n_q88_2.1 95 rfl]; exact f_o0_95
          have g_q88_2_31 : (0 : Int) ≤ (q88.2.1 31).toInt ∧ (q88.2.1 31).toInt ≤ 200 := k_q88_2.1 31
          have e_q88_2_37 : (q88.2.1 37).toInt = (o0.1 37).toInt := congrArg Int32.toInt (n_q88_2.1 37 rfl)
          have zq88_1 : q88.1.toInt < 2 * ((q88.2.1 37).toInt + (q88.2.1 31).toInt) := zq88_1
          have zq88_2 : (o0.1 31).toInt ≤ (q88.2.1 31).toInt := zq88_2
          have u89 : Rf (q88.2.2.1 22) (q88.2.2.1 23) (q88.2.2.1 19) := by rw [n_q88_2.2.1 19 rfl, n_q88_2.2.1 22 rfl, n_q88_2.2.1 23 rfl]; exact x_0
          have u90 : (v3.toInt < (q88.2.2.1 22 v1.toNatClampNeg).toInt) := by rw [n_q88_2.2.1 22 rfl]; exact x_1
          have u91 : Gl v1.toInt ((yo0.1 37).toInt + (yo0.1 31).toInt) (q88.2.2.1 25) (q88.2.2.1 19) (q88.2.2.1 26) := by rw [n_q88_2.2.1 19 rfl, n_q88_2.2.1 25 rfl, n_q88_2.2.1 26 rfl]; exact x_3
          have u92 : Vl (q88.2.1 17).toInt ((yo0.1 37).toInt + (yo0.1 31).toInt) (q88.2.2.1 27) (q88.2.2.1 26) := by rw [n_q88_2.1 17 rfl, n_q88_2.2.1 26 rfl, n_q88_2.2.1 27 rfl]; exact x_4
          try unfold fM_tableLiteral_106
          refine tt_kv (P := fun z => ((1 : Int) ≤ z.toInt ∧ z.toInt ≤ 5) ∧ z.toInt = v5.toInt + 1) ⟨iv_add i24 (show (1 : Int) ≤ (1 : Int32).toInt ∧ (1 : Int32).toInt ≤ 1 by decide) (by decide) (by decide) (by decide) (by decide), iq_add i24 (show (1 : Int) ≤ (1 : Int32).toInt ∧ (1 : Int32).toInt ≤ 1 by decide) (by decide) (by decide)⟩ (fun x93 qi94 => ?_)
          obtain ⟨i94, ei94⟩ := qi94
          exact H.2 _ _ _ _ _ _ k_q88_2 r_q88_2 i_v1 i_v2 i_v3 i_q88 (iv_w (a := 0) (b := 5) (by decide) (by decide) i94) f_q88_2_0 f_q88_2_5 f_q88_2_13 f_q88_2_29 f_q88_2_37 f_q88_2_95 u89 u90 zq88_0 u91 u92 (show 1 ≤ (q88.2.1 37).toInt by omega) (show (yo0.1 31).toInt ≤ (q88.2.1 31).toInt by omega) (show v2.toInt < 2 * ((q88.2.1 37).toInt + (q88.2.1 31).toInt) by omega) (show q88.1.toInt < 2 * ((q88.2.1 37).toInt + (q88.2.1 31).toInt) by omega) (show 0 + (17 - v3.toInt - 1) * 14 + 1 + (5 - x93.toInt) * 2 < (n : Int) by omega)
        · have wc86 : ¬ x37.toInt = (49 : Int) := c_ne c86
          refine tt_kv (P := fun z => ((0 : Int) ≤ z.toInt ∧ z.toInt ≤ 17) ∧ z.toInt = x80.toInt + 1 - 2 * (x80.toInt % 2)) ⟨iv_x1 i81 (show (1 : Int) ≤ (1 : Int32).toInt ∧ (1 : Int32).toInt ≤ 1 by decide) (by decide) (by decide) (by decide) (by decide) (by decide), i_x1 (Int.le_trans (by decide) i81.1)⟩ (fun x95 qi96 => ?_)
          obtain ⟨i96, ei96⟩ := qi96
          try unfold fM_tableLiteral_103
          refine tt_b (sM_and _ _ _ k_o0 i_v4 (iv_w (a := 0) (b := 417) (by decide) (by decide) i96) (iv_w (a := 0) (b := 2) (by decide) (by decide) f_o0_0) f_o0_37 f_o0_95 x_2 (show v4.toInt < 2 * ((o0.1 37).toInt + (o0.1 31).toInt) by omega) (show x95.toInt < 2 * ((o0.1 37).toInt + (o0.1 31).toInt) by omega)) (fun q97 hq97 => ?_)
          obtain ⟨i_q97, k_q97_2, n_q97_2, zq97_0, zq97_1, zq97_2, -⟩ := hq97
          have r_q97_2 := fr_tr r_o0 n_q97_2 rfl rfl rfl
          have f_q97_2_0 : (0 : Int) ≤ (q97.2.1 0).toInt ∧ (q97.2.1 0).toInt ≤ 0 := by rw [n_q97_2.1 0 rfl]; exact f_o0_0
          have f_q97_2_29 : (1 : Int) ≤ (q97.2.1 29).toInt ∧ (q97.2.1 29).toInt ≤ 32 := by rw [n_q97_2.1 29 rfl]; exact f_o0_29
          have f_q97_2_5 : (0 : Int) ≤ (q97.2.1 5).toInt ∧ (q97.2.1 5).toInt ≤ 0 := by rw [n_q97_2.1 5 rfl]; exact f_o0_5
          have f_q97_2_37 : (1 : Int) ≤ (q97.2.1 37).toInt ∧ (q97.2.1 37).toInt ≤ 9 := by rw [n_q97_2.1 37 rfl]; exact f_o0_37
          have f_q97_2_13 : (1 : Int) ≤ (q97.2.1 13).toInt ∧ (q97.2.1 13).toInt ≤ 6 := by rw [n_q97_2.1 13 rfl]; exact f_o0_13
          have f_q97_2_95 : (0 : Int) ≤ (q97.2.1 95).toInt ∧ (q97.2.1 95).toInt ≤ 0 := by rw [n_q97_2.1 95 rfl]; exact f_o0_95
          have g_q97_2_31 : (0 : Int) ≤ (q97.2.1 31).toInt ∧ (q97.2.1 31).toInt ≤ 200 := k_q97_2.1 31
          have e_q97_2_37 : (q97.2.1 37).toInt = (o0.1 37).toInt := congrArg Int32.toInt (n_q97_2.1 37 rfl)
          have zq97_1 : q97.1.toInt < 2 * ((q97.2.1 37).toInt + (q97.2.1 31).toInt) := zq97_1
          have zq97_2 : (o0.1 31).toInt ≤ (q97.2.1 31).toInt := zq97_2
          have u98 : Rf (q97.2.2.1 22) (q97.2.2.1 23) (q97.2.2.1 19) := by rw [n_q97_2.2.1 19 rfl, n_q97_2.2.1 22 rfl, n_q97_2.2.1 23 rfl]; exact x_0
          have u99 : (v3.toInt < (q97.2.2.1 22 v1.toNatClampNeg).toInt) := by rw [n_q97_2.2.1 22 rfl]; exact x_1
          have u100 : Gl v1.toInt ((yo0.1 37).toInt + (yo0.1 31).toInt) (q97.2.2.1 25) (q97.2.2.1 19) (q97.2.2.1 26) := by rw [n_q97_2.2.1 19 rfl, n_q97_2.2.1 25 rfl, n_q97_2.2.1 26 rfl]; exact x_3
          have u101 : Vl (q97.2.1 17).toInt ((yo0.1 37).toInt + (yo0.1 31).toInt) (q97.2.2.1 27) (q97.2.2.1 26) := by rw [n_q97_2.1 17 rfl, n_q97_2.2.1 26 rfl, n_q97_2.2.1 27 rfl]; exact x_4
          try unfold fM_tableLiteral_106
          refine tt_kv (P := fun z => ((1 : Int) ≤ z.toInt ∧ z.toInt ≤ 5) ∧ z.toInt = v5.toInt + 1) ⟨iv_add i24 (show (1 : Int) ≤ (1 : Int32).toInt ∧ (1 : Int32).toInt ≤ 1 by decide) (by decide) (by decide) (by decide) (by decide), iq_add i24 (show (1 : Int) ≤ (1 : Int32).toInt ∧ (1 : Int32).toInt ≤ 1 by decide) (by decide) (by decide)⟩ (fun x102 qi103 => ?_)
          obtain ⟨i103, ei103⟩ := qi103
          exact H.2 _ _ _ _ _ _ k_q97_2 r_q97_2 i_v1 i_v2 i_v3 i_q97 (iv_w (a := 0) (b := 5) (by decide) (by decide) i103) f_q97_2_0 f_q97_2_5 f_q97_2_13 f_q97_2_29 f_q97_2_37 f_q97_2_95 u98 u99 zq97_0 u100 u101 (show 1 ≤ (q97.2.1 37).toInt by omega) (show (yo0.1 31).toInt ≤ (q97.2.1 31).toInt by omega) (show v2.toInt < 2 * ((q97.2.1 37).toInt + (q97.2.1 31).toInt) by omega) (show q97.1.toInt < 2 * ((q97.2.1 37).toInt + (q97.2.1 31).toInt) by omega) (show 0 + (17 - v3.toInt - 1) * 14 + 1 + (5 - x102.toInt) * 2 < (n : Int) by omega)
set_option maxHeartbeats 4000000 in
set_option maxRecDepth 100000 in
theorem tM_tableLiteral_4 {yv1 : Int32} {yo0 : cf_O} {n : Nat} (H : HM_tableLiteral yv1 yo0 n) (v1 : Int32) (v2 : Int32) (v3 : Int32) (o0 : cf_O) (k_o0 : okO I_M o0) (r_o0 : Fr (fr_M [31, 36] [32, 33, 34] []) yo0 o0) (i_v1 : (0 : Int) ≤ v1.toInt ∧ v1.toInt ≤ 29) (i_v2 : (0 : Int) ≤ v2.toInt ∧ v2.toInt ≤ 417) (i_v3 : (0 : Int) ≤ v3.toInt ∧ v3.toInt ≤ 17) (f_o0_0 : (0 : Int) ≤ (o0.1 0).toInt ∧ (o0.1 0).toInt ≤ 0) (f_o0_5 : (0 : Int) ≤ (o0.1 5).toInt ∧ (o0.1 5).toInt ≤ 0) (f_o0_13 : (1 : Int) ≤ (o0.1 13).toInt ∧ (o0.1 13).toInt ≤ 6) (f_o0_29 : (1 : Int) ≤ (o0.1 29).toInt ∧ (o0.1 29).toInt ≤ 32) (f_o0_37 : (1 : Int) ≤ (o0.1 37).toInt ∧ (o0.1 37).toInt ≤ 9) (f_o0_95 : (0 : Int) ≤ (o0.1 95).toInt ∧ (o0.1 95).toInt ≤ 0) (x_0 : Rf (o0.2.1 22) (o0.2.1 23) (o0.2.1 19)) (x_1 : Gx (o0.1 37).toInt (o0.1 31).toInt (o0.2.1 32) (o0.2.1 33)) (x_2 : Gl v1.toInt ((yo0.1 37).toInt + (yo0.1 31).toInt) (o0.2.1 25) (o0.2.1 19) (o0.2.1 26)) (x_3 : Vl (o0.1 17).toInt ((yo0.1 37).toInt + (yo0.1 31).toInt) (o0.2.1 27) (o0.2.1 26)) (x_4 : 1 ≤ (o0.1 37).toInt) (x_5 : (yo0.1 31).toInt ≤ (o0.1 31).toInt) (x_6 : v2.toInt < 2 * ((o0.1 37).toInt + (o0.1 31).toInt)) (hm : 0 + (17 - v3.toInt) * 14 ≤ (n : Int)) : tt (fM_tableLiteral_4 (gM_tableLiteral n) v1 v2 v3 o0) (QM_tableLiteral yv1 yo0) := by
  unfold fM_tableLiteral_4
  have g_o0_31 : (0 : Int) ≤ (o0.1 31).toInt ∧ (o0.1 31).toInt ≤ 200 := k_o0.1 31
  have ey_o0_37 : (o0.1 37).toInt = (yo0.1 37).toInt := congrArg Int32.toInt (r_o0.1 37 rfl)
  refine tt_n (ix_ok i_v1 (by decide) (by decide)) ?_
  refine tt_kv (P := fun z => ((0 : Int) ≤ z.toInt ∧ z.toInt ≤ 16) ∧ z.toInt = (o0.2.1 22 v1.toNatClampNeg).toInt) ⟨(k_o0.2 22 _), rfl⟩ (fun x1 qi2 => ?_)
  obtain ⟨i2, ei2⟩ := qi2
  refine tt_if (fun c3 => ?_) (fun c3 => ?_)
  · have wc3 : x1.toInt ≤ v3.toInt := c_le c3
    refine tt_n (ix_ok i_v1 (by decide) (by decide)) ?_
    refine tt_kv (P := fun z => ((0 : Int) ≤ z.toInt ∧ z.toInt ≤ 16) ∧ z.toInt = (o0.2.1 22 v1.toNatClampNeg).toInt) ⟨(k_o0.2 22 _), rfl⟩ (fun x4 qi5 => ?_)
    obtain ⟨i5, ei5⟩ := qi5
    refine tt_if (fun c6 => ?_) (fun c6 => ?_)
    · have wc6 : x4.toInt ≤ (0 : Int) := c_le c6
      have i7 : (0 : Int) ≤ x4.toInt ∧ x4.toInt ≤ 0 := nr_lel c6 i5 (show (0 : Int) ≤ (0 : Int32).toInt ∧ (0 : Int32).toInt ≤ 0 by decide) (by decide) (by decide)
      try unfold fM_tableLiteral_158
      try unfold fM_tableLiteral_159
      have p8 : Vl (o0.1 17).toInt ((o0.1 37).toInt + (o0.1 31).toInt) (o0.2.1 27) (o0.2.1 26) := by exact Vl_w (by assumption) (by omega)
      exact tt_some ⟨i_v2, k_o0, r_o0, x_1, p8, (show v2.toInt < 2 * ((o0.1 37).toInt + (o0.1 31).toInt) by omega), (show (yo0.1 31).toInt ≤ (o0.1 31).toInt by omega), trivial⟩
    · have wc6 : (0 : Int) < x4.toInt := c_nle c6
      have i9 : (1 : Int) ≤ x4.toInt ∧ x4.toInt ≤ 16 := nr_nler c6 (show (0 : Int) ≤ (0 : Int32).toInt ∧ (0 : Int32).toInt ≤ 0 by decide) i5 (by decide) (by decide)
      refine tt_n (ix_ok i_v1 (by decide) (by decide)) ?_
      refine tt_kv (P := fun z => ((0 : Int) ≤ z.toInt ∧ z.toInt ≤ 1) ∧ z.toInt = (o0.2.1 24 v1.toNatClampNeg).toInt) ⟨(k_o0.2 24 _), rfl⟩ (fun x10 qi11 => ?_)
      obtain ⟨i11, ei11⟩ := qi11
      refine tt_if (fun c12 => ?_) (fun c12 => ?_)
      · have wc12 : x10.toInt = (0 : Int) := c_eq c12
        have i13 : (0 : Int) ≤ x10.toInt ∧ x10.toInt ≤ 0 := nr_eql c12 i11 (show (0 : Int) ≤ (0 : Int32).toInt ∧ (0 : Int32).toInt ≤ 0 by decide) (by decide) (by decide)
        refine tt_kv (P := fun z => ((0 : Int) ≤ z.toInt ∧ z.toInt ≤ 417) ∧ z.toInt = v2.toInt + 1 - 2 * (v2.toInt % 2)) ⟨iv_x1 i_v2 (show (1 : Int) ≤ (1 : Int32).toInt ∧ (1 : Int32).toInt ≤ 1 by decide) (by decide) (by decide) (by decide) (by decide) (by decide), i_x1 (Int.le_trans (by decide) i_v2.1)⟩ (fun x14 qi15 => ?_)
        obtain ⟨i15, ei15⟩ := qi15
        try unfold fM_tableLiteral_159
        have p16 : Vl (o0.1 17).toInt ((o0.1 37).toInt + (o0.1 31).toInt) (o0.2.1 27) (o0.2.1 26) := by exact Vl_w (by assumption) (by omega)
        exact tt_some ⟨i15, k_o0, r_o0, x_1, p16, (show x14.toInt < 2 * ((o0.1 37).toInt + (o0.1 31).toInt) by omega), (show (yo0.1 31).toInt ≤ (o0.1 31).toInt by omega), trivial⟩
      · have wc12 : ¬ x10.toInt = (0 : Int) := c_ne c12
        have i17 : (1 : Int) ≤ x10.toInt ∧ x10.toInt ≤ 1 := nr_nela c12 i11 (show (0 : Int) ≤ (0 : Int32).toInt ∧ (0 : Int32).toInt ≤ 0 by decide) (by decide) (by decide)
        try unfold fM_tableLiteral_158
        try unfold fM_tableLiteral_159
        have p18 : Vl (o0.1 17).toInt ((o0.1 37).toInt + (o0.1 31).toInt) (o0.2.1 27) (o0.2.1 26) := by exact Vl_w (by assumption) (by omega)
        exact tt_some ⟨i_v2, k_o0, r_o0, x_1, p18, (show v2.toInt < 2 * ((o0.1 37).toInt + (o0.1 31).toInt) by omega), (show (yo0.1 31).toInt ≤ (o0.1 31).toInt by omega), trivial⟩
  · have wc3 : v3.toInt < x1.toInt := c_nle c3
    have i19 : (0 : Int) ≤ v3.toInt ∧ v3.toInt ≤ 15 := nr_nlel c3 i_v3 i2 (by decide) (by decide)
    have i20 : (1 : Int) ≤ x1.toInt ∧ x1.toInt ≤ 16 := nr_nler c3 i_v3 i2 (by decide) (by decide)
    have p21 : (v3.toInt < (o0.2.1 22 v1.toNatClampNeg).toInt) := by omega
    exact H.2 _ _ _ _ _ _ k_o0 r_o0 i_v1 i_v2 (iv_w (a := 0) (b := 16) (by decide) (by decide) i19) (iv_w (a := 0) (b := 417) (by decide) (by decide) (show (1 : Int) ≤ (1 : Int32).toInt ∧ (1 : Int32).toInt ≤ 1 by decide)) (iv_w (a := 0) (b := 5) (by decide) (by decide) (show (0 : Int) ≤ (0 : Int32).toInt ∧ (0 : Int32).toInt ≤ 0 by decide)) f_o0_0 f_o0_5 f_o0_13 f_o0_29 f_o0_37 f_o0_95 x_0 p21 x_1 x_2 x_3 (show 1 ≤ (o0.1 37).toInt by omega) (show (yo0.1 31).toInt ≤ (o0.1 31).toInt by omega) (show v2.toInt < 2 * ((o0.1 37).toInt + (o0.1 31).toInt) by omega) (show 1 < 2 * ((o0.1 37).toInt + (o0.1 31).toInt) by omega) (show 0 + (17 - v3.toInt - 1) * 14 + 1 + (5 - 0) * 2 < (n : Int) by omega)
set_option maxHeartbeats 4000000 in
set_option maxRecDepth 100000 in
theorem hM_tableLiteral (yv1 : Int32) (yo0 : cf_O) : ∀ n, HM_tableLiteral yv1 yo0 n := by
  intro n
  induction n with
  | zero => exact ⟨(fun v1 v2 v3 o0 k_o0 r_o0 i_v1 i_v2 i_v3 f_o0_0 f_o0_5 f_o0_13 f_o0_29 f_o0_37 f_o0_95 x_0 x_1 x_2 x_3 x_4 x_5 x_6 hm => by exact absurd (show 0 + (17 - v3.toInt) * 14 < (0 : Int) from hm) (by omega)), (fun v1 v2 v3 v4 v5 o0 k_o0 r_o0 i_v1 i_v2 i_v3 i_v4 i_v5 f_o0_0 f_o0_5 f_o0_13 f_o0_29 f_o0_37 f_o0_95 x_0 x_1 x_2 x_3 x_4 x_5 x_6 x_7 x_8 hm => by exact absurd (show 0 + (17 - v3.toInt - 1) * 14 + 1 + (5 - v5.toInt) * 2 < (0 : Int) from hm) (by omega))⟩
  | succ n ih => exact ⟨(fun v1 v2 v3 o0 k_o0 r_o0 i_v1 i_v2 i_v3 f_o0_0 f_o0_5 f_o0_13 f_o0_29 f_o0_37 f_o0_95 x_0 x_1 x_2 x_3 x_4 x_5 x_6 hm => tM_tableLiteral_4 ih v1 v2 v3 o0 k_o0 r_o0 i_v1 i_v2 i_v3 f_o0_0 f_o0_5 f_o0_13 f_o0_29 f_o0_37 f_o0_95 x_0 x_1 x_2 x_3 x_4 x_5 x_6 (by omega)), (fun v1 v2 v3 v4 v5 o0 k_o0 r_o0 i_v1 i_v2 i_v3 i_v4 i_v5 f_o0_0 f_o0_5 f_o0_13 f_o0_29 f_o0_37 f_o0_95 x_0 x_1 x_2 x_3 x_4 x_5 x_6 x_7 x_8 hm => tM_tableLiteral_20 ih v1 v2 v3 v4 v5 o0 k_o0 r_o0 i_v1 i_v2 i_v3 i_v4 i_v5 f_o0_0 f_o0_5 f_o0_13 f_o0_29 f_o0_37 f_o0_95 x_0 x_1 x_2 x_3 x_4 x_5 x_6 x_7 x_8 (by omega))⟩
set_option maxHeartbeats 4000000 in
set_option maxRecDepth 100000 in
theorem sM_tableLiteral (v1 : Int32) (o0 : cf_O) (k_o0 : okO I_M o0) (i_v1 : (0 : Int) ≤ v1.toInt ∧ v1.toInt ≤ 29) (f_o0_0 : (0 : Int) ≤ (o0.1 0).toInt ∧ (o0.1 0).toInt ≤ 0) (f_o0_5 : (0 : Int) ≤ (o0.1 5).toInt ∧ (o0.1 5).toInt ≤ 0) (f_o0_13 : (1 : Int) ≤ (o0.1 13).toInt ∧ (o0.1 13).toInt ≤ 6) (f_o0_29 : (1 : Int) ≤ (o0.1 29).toInt ∧ (o0.1 29).toInt ≤ 32) (f_o0_37 : (1 : Int) ≤ (o0.1 37).toInt ∧ (o0.1 37).toInt ≤ 9) (f_o0_95 : (0 : Int) ≤ (o0.1 95).toInt ∧ (o0.1 95).toInt ≤ 0) (x_0 : Rf (o0.2.1 22) (o0.2.1 23) (o0.2.1 19)) (x_1 : Gx (o0.1 37).toInt (o0.1 31).toInt (o0.2.1 32) (o0.2.1 33)) (x_2 : Gl v1.toInt ((o0.1 37).toInt + (o0.1 31).toInt) (o0.2.1 25) (o0.2.1 19) (o0.2.1 26)) (x_3 : Vl (o0.1 17).toInt ((o0.1 37).toInt + (o0.1 31).toInt) (o0.2.1 27) (o0.2.1 26)) (x_4 : 1 ≤ (o0.1 37).toInt) : tt (fM_tableLiteral v1 o0) (QM_tableLiteral v1 o0) := by
  have H := hM_tableLiteral v1 o0 cfFU
  have hm : (241 : Int) ≤ (cfFU : Nat) := by decide
  have r_o0 : Fr (fr_M [31, 36] [32, 33, 34] []) o0 o0 := fr_rfl
  unfold fM_tableLiteral fM_tableLiteral_0
  have g_o0_31 : (0 : Int) ≤ (o0.1 31).toInt ∧ (o0.1 31).toInt ≤ 200 := k_o0.1 31
  exact H.1 _ _ _ _ k_o0 r_o0 i_v1 (iv_w (a := 0) (b := 417) (by decide) (by decide) (show (0 : Int) ≤ (0 : Int32).toInt ∧ (0 : Int32).toInt ≤ 0 by decide)) (iv_w (a := 0) (b := 17) (by decide) (by decide) (show (0 : Int) ≤ (0 : Int32).toInt ∧ (0 : Int32).toInt ≤ 0 by decide)) f_o0_0 f_o0_5 f_o0_13 f_o0_29 f_o0_37 f_o0_95 x_0 x_1 x_2 x_3 (show 1 ≤ (o0.1 37).toInt by omega) (show (o0.1 31).toInt ≤ (o0.1 31).toInt by omega) (show 0 < 2 * ((o0.1 37).toInt + (o0.1 31).toInt) by omega) (show 0 + (17 - 0) * 14 < ((cfFU : Nat) : Int) by omega)
def QM_findTable (v1 : Int32) (o0 : cf_O) (r : (cf_O)) : Prop := (okO I_M r) ∧ (Fr (fr_M [29, 31, 36] [26, 27, 30, 32, 33, 34] []) o0 r) ∧ ((0 : Int) ≤ (r.1 29).toInt ∧ (r.1 29).toInt ≤ 0) ∧ (Gx (r.1 37).toInt (r.1 31).toInt (r.2.1 32) (r.2.1 33)) ∧ (Vl (r.1 17).toInt ((r.1 37).toInt + (r.1 31).toInt) (r.2.1 27) (r.2.1 26)) ∧ ((¬ ((r.2.1 27) v1.toNatClampNeg).toInt = 0)) ∧ ((o0.1 31).toInt ≤ (r.1 31).toInt) ∧ True
def HM_findTable (yv1 : Int32) (yo0 : cf_O) (n : Nat) : Prop := (∀ (o0 : cf_O), (okO I_M o0) → (Fr (fr_M [29, 31, 36] [26, 27, 30, 32, 33, 34] []) yo0 o0) → ((0 : Int) ≤ (o0.1 0).toInt ∧ (o0.1 0).toInt ≤ 0) → ((0 : Int) ≤ (o0.1 5).toInt ∧ (o0.1 5).toInt ≤ 0) → ((1 : Int) ≤ (o0.1 13).toInt ∧ (o0.1 13).toInt ≤ 6) → ((1 : Int) ≤ (o0.1 37).toInt ∧ (o0.1 37).toInt ≤ 9) → ((0 : Int) ≤ (o0.1 95).toInt ∧ (o0.1 95).toInt ≤ 0) → (Rf (o0.2.1 22) (o0.2.1 23) (o0.2.1 19)) → (Gv (o0.1 17).toInt (o0.2.1 25) (o0.2.1 19)) → (Ac (o0.1 17).toInt (o0.2.1 25) (o0.2.1 19)) → (Tk (o0.1 17).toInt (o0.1 29).toInt (o0.2.1 30) (o0.2.1 27) (o0.2.1 25) (o0.2.1 19)) → (Gx (o0.1 37).toInt (o0.1 31).toInt (o0.2.1 32) (o0.2.1 33)) → (Vl (o0.1 17).toInt ((o0.1 37).toInt + (o0.1 31).toInt) (o0.2.1 27) (o0.2.1 26)) → (Gi (o0.1 17).toInt (o0.1 10).toInt (o0.2.1 25) (o0.2.1 19)) → ((o0.1 37).toInt = (o0.1 10).toInt + 1) → (Ft (o0.1 29).toInt yv1.toInt (o0.2.1 30) (o0.2.1 27)) → ((yo0.1 31).toInt ≤ (o0.1 31).toInt) → nz (o0.2.1 27) 31 * 10000 + (64 - (o0.1 29).toInt) * 100 + 50 < (n : Int) → tt (gM_findTable n 0 0 0 0 o0) (QM_findTable yv1 yo0)) ∧ (∀ (v2 : Int32) (v3 : Int32) (v4 : Int32) (o0 : cf_O), (okO I_M o0) → (Fr (fr_M [29, 31, 36] [26, 27, 30, 32, 33, 34] []) yo0 o0) → ((0 : Int) ≤ v2.toInt ∧ v2.toInt ≤ 29) → (((-1) : Int) ≤ v3.toInt ∧ v3.toInt ≤ 29) → (((-2) : Int) ≤ v4.toInt ∧ v4.toInt ≤ 4) → ((0 : Int) ≤ (o0.1 0).toInt ∧ (o0.1 0).toInt ≤ 0) → ((0 : Int) ≤ (o0.1 5).toInt ∧ (o0.1 5).toInt ≤ 0) → ((1 : Int) ≤ (o0.1 13).toInt ∧ (o0.1 13).toInt ≤ 6) → ((1 : Int) ≤ (o0.1 29).toInt ∧ (o0.1 29).toInt ≤ 32) → ((1 : Int) ≤ (o0.1 37).toInt ∧ (o0.1 37).toInt ≤ 9) → ((0 : Int) ≤ (o0.1 95).toInt ∧ (o0.1 95).toInt ≤ 0) → (Rf (o0.2.1 22) (o0.2.1 23) (o0.2.1 19)) → (Gv (o0.1 17).toInt (o0.2.1 25) (o0.2.1 19)) → (Ac (o0.1 17).toInt (o0.2.1 25) (o0.2.1 19)) → (Tk (o0.1 17).toInt (o0.1 29).toInt (o0.2.1 30) (o0.2.1 27) (o0.2.1 25) (o0.2.1 19)) → (To v2.toInt (o0.1 29).toInt (o0.2.1 30)) → (Nx v3.toInt v2.toInt (o0.1 17).toInt (o0.2.1 27) (o0.2.1 25) (o0.2.1 19)) → (((o0.2.1 27 v2.toNatClampNeg).toInt = 0)) → (v2.toInt < (o0.1 17).toInt) → (v4.toInt + 2 ≤ (o0.2.1 19 v2.toNatClampNeg).toInt) → (Gx (o0.1 37).toInt (o0.1 31).toInt (o0.2.1 32) (o0.2.1 33)) → (Vl (o0.1 17).toInt ((o0.1 37).toInt + (o0.1 31).toInt) (o0.2.1 27) (o0.2.1 26)) → (Gi (o0.1 17).toInt (o0.1 10).toInt (o0.2.1 25) (o0.2.1 19)) → ((o0.1 37).toInt = (o0.1 10).toInt + 1) → (Ft (o0.1 29).toInt yv1.toInt (o0.2.1 30) (o0.2.1 27)) → ((yo0.1 31).toInt ≤ (o0.1 31).toInt) → (Nz v3.toInt v2.toInt v4.toInt (o0.2.1 27) (o0.2.1 25) (o0.2.1 19)) → nz (o0.2.1 27) 31 * 10000 + (64 - (o0.1 29).toInt) * 100 + (v4.toInt + 2) < (n : Int) → tt (gM_findTable n 1 v2 v3 v4 o0) (QM_findTable yv1 yo0))
set_option maxHeartbeats 4000000 in
set_option maxRecDepth 100000 in
theorem tM_findTable_43 {yv1 : Int32} {yo0 : cf_O} {n : Nat} (H : HM_findTable yv1 yo0 n) (v2 : Int32) (v3 : Int32) (v4 : Int32) (o0 : cf_O) (k_o0 : okO I_M o0) (r_o0 : Fr (fr_M [29, 31, 36] [26, 27, 30, 32, 33, 34] []) yo0 o0) (i_v2 : (0 : Int) ≤ v2.toInt ∧ v2.toInt ≤ 29) (i_v3 : ((-1) : Int) ≤ v3.toInt ∧ v3.toInt ≤ 29) (i_v4 : ((-2) : Int) ≤ v4.toInt ∧ v4.toInt ≤ 4) (f_o0_0 : (0 : Int) ≤ (o0.1 0).toInt ∧ (o0.1 0).toInt ≤ 0) (f_o0_5 : (0 : Int) ≤ (o0.1 5).toInt ∧ (o0.1 5).toInt ≤ 0) (f_o0_13 : (1 : Int) ≤ (o0.1 13).toInt ∧ (o0.1 13).toInt ≤ 6) (f_o0_29 : (1 : Int) ≤ (o0.1 29).toInt ∧ (o0.1 29).toInt ≤ 32) (f_o0_37 : (1 : Int) ≤ (o0.1 37).toInt ∧ (o0.1 37).toInt ≤ 9) (f_o0_95 : (0 : Int) ≤ (o0.1 95).toInt ∧ (o0.1 95).toInt ≤ 0) (x_0 : Rf (o0.2.1 22) (o0.2.1 23) (o0.2.1 19)) (x_1 : Gv (o0.1 17).toInt (o0.2.1 25) (o0.2.1 19)) (x_2 : Ac (o0.1 17).toInt (o0.2.1 25) (o0.2.1 19)) (x_3 : Tk (o0.1 17).toInt (o0.1 29).toInt (o0.2.1 30) (o0.2.1 27) (o0.2.1 25) (o0.2.1 19)) (x_4 : To v2.toInt (o0.1 29).toInt (o0.2.1 30)) (x_5 : Nx v3.toInt v2.toInt (o0.1 17).toInt (o0.2.1 27) (o0.2.1 25) (o0.2.1 19)) (x_6 : ((o0.2.1 27 v2.toNatClampNeg).toInt = 0)) (x_7 : v2.toInt < (o0.1 17).toInt) (x_8 : v4.toInt + 2 ≤ (o0.2.1 19 v2.toNatClampNeg).toInt) (x_9 : Gx (o0.1 37).toInt (o0.1 31).toInt (o0.2.1 32) (o0.2.1 33)) (x_10 : Vl (o0.1 17).toInt ((o0.1 37).toInt + (o0.1 31).toInt) (o0.2.1 27) (o0.2.1 26)) (x_11 : Gi (o0.1 17).toInt (o0.1 10).toInt (o0.2.1 25) (o0.2.1 19)) (x_12 : (o0.1 37).toInt = (o0.1 10).toInt + 1) (x_13 : Ft (o0.1 29).toInt yv1.toInt (o0.2.1 30) (o0.2.1 27)) (x_14 : (yo0.1 31).toInt ≤ (o0.1 31).toInt) (x_15 : Nz v3.toInt v2.toInt v4.toInt (o0.2.1 27) (o0.2.1 25) (o0.2.1 19)) (hm : nz (o0.2.1 27) 31 * 10000 + (64 - (o0.1 29).toInt) * 100 + (v4.toInt + 2) ≤ (n : Int)) : tt (fM_findTable_43 (gM_findTable n) v2 v3 v4 o0) (QM_findTable yv1 yo0) := by
  unfold fM_findTable_43
  have g_o0_10 : (0 : Int) ≤ (o0.1 10).toInt ∧ (o0.1 10).toInt ≤ 8 := k_o0.1 10
  have ey_o0_10 : (o0.1 10).toInt = (yo0.1 10).toInt := congrArg Int32.toInt (r_o0.1 10 rfl)
  have g_o0_17 : (0 : Int) ≤ (o0.1 17).toInt ∧ (o0.1 17).toInt ≤ 30 := k_o0.1 17
  have ey_o0_17 : (o0.1 17).toInt = (yo0.1 17).toInt := congrArg Int32.toInt (r_o0.1 17 rfl)
  have g_o0_31 : (0 : Int) ≤ (o0.1 31).toInt ∧ (o0.1 31).toInt ≤ 200 := k_o0.1 31
  have ey_o0_37 : (o0.1 37).toInt = (yo0.1 37).toInt := congrArg Int32.toInt (r_o0.1 37 rfl)
  have t1 := Ft_b x_3 x_2 (k_o0.1 17).2 x_4 x_5
  have t2 := nz_b (o0.2.1 27) 31
  refine tt_if (fun c3 => ?_) (fun c3 => ?_)
  · have wc3 : v4.toInt < (0 : Int) := c_lt c3
    have i4 : ((-2) : Int) ≤ v4.toInt ∧ v4.toInt ≤ (-1) := nr_ltl c3 i_v4 (show (0 : Int) ≤ (0 : Int32).toInt ∧ (0 : Int32).toInt ≤ 0 by decide) (by decide) (by decide)
    refine tt_if (fun c5 => ?_) (fun c5 => ?_)
    · have wc5 : v3.toInt < (0 : Int) := c_lt c5
      have i6 : ((-1) : Int) ≤ v3.toInt ∧ v3.toInt ≤ (-1) := nr_ltl c5 i_v3 (show (0 : Int) ≤ (0 : Int32).toInt ∧ (0 : Int32).toInt ≤ 0 by decide) (by decide) (by decide)
      have p7 : Gl v2.toInt ((o0.1 37).toInt + (o0.1 31).toInt) (o0.2.1 25) (o0.2.1 19) (o0.2.1 26) := by exact Gl_i (by assumption) x_1 (by assumption) (by assumption) (by omega) (by omega) (by omega) (by omega)
      refine tt_b (sM_tableLiteral _ _ k_o0 i_v2 f_o0_0 f_o0_5 f_o0_13 f_o0_29 f_o0_37 f_o0_95 x_0 x_9 p7 x_10 (show 1 ≤ (o0.1 37).toInt by omega)) (fun q8 hq8 => ?_)
      obtain ⟨i_q8, k_q8_2, n_q8_2, zq8_0, zq8_1, zq8_2, zq8_3, -⟩ := hq8
      have r_q8_2 := fr_tr r_o0 n_q8_2 rfl rfl rfl
      have f_q8_2_0 : (0 : Int) ≤ (q8.2.1 0).toInt ∧ (q8.2.1 0).toInt ≤ 0 := by rw [n_q8_2.1 0 rfl]; exact f_o0_0
      have f_q8_2_29 : (1 : Int) ≤ (q8.2.1 29).toInt ∧ (q8.2.1 29).toInt ≤ 32 := by rw [n_q8_2.1 29 rfl]; exact f_o0_29
      have f_q8_2_5 : (0 : Int) ≤ (q8.2.1 5).toInt ∧ (q8.2.1 5).toInt ≤ 0 := by rw [n_q8_2.1 5 rfl]; exact f_o0_5
      have f_q8_2_37 : (1 : Int) ≤ (q8.2.1 37).toInt ∧ (q8.2.1 37).toInt ≤ 9 := by rw [n_q8_2.1 37 rfl]; exact f_o0_37
      have f_q8_2_13 : (1 : Int) ≤ (q8.2.1 13).toInt ∧ (q8.2.1 13).toInt ≤ 6 := by rw [n_q8_2.1 13 rfl]; exact f_o0_13
      have f_q8_2_95 : (0 : Int) ≤ (q8.2.1 95).toInt ∧ (q8.2.1 95).toInt ≤ 0 := by rw [n_q8_2.1 95 rfl]; exact f_o0_95
      have e_q8_2_10 : (q8.2.1 10).toInt = (o0.1 10).toInt := congrArg Int32.toInt (n_q8_2.1 10 rfl)
      have g_q8_2_10 : (0 : Int) ≤ (q8.2.1 10).toInt ∧ (q8.2.1 10).toInt ≤ 8 := k_q8_2.1 10
      have e_q8_2_17 : (q8.2.1 17).toInt = (o0.1 17).toInt := congrArg Int32.toInt (n_q8_2.1 17 rfl)
      have g_q8_2_17 : (0 : Int) ≤ (q8.2.1 17).toInt ∧ (q8.2.1 17).toInt ≤ 30 := k_q8_2.1 17
      have e_q8_2_29 : (q8.2.1 29).toInt = (o0.1 29).toInt := congrArg Int32.toInt (n_q8_2.1 29 rfl)
      have g_q8_2_31 : (0 : Int) ≤ (q8.2.1 31).toInt ∧ (q8.2.1 31).toInt ≤ 200 := k_q8_2.1 31
      have e_q8_2_37 : (q8.2.1 37).toInt = (o0.1 37).toInt := congrArg Int32.toInt (n_q8_2.1 37 rfl)
      have zq8_2 : q8.1.toInt < 2 * ((q8.2.1 37).toInt + (q8.2.1 31).toInt) := zq8_2
      have zq8_3 : (o0.1 31).toInt ≤ (q8.2.1 31).toInt := zq8_3
      have u9 : Rf (q8.2.2.1 22) (q8.2.2.1 23) (q8.2.2.1 19) := by rw [n_q8_2.2.1 19 rfl, n_q8_2.2.1 22 rfl, n_q8_2.2.1 23 rfl]; exact x_0
      have u10 : Gv (q8.2.1 17).toInt (q8.2.2.1 25) (q8.2.2.1 19) := by rw [n_q8_2.1 17 rfl, n_q8_2.2.1 19 rfl, n_q8_2.2.1 25 rfl]; exact x_1
      have u11 : Ac (q8.2.1 17).toInt (q8.2.2.1 25) (q8.2.2.1 19) := by rw [n_q8_2.1 17 rfl, n_q8_2.2.1 19 rfl, n_q8_2.2.1 25 rfl]; exact x_2
      have u12 : Tk (q8.2.1 17).toInt (q8.2.1 29).toInt (q8.2.2.1 30) (q8.2.2.1 27) (q8.2.2.1 25) (q8.2.2.1 19) := by rw [n_q8_2.1 17 rfl, n_q8_2.1 29 rfl, n_q8_2.2.1 19 rfl, n_q8_2.2.1 25 rfl, n_q8_2.2.1 27 rfl, n_q8_2.2.1 30 rfl]; exact x_3
      have u13 : To v2.toInt (q8.2.1 29).toInt (q8.2.2.1 30) := by rw [n_q8_2.1 29 rfl, n_q8_2.2.1 30 rfl]; exact x_4
      have u14 : Nx v3.toInt v2.toInt (q8.2.1 17).toInt (q8.2.2.1 27) (q8.2.2.1 25) (q8.2.2.1 19) := by rw [n_q8_2.1 17 rfl, n_q8_2.2.1 19 rfl, n_q8_2.2.1 25 rfl, n_q8_2.2.1 27 rfl]; exact x_5
      have u15 : ((q8.2.2.1 27 v2.toNatClampNeg).toInt = 0) := by rw [n_q8_2.2.1 27 rfl]; exact x_6
      have u16 : Gi (q8.2.1 17).toInt (q8.2.1 10).toInt (q8.2.2.1 25) (q8.2.2.1 19) := by rw [n_q8_2.1 10 rfl, n_q8_2.1 17 rfl, n_q8_2.2.1 19 rfl, n_q8_2.2.1 25 rfl]; exact x_11
      have u17 : Ft (q8.2.1 29).toInt yv1.toInt (q8.2.2.1 30) (q8.2.2.1 27) := by rw [n_q8_2.1 29 rfl, n_q8_2.2.1 27 rfl, n_q8_2.2.1 30 rfl]; exact x_13
      have u18 : Nz v3.toInt v2.toInt v4.toInt (q8.2.2.1 27) (q8.2.2.1 25) (q8.2.2.1 19) := by rw [n_q8_2.2.1 19 rfl, n_q8_2.2.1 25 rfl, n_q8_2.2.1 27 rfl]; exact x_15
      have u19 : (nz (q8.2.2.1 27) 31 * 10000 + (64 - (q8.2.1 29).toInt) * 100 + (v4.toInt + 2) ≤ (n : Int)) := by rw [n_q8_2.1 29 rfl, n_q8_2.2.1 27 rfl]; exact hm
      refine tt_n (ix_ok i_v2 (by decide) (by decide)) ?_
      refine tt_ko ?_
      have k20 := ok_xp (k := 26) (i := v2.toNatClampNeg) (v := q8.1) k_q8_2 i_q8
      have r21 := fr_xp (k := 26) (i := v2.toNatClampNeg) (v := q8.1) r_q8_2 rfl
      refine tt_n (ix_ok i_v2 (by decide) (by decide)) ?_
      refine tt_ko ?_
      have k22 := ok_xp (k := 27) (i := v2.toNatClampNeg) (v := (vp_nar .boolean 1)) k20 (iv_nz _)
      have r23 := fr_xp (k := 27) (i := v2.toNatClampNeg) (v := (vp_nar .boolean 1)) r21 rfl
      have t24 := tn_n v2
      have t25 : ((vp_nar .boolean 1) : Int32).toInt = 1 := (by decide)
      have t26 := nz_w (f := (q8.2.2.1 27)) (i := v2.toNatClampNeg) (n := 31) (v := (vp_nar .boolean 1))
      refine tt_kv (P := fun z => ((0 : Int) ≤ z.toInt ∧ z.toInt ≤ 31) ∧ z = ((q8.2.1 29) - 1) ∧ z.toInt = (q8.2.1 29).toInt - 1) ⟨iv_sub f_q8_2_29 (show (1 : Int) ≤ (1 : Int32).toInt ∧ (1 : Int32).toInt ≤ 1 by decide) (by decide) (by decide) (by decide) (by decide), rfl, iq_sub f_q8_2_29 (show (1 : Int) ≤ (1 : Int32).toInt ∧ (1 : Int32).toInt ≤ 1 by decide) (by decide) (by decide)⟩ (fun x27 qi28 => ?_)
      obtain ⟨i28, ax27, ei28⟩ := qi28
      refine tt_ko ?_
      have k29 := ok_fp (k := 29) (v := x27) k22 (iv_w (a := 0) (b := 32) (by decide) (by decide) i28)
      have r30 := fr_fp (k := 29) (v := x27) r23 rfl
      try unfold fM_findTable_148
      have p31 : Tk (q8.2.1 17).toInt x27.toInt (q8.2.2.1 30) (upd (q8.2.2.1 27) (v2.toNatClampNeg) (vp_nar .boolean 1)) (q8.2.2.1 25) (q8.2.2.1 19) := by first | exact Tk_push x_3 x_4 x_5 (by omega) (by rw [tn_n]; omega) (by omega) | exact Tk_pop (by assumption) (by assumption) (by omega) (by assumption) rfl (by omega)
      have p32 : Vl (q8.2.1 17).toInt ((q8.2.1 37).toInt + (q8.2.1 31).toInt) (upd (q8.2.2.1 27) (v2.toNatClampNeg) (vp_nar .boolean 1)) (upd (q8.2.2.1 26) (v2.toNatClampNeg) q8.1) := by exact Vl_s (by assumption) (by omega) rfl (by omega)
      have p33 : Ft x27.toInt yv1.toInt (q8.2.2.1 30) (upd (q8.2.2.1 27) (v2.toNatClampNeg) (vp_nar .boolean 1)) := by first | exact Ft_push (by assumption) (by omega) (by rw [tn_n]; omega) (by omega) | exact Ft_pop (by assumption) (by assumption) (by rw [tn_n]; omega) (by omega) (by decide)
      exact H.1 _ k29 r30 f_q8_2_0 f_q8_2_5 f_q8_2_13 f_q8_2_37 f_q8_2_95 u9 u10 u11 p31 zq8_0 p32 u16 (show (q8.2.1 37).toInt = (q8.2.1 10).toInt + 1 by omega) p33 (show (yo0.1 31).toInt ≤ (q8.2.1 31).toInt by omega) (show nz (upd (q8.2.2.1 27) (v2.toNatClampNeg) (vp_nar .boolean 1)) 31 * 10000 + (64 - x27.toInt) * 100 + 50 < (n : Int) by omega)
    · have wc5 : (0 : Int) ≤ v3.toInt := c_nlt c5
      have i34 : (0 : Int) ≤ v3.toInt ∧ v3.toInt ≤ 29 := nr_nltr c5 (show (0 : Int) ≤ (0 : Int32).toInt ∧ (0 : Int32).toInt ≤ 0 by decide) i_v3 (by decide) (by decide)
      refine tt_n (ix_rel (x := (o0.1 29)) (by omega) (by omega)) ?_
      have i35 : (1 : Int) ≤ (o0.1 29).toInt ∧ (o0.1 29).toInt ≤ 31 := (by omega)
      refine tt_ko ?_
      have k36 := ok_xp (k := 30) (i := (o0.1 29).toNatClampNeg) (v := v3) k_o0 i34
      have r37 := fr_xp (k := 30) (i := (o0.1 29).toNatClampNeg) (v := v3) r_o0 rfl
      refine tt_kv (P := fun z => ((2 : Int) ≤ z.toInt ∧ z.toInt ≤ 32) ∧ z = ((o0.1 29) + 1) ∧ z.toInt = (o0.1 29).toInt + 1) ⟨iv_add i35 (show (1 : Int) ≤ (1 : Int32).toInt ∧ (1 : Int32).toInt ≤ 1 by decide) (by decide) (by decide) (by decide) (by decide), rfl, iq_add i35 (show (1 : Int) ≤ (1 : Int32).toInt ∧ (1 : Int32).toInt ≤ 1 by decide) (by decide) (by decide)⟩ (fun x38 qi39 => ?_)
      obtain ⟨i39, ax38, ei39⟩ := qi39
      refine tt_ko ?_
      have k40 := ok_fp (k := 29) (v := x38) k36 (iv_w (a := 0) (b := 32) (by decide) (by decide) i39)
      have r41 := fr_fp (k := 29) (v := x38) r37 rfl
      try unfold fM_findTable_148
      have p42 : Tk (o0.1 17).toInt x38.toInt (upd (o0.2.1 30) ((o0.1 29).toNatClampNeg) v3) (o0.2.1 27) (o0.2.1 25) (o0.2.1 19) := by first | exact Tk_push x_3 x_4 x_5 (by omega) (by rw [tn_n]; omega) (by omega) | exact Tk_pop (by assumption) (by assumption) (by omega) (by assumption) rfl (by omega)
      have p43 : Ft x38.toInt yv1.toInt (upd (o0.2.1 30) ((o0.1 29).toNatClampNeg) v3) (o0.2.1 27) := by first | exact Ft_push (by assumption) (by omega) (by rw [tn_n]; omega) (by omega) | exact Ft_pop (by assumption) (by assumption) (by rw [tn_n]; omega) (by omega) (by decide)
      exact H.1 _ k40 r41 f_o0_0 f_o0_5 f_o0_13 f_o0_37 f_o0_95 x_0 x_1 x_2 p42 x_9 x_10 x_11 (show (o0.1 37).toInt = (o0.1 10).toInt + 1 by omega) p43 (show (yo0.1 31).toInt ≤ (o0.1 31).toInt by omega) (show nz (o0.2.1 27) 31 * 10000 + (64 - x38.toInt) * 100 + 50 < (n : Int) by omega)
  · have wc3 : (0 : Int) ≤ v4.toInt := c_nlt c3
    have i44 : (0 : Int) ≤ v4.toInt ∧ v4.toInt ≤ 4 := nr_nltr c3 (show (0 : Int) ≤ (0 : Int32).toInt ∧ (0 : Int32).toInt ≤ 0 by decide) i_v4 (by decide) (by decide)
    refine tt_kv (P := fun z => ((0 : Int) ≤ z.toInt ∧ z.toInt ≤ 174) ∧ z = (6 * v2) ∧ z.toInt = 6 * v2.toInt) ⟨iv_mul (show (6 : Int) ≤ (6 : Int32).toInt ∧ (6 : Int32).toInt ≤ 6 by decide) i_v2 (by decide) (by decide) (by decide) (by decide) (by decide), rfl, iq_mul (show (6 : Int) ≤ (6 : Int32).toInt ∧ (6 : Int32).toInt ≤ 6 by decide) i_v2 (by decide) (by decide) (by decide) (by decide)⟩ (fun x45 qi46 => ?_)
    obtain ⟨i46, ax45, ei46⟩ := qi46
    refine tt_kv (P := fun z => ((0 : Int) ≤ z.toInt ∧ z.toInt ≤ 178) ∧ z = (x45 + v4) ∧ z.toInt = x45.toInt + v4.toInt) ⟨iv_add i46 i44 (by decide) (by decide) (by decide) (by decide), rfl, iq_add i46 i44 (by decide) (by decide)⟩ (fun x47 qi48 => ?_)
    obtain ⟨i48, ax47, ei48⟩ := qi48
    refine tt_n (ix_ok i48 (by decide) (by decide)) ?_
    refine tt_kv (P := fun z => (((-1) : Int) ≤ z.toInt ∧ z.toInt ≤ 37) ∧ z = (o0.2.1 25 x47.toNatClampNeg) ∧ z.toInt = (o0.2.1 25 x47.toNatClampNeg).toInt) ⟨(k_o0.2 25 _), rfl, rfl⟩ (fun x49 qi50 => ?_)
    obtain ⟨i50, ax49, ei50⟩ := qi50
    have t52 := tn_n x47
    have u51 : Cg x49.toInt v2.toInt (o0.1 17).toInt (o0.2.1 25) (o0.2.1 19) := Cg_i x_1 (congrArg Int32.toInt ax49) (T := v2.toInt) (K := v4.toInt) (by rw [tn_n]; omega) (by omega) (by omega) (show v4.toInt + 1 < (o0.2.1 19 v2.toNatClampNeg).toInt by omega)
    refine tt_kv (P := fun z => (((-9) : Int) ≤ z.toInt ∧ z.toInt ≤ 29) ∧ z = (x49 - 8) ∧ z.toInt = x49.toInt - 8) ⟨iv_sub i50 (show (8 : Int) ≤ (8 : Int32).toInt ∧ (8 : Int32).toInt ≤ 8 by decide) (by decide) (by decide) (by decide) (by decide), rfl, iq_sub i50 (show (8 : Int) ≤ (8 : Int32).toInt ∧ (8 : Int32).toInt ≤ 8 by decide) (by decide) (by decide)⟩ (fun x53 qi54 => ?_)
    obtain ⟨i54, ax53, ei54⟩ := qi54
    refine tt_if (fun c55 => ?_) (fun c55 => ?_)
    · have wc55 : x53.toInt < (0 : Int) := c_lt c55
      have i56 : ((-9) : Int) ≤ x53.toInt ∧ x53.toInt ≤ (-1) := nr_ltl c55 i54 (show (0 : Int) ≤ (0 : Int32).toInt ∧ (0 : Int32).toInt ≤ 0 by decide) (by decide) (by decide)
      have i57 : ((-1) : Int) ≤ x49.toInt ∧ x49.toInt ≤ 7 := by omega
      try unfold fM_findTable_85
      try unfold fM_findTable_86
      refine tt_kv (P := fun z => (((-1) : Int) ≤ z.toInt ∧ z.toInt ≤ 3) ∧ z = (v4 + (-1)) ∧ z.toInt = v4.toInt + (-1)) ⟨iv_add i44 (show ((-1) : Int) ≤ ((-1) : Int32).toInt ∧ ((-1) : Int32).toInt ≤ (-1) by decide) (by decide) (by decide) (by decide) (by decide), rfl, iq_add i44 (show ((-1) : Int) ≤ ((-1) : Int32).toInt ∧ ((-1) : Int32).toInt ≤ (-1) by decide) (by decide) (by decide)⟩ (fun x58 qi59 => ?_)
      obtain ⟨i59, ax58, ei59⟩ := qi59
      have t60 : (0 : Int) ≤ (o0.2.1 19 v2.toNatClampNeg).toInt ∧ (o0.2.1 19 v2.toNatClampNeg).toInt ≤ 6 := k_o0.2 19 _
      have p61 : Nz v3.toInt v2.toInt x58.toInt (o0.2.1 27) (o0.2.1 25) (o0.2.1 19) := by first | exact Nz_p (by omega) | exact Nz_s (by assumption) (by assumption) (by rw [tn_n]; omega) (by omega) (by assumption) (by omega)
      exact H.2 _ _ _ _ k_o0 r_o0 i_v2 i_v3 (iv_w (a := (-2)) (b := 4) (by decide) (by decide) i59) f_o0_0 f_o0_5 f_o0_13 f_o0_29 f_o0_37 f_o0_95 x_0 x_1 x_2 x_3 x_4 x_5 x_6 (show v2.toInt < (o0.1 17).toInt by first | omega | exact (Ft_z x_3 (by assumption) (by assumption) (by omega)).2.2) (show x58.toInt + 2 ≤ (o0.2.1 19 v2.toNatClampNeg).toInt by omega) x_9 x_10 x_11 (show (o0.1 37).toInt = (o0.1 10).toInt + 1 by omega) x_13 (show (yo0.1 31).toInt ≤ (o0.1 31).toInt by omega) p61 (show nz (o0.2.1 27) 31 * 10000 + (64 - (o0.1 29).toInt) * 100 + (x58.toInt + 2) < (n : Int) by omega)
    · have wc55 : (0 : Int) ≤ x53.toInt := c_nlt c55
      have i62 : (0 : Int) ≤ x53.toInt ∧ x53.toInt ≤ 29 := nr_nltr c55 (show (0 : Int) ≤ (0 : Int32).toInt ∧ (0 : Int32).toInt ≤ 0 by decide) i54 (by decide) (by decide)
      have i63 : (8 : Int) ≤ x49.toInt ∧ x49.toInt ≤ 37 := by omega
      refine tt_n (ix_ok i62 (by decide) (by decide)) ?_
      refine tt_kv (P := fun z => ((0 : Int) ≤ z.toInt ∧ z.toInt ≤ 1) ∧ z = (o0.2.1 27 x53.toNatClampNeg) ∧ z.toInt = (o0.2.1 27 x53.toNatClampNeg).toInt) ⟨(k_o0.2 27 _), rfl, rfl⟩ (fun x64 qi65 => ?_)
      obtain ⟨i65, ax64, ei65⟩ := qi65
      refine tt_if (fun c66 => ?_) (fun c66 => ?_)
      · have wc66 : x64.toInt = (0 : Int) := c_eq c66
        have i67 : (0 : Int) ≤ x64.toInt ∧ x64.toInt ≤ 0 := nr_eql c66 i65 (show (0 : Int) ≤ (0 : Int32).toInt ∧ (0 : Int32).toInt ≤ 0 by decide) (by decide) (by decide)
        try unfold fM_findTable_86
        refine tt_kv (P := fun z => (((-1) : Int) ≤ z.toInt ∧ z.toInt ≤ 3) ∧ z = (v4 + (-1)) ∧ z.toInt = v4.toInt + (-1)) ⟨iv_add i44 (show ((-1) : Int) ≤ ((-1) : Int32).toInt ∧ ((-1) : Int32).toInt ≤ (-1) by decide) (by decide) (by decide) (by decide) (by decide), rfl, iq_add i44 (show ((-1) : Int) ≤ ((-1) : Int32).toInt ∧ ((-1) : Int32).toInt ≤ (-1) by decide) (by decide) (by decide)⟩ (fun x68 qi69 => ?_)
        obtain ⟨i69, ax68, ei69⟩ := qi69
        have p70 : Nx x53.toInt v2.toInt (o0.1 17).toInt (o0.2.1 27) (o0.2.1 25) (o0.2.1 19) := by first | assumption | exact Nx_s (by assumption) (by omega) (by omega) (by omega)
        have t71 : (0 : Int) ≤ (o0.2.1 19 v2.toNatClampNeg).toInt ∧ (o0.2.1 19 v2.toNatClampNeg).toInt ≤ 6 := k_o0.2 19 _
        have p72 : Nz x53.toInt v2.toInt x68.toInt (o0.2.1 27) (o0.2.1 25) (o0.2.1 19) := by first | exact Nz_p (by omega) | exact Nz_s (by assumption) (by assumption) (by rw [tn_n]; omega) (by omega) (by assumption) (by omega)
        exact H.2 _ _ _ _ k_o0 r_o0 i_v2 (iv_w (a := (-1)) (b := 29) (by decide) (by decide) i62) (iv_w (a := (-2)) (b := 4) (by decide) (by decide) i69) f_o0_0 f_o0_5 f_o0_13 f_o0_29 f_o0_37 f_o0_95 x_0 x_1 x_2 x_3 x_4 p70 x_6 (show v2.toInt < (o0.1 17).toInt by first | omega | exact (Ft_z x_3 (by assumption) (by assumption) (by omega)).2.2) (show x68.toInt + 2 ≤ (o0.2.1 19 v2.toNatClampNeg).toInt by omega) x_9 x_10 x_11 (show (o0.1 37).toInt = (o0.1 10).toInt + 1 by omega) x_13 (show (yo0.1 31).toInt ≤ (o0.1 31).toInt by omega) p72 (show nz (o0.2.1 27) 31 * 10000 + (64 - (o0.1 29).toInt) * 100 + (x68.toInt + 2) < (n : Int) by omega)
      · have wc66 : ¬ x64.toInt = (0 : Int) := c_ne c66
        have i73 : (1 : Int) ≤ x64.toInt ∧ x64.toInt ≤ 1 := nr_nela c66 i65 (show (0 : Int) ≤ (0 : Int32).toInt ∧ (0 : Int32).toInt ≤ 0 by decide) (by decide) (by decide)
        try unfold fM_findTable_85
        try unfold fM_findTable_86
        refine tt_kv (P := fun z => (((-1) : Int) ≤ z.toInt ∧ z.toInt ≤ 3) ∧ z = (v4 + (-1)) ∧ z.toInt = v4.toInt + (-1)) ⟨iv_add i44 (show ((-1) : Int) ≤ ((-1) : Int32).toInt ∧ ((-1) : Int32).toInt ≤ (-1) by decide) (by decide) (by decide) (by decide) (by decide), rfl, iq_add i44 (show ((-1) : Int) ≤ ((-1) : Int32).toInt ∧ ((-1) : Int32).toInt ≤ (-1) by decide) (by decide) (by decide)⟩ (fun x74 qi75 => ?_)
        obtain ⟨i75, ax74, ei75⟩ := qi75
        have t76 : (0 : Int) ≤ (o0.2.1 19 v2.toNatClampNeg).toInt ∧ (o0.2.1 19 v2.toNatClampNeg).toInt ≤ 6 := k_o0.2 19 _
        have p77 : Nz v3.toInt v2.toInt x74.toInt (o0.2.1 27) (o0.2.1 25) (o0.2.1 19) := by first | exact Nz_p (by omega) | exact Nz_s (by assumption) (by assumption) (by rw [tn_n]; omega) (by omega) (by assumption) (by omega)
        exact H.2 _ _ _ _ k_o0 r_o0 i_v2 i_v3 (iv_w (a := (-2)) (b := 4) (by decide) (by decide) i75) f_o0_0 f_o0_5 f_o0_13 f_o0_29 f_o0_37 f_o0_95 x_0 x_1 x_2 x_3 x_4 x_5 x_6 (show v2.toInt < (o0.1 17).toInt by first | omega | exact (Ft_z x_3 (by assumption) (by assumption) (by omega)).2.2) (show x74.toInt + 2 ≤ (o0.2.1 19 v2.toNatClampNeg).toInt by omega) x_9 x_10 x_11 (show (o0.1 37).toInt = (o0.1 10).toInt + 1 by omega) x_13 (show (yo0.1 31).toInt ≤ (o0.1 31).toInt by omega) p77 (show nz (o0.2.1 27) 31 * 10000 + (64 - (o0.1 29).toInt) * 100 + (x74.toInt + 2) < (n : Int) by omega)
set_option maxHeartbeats 4000000 in
set_option maxRecDepth 100000 in
theorem tM_findTable_12 {yv1 : Int32} {yo0 : cf_O} {n : Nat} (H : HM_findTable yv1 yo0 n) (o0 : cf_O) (k_o0 : okO I_M o0) (r_o0 : Fr (fr_M [29, 31, 36] [26, 27, 30, 32, 33, 34] []) yo0 o0) (f_o0_0 : (0 : Int) ≤ (o0.1 0).toInt ∧ (o0.1 0).toInt ≤ 0) (f_o0_5 : (0 : Int) ≤ (o0.1 5).toInt ∧ (o0.1 5).toInt ≤ 0) (f_o0_13 : (1 : Int) ≤ (o0.1 13).toInt ∧ (o0.1 13).toInt ≤ 6) (f_o0_37 : (1 : Int) ≤ (o0.1 37).toInt ∧ (o0.1 37).toInt ≤ 9) (f_o0_95 : (0 : Int) ≤ (o0.1 95).toInt ∧ (o0.1 95).toInt ≤ 0) (x_0 : Rf (o0.2.1 22) (o0.2.1 23) (o0.2.1 19)) (x_1 : Gv (o0.1 17).toInt (o0.2.1 25) (o0.2.1 19)) (x_2 : Ac (o0.1 17).toInt (o0.2.1 25) (o0.2.1 19)) (x_3 : Tk (o0.1 17).toInt (o0.1 29).toInt (o0.2.1 30) (o0.2.1 27) (o0.2.1 25) (o0.2.1 19)) (x_4 : Gx (o0.1 37).toInt (o0.1 31).toInt (o0.2.1 32) (o0.2.1 33)) (x_5 : Vl (o0.1 17).toInt ((o0.1 37).toInt + (o0.1 31).toInt) (o0.2.1 27) (o0.2.1 26)) (x_6 : Gi (o0.1 17).toInt (o0.1 10).toInt (o0.2.1 25) (o0.2.1 19)) (x_7 : (o0.1 37).toInt = (o0.1 10).toInt + 1) (x_8 : Ft (o0.1 29).toInt yv1.toInt (o0.2.1 30) (o0.2.1 27)) (x_9 : (yo0.1 31).toInt ≤ (o0.1 31).toInt) (hm : nz (o0.2.1 27) 31 * 10000 + (64 - (o0.1 29).toInt) * 100 + 50 ≤ (n : Int)) : tt (fM_findTable_12 (gM_findTable n) o0) (QM_findTable yv1 yo0) := by
  unfold fM_findTable_12
  have g_o0_10 : (0 : Int) ≤ (o0.1 10).toInt ∧ (o0.1 10).toInt ≤ 8 := k_o0.1 10
  have ey_o0_10 : (o0.1 10).toInt = (yo0.1 10).toInt := congrArg Int32.toInt (r_o0.1 10 rfl)
  have g_o0_17 : (0 : Int) ≤ (o0.1 17).toInt ∧ (o0.1 17).toInt ≤ 30 := k_o0.1 17
  have ey_o0_17 : (o0.1 17).toInt = (yo0.1 17).toInt := congrArg Int32.toInt (r_o0.1 17 rfl)
  have g_o0_29 : (0 : Int) ≤ (o0.1 29).toInt ∧ (o0.1 29).toInt ≤ 32 := k_o0.1 29
  have g_o0_31 : (0 : Int) ≤ (o0.1 31).toInt ∧ (o0.1 31).toInt ≤ 200 := k_o0.1 31
  have ey_o0_37 : (o0.1 37).toInt = (yo0.1 37).toInt := congrArg Int32.toInt (r_o0.1 37 rfl)
  have t1 := nz_b (o0.2.1 27) 31
  refine tt_if (fun c2 => ?_) (fun c2 => ?_)
  · have wc2 : (o0.1 29).toInt ≤ (0 : Int) := c_le c2
    have i3 : (0 : Int) ≤ (o0.1 29).toInt ∧ (o0.1 29).toInt ≤ 0 := nr_lel c2 (k_o0.1 29) (show (0 : Int) ≤ (0 : Int32).toInt ∧ (0 : Int32).toInt ≤ 0 by decide) (by decide) (by decide)
    have p4 : (¬ ((o0.2.1 27) yv1.toNatClampNeg).toInt = 0) := by exact (show Ft _ _ _ _ by assumption).1 (by omega)
    exact tt_some ⟨k_o0, r_o0, i3, x_4, x_5, p4, (show (yo0.1 31).toInt ≤ (o0.1 31).toInt by omega), trivial⟩
  · have wc2 : (0 : Int) < (o0.1 29).toInt := c_nle c2
    have i5 : (1 : Int) ≤ (o0.1 29).toInt ∧ (o0.1 29).toInt ≤ 32 := nr_nler c2 (show (0 : Int) ≤ (0 : Int32).toInt ∧ (0 : Int32).toInt ≤ 0 by decide) (k_o0.1 29) (by decide) (by decide)
    refine tt_kv (P := fun z => ((0 : Int) ≤ z.toInt ∧ z.toInt ≤ 31) ∧ z = ((o0.1 29) - 1) ∧ z.toInt = (o0.1 29).toInt - 1) ⟨iv_sub i5 (show (1 : Int) ≤ (1 : Int32).toInt ∧ (1 : Int32).toInt ≤ 1 by decide) (by decide) (by decide) (by decide) (by decide), rfl, iq_sub i5 (show (1 : Int) ≤ (1 : Int32).toInt ∧ (1 : Int32).toInt ≤ 1 by decide) (by decide) (by decide)⟩ (fun x6 qi7 => ?_)
    obtain ⟨i7, ax6, ei7⟩ := qi7
    refine tt_n (ix_ok i7 (by decide) (by decide)) ?_
    refine tt_kv (P := fun z => ((0 : Int) ≤ z.toInt ∧ z.toInt ≤ 29) ∧ z = (o0.2.1 30 x6.toNatClampNeg) ∧ z.toInt = (o0.2.1 30 x6.toNatClampNeg).toInt) ⟨(k_o0.2 30 _), rfl, rfl⟩ (fun x8 qi9 => ?_)
    obtain ⟨i9, ax8, ei9⟩ := qi9
    refine tt_n (ix_ok i9 (by decide) (by decide)) ?_
    refine tt_kv (P := fun z => ((0 : Int) ≤ z.toInt ∧ z.toInt ≤ 6) ∧ z = (o0.2.1 19 x8.toNatClampNeg) ∧ z.toInt = (o0.2.1 19 x8.toNatClampNeg).toInt) ⟨(k_o0.2 19 _), rfl, rfl⟩ (fun x10 qi11 => ?_)
    obtain ⟨i11, ax10, ei11⟩ := qi11
    refine tt_kv (P := fun z => (((-2) : Int) ≤ z.toInt ∧ z.toInt ≤ 4) ∧ z = (x10 - 2) ∧ z.toInt = x10.toInt - 2) ⟨iv_sub i11 (show (2 : Int) ≤ (2 : Int32).toInt ∧ (2 : Int32).toInt ≤ 2 by decide) (by decide) (by decide) (by decide) (by decide), rfl, iq_sub i11 (show (2 : Int) ≤ (2 : Int32).toInt ∧ (2 : Int32).toInt ≤ 2 by decide) (by decide) (by decide)⟩ (fun x12 qi13 => ?_)
    obtain ⟨i13, ax12, ei13⟩ := qi13
    have p14 : To x8.toInt (o0.1 29).toInt (o0.2.1 30) := by exact To_i (by assumption) (by assumption) (by omega)
    have p15 : Nx (-1) x8.toInt (o0.1 17).toInt (o0.2.1 27) (o0.2.1 25) (o0.2.1 19) := by exact Or.inl rfl
    have p16 : ((o0.2.1 27 x8.toNatClampNeg).toInt = 0) := by exact (Ft_z x_3 (by assumption) (by assumption) (by omega)).1
    have t17 : (0 : Int) ≤ (o0.2.1 19 x8.toNatClampNeg).toInt ∧ (o0.2.1 19 x8.toNatClampNeg).toInt ≤ 6 := k_o0.2 19 _
    have p18 : Nz (-1) x8.toInt x12.toInt (o0.2.1 27) (o0.2.1 25) (o0.2.1 19) := by exact Nz_0 (by omega)
    exact H.2 _ _ _ _ k_o0 r_o0 i9 (iv_w (a := (-1)) (b := 29) (by decide) (by decide) (show ((-1) : Int) ≤ ((-1) : Int32).toInt ∧ ((-1) : Int32).toInt ≤ (-1) by decide)) i13 f_o0_0 f_o0_5 f_o0_13 i5 f_o0_37 f_o0_95 x_0 x_1 x_2 x_3 p14 p15 p16 (show x8.toInt < (o0.1 17).toInt by first | omega | exact (Ft_z x_3 (by assumption) (by assumption) (by omega)).2.2) (show x12.toInt + 2 ≤ (o0.2.1 19 x8.toNatClampNeg).toInt by omega) x_4 x_5 x_6 (show (o0.1 37).toInt = (o0.1 10).toInt + 1 by omega) x_8 (show (yo0.1 31).toInt ≤ (o0.1 31).toInt by omega) p18 (show nz (o0.2.1 27) 31 * 10000 + (64 - (o0.1 29).toInt) * 100 + (x12.toInt + 2) < (n : Int) by omega)
set_option maxHeartbeats 4000000 in
set_option maxRecDepth 100000 in
theorem hM_findTable (yv1 : Int32) (yo0 : cf_O) : ∀ n, HM_findTable yv1 yo0 n := by
  intro n
  induction n with
  | zero => exact ⟨(fun o0 k_o0 r_o0 f_o0_0 f_o0_5 f_o0_13 f_o0_37 f_o0_95 x_0 x_1 x_2 x_3 x_4 x_5 x_6 x_7 x_8 x_9 hm => by have z_o0_29 : (0 : Int) ≤ (o0.1 29).toInt ∧ (o0.1 29).toInt ≤ 32 := k_o0.1 29; exact absurd (show nz (o0.2.1 27) 31 * 10000 + (64 - (o0.1 29).toInt) * 100 + 50 < (0 : Int) from hm) (by have zz := nz_b (o0.2.1 27) 31; omega)), (fun v2 v3 v4 o0 k_o0 r_o0 i_v2 i_v3 i_v4 f_o0_0 f_o0_5 f_o0_13 f_o0_29 f_o0_37 f_o0_95 x_0 x_1 x_2 x_3 x_4 x_5 x_6 x_7 x_8 x_9 x_10 x_11 x_12 x_13 x_14 x_15 hm => by have z_o0_29 : (0 : Int) ≤ (o0.1 29).toInt ∧ (o0.1 29).toInt ≤ 32 := k_o0.1 29; exact absurd (show nz (o0.2.1 27) 31 * 10000 + (64 - (o0.1 29).toInt) * 100 + (v4.toInt + 2) < (0 : Int) from hm) (by have zz := nz_b (o0.2.1 27) 31; omega))⟩
  | succ n ih => exact ⟨(fun o0 k_o0 r_o0 f_o0_0 f_o0_5 f_o0_13 f_o0_37 f_o0_95 x_0 x_1 x_2 x_3 x_4 x_5 x_6 x_7 x_8 x_9 hm => tM_findTable_12 ih o0 k_o0 r_o0 f_o0_0 f_o0_5 f_o0_13 f_o0_37 f_o0_95 x_0 x_1 x_2 x_3 x_4 x_5 x_6 x_7 x_8 x_9 (by omega)), (fun v2 v3 v4 o0 k_o0 r_o0 i_v2 i_v3 i_v4 f_o0_0 f_o0_5 f_o0_13 f_o0_29 f_o0_37 f_o0_95 x_0 x_1 x_2 x_3 x_4 x_5 x_6 x_7 x_8 x_9 x_10 x_11 x_12 x_13 x_14 x_15 hm => tM_findTable_43 ih v2 v3 v4 o0 k_o0 r_o0 i_v2 i_v3 i_v4 f_o0_0 f_o0_5 f_o0_13 f_o0_29 f_o0_37 f_o0_95 x_0 x_1 x_2 x_3 x_4 x_5 x_6 x_7 x_8 x_9 x_10 x_11 x_12 x_13 x_14 x_15 (by omega))⟩
set_option maxHeartbeats 4000000 in
set_option maxRecDepth 100000 in
theorem sM_findTable (v1 : Int32) (o0 : cf_O) (k_o0 : okO I_M o0) (i_v1 : (0 : Int) ≤ v1.toInt ∧ v1.toInt ≤ 29) (f_o0_0 : (0 : Int) ≤ (o0.1 0).toInt ∧ (o0.1 0).toInt ≤ 0) (f_o0_5 : (0 : Int) ≤ (o0.1 5).toInt ∧ (o0.1 5).toInt ≤ 0) (f_o0_13 : (1 : Int) ≤ (o0.1 13).toInt ∧ (o0.1 13).toInt ≤ 6) (f_o0_37 : (1 : Int) ≤ (o0.1 37).toInt ∧ (o0.1 37).toInt ≤ 9) (f_o0_95 : (0 : Int) ≤ (o0.1 95).toInt ∧ (o0.1 95).toInt ≤ 0) (x_0 : Rf (o0.2.1 22) (o0.2.1 23) (o0.2.1 19)) (x_1 : Gv (o0.1 17).toInt (o0.2.1 25) (o0.2.1 19)) (x_2 : Ac (o0.1 17).toInt (o0.2.1 25) (o0.2.1 19)) (x_3 : v1.toInt < (o0.1 17).toInt) (x_4 : (o0.2.1 27 v1.toNatClampNeg).toInt = 0) (x_5 : Gx (o0.1 37).toInt (o0.1 31).toInt (o0.2.1 32) (o0.2.1 33)) (x_6 : Vl (o0.1 17).toInt ((o0.1 37).toInt + (o0.1 31).toInt) (o0.2.1 27) (o0.2.1 26)) (x_7 : Gi (o0.1 17).toInt (o0.1 10).toInt (o0.2.1 25) (o0.2.1 19)) (x_8 : (o0.1 37).toInt = (o0.1 10).toInt + 1) : tt (fM_findTable v1 o0) (QM_findTable v1 o0) := by
  have H := hM_findTable v1 o0 cfFU
  have hm : (400000 : Int) ≤ (cfFU : Nat) := by decide
  have r_o0 : Fr (fr_M [29, 31, 36] [26, 27, 30, 32, 33, 34] []) o0 o0 := fr_rfl
  unfold fM_findTable fM_findTable_0
  have g_o0_10 : (0 : Int) ≤ (o0.1 10).toInt ∧ (o0.1 10).toInt ≤ 8 := k_o0.1 10
  have g_o0_17 : (0 : Int) ≤ (o0.1 17).toInt ∧ (o0.1 17).toInt ≤ 30 := k_o0.1 17
  have g_o0_29 : (0 : Int) ≤ (o0.1 29).toInt ∧ (o0.1 29).toInt ≤ 32 := k_o0.1 29
  have g_o0_31 : (0 : Int) ≤ (o0.1 31).toInt ∧ (o0.1 31).toInt ≤ 200 := k_o0.1 31
  have t1 := nz_b (o0.2.1 27) 31
  refine tt_ko ?_
  have k2 := ok_fp (k := 29) (v := 1) k_o0 (iv_w (a := 0) (b := 32) (by decide) (by decide) (show (1 : Int) ≤ (1 : Int32).toInt ∧ (1 : Int32).toInt ≤ 1 by decide))
  have r3 := fr_fp (k := 29) (v := 1) r_o0 rfl
  refine tt_n (ix_ok (show (0 : Int) ≤ (0 : Int32).toInt ∧ (0 : Int32).toInt ≤ 0 by decide) (by decide) (by decide)) ?_
  refine tt_ko ?_
  have k4 := ok_xp (k := 30) (i := (0 : Int32).toNatClampNeg) (v := v1) k2 i_v1
  have r5 := fr_xp (k := 30) (i := (0 : Int32).toNatClampNeg) (v := v1) r3 rfl
  have p6 : Tk (o0.1 17).toInt 1 (upd (o0.2.1 30) ((0 : Int32).toNatClampNeg) v1) (o0.2.1 27) (o0.2.1 25) (o0.2.1 19) := by exact Tk_0 (by decide) (by omega) (by omega)
  have p7 : Ft 1 v1.toInt (upd (o0.2.1 30) ((0 : Int32).toNatClampNeg) v1) (o0.2.1 27) := by exact Ft_0 (by decide) rfl
  exact H.1 _ k4 r5 f_o0_0 f_o0_5 f_o0_13 f_o0_37 f_o0_95 x_0 x_1 x_2 p6 x_5 x_6 x_7 (show (o0.1 37).toInt = (o0.1 10).toInt + 1 by omega) p7 (show (o0.1 31).toInt ≤ (o0.1 31).toInt by omega) (show nz (o0.2.1 27) 31 * 10000 + (64 - 1) * 100 + 50 < ((cfFU : Nat) : Int) by omega)
def QM_build_ (o0 : cf_O) (r : (cf_O)) : Prop := (okO I_M r) ∧ (Fr (fr_M [29, 31, 36, 37] [26, 27, 30, 32, 33, 34, 35] []) o0 r) ∧ ((1 : Int) ≤ (r.1 37).toInt ∧ (r.1 37).toInt ≤ 9) ∧ (Gx (r.1 37).toInt (r.1 31).toInt (r.2.1 32) (r.2.1 33)) ∧ (No (r.1 13).toInt ((r.1 37).toInt + (r.1 31).toInt) (r.2.1 35)) ∧ ((r.1 37).toInt = (r.1 10).toInt + 1) ∧ True
def HM_build_ (yo0 : cf_O) (n : Nat) : Prop := (∀ (v1 : Int32) (o0 : cf_O), (okO I_M o0) → (Fr (fr_M [29, 31, 36, 37] [26, 27, 30, 32, 33, 34, 35] []) yo0 o0) → ((0 : Int) ≤ v1.toInt ∧ v1.toInt ≤ 30) → ((0 : Int) ≤ (o0.1 0).toInt ∧ (o0.1 0).toInt ≤ 0) → ((0 : Int) ≤ (o0.1 5).toInt ∧ (o0.1 5).toInt ≤ 0) → ((0 : Int) ≤ (o0.1 31).toInt ∧ (o0.1 31).toInt ≤ 0) → ((0 : Int) ≤ (o0.1 36).toInt ∧ (o0.1 36).toInt ≤ 0) → ((1 : Int) ≤ (o0.1 37).toInt ∧ (o0.1 37).toInt ≤ 9) → ((0 : Int) ≤ (o0.1 95).toInt ∧ (o0.1 95).toInt ≤ 0) → (Tn (o0.1 17) (o0.2.1 19)) → (Rf (o0.2.1 22) (o0.2.1 23) (o0.2.1 19)) → (Gv (o0.1 17).toInt (o0.2.1 25) (o0.2.1 19)) → (Ac (o0.1 17).toInt (o0.2.1 25) (o0.2.1 19)) → (Gi (o0.1 17).toInt (o0.1 10).toInt (o0.2.1 25) (o0.2.1 19)) → ((o0.1 37).toInt = (o0.1 10).toInt + 1) → ((o0.1 31).toInt = 0) → (Fc v1.toInt (o0.2.1 27)) → 14 + (30 - v1.toInt) * 2 < (n : Int) → tt (gM_build_ n 0 v1 o0) (QM_build_ yo0)) ∧ (∀ (v1 : Int32) (o0 : cf_O), (okO I_M o0) → (Fr (fr_M [29, 31, 36, 37] [26, 27, 30, 32, 33, 34, 35] []) yo0 o0) → ((0 : Int) ≤ v1.toInt ∧ v1.toInt ≤ 6) → ((0 : Int) ≤ (o0.1 0).toInt ∧ (o0.1 0).toInt ≤ 0) → ((0 : Int) ≤ (o0.1 5).toInt ∧ (o0.1 5).toInt ≤ 0) → ((1 : Int) ≤ (o0.1 37).toInt ∧ (o0.1 37).toInt ≤ 9) → ((0 : Int) ≤ (o0.1 95).toInt ∧ (o0.1 95).toInt ≤ 0) → (Tn (o0.1 17) (o0.2.1 19)) → (Rf (o0.2.1 22) (o0.2.1 23) (o0.2.1 19)) → (Gv (o0.1 17).toInt (o0.2.1 25) (o0.2.1 19)) → (Ac (o0.1 17).toInt (o0.2.1 25) (o0.2.1 19)) → (Gi (o0.1 17).toInt (o0.1 10).toInt (o0.2.1 25) (o0.2.1 19)) → ((o0.1 37).toInt = (o0.1 10).toInt + 1) → (Gx (o0.1 37).toInt (o0.1 31).toInt (o0.2.1 32) (o0.2.1 33)) → (Vl (o0.1 17).toInt ((o0.1 37).toInt + (o0.1 31).toInt) (o0.2.1 27) (o0.2.1 26)) → (No v1.toInt ((o0.1 37).toInt + (o0.1 31).toInt) (o0.2.1 35)) → 0 + (6 - v1.toInt) * 2 < (n : Int) → tt (gM_build_ n 1 v1 o0) (QM_build_ yo0))
set_option maxHeartbeats 4000000 in
set_option maxRecDepth 100000 in
theorem tM_build__35 {yo0 : cf_O} {n : Nat} (H : HM_build_ yo0 n) (v1 : Int32) (o0 : cf_O) (k_o0 : okO I_M o0) (r_o0 : Fr (fr_M [29, 31, 36, 37] [26, 27, 30, 32, 33, 34, 35] []) yo0 o0) (i_v1 : (0 : Int) ≤ v1.toInt ∧ v1.toInt ≤ 6) (f_o0_0 : (0 : Int) ≤ (o0.1 0).toInt ∧ (o0.1 0).toInt ≤ 0) (f_o0_5 : (0 : Int) ≤ (o0.1 5).toInt ∧ (o0.1 5).toInt ≤ 0) (f_o0_37 : (1 : Int) ≤ (o0.1 37).toInt ∧ (o0.1 37).toInt ≤ 9) (f_o0_95 : (0 : Int) ≤ (o0.1 95).toInt ∧ (o0.1 95).toInt ≤ 0) (x_0 : Tn (o0.1 17) (o0.2.1 19)) (x_1 : Rf (o0.2.1 22) (o0.2.1 23) (o0.2.1 19)) (x_2 : Gv (o0.1 17).toInt (o0.2.1 25) (o0.2.1 19)) (x_3 : Ac (o0.1 17).toInt (o0.2.1 25) (o0.2.1 19)) (x_4 : Gi (o0.1 17).toInt (o0.1 10).toInt (o0.2.1 25) (o0.2.1 19)) (x_5 : (o0.1 37).toInt = (o0.1 10).toInt + 1) (x_6 : Gx (o0.1 37).toInt (o0.1 31).toInt (o0.2.1 32) (o0.2.1 33)) (x_7 : Vl (o0.1 17).toInt ((o0.1 37).toInt + (o0.1 31).toInt) (o0.2.1 27) (o0.2.1 26)) (x_8 : No v1.toInt ((o0.1 37).toInt + (o0.1 31).toInt) (o0.2.1 35)) (hm : 0 + (6 - v1.toInt) * 2 ≤ (n : Int)) : tt (fM_build__35 (gM_build_ n) v1 o0) (QM_build_ yo0) := by
  unfold fM_build__35
  have g_o0_10 : (0 : Int) ≤ (o0.1 10).toInt ∧ (o0.1 10).toInt ≤ 8 := k_o0.1 10
  have ey_o0_10 : (o0.1 10).toInt = (yo0.1 10).toInt := congrArg Int32.toInt (r_o0.1 10 rfl)
  have g_o0_13 : (0 : Int) ≤ (o0.1 13).toInt ∧ (o0.1 13).toInt ≤ 6 := k_o0.1 13
  have ey_o0_13 : (o0.1 13).toInt = (yo0.1 13).toInt := congrArg Int32.toInt (r_o0.1 13 rfl)
  have g_o0_17 : (0 : Int) ≤ (o0.1 17).toInt ∧ (o0.1 17).toInt ≤ 30 := k_o0.1 17
  have ey_o0_17 : (o0.1 17).toInt = (yo0.1 17).toInt := congrArg Int32.toInt (r_o0.1 17 rfl)
  have g_o0_31 : (0 : Int) ≤ (o0.1 31).toInt ∧ (o0.1 31).toInt ≤ 200 := k_o0.1 31
  refine tt_if (fun c1 => ?_) (fun c1 => ?_)
  · have wc1 : (o0.1 13).toInt ≤ v1.toInt := c_le c1
    have p2 : No (o0.1 13).toInt ((o0.1 37).toInt + (o0.1 31).toInt) (o0.2.1 35) := by exact No_w (by assumption) (by omega) (by omega)
    exact tt_some ⟨k_o0, r_o0, f_o0_37, x_6, p2, (show (o0.1 37).toInt = (o0.1 10).toInt + 1 by omega), trivial⟩
  · have wc1 : v1.toInt < (o0.1 13).toInt := c_nle c1
    have i3 : (0 : Int) ≤ v1.toInt ∧ v1.toInt ≤ 5 := nr_nlel c1 i_v1 (k_o0.1 13) (by decide) (by decide)
    have i4 : (1 : Int) ≤ (o0.1 13).toInt ∧ (o0.1 13).toInt ≤ 6 := nr_nler c1 i_v1 (k_o0.1 13) (by decide) (by decide)
    refine tt_n (ix_ok i3 (by decide) (by decide)) ?_
    refine tt_kv (P := fun z => ((0 : Int) ≤ z.toInt ∧ z.toInt ≤ 1599) ∧ z = (o0.2.1 14 v1.toNatClampNeg) ∧ z.toInt = (o0.2.1 14 v1.toNatClampNeg).toInt) ⟨(k_o0.2 14 _), rfl, rfl⟩ (fun x5 qi6 => ?_)
    obtain ⟨i6, ax5, ei6⟩ := qi6
    refine tt_n (ix_ok i3 (by decide) (by decide)) ?_
    refine tt_kv (P := fun z => ((0 : Int) ≤ z.toInt ∧ z.toInt ≤ 1600) ∧ z = (o0.2.1 15 v1.toNatClampNeg) ∧ z.toInt = (o0.2.1 15 v1.toNatClampNeg).toInt) ⟨(k_o0.2 15 _), rfl, rfl⟩ (fun x7 qi8 => ?_)
    obtain ⟨i8, ax7, ei8⟩ := qi8
    refine tt_b (sM_giver _ _ _ k_o0 i6 i8 f_o0_0 f_o0_5 f_o0_95 x_0) (fun q9 hq9 => ?_)
    obtain ⟨i_q9, zq9_0, zq9_1, -⟩ := hq9
    have zq9_0 : q9.toInt ≤ 7 + (o0.1 17).toInt := zq9_0
    have zq9_1 : 8 ≤ q9.toInt ∨ q9.toInt < (o0.1 10).toInt := zq9_1
    refine tt_if (fun c10 => ?_) (fun c10 => ?_)
    · have wc10 : q9.toInt ≤ (7 : Int) := c_le c10
      have i11 : ((-1) : Int) ≤ q9.toInt ∧ q9.toInt ≤ 7 := nr_lel c10 i_q9 (show (7 : Int) ≤ (7 : Int32).toInt ∧ (7 : Int32).toInt ≤ 7 by decide) (by decide) (by decide)
      try unfold fM_build__86
      try unfold fM_literal
      try unfold fM_literal_0
      refine tt_bif (fun c12 => ?_) (fun c12 => ?_)
      · have wc12 : (8 : Int) ≤ q9.toInt := c_le c12
        exact (dd_le c12 (show (8 : Int) ≤ (8 : Int32).toInt ∧ (8 : Int32).toInt ≤ 8 by decide) i11 (by decide)).elim
      · have wc12 : q9.toInt < (8 : Int) := c_nle c12
        refine tt_bkv (P := fun z => ((0 : Int) ≤ z.toInt ∧ z.toInt ≤ 8) ∧ z = (q9 + 1) ∧ z.toInt = q9.toInt + 1) ⟨iv_add i11 (show (1 : Int) ≤ (1 : Int32).toInt ∧ (1 : Int32).toInt ≤ 1 by decide) (by decide) (by decide) (by decide) (by decide), rfl, iq_add i11 (show (1 : Int) ≤ (1 : Int32).toInt ∧ (1 : Int32).toInt ≤ 1 by decide) (by decide) (by decide)⟩ (fun x13 qi14 => ?_)
        obtain ⟨i14, ax13, ei14⟩ := qi14
        refine tt_bkv (P := fun z => ((0 : Int) ≤ z.toInt ∧ z.toInt ≤ 16) ∧ z = (2 * x13) ∧ z.toInt = 2 * x13.toInt) ⟨iv_mul (show (2 : Int) ≤ (2 : Int32).toInt ∧ (2 : Int32).toInt ≤ 2 by decide) i14 (by decide) (by decide) (by decide) (by decide) (by decide), rfl, iq_mul (show (2 : Int) ≤ (2 : Int32).toInt ∧ (2 : Int32).toInt ≤ 2 by decide) i14 (by decide) (by decide) (by decide) (by decide)⟩ (fun x15 qi16 => ?_)
        obtain ⟨i16, ax15, ei16⟩ := qi16
        try unfold fM_literal_23
        refine tt_bs ?_
        refine tt_n (ix_ok i3 (by decide) (by decide)) ?_
        refine tt_ko ?_
        have k17 := ok_xp (k := 35) (i := v1.toNatClampNeg) (v := x15) k_o0 (iv_w (a := 0) (b := 417) (by decide) (by decide) i16)
        have r18 := fr_xp (k := 35) (i := v1.toNatClampNeg) (v := x15) r_o0 rfl
        refine tt_kv (P := fun z => ((1 : Int) ≤ z.toInt ∧ z.toInt ≤ 6) ∧ z = (v1 + 1) ∧ z.toInt = v1.toInt + 1) ⟨iv_add i3 (show (1 : Int) ≤ (1 : Int32).toInt ∧ (1 : Int32).toInt ≤ 1 by decide) (by decide) (by decide) (by decide) (by decide), rfl, iq_add i3 (show (1 : Int) ≤ (1 : Int32).toInt ∧ (1 : Int32).toInt ≤ 1 by decide) (by decide) (by decide)⟩ (fun x19 qi20 => ?_)
        obtain ⟨i20, ax19, ei20⟩ := qi20
        have p21 : No x19.toInt ((o0.1 37).toInt + (o0.1 31).toInt) (upd (o0.2.1 35) (v1.toNatClampNeg) x15) := by first | exact No_s x_8 (by omega) (by rw [tn_n]; omega) (by omega) | (have e35 := (show Fr (fr_M [29, 31, 36] [26, 27, 30, 32, 33, 34] []) _ _ by assumption).2.1 35 rfl; exact No_s (n := v1.toInt) (by rw [e35]; exact No_w x_8 (Int.le_refl _) (by omega)) (by omega) (by rw [tn_n]; omega) (by omega))
        exact H.2 _ _ k17 r18 (iv_w (a := 0) (b := 6) (by decide) (by decide) i20) f_o0_0 f_o0_5 f_o0_37 f_o0_95 x_0 x_1 x_2 x_3 x_4 (show (o0.1 37).toInt = (o0.1 10).toInt + 1 by omega) x_6 x_7 p21 (show 0 + (6 - x19.toInt) * 2 < (n : Int) by omega)
    · have wc10 : (7 : Int) < q9.toInt := c_nle c10
      have i22 : (8 : Int) ≤ q9.toInt ∧ q9.toInt ≤ 37 := nr_nler c10 (show (7 : Int) ≤ (7 : Int32).toInt ∧ (7 : Int32).toInt ≤ 7 by decide) i_q9 (by decide) (by decide)
      refine tt_kv (P := fun z => ((0 : Int) ≤ z.toInt ∧ z.toInt ≤ 29) ∧ z = (q9 - 8) ∧ z.toInt = q9.toInt - 8) ⟨iv_sub i22 (show (8 : Int) ≤ (8 : Int32).toInt ∧ (8 : Int32).toInt ≤ 8 by decide) (by decide) (by decide) (by decide) (by decide), rfl, iq_sub i22 (show (8 : Int) ≤ (8 : Int32).toInt ∧ (8 : Int32).toInt ≤ 8 by decide) (by decide) (by decide)⟩ (fun x23 qi24 => ?_)
      obtain ⟨i24, ax23, ei24⟩ := qi24
      refine tt_n (ix_ok i24 (by decide) (by decide)) ?_
      refine tt_kv (P := fun z => ((0 : Int) ≤ z.toInt ∧ z.toInt ≤ 1) ∧ z = (o0.2.1 27 x23.toNatClampNeg) ∧ z.toInt = (o0.2.1 27 x23.toNatClampNeg).toInt) ⟨(k_o0.2 27 _), rfl, rfl⟩ (fun x25 qi26 => ?_)
      obtain ⟨i26, ax25, ei26⟩ := qi26
      refine tt_if (fun c27 => ?_) (fun c27 => ?_)
      · have wc27 : x25.toInt = (0 : Int) := c_eq c27
        have i28 : (0 : Int) ≤ x25.toInt ∧ x25.toInt ≤ 0 := nr_eql c27 i26 (show (0 : Int) ≤ (0 : Int32).toInt ∧ (0 : Int32).toInt ≤ 0 by decide) (by decide) (by decide)
        refine tt_kv (P := fun z => x23 = z ∧ True) ⟨ax23, trivial⟩ (fun x29 hx29 => ?_)
        obtain ⟨rfl, -⟩ := hx29
        have t30 : (0 : Int) ≤ (o0.2.1 27 x23.toNatClampNeg).toInt ∧ (o0.2.1 27 x23.toNatClampNeg).toInt ≤ 1 := k_o0.2 27 _
        refine tt_b (sM_findTable _ _ k_o0 i24 f_o0_0 f_o0_5 i4 f_o0_37 f_o0_95 x_1 x_2 x_3 (show x23.toInt < (o0.1 17).toInt by omega) (show (o0.2.1 27 x23.toNatClampNeg).toInt = 0 by first | omega | exact fz_c (by assumption) (by omega) (by omega)) x_6 x_7 x_4 (show (o0.1 37).toInt = (o0.1 10).toInt + 1 by omega)) (fun q31 hq31 => ?_)
        obtain ⟨k_q31, n_q31, f_q31_29, zq31_0, zq31_1, zq31_2, zq31_3, -⟩ := hq31
        have r_q31 := fr_tr r_o0 n_q31 rfl rfl rfl
        have f_q31_0 : (0 : Int) ≤ (q31.1 0).toInt ∧ (q31.1 0).toInt ≤ 0 := by rw [n_q31.1 0 rfl]; exact f_o0_0
        have f_q31_37 : (1 : Int) ≤ (q31.1 37).toInt ∧ (q31.1 37).toInt ≤ 9 := by rw [n_q31.1 37 rfl]; exact f_o0_37
        have f_q31_5 : (0 : Int) ≤ (q31.1 5).toInt ∧ (q31.1 5).toInt ≤ 0 := by rw [n_q31.1 5 rfl]; exact f_o0_5
        have f_q31_13 : (1 : Int) ≤ (q31.1 13).toInt ∧ (q31.1 13).toInt ≤ 6 := by rw [n_q31.1 13 rfl]; exact i4
        have f_q31_95 : (0 : Int) ≤ (q31.1 95).toInt ∧ (q31.1 95).toInt ≤ 0 := by rw [n_q31.1 95 rfl]; exact f_o0_95
        have e_q31_10 : (q31.1 10).toInt = (o0.1 10).toInt := congrArg Int32.toInt (n_q31.1 10 rfl)
        have g_q31_10 : (0 : Int) ≤ (q31.1 10).toInt ∧ (q31.1 10).toInt ≤ 8 := k_q31.1 10
        have e_q31_13 : (q31.1 13).toInt = (o0.1 13).toInt := congrArg Int32.toInt (n_q31.1 13 rfl)
        have e_q31_17 : (q31.1 17).toInt = (o0.1 17).toInt := congrArg Int32.toInt (n_q31.1 17 rfl)
        have g_q31_17 : (0 : Int) ≤ (q31.1 17).toInt ∧ (q31.1 17).toInt ≤ 30 := k_q31.1 17
        have g_q31_31 : (0 : Int) ≤ (q31.1 31).toInt ∧ (q31.1 31).toInt ≤ 200 := k_q31.1 31
        have e_q31_37 : (q31.1 37).toInt = (o0.1 37).toInt := congrArg Int32.toInt (n_q31.1 37 rfl)
        have zq31_3 : (o0.1 31).toInt ≤ (q31.1 31).toInt := zq31_3
        have u32 : Tn (q31.1 17) (q31.2.1 19) := by rw [n_q31.1 17 rfl, n_q31.2.1 19 rfl]; exact x_0
        have u33 : Rf (q31.2.1 22) (q31.2.1 23) (q31.2.1 19) := by rw [n_q31.2.1 19 rfl, n_q31.2.1 22 rfl, n_q31.2.1 23 rfl]; exact x_1
        have u34 : Gv (q31.1 17).toInt (q31.2.1 25) (q31.2.1 19) := by rw [n_q31.1 17 rfl, n_q31.2.1 19 rfl, n_q31.2.1 25 rfl]; exact x_2
        have u35 : Ac (q31.1 17).toInt (q31.2.1 25) (q31.2.1 19) := by rw [n_q31.1 17 rfl, n_q31.2.1 19 rfl, n_q31.2.1 25 rfl]; exact x_3
        have u36 : Gi (q31.1 17).toInt (q31.1 10).toInt (q31.2.1 25) (q31.2.1 19) := by rw [n_q31.1 10 rfl, n_q31.1 17 rfl, n_q31.2.1 19 rfl, n_q31.2.1 25 rfl]; exact x_4
        try unfold fM_build__86
        try unfold fM_literal
        try unfold fM_literal_0
        refine tt_bif (fun c37 => ?_) (fun c37 => ?_)
        · have wc37 : (8 : Int) ≤ q9.toInt := c_le c37
          refine tt_bkv (P := fun z => x23 = z ∧ True) ⟨ax23, trivial⟩ (fun x38 hx38 => ?_)
          obtain ⟨rfl, -⟩ := hx38
          refine tt_bn (ix_ok i24 (by decide) (by decide)) ?_
          refine tt_bkv (P := fun z => ((0 : Int) ≤ z.toInt ∧ z.toInt ≤ 417) ∧ z = (q31.2.1 26 x23.toNatClampNeg) ∧ z.toInt = (q31.2.1 26 x23.toNatClampNeg).toInt) ⟨(k_q31.2 26 _), rfl, rfl⟩ (fun x39 qi40 => ?_)
          obtain ⟨i40, ax39, ei40⟩ := qi40
          have t41 := tn_n x23
          have t42 := Vl_at zq31_1 (x23.toNatClampNeg)
          try unfold fM_literal_23
          refine tt_bs ?_
          refine tt_n (ix_ok i3 (by decide) (by decide)) ?_
          refine tt_ko ?_
          have k43 := ok_xp (k := 35) (i := v1.toNatClampNeg) (v := x39) k_q31 i40
          have r44 := fr_xp (k := 35) (i := v1.toNatClampNeg) (v := x39) r_q31 rfl
          refine tt_kv (P := fun z => ((1 : Int) ≤ z.toInt ∧ z.toInt ≤ 6) ∧ z = (v1 + 1) ∧ z.toInt = v1.toInt + 1) ⟨iv_add i3 (show (1 : Int) ≤ (1 : Int32).toInt ∧ (1 : Int32).toInt ≤ 1 by decide) (by decide) (by decide) (by decide) (by decide), rfl, iq_add i3 (show (1 : Int) ≤ (1 : Int32).toInt ∧ (1 : Int32).toInt ≤ 1 by decide) (by decide) (by decide)⟩ (fun x45 qi46 => ?_)
          obtain ⟨i46, ax45, ei46⟩ := qi46
          have p47 : No x45.toInt ((q31.1 37).toInt + (q31.1 31).toInt) (upd (q31.2.1 35) (v1.toNatClampNeg) x39) := by first | exact No_s x_8 (by omega) (by rw [tn_n]; omega) (by omega) | (have e35 := (show Fr (fr_M [29, 31, 36] [26, 27, 30, 32, 33, 34] []) _ _ by assumption).2.1 35 rfl; exact No_s (n := v1.toInt) (by rw [e35]; exact No_w x_8 (Int.le_refl _) (by omega)) (by omega) (by rw [tn_n]; omega) (by omega))
          exact H.2 _ _ k43 r44 (iv_w (a := 0) (b := 6) (by decide) (by decide) i46) f_q31_0 f_q31_5 f_q31_37 f_q31_95 u32 u33 u34 u35 u36 (show (q31.1 37).toInt = (q31.1 10).toInt + 1 by omega) zq31_0 zq31_1 p47 (show 0 + (6 - x45.toInt) * 2 < (n : Int) by omega)
        · have wc37 : q9.toInt < (8 : Int) := c_nle c37
          exact (dd_nle c37 i22 (show (8 : Int) ≤ (8 : Int32).toInt ∧ (8 : Int32).toInt ≤ 8 by decide) (by decide)).elim
      · have wc27 : ¬ x25.toInt = (0 : Int) := c_ne c27
        have i48 : (1 : Int) ≤ x25.toInt ∧ x25.toInt ≤ 1 := nr_nela c27 i26 (show (0 : Int) ≤ (0 : Int32).toInt ∧ (0 : Int32).toInt ≤ 0 by decide) (by decide) (by decide)
        try unfold fM_build__86
        try unfold fM_literal
        try unfold fM_literal_0
        refine tt_bif (fun c49 => ?_) (fun c49 => ?_)
        · have wc49 : (8 : Int) ≤ q9.toInt := c_le c49
          refine tt_bkv (P := fun z => x23 = z ∧ True) ⟨ax23, trivial⟩ (fun x50 hx50 => ?_)
          obtain ⟨rfl, -⟩ := hx50
          refine tt_bn (ix_ok i24 (by decide) (by decide)) ?_
          refine tt_bkv (P := fun z => ((0 : Int) ≤ z.toInt ∧ z.toInt ≤ 417) ∧ z = (o0.2.1 26 x23.toNatClampNeg) ∧ z.toInt = (o0.2.1 26 x23.toNatClampNeg).toInt) ⟨(k_o0.2 26 _), rfl, rfl⟩ (fun x51 qi52 => ?_)
          obtain ⟨i52, ax51, ei52⟩ := qi52
          have t53 := tn_n x23
          have t54 := Vl_at x_7 (x23.toNatClampNeg)
          try unfold fM_literal_23
          refine tt_bs ?_
          refine tt_n (ix_ok i3 (by decide) (by decide)) ?_
          refine tt_ko ?_
          have k55 := ok_xp (k := 35) (i := v1.toNatClampNeg) (v := x51) k_o0 i52
          have r56 := fr_xp (k := 35) (i := v1.toNatClampNeg) (v := x51) r_o0 rfl
          refine tt_kv (P := fun z => ((1 : Int) ≤ z.toInt ∧ z.toInt ≤ 6) ∧ z = (v1 + 1) ∧ z.toInt = v1.toInt + 1) ⟨iv_add i3 (show (1 : Int) ≤ (1 : Int32).toInt ∧ (1 : Int32).toInt ≤ 1 by decide) (by decide) (by decide) (by decide) (by decide), rfl, iq_add i3 (show (1 : Int) ≤ (1 : Int32).toInt ∧ (1 : Int32).toInt ≤ 1 by decide) (by decide) (by decide)⟩ (fun x57 qi58 => ?_)
          obtain ⟨i58, ax57, ei58⟩ := qi58
          have p59 : No x57.toInt ((o0.1 37).toInt + (o0.1 31).toInt) (upd (o0.2.1 35) (v1.toNatClampNeg) x51) := by first | exact No_s x_8 (by omega) (by rw [tn_n]; omega) (by omega) | (have e35 := (show Fr (fr_M [29, 31, 36] [26, 27, 30, 32, 33, 34] []) _ _ by assumption).2.1 35 rfl; exact No_s (n := v1.toInt) (by rw [e35]; exact No_w x_8 (Int.le_refl _) (by omega)) (by omega) (by rw [tn_n]; omega) (by omega))
          exact H.2 _ _ k55 r56 (iv_w (a := 0) (b := 6) (by decide) (by decide) i58) f_o0_0 f_o0_5 f_o0_37 f_o0_95 x_0 x_1 x_2 x_3 x_4 (show (o0.1 37).toInt = (o0.1 10).toInt + 1 by omega) x_6 x_7 p59 (show 0 + (6 - x57.toInt) * 2 < (n : Int) by omega)
        · have wc49 : q9.toInt < (8 : Int) := c_nle c49
          exact (dd_nle c49 i22 (show (8 : Int) ≤ (8 : Int32).toInt ∧ (8 : Int32).toInt ≤ 8 by decide) (by decide)).elim
set_option maxHeartbeats 4000000 in
set_option maxRecDepth 100000 in
theorem tM_build__12 {yo0 : cf_O} {n : Nat} (H : HM_build_ yo0 n) (v1 : Int32) (o0 : cf_O) (k_o0 : okO I_M o0) (r_o0 : Fr (fr_M [29, 31, 36, 37] [26, 27, 30, 32, 33, 34, 35] []) yo0 o0) (i_v1 : (0 : Int) ≤ v1.toInt ∧ v1.toInt ≤ 30) (f_o0_0 : (0 : Int) ≤ (o0.1 0).toInt ∧ (o0.1 0).toInt ≤ 0) (f_o0_5 : (0 : Int) ≤ (o0.1 5).toInt ∧ (o0.1 5).toInt ≤ 0) (f_o0_31 : (0 : Int) ≤ (o0.1 31).toInt ∧ (o0.1 31).toInt ≤ 0) (f_o0_36 : (0 : Int) ≤ (o0.1 36).toInt ∧ (o0.1 36).toInt ≤ 0) (f_o0_37 : (1 : Int) ≤ (o0.1 37).toInt ∧ (o0.1 37).toInt ≤ 9) (f_o0_95 : (0 : Int) ≤ (o0.1 95).toInt ∧ (o0.1 95).toInt ≤ 0) (x_0 : Tn (o0.1 17) (o0.2.1 19)) (x_1 : Rf (o0.2.1 22) (o0.2.1 23) (o0.2.1 19)) (x_2 : Gv (o0.1 17).toInt (o0.2.1 25) (o0.2.1 19)) (x_3 : Ac (o0.1 17).toInt (o0.2.1 25) (o0.2.1 19)) (x_4 : Gi (o0.1 17).toInt (o0.1 10).toInt (o0.2.1 25) (o0.2.1 19)) (x_5 : (o0.1 37).toInt = (o0.1 10).toInt + 1) (x_6 : (o0.1 31).toInt = 0) (x_7 : Fc v1.toInt (o0.2.1 27)) (hm : 14 + (30 - v1.toInt) * 2 ≤ (n : Int)) : tt (fM_build__12 (gM_build_ n) v1 o0) (QM_build_ yo0) := by
  unfold fM_build__12
  have g_o0_10 : (0 : Int) ≤ (o0.1 10).toInt ∧ (o0.1 10).toInt ≤ 8 := k_o0.1 10
  have ey_o0_10 : (o0.1 10).toInt = (yo0.1 10).toInt := congrArg Int32.toInt (r_o0.1 10 rfl)
  have g_o0_13 : (0 : Int) ≤ (o0.1 13).toInt ∧ (o0.1 13).toInt ≤ 6 := k_o0.1 13
  have ey_o0_13 : (o0.1 13).toInt = (yo0.1 13).toInt := congrArg Int32.toInt (r_o0.1 13 rfl)
  have g_o0_17 : (0 : Int) ≤ (o0.1 17).toInt ∧ (o0.1 17).toInt ≤ 30 := k_o0.1 17
  have ey_o0_17 : (o0.1 17).toInt = (yo0.1 17).toInt := congrArg Int32.toInt (r_o0.1 17 rfl)
  refine tt_if (fun c1 => ?_) (fun c1 => ?_)
  · have wc1 : (o0.1 17).toInt ≤ v1.toInt := c_le c1
    have p2 : Gx (o0.1 37).toInt (o0.1 31).toInt (o0.2.1 32) (o0.2.1 33) := by exact Gx_z (by omega)
    have p3 : Vl (o0.1 17).toInt ((o0.1 37).toInt + (o0.1 31).toInt) (o0.2.1 27) (o0.2.1 26) := by exact Fc_V (by assumption) (by omega)
    have p4 : No 0 ((o0.1 37).toInt + (o0.1 31).toInt) (o0.2.1 35) := by exact No_z (by decide)
    exact H.2 _ _ k_o0 r_o0 (iv_w (a := 0) (b := 6) (by decide) (by decide) (show (0 : Int) ≤ (0 : Int32).toInt ∧ (0 : Int32).toInt ≤ 0 by decide)) f_o0_0 f_o0_5 f_o0_37 f_o0_95 x_0 x_1 x_2 x_3 x_4 (show (o0.1 37).toInt = (o0.1 10).toInt + 1 by omega) p2 p3 p4 (show 0 + (6 - 0) * 2 < (n : Int) by omega)
  · have wc1 : v1.toInt < (o0.1 17).toInt := c_nle c1
    have i5 : (0 : Int) ≤ v1.toInt ∧ v1.toInt ≤ 29 := nr_nlel c1 i_v1 (k_o0.1 17) (by decide) (by decide)
    have i6 : (1 : Int) ≤ (o0.1 17).toInt ∧ (o0.1 17).toInt ≤ 30 := nr_nler c1 i_v1 (k_o0.1 17) (by decide) (by decide)
    refine tt_n (ix_ok i5 (by decide) (by decide)) ?_
    refine tt_ko ?_
    have k7 := ok_xp (k := 27) (i := v1.toNatClampNeg) (v := (vp_nar .boolean 0)) k_o0 (iv_nz _)
    have r8 := fr_xp (k := 27) (i := v1.toNatClampNeg) (v := (vp_nar .boolean 0)) r_o0 rfl
    refine tt_kv (P := fun z => ((1 : Int) ≤ z.toInt ∧ z.toInt ≤ 30) ∧ z = (v1 + 1) ∧ z.toInt = v1.toInt + 1) ⟨iv_add i5 (show (1 : Int) ≤ (1 : Int32).toInt ∧ (1 : Int32).toInt ≤ 1 by decide) (by decide) (by decide) (by decide) (by decide), rfl, iq_add i5 (show (1 : Int) ≤ (1 : Int32).toInt ∧ (1 : Int32).toInt ≤ 1 by decide) (by decide) (by decide)⟩ (fun x9 qi10 => ?_)
    obtain ⟨i10, ax9, ei10⟩ := qi10
    have p11 : Fc x9.toInt (upd (o0.2.1 27) (v1.toNatClampNeg) (vp_nar .boolean 0)) := by exact Fc_s (by assumption) (by omega) (by rw [tn_n]; omega) (by decide)
    exact H.1 _ _ k7 r8 (iv_w (a := 0) (b := 30) (by decide) (by decide) i10) f_o0_0 f_o0_5 f_o0_31 f_o0_36 f_o0_37 f_o0_95 x_0 x_1 x_2 x_3 x_4 (show (o0.1 37).toInt = (o0.1 10).toInt + 1 by omega) (show (o0.1 31).toInt = 0 by omega) p11 (show 14 + (30 - x9.toInt) * 2 < (n : Int) by omega)
set_option maxHeartbeats 4000000 in
set_option maxRecDepth 100000 in
theorem hM_build_ (yo0 : cf_O) : ∀ n, HM_build_ yo0 n := by
  intro n
  induction n with
  | zero => exact ⟨(fun v1 o0 k_o0 r_o0 i_v1 f_o0_0 f_o0_5 f_o0_31 f_o0_36 f_o0_37 f_o0_95 x_0 x_1 x_2 x_3 x_4 x_5 x_6 x_7 hm => by exact absurd (show 14 + (30 - v1.toInt) * 2 < (0 : Int) from hm) (by omega)), (fun v1 o0 k_o0 r_o0 i_v1 f_o0_0 f_o0_5 f_o0_37 f_o0_95 x_0 x_1 x_2 x_3 x_4 x_5 x_6 x_7 x_8 hm => by exact absurd (show 0 + (6 - v1.toInt) * 2 < (0 : Int) from hm) (by omega))⟩
  | succ n ih => exact ⟨(fun v1 o0 k_o0 r_o0 i_v1 f_o0_0 f_o0_5 f_o0_31 f_o0_36 f_o0_37 f_o0_95 x_0 x_1 x_2 x_3 x_4 x_5 x_6 x_7 hm => tM_build__12 ih v1 o0 k_o0 r_o0 i_v1 f_o0_0 f_o0_5 f_o0_31 f_o0_36 f_o0_37 f_o0_95 x_0 x_1 x_2 x_3 x_4 x_5 x_6 x_7 (by omega)), (fun v1 o0 k_o0 r_o0 i_v1 f_o0_0 f_o0_5 f_o0_37 f_o0_95 x_0 x_1 x_2 x_3 x_4 x_5 x_6 x_7 x_8 hm => tM_build__35 ih v1 o0 k_o0 r_o0 i_v1 f_o0_0 f_o0_5 f_o0_37 f_o0_95 x_0 x_1 x_2 x_3 x_4 x_5 x_6 x_7 x_8 (by omega))⟩
set_option maxHeartbeats 4000000 in
set_option maxRecDepth 100000 in
theorem sM_build_ (o0 : cf_O) (k_o0 : okO I_M o0) (f_o0_0 : (0 : Int) ≤ (o0.1 0).toInt ∧ (o0.1 0).toInt ≤ 0) (f_o0_5 : (0 : Int) ≤ (o0.1 5).toInt ∧ (o0.1 5).toInt ≤ 0) (f_o0_95 : (0 : Int) ≤ (o0.1 95).toInt ∧ (o0.1 95).toInt ≤ 0) (x_0 : Tn (o0.1 17) (o0.2.1 19)) (x_1 : Rf (o0.2.1 22) (o0.2.1 23) (o0.2.1 19)) (x_2 : Gv (o0.1 17).toInt (o0.2.1 25) (o0.2.1 19)) (x_3 : Ac (o0.1 17).toInt (o0.2.1 25) (o0.2.1 19)) (x_4 : Gi (o0.1 17).toInt (o0.1 10).toInt (o0.2.1 25) (o0.2.1 19)) : tt (fM_build_ o0) (QM_build_ o0) := by
  have H := hM_build_ o0 cfFU
  have hm : (77 : Int) ≤ (cfFU : Nat) := by decide
  have r_o0 : Fr (fr_M [29, 31, 36, 37] [26, 27, 30, 32, 33, 34, 35] []) o0 o0 := fr_rfl
  unfold fM_build_ fM_build__0
  have g_o0_10 : (0 : Int) ≤ (o0.1 10).toInt ∧ (o0.1 10).toInt ≤ 8 := k_o0.1 10
  have g_o0_13 : (0 : Int) ≤ (o0.1 13).toInt ∧ (o0.1 13).toInt ≤ 6 := k_o0.1 13
  have g_o0_17 : (0 : Int) ≤ (o0.1 17).toInt ∧ (o0.1 17).toInt ≤ 30 := k_o0.1 17
  have g_o0_31 : (0 : Int) ≤ (o0.1 31).toInt ∧ (o0.1 31).toInt ≤ 200 := k_o0.1 31
  have g_o0_37 : (0 : Int) ≤ (o0.1 37).toInt ∧ (o0.1 37).toInt ≤ 9 := k_o0.1 37
  refine tt_kv (P := fun z => ((1 : Int) ≤ z.toInt ∧ z.toInt ≤ 9) ∧ z = ((o0.1 10) + 1) ∧ z.toInt = (o0.1 10).toInt + 1) ⟨iv_add (k_o0.1 10) (show (1 : Int) ≤ (1 : Int32).toInt ∧ (1 : Int32).toInt ≤ 1 by decide) (by decide) (by decide) (by decide) (by decide), rfl, iq_add (k_o0.1 10) (show (1 : Int) ≤ (1 : Int32).toInt ∧ (1 : Int32).toInt ≤ 1 by decide) (by decide) (by decide)⟩ (fun x1 qi2 => ?_)
  obtain ⟨i2, ax1, ei2⟩ := qi2
  refine tt_b (sM_begin _ _ k_o0 i2 (iv_w (a := 0) (b := 2) (by decide) (by decide) f_o0_0) f_o0_95) (fun q3 hq3 => ?_)
  obtain ⟨k_q3, n_q3, f_q3_31, f_q3_36, f_q3_37, zq3_0, zq3_1, -⟩ := hq3
  have r_q3 := fr_tr r_o0 n_q3 rfl rfl rfl
  have f_q3_0 : (0 : Int) ≤ (q3.1 0).toInt ∧ (q3.1 0).toInt ≤ 0 := by rw [n_q3.1 0 rfl]; exact f_o0_0
  have f_q3_5 : (0 : Int) ≤ (q3.1 5).toInt ∧ (q3.1 5).toInt ≤ 0 := by rw [n_q3.1 5 rfl]; exact f_o0_5
  have f_q3_95 : (0 : Int) ≤ (q3.1 95).toInt ∧ (q3.1 95).toInt ≤ 0 := by rw [n_q3.1 95 rfl]; exact f_o0_95
  have e_q3_10 : (q3.1 10).toInt = (o0.1 10).toInt := congrArg Int32.toInt (n_q3.1 10 rfl)
  have g_q3_10 : (0 : Int) ≤ (q3.1 10).toInt ∧ (q3.1 10).toInt ≤ 8 := k_q3.1 10
  have e_q3_13 : (q3.1 13).toInt = (o0.1 13).toInt := congrArg Int32.toInt (n_q3.1 13 rfl)
  have g_q3_13 : (0 : Int) ≤ (q3.1 13).toInt ∧ (q3.1 13).toInt ≤ 6 := k_q3.1 13
  have e_q3_17 : (q3.1 17).toInt = (o0.1 17).toInt := congrArg Int32.toInt (n_q3.1 17 rfl)
  have g_q3_17 : (0 : Int) ≤ (q3.1 17).toInt ∧ (q3.1 17).toInt ≤ 30 := k_q3.1 17
  have zq3_0 : (q3.1 31).toInt = 0 := zq3_0
  have zq3_1 : (q3.1 37).toInt = x1.toInt := zq3_1
  have u4 : Tn (q3.1 17) (q3.2.1 19) := by rw [n_q3.1 17 rfl, n_q3.2.1 19 rfl]; exact x_0
  have u5 : Rf (q3.2.1 22) (q3.2.1 23) (q3.2.1 19) := by rw [n_q3.2.1 19 rfl, n_q3.2.1 22 rfl, n_q3.2.1 23 rfl]; exact x_1
  have u6 : Gv (q3.1 17).toInt (q3.2.1 25) (q3.2.1 19) := by rw [n_q3.1 17 rfl, n_q3.2.1 19 rfl, n_q3.2.1 25 rfl]; exact x_2
  have u7 : Ac (q3.1 17).toInt (q3.2.1 25) (q3.2.1 19) := by rw [n_q3.1 17 rfl, n_q3.2.1 19 rfl, n_q3.2.1 25 rfl]; exact x_3
  have u8 : Gi (q3.1 17).toInt (q3.1 10).toInt (q3.2.1 25) (q3.2.1 19) := by rw [n_q3.1 10 rfl, n_q3.1 17 rfl, n_q3.2.1 19 rfl, n_q3.2.1 25 rfl]; exact x_4
  have p9 : Fc 0 (q3.2.1 27) := by exact Fc_0 _
  exact H.1 _ _ k_q3 r_q3 (iv_w (a := 0) (b := 30) (by decide) (by decide) (show (0 : Int) ≤ (0 : Int32).toInt ∧ (0 : Int32).toInt ≤ 0 by decide)) f_q3_0 f_q3_5 f_q3_31 f_q3_36 f_q3_37 f_q3_95 u4 u5 u6 u7 u8 (show (q3.1 37).toInt = (q3.1 10).toInt + 1 by omega) (show (q3.1 31).toInt = 0 by omega) p9 (show 14 + (30 - 0) * 2 < ((cfFU : Nat) : Int) by omega)
def QM_take (o0 : cf_O) (r : (cf_O)) : Prop := (okO I_M r) ∧ (Fr (fr_M [43, 64, 85] [44, 45, 46, 47] []) o0 r) ∧ ((0 : Int) ≤ (r.1 64).toInt ∧ (r.1 64).toInt ≤ 0) ∧ ((0 : Int) ≤ (r.1 85).toInt ∧ (r.1 85).toInt ≤ 0) ∧ ((r.1 64).toInt = 0) ∧ (Gx (r.1 37).toInt (r.1 43).toInt (r.2.1 44) (r.2.1 45)) ∧ (No (r.1 40).toInt ((r.1 37).toInt + (r.1 43).toInt) (r.2.1 47)) ∧ True
def HM_take (yo0 : cf_O) (n : Nat) : Prop := (∀ (v1 : Int32) (o0 : cf_O), (okO I_M o0) → (Fr (fr_M [43, 64, 85] [44, 45, 46, 47] []) yo0 o0) → ((0 : Int) ≤ v1.toInt ∧ v1.toInt ≤ 200) → ((0 : Int) ≤ (o0.1 0).toInt ∧ (o0.1 0).toInt ≤ 0) → ((0 : Int) ≤ (o0.1 36).toInt ∧ (o0.1 36).toInt ≤ 0) → ((1 : Int) ≤ (o0.1 37).toInt ∧ (o0.1 37).toInt ≤ 9) → ((1 : Int) ≤ (o0.1 38).toInt ∧ (o0.1 38).toInt ≤ 1) → ((0 : Int) ≤ (o0.1 95).toInt ∧ (o0.1 95).toInt ≤ 0) → (Gx (o0.1 37).toInt (o0.1 31).toInt (o0.2.1 32) (o0.2.1 33)) → (No (o0.1 40).toInt ((o0.1 37).toInt + (o0.1 31).toInt) (o0.2.1 35)) → (Ce v1.toInt (o0.2.1 32) (o0.2.1 44)) → (Ce v1.toInt (o0.2.1 33) (o0.2.1 45)) → ((o0.1 43).toInt = (o0.1 31).toInt) → 436 + (200 - v1.toInt) * 2 < (n : Int) → tt (gM_take n 0 v1 o0) (QM_take yo0)) ∧ (∀ (v1 : Int32) (o0 : cf_O), (okO I_M o0) → (Fr (fr_M [43, 64, 85] [44, 45, 46, 47] []) yo0 o0) → ((0 : Int) ≤ v1.toInt ∧ v1.toInt ≤ 210) → ((0 : Int) ≤ (o0.1 0).toInt ∧ (o0.1 0).toInt ≤ 0) → ((0 : Int) ≤ (o0.1 36).toInt ∧ (o0.1 36).toInt ≤ 0) → ((1 : Int) ≤ (o0.1 37).toInt ∧ (o0.1 37).toInt ≤ 9) → ((1 : Int) ≤ (o0.1 38).toInt ∧ (o0.1 38).toInt ≤ 1) → ((0 : Int) ≤ (o0.1 95).toInt ∧ (o0.1 95).toInt ≤ 0) → (Gx (o0.1 37).toInt (o0.1 43).toInt (o0.2.1 44) (o0.2.1 45)) → (No (o0.1 40).toInt ((o0.1 37).toInt + (o0.1 31).toInt) (o0.2.1 35)) → ((o0.1 43).toInt = (o0.1 31).toInt) → 14 + (210 - v1.toInt) * 2 < (n : Int) → tt (gM_take n 1 v1 o0) (QM_take yo0)) ∧ (∀ (v1 : Int32) (o0 : cf_O), (okO I_M o0) → (Fr (fr_M [43, 64, 85] [44, 45, 46, 47] []) yo0 o0) → ((0 : Int) ≤ v1.toInt ∧ v1.toInt ≤ 6) → ((0 : Int) ≤ (o0.1 0).toInt ∧ (o0.1 0).toInt ≤ 0) → ((0 : Int) ≤ (o0.1 36).toInt ∧ (o0.1 36).toInt ≤ 0) → ((1 : Int) ≤ (o0.1 37).toInt ∧ (o0.1 37).toInt ≤ 9) → ((1 : Int) ≤ (o0.1 38).toInt ∧ (o0.1 38).toInt ≤ 1) → ((0 : Int) ≤ (o0.1 95).toInt ∧ (o0.1 95).toInt ≤ 0) → (Gx (o0.1 37).toInt (o0.1 43).toInt (o0.2.1 44) (o0.2.1 45)) → (No (o0.1 40).toInt ((o0.1 37).toInt + (o0.1 31).toInt) (o0.2.1 35)) → ((o0.1 43).toInt = (o0.1 31).toInt) → (Ce v1.toInt (o0.2.1 35) (o0.2.1 47)) → 0 + (6 - v1.toInt) * 2 < (n : Int) → tt (gM_take n 2 v1 o0) (QM_take yo0))
set_option maxHeartbeats 4000000 in
set_option maxRecDepth 100000 in
theorem tM_take_77 {yo0 : cf_O} {n : Nat} (H : HM_take yo0 n) (v1 : Int32) (o0 : cf_O) (k_o0 : okO I_M o0) (r_o0 : Fr (fr_M [43, 64, 85] [44, 45, 46, 47] []) yo0 o0) (i_v1 : (0 : Int) ≤ v1.toInt ∧ v1.toInt ≤ 6) (f_o0_0 : (0 : Int) ≤ (o0.1 0).toInt ∧ (o0.1 0).toInt ≤ 0) (f_o0_36 : (0 : Int) ≤ (o0.1 36).toInt ∧ (o0.1 36).toInt ≤ 0) (f_o0_37 : (1 : Int) ≤ (o0.1 37).toInt ∧ (o0.1 37).toInt ≤ 9) (f_o0_38 : (1 : Int) ≤ (o0.1 38).toInt ∧ (o0.1 38).toInt ≤ 1) (f_o0_95 : (0 : Int) ≤ (o0.1 95).toInt ∧ (o0.1 95).toInt ≤ 0) (x_0 : Gx (o0.1 37).toInt (o0.1 43).toInt (o0.2.1 44) (o0.2.1 45)) (x_1 : No (o0.1 40).toInt ((o0.1 37).toInt + (o0.1 31).toInt) (o0.2.1 35)) (x_2 : (o0.1 43).toInt = (o0.1 31).toInt) (x_3 : Ce v1.toInt (o0.2.1 35) (o0.2.1 47)) (hm : 0 + (6 - v1.toInt) * 2 ≤ (n : Int)) : tt (fM_take_77 (gM_take n) v1 o0) (QM_take yo0) := by
  unfold fM_take_77
  have g_o0_31 : (0 : Int) ≤ (o0.1 31).toInt ∧ (o0.1 31).toInt ≤ 200 := k_o0.1 31
  have ey_o0_31 : (o0.1 31).toInt = (yo0.1 31).toInt := congrArg Int32.toInt (r_o0.1 31 rfl)
  have ey_o0_37 : (o0.1 37).toInt = (yo0.1 37).toInt := congrArg Int32.toInt (r_o0.1 37 rfl)
  have g_o0_40 : (0 : Int) ≤ (o0.1 40).toInt ∧ (o0.1 40).toInt ≤ 6 := k_o0.1 40
  have ey_o0_40 : (o0.1 40).toInt = (yo0.1 40).toInt := congrArg Int32.toInt (r_o0.1 40 rfl)
  have g_o0_43 : (0 : Int) ≤ (o0.1 43).toInt ∧ (o0.1 43).toInt ≤ 200 := k_o0.1 43
  have g_o0_64 : (0 : Int) ≤ (o0.1 64).toInt ∧ (o0.1 64).toInt ≤ 1 := k_o0.1 64
  refine tt_if (fun c1 => ?_) (fun c1 => ?_)
  · have wc1 : (o0.1 40).toInt ≤ v1.toInt := c_le c1
    refine tt_ko ?_
    have k2 := ok_fp (k := 64) (v := 0) k_o0 (iv_w (a := 0) (b := 1) (by decide) (by decide) (show (0 : Int) ≤ (0 : Int32).toInt ∧ (0 : Int32).toInt ≤ 0 by decide))
    have r3 := fr_fp (k := 64) (v := 0) r_o0 rfl
    refine tt_ko ?_
    have k4 := ok_fp (k := 85) (v := 0) k2 (iv_w (a := 0) (b := 1) (by decide) (by decide) (show (0 : Int) ≤ (0 : Int32).toInt ∧ (0 : Int32).toInt ≤ 0 by decide))
    have r5 := fr_fp (k := 85) (v := 0) r3 rfl
    have p6 : No (o0.1 40).toInt ((o0.1 37).toInt + (o0.1 43).toInt) (o0.2.1 47) := by exact No_c x_1 x_3 (by omega) (by omega) (by omega)
    exact tt_some ⟨k4, r5, (show (0 : Int) ≤ (0 : Int32).toInt ∧ (0 : Int32).toInt ≤ 0 by decide), (show (0 : Int) ≤ (0 : Int32).toInt ∧ (0 : Int32).toInt ≤ 0 by decide), (show 0 = 0 by omega), x_0, p6, trivial⟩
  · have wc1 : v1.toInt < (o0.1 40).toInt := c_nle c1
    have i7 : (0 : Int) ≤ v1.toInt ∧ v1.toInt ≤ 5 := nr_nlel c1 i_v1 (k_o0.1 40) (by decide) (by decide)
    have i8 : (1 : Int) ≤ (o0.1 40).toInt ∧ (o0.1 40).toInt ≤ 6 := nr_nler c1 i_v1 (k_o0.1 40) (by decide) (by decide)
    refine tt_n (ix_ok i7 (by decide) (by decide)) ?_
    refine tt_kv (P := fun z => ((0 : Int) ≤ z.toInt ∧ z.toInt ≤ 417) ∧ z.toInt = (o0.2.1 35 v1.toNatClampNeg).toInt) ⟨(k_o0.2 35 _), rfl⟩ (fun x9 qi10 => ?_)
    obtain ⟨i10, ei10⟩ := qi10
    refine tt_n (ix_ok i7 (by decide) (by decide)) ?_
    refine tt_ko ?_
    have k11 := ok_xp (k := 47) (i := v1.toNatClampNeg) (v := x9) k_o0 i10
    have r12 := fr_xp (k := 47) (i := v1.toNatClampNeg) (v := x9) r_o0 rfl
    refine tt_kv (P := fun z => ((1 : Int) ≤ z.toInt ∧ z.toInt ≤ 6) ∧ z.toInt = v1.toInt + 1) ⟨iv_add i7 (show (1 : Int) ≤ (1 : Int32).toInt ∧ (1 : Int32).toInt ≤ 1 by decide) (by decide) (by decide) (by decide) (by decide), iq_add i7 (show (1 : Int) ≤ (1 : Int32).toInt ∧ (1 : Int32).toInt ≤ 1 by decide) (by decide) (by decide)⟩ (fun x13 qi14 => ?_)
    obtain ⟨i14, ei14⟩ := qi14
    have p15 : Ce x13.toInt (o0.2.1 35) (upd (o0.2.1 47) (v1.toNatClampNeg) x9) := by exact Ce_s (by assumption) (by omega) (by rw [tn_n]; omega) (by assumption)
    exact H.2.2 _ _ k11 r12 (iv_w (a := 0) (b := 6) (by decide) (by decide) i14) f_o0_0 f_o0_36 f_o0_37 f_o0_38 f_o0_95 x_0 x_1 (show (o0.1 43).toInt = (o0.1 31).toInt by omega) p15 (show 0 + (6 - x13.toInt) * 2 < (n : Int) by omega)
set_option maxHeartbeats 4000000 in
set_option maxRecDepth 100000 in
theorem tM_take_50 {yo0 : cf_O} {n : Nat} (H : HM_take yo0 n) (v1 : Int32) (o0 : cf_O) (k_o0 : okO I_M o0) (r_o0 : Fr (fr_M [43, 64, 85] [44, 45, 46, 47] []) yo0 o0) (i_v1 : (0 : Int) ≤ v1.toInt ∧ v1.toInt ≤ 210) (f_o0_0 : (0 : Int) ≤ (o0.1 0).toInt ∧ (o0.1 0).toInt ≤ 0) (f_o0_36 : (0 : Int) ≤ (o0.1 36).toInt ∧ (o0.1 36).toInt ≤ 0) (f_o0_37 : (1 : Int) ≤ (o0.1 37).toInt ∧ (o0.1 37).toInt ≤ 9) (f_o0_38 : (1 : Int) ≤ (o0.1 38).toInt ∧ (o0.1 38).toInt ≤ 1) (f_o0_95 : (0 : Int) ≤ (o0.1 95).toInt ∧ (o0.1 95).toInt ≤ 0) (x_0 : Gx (o0.1 37).toInt (o0.1 43).toInt (o0.2.1 44) (o0.2.1 45)) (x_1 : No (o0.1 40).toInt ((o0.1 37).toInt + (o0.1 31).toInt) (o0.2.1 35)) (x_2 : (o0.1 43).toInt = (o0.1 31).toInt) (hm : 14 + (210 - v1.toInt) * 2 ≤ (n : Int)) : tt (fM_take_50 (gM_take n) v1 o0) (QM_take yo0) := by
  unfold fM_take_50
  have g_o0_31 : (0 : Int) ≤ (o0.1 31).toInt ∧ (o0.1 31).toInt ≤ 200 := k_o0.1 31
  have ey_o0_31 : (o0.1 31).toInt = (yo0.1 31).toInt := congrArg Int32.toInt (r_o0.1 31 rfl)
  have ey_o0_37 : (o0.1 37).toInt = (yo0.1 37).toInt := congrArg Int32.toInt (r_o0.1 37 rfl)
  have g_o0_40 : (0 : Int) ≤ (o0.1 40).toInt ∧ (o0.1 40).toInt ≤ 6 := k_o0.1 40
  have ey_o0_40 : (o0.1 40).toInt = (yo0.1 40).toInt := congrArg Int32.toInt (r_o0.1 40 rfl)
  have g_o0_43 : (0 : Int) ≤ (o0.1 43).toInt ∧ (o0.1 43).toInt ≤ 200 := k_o0.1 43
  have g_o0_64 : (0 : Int) ≤ (o0.1 64).toInt ∧ (o0.1 64).toInt ≤ 1 := k_o0.1 64
  refine tt_if (fun c1 => ?_) (fun c1 => ?_)
  · have wc1 : (210 : Int) ≤ v1.toInt := c_le c1
    have i2 : (210 : Int) ≤ v1.toInt ∧ v1.toInt ≤ 210 := nr_ler c1 (show (210 : Int) ≤ (210 : Int32).toInt ∧ (210 : Int32).toInt ≤ 210 by decide) i_v1 (by decide) (by decide)
    have p3 : Ce 0 (o0.2.1 35) (o0.2.1 47) := by exact Ce_0 _ _
    exact H.2.2 _ _ k_o0 r_o0 (iv_w (a := 0) (b := 6) (by decide) (by decide) (show (0 : Int) ≤ (0 : Int32).toInt ∧ (0 : Int32).toInt ≤ 0 by decide)) f_o0_0 f_o0_36 f_o0_37 f_o0_38 f_o0_95 x_0 x_1 (show (o0.1 43).toInt = (o0.1 31).toInt by omega) p3 (show 0 + (6 - 0) * 2 < (n : Int) by omega)
  · have wc1 : v1.toInt < (210 : Int) := c_nle c1
    have i4 : (0 : Int) ≤ v1.toInt ∧ v1.toInt ≤ 209 := nr_nlel c1 i_v1 (show (210 : Int) ≤ (210 : Int32).toInt ∧ (210 : Int32).toInt ≤ 210 by decide) (by decide) (by decide)
    refine tt_n (ix_ok i4 (by decide) (by decide)) ?_
    refine tt_kv (P := fun z => (((-2147483648) : Int) ≤ z.toInt ∧ z.toInt ≤ 2147483647) ∧ z.toInt = (o0.2.1 34 v1.toNatClampNeg).toInt) ⟨(k_o0.2 34 _), rfl⟩ (fun x5 qi6 => ?_)
    obtain ⟨i6, ei6⟩ := qi6
    refine tt_n (ix_ok i4 (by decide) (by decide)) ?_
    refine tt_ko ?_
    have k7 := ok_xp (k := 46) (i := v1.toNatClampNeg) (v := x5) k_o0 i6
    have r8 := fr_xp (k := 46) (i := v1.toNatClampNeg) (v := x5) r_o0 rfl
    refine tt_kv (P := fun z => ((1 : Int) ≤ z.toInt ∧ z.toInt ≤ 210) ∧ z.toInt = v1.toInt + 1) ⟨iv_add i4 (show (1 : Int) ≤ (1 : Int32).toInt ∧ (1 : Int32).toInt ≤ 1 by decide) (by decide) (by decide) (by decide) (by decide), iq_add i4 (show (1 : Int) ≤ (1 : Int32).toInt ∧ (1 : Int32).toInt ≤ 1 by decide) (by decide) (by decide)⟩ (fun x9 qi10 => ?_)
    obtain ⟨i10, ei10⟩ := qi10
    exact H.2.1 _ _ k7 r8 (iv_w (a := 0) (b := 210) (by decide) (by decide) i10) f_o0_0 f_o0_36 f_o0_37 f_o0_38 f_o0_95 x_0 x_1 (show (o0.1 43).toInt = (o0.1 31).toInt by omega) (show 14 + (210 - x9.toInt) * 2 < (n : Int) by omega)
set_option maxHeartbeats 4000000 in
set_option maxRecDepth 100000 in
theorem tM_take_10 {yo0 : cf_O} {n : Nat} (H : HM_take yo0 n) (v1 : Int32) (o0 : cf_O) (k_o0 : okO I_M o0) (r_o0 : Fr (fr_M [43, 64, 85] [44, 45, 46, 47] []) yo0 o0) (i_v1 : (0 : Int) ≤ v1.toInt ∧ v1.toInt ≤ 200) (f_o0_0 : (0 : Int) ≤ (o0.1 0).toInt ∧ (o0.1 0).toInt ≤ 0) (f_o0_36 : (0 : Int) ≤ (o0.1 36).toInt ∧ (o0.1 36).toInt ≤ 0) (f_o0_37 : (1 : Int) ≤ (o0.1 37).toInt ∧ (o0.1 37).toInt ≤ 9) (f_o0_38 : (1 : Int) ≤ (o0.1 38).toInt ∧ (o0.1 38).toInt ≤ 1) (f_o0_95 : (0 : Int) ≤ (o0.1 95).toInt ∧ (o0.1 95).toInt ≤ 0) (x_0 : Gx (o0.1 37).toInt (o0.1 31).toInt (o0.2.1 32) (o0.2.1 33)) (x_1 : No (o0.1 40).toInt ((o0.1 37).toInt + (o0.1 31).toInt) (o0.2.1 35)) (x_2 : Ce v1.toInt (o0.2.1 32) (o0.2.1 44)) (x_3 : Ce v1.toInt (o0.2.1 33) (o0.2.1 45)) (x_4 : (o0.1 43).toInt = (o0.1 31).toInt) (hm : 436 + (200 - v1.toInt) * 2 ≤ (n : Int)) : tt (fM_take_10 (gM_take n) v1 o0) (QM_take yo0) := by
  unfold fM_take_10
  have g_o0_31 : (0 : Int) ≤ (o0.1 31).toInt ∧ (o0.1 31).toInt ≤ 200 := k_o0.1 31
  have ey_o0_31 : (o0.1 31).toInt = (yo0.1 31).toInt := congrArg Int32.toInt (r_o0.1 31 rfl)
  have ey_o0_37 : (o0.1 37).toInt = (yo0.1 37).toInt := congrArg Int32.toInt (r_o0.1 37 rfl)
  have g_o0_40 : (0 : Int) ≤ (o0.1 40).toInt ∧ (o0.1 40).toInt ≤ 6 := k_o0.1 40
  have ey_o0_40 : (o0.1 40).toInt = (yo0.1 40).toInt := congrArg Int32.toInt (r_o0.1 40 rfl)
  have g_o0_43 : (0 : Int) ≤ (o0.1 43).toInt ∧ (o0.1 43).toInt ≤ 200 := k_o0.1 43
  have g_o0_64 : (0 : Int) ≤ (o0.1 64).toInt ∧ (o0.1 64).toInt ≤ 1 := k_o0.1 64
  refine tt_if (fun c1 => ?_) (fun c1 => ?_)
  · have wc1 : (o0.1 43).toInt ≤ v1.toInt := c_le c1
    have p2 : Gx (o0.1 37).toInt (o0.1 43).toInt (o0.2.1 44) (o0.2.1 45) := by exact Gx_c x_0 x_2 x_3 (by omega) (by omega)
    exact H.2.1 _ _ k_o0 r_o0 (iv_w (a := 0) (b := 210) (by decide) (by decide) (show (0 : Int) ≤ (0 : Int32).toInt ∧ (0 : Int32).toInt ≤ 0 by decide)) f_o0_0 f_o0_36 f_o0_37 f_o0_38 f_o0_95 p2 x_1 (show (o0.1 43).toInt = (o0.1 31).toInt by omega) (show 14 + (210 - 0) * 2 < (n : Int) by omega)
  · have wc1 : v1.toInt < (o0.1 43).toInt := c_nle c1
    have i3 : (0 : Int) ≤ v1.toInt ∧ v1.toInt ≤ 199 := nr_nlel c1 i_v1 (k_o0.1 43) (by decide) (by decide)
    have i4 : (1 : Int) ≤ (o0.1 43).toInt ∧ (o0.1 43).toInt ≤ 200 := nr_nler c1 i_v1 (k_o0.1 43) (by decide) (by decide)
    refine tt_n (ix_ok i3 (by decide) (by decide)) ?_
    refine tt_kv (P := fun z => ((0 : Int) ≤ z.toInt ∧ z.toInt ≤ 417) ∧ z.toInt = (o0.2.1 32 v1.toNatClampNeg).toInt) ⟨(k_o0.2 32 _), rfl⟩ (fun x5 qi6 => ?_)
    obtain ⟨i6, ei6⟩ := qi6
    refine tt_n (ix_ok i3 (by decide) (by decide)) ?_
    refine tt_ko ?_
    have k7 := ok_xp (k := 44) (i := v1.toNatClampNeg) (v := x5) k_o0 i6
    have r8 := fr_xp (k := 44) (i := v1.toNatClampNeg) (v := x5) r_o0 rfl
    refine tt_n (ix_ok i3 (by decide) (by decide)) ?_
    refine tt_kv (P := fun z => ((0 : Int) ≤ z.toInt ∧ z.toInt ≤ 417) ∧ z.toInt = (o0.2.1 33 v1.toNatClampNeg).toInt) ⟨(k7.2 33 _), rfl⟩ (fun x9 qi10 => ?_)
    obtain ⟨i10, ei10⟩ := qi10
    refine tt_n (ix_ok i3 (by decide) (by decide)) ?_
    refine tt_ko ?_
    have k11 := ok_xp (k := 45) (i := v1.toNatClampNeg) (v := x9) k7 i10
    have r12 := fr_xp (k := 45) (i := v1.toNatClampNeg) (v := x9) r8 rfl
    refine tt_kv (P := fun z => ((1 : Int) ≤ z.toInt ∧ z.toInt ≤ 200) ∧ z.toInt = v1.toInt + 1) ⟨iv_add i3 (show (1 : Int) ≤ (1 : Int32).toInt ∧ (1 : Int32).toInt ≤ 1 by decide) (by decide) (by decide) (by decide) (by decide), iq_add i3 (show (1 : Int) ≤ (1 : Int32).toInt ∧ (1 : Int32).toInt ≤ 1 by decide) (by decide) (by decide)⟩ (fun x13 qi14 => ?_)
    obtain ⟨i14, ei14⟩ := qi14
    have p15 : Ce x13.toInt (o0.2.1 32) (upd (o0.2.1 44) (v1.toNatClampNeg) x5) := by exact Ce_s (by assumption) (by omega) (by rw [tn_n]; omega) (by assumption)
    have p16 : Ce x13.toInt (o0.2.1 33) (upd (o0.2.1 45) (v1.toNatClampNeg) x9) := by exact Ce_s (by assumption) (by omega) (by rw [tn_n]; omega) (by assumption)
    exact H.1 _ _ k11 r12 (iv_w (a := 0) (b := 200) (by decide) (by decide) i14) f_o0_0 f_o0_36 f_o0_37 f_o0_38 f_o0_95 x_0 x_1 p15 p16 (show (o0.1 43).toInt = (o0.1 31).toInt by omega) (show 436 + (200 - x13.toInt) * 2 < (n : Int) by omega)
set_option maxHeartbeats 4000000 in
set_option maxRecDepth 100000 in
theorem hM_take (yo0 : cf_O) : ∀ n, HM_take yo0 n := by
  intro n
  induction n with
  | zero => exact ⟨(fun v1 o0 k_o0 r_o0 i_v1 f_o0_0 f_o0_36 f_o0_37 f_o0_38 f_o0_95 x_0 x_1 x_2 x_3 x_4 hm => by exact absurd (show 436 + (200 - v1.toInt) * 2 < (0 : Int) from hm) (by omega)), (fun v1 o0 k_o0 r_o0 i_v1 f_o0_0 f_o0_36 f_o0_37 f_o0_38 f_o0_95 x_0 x_1 x_2 hm => by exact absurd (show 14 + (210 - v1.toInt) * 2 < (0 : Int) from hm) (by omega)), (fun v1 o0 k_o0 r_o0 i_v1 f_o0_0 f_o0_36 f_o0_37 f_o0_38 f_o0_95 x_0 x_1 x_2 x_3 hm => by exact absurd (show 0 + (6 - v1.toInt) * 2 < (0 : Int) from hm) (by omega))⟩
  | succ n ih => exact ⟨(fun v1 o0 k_o0 r_o0 i_v1 f_o0_0 f_o0_36 f_o0_37 f_o0_38 f_o0_95 x_0 x_1 x_2 x_3 x_4 hm => tM_take_10 ih v1 o0 k_o0 r_o0 i_v1 f_o0_0 f_o0_36 f_o0_37 f_o0_38 f_o0_95 x_0 x_1 x_2 x_3 x_4 (by omega)), (fun v1 o0 k_o0 r_o0 i_v1 f_o0_0 f_o0_36 f_o0_37 f_o0_38 f_o0_95 x_0 x_1 x_2 hm => tM_take_50 ih v1 o0 k_o0 r_o0 i_v1 f_o0_0 f_o0_36 f_o0_37 f_o0_38 f_o0_95 x_0 x_1 x_2 (by omega)), (fun v1 o0 k_o0 r_o0 i_v1 f_o0_0 f_o0_36 f_o0_37 f_o0_38 f_o0_95 x_0 x_1 x_2 x_3 hm => tM_take_77 ih v1 o0 k_o0 r_o0 i_v1 f_o0_0 f_o0_36 f_o0_37 f_o0_38 f_o0_95 x_0 x_1 x_2 x_3 (by omega))⟩
set_option maxHeartbeats 4000000 in
set_option maxRecDepth 100000 in
theorem sM_take (o0 : cf_O) (k_o0 : okO I_M o0) (f_o0_0 : (0 : Int) ≤ (o0.1 0).toInt ∧ (o0.1 0).toInt ≤ 0) (f_o0_36 : (0 : Int) ≤ (o0.1 36).toInt ∧ (o0.1 36).toInt ≤ 0) (f_o0_37 : (1 : Int) ≤ (o0.1 37).toInt ∧ (o0.1 37).toInt ≤ 9) (f_o0_38 : (1 : Int) ≤ (o0.1 38).toInt ∧ (o0.1 38).toInt ≤ 1) (f_o0_95 : (0 : Int) ≤ (o0.1 95).toInt ∧ (o0.1 95).toInt ≤ 0) (x_0 : Gx (o0.1 37).toInt (o0.1 31).toInt (o0.2.1 32) (o0.2.1 33)) (x_1 : No (o0.1 40).toInt ((o0.1 37).toInt + (o0.1 31).toInt) (o0.2.1 35)) : tt (fM_take o0) (QM_take o0) := by
  have H := hM_take o0 cfFU
  have hm : (839 : Int) ≤ (cfFU : Nat) := by decide
  have r_o0 : Fr (fr_M [43, 64, 85] [44, 45, 46, 47] []) o0 o0 := fr_rfl
  unfold fM_take fM_take_0
  have g_o0_31 : (0 : Int) ≤ (o0.1 31).toInt ∧ (o0.1 31).toInt ≤ 200 := k_o0.1 31
  have g_o0_40 : (0 : Int) ≤ (o0.1 40).toInt ∧ (o0.1 40).toInt ≤ 6 := k_o0.1 40
  have g_o0_43 : (0 : Int) ≤ (o0.1 43).toInt ∧ (o0.1 43).toInt ≤ 200 := k_o0.1 43
  have g_o0_64 : (0 : Int) ≤ (o0.1 64).toInt ∧ (o0.1 64).toInt ≤ 1 := k_o0.1 64
  refine tt_ko ?_
  have k1 := ok_fp (k := 43) (v := (o0.1 31)) k_o0 (k_o0.1 31)
  have r2 := fr_fp (k := 43) (v := (o0.1 31)) r_o0 rfl
  have p3 : Ce 0 (o0.2.1 32) (o0.2.1 44) := by exact Ce_0 _ _
  have p4 : Ce 0 (o0.2.1 33) (o0.2.1 45) := by exact Ce_0 _ _
  exact H.1 _ _ k1 r2 (iv_w (a := 0) (b := 200) (by decide) (by decide) (show (0 : Int) ≤ (0 : Int32).toInt ∧ (0 : Int32).toInt ≤ 0 by decide)) f_o0_0 f_o0_36 f_o0_37 f_o0_38 f_o0_95 x_0 x_1 p3 p4 (show (o0.1 31).toInt = (o0.1 31).toInt by omega) (show 436 + (200 - 0) * 2 < ((cfFU : Nat) : Int) by omega)
def QM_takeNames_M41_M11_M12 (v2 : Int32) (o0 : cf_O) (r : (cf_O)) : Prop := (okO I_M r) ∧ (Fr (fr_M [] [41] []) o0 r) ∧ True
def HM_takeNames_M41_M11_M12 (yv2 : Int32) (yo0 : cf_O) (n : Nat) : Prop := (∀ (v2 : Int32) (v5 : Int32) (o0 : cf_O), (okO I_M o0) → (Fr (fr_M [] [41] []) yo0 o0) → ((0 : Int) ≤ v2.toInt ∧ v2.toInt ≤ 8) → ((0 : Int) ≤ v5.toInt ∧ v5.toInt ≤ 8) → ((0 : Int) ≤ (o0.1 0).toInt ∧ (o0.1 0).toInt ≤ 0) → (((-1) : Int) ≤ (o0.1 3).toInt ∧ (o0.1 3).toInt ≤ (-1)) → ((0 : Int) ≤ (o0.1 5).toInt ∧ (o0.1 5).toInt ≤ 0) → ((0 : Int) ≤ (o0.1 36).toInt ∧ (o0.1 36).toInt ≤ 0) → ((1 : Int) ≤ (o0.1 37).toInt ∧ (o0.1 37).toInt ≤ 9) → ((1 : Int) ≤ (o0.1 38).toInt ∧ (o0.1 38).toInt ≤ 1) → ((0 : Int) ≤ (o0.1 95).toInt ∧ (o0.1 95).toInt ≤ 0) → 0 + (8 - v5.toInt) * 20 < (n : Int) → tt (gM_takeNames_M41_M11_M12 n 0 v2 v5 0 o0) (QM_takeNames_M41_M11_M12 yv2 yo0)) ∧ (∀ (v2 : Int32) (v5 : Int32) (v6 : Int32) (o0 : cf_O), (okO I_M o0) → (Fr (fr_M [] [41] []) yo0 o0) → ((1 : Int) ≤ v2.toInt ∧ v2.toInt ≤ 8) → ((0 : Int) ≤ v5.toInt ∧ v5.toInt ≤ 7) → ((0 : Int) ≤ v6.toInt ∧ v6.toInt ≤ 8) → ((0 : Int) ≤ (o0.1 0).toInt ∧ (o0.1 0).toInt ≤ 0) → (((-1) : Int) ≤ (o0.1 3).toInt ∧ (o0.1 3).toInt ≤ (-1)) → ((0 : Int) ≤ (o0.1 5).toInt ∧ (o0.1 5).toInt ≤ 0) → ((0 : Int) ≤ (o0.1 36).toInt ∧ (o0.1 36).toInt ≤ 0) → ((1 : Int) ≤ (o0.1 37).toInt ∧ (o0.1 37).toInt ≤ 9) → ((1 : Int) ≤ (o0.1 38).toInt ∧ (o0.1 38).toInt ≤ 1) → ((0 : Int) ≤ (o0.1 95).toInt ∧ (o0.1 95).toInt ≤ 0) → 0 + (8 - v5.toInt - 1) * 20 + 1 + (8 - v6.toInt) * 2 < (n : Int) → tt (gM_takeNames_M41_M11_M12 n 1 v2 v5 v6 o0) (QM_takeNames_M41_M11_M12 yv2 yo0))
set_option maxHeartbeats 4000000 in
set_option maxRecDepth 100000 in
theorem tM_takeNames_M41_M11_M12_12 {yv2 : Int32} {yo0 : cf_O} {n : Nat} (H : HM_takeNames_M41_M11_M12 yv2 yo0 n) (v2 : Int32) (v5 : Int32) (v6 : Int32) (o0 : cf_O) (k_o0 : okO I_M o0) (r_o0 : Fr (fr_M [] [41] []) yo0 o0) (i_v2 : (1 : Int) ≤ v2.toInt ∧ v2.toInt ≤ 8) (i_v5 : (0 : Int) ≤ v5.toInt ∧ v5.toInt ≤ 7) (i_v6 : (0 : Int) ≤ v6.toInt ∧ v6.toInt ≤ 8) (f_o0_0 : (0 : Int) ≤ (o0.1 0).toInt ∧ (o0.1 0).toInt ≤ 0) (f_o0_3 : ((-1) : Int) ≤ (o0.1 3).toInt ∧ (o0.1 3).toInt ≤ (-1)) (f_o0_5 : (0 : Int) ≤ (o0.1 5).toInt ∧ (o0.1 5).toInt ≤ 0) (f_o0_36 : (0 : Int) ≤ (o0.1 36).toInt ∧ (o0.1 36).toInt ≤ 0) (f_o0_37 : (1 : Int) ≤ (o0.1 37).toInt ∧ (o0.1 37).toInt ≤ 9) (f_o0_38 : (1 : Int) ≤ (o0.1 38).toInt ∧ (o0.1 38).toInt ≤ 1) (f_o0_95 : (0 : Int) ≤ (o0.1 95).toInt ∧ (o0.1 95).toInt ≤ 0) (hm : 0 + (8 - v5.toInt - 1) * 20 + 1 + (8 - v6.toInt) * 2 ≤ (n : Int)) : tt (fM_takeNames_M41_M11_M12_12 (gM_takeNames_M41_M11_M12 n) v2 v5 v6 o0) (QM_takeNames_M41_M11_M12 yv2 yo0) := by
  unfold fM_takeNames_M41_M11_M12_12
  refine tt_if (fun c1 => ?_) (fun c1 => ?_)
  · have wc1 : (8 : Int) ≤ v6.toInt := c_le c1
    have i2 : (8 : Int) ≤ v6.toInt ∧ v6.toInt ≤ 8 := nr_ler c1 (show (8 : Int) ≤ (8 : Int32).toInt ∧ (8 : Int32).toInt ≤ 8 by decide) i_v6 (by decide) (by decide)
    refine tt_kv (P := fun z => ((1 : Int) ≤ z.toInt ∧ z.toInt ≤ 8) ∧ z.toInt = v5.toInt + 1) ⟨iv_add i_v5 (show (1 : Int) ≤ (1 : Int32).toInt ∧ (1 : Int32).toInt ≤ 1 by decide) (by decide) (by decide) (by decide) (by decide), iq_add i_v5 (show (1 : Int) ≤ (1 : Int32).toInt ∧ (1 : Int32).toInt ≤ 1 by decide) (by decide) (by decide)⟩ (fun x3 qi4 => ?_)
    obtain ⟨i4, ei4⟩ := qi4
    exact H.1 _ _ _ k_o0 r_o0 (iv_w (a := 0) (b := 8) (by decide) (by decide) i_v2) (iv_w (a := 0) (b := 8) (by decide) (by decide) i4) f_o0_0 f_o0_3 f_o0_5 f_o0_36 f_o0_37 f_o0_38 f_o0_95 (show 0 + (8 - x3.toInt) * 20 < (n : Int) by omega)
  · have wc1 : v6.toInt < (8 : Int) := c_nle c1
    have i5 : (0 : Int) ≤ v6.toInt ∧ v6.toInt ≤ 7 := nr_nlel c1 i_v6 (show (8 : Int) ≤ (8 : Int32).toInt ∧ (8 : Int32).toInt ≤ 8 by decide) (by decide) (by decide)
    refine tt_kv (P := fun z => ((0 : Int) ≤ z.toInt ∧ z.toInt ≤ 56) ∧ z.toInt = 8 * v5.toInt) ⟨iv_mul (show (8 : Int) ≤ (8 : Int32).toInt ∧ (8 : Int32).toInt ≤ 8 by decide) i_v5 (by decide) (by decide) (by decide) (by decide) (by decide), iq_mul (show (8 : Int) ≤ (8 : Int32).toInt ∧ (8 : Int32).toInt ≤ 8 by decide) i_v5 (by decide) (by decide) (by decide) (by decide)⟩ (fun x6 qi7 => ?_)
    obtain ⟨i7, ei7⟩ := qi7
    refine tt_kv (P := fun z => ((0 : Int) ≤ z.toInt ∧ z.toInt ≤ 63) ∧ z.toInt = x6.toInt + v6.toInt) ⟨iv_add i7 i5 (by decide) (by decide) (by decide) (by decide), iq_add i7 i5 (by decide) (by decide)⟩ (fun x8 qi9 => ?_)
    obtain ⟨i9, ei9⟩ := qi9
    refine tt_n (ix_ok i_v5 (by decide) (by decide)) ?_
    refine tt_kv (P := fun z => ((0 : Int) ≤ z.toInt ∧ z.toInt ≤ 1599) ∧ z.toInt = (o0.2.1 11 v5.toNatClampNeg).toInt) ⟨(k_o0.2 11 _), rfl⟩ (fun x10 qi11 => ?_)
    obtain ⟨i11, ei11⟩ := qi11
    refine tt_kv (P := fun z => ((0 : Int) ≤ z.toInt ∧ z.toInt ≤ 1606) ∧ z.toInt = x10.toInt + v6.toInt) ⟨iv_add i11 i5 (by decide) (by decide) (by decide) (by decide), iq_add i11 i5 (by decide) (by decide)⟩ (fun x12 qi13 => ?_)
    obtain ⟨i13, ei13⟩ := qi13
    refine tt_n (ix_ok i_v5 (by decide) (by decide)) ?_
    refine tt_kv (P := fun z => ((0 : Int) ≤ z.toInt ∧ z.toInt ≤ 1600) ∧ z.toInt = (o0.2.1 12 v5.toNatClampNeg).toInt) ⟨(k_o0.2 12 _), rfl⟩ (fun x14 qi15 => ?_)
    obtain ⟨i15, ei15⟩ := qi15
    refine tt_if (fun c16 => ?_) (fun c16 => ?_)
    · have wc16 : x14.toInt ≤ x12.toInt := c_le c16
      try unfold fM_takeNames_M41_M11_M12_59
      refine tt_n (ix_ok i9 (by decide) (by decide)) ?_
      refine tt_ko ?_
      have k17 := ok_xp (k := 41) (i := x8.toNatClampNeg) (v := 0) k_o0 (iv_w (a := 0) (b := 255) (by decide) (by decide) (show (0 : Int) ≤ (0 : Int32).toInt ∧ (0 : Int32).toInt ≤ 0 by decide))
      have r18 := fr_xp (k := 41) (i := x8.toNatClampNeg) (v := 0) r_o0 rfl
      refine tt_kv (P := fun z => ((1 : Int) ≤ z.toInt ∧ z.toInt ≤ 8) ∧ z.toInt = v6.toInt + 1) ⟨iv_add i5 (show (1 : Int) ≤ (1 : Int32).toInt ∧ (1 : Int32).toInt ≤ 1 by decide) (by decide) (by decide) (by decide) (by decide), iq_add i5 (show (1 : Int) ≤ (1 : Int32).toInt ∧ (1 : Int32).toInt ≤ 1 by decide) (by decide) (by decide)⟩ (fun x19 qi20 => ?_)
      obtain ⟨i20, ei20⟩ := qi20
      exact H.2 _ _ _ _ k17 r18 i_v2 i_v5 (iv_w (a := 0) (b := 8) (by decide) (by decide) i20) f_o0_0 f_o0_3 f_o0_5 f_o0_36 f_o0_37 f_o0_38 f_o0_95 (show 0 + (8 - v5.toInt - 1) * 20 + 1 + (8 - x19.toInt) * 2 < (n : Int) by omega)
    · have wc16 : x12.toInt < x14.toInt := c_nle c16
      have i21 : (0 : Int) ≤ x12.toInt ∧ x12.toInt ≤ 1599 := nr_nlel c16 i13 i15 (by decide) (by decide)
      have i22 : (1 : Int) ≤ x14.toInt ∧ x14.toInt ≤ 1600 := nr_nler c16 i13 i15 (by decide) (by decide)
      refine tt_n (ix_ok i_v5 (by decide) (by decide)) ?_
      refine tt_kv (P := fun z => ((0 : Int) ≤ z.toInt ∧ z.toInt ≤ 1599) ∧ z.toInt = (o0.2.1 11 v5.toNatClampNeg).toInt) ⟨(k_o0.2 11 _), rfl⟩ (fun x23 qi24 => ?_)
      obtain ⟨i24, ei24⟩ := qi24
      refine tt_kv (P := fun z => ((0 : Int) ≤ z.toInt ∧ z.toInt ≤ 1606) ∧ z.toInt = x23.toInt + v6.toInt) ⟨iv_add i24 i5 (by decide) (by decide) (by decide) (by decide), iq_add i24 i5 (by decide) (by decide)⟩ (fun x25 qi26 => ?_)
      obtain ⟨i26, ei26⟩ := qi26
      refine tt_n (ix_rel (by omega) (by omega)) ?_
      have i27 : (0 : Int) ≤ x25.toInt ∧ x25.toInt ≤ 1599 := (by omega)
      refine tt_kv (P := fun z => ((0 : Int) ≤ z.toInt ∧ z.toInt ≤ 255) ∧ z.toInt = (o0.2.1 1 x25.toNatClampNeg).toInt) ⟨(k_o0.2 1 _), rfl⟩ (fun x28 qi29 => ?_)
      obtain ⟨i29, ei29⟩ := qi29
      try unfold fM_takeNames_M41_M11_M12_59
      refine tt_n (ix_ok i9 (by decide) (by decide)) ?_
      refine tt_ko ?_
      have k30 := ok_xp (k := 41) (i := x8.toNatClampNeg) (v := x28) k_o0 i29
      have r31 := fr_xp (k := 41) (i := x8.toNatClampNeg) (v := x28) r_o0 rfl
      refine tt_kv (P := fun z => ((1 : Int) ≤ z.toInt ∧ z.toInt ≤ 8) ∧ z.toInt = v6.toInt + 1) ⟨iv_add i5 (show (1 : Int) ≤ (1 : Int32).toInt ∧ (1 : Int32).toInt ≤ 1 by decide) (by decide) (by decide) (by decide) (by decide), iq_add i5 (show (1 : Int) ≤ (1 : Int32).toInt ∧ (1 : Int32).toInt ≤ 1 by decide) (by decide) (by decide)⟩ (fun x32 qi33 => ?_)
      obtain ⟨i33, ei33⟩ := qi33
      exact H.2 _ _ _ _ k30 r31 i_v2 i_v5 (iv_w (a := 0) (b := 8) (by decide) (by decide) i33) f_o0_0 f_o0_3 f_o0_5 f_o0_36 f_o0_37 f_o0_38 f_o0_95 (show 0 + (8 - v5.toInt - 1) * 20 + 1 + (8 - x32.toInt) * 2 < (n : Int) by omega)
set_option maxHeartbeats 4000000 in
set_option maxRecDepth 100000 in
theorem tM_takeNames_M41_M11_M12_3 {yv2 : Int32} {yo0 : cf_O} {n : Nat} (H : HM_takeNames_M41_M11_M12 yv2 yo0 n) (v2 : Int32) (v5 : Int32) (o0 : cf_O) (k_o0 : okO I_M o0) (r_o0 : Fr (fr_M [] [41] []) yo0 o0) (i_v2 : (0 : Int) ≤ v2.toInt ∧ v2.toInt ≤ 8) (i_v5 : (0 : Int) ≤ v5.toInt ∧ v5.toInt ≤ 8) (f_o0_0 : (0 : Int) ≤ (o0.1 0).toInt ∧ (o0.1 0).toInt ≤ 0) (f_o0_3 : ((-1) : Int) ≤ (o0.1 3).toInt ∧ (o0.1 3).toInt ≤ (-1)) (f_o0_5 : (0 : Int) ≤ (o0.1 5).toInt ∧ (o0.1 5).toInt ≤ 0) (f_o0_36 : (0 : Int) ≤ (o0.1 36).toInt ∧ (o0.1 36).toInt ≤ 0) (f_o0_37 : (1 : Int) ≤ (o0.1 37).toInt ∧ (o0.1 37).toInt ≤ 9) (f_o0_38 : (1 : Int) ≤ (o0.1 38).toInt ∧ (o0.1 38).toInt ≤ 1) (f_o0_95 : (0 : Int) ≤ (o0.1 95).toInt ∧ (o0.1 95).toInt ≤ 0) (hm : 0 + (8 - v5.toInt) * 20 ≤ (n : Int)) : tt (fM_takeNames_M41_M11_M12_3 (gM_takeNames_M41_M11_M12 n) v2 v5 o0) (QM_takeNames_M41_M11_M12 yv2 yo0) := by
  unfold fM_takeNames_M41_M11_M12_3
  refine tt_if (fun c1 => ?_) (fun c1 => ?_)
  · have wc1 : v2.toInt ≤ v5.toInt := c_le c1
    exact tt_some ⟨k_o0, r_o0, trivial⟩
  · have wc1 : v5.toInt < v2.toInt := c_nle c1
    have i2 : (0 : Int) ≤ v5.toInt ∧ v5.toInt ≤ 7 := nr_nlel c1 i_v5 i_v2 (by decide) (by decide)
    have i3 : (1 : Int) ≤ v2.toInt ∧ v2.toInt ≤ 8 := nr_nler c1 i_v5 i_v2 (by decide) (by decide)
    exact H.2 _ _ _ _ k_o0 r_o0 i3 i2 (iv_w (a := 0) (b := 8) (by decide) (by decide) (show (0 : Int) ≤ (0 : Int32).toInt ∧ (0 : Int32).toInt ≤ 0 by decide)) f_o0_0 f_o0_3 f_o0_5 f_o0_36 f_o0_37 f_o0_38 f_o0_95 (show 0 + (8 - v5.toInt - 1) * 20 + 1 + (8 - 0) * 2 < (n : Int) by omega)
set_option maxHeartbeats 4000000 in
set_option maxRecDepth 100000 in
theorem hM_takeNames_M41_M11_M12 (yv2 : Int32) (yo0 : cf_O) : ∀ n, HM_takeNames_M41_M11_M12 yv2 yo0 n := by
  intro n
  induction n with
  | zero => exact ⟨(fun v2 v5 o0 k_o0 r_o0 i_v2 i_v5 f_o0_0 f_o0_3 f_o0_5 f_o0_36 f_o0_37 f_o0_38 f_o0_95 hm => by exact absurd (show 0 + (8 - v5.toInt) * 20 < (0 : Int) from hm) (by omega)), (fun v2 v5 v6 o0 k_o0 r_o0 i_v2 i_v5 i_v6 f_o0_0 f_o0_3 f_o0_5 f_o0_36 f_o0_37 f_o0_38 f_o0_95 hm => by exact absurd (show 0 + (8 - v5.toInt - 1) * 20 + 1 + (8 - v6.toInt) * 2 < (0 : Int) from hm) (by omega))⟩
  | succ n ih => exact ⟨(fun v2 v5 o0 k_o0 r_o0 i_v2 i_v5 f_o0_0 f_o0_3 f_o0_5 f_o0_36 f_o0_37 f_o0_38 f_o0_95 hm => tM_takeNames_M41_M11_M12_3 ih v2 v5 o0 k_o0 r_o0 i_v2 i_v5 f_o0_0 f_o0_3 f_o0_5 f_o0_36 f_o0_37 f_o0_38 f_o0_95 (by omega)), (fun v2 v5 v6 o0 k_o0 r_o0 i_v2 i_v5 i_v6 f_o0_0 f_o0_3 f_o0_5 f_o0_36 f_o0_37 f_o0_38 f_o0_95 hm => tM_takeNames_M41_M11_M12_12 ih v2 v5 v6 o0 k_o0 r_o0 i_v2 i_v5 i_v6 f_o0_0 f_o0_3 f_o0_5 f_o0_36 f_o0_37 f_o0_38 f_o0_95 (by omega))⟩
set_option maxHeartbeats 4000000 in
set_option maxRecDepth 100000 in
theorem sM_takeNames_M41_M11_M12 (v2 : Int32) (o0 : cf_O) (k_o0 : okO I_M o0) (i_v2 : (0 : Int) ≤ v2.toInt ∧ v2.toInt ≤ 8) (f_o0_0 : (0 : Int) ≤ (o0.1 0).toInt ∧ (o0.1 0).toInt ≤ 0) (f_o0_3 : ((-1) : Int) ≤ (o0.1 3).toInt ∧ (o0.1 3).toInt ≤ (-1)) (f_o0_5 : (0 : Int) ≤ (o0.1 5).toInt ∧ (o0.1 5).toInt ≤ 0) (f_o0_36 : (0 : Int) ≤ (o0.1 36).toInt ∧ (o0.1 36).toInt ≤ 0) (f_o0_37 : (1 : Int) ≤ (o0.1 37).toInt ∧ (o0.1 37).toInt ≤ 9) (f_o0_38 : (1 : Int) ≤ (o0.1 38).toInt ∧ (o0.1 38).toInt ≤ 1) (f_o0_39 : (0 : Int) ≤ (o0.1 39).toInt ∧ (o0.1 39).toInt ≤ 8) (f_o0_40 : (0 : Int) ≤ (o0.1 40).toInt ∧ (o0.1 40).toInt ≤ 6) (f_o0_95 : (0 : Int) ≤ (o0.1 95).toInt ∧ (o0.1 95).toInt ≤ 0) : tt (fM_takeNames_M41_M11_M12 v2 o0) (QM_takeNames_M41_M11_M12 v2 o0) := by
  have H := hM_takeNames_M41_M11_M12 v2 o0 cfFU
  have hm : (163 : Int) ≤ (cfFU : Nat) := by decide
  have r_o0 : Fr (fr_M [] [41] []) o0 o0 := fr_rfl
  unfold fM_takeNames_M41_M11_M12 fM_takeNames_M41_M11_M12_0
  exact H.1 _ _ _ k_o0 r_o0 i_v2 (iv_w (a := 0) (b := 8) (by decide) (by decide) (show (0 : Int) ≤ (0 : Int32).toInt ∧ (0 : Int32).toInt ≤ 0 by decide)) f_o0_0 f_o0_3 f_o0_5 f_o0_36 f_o0_37 f_o0_38 f_o0_95 (show 0 + (8 - 0) * 20 < ((cfFU : Nat) : Int) by omega)
def QM_takeNames_M42_M14_M15 (v2 : Int32) (o0 : cf_O) (r : (cf_O)) : Prop := (okO I_M r) ∧ (Fr (fr_M [] [42] []) o0 r) ∧ True
def HM_takeNames_M42_M14_M15 (yv2 : Int32) (yo0 : cf_O) (n : Nat) : Prop := (∀ (v2 : Int32) (v5 : Int32) (o0 : cf_O), (okO I_M o0) → (Fr (fr_M [] [42] []) yo0 o0) → ((0 : Int) ≤ v2.toInt ∧ v2.toInt ≤ 6) → ((0 : Int) ≤ v5.toInt ∧ v5.toInt ≤ 6) → ((0 : Int) ≤ (o0.1 0).toInt ∧ (o0.1 0).toInt ≤ 0) → (((-1) : Int) ≤ (o0.1 3).toInt ∧ (o0.1 3).toInt ≤ (-1)) → ((0 : Int) ≤ (o0.1 5).toInt ∧ (o0.1 5).toInt ≤ 0) → ((0 : Int) ≤ (o0.1 36).toInt ∧ (o0.1 36).toInt ≤ 0) → ((1 : Int) ≤ (o0.1 37).toInt ∧ (o0.1 37).toInt ≤ 9) → ((1 : Int) ≤ (o0.1 38).toInt ∧ (o0.1 38).toInt ≤ 1) → ((0 : Int) ≤ (o0.1 95).toInt ∧ (o0.1 95).toInt ≤ 0) → 0 + (6 - v5.toInt) * 20 < (n : Int) → tt (gM_takeNames_M42_M14_M15 n 0 v2 v5 0 o0) (QM_takeNames_M42_M14_M15 yv2 yo0)) ∧ (∀ (v2 : Int32) (v5 : Int32) (v6 : Int32) (o0 : cf_O), (okO I_M o0) → (Fr (fr_M [] [42] []) yo0 o0) → ((1 : Int) ≤ v2.toInt ∧ v2.toInt ≤ 6) → ((0 : Int) ≤ v5.toInt ∧ v5.toInt ≤ 5) → ((0 : Int) ≤ v6.toInt ∧ v6.toInt ≤ 8) → ((0 : Int) ≤ (o0.1 0).toInt ∧ (o0.1 0).toInt ≤ 0) → (((-1) : Int) ≤ (o0.1 3).toInt ∧ (o0.1 3).toInt ≤ (-1)) → ((0 : Int) ≤ (o0.1 5).toInt ∧ (o0.1 5).toInt ≤ 0) → ((0 : Int) ≤ (o0.1 36).toInt ∧ (o0.1 36).toInt ≤ 0) → ((1 : Int) ≤ (o0.1 37).toInt ∧ (o0.1 37).toInt ≤ 9) → ((1 : Int) ≤ (o0.1 38).toInt ∧ (o0.1 38).toInt ≤ 1) → ((0 : Int) ≤ (o0.1 95).toInt ∧ (o0.1 95).toInt ≤ 0) → 0 + (6 - v5.toInt - 1) * 20 + 1 + (8 - v6.toInt) * 2 < (n : Int) → tt (gM_takeNames_M42_M14_M15 n 1 v2 v5 v6 o0) (QM_takeNames_M42_M14_M15 yv2 yo0))
set_option maxHeartbeats 4000000 in
set_option maxRecDepth 100000 in
theorem tM_takeNames_M42_M14_M15_12 {yv2 : Int32} {yo0 : cf_O} {n : Nat} (H : HM_takeNames_M42_M14_M15 yv2 yo0 n) (v2 : Int32) (v5 : Int32) (v6 : Int32) (o0 : cf_O) (k_o0 : okO I_M o0) (r_o0 : Fr (fr_M [] [42] []) yo0 o0) (i_v2 : (1 : Int) ≤ v2.toInt ∧ v2.toInt ≤ 6) (i_v5 : (0 : Int) ≤ v5.toInt ∧ v5.toInt ≤ 5) (i_v6 : (0 : Int) ≤ v6.toInt ∧ v6.toInt ≤ 8) (f_o0_0 : (0 : Int) ≤ (o0.1 0).toInt ∧ (o0.1 0).toInt ≤ 0) (f_o0_3 : ((-1) : Int) ≤ (o0.1 3).toInt ∧ (o0.1 3).toInt ≤ (-1)) (f_o0_5 : (0 : Int) ≤ (o0.1 5).toInt ∧ (o0.1 5).toInt ≤ 0) (f_o0_36 : (0 : Int) ≤ (o0.1 36).toInt ∧ (o0.1 36).toInt ≤ 0) (f_o0_37 : (1 : Int) ≤ (o0.1 37).toInt ∧ (o0.1 37).toInt ≤ 9) (f_o0_38 : (1 : Int) ≤ (o0.1 38).toInt ∧ (o0.1 38).toInt ≤ 1) (f_o0_95 : (0 : Int) ≤ (o0.1 95).toInt ∧ (o0.1 95).toInt ≤ 0) (hm : 0 + (6 - v5.toInt - 1) * 20 + 1 + (8 - v6.toInt) * 2 ≤ (n : Int)) : tt (fM_takeNames_M42_M14_M15_12 (gM_takeNames_M42_M14_M15 n) v2 v5 v6 o0) (QM_takeNames_M42_M14_M15 yv2 yo0) := by
  unfold fM_takeNames_M42_M14_M15_12
  refine tt_if (fun c1 => ?_) (fun c1 => ?_)
  · have wc1 : (8 : Int) ≤ v6.toInt := c_le c1
    have i2 : (8 : Int) ≤ v6.toInt ∧ v6.toInt ≤ 8 := nr_ler c1 (show (8 : Int) ≤ (8 : Int32).toInt ∧ (8 : Int32).toInt ≤ 8 by decide) i_v6 (by decide) (by decide)
    refine tt_kv (P := fun z => ((1 : Int) ≤ z.toInt ∧ z.toInt ≤ 6) ∧ z.toInt = v5.toInt + 1) ⟨iv_add i_v5 (show (1 : Int) ≤ (1 : Int32).toInt ∧ (1 : Int32).toInt ≤ 1 by decide) (by decide) (by decide) (by decide) (by decide), iq_add i_v5 (show (1 : Int) ≤ (1 : Int32).toInt ∧ (1 : Int32).toInt ≤ 1 by decide) (by decide) (by decide)⟩ (fun x3 qi4 => ?_)
    obtain ⟨i4, ei4⟩ := qi4
    exact H.1 _ _ _ k_o0 r_o0 (iv_w (a := 0) (b := 6) (by decide) (by decide) i_v2) (iv_w (a := 0) (b := 6) (by decide) (by decide) i4) f_o0_0 f_o0_3 f_o0_5 f_o0_36 f_o0_37 f_o0_38 f_o0_95 (show 0 + (6 - x3.toInt) * 20 < (n : Int) by omega)
  · have wc1 : v6.toInt < (8 : Int) := c_nle c1
    have i5 : (0 : Int) ≤ v6.toInt ∧ v6.toInt ≤ 7 := nr_nlel c1 i_v6 (show (8 : Int) ≤ (8 : Int32).toInt ∧ (8 : Int32).toInt ≤ 8 by decide) (by decide) (by decide)
    refine tt_kv (P := fun z => ((0 : Int) ≤ z.toInt ∧ z.toInt ≤ 40) ∧ z.toInt = 8 * v5.toInt) ⟨iv_mul (show (8 : Int) ≤ (8 : Int32).toInt ∧ (8 : Int32).toInt ≤ 8 by decide) i_v5 (by decide) (by decide) (by decide) (by decide) (by decide), iq_mul (show (8 : Int) ≤ (8 : Int32).toInt ∧ (8 : Int32).toInt ≤ 8 by decide) i_v5 (by decide) (by decide) (by decide) (by decide)⟩ (fun x6 qi7 => ?_)
    obtain ⟨i7, ei7⟩ := qi7
    refine tt_kv (P := fun z => ((0 : Int) ≤ z.toInt ∧ z.toInt ≤ 47) ∧ z.toInt = x6.toInt + v6.toInt) ⟨iv_add i7 i5 (by decide) (by decide) (by decide) (by decide), iq_add i7 i5 (by decide) (by decide)⟩ (fun x8 qi9 => ?_)
    obtain ⟨i9, ei9⟩ := qi9
    refine tt_n (ix_ok i_v5 (by decide) (by decide)) ?_
    refine tt_kv (P := fun z => ((0 : Int) ≤ z.toInt ∧ z.toInt ≤ 1599) ∧ z.toInt = (o0.2.1 14 v5.toNatClampNeg).toInt) ⟨(k_o0.2 14 _), rfl⟩ (fun x10 qi11 => ?_)
    obtain ⟨i11, ei11⟩ := qi11
    refine tt_kv (P := fun z => ((0 : Int) ≤ z.toInt ∧ z.toInt ≤ 1606) ∧ z.toInt = x10.toInt + v6.toInt) ⟨iv_add i11 i5 (by decide) (by decide) (by decide) (by decide), iq_add i11 i5 (by decide) (by decide)⟩ (fun x12 qi13 => ?_)
    obtain ⟨i13, ei13⟩ := qi13
    refine tt_n (ix_ok i_v5 (by decide) (by decide)) ?_
    refine tt_kv (P := fun z => ((0 : Int) ≤ z.toInt ∧ z.toInt ≤ 1600) ∧ z.toInt = (o0.2.1 15 v5.toNatClampNeg).toInt) ⟨(k_o0.2 15 _), rfl⟩ (fun x14 qi15 => ?_)
    obtain ⟨i15, ei15⟩ := qi15
    refine tt_if (fun c16 => ?_) (fun c16 => ?_)
    · have wc16 : x14.toInt ≤ x12.toInt := c_le c16
      try unfold fM_takeNames_M42_M14_M15_59
      refine tt_n (ix_ok i9 (by decide) (by decide)) ?_
      refine tt_ko ?_
      have k17 := ok_xp (k := 42) (i := x8.toNatClampNeg) (v := 0) k_o0 (iv_w (a := 0) (b := 255) (by decide) (by decide) (show (0 : Int) ≤ (0 : Int32).toInt ∧ (0 : Int32).toInt ≤ 0 by decide))
      have r18 := fr_xp (k := 42) (i := x8.toNatClampNeg) (v := 0) r_o0 rfl
      refine tt_kv (P := fun z => ((1 : Int) ≤ z.toInt ∧ z.toInt ≤ 8) ∧ z.toInt = v6.toInt + 1) ⟨iv_add i5 (show (1 : Int) ≤ (1 : Int32).toInt ∧ (1 : Int32).toInt ≤ 1 by decide) (by decide) (by decide) (by decide) (by decide), iq_add i5 (show (1 : Int) ≤ (1 : Int32).toInt ∧ (1 : Int32).toInt ≤ 1 by decide) (by decide) (by decide)⟩ (fun x19 qi20 => ?_)
      obtain ⟨i20, ei20⟩ := qi20
      exact H.2 _ _ _ _ k17 r18 i_v2 i_v5 (iv_w (a := 0) (b := 8) (by decide) (by decide) i20) f_o0_0 f_o0_3 f_o0_5 f_o0_36 f_o0_37 f_o0_38 f_o0_95 (show 0 + (6 - v5.toInt - 1) * 20 + 1 + (8 - x19.toInt) * 2 < (n : Int) by omega)
    · have wc16 : x12.toInt < x14.toInt := c_nle c16
      have i21 : (0 : Int) ≤ x12.toInt ∧ x12.toInt ≤ 1599 := nr_nlel c16 i13 i15 (by decide) (by decide)
      have i22 : (1 : Int) ≤ x14.toInt ∧ x14.toInt ≤ 1600 := nr_nler c16 i13 i15 (by decide) (by decide)
      refine tt_n (ix_ok i_v5 (by decide) (by decide)) ?_
      refine tt_kv (P := fun z => ((0 : Int) ≤ z.toInt ∧ z.toInt ≤ 1599) ∧ z.toInt = (o0.2.1 14 v5.toNatClampNeg).toInt) ⟨(k_o0.2 14 _), rfl⟩ (fun x23 qi24 => ?_)
      obtain ⟨i24, ei24⟩ := qi24
      refine tt_kv (P := fun z => ((0 : Int) ≤ z.toInt ∧ z.toInt ≤ 1606) ∧ z.toInt = x23.toInt + v6.toInt) ⟨iv_add i24 i5 (by decide) (by decide) (by decide) (by decide), iq_add i24 i5 (by decide) (by decide)⟩ (fun x25 qi26 => ?_)
      obtain ⟨i26, ei26⟩ := qi26
      refine tt_n (ix_rel (by omega) (by omega)) ?_
      have i27 : (0 : Int) ≤ x25.toInt ∧ x25.toInt ≤ 1599 := (by omega)
      refine tt_kv (P := fun z => ((0 : Int) ≤ z.toInt ∧ z.toInt ≤ 255) ∧ z.toInt = (o0.2.1 1 x25.toNatClampNeg).toInt) ⟨(k_o0.2 1 _), rfl⟩ (fun x28 qi29 => ?_)
      obtain ⟨i29, ei29⟩ := qi29
      try unfold fM_takeNames_M42_M14_M15_59
      refine tt_n (ix_ok i9 (by decide) (by decide)) ?_
      refine tt_ko ?_
      have k30 := ok_xp (k := 42) (i := x8.toNatClampNeg) (v := x28) k_o0 i29
      have r31 := fr_xp (k := 42) (i := x8.toNatClampNeg) (v := x28) r_o0 rfl
      refine tt_kv (P := fun z => ((1 : Int) ≤ z.toInt ∧ z.toInt ≤ 8) ∧ z.toInt = v6.toInt + 1) ⟨iv_add i5 (show (1 : Int) ≤ (1 : Int32).toInt ∧ (1 : Int32).toInt ≤ 1 by decide) (by decide) (by decide) (by decide) (by decide), iq_add i5 (show (1 : Int) ≤ (1 : Int32).toInt ∧ (1 : Int32).toInt ≤ 1 by decide) (by decide) (by decide)⟩ (fun x32 qi33 => ?_)
      obtain ⟨i33, ei33⟩ := qi33
      exact H.2 _ _ _ _ k30 r31 i_v2 i_v5 (iv_w (a := 0) (b := 8) (by decide) (by decide) i33) f_o0_0 f_o0_3 f_o0_5 f_o0_36 f_o0_37 f_o0_38 f_o0_95 (show 0 + (6 - v5.toInt - 1) * 20 + 1 + (8 - x32.toInt) * 2 < (n : Int) by omega)
set_option maxHeartbeats 4000000 in
set_option maxRecDepth 100000 in
theorem tM_takeNames_M42_M14_M15_3 {yv2 : Int32} {yo0 : cf_O} {n : Nat} (H : HM_takeNames_M42_M14_M15 yv2 yo0 n) (v2 : Int32) (v5 : Int32) (o0 : cf_O) (k_o0 : okO I_M o0) (r_o0 : Fr (fr_M [] [42] []) yo0 o0) (i_v2 : (0 : Int) ≤ v2.toInt ∧ v2.toInt ≤ 6) (i_v5 : (0 : Int) ≤ v5.toInt ∧ v5.toInt ≤ 6) (f_o0_0 : (0 : Int) ≤ (o0.1 0).toInt ∧ (o0.1 0).toInt ≤ 0) (f_o0_3 : ((-1) : Int) ≤ (o0.1 3).toInt ∧ (o0.1 3).toInt ≤ (-1)) (f_o0_5 : (0 : Int) ≤ (o0.1 5).toInt ∧ (o0.1 5).toInt ≤ 0) (f_o0_36 : (0 : Int) ≤ (o0.1 36).toInt ∧ (o0.1 36).toInt ≤ 0) (f_o0_37 : (1 : Int) ≤ (o0.1 37).toInt ∧ (o0.1 37).toInt ≤ 9) (f_o0_38 : (1 : Int) ≤ (o0.1 38).toInt ∧ (o0.1 38).toInt ≤ 1) (f_o0_95 : (0 : Int) ≤ (o0.1 95).toInt ∧ (o0.1 95).toInt ≤ 0) (hm : 0 + (6 - v5.toInt) * 20 ≤ (n : Int)) : tt (fM_takeNames_M42_M14_M15_3 (gM_takeNames_M42_M14_M15 n) v2 v5 o0) (QM_takeNames_M42_M14_M15 yv2 yo0) := by
  unfold fM_takeNames_M42_M14_M15_3
  refine tt_if (fun c1 => ?_) (fun c1 => ?_)
  · have wc1 : v2.toInt ≤ v5.toInt := c_le c1
    exact tt_some ⟨k_o0, r_o0, trivial⟩
  · have wc1 : v5.toInt < v2.toInt := c_nle c1
    have i2 : (0 : Int) ≤ v5.toInt ∧ v5.toInt ≤ 5 := nr_nlel c1 i_v5 i_v2 (by decide) (by decide)
    have i3 : (1 : Int) ≤ v2.toInt ∧ v2.toInt ≤ 6 := nr_nler c1 i_v5 i_v2 (by decide) (by decide)
    exact H.2 _ _ _ _ k_o0 r_o0 i3 i2 (iv_w (a := 0) (b := 8) (by decide) (by decide) (show (0 : Int) ≤ (0 : Int32).toInt ∧ (0 : Int32).toInt ≤ 0 by decide)) f_o0_0 f_o0_3 f_o0_5 f_o0_36 f_o0_37 f_o0_38 f_o0_95 (show 0 + (6 - v5.toInt - 1) * 20 + 1 + (8 - 0) * 2 < (n : Int) by omega)
set_option maxHeartbeats 4000000 in
set_option maxRecDepth 100000 in
theorem hM_takeNames_M42_M14_M15 (yv2 : Int32) (yo0 : cf_O) : ∀ n, HM_takeNames_M42_M14_M15 yv2 yo0 n := by
  intro n
  induction n with
  | zero => exact ⟨(fun v2 v5 o0 k_o0 r_o0 i_v2 i_v5 f_o0_0 f_o0_3 f_o0_5 f_o0_36 f_o0_37 f_o0_38 f_o0_95 hm => by exact absurd (show 0 + (6 - v5.toInt) * 20 < (0 : Int) from hm) (by omega)), (fun v2 v5 v6 o0 k_o0 r_o0 i_v2 i_v5 i_v6 f_o0_0 f_o0_3 f_o0_5 f_o0_36 f_o0_37 f_o0_38 f_o0_95 hm => by exact absurd (show 0 + (6 - v5.toInt - 1) * 20 + 1 + (8 - v6.toInt) * 2 < (0 : Int) from hm) (by omega))⟩
  | succ n ih => exact ⟨(fun v2 v5 o0 k_o0 r_o0 i_v2 i_v5 f_o0_0 f_o0_3 f_o0_5 f_o0_36 f_o0_37 f_o0_38 f_o0_95 hm => tM_takeNames_M42_M14_M15_3 ih v2 v5 o0 k_o0 r_o0 i_v2 i_v5 f_o0_0 f_o0_3 f_o0_5 f_o0_36 f_o0_37 f_o0_38 f_o0_95 (by omega)), (fun v2 v5 v6 o0 k_o0 r_o0 i_v2 i_v5 i_v6 f_o0_0 f_o0_3 f_o0_5 f_o0_36 f_o0_37 f_o0_38 f_o0_95 hm => tM_takeNames_M42_M14_M15_12 ih v2 v5 v6 o0 k_o0 r_o0 i_v2 i_v5 i_v6 f_o0_0 f_o0_3 f_o0_5 f_o0_36 f_o0_37 f_o0_38 f_o0_95 (by omega))⟩
set_option maxHeartbeats 4000000 in
set_option maxRecDepth 100000 in
theorem sM_takeNames_M42_M14_M15 (v2 : Int32) (o0 : cf_O) (k_o0 : okO I_M o0) (i_v2 : (0 : Int) ≤ v2.toInt ∧ v2.toInt ≤ 6) (f_o0_0 : (0 : Int) ≤ (o0.1 0).toInt ∧ (o0.1 0).toInt ≤ 0) (f_o0_3 : ((-1) : Int) ≤ (o0.1 3).toInt ∧ (o0.1 3).toInt ≤ (-1)) (f_o0_5 : (0 : Int) ≤ (o0.1 5).toInt ∧ (o0.1 5).toInt ≤ 0) (f_o0_36 : (0 : Int) ≤ (o0.1 36).toInt ∧ (o0.1 36).toInt ≤ 0) (f_o0_37 : (1 : Int) ≤ (o0.1 37).toInt ∧ (o0.1 37).toInt ≤ 9) (f_o0_38 : (1 : Int) ≤ (o0.1 38).toInt ∧ (o0.1 38).toInt ≤ 1) (f_o0_39 : (0 : Int) ≤ (o0.1 39).toInt ∧ (o0.1 39).toInt ≤ 8) (f_o0_40 : (0 : Int) ≤ (o0.1 40).toInt ∧ (o0.1 40).toInt ≤ 6) (f_o0_95 : (0 : Int) ≤ (o0.1 95).toInt ∧ (o0.1 95).toInt ≤ 0) : tt (fM_takeNames_M42_M14_M15 v2 o0) (QM_takeNames_M42_M14_M15 v2 o0) := by
  have H := hM_takeNames_M42_M14_M15 v2 o0 cfFU
  have hm : (123 : Int) ≤ (cfFU : Nat) := by decide
  have r_o0 : Fr (fr_M [] [42] []) o0 o0 := fr_rfl
  unfold fM_takeNames_M42_M14_M15 fM_takeNames_M42_M14_M15_0
  exact H.1 _ _ _ k_o0 r_o0 i_v2 (iv_w (a := 0) (b := 6) (by decide) (by decide) (show (0 : Int) ≤ (0 : Int32).toInt ∧ (0 : Int32).toInt ≤ 0 by decide)) f_o0_0 f_o0_3 f_o0_5 f_o0_36 f_o0_37 f_o0_38 f_o0_95 (show 0 + (6 - 0) * 20 < ((cfFU : Nat) : Int) by omega)
def QM_read (o0 : cf_O) (r : (Int32 × cf_O)) : Prop := ((0 : Int) ≤ r.1.toInt ∧ r.1.toInt ≤ 4) ∧ (okO I_M r.2) ∧ (Fr (fr_M [0, 3, 5, 6, 7, 10, 13, 16, 17, 29, 31, 36, 37, 38, 39, 40, 43, 64, 85] [8, 9, 11, 12, 14, 15, 18, 19, 20, 21, 22, 23, 24, 25, 26, 27, 28, 30, 32, 33, 34, 35, 41, 42, 44, 45, 46, 47] []) o0 r.2) ∧ ((0 : Int) ≤ (r.2.1 0).toInt ∧ (r.2.1 0).toInt ≤ 1) ∧ (Rf (r.2.2.1 22) (r.2.2.1 23) (r.2.2.1 19)) ∧ (Ch (r.2.1 64) (r.2.1 73) (r.2.1 39) (r.2.1 43) (r.2.2.1 74)) ∧ (Lmd (r.2.1 64).toInt (r.2.1 65).toInt) ∧ (Gx ((r.2.1 39).toInt + 1) (r.2.1 43).toInt (r.2.2.1 44) (r.2.2.1 45)) ∧ (No (r.2.1 40).toInt ((r.2.1 39).toInt + 1 + (r.2.1 43).toInt) (r.2.2.1 47)) ∧ (Hc (r.2.1 64).toInt ((r.2.1 39).toInt + 1) (r.2.1 43).toInt (r.2.1 65).toInt (r.2.2.1 44) (r.2.2.1 45)) ∧ True
def HM_read (yo0 : cf_O) (n : Nat) : Prop := (∀ (v1 : Int32) (v2 : Int32) (o0 : cf_O), (okO I_M o0) → (Fr (fr_M [0, 3, 5, 6, 7, 10, 13, 16, 17, 29, 31, 36, 37, 38, 39, 40, 43, 64, 85] [8, 9, 11, 12, 14, 15, 18, 19, 20, 21, 22, 23, 24, 25, 26, 27, 28, 30, 32, 33, 34, 35, 41, 42, 44, 45, 46, 47] []) yo0 o0) → ((0 : Int) ≤ v2.toInt ∧ v2.toInt ≤ 30) → ((0 : Int) ≤ (o0.1 0).toInt ∧ (o0.1 0).toInt ≤ 0) → ((0 : Int) ≤ (o0.1 95).toInt ∧ (o0.1 95).toInt ≤ 0) → (Tn (o0.1 17) (o0.2.1 19)) → (Rf (o0.2.1 22) (o0.2.1 23) (o0.2.1 19)) → (Ch (o0.1 64) (o0.1 73) (o0.1 39) (o0.1 43) (o0.2.1 74)) → (Lmd (o0.1 64).toInt (o0.1 65).toInt) → (Rd (o0.1 5).toInt v2.toInt (o0.1 17).toInt (o0.2.1 25) (o0.2.1 19)) → (Ri (o0.1 5).toInt (o0.1 17).toInt (o0.1 10).toInt (o0.2.1 25) (o0.2.1 19)) → (Gx ((o0.1 39).toInt + 1) (o0.1 43).toInt (o0.2.1 44) (o0.2.1 45)) → (No (o0.1 40).toInt ((o0.1 39).toInt + 1 + (o0.1 43).toInt) (o0.2.1 47)) → (Hc (o0.1 64).toInt ((o0.1 39).toInt + 1) (o0.1 43).toInt (o0.1 65).toInt (o0.2.1 44) (o0.2.1 45)) → 0 + (30 - v2.toInt) * 2 < (n : Int) → tt (gM_read n 0 v1 v2 o0) (QM_read yo0))
set_option maxHeartbeats 4000000 in
set_option maxRecDepth 100000 in
theorem tM_read_27 {yo0 : cf_O} {n : Nat} (H : HM_read yo0 n) (v1 : Int32) (v2 : Int32) (o0 : cf_O) (k_o0 : okO I_M o0) (r_o0 : Fr (fr_M [0, 3, 5, 6, 7, 10, 13, 16, 17, 29, 31, 36, 37, 38, 39, 40, 43, 64, 85] [8, 9, 11, 12, 14, 15, 18, 19, 20, 21, 22, 23, 24, 25, 26, 27, 28, 30, 32, 33, 34, 35, 41, 42, 44, 45, 46, 47] []) yo0 o0) (i_v2 : (0 : Int) ≤ v2.toInt ∧ v2.toInt ≤ 30) (f_o0_0 : (0 : Int) ≤ (o0.1 0).toInt ∧ (o0.1 0).toInt ≤ 0) (f_o0_95 : (0 : Int) ≤ (o0.1 95).toInt ∧ (o0.1 95).toInt ≤ 0) (x_0 : Tn (o0.1 17) (o0.2.1 19)) (x_1 : Rf (o0.2.1 22) (o0.2.1 23) (o0.2.1 19)) (x_2 : Ch (o0.1 64) (o0.1 73) (o0.1 39) (o0.1 43) (o0.2.1 74)) (x_3 : Lmd (o0.1 64).toInt (o0.1 65).toInt) (x_4 : Rd (o0.1 5).toInt v2.toInt (o0.1 17).toInt (o0.2.1 25) (o0.2.1 19)) (x_5 : Ri (o0.1 5).toInt (o0.1 17).toInt (o0.1 10).toInt (o0.2.1 25) (o0.2.1 19)) (x_6 : Gx ((o0.1 39).toInt + 1) (o0.1 43).toInt (o0.2.1 44) (o0.2.1 45)) (x_7 : No (o0.1 40).toInt ((o0.1 39).toInt + 1 + (o0.1 43).toInt) (o0.2.1 47)) (x_8 : Hc (o0.1 64).toInt ((o0.1 39).toInt + 1) (o0.1 43).toInt (o0.1 65).toInt (o0.2.1 44) (o0.2.1 45)) (hm : 0 + (30 - v2.toInt) * 2 ≤ (n : Int)) : tt (fM_read_27 (gM_read n) v1 v2 o0) (QM_read yo0) := by
  unfold fM_read_27
  have i_v1 := iv_top v1
  have g_o0_5 : (0 : Int) ≤ (o0.1 5).toInt ∧ (o0.1 5).toInt ≤ 4 := k_o0.1 5
  have g_o0_10 : (0 : Int) ≤ (o0.1 10).toInt ∧ (o0.1 10).toInt ≤ 8 := k_o0.1 10
  have g_o0_13 : (0 : Int) ≤ (o0.1 13).toInt ∧ (o0.1 13).toInt ≤ 6 := k_o0.1 13
  have g_o0_17 : (0 : Int) ≤ (o0.1 17).toInt ∧ (o0.1 17).toInt ≤ 30 := k_o0.1 17
  have g_o0_31 : (0 : Int) ≤ (o0.1 31).toInt ∧ (o0.1 31).toInt ≤ 200 := k_o0.1 31
  have g_o0_37 : (0 : Int) ≤ (o0.1 37).toInt ∧ (o0.1 37).toInt ≤ 9 := k_o0.1 37
  have g_o0_39 : (0 : Int) ≤ (o0.1 39).toInt ∧ (o0.1 39).toInt ≤ 8 := k_o0.1 39
  have g_o0_40 : (0 : Int) ≤ (o0.1 40).toInt ∧ (o0.1 40).toInt ≤ 6 := k_o0.1 40
  have g_o0_43 : (0 : Int) ≤ (o0.1 43).toInt ∧ (o0.1 43).toInt ≤ 200 := k_o0.1 43
  refine tt_if (fun c1 => ?_) (fun c1 => ?_)
  · have wc1 : (o0.1 17).toInt ≤ v2.toInt := c_le c1
    try unfold fM_read_67
    refine tt_if (fun c2 => ?_) (fun c2 => ?_)
    · have wc2 : (o0.1 5).toInt ≤ (0 : Int) := c_le c2
      have i3 : (0 : Int) ≤ (o0.1 5).toInt ∧ (o0.1 5).toInt ≤ 0 := nr_lel c2 (k_o0.1 5) (show (0 : Int) ≤ (0 : Int32).toInt ∧ (0 : Int32).toInt ≤ 0 by decide) (by decide) (by decide)
      have p4 : Gv (o0.1 17).toInt (o0.2.1 25) (o0.2.1 19) := by exact (x_4 (by omega)).1
      have p5 : Ac (o0.1 17).toInt (o0.2.1 25) (o0.2.1 19) := by exact fun t ht => (x_4 (by omega)).2 t (by omega)
      have p6 : Gi (o0.1 17).toInt (o0.1 10).toInt (o0.2.1 25) (o0.2.1 19) := by exact (show Ri _ _ _ _ _ by assumption) (by omega)
      refine tt_b (sM_build_ _ k_o0 f_o0_0 i3 f_o0_95 x_0 x_1 p4 p5 p6) (fun q7 hq7 => ?_)
      obtain ⟨k_q7, n_q7, f_q7_37, zq7_0, zq7_1, zq7_2, -⟩ := hq7
      have r_q7 := fr_tr r_o0 n_q7 rfl rfl rfl
      have f_q7_0 : (0 : Int) ≤ (q7.1 0).toInt ∧ (q7.1 0).toInt ≤ 0 := by rw [n_q7.1 0 rfl]; exact f_o0_0
      have f_q7_5 : (0 : Int) ≤ (q7.1 5).toInt ∧ (q7.1 5).toInt ≤ 0 := by rw [n_q7.1 5 rfl]; exact i3
      have f_q7_95 : (0 : Int) ≤ (q7.1 95).toInt ∧ (q7.1 95).toInt ≤ 0 := by rw [n_q7.1 95 rfl]; exact f_o0_95
      have e_q7_5 : (q7.1 5).toInt = (o0.1 5).toInt := congrArg Int32.toInt (n_q7.1 5 rfl)
      have e_q7_10 : (q7.1 10).toInt = (o0.1 10).toInt := congrArg Int32.toInt (n_q7.1 10 rfl)
      have g_q7_10 : (0 : Int) ≤ (q7.1 10).toInt ∧ (q7.1 10).toInt ≤ 8 := k_q7.1 10
      have e_q7_13 : (q7.1 13).toInt = (o0.1 13).toInt := congrArg Int32.toInt (n_q7.1 13 rfl)
      have g_q7_13 : (0 : Int) ≤ (q7.1 13).toInt ∧ (q7.1 13).toInt ≤ 6 := k_q7.1 13
      have e_q7_17 : (q7.1 17).toInt = (o0.1 17).toInt := congrArg Int32.toInt (n_q7.1 17 rfl)
      have g_q7_17 : (0 : Int) ≤ (q7.1 17).toInt ∧ (q7.1 17).toInt ≤ 30 := k_q7.1 17
      have g_q7_31 : (0 : Int) ≤ (q7.1 31).toInt ∧ (q7.1 31).toInt ≤ 200 := k_q7.1 31
      have e_q7_39 : (q7.1 39).toInt = (o0.1 39).toInt := congrArg Int32.toInt (n_q7.1 39 rfl)
      have g_q7_39 : (0 : Int) ≤ (q7.1 39).toInt ∧ (q7.1 39).toInt ≤ 8 := k_q7.1 39
      have e_q7_40 : (q7.1 40).toInt = (o0.1 40).toInt := congrArg Int32.toInt (n_q7.1 40 rfl)
      have g_q7_40 : (0 : Int) ≤ (q7.1 40).toInt ∧ (q7.1 40).toInt ≤ 6 := k_q7.1 40
      have e_q7_43 : (q7.1 43).toInt = (o0.1 43).toInt := congrArg Int32.toInt (n_q7.1 43 rfl)
      have g_q7_43 : (0 : Int) ≤ (q7.1 43).toInt ∧ (q7.1 43).toInt ≤ 200 := k_q7.1 43
      have zq7_2 : (q7.1 37).toInt = (q7.1 10).toInt + 1 := zq7_2
      have u8 : Tn (q7.1 17) (q7.2.1 19) := by rw [n_q7.1 17 rfl, n_q7.2.1 19 rfl]; exact x_0
      have u9 : Rf (q7.2.1 22) (q7.2.1 23) (q7.2.1 19) := by rw [n_q7.2.1 19 rfl, n_q7.2.1 22 rfl, n_q7.2.1 23 rfl]; exact x_1
      have u10 : Ch (q7.1 64) (q7.1 73) (q7.1 39) (q7.1 43) (q7.2.1 74) := by rw [n_q7.1 39 rfl, n_q7.1 43 rfl, n_q7.1 64 rfl, n_q7.1 73 rfl, n_q7.2.1 74 rfl]; exact x_2
      have u11 : Lmd (q7.1 64).toInt (q7.1 65).toInt := by rw [n_q7.1 64 rfl, n_q7.1 65 rfl]; exact x_3
      have u12 : Rd (q7.1 5).toInt v2.toInt (q7.1 17).toInt (q7.2.1 25) (q7.2.1 19) := by rw [n_q7.1 5 rfl, n_q7.1 17 rfl, n_q7.2.1 19 rfl, n_q7.2.1 25 rfl]; exact x_4
      have u13 : Ri (q7.1 5).toInt (q7.1 17).toInt (q7.1 10).toInt (q7.2.1 25) (q7.2.1 19) := by rw [n_q7.1 5 rfl, n_q7.1 10 rfl, n_q7.1 17 rfl, n_q7.2.1 19 rfl, n_q7.2.1 25 rfl]; exact x_5
      have u14 : Gx ((q7.1 39).toInt + 1) (q7.1 43).toInt (q7.2.1 44) (q7.2.1 45) := by rw [n_q7.1 39 rfl, n_q7.1 43 rfl, n_q7.2.1 44 rfl, n_q7.2.1 45 rfl]; exact x_6
      have u15 : No (q7.1 40).toInt ((q7.1 39).toInt + 1 + (q7.1 43).toInt) (q7.2.1 47) := by rw [n_q7.1 39 rfl, n_q7.1 40 rfl, n_q7.1 43 rfl, n_q7.2.1 47 rfl]; exact x_7
      have u16 : Hc (q7.1 64).toInt ((q7.1 39).toInt + 1) (q7.1 43).toInt (q7.1 65).toInt (q7.2.1 44) (q7.2.1 45) := by rw [n_q7.1 39 rfl, n_q7.1 43 rfl, n_q7.1 64 rfl, n_q7.1 65 rfl, n_q7.2.1 44 rfl, n_q7.2.1 45 rfl]; exact x_8
      try unfold fM_refuse
      try unfold fM_refuse_0
      refine tt_bif (fun c17 => ?_) (fun c17 => ?_)
      · have wc17 : (q7.1 36).toInt = (0 : Int) := c_eq c17
        have i18 : (0 : Int) ≤ (q7.1 36).toInt ∧ (q7.1 36).toInt ≤ 0 := nr_eql c17 (k_q7.1 36) (show (0 : Int) ≤ (0 : Int32).toInt ∧ (0 : Int32).toInt ≤ 0 by decide) (by decide) (by decide)
        refine tt_bif (fun c19 => ?_) (fun c19 => ?_)
        · have wc19 : (0 : Int) = (0 : Int) := c_eq c19
          refine tt_bif (fun c20 => ?_) (fun c20 => ?_)
          · have wc20 : (0 : Int) = (0 : Int) := c_eq c20
            try unfold fM_refuse_26
            refine tt_bko ?_
            have k21 := ok_fp (k := 0) (v := 0) k_q7 (iv_w (a := 0) (b := 3) (by decide) (by decide) (show (0 : Int) ≤ (0 : Int32).toInt ∧ (0 : Int32).toInt ≤ 0 by decide))
            have r22 := fr_fp (k := 0) (v := 0) r_q7 rfl
            refine tt_bif (fun c23 => ?_) (fun c23 => ?_)
            · have wc23 : (0 : Int) ≤ (0 : Int) := c_le c23
              try unfold fM_refuse_41
              refine tt_bw (iv_b (show (0 : Int) ≤ (0 : Int32).toInt ∧ (0 : Int32).toInt ≤ 0 by decide) (by decide) (by decide)) ?_
              refine tt_bs ?_
              refine tt_if (fun c24 => ?_) (fun c24 => ?_)
              · have wc24 : (0 : Int) = (0 : Int) := c_eq c24
                refine tt_ko ?_
                have k25 := ok_fp (k := 3) (v := (-1)) k21 (iv_w (a := (-2147483648)) (b := 2147483647) (by decide) (by decide) (show ((-1) : Int) ≤ ((-1) : Int32).toInt ∧ ((-1) : Int32).toInt ≤ (-1) by decide))
                have r26 := fr_fp (k := 3) (v := (-1)) r22 rfl
                refine tt_ko ?_
                have k27 := ok_fp (k := 38) (v := 1) k25 (iv_w (a := 0) (b := 1) (by decide) (by decide) (show (1 : Int) ≤ (1 : Int32).toInt ∧ (1 : Int32).toInt ≤ 1 by decide))
                have r28 := fr_fp (k := 38) (v := 1) r26 rfl
                refine tt_ko ?_
                have k29 := ok_fp (k := 39) (v := (q7.1 10)) k27 (k_q7.1 10)
                have r30 := fr_fp (k := 39) (v := (q7.1 10)) r28 rfl
                refine tt_ko ?_
                have k31 := ok_fp (k := 40) (v := (q7.1 13)) k29 (k_q7.1 13)
                have r32 := fr_fp (k := 40) (v := (q7.1 13)) r30 rfl
                refine tt_b (sM_takeNames_M41_M11_M12 _ _ k31 (k_q7.1 10) (show (0 : Int) ≤ (0 : Int32).toInt ∧ (0 : Int32).toInt ≤ 0 by decide) (show ((-1) : Int) ≤ ((-1) : Int32).toInt ∧ ((-1) : Int32).toInt ≤ (-1) by decide) f_q7_5 i18 f_q7_37 (show (1 : Int) ≤ (1 : Int32).toInt ∧ (1 : Int32).toInt ≤ 1 by decide) (k_q7.1 10) (k_q7.1 13) f_q7_95) (fun q33 hq33 => ?_)
                obtain ⟨k_q33, n_q33, -⟩ := hq33
                have r_q33 := fr_tr r32 n_q33 rfl rfl rfl
                have f_q33_0 : (0 : Int) ≤ (q33.1 0).toInt ∧ (q33.1 0).toInt ≤ 0 := by rw [n_q33.1 0 rfl]; exact (show (0 : Int) ≤ (0 : Int32).toInt ∧ (0 : Int32).toInt ≤ 0 by decide)
                have f_q33_3 : ((-1) : Int) ≤ (q33.1 3).toInt ∧ (q33.1 3).toInt ≤ (-1) := by rw [n_q33.1 3 rfl]; exact (show ((-1) : Int) ≤ ((-1) : Int32).toInt ∧ ((-1) : Int32).toInt ≤ (-1) by decide)
                have f_q33_36 : (0 : Int) ≤ (q33.1 36).toInt ∧ (q33.1 36).toInt ≤ 0 := by rw [n_q33.1 36 rfl]; exact i18
                have f_q33_37 : (1 : Int) ≤ (q33.1 37).toInt ∧ (q33.1 37).toInt ≤ 9 := by rw [n_q33.1 37 rfl]; exact f_q7_37
                have f_q33_38 : (1 : Int) ≤ (q33.1 38).toInt ∧ (q33.1 38).toInt ≤ 1 := by rw [n_q33.1 38 rfl]; exact (show (1 : Int) ≤ (1 : Int32).toInt ∧ (1 : Int32).toInt ≤ 1 by decide)
                have f_q33_39 : (0 : Int) ≤ (q33.1 39).toInt ∧ (q33.1 39).toInt ≤ 8 := by rw [n_q33.1 39 rfl]; exact (k_q7.1 10)
                have f_q33_40 : (0 : Int) ≤ (q33.1 40).toInt ∧ (q33.1 40).toInt ≤ 6 := by rw [n_q33.1 40 rfl]; exact (k_q7.1 13)
                have f_q33_5 : (0 : Int) ≤ (q33.1 5).toInt ∧ (q33.1 5).toInt ≤ 0 := by rw [n_q33.1 5 rfl]; exact f_q7_5
                have f_q33_95 : (0 : Int) ≤ (q33.1 95).toInt ∧ (q33.1 95).toInt ≤ 0 := by rw [n_q33.1 95 rfl]; exact f_q7_95
                have e_q33_5 : (q33.1 5).toInt = (q7.1 5).toInt := congrArg Int32.toInt (n_q33.1 5 rfl)
                have e_q33_10 : (q33.1 10).toInt = (q7.1 10).toInt := congrArg Int32.toInt (n_q33.1 10 rfl)
                have g_q33_10 : (0 : Int) ≤ (q33.1 10).toInt ∧ (q33.1 10).toInt ≤ 8 := k_q33.1 10
                have e_q33_13 : (q33.1 13).toInt = (q7.1 13).toInt := congrArg Int32.toInt (n_q33.1 13 rfl)
                have g_q33_13 : (0 : Int) ≤ (q33.1 13).toInt ∧ (q33.1 13).toInt ≤ 6 := k_q33.1 13
                have e_q33_17 : (q33.1 17).toInt = (q7.1 17).toInt := congrArg Int32.toInt (n_q33.1 17 rfl)
                have g_q33_17 : (0 : Int) ≤ (q33.1 17).toInt ∧ (q33.1 17).toInt ≤ 30 := k_q33.1 17
                have e_q33_31 : (q33.1 31).toInt = (q7.1 31).toInt := congrArg Int32.toInt (n_q33.1 31 rfl)
                have g_q33_31 : (0 : Int) ≤ (q33.1 31).toInt ∧ (q33.1 31).toInt ≤ 200 := k_q33.1 31
                have e_q33_37 : (q33.1 37).toInt = (q7.1 37).toInt := congrArg Int32.toInt (n_q33.1 37 rfl)
                have e_q33_39 : (q33.1 39).toInt = (q7.1 10).toInt := congrArg Int32.toInt (n_q33.1 39 rfl)
                have e_q33_40 : (q33.1 40).toInt = (q7.1 13).toInt := congrArg Int32.toInt (n_q33.1 40 rfl)
                have e_q33_43 : (q33.1 43).toInt = (q7.1 43).toInt := congrArg Int32.toInt (n_q33.1 43 rfl)
                have g_q33_43 : (0 : Int) ≤ (q33.1 43).toInt ∧ (q33.1 43).toInt ≤ 200 := k_q33.1 43
                have u34 : Gx (q33.1 37).toInt (q33.1 31).toInt (q33.2.1 32) (q33.2.1 33) := by rw [n_q33.1 31 rfl, n_q33.1 37 rfl, n_q33.2.1 32 rfl, n_q33.2.1 33 rfl]; exact zq7_0
                have u35 : No (q33.1 13).toInt ((q33.1 37).toInt + (q33.1 31).toInt) (q33.2.1 35) := by rw [n_q33.1 13 rfl, n_q33.1 31 rfl, n_q33.1 37 rfl, n_q33.2.1 35 rfl]; exact zq7_1
                have u36 : Tn (q33.1 17) (q33.2.1 19) := by rw [n_q33.1 17 rfl, n_q33.2.1 19 rfl]; exact u8
                have u37 : Rf (q33.2.1 22) (q33.2.1 23) (q33.2.1 19) := by rw [n_q33.2.1 19 rfl, n_q33.2.1 22 rfl, n_q33.2.1 23 rfl]; exact u9
                have u38 : Lmd (q33.1 64).toInt (q33.1 65).toInt := by rw [n_q33.1 64 rfl, n_q33.1 65 rfl]; exact u11
                have u39 : Rd (q33.1 5).toInt v2.toInt (q33.1 17).toInt (q33.2.1 25) (q33.2.1 19) := by rw [n_q33.1 5 rfl, n_q33.1 17 rfl, n_q33.2.1 19 rfl, n_q33.2.1 25 rfl]; exact u12
                have u40 : Ri (q33.1 5).toInt (q33.1 17).toInt (q33.1 10).toInt (q33.2.1 25) (q33.2.1 19) := by rw [n_q33.1 5 rfl, n_q33.1 10 rfl, n_q33.1 17 rfl, n_q33.2.1 19 rfl, n_q33.2.1 25 rfl]; exact u13
                refine tt_b (sM_takeNames_M42_M14_M15 _ _ k_q33 f_q33_40 f_q33_0 f_q33_3 f_q33_5 f_q33_36 f_q33_37 f_q33_38 f_q33_39 f_q33_40 f_q33_95) (fun q41 hq41 => ?_)
                obtain ⟨k_q41, n_q41, -⟩ := hq41
                have r_q41 := fr_tr r_q33 n_q41 rfl rfl rfl
                have f_q41_0 : (0 : Int) ≤ (q41.1 0).toInt ∧ (q41.1 0).toInt ≤ 0 := by rw [n_q41.1 0 rfl]; exact f_q33_0
                have f_q41_3 : ((-1) : Int) ≤ (q41.1 3).toInt ∧ (q41.1 3).toInt ≤ (-1) := by rw [n_q41.1 3 rfl]; exact f_q33_3
                have f_q41_36 : (0 : Int) ≤ (q41.1 36).toInt ∧ (q41.1 36).toInt ≤ 0 := by rw [n_q41.1 36 rfl]; exact f_q33_36
                have f_q41_37 : (1 : Int) ≤ (q41.1 37).toInt ∧ (q41.1 37).toInt ≤ 9 := by rw [n_q41.1 37 rfl]; exact f_q33_37
                have f_q41_38 : (1 : Int) ≤ (q41.1 38).toInt ∧ (q41.1 38).toInt ≤ 1 := by rw [n_q41.1 38 rfl]; exact f_q33_38
                have f_q41_39 : (0 : Int) ≤ (q41.1 39).toInt ∧ (q41.1 39).toInt ≤ 8 := by rw [n_q41.1 39 rfl]; exact f_q33_39
                have f_q41_40 : (0 : Int) ≤ (q41.1 40).toInt ∧ (q41.1 40).toInt ≤ 6 := by rw [n_q41.1 40 rfl]; exact f_q33_40
                have f_q41_5 : (0 : Int) ≤ (q41.1 5).toInt ∧ (q41.1 5).toInt ≤ 0 := by rw [n_q41.1 5 rfl]; exact f_q33_5
                have f_q41_95 : (0 : Int) ≤ (q41.1 95).toInt ∧ (q41.1 95).toInt ≤ 0 := by rw [n_q41.1 95 rfl]; exact f_q33_95
                have e_q41_5 : (q41.1 5).toInt = (q33.1 5).toInt := congrArg Int32.toInt (n_q41.1 5 rfl)
                have e_q41_10 : (q41.1 10).toInt = (q33.1 10).toInt := congrArg Int32.toInt (n_q41.1 10 rfl)
                have g_q41_10 : (0 : Int) ≤ (q41.1 10).toInt ∧ (q41.1 10).toInt ≤ 8 := k_q41.1 10
                have e_q41_13 : (q41.1 13).toInt = (q33.1 13).toInt := congrArg Int32.toInt (n_q41.1 13 rfl)
                have g_q41_13 : (0 : Int) ≤ (q41.1 13).toInt ∧ (q41.1 13).toInt ≤ 6 := k_q41.1 13
                have e_q41_17 : (q41.1 17).toInt = (q33.1 17).toInt := congrArg Int32.toInt (n_q41.1 17 rfl)
                have g_q41_17 : (0 : Int) ≤ (q41.1 17).toInt ∧ (q41.1 17).toInt ≤ 30 := k_q41.1 17
                have e_q41_31 : (q41.1 31).toInt = (q33.1 31).toInt := congrArg Int32.toInt (n_q41.1 31 rfl)
                have g_q41_31 : (0 : Int) ≤ (q41.1 31).toInt ∧ (q41.1 31).toInt ≤ 200 := k_q41.1 31
                have e_q41_37 : (q41.1 37).toInt = (q33.1 37).toInt := congrArg Int32.toInt (n_q41.1 37 rfl)
                have e_q41_39 : (q41.1 39).toInt = (q33.1 39).toInt := congrArg Int32.toInt (n_q41.1 39 rfl)
                have e_q41_40 : (q41.1 40).toInt = (q33.1 40).toInt := congrArg Int32.toInt (n_q41.1 40 rfl)
                have e_q41_43 : (q41.1 43).toInt = (q33.1 43).toInt := congrArg Int32.toInt (n_q41.1 43 rfl)
                have g_q41_43 : (0 : Int) ≤ (q41.1 43).toInt ∧ (q41.1 43).toInt ≤ 200 := k_q41.1 43
                have u42 : Gx (q41.1 37).toInt (q41.1 31).toInt (q41.2.1 32) (q41.2.1 33) := by rw [n_q41.1 31 rfl, n_q41.1 37 rfl, n_q41.2.1 32 rfl, n_q41.2.1 33 rfl]; exact u34
                have u43 : No (q41.1 13).toInt ((q41.1 37).toInt + (q41.1 31).toInt) (q41.2.1 35) := by rw [n_q41.1 13 rfl, n_q41.1 31 rfl, n_q41.1 37 rfl, n_q41.2.1 35 rfl]; exact u35
                have u44 : Tn (q41.1 17) (q41.2.1 19) := by rw [n_q41.1 17 rfl, n_q41.2.1 19 rfl]; exact u36
                have u45 : Rf (q41.2.1 22) (q41.2.1 23) (q41.2.1 19) := by rw [n_q41.2.1 19 rfl, n_q41.2.1 22 rfl, n_q41.2.1 23 rfl]; exact u37
                have u46 : Lmd (q41.1 64).toInt (q41.1 65).toInt := by rw [n_q41.1 64 rfl, n_q41.1 65 rfl]; exact u38
                have u47 : Rd (q41.1 5).toInt v2.toInt (q41.1 17).toInt (q41.2.1 25) (q41.2.1 19) := by rw [n_q41.1 5 rfl, n_q41.1 17 rfl, n_q41.2.1 19 rfl, n_q41.2.1 25 rfl]; exact u39
                have u48 : Ri (q41.1 5).toInt (q41.1 17).toInt (q41.1 10).toInt (q41.2.1 25) (q41.2.1 19) := by rw [n_q41.1 5 rfl, n_q41.1 10 rfl, n_q41.1 17 rfl, n_q41.2.1 19 rfl, n_q41.2.1 25 rfl]; exact u40
                have p49 : No (q41.1 40).toInt ((q41.1 37).toInt + (q41.1 31).toInt) (q41.2.1 35) := by exact No_w (by assumption) (by omega) (by omega)
                refine tt_b (sM_take _ k_q41 f_q41_0 f_q41_36 f_q41_37 f_q41_38 f_q41_95 u42 p49) (fun q50 hq50 => ?_)
                obtain ⟨k_q50, n_q50, f_q50_64, f_q50_85, zq50_0, zq50_1, zq50_2, -⟩ := hq50
                have r_q50 := fr_tr r_q41 n_q50 rfl rfl rfl
                have f_q50_0 : (0 : Int) ≤ (q50.1 0).toInt ∧ (q50.1 0).toInt ≤ 0 := by rw [n_q50.1 0 rfl]; exact f_q41_0
                have f_q50_3 : ((-1) : Int) ≤ (q50.1 3).toInt ∧ (q50.1 3).toInt ≤ (-1) := by rw [n_q50.1 3 rfl]; exact f_q41_3
                have f_q50_36 : (0 : Int) ≤ (q50.1 36).toInt ∧ (q50.1 36).toInt ≤ 0 := by rw [n_q50.1 36 rfl]; exact f_q41_36
                have f_q50_37 : (1 : Int) ≤ (q50.1 37).toInt ∧ (q50.1 37).toInt ≤ 9 := by rw [n_q50.1 37 rfl]; exact f_q41_37
                have f_q50_38 : (1 : Int) ≤ (q50.1 38).toInt ∧ (q50.1 38).toInt ≤ 1 := by rw [n_q50.1 38 rfl]; exact f_q41_38
                have f_q50_39 : (0 : Int) ≤ (q50.1 39).toInt ∧ (q50.1 39).toInt ≤ 8 := by rw [n_q50.1 39 rfl]; exact f_q41_39
                have f_q50_40 : (0 : Int) ≤ (q50.1 40).toInt ∧ (q50.1 40).toInt ≤ 6 := by rw [n_q50.1 40 rfl]; exact f_q41_40
                have f_q50_5 : (0 : Int) ≤ (q50.1 5).toInt ∧ (q50.1 5).toInt ≤ 0 := by rw [n_q50.1 5 rfl]; exact f_q41_5
                have f_q50_95 : (0 : Int) ≤ (q50.1 95).toInt ∧ (q50.1 95).toInt ≤ 0 := by rw [n_q50.1 95 rfl]; exact f_q41_95
                have e_q50_5 : (q50.1 5).toInt = (q41.1 5).toInt := congrArg Int32.toInt (n_q50.1 5 rfl)
                have e_q50_10 : (q50.1 10).toInt = (q41.1 10).toInt := congrArg Int32.toInt (n_q50.1 10 rfl)
                have g_q50_10 : (0 : Int) ≤ (q50.1 10).toInt ∧ (q50.1 10).toInt ≤ 8 := k_q50.1 10
                have e_q50_13 : (q50.1 13).toInt = (q41.1 13).toInt := congrArg Int32.toInt (n_q50.1 13 rfl)
                have g_q50_13 : (0 : Int) ≤ (q50.1 13).toInt ∧ (q50.1 13).toInt ≤ 6 := k_q50.1 13
                have e_q50_17 : (q50.1 17).toInt = (q41.1 17).toInt := congrArg Int32.toInt (n_q50.1 17 rfl)
                have g_q50_17 : (0 : Int) ≤ (q50.1 17).toInt ∧ (q50.1 17).toInt ≤ 30 := k_q50.1 17
                have e_q50_31 : (q50.1 31).toInt = (q41.1 31).toInt := congrArg Int32.toInt (n_q50.1 31 rfl)
                have g_q50_31 : (0 : Int) ≤ (q50.1 31).toInt ∧ (q50.1 31).toInt ≤ 200 := k_q50.1 31
                have e_q50_37 : (q50.1 37).toInt = (q41.1 37).toInt := congrArg Int32.toInt (n_q50.1 37 rfl)
                have e_q50_39 : (q50.1 39).toInt = (q41.1 39).toInt := congrArg Int32.toInt (n_q50.1 39 rfl)
                have e_q50_40 : (q50.1 40).toInt = (q41.1 40).toInt := congrArg Int32.toInt (n_q50.1 40 rfl)
                have g_q50_43 : (0 : Int) ≤ (q50.1 43).toInt ∧ (q50.1 43).toInt ≤ 200 := k_q50.1 43
                have zq50_0 : (q50.1 64).toInt = 0 := zq50_0
                have u51 : Gx (q50.1 37).toInt (q50.1 31).toInt (q50.2.1 32) (q50.2.1 33) := by rw [n_q50.1 31 rfl, n_q50.1 37 rfl, n_q50.2.1 32 rfl, n_q50.2.1 33 rfl]; exact u42
                have u52 : No (q50.1 13).toInt ((q50.1 37).toInt + (q50.1 31).toInt) (q50.2.1 35) := by rw [n_q50.1 13 rfl, n_q50.1 31 rfl, n_q50.1 37 rfl, n_q50.2.1 35 rfl]; exact u43
                have u53 : Tn (q50.1 17) (q50.2.1 19) := by rw [n_q50.1 17 rfl, n_q50.2.1 19 rfl]; exact u44
                have u54 : Rf (q50.2.1 22) (q50.2.1 23) (q50.2.1 19) := by rw [n_q50.2.1 19 rfl, n_q50.2.1 22 rfl, n_q50.2.1 23 rfl]; exact u45
                have u55 : Rd (q50.1 5).toInt v2.toInt (q50.1 17).toInt (q50.2.1 25) (q50.2.1 19) := by rw [n_q50.1 5 rfl, n_q50.1 17 rfl, n_q50.2.1 19 rfl, n_q50.2.1 25 rfl]; exact u47
                have u56 : Ri (q50.1 5).toInt (q50.1 17).toInt (q50.1 10).toInt (q50.2.1 25) (q50.2.1 19) := by rw [n_q50.1 5 rfl, n_q50.1 10 rfl, n_q50.1 17 rfl, n_q50.2.1 19 rfl, n_q50.2.1 25 rfl]; exact u48
                have p57 : Ch (q50.1 64) (q50.1 73) (q50.1 39) (q50.1 43) (q50.2.1 74) := by exact fun hz => absurd hz (by omega)
                have p58 : Lmd (q50.1 64).toInt (q50.1 65).toInt := by first | assumption | exact lmd_i (by omega)
                have p59 : Gx ((q50.1 39).toInt + 1) (q50.1 43).toInt (q50.2.1 44) (q50.2.1 45) := by exact Gx_b (by assumption) (by omega)
                have p60 : No (q50.1 40).toInt ((q50.1 39).toInt + 1 + (q50.1 43).toInt) (q50.2.1 47) := by exact No_w (by assumption) (by omega) (by omega)
                have p61 : Hc (q50.1 64).toInt ((q50.1 39).toInt + 1) (q50.1 43).toInt (q50.1 65).toInt (q50.2.1 44) (q50.2.1 45) := by first | assumption | exact hc_0 (by omega)
                exact tt_some ⟨(iv_w (a := 0) (b := 4) (by decide) (by decide) (show (0 : Int) ≤ (0 : Int32).toInt ∧ (0 : Int32).toInt ≤ 0 by decide)), k_q50, r_q50, (iv_w (a := 0) (b := 1) (by decide) (by decide) f_q50_0), u54, p57, p58, p59, p60, p61, trivial⟩
              · have wc24 : ¬ (0 : Int) = (0 : Int) := c_ne c24
                exact (dd_ne c24 (show (0 : Int) ≤ (0 : Int32).toInt ∧ (0 : Int32).toInt ≤ 0 by decide) (show (0 : Int) ≤ (0 : Int32).toInt ∧ (0 : Int32).toInt ≤ 0 by decide)).elim
            · have wc23 : (0 : Int) < (0 : Int) := c_nle c23
              exact (dd_nle c23 (show (0 : Int) ≤ (0 : Int32).toInt ∧ (0 : Int32).toInt ≤ 0 by decide) (show (0 : Int) ≤ (0 : Int32).toInt ∧ (0 : Int32).toInt ≤ 0 by decide) (by decide)).elim
          · have wc20 : ¬ (0 : Int) = (0 : Int) := c_ne c20
            exact (dd_ne c20 (show (0 : Int) ≤ (0 : Int32).toInt ∧ (0 : Int32).toInt ≤ 0 by decide) (show (0 : Int) ≤ (0 : Int32).toInt ∧ (0 : Int32).toInt ≤ 0 by decide)).elim
        · have wc19 : ¬ (0 : Int) = (0 : Int) := c_ne c19
          exact (dd_ne c19 (show (0 : Int) ≤ (0 : Int32).toInt ∧ (0 : Int32).toInt ≤ 0 by decide) (show (0 : Int) ≤ (0 : Int32).toInt ∧ (0 : Int32).toInt ≤ 0 by decide)).elim
      · have wc17 : ¬ (q7.1 36).toInt = (0 : Int) := c_ne c17
        have i62 : (1 : Int) ≤ (q7.1 36).toInt ∧ (q7.1 36).toInt ≤ 1 := nr_nela c17 (k_q7.1 36) (show (0 : Int) ≤ (0 : Int32).toInt ∧ (0 : Int32).toInt ≤ 0 by decide) (by decide) (by decide)
        try unfold fM_refuse_26
        refine tt_bko ?_
        have k63 := ok_fp (k := 0) (v := 1) k_q7 (iv_w (a := 0) (b := 3) (by decide) (by decide) (show (1 : Int) ≤ (1 : Int32).toInt ∧ (1 : Int32).toInt ≤ 1 by decide))
        have r64 := fr_fp (k := 0) (v := 1) r_q7 rfl
        refine tt_bif (fun c65 => ?_) (fun c65 => ?_)
        · have wc65 : (1 : Int) ≤ (0 : Int) := c_le c65
          exact (dd_le c65 (show (1 : Int) ≤ (1 : Int32).toInt ∧ (1 : Int32).toInt ≤ 1 by decide) (show (0 : Int) ≤ (0 : Int32).toInt ∧ (0 : Int32).toInt ≤ 0 by decide) (by decide)).elim
        · have wc65 : (0 : Int) < (1 : Int) := c_nle c65
          try unfold fM_refuse_41
          refine tt_bw (iv_b (show (1 : Int) ≤ (1 : Int32).toInt ∧ (1 : Int32).toInt ≤ 1 by decide) (by decide) (by decide)) ?_
          refine tt_bs ?_
          refine tt_if (fun c66 => ?_) (fun c66 => ?_)
          · have wc66 : (1 : Int) = (0 : Int) := c_eq c66
            exact (dd_eq c66 (show (1 : Int) ≤ (1 : Int32).toInt ∧ (1 : Int32).toInt ≤ 1 by decide) (show (0 : Int) ≤ (0 : Int32).toInt ∧ (0 : Int32).toInt ≤ 0 by decide) (by decide)).elim
          · have wc66 : ¬ (1 : Int) = (0 : Int) := c_ne c66
            refine tt_ko ?_
            have k67 := ok_fp (k := 6) (v := v1) k63 (iv_top v1)
            have r68 := fr_fp (k := 6) (v := v1) r64 rfl
            exact tt_some ⟨(iv_w (a := 0) (b := 4) (by decide) (by decide) (show (0 : Int) ≤ (0 : Int32).toInt ∧ (0 : Int32).toInt ≤ 0 by decide)), k67, r68, (iv_w (a := 0) (b := 1) (by decide) (by decide) (show (1 : Int) ≤ (1 : Int32).toInt ∧ (1 : Int32).toInt ≤ 1 by decide)), u9, u10, u11, u14, u15, u16, trivial⟩
    · have wc2 : (0 : Int) < (o0.1 5).toInt := c_nle c2
      have i69 : (1 : Int) ≤ (o0.1 5).toInt ∧ (o0.1 5).toInt ≤ 4 := nr_nler c2 (show (0 : Int) ≤ (0 : Int32).toInt ∧ (0 : Int32).toInt ≤ 0 by decide) (k_o0.1 5) (by decide) (by decide)
      refine tt_ko ?_
      have k70 := ok_fp (k := 3) (v := (o0.1 6)) k_o0 (k_o0.1 6)
      have r71 := fr_fp (k := 3) (v := (o0.1 6)) r_o0 rfl
      exact tt_some ⟨(iv_w (a := 0) (b := 4) (by decide) (by decide) i69), k70, r71, (iv_w (a := 0) (b := 1) (by decide) (by decide) f_o0_0), x_1, x_2, x_3, x_6, x_7, x_8, trivial⟩
  · have wc1 : v2.toInt < (o0.1 17).toInt := c_nle c1
    have i72 : (0 : Int) ≤ v2.toInt ∧ v2.toInt ≤ 29 := nr_nlel c1 i_v2 (k_o0.1 17) (by decide) (by decide)
    have i73 : (1 : Int) ≤ (o0.1 17).toInt ∧ (o0.1 17).toInt ≤ 30 := nr_nler c1 i_v2 (k_o0.1 17) (by decide) (by decide)
    refine tt_if (fun c74 => ?_) (fun c74 => ?_)
    · have wc74 : (o0.1 5).toInt = (0 : Int) := c_eq c74
      have i75 : (0 : Int) ≤ (o0.1 5).toInt ∧ (o0.1 5).toInt ≤ 0 := nr_eql c74 (k_o0.1 5) (show (0 : Int) ≤ (0 : Int32).toInt ∧ (0 : Int32).toInt ≤ 0 by decide) (by decide) (by decide)
      refine tt_b (sM_turns _ _ k_o0 i72 f_o0_0 i75 i73 f_o0_95 (show v2.toInt < (o0.1 17).toInt by omega)) (fun q76 hq76 => ?_)
      obtain ⟨i_q76, k_q76_2, n_q76_2, zq76_0, -⟩ := hq76
      have r_q76_2 := fr_tr r_o0 n_q76_2 rfl rfl rfl
      have f_q76_2_0 : (0 : Int) ≤ (q76.2.1 0).toInt ∧ (q76.2.1 0).toInt ≤ 0 := by rw [n_q76_2.1 0 rfl]; exact f_o0_0
      have f_q76_2_17 : (1 : Int) ≤ (q76.2.1 17).toInt ∧ (q76.2.1 17).toInt ≤ 30 := by rw [n_q76_2.1 17 rfl]; exact i73
      have f_q76_2_5 : (0 : Int) ≤ (q76.2.1 5).toInt ∧ (q76.2.1 5).toInt ≤ 0 := by rw [n_q76_2.1 5 rfl]; exact i75
      have f_q76_2_95 : (0 : Int) ≤ (q76.2.1 95).toInt ∧ (q76.2.1 95).toInt ≤ 0 := by rw [n_q76_2.1 95 rfl]; exact f_o0_95
      have e_q76_2_5 : (q76.2.1 5).toInt = (o0.1 5).toInt := congrArg Int32.toInt (n_q76_2.1 5 rfl)
      have e_q76_2_10 : (q76.2.1 10).toInt = (o0.1 10).toInt := congrArg Int32.toInt (n_q76_2.1 10 rfl)
      have g_q76_2_10 : (0 : Int) ≤ (q76.2.1 10).toInt ∧ (q76.2.1 10).toInt ≤ 8 := k_q76_2.1 10
      have e_q76_2_13 : (q76.2.1 13).toInt = (o0.1 13).toInt := congrArg Int32.toInt (n_q76_2.1 13 rfl)
      have g_q76_2_13 : (0 : Int) ≤ (q76.2.1 13).toInt ∧ (q76.2.1 13).toInt ≤ 6 := k_q76_2.1 13
      have e_q76_2_17 : (q76.2.1 17).toInt = (o0.1 17).toInt := congrArg Int32.toInt (n_q76_2.1 17 rfl)
      have e_q76_2_31 : (q76.2.1 31).toInt = (o0.1 31).toInt := congrArg Int32.toInt (n_q76_2.1 31 rfl)
      have g_q76_2_31 : (0 : Int) ≤ (q76.2.1 31).toInt ∧ (q76.2.1 31).toInt ≤ 200 := k_q76_2.1 31
      have e_q76_2_37 : (q76.2.1 37).toInt = (o0.1 37).toInt := congrArg Int32.toInt (n_q76_2.1 37 rfl)
      have g_q76_2_37 : (0 : Int) ≤ (q76.2.1 37).toInt ∧ (q76.2.1 37).toInt ≤ 9 := k_q76_2.1 37
      have e_q76_2_39 : (q76.2.1 39).toInt = (o0.1 39).toInt := congrArg Int32.toInt (n_q76_2.1 39 rfl)
      have g_q76_2_39 : (0 : Int) ≤ (q76.2.1 39).toInt ∧ (q76.2.1 39).toInt ≤ 8 := k_q76_2.1 39
      have e_q76_2_40 : (q76.2.1 40).toInt = (o0.1 40).toInt := congrArg Int32.toInt (n_q76_2.1 40 rfl)
      have g_q76_2_40 : (0 : Int) ≤ (q76.2.1 40).toInt ∧ (q76.2.1 40).toInt ≤ 6 := k_q76_2.1 40
      have e_q76_2_43 : (q76.2.1 43).toInt = (o0.1 43).toInt := congrArg Int32.toInt (n_q76_2.1 43 rfl)
      have g_q76_2_43 : (0 : Int) ≤ (q76.2.1 43).toInt ∧ (q76.2.1 43).toInt ≤ 200 := k_q76_2.1 43
      have u77 : Tn (q76.2.1 17) (q76.2.2.1 19) := by rw [n_q76_2.1 17 rfl, n_q76_2.2.1 19 rfl]; exact x_0
      have u78 : Rf (q76.2.2.1 22) (q76.2.2.1 23) (q76.2.2.1 19) := by rw [n_q76_2.2.1 19 rfl, n_q76_2.2.1 22 rfl, n_q76_2.2.1 23 rfl]; exact x_1
      have u79 : Ch (q76.2.1 64) (q76.2.1 73) (q76.2.1 39) (q76.2.1 43) (q76.2.2.1 74) := by rw [n_q76_2.1 39 rfl, n_q76_2.1 43 rfl, n_q76_2.1 64 rfl, n_q76_2.1 73 rfl, n_q76_2.2.1 74 rfl]; exact x_2
      have u80 : Lmd (q76.2.1 64).toInt (q76.2.1 65).toInt := by rw [n_q76_2.1 64 rfl, n_q76_2.1 65 rfl]; exact x_3
      have u81 : Rd (q76.2.1 5).toInt v2.toInt (q76.2.1 17).toInt (q76.2.2.1 25) (q76.2.2.1 19) := by rw [n_q76_2.1 5 rfl, n_q76_2.1 17 rfl, n_q76_2.2.1 19 rfl, n_q76_2.2.1 25 rfl]; exact x_4
      have u82 : Ri (q76.2.1 5).toInt (q76.2.1 17).toInt (q76.2.1 10).toInt (q76.2.2.1 25) (q76.2.2.1 19) := by rw [n_q76_2.1 5 rfl, n_q76_2.1 10 rfl, n_q76_2.1 17 rfl, n_q76_2.2.1 19 rfl, n_q76_2.2.1 25 rfl]; exact x_5
      have u83 : Gx ((q76.2.1 39).toInt + 1) (q76.2.1 43).toInt (q76.2.2.1 44) (q76.2.2.1 45) := by rw [n_q76_2.1 39 rfl, n_q76_2.1 43 rfl, n_q76_2.2.1 44 rfl, n_q76_2.2.1 45 rfl]; exact x_6
      have u84 : No (q76.2.1 40).toInt ((q76.2.1 39).toInt + 1 + (q76.2.1 43).toInt) (q76.2.2.1 47) := by rw [n_q76_2.1 39 rfl, n_q76_2.1 40 rfl, n_q76_2.1 43 rfl, n_q76_2.2.1 47 rfl]; exact x_7
      have u85 : Hc (q76.2.1 64).toInt ((q76.2.1 39).toInt + 1) (q76.2.1 43).toInt (q76.2.1 65).toInt (q76.2.2.1 44) (q76.2.2.1 45) := by rw [n_q76_2.1 39 rfl, n_q76_2.1 43 rfl, n_q76_2.1 64 rfl, n_q76_2.1 65 rfl, n_q76_2.2.1 44 rfl, n_q76_2.2.1 45 rfl]; exact x_8
      refine tt_if (fun c86 => ?_) (fun c86 => ?_)
      · have wc86 : q76.1.toInt = (0 : Int) := c_eq c86
        have i87 : (0 : Int) ≤ q76.1.toInt ∧ q76.1.toInt ≤ 0 := nr_eql c86 i_q76 (show (0 : Int) ≤ (0 : Int32).toInt ∧ (0 : Int32).toInt ≤ 0 by decide) (by decide) (by decide)
        try unfold fM_read_61
        refine tt_kv (P := fun z => ((1 : Int) ≤ z.toInt ∧ z.toInt ≤ 30) ∧ z.toInt = v2.toInt + 1) ⟨iv_add i72 (show (1 : Int) ≤ (1 : Int32).toInt ∧ (1 : Int32).toInt ≤ 1 by decide) (by decide) (by decide) (by decide) (by decide), iq_add i72 (show (1 : Int) ≤ (1 : Int32).toInt ∧ (1 : Int32).toInt ≤ 1 by decide) (by decide) (by decide)⟩ (fun x88 qi89 => ?_)
        obtain ⟨i89, ei89⟩ := qi89
        have p90 : Rd (q76.2.1 5).toInt x88.toInt (q76.2.1 17).toInt (q76.2.2.1 25) (q76.2.2.1 19) := by first | exact fun hz => absurd hz (by omega) | exact Rd_s (by assumption) (by assumption) (by omega) (by omega) (by omega)
        exact H _ _ _ k_q76_2 r_q76_2 (iv_w (a := 0) (b := 30) (by decide) (by decide) i89) f_q76_2_0 f_q76_2_95 u77 u78 u79 u80 p90 u82 u83 u84 u85 (show 0 + (30 - x88.toInt) * 2 < (n : Int) by omega)
      · have wc86 : ¬ q76.1.toInt = (0 : Int) := c_ne c86
        have i91 : (1 : Int) ≤ q76.1.toInt ∧ q76.1.toInt ≤ 1 := nr_nela c86 i_q76 (show (0 : Int) ≤ (0 : Int32).toInt ∧ (0 : Int32).toInt ≤ 0 by decide) (by decide) (by decide)
        refine tt_n (ix_ok i72 (by decide) (by decide)) ?_
        refine tt_kv (P := fun z => (((-2147483648) : Int) ≤ z.toInt ∧ z.toInt ≤ 2147483647) ∧ z.toInt = (q76.2.2.1 18 v2.toNatClampNeg).toInt) ⟨(k_q76_2.2 18 _), rfl⟩ (fun x92 qi93 => ?_)
        obtain ⟨i93, ei93⟩ := qi93
        try unfold fM_fail
        try unfold fM_fail_0
        refine tt_bif (fun c94 => ?_) (fun c94 => ?_)
        · have wc94 : (q76.2.1 5).toInt = (0 : Int) := c_eq c94
          refine tt_bko ?_
          have k95 := ok_fp (k := 5) (v := 4) k_q76_2 (iv_w (a := 0) (b := 4) (by decide) (by decide) (show (4 : Int) ≤ (4 : Int32).toInt ∧ (4 : Int32).toInt ≤ 4 by decide))
          have r96 := fr_fp (k := 5) (v := 4) r_q76_2 rfl
          refine tt_bko ?_
          have k97 := ok_fp (k := 6) (v := x92) k95 i93
          have r98 := fr_fp (k := 6) (v := x92) r96 rfl
          try unfold fM_fail_17
          refine tt_bs ?_
          try unfold fM_read_61
          refine tt_kv (P := fun z => ((1 : Int) ≤ z.toInt ∧ z.toInt ≤ 30) ∧ z.toInt = v2.toInt + 1) ⟨iv_add i72 (show (1 : Int) ≤ (1 : Int32).toInt ∧ (1 : Int32).toInt ≤ 1 by decide) (by decide) (by decide) (by decide) (by decide), iq_add i72 (show (1 : Int) ≤ (1 : Int32).toInt ∧ (1 : Int32).toInt ≤ 1 by decide) (by decide) (by decide)⟩ (fun x99 qi100 => ?_)
          obtain ⟨i100, ei100⟩ := qi100
          have p101 : Rd 4 x99.toInt (q76.2.1 17).toInt (q76.2.2.1 25) (q76.2.2.1 19) := by first | exact fun hz => absurd hz (by omega) | exact Rd_s (by assumption) (by assumption) (by omega) (by omega) (by omega)
          have p102 : Ri 4 (q76.2.1 17).toInt (q76.2.1 10).toInt (q76.2.2.1 25) (q76.2.2.1 19) := by exact fun hz => absurd hz (by omega)
          exact H _ _ _ k97 r98 (iv_w (a := 0) (b := 30) (by decide) (by decide) i100) f_q76_2_0 f_q76_2_95 u77 u78 u79 u80 p101 p102 u83 u84 u85 (show 0 + (30 - x99.toInt) * 2 < (n : Int) by omega)
        · have wc94 : ¬ (q76.2.1 5).toInt = (0 : Int) := c_ne c94
          exact (dd_ne c94 f_q76_2_5 (show (0 : Int) ≤ (0 : Int32).toInt ∧ (0 : Int32).toInt ≤ 0 by decide)).elim
    · have wc74 : ¬ (o0.1 5).toInt = (0 : Int) := c_ne c74
      have i103 : (1 : Int) ≤ (o0.1 5).toInt ∧ (o0.1 5).toInt ≤ 4 := nr_nela c74 (k_o0.1 5) (show (0 : Int) ≤ (0 : Int32).toInt ∧ (0 : Int32).toInt ≤ 0 by decide) (by decide) (by decide)
      try unfold fM_read_67
      refine tt_if (fun c104 => ?_) (fun c104 => ?_)
      · have wc104 : (o0.1 5).toInt ≤ (0 : Int) := c_le c104
        exact (dd_le c104 i103 (show (0 : Int) ≤ (0 : Int32).toInt ∧ (0 : Int32).toInt ≤ 0 by decide) (by decide)).elim
      · have wc104 : (0 : Int) < (o0.1 5).toInt := c_nle c104
        refine tt_ko ?_
        have k105 := ok_fp (k := 3) (v := (o0.1 6)) k_o0 (k_o0.1 6)
        have r106 := fr_fp (k := 3) (v := (o0.1 6)) r_o0 rfl
        exact tt_some ⟨(iv_w (a := 0) (b := 4) (by decide) (by decide) i103), k105, r106, (iv_w (a := 0) (b := 1) (by decide) (by decide) f_o0_0), x_1, x_2, x_3, x_6, x_7, x_8, trivial⟩
set_option maxHeartbeats 4000000 in
set_option maxRecDepth 100000 in
theorem hM_read (yo0 : cf_O) : ∀ n, HM_read yo0 n := by
  intro n
  induction n with
  | zero => exact (fun v1 v2 o0 k_o0 r_o0 i_v2 f_o0_0 f_o0_95 x_0 x_1 x_2 x_3 x_4 x_5 x_6 x_7 x_8 hm => by exact absurd (show 0 + (30 - v2.toInt) * 2 < (0 : Int) from hm) (by omega))
  | succ n ih => exact (fun v1 v2 o0 k_o0 r_o0 i_v2 f_o0_0 f_o0_95 x_0 x_1 x_2 x_3 x_4 x_5 x_6 x_7 x_8 hm => tM_read_27 ih v1 v2 o0 k_o0 r_o0 i_v2 f_o0_0 f_o0_95 x_0 x_1 x_2 x_3 x_4 x_5 x_6 x_7 x_8 (by omega))
set_option maxHeartbeats 4000000 in
set_option maxRecDepth 100000 in
theorem sM_read (o0 : cf_O) (k_o0 : okO I_M o0) (f_o0_95 : (0 : Int) ≤ (o0.1 95).toInt ∧ (o0.1 95).toInt ≤ 0) (x_0 : Rf (o0.2.1 22) (o0.2.1 23) (o0.2.1 19)) (x_1 : Ch (o0.1 64) (o0.1 73) (o0.1 39) (o0.1 43) (o0.2.1 74)) (x_2 : Lmd (o0.1 64).toInt (o0.1 65).toInt) (x_3 : Gx ((o0.1 39).toInt + 1) (o0.1 43).toInt (o0.2.1 44) (o0.2.1 45)) (x_4 : No (o0.1 40).toInt ((o0.1 39).toInt + 1 + (o0.1 43).toInt) (o0.2.1 47)) (x_5 : Hc (o0.1 64).toInt ((o0.1 39).toInt + 1) (o0.1 43).toInt (o0.1 65).toInt (o0.2.1 44) (o0.2.1 45)) : tt (fM_read o0) (QM_read o0) := by
  have H := hM_read o0 cfFU
  have hm : (63 : Int) ≤ (cfFU : Nat) := by decide
  have r_o0 : Fr (fr_M [0, 3, 5, 6, 7, 10, 13, 16, 17, 29, 31, 36, 37, 38, 39, 40, 43, 64, 85] [8, 9, 11, 12, 14, 15, 18, 19, 20, 21, 22, 23, 24, 25, 26, 27, 28, 30, 32, 33, 34, 35, 41, 42, 44, 45, 46, 47] []) o0 o0 := fr_rfl
  unfold fM_read fM_read_0
  have g_o0_5 : (0 : Int) ≤ (o0.1 5).toInt ∧ (o0.1 5).toInt ≤ 4 := k_o0.1 5
  have g_o0_10 : (0 : Int) ≤ (o0.1 10).toInt ∧ (o0.1 10).toInt ≤ 8 := k_o0.1 10
  have g_o0_13 : (0 : Int) ≤ (o0.1 13).toInt ∧ (o0.1 13).toInt ≤ 6 := k_o0.1 13
  have g_o0_17 : (0 : Int) ≤ (o0.1 17).toInt ∧ (o0.1 17).toInt ≤ 30 := k_o0.1 17
  have g_o0_31 : (0 : Int) ≤ (o0.1 31).toInt ∧ (o0.1 31).toInt ≤ 200 := k_o0.1 31
  have g_o0_37 : (0 : Int) ≤ (o0.1 37).toInt ∧ (o0.1 37).toInt ≤ 9 := k_o0.1 37
  have g_o0_39 : (0 : Int) ≤ (o0.1 39).toInt ∧ (o0.1 39).toInt ≤ 8 := k_o0.1 39
  have g_o0_40 : (0 : Int) ≤ (o0.1 40).toInt ∧ (o0.1 40).toInt ≤ 6 := k_o0.1 40
  have g_o0_43 : (0 : Int) ≤ (o0.1 43).toInt ∧ (o0.1 43).toInt ≤ 200 := k_o0.1 43
  refine tt_ko ?_
  have k1 := ok_fp (k := 0) (v := 0) k_o0 (iv_w (a := 0) (b := 3) (by decide) (by decide) (show (0 : Int) ≤ (0 : Int32).toInt ∧ (0 : Int32).toInt ≤ 0 by decide))
  have r2 := fr_fp (k := 0) (v := 0) r_o0 rfl
  refine tt_b (sM_readLines _ k1 (show (0 : Int) ≤ (0 : Int32).toInt ∧ (0 : Int32).toInt ≤ 0 by decide) f_o0_95 x_0) (fun q3 hq3 => ?_)
  obtain ⟨k_q3, n_q3, f_q3_5, zq3_0, zq3_1, -⟩ := hq3
  have r_q3 := fr_tr r2 n_q3 rfl rfl rfl
  have f_q3_0 : (0 : Int) ≤ (q3.1 0).toInt ∧ (q3.1 0).toInt ≤ 0 := by rw [n_q3.1 0 rfl]; exact (show (0 : Int) ≤ (0 : Int32).toInt ∧ (0 : Int32).toInt ≤ 0 by decide)
  have f_q3_95 : (0 : Int) ≤ (q3.1 95).toInt ∧ (q3.1 95).toInt ≤ 0 := by rw [n_q3.1 95 rfl]; exact f_o0_95
  have g_q3_10 : (0 : Int) ≤ (q3.1 10).toInt ∧ (q3.1 10).toInt ≤ 8 := k_q3.1 10
  have g_q3_13 : (0 : Int) ≤ (q3.1 13).toInt ∧ (q3.1 13).toInt ≤ 6 := k_q3.1 13
  have g_q3_17 : (0 : Int) ≤ (q3.1 17).toInt ∧ (q3.1 17).toInt ≤ 30 := k_q3.1 17
  have e_q3_31 : (q3.1 31).toInt = (o0.1 31).toInt := congrArg Int32.toInt (n_q3.1 31 rfl)
  have g_q3_31 : (0 : Int) ≤ (q3.1 31).toInt ∧ (q3.1 31).toInt ≤ 200 := k_q3.1 31
  have e_q3_37 : (q3.1 37).toInt = (o0.1 37).toInt := congrArg Int32.toInt (n_q3.1 37 rfl)
  have g_q3_37 : (0 : Int) ≤ (q3.1 37).toInt ∧ (q3.1 37).toInt ≤ 9 := k_q3.1 37
  have e_q3_39 : (q3.1 39).toInt = (o0.1 39).toInt := congrArg Int32.toInt (n_q3.1 39 rfl)
  have g_q3_39 : (0 : Int) ≤ (q3.1 39).toInt ∧ (q3.1 39).toInt ≤ 8 := k_q3.1 39
  have e_q3_40 : (q3.1 40).toInt = (o0.1 40).toInt := congrArg Int32.toInt (n_q3.1 40 rfl)
  have g_q3_40 : (0 : Int) ≤ (q3.1 40).toInt ∧ (q3.1 40).toInt ≤ 6 := k_q3.1 40
  have e_q3_43 : (q3.1 43).toInt = (o0.1 43).toInt := congrArg Int32.toInt (n_q3.1 43 rfl)
  have g_q3_43 : (0 : Int) ≤ (q3.1 43).toInt ∧ (q3.1 43).toInt ≤ 200 := k_q3.1 43
  have zq3_0 : Tn (q3.1 17) (q3.2.1 19) := zq3_0
  have zq3_1 : Rf (q3.2.1 22) (q3.2.1 23) (q3.2.1 19) := zq3_1
  have u4 : Ch (q3.1 64) (q3.1 73) (q3.1 39) (q3.1 43) (q3.2.1 74) := by rw [n_q3.1 39 rfl, n_q3.1 43 rfl, n_q3.1 64 rfl, n_q3.1 73 rfl, n_q3.2.1 74 rfl]; exact x_1
  have u5 : Lmd (q3.1 64).toInt (q3.1 65).toInt := by rw [n_q3.1 64 rfl, n_q3.1 65 rfl]; exact x_2
  have u6 : Gx ((q3.1 39).toInt + 1) (q3.1 43).toInt (q3.2.1 44) (q3.2.1 45) := by rw [n_q3.1 39 rfl, n_q3.1 43 rfl, n_q3.2.1 44 rfl, n_q3.2.1 45 rfl]; exact x_3
  have u7 : No (q3.1 40).toInt ((q3.1 39).toInt + 1 + (q3.1 43).toInt) (q3.2.1 47) := by rw [n_q3.1 39 rfl, n_q3.1 40 rfl, n_q3.1 43 rfl, n_q3.2.1 47 rfl]; exact x_4
  have u8 : Hc (q3.1 64).toInt ((q3.1 39).toInt + 1) (q3.1 43).toInt (q3.1 65).toInt (q3.2.1 44) (q3.2.1 45) := by rw [n_q3.1 39 rfl, n_q3.1 43 rfl, n_q3.1 64 rfl, n_q3.1 65 rfl, n_q3.2.1 44 rfl, n_q3.2.1 45 rfl]; exact x_5
  refine tt_if (fun c9 => ?_) (fun c9 => ?_)
  · have wc9 : (q3.1 5).toInt = (0 : Int) := c_eq c9
    have i10 : (0 : Int) ≤ (q3.1 5).toInt ∧ (q3.1 5).toInt ≤ 0 := nr_eql c9 f_q3_5 (show (0 : Int) ≤ (0 : Int32).toInt ∧ (0 : Int32).toInt ≤ 0 by decide) (by decide) (by decide)
    refine tt_b (sM_link _ k_q3 f_q3_0 i10 f_q3_95 zq3_0 zq3_1) (fun q11 hq11 => ?_)
    obtain ⟨k_q11, n_q11, f_q11_5, zq11_0, zq11_1, zq11_2, zq11_3, -⟩ := hq11
    have r_q11 := fr_tr r_q3 n_q11 rfl rfl rfl
    have f_q11_0 : (0 : Int) ≤ (q11.1 0).toInt ∧ (q11.1 0).toInt ≤ 0 := by rw [n_q11.1 0 rfl]; exact f_q3_0
    have f_q11_95 : (0 : Int) ≤ (q11.1 95).toInt ∧ (q11.1 95).toInt ≤ 0 := by rw [n_q11.1 95 rfl]; exact f_q3_95
    have e_q11_10 : (q11.1 10).toInt = (q3.1 10).toInt := congrArg Int32.toInt (n_q11.1 10 rfl)
    have g_q11_10 : (0 : Int) ≤ (q11.1 10).toInt ∧ (q11.1 10).toInt ≤ 8 := k_q11.1 10
    have e_q11_13 : (q11.1 13).toInt = (q3.1 13).toInt := congrArg Int32.toInt (n_q11.1 13 rfl)
    have g_q11_13 : (0 : Int) ≤ (q11.1 13).toInt ∧ (q11.1 13).toInt ≤ 6 := k_q11.1 13
    have e_q11_17 : (q11.1 17).toInt = (q3.1 17).toInt := congrArg Int32.toInt (n_q11.1 17 rfl)
    have g_q11_17 : (0 : Int) ≤ (q11.1 17).toInt ∧ (q11.1 17).toInt ≤ 30 := k_q11.1 17
    have e_q11_31 : (q11.1 31).toInt = (q3.1 31).toInt := congrArg Int32.toInt (n_q11.1 31 rfl)
    have g_q11_31 : (0 : Int) ≤ (q11.1 31).toInt ∧ (q11.1 31).toInt ≤ 200 := k_q11.1 31
    have e_q11_37 : (q11.1 37).toInt = (q3.1 37).toInt := congrArg Int32.toInt (n_q11.1 37 rfl)
    have g_q11_37 : (0 : Int) ≤ (q11.1 37).toInt ∧ (q11.1 37).toInt ≤ 9 := k_q11.1 37
    have e_q11_39 : (q11.1 39).toInt = (q3.1 39).toInt := congrArg Int32.toInt (n_q11.1 39 rfl)
    have g_q11_39 : (0 : Int) ≤ (q11.1 39).toInt ∧ (q11.1 39).toInt ≤ 8 := k_q11.1 39
    have e_q11_40 : (q11.1 40).toInt = (q3.1 40).toInt := congrArg Int32.toInt (n_q11.1 40 rfl)
    have g_q11_40 : (0 : Int) ≤ (q11.1 40).toInt ∧ (q11.1 40).toInt ≤ 6 := k_q11.1 40
    have e_q11_43 : (q11.1 43).toInt = (q3.1 43).toInt := congrArg Int32.toInt (n_q11.1 43 rfl)
    have g_q11_43 : (0 : Int) ≤ (q11.1 43).toInt ∧ (q11.1 43).toInt ≤ 200 := k_q11.1 43
    have u14 : Ch (q11.1 64) (q11.1 73) (q11.1 39) (q11.1 43) (q11.2.1 74) := by rw [n_q11.1 39 rfl, n_q11.1 43 rfl, n_q11.1 64 rfl, n_q11.1 73 rfl, n_q11.2.1 74 rfl]; exact u4
    have u15 : Lmd (q11.1 64).toInt (q11.1 65).toInt := by rw [n_q11.1 64 rfl, n_q11.1 65 rfl]; exact u5
    have u16 : Gx ((q11.1 39).toInt + 1) (q11.1 43).toInt (q11.2.1 44) (q11.2.1 45) := by rw [n_q11.1 39 rfl, n_q11.1 43 rfl, n_q11.2.1 44 rfl, n_q11.2.1 45 rfl]; exact u6
    have u17 : No (q11.1 40).toInt ((q11.1 39).toInt + 1 + (q11.1 43).toInt) (q11.2.1 47) := by rw [n_q11.1 39 rfl, n_q11.1 40 rfl, n_q11.1 43 rfl, n_q11.2.1 47 rfl]; exact u7
    have u18 : Hc (q11.1 64).toInt ((q11.1 39).toInt + 1) (q11.1 43).toInt (q11.1 65).toInt (q11.2.1 44) (q11.2.1 45) := by rw [n_q11.1 39 rfl, n_q11.1 43 rfl, n_q11.1 64 rfl, n_q11.1 65 rfl, n_q11.2.1 44 rfl, n_q11.2.1 45 rfl]; exact u8
    try unfold fM_read_25
    have p19 : Rd (q11.1 5).toInt 0 (q11.1 17).toInt (q11.2.1 25) (q11.2.1 19) := by first | exact fun hz => absurd hz (by omega) | exact fun _ => ⟨by assumption, fun t ht => by omega⟩
    have p20 : Ri (q11.1 5).toInt (q11.1 17).toInt (q11.1 10).toInt (q11.2.1 25) (q11.2.1 19) := by first | exact fun hz => absurd hz (by omega) | exact fun _ => by assumption
    exact H _ _ _ k_q11 r_q11 (iv_w (a := 0) (b := 30) (by decide) (by decide) (show (0 : Int) ≤ (0 : Int32).toInt ∧ (0 : Int32).toInt ≤ 0 by decide)) f_q11_0 f_q11_95 zq11_0 zq11_1 u14 u15 p19 p20 u16 u17 u18 (show 0 + (30 - 0) * 2 < ((cfFU : Nat) : Int) by omega)
  · have wc9 : ¬ (q3.1 5).toInt = (0 : Int) := c_ne c9
    have i21 : (1 : Int) ≤ (q3.1 5).toInt ∧ (q3.1 5).toInt ≤ 2 := nr_nela c9 f_q3_5 (show (0 : Int) ≤ (0 : Int32).toInt ∧ (0 : Int32).toInt ≤ 0 by decide) (by decide) (by decide)
    try unfold fM_read_25
    have p22 : Rd (q3.1 5).toInt 0 (q3.1 17).toInt (q3.2.1 25) (q3.2.1 19) := by first | exact fun hz => absurd hz (by omega) | exact fun _ => ⟨by assumption, fun t ht => by omega⟩
    have p23 : Ri (q3.1 5).toInt (q3.1 17).toInt (q3.1 10).toInt (q3.2.1 25) (q3.2.1 19) := by first | exact fun hz => absurd hz (by omega) | exact fun _ => by assumption
    exact H _ _ _ k_q3 r_q3 (iv_w (a := 0) (b := 30) (by decide) (by decide) (show (0 : Int) ≤ (0 : Int32).toInt ∧ (0 : Int32).toInt ≤ 0 by decide)) f_q3_0 f_q3_95 zq3_0 zq3_1 u4 u5 p22 p23 u6 u7 u8 (show 0 + (30 - 0) * 2 < ((cfFU : Nat) : Int) by omega)
