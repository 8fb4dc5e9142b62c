def QF_map (o0 : cf_O) (o1 : cf_O) (o2 : cf_O) (o3 : cf_O) (o4 : cf_O) (o5 : cf_O) (o6 : cf_O) (o7 : cf_O) (r : (Int32 × cf_O × cf_O × cf_O × cf_O × cf_O)) : Prop := (((-1) : Int) ≤ r.1.toInt ∧ r.1.toInt ≤ 418) ∧ (okO I_F r.2.1) ∧ (Fr (fr_M [18, 30] [] []) o0 r.2.1) ∧ (okO I_Cu r.2.2.1) ∧ (Fr (fr_M [0, 3, 4, 5] [1, 2] [4, 5]) o1 r.2.2.1) ∧ (okO I_Co r.2.2.2.1) ∧ (Fr (fr_M [0, 1] [2, 3, 4] []) o2 r.2.2.2.1) ∧ (okO I_Mp r.2.2.2.2.1) ∧ (Fr (fr_M [0, 1, 2] [3, 6] [4, 5]) o3 r.2.2.2.2.1) ∧ (okO I_Sc r.2.2.2.2.2) ∧ (Fr (fr_M [0] [] []) o4 r.2.2.2.2.2) ∧ (Fqs (r.2.2.1.1 0).toInt (o5.1 0).toInt (((o5.1 0).toInt + 1) + (o5.1 2).toInt) (r.2.2.1.1 3).toInt (r.2.2.1.2.1 2) (r.2.2.1.2.1 1) (r.2.2.1.2.2 4)) ∧ (Rcf (r.2.2.1.1 0).toInt (r.2.2.1.1 3).toInt (o5.1 0).toInt (((o5.1 0).toInt + 1) + (o5.1 2).toInt) (o5.2.1 4) (o5.2.1 5) (r.2.2.1.2.1 2) (r.2.2.1.2.2 4)) ∧ ((r.2.2.1.1 3).toInt ≤ (r.2.2.1.1 4).toInt) ∧ ((r.2.2.1.1 4).toInt = (r.2.2.1.1 5).toInt) ∧ (Tks (r.2.1.1 18).toInt (r.2.2.2.2.1.1 0).toInt (r.2.2.2.2.1.2.1 3) (r.2.2.2.2.1.2.2 4)) ∧ ((r.2.1.1 30).toInt = 0 ∨ (r.2.1.1 30).toInt = 2 ∨ (r.2.1.1 30).toInt = 4) ∧ True
set_option maxHeartbeats 4000000 in
set_option maxRecDepth 100000 in
theorem sF_map (o0 : cf_O) (o1 : cf_O) (o2 : cf_O) (o3 : cf_O) (o4 : cf_O) (o5 : cf_O) (o6 : cf_O) (o7 : cf_O) (k_o0 : okO I_F o0) (k_o1 : okO I_Cu o1) (k_o2 : okO I_Co o2) (k_o3 : okO I_Mp o3) (k_o4 : okO I_Sc o4) (k_o5 : okO I_Gr o5) (k_o6 : okO I_Li o6) (k_o7 : okO I_SB o7) (x_0 : Gx ((o5.1 0).toInt + 1) (o5.1 2).toInt (sh ((o5.1 0).toInt + 1) (o5.2.1 4)) (sh ((o5.1 0).toInt + 1) (o5.2.1 5))) (x_1 : No (o5.1 1).toInt (((o5.1 0).toInt + 1) + (o5.1 2).toInt) (o5.2.1 7)) (x_2 : Fqs (o1.1 0).toInt (o5.1 0).toInt (((o5.1 0).toInt + 1) + (o5.1 2).toInt) (o1.1 3).toInt (o1.2.1 2) (o1.2.1 1) (o1.2.2 4)) (x_3 : Rcf (o1.1 0).toInt (o1.1 3).toInt (o5.1 0).toInt (((o5.1 0).toInt + 1) + (o5.1 2).toInt) (o5.2.1 4) (o5.2.1 5) (o1.2.1 2) (o1.2.2 4)) (x_4 : (o1.1 3).toInt ≤ (o1.1 4).toInt) (x_5 : (o1.1 4).toInt = (o1.1 5).toInt) (x_6 : Tks (o0.1 18).toInt (o3.1 0).toInt (o3.2.1 3) (o3.2.2 4)) (x_7 : Hlb (o6.1 0).toInt (o6.1 7).toInt (o6.1 1).toInt (o6.2.1 8) (o6.2.1 9) (o6.2.1 10) (o6.2.1 11) (o6.2.1 5)) (x_8 : (o7.1 3).toInt ≤ (o7.1 0).toInt) : tt (fF_map o0 o1 o2 o3 o4 o5 o6 o7) (QF_map o0 o1 o2 o3 o4 o5 o6 o7) := by
  have r_o0 : Fr (fr_M [18, 30] [] []) o0 o0 := fr_rfl
  have r_o1 : Fr (fr_M [0, 3, 4, 5] [1, 2] [4, 5]) o1 o1 := fr_rfl
  have r_o2 : Fr (fr_M [0, 1] [2, 3, 4] []) o2 o2 := fr_rfl
  have r_o3 : Fr (fr_M [0, 1, 2] [3, 6] [4, 5]) o3 o3 := fr_rfl
  have r_o4 : Fr (fr_M [0] [] []) o4 o4 := fr_rfl
  have r_o5 : Fr (fr_M [] [] []) o5 o5 := fr_rfl
  have r_o6 : Fr (fr_M [] [] []) o6 o6 := fr_rfl
  have r_o7 : Fr (fr_M [] [] []) o7 o7 := fr_rfl
  unfold fF_map fF_map_0
  have g_o0_0 : (0 : Int) ≤ (o0.1 0).toInt ∧ (o0.1 0).toInt ≤ 0 := k_o0.1 0
  have g_o0_1 : (0 : Int) ≤ (o0.1 1).toInt ∧ (o0.1 1).toInt ≤ 0 := k_o0.1 1
  have g_o0_2 : (0 : Int) ≤ (o0.1 2).toInt ∧ (o0.1 2).toInt ≤ 0 := k_o0.1 2
  have g_o0_3 : (0 : Int) ≤ (o0.1 3).toInt ∧ (o0.1 3).toInt ≤ 0 := k_o0.1 3
  have g_o0_4 : (0 : Int) ≤ (o0.1 4).toInt ∧ (o0.1 4).toInt ≤ 0 := k_o0.1 4
  have g_o0_5 : (0 : Int) ≤ (o0.1 5).toInt ∧ (o0.1 5).toInt ≤ 0 := k_o0.1 5
  have g_o0_16 : (0 : Int) ≤ (o0.1 16).toInt ∧ (o0.1 16).toInt ≤ 1 := k_o0.1 16
  have g_o0_17 : (0 : Int) ≤ (o0.1 17).toInt ∧ (o0.1 17).toInt ≤ 1 := k_o0.1 17
  have g_o0_18 : (0 : Int) ≤ (o0.1 18).toInt ∧ (o0.1 18).toInt ≤ 1 := k_o0.1 18
  have g_o0_30 : (0 : Int) ≤ (o0.1 30).toInt ∧ (o0.1 30).toInt ≤ 4 := k_o0.1 30
  have g_o1_0 : ((-2147483648) : Int) ≤ (o1.1 0).toInt ∧ (o1.1 0).toInt ≤ 2147483647 := k_o1.1 0
  have g_o1_1 : (0 : Int) ≤ (o1.1 1).toInt ∧ (o1.1 1).toInt ≤ 0 := k_o1.1 1
  have g_o1_2 : (0 : Int) ≤ (o1.1 2).toInt ∧ (o1.1 2).toInt ≤ 0 := k_o1.1 2
  have g_o1_3 : (0 : Int) ≤ (o1.1 3).toInt ∧ (o1.1 3).toInt ≤ 62909 := k_o1.1 3
  have g_o1_4 : (1024 : Int) ≤ (o1.1 4).toInt ∧ (o1.1 4).toInt ≤ 131072 := k_o1.1 4
  have g_o1_5 : (1024 : Int) ≤ (o1.1 5).toInt ∧ (o1.1 5).toInt ≤ 131072 := k_o1.1 5
  have g_o1_16 : (0 : Int) ≤ (o1.1 16).toInt ∧ (o1.1 16).toInt ≤ 0 := k_o1.1 16
  have g_o1_17 : (0 : Int) ≤ (o1.1 17).toInt ∧ (o1.1 17).toInt ≤ 0 := k_o1.1 17
  have g_o1_18 : (0 : Int) ≤ (o1.1 18).toInt ∧ (o1.1 18).toInt ≤ 0 := k_o1.1 18
  have g_o1_30 : (0 : Int) ≤ (o1.1 30).toInt ∧ (o1.1 30).toInt ≤ 0 := k_o1.1 30
  have g_o2_0 : (0 : Int) ≤ (o2.1 0).toInt ∧ (o2.1 0).toInt ≤ 5 := k_o2.1 0
  have g_o2_1 : ((-2147483648) : Int) ≤ (o2.1 1).toInt ∧ (o2.1 1).toInt ≤ 2147483647 := k_o2.1 1
  have g_o2_2 : (0 : Int) ≤ (o2.1 2).toInt ∧ (o2.1 2).toInt ≤ 0 := k_o2.1 2
  have g_o2_3 : (0 : Int) ≤ (o2.1 3).toInt ∧ (o2.1 3).toInt ≤ 0 := k_o2.1 3
  have g_o2_4 : (0 : Int) ≤ (o2.1 4).toInt ∧ (o2.1 4).toInt ≤ 0 := k_o2.1 4
  have g_o2_5 : (0 : Int) ≤ (o2.1 5).toInt ∧ (o2.1 5).toInt ≤ 0 := k_o2.1 5
  have g_o2_16 : (0 : Int) ≤ (o2.1 16).toInt ∧ (o2.1 16).toInt ≤ 0 := k_o2.1 16
  have g_o2_17 : (0 : Int) ≤ (o2.1 17).toInt ∧ (o2.1 17).toInt ≤ 0 := k_o2.1 17
  have g_o2_18 : (0 : Int) ≤ (o2.1 18).toInt ∧ (o2.1 18).toInt ≤ 0 := k_o2.1 18
  have g_o2_30 : (0 : Int) ≤ (o2.1 30).toInt ∧ (o2.1 30).toInt ≤ 0 := k_o2.1 30
  have g_o3_0 : (0 : Int) ≤ (o3.1 0).toInt ∧ (o3.1 0).toInt ≤ 418 := k_o3.1 0
  have g_o3_1 : ((-2147483648) : Int) ≤ (o3.1 1).toInt ∧ (o3.1 1).toInt ≤ 2147483647 := k_o3.1 1
  have g_o3_2 : ((-2147483648) : Int) ≤ (o3.1 2).toInt ∧ (o3.1 2).toInt ≤ 2147483647 := k_o3.1 2
  have g_o3_3 : (0 : Int) ≤ (o3.1 3).toInt ∧ (o3.1 3).toInt ≤ 0 := k_o3.1 3
  have g_o3_4 : (0 : Int) ≤ (o3.1 4).toInt ∧ (o3.1 4).toInt ≤ 0 := k_o3.1 4
  have g_o3_5 : (0 : Int) ≤ (o3.1 5).toInt ∧ (o3.1 5).toInt ≤ 0 := k_o3.1 5
  have g_o3_16 : (0 : Int) ≤ (o3.1 16).toInt ∧ (o3.1 16).toInt ≤ 0 := k_o3.1 16
  have g_o3_17 : (0 : Int) ≤ (o3.1 17).toInt ∧ (o3.1 17).toInt ≤ 0 := k_o3.1 17
  have g_o3_18 : (0 : Int) ≤ (o3.1 18).toInt ∧ (o3.1 18).toInt ≤ 0 := k_o3.1 18
  have g_o3_30 : (0 : Int) ≤ (o3.1 30).toInt ∧ (o3.1 30).toInt ≤ 0 := k_o3.1 30
  have g_o4_0 : (0 : Int) ≤ (o4.1 0).toInt ∧ (o4.1 0).toInt ≤ 1 := k_o4.1 0
  have g_o4_1 : (0 : Int) ≤ (o4.1 1).toInt ∧ (o4.1 1).toInt ≤ 0 := k_o4.1 1
  have g_o4_2 : (0 : Int) ≤ (o4.1 2).toInt ∧ (o4.1 2).toInt ≤ 0 := k_o4.1 2
  have g_o4_3 : (0 : Int) ≤ (o4.1 3).toInt ∧ (o4.1 3).toInt ≤ 0 := k_o4.1 3
  have g_o4_4 : (0 : Int) ≤ (o4.1 4).toInt ∧ (o4.1 4).toInt ≤ 0 := k_o4.1 4
  have g_o4_5 : (0 : Int) ≤ (o4.1 5).toInt ∧ (o4.1 5).toInt ≤ 0 := k_o4.1 5
  have g_o4_16 : (0 : Int) ≤ (o4.1 16).toInt ∧ (o4.1 16).toInt ≤ 0 := k_o4.1 16
  have g_o4_17 : (0 : Int) ≤ (o4.1 17).toInt ∧ (o4.1 17).toInt ≤ 0 := k_o4.1 17
  have g_o4_18 : (0 : Int) ≤ (o4.1 18).toInt ∧ (o4.1 18).toInt ≤ 0 := k_o4.1 18
  have g_o4_30 : (0 : Int) ≤ (o4.1 30).toInt ∧ (o4.1 30).toInt ≤ 0 := k_o4.1 30
  have g_o5_0 : (0 : Int) ≤ (o5.1 0).toInt ∧ (o5.1 0).toInt ≤ 8 := k_o5.1 0
  have g_o5_1 : (0 : Int) ≤ (o5.1 1).toInt ∧ (o5.1 1).toInt ≤ 6 := k_o5.1 1
  have g_o5_2 : (0 : Int) ≤ (o5.1 2).toInt ∧ (o5.1 2).toInt ≤ 200 := k_o5.1 2
  have g_o5_3 : (0 : Int) ≤ (o5.1 3).toInt ∧ (o5.1 3).toInt ≤ 1 := k_o5.1 3
  have g_o5_4 : (0 : Int) ≤ (o5.1 4).toInt ∧ (o5.1 4).toInt ≤ 0 := k_o5.1 4
  have g_o5_5 : (0 : Int) ≤ (o5.1 5).toInt ∧ (o5.1 5).toInt ≤ 0 := k_o5.1 5
  have g_o5_16 : (0 : Int) ≤ (o5.1 16).toInt ∧ (o5.1 16).toInt ≤ 0 := k_o5.1 16
  have g_o5_17 : (0 : Int) ≤ (o5.1 17).toInt ∧ (o5.1 17).toInt ≤ 0 := k_o5.1 17
  have g_o5_18 : (0 : Int) ≤ (o5.1 18).toInt ∧ (o5.1 18).toInt ≤ 0 := k_o5.1 18
  have g_o5_30 : (0 : Int) ≤ (o5.1 30).toInt ∧ (o5.1 30).toInt ≤ 0 := k_o5.1 30
  have g_o6_0 : (0 : Int) ≤ (o6.1 0).toInt ∧ (o6.1 0).toInt ≤ 12 := k_o6.1 0
  have g_o6_1 : ((-1) : Int) ≤ (o6.1 1).toInt ∧ (o6.1 1).toInt ≤ 11 := k_o6.1 1
  have g_o6_2 : (0 : Int) ≤ (o6.1 2).toInt ∧ (o6.1 2).toInt ≤ 0 := k_o6.1 2
  have g_o6_3 : (0 : Int) ≤ (o6.1 3).toInt ∧ (o6.1 3).toInt ≤ 0 := k_o6.1 3
  have g_o6_4 : (0 : Int) ≤ (o6.1 4).toInt ∧ (o6.1 4).toInt ≤ 0 := k_o6.1 4
  have g_o6_5 : (0 : Int) ≤ (o6.1 5).toInt ∧ (o6.1 5).toInt ≤ 0 := k_o6.1 5
  have g_o6_16 : (0 : Int) ≤ (o6.1 16).toInt ∧ (o6.1 16).toInt ≤ 0 := k_o6.1 16
  have g_o6_17 : (0 : Int) ≤ (o6.1 17).toInt ∧ (o6.1 17).toInt ≤ 0 := k_o6.1 17
  have g_o6_18 : (0 : Int) ≤ (o6.1 18).toInt ∧ (o6.1 18).toInt ≤ 0 := k_o6.1 18
  have g_o6_30 : (0 : Int) ≤ (o6.1 30).toInt ∧ (o6.1 30).toInt ≤ 0 := k_o6.1 30
  have g_o7_0 : (16 : Int) ≤ (o7.1 0).toInt ∧ (o7.1 0).toInt ≤ 400000 := k_o7.1 0
  have g_o7_1 : (0 : Int) ≤ (o7.1 1).toInt ∧ (o7.1 1).toInt ≤ 0 := k_o7.1 1
  have g_o7_2 : (0 : Int) ≤ (o7.1 2).toInt ∧ (o7.1 2).toInt ≤ 1 := k_o7.1 2
  have g_o7_3 : (0 : Int) ≤ (o7.1 3).toInt ∧ (o7.1 3).toInt ≤ 90000 := k_o7.1 3
  have g_o7_4 : (0 : Int) ≤ (o7.1 4).toInt ∧ (o7.1 4).toInt ≤ 0 := k_o7.1 4
  have g_o7_5 : (0 : Int) ≤ (o7.1 5).toInt ∧ (o7.1 5).toInt ≤ 0 := k_o7.1 5
  have g_o7_16 : (0 : Int) ≤ (o7.1 16).toInt ∧ (o7.1 16).toInt ≤ 0 := k_o7.1 16
  have g_o7_17 : (0 : Int) ≤ (o7.1 17).toInt ∧ (o7.1 17).toInt ≤ 0 := k_o7.1 17
  have g_o7_18 : (0 : Int) ≤ (o7.1 18).toInt ∧ (o7.1 18).toInt ≤ 0 := k_o7.1 18
  have g_o7_30 : (0 : Int) ≤ (o7.1 30).toInt ∧ (o7.1 30).toInt ≤ 0 := k_o7.1 30
  refine tt_if (fun c1 => ?_) (fun c1 => ?_)
  · have wc1 : (o0.1 16).toInt = (0 : Int) := c_eq c1
    have i2 : (0 : Int) ≤ (o0.1 16).toInt ∧ (o0.1 16).toInt ≤ 0 := nr_eql c1 (k_o0.1 16) (show (0 : Int) ≤ (0 : Int32).toInt ∧ (0 : Int32).toInt ≤ 0 by decide) (by decide) (by decide)
    try unfold fF_map_21
    try unfold fF_map_22
    refine tt_if (fun c3 => ?_) (fun c3 => ?_)
    · have wc3 : (0 : Int) = (0 : Int) := c_eq c3
      have k4 := ok_fp (k := 30) (v := 2) k_o0 (iv_w (a := 0) (b := 4) (by decide) (by decide) (show (2 : Int) ≤ (2 : Int32).toInt ∧ (2 : Int32).toInt ≤ 2 by decide))
      have r5 := fr_fp (k := 30) (v := 2) r_o0 rfl
      exact tt_some ⟨(iv_w (a := (-1)) (b := 418) (by decide) (by decide) (show (0 : Int) ≤ (0 : Int32).toInt ∧ (0 : Int32).toInt ≤ 0 by decide)), k4, r5, k_o1, r_o1, k_o2, r_o2, k_o3, r_o3, k_o4, r_o4, x_2, x_3, (show (o1.1 3).toInt ≤ (o1.1 4).toInt by omega), (show (o1.1 4).toInt = (o1.1 5).toInt by omega), x_6, (show 2 = 0 ∨ 2 = 2 ∨ 2 = 4 by omega), trivial⟩
    · have wc3 : ¬ (0 : Int) = (0 : Int) := c_ne c3
      exact (dd_ne c3 (show (0 : Int) ≤ (0 : Int32).toInt ∧ (0 : Int32).toInt ≤ 0 by decide) (show (0 : Int) ≤ (0 : Int32).toInt ∧ (0 : Int32).toInt ≤ 0 by decide)).elim
  · have wc1 : ¬ (o0.1 16).toInt = (0 : Int) := c_ne c1
    have i6 : (1 : Int) ≤ (o0.1 16).toInt ∧ (o0.1 16).toInt ≤ 1 := nr_nela c1 (k_o0.1 16) (show (0 : Int) ≤ (0 : Int32).toInt ∧ (0 : Int32).toInt ≤ 0 by decide) (by decide) (by decide)
    refine tt_if (fun c7 => ?_) (fun c7 => ?_)
    · have wc7 : (o6.1 0).toInt ≤ (0 : Int) := c_le c7
      have i8 : (0 : Int) ≤ (o6.1 0).toInt ∧ (o6.1 0).toInt ≤ 0 := nr_lel c7 (k_o6.1 0) (show (0 : Int) ≤ (0 : Int32).toInt ∧ (0 : Int32).toInt ≤ 0 by decide) (by decide) (by decide)
      try unfold fF_map_21
      try unfold fF_map_22
      refine tt_if (fun c9 => ?_) (fun c9 => ?_)
      · have wc9 : (0 : Int) = (0 : Int) := c_eq c9
        have k10 := ok_fp (k := 30) (v := 2) k_o0 (iv_w (a := 0) (b := 4) (by decide) (by decide) (show (2 : Int) ≤ (2 : Int32).toInt ∧ (2 : Int32).toInt ≤ 2 by decide))
        have r11 := fr_fp (k := 30) (v := 2) r_o0 rfl
        exact tt_some ⟨(iv_w (a := (-1)) (b := 418) (by decide) (by decide) (show (0 : Int) ≤ (0 : Int32).toInt ∧ (0 : Int32).toInt ≤ 0 by decide)), k10, r11, k_o1, r_o1, k_o2, r_o2, k_o3, r_o3, k_o4, r_o4, x_2, x_3, (show (o1.1 3).toInt ≤ (o1.1 4).toInt by omega), (show (o1.1 4).toInt = (o1.1 5).toInt by omega), x_6, (show 2 = 0 ∨ 2 = 2 ∨ 2 = 4 by omega), trivial⟩
      · have wc9 : ¬ (0 : Int) = (0 : Int) := c_ne c9
        exact (dd_ne c9 (show (0 : Int) ≤ (0 : Int32).toInt ∧ (0 : Int32).toInt ≤ 0 by decide) (show (0 : Int) ≤ (0 : Int32).toInt ∧ (0 : Int32).toInt ≤ 0 by decide)).elim
    · have wc7 : (0 : Int) < (o6.1 0).toInt := c_nle c7
      have i12 : (1 : Int) ≤ (o6.1 0).toInt ∧ (o6.1 0).toInt ≤ 12 := nr_nler c7 (show (0 : Int) ≤ (0 : Int32).toInt ∧ (0 : Int32).toInt ≤ 0 by decide) (k_o6.1 0) (by decide) (by decide)
      try unfold fF_map_22
      refine tt_if (fun c13 => ?_) (fun c13 => ?_)
      · have wc13 : (1 : Int) = (0 : Int) := c_eq c13
        exact (dd_eq c13 (show (1 : Int) ≤ (1 : Int32).toInt ∧ (1 : Int32).toInt ≤ 1 by decide) (show (0 : Int) ≤ (0 : Int32).toInt ∧ (0 : Int32).toInt ≤ 0 by decide) (by decide)).elim
      · have wc13 : ¬ (1 : Int) = (0 : Int) := c_ne c13
        try unfold fF_map_25
        refine tt_b (sCu_find _ _ _ k_o1 k_o5 (iv_w (a := 2) (b := 5) (by decide) (by decide) (show (3 : Int) ≤ (3 : Int32).toInt ∧ (3 : Int32).toInt ≤ 3 by decide)) x_0 x_2 (show (o1.1 3).toInt ≤ (o1.1 4).toInt by omega) (show (o1.1 4).toInt = (o1.1 5).toInt by omega) x_3) (fun q14 hq14 => ?_)
        obtain ⟨i_q14, k_q14_2, n_q14_2, f_q14_2_0, zq14_0, zq14_1, zq14_2, zq14_3, zq14_4, -⟩ := hq14
        have r_q14_2 := fr_tr r_o1 n_q14_2 rfl rfl rfl
        have e_q14_2_1 : (q14.2.1 1).toInt = (o1.1 1).toInt := congrArg Int32.toInt (n_q14_2.1 1 rfl)
        have g_q14_2_1 : (0 : Int) ≤ (q14.2.1 1).toInt ∧ (q14.2.1 1).toInt ≤ 0 := k_q14_2.1 1
        have e_q14_2_2 : (q14.2.1 2).toInt = (o1.1 2).toInt := congrArg Int32.toInt (n_q14_2.1 2 rfl)
        have g_q14_2_2 : (0 : Int) ≤ (q14.2.1 2).toInt ∧ (q14.2.1 2).toInt ≤ 0 := k_q14_2.1 2
        have g_q14_2_3 : (0 : Int) ≤ (q14.2.1 3).toInt ∧ (q14.2.1 3).toInt ≤ 62909 := k_q14_2.1 3
        have g_q14_2_4 : (1024 : Int) ≤ (q14.2.1 4).toInt ∧ (q14.2.1 4).toInt ≤ 131072 := k_q14_2.1 4
        have g_q14_2_5 : (1024 : Int) ≤ (q14.2.1 5).toInt ∧ (q14.2.1 5).toInt ≤ 131072 := k_q14_2.1 5
        have e_q14_2_16 : (q14.2.1 16).toInt = (o1.1 16).toInt := congrArg Int32.toInt (n_q14_2.1 16 rfl)
        have g_q14_2_16 : (0 : Int) ≤ (q14.2.1 16).toInt ∧ (q14.2.1 16).toInt ≤ 0 := k_q14_2.1 16
        have e_q14_2_17 : (q14.2.1 17).toInt = (o1.1 17).toInt := congrArg Int32.toInt (n_q14_2.1 17 rfl)
        have g_q14_2_17 : (0 : Int) ≤ (q14.2.1 17).toInt ∧ (q14.2.1 17).toInt ≤ 0 := k_q14_2.1 17
        have e_q14_2_18 : (q14.2.1 18).toInt = (o1.1 18).toInt := congrArg Int32.toInt (n_q14_2.1 18 rfl)
        have g_q14_2_18 : (0 : Int) ≤ (q14.2.1 18).toInt ∧ (q14.2.1 18).toInt ≤ 0 := k_q14_2.1 18
        have e_q14_2_30 : (q14.2.1 30).toInt = (o1.1 30).toInt := congrArg Int32.toInt (n_q14_2.1 30 rfl)
        have g_q14_2_30 : (0 : Int) ≤ (q14.2.1 30).toInt ∧ (q14.2.1 30).toInt ≤ 0 := k_q14_2.1 30
        have zq14_1 : (q14.2.1 3).toInt ≤ (q14.2.1 4).toInt := zq14_1
        have zq14_2 : (q14.2.1 4).toInt = (q14.2.1 5).toInt := zq14_2
        have zq14_3 : q14.1.toInt = 0 ∨ (q14.2.1 0).toInt = 3 := zq14_3
        try unfold fF_map_37
        refine tt_if (fun c15 => ?_) (fun c15 => ?_)
        · have wc15 : q14.1.toInt = (0 : Int) := c_eq c15
          have i16 : (0 : Int) ≤ q14.1.toInt ∧ q14.1.toInt ≤ 0 := nr_eql c15 i_q14 (show (0 : Int) ≤ (0 : Int32).toInt ∧ (0 : Int32).toInt ≤ 0 by decide) (by decide) (by decide)
          have k17 := ok_fp (k := 30) (v := 4) k_o0 (iv_w (a := 0) (b := 4) (by decide) (by decide) (show (4 : Int) ≤ (4 : Int32).toInt ∧ (4 : Int32).toInt ≤ 4 by decide))
          have r18 := fr_fp (k := 30) (v := 4) r_o0 rfl
          exact tt_some ⟨(iv_w (a := (-1)) (b := 418) (by decide) (by decide) (show (0 : Int) ≤ (0 : Int32).toInt ∧ (0 : Int32).toInt ≤ 0 by decide)), k17, r18, k_q14_2, r_q14_2, k_o2, r_o2, k_o3, r_o3, k_o4, r_o4, zq14_0, zq14_4, (show (q14.2.1 3).toInt ≤ (q14.2.1 4).toInt by omega), (show (q14.2.1 4).toInt = (q14.2.1 5).toInt by omega), x_6, (show 4 = 0 ∨ 4 = 2 ∨ 4 = 4 by omega), trivial⟩
        · have wc15 : ¬ q14.1.toInt = (0 : Int) := c_ne c15
          have i19 : (1 : Int) ≤ q14.1.toInt ∧ q14.1.toInt ≤ 1 := nr_nela c15 i_q14 (show (0 : Int) ≤ (0 : Int32).toInt ∧ (0 : Int32).toInt ≤ 0 by decide) (by decide) (by decide)
          try unfold fF_map_40
          refine tt_ko ?_
          have k20 := ok_fp (k := 0) (v := 0) k_o4 (iv_w (a := 0) (b := 1) (by decide) (by decide) (show (0 : Int) ≤ (0 : Int32).toInt ∧ (0 : Int32).toInt ≤ 0 by decide))
          have r21 := fr_fp (k := 0) (v := 0) r_o4 rfl
          have p22 : Lbr (o6.1 7).toInt (o6.1 1).toInt (o6.2.1 8) (o6.2.1 9) (o6.2.1 10) (o6.2.1 11) (o6.2.1 5) := by exact Hlb_l (by assumption) (by omega)
          refine tt_b (sMp_find _ _ _ _ _ k_o3 k_o5 k_q14_2 k_o2 k_o6 f_q14_2_0 i12 zq14_0 p22 (show (q14.2.1 0).toInt = 3 by omega) (show (q14.2.1 3).toInt ≤ (q14.2.1 4).toInt by omega)) (fun q23 hq23 => ?_)
          obtain ⟨i_q23, k_q23_2_1, n_q23_2_1, f_q23_2_1_2, k_q23_2_2, n_q23_2_2, zq23_0, -⟩ := hq23
          have r_q23_2_1 := fr_tr r_o3 n_q23_2_1 rfl rfl rfl
          have g_q23_2_1_0 : (0 : Int) ≤ (q23.2.1.1 0).toInt ∧ (q23.2.1.1 0).toInt ≤ 418 := k_q23_2_1.1 0
          have g_q23_2_1_1 : ((-2147483648) : Int) ≤ (q23.2.1.1 1).toInt ∧ (q23.2.1.1 1).toInt ≤ 2147483647 := k_q23_2_1.1 1
          have e_q23_2_1_3 : (q23.2.1.1 3).toInt = (o3.1 3).toInt := congrArg Int32.toInt (n_q23_2_1.1 3 rfl)
          have g_q23_2_1_3 : (0 : Int) ≤ (q23.2.1.1 3).toInt ∧ (q23.2.1.1 3).toInt ≤ 0 := k_q23_2_1.1 3
          have e_q23_2_1_4 : (q23.2.1.1 4).toInt = (o3.1 4).toInt := congrArg Int32.toInt (n_q23_2_1.1 4 rfl)
          have g_q23_2_1_4 : (0 : Int) ≤ (q23.2.1.1 4).toInt ∧ (q23.2.1.1 4).toInt ≤ 0 := k_q23_2_1.1 4
          have e_q23_2_1_5 : (q23.2.1.1 5).toInt = (o3.1 5).toInt := congrArg Int32.toInt (n_q23_2_1.1 5 rfl)
          have g_q23_2_1_5 : (0 : Int) ≤ (q23.2.1.1 5).toInt ∧ (q23.2.1.1 5).toInt ≤ 0 := k_q23_2_1.1 5
          have e_q23_2_1_16 : (q23.2.1.1 16).toInt = (o3.1 16).toInt := congrArg Int32.toInt (n_q23_2_1.1 16 rfl)
          have g_q23_2_1_16 : (0 : Int) ≤ (q23.2.1.1 16).toInt ∧ (q23.2.1.1 16).toInt ≤ 0 := k_q23_2_1.1 16
          have e_q23_2_1_17 : (q23.2.1.1 17).toInt = (o3.1 17).toInt := congrArg Int32.toInt (n_q23_2_1.1 17 rfl)
          have g_q23_2_1_17 : (0 : Int) ≤ (q23.2.1.1 17).toInt ∧ (q23.2.1.1 17).toInt ≤ 0 := k_q23_2_1.1 17
          have e_q23_2_1_18 : (q23.2.1.1 18).toInt = (o3.1 18).toInt := congrArg Int32.toInt (n_q23_2_1.1 18 rfl)
          have g_q23_2_1_18 : (0 : Int) ≤ (q23.2.1.1 18).toInt ∧ (q23.2.1.1 18).toInt ≤ 0 := k_q23_2_1.1 18
          have e_q23_2_1_30 : (q23.2.1.1 30).toInt = (o3.1 30).toInt := congrArg Int32.toInt (n_q23_2_1.1 30 rfl)
          have g_q23_2_1_30 : (0 : Int) ≤ (q23.2.1.1 30).toInt ∧ (q23.2.1.1 30).toInt ≤ 0 := k_q23_2_1.1 30
          have r_q23_2_2 := fr_tr r_o2 n_q23_2_2 rfl rfl rfl
          have g_q23_2_2_0 : (0 : Int) ≤ (q23.2.2.1 0).toInt ∧ (q23.2.2.1 0).toInt ≤ 5 := k_q23_2_2.1 0
          have g_q23_2_2_1 : ((-2147483648) : Int) ≤ (q23.2.2.1 1).toInt ∧ (q23.2.2.1 1).toInt ≤ 2147483647 := k_q23_2_2.1 1
          have e_q23_2_2_2 : (q23.2.2.1 2).toInt = (o2.1 2).toInt := congrArg Int32.toInt (n_q23_2_2.1 2 rfl)
          have g_q23_2_2_2 : (0 : Int) ≤ (q23.2.2.1 2).toInt ∧ (q23.2.2.1 2).toInt ≤ 0 := k_q23_2_2.1 2
          have e_q23_2_2_3 : (q23.2.2.1 3).toInt = (o2.1 3).toInt := congrArg Int32.toInt (n_q23_2_2.1 3 rfl)
          have g_q23_2_2_3 : (0 : Int) ≤ (q23.2.2.1 3).toInt ∧ (q23.2.2.1 3).toInt ≤ 0 := k_q23_2_2.1 3
          have e_q23_2_2_4 : (q23.2.2.1 4).toInt = (o2.1 4).toInt := congrArg Int32.toInt (n_q23_2_2.1 4 rfl)
          have g_q23_2_2_4 : (0 : Int) ≤ (q23.2.2.1 4).toInt ∧ (q23.2.2.1 4).toInt ≤ 0 := k_q23_2_2.1 4
          have e_q23_2_2_5 : (q23.2.2.1 5).toInt = (o2.1 5).toInt := congrArg Int32.toInt (n_q23_2_2.1 5 rfl)
          have g_q23_2_2_5 : (0 : Int) ≤ (q23.2.2.1 5).toInt ∧ (q23.2.2.1 5).toInt ≤ 0 := k_q23_2_2.1 5
          have e_q23_2_2_16 : (q23.2.2.1 16).toInt = (o2.1 16).toInt := congrArg Int32.toInt (n_q23_2_2.1 16 rfl)
          have g_q23_2_2_16 : (0 : Int) ≤ (q23.2.2.1 16).toInt ∧ (q23.2.2.1 16).toInt ≤ 0 := k_q23_2_2.1 16
          have e_q23_2_2_17 : (q23.2.2.1 17).toInt = (o2.1 17).toInt := congrArg Int32.toInt (n_q23_2_2.1 17 rfl)
          have g_q23_2_2_17 : (0 : Int) ≤ (q23.2.2.1 17).toInt ∧ (q23.2.2.1 17).toInt ≤ 0 := k_q23_2_2.1 17
          have e_q23_2_2_18 : (q23.2.2.1 18).toInt = (o2.1 18).toInt := congrArg Int32.toInt (n_q23_2_2.1 18 rfl)
          have g_q23_2_2_18 : (0 : Int) ≤ (q23.2.2.1 18).toInt ∧ (q23.2.2.1 18).toInt ≤ 0 := k_q23_2_2.1 18
          have e_q23_2_2_30 : (q23.2.2.1 30).toInt = (o2.1 30).toInt := congrArg Int32.toInt (n_q23_2_2.1 30 rfl)
          have g_q23_2_2_30 : (0 : Int) ≤ (q23.2.2.1 30).toInt ∧ (q23.2.2.1 30).toInt ≤ 0 := k_q23_2_2.1 30
          try unfold fF_map_72
          refine tt_w (iv_b i_q23 (by decide) (by decide)) ?_
          refine tt_ko ?_
          have k24 := ok_fp (k := 18) (v := q23.1) k_o0 i_q23
          have r25 := fr_fp (k := 18) (v := q23.1) r_o0 rfl
          refine tt_if (fun c26 => ?_) (fun c26 => ?_)
          · have wc26 : q23.1.toInt = (0 : Int) := c_eq c26
            have i27 : (0 : Int) ≤ q23.1.toInt ∧ q23.1.toInt ≤ 0 := nr_eql c26 i_q23 (show (0 : Int) ≤ (0 : Int32).toInt ∧ (0 : Int32).toInt ≤ 0 by decide) (by decide) (by decide)
            try unfold fF_map_93
            have k28 := ok_fp (k := 30) (v := 0) k24 (iv_w (a := 0) (b := 4) (by decide) (by decide) (show (0 : Int) ≤ (0 : Int32).toInt ∧ (0 : Int32).toInt ≤ 0 by decide))
            have r29 := fr_fp (k := 30) (v := 0) r25 rfl
            exact tt_some ⟨(iv_w (a := (-1)) (b := 418) (by decide) (by decide) (show ((-1) : Int) ≤ ((-1) : Int32).toInt ∧ ((-1) : Int32).toInt ≤ (-1) by decide)), k28, r29, k_q14_2, r_q14_2, k_q23_2_2, r_q23_2_2, k_q23_2_1, r_q23_2_1, k20, r21, zq14_0, zq14_4, (show (q14.2.1 3).toInt ≤ (q14.2.1 4).toInt by omega), (show (q14.2.1 4).toInt = (q14.2.1 5).toInt by omega), zq23_0, (show 0 = 0 ∨ 0 = 2 ∨ 0 = 4 by omega), trivial⟩
          · have wc26 : ¬ q23.1.toInt = (0 : Int) := c_ne c26
            have i30 : (1 : Int) ≤ q23.1.toInt ∧ q23.1.toInt ≤ 1 := nr_nela c26 i_q23 (show (0 : Int) ≤ (0 : Int32).toInt ∧ (0 : Int32).toInt ≤ 0 by decide) (by decide) (by decide)
            try unfold fF_map_93
            have k31 := ok_fp (k := 30) (v := 0) k24 (iv_w (a := 0) (b := 4) (by decide) (by decide) (show (0 : Int) ≤ (0 : Int32).toInt ∧ (0 : Int32).toInt ≤ 0 by decide))
            have r32 := fr_fp (k := 30) (v := 0) r25 rfl
            exact tt_some ⟨(iv_w (a := (-1)) (b := 418) (by decide) (by decide) (k_q23_2_1.1 0)), k31, r32, k_q14_2, r_q14_2, k_q23_2_2, r_q23_2_2, k_q23_2_1, r_q23_2_1, k20, r21, zq14_0, zq14_4, (show (q14.2.1 3).toInt ≤ (q14.2.1 4).toInt by omega), (show (q14.2.1 4).toInt = (q14.2.1 5).toInt by omega), zq23_0, (show 0 = 0 ∨ 0 = 2 ∨ 0 = 4 by omega), trivial⟩
def QF_mapped (v1 : Int32) (o0 : cf_O) (o1 : cf_O) (r : (Int32 × cf_O)) : Prop := (okO I_F r.2) ∧ (Fr (fr_M [30] [] []) o0 r.2) ∧ ((0 : Int) ≤ (r.2.1 30).toInt ∧ (r.2.1 30).toInt ≤ 2) ∧ (Tks (r.2.1 18).toInt (o1.1 0).toInt (o1.2.1 3) (o1.2.2 4)) ∧ ((r.2.1 30).toInt = 0 ∨ (r.2.1 30).toInt = 2 ∨ (r.2.1 30).toInt = 1) ∧ True
set_option maxHeartbeats 4000000 in
set_option maxRecDepth 100000 in
theorem sF_mapped (v1 : Int32) (o0 : cf_O) (o1 : cf_O) (k_o0 : okO I_F o0) (k_o1 : okO I_Mp o1) (x_0 : Tks (o0.1 18).toInt (o1.1 0).toInt (o1.2.1 3) (o1.2.2 4)) : tt (fF_mapped v1 o0 o1) (QF_mapped v1 o0 o1) := by
  have r_o0 : Fr (fr_M [30] [] []) o0 o0 := fr_rfl
  have r_o1 : Fr (fr_M [] [] []) o1 o1 := fr_rfl
  unfold fF_mapped fF_mapped_0
  have i_v1 := iv_top v1
  have g_o0_0 : (0 : Int) ≤ (o0.1 0).toInt ∧ (o0.1 0).toInt ≤ 0 := k_o0.1 0
  have g_o0_1 : (0 : Int) ≤ (o0.1 1).toInt ∧ (o0.1 1).toInt ≤ 0 := k_o0.1 1
  have g_o0_2 : (0 : Int) ≤ (o0.1 2).toInt ∧ (o0.1 2).toInt ≤ 0 := k_o0.1 2
  have g_o0_3 : (0 : Int) ≤ (o0.1 3).toInt ∧ (o0.1 3).toInt ≤ 0 := k_o0.1 3
  have g_o0_4 : (0 : Int) ≤ (o0.1 4).toInt ∧ (o0.1 4).toInt ≤ 0 := k_o0.1 4
  have g_o0_5 : (0 : Int) ≤ (o0.1 5).toInt ∧ (o0.1 5).toInt ≤ 0 := k_o0.1 5
  have g_o0_16 : (0 : Int) ≤ (o0.1 16).toInt ∧ (o0.1 16).toInt ≤ 1 := k_o0.1 16
  have g_o0_17 : (0 : Int) ≤ (o0.1 17).toInt ∧ (o0.1 17).toInt ≤ 1 := k_o0.1 17
  have g_o0_18 : (0 : Int) ≤ (o0.1 18).toInt ∧ (o0.1 18).toInt ≤ 1 := k_o0.1 18
  have g_o0_30 : (0 : Int) ≤ (o0.1 30).toInt ∧ (o0.1 30).toInt ≤ 4 := k_o0.1 30
  have g_o1_0 : (0 : Int) ≤ (o1.1 0).toInt ∧ (o1.1 0).toInt ≤ 418 := k_o1.1 0
  have g_o1_1 : ((-2147483648) : Int) ≤ (o1.1 1).toInt ∧ (o1.1 1).toInt ≤ 2147483647 := k_o1.1 1
  have g_o1_2 : ((-2147483648) : Int) ≤ (o1.1 2).toInt ∧ (o1.1 2).toInt ≤ 2147483647 := k_o1.1 2
  have g_o1_3 : (0 : Int) ≤ (o1.1 3).toInt ∧ (o1.1 3).toInt ≤ 0 := k_o1.1 3
  have g_o1_4 : (0 : Int) ≤ (o1.1 4).toInt ∧ (o1.1 4).toInt ≤ 0 := k_o1.1 4
  have g_o1_5 : (0 : Int) ≤ (o1.1 5).toInt ∧ (o1.1 5).toInt ≤ 0 := k_o1.1 5
  have g_o1_16 : (0 : Int) ≤ (o1.1 16).toInt ∧ (o1.1 16).toInt ≤ 0 := k_o1.1 16
  have g_o1_17 : (0 : Int) ≤ (o1.1 17).toInt ∧ (o1.1 17).toInt ≤ 0 := k_o1.1 17
  have g_o1_18 : (0 : Int) ≤ (o1.1 18).toInt ∧ (o1.1 18).toInt ≤ 0 := k_o1.1 18
  have g_o1_30 : (0 : Int) ≤ (o1.1 30).toInt ∧ (o1.1 30).toInt ≤ 0 := k_o1.1 30
  refine tt_if (fun c1 => ?_) (fun c1 => ?_)
  · have wc1 : (o0.1 18).toInt = (0 : Int) := c_eq c1
    have i2 : (0 : Int) ≤ (o0.1 18).toInt ∧ (o0.1 18).toInt ≤ 0 := nr_eql c1 (k_o0.1 18) (show (0 : Int) ≤ (0 : Int32).toInt ∧ (0 : Int32).toInt ≤ 0 by decide) (by decide) (by decide)
    have k3 := ok_fp (k := 30) (v := 2) k_o0 (iv_w (a := 0) (b := 4) (by decide) (by decide) (show (2 : Int) ≤ (2 : Int32).toInt ∧ (2 : Int32).toInt ≤ 2 by decide))
    have r4 := fr_fp (k := 30) (v := 2) r_o0 rfl
    exact tt_some ⟨k3, r4, (iv_w (a := 0) (b := 2) (by decide) (by decide) (show (2 : Int) ≤ (2 : Int32).toInt ∧ (2 : Int32).toInt ≤ 2 by decide)), x_0, (show 2 = 0 ∨ 2 = 2 ∨ 2 = 1 by omega), trivial⟩
  · have wc1 : ¬ (o0.1 18).toInt = (0 : Int) := c_ne c1
    have i5 : (1 : Int) ≤ (o0.1 18).toInt ∧ (o0.1 18).toInt ≤ 1 := nr_nela c1 (k_o0.1 18) (show (0 : Int) ≤ (0 : Int32).toInt ∧ (0 : Int32).toInt ≤ 0 by decide) (by decide) (by decide)
    try unfold fF_mapped_7
    refine tt_if (fun c6 => ?_) (fun c6 => ?_)
    · have wc6 : v1.toInt = (0 : Int) := c_eq c6
      have i7 : (0 : Int) ≤ v1.toInt ∧ v1.toInt ≤ 0 := nr_eql c6 (iv_top v1) (show (0 : Int) ≤ (0 : Int32).toInt ∧ (0 : Int32).toInt ≤ 0 by decide) (by decide) (by decide)
      have k8 := ok_fp (k := 30) (v := 0) k_o0 (iv_w (a := 0) (b := 4) (by decide) (by decide) (show (0 : Int) ≤ (0 : Int32).toInt ∧ (0 : Int32).toInt ≤ 0 by decide))
      have r9 := fr_fp (k := 30) (v := 0) r_o0 rfl
      exact tt_some ⟨k8, r9, (iv_w (a := 0) (b := 2) (by decide) (by decide) (show (0 : Int) ≤ (0 : Int32).toInt ∧ (0 : Int32).toInt ≤ 0 by decide)), x_0, (show 0 = 0 ∨ 0 = 2 ∨ 0 = 1 by omega), trivial⟩
    · have wc6 : ¬ v1.toInt = (0 : Int) := c_ne c6
      refine tt_if (fun c10 => ?_) (fun c10 => ?_)
      · have wc10 : v1.toInt = (1 : Int) := c_eq c10
        have i11 : (1 : Int) ≤ v1.toInt ∧ v1.toInt ≤ 1 := nr_eql c10 (iv_top v1) (show (1 : Int) ≤ (1 : Int32).toInt ∧ (1 : Int32).toInt ≤ 1 by decide) (by decide) (by decide)
        have k12 := ok_fp (k := 30) (v := 0) k_o0 (iv_w (a := 0) (b := 4) (by decide) (by decide) (show (0 : Int) ≤ (0 : Int32).toInt ∧ (0 : Int32).toInt ≤ 0 by decide))
        have r13 := fr_fp (k := 30) (v := 0) r_o0 rfl
        exact tt_some ⟨k12, r13, (iv_w (a := 0) (b := 2) (by decide) (by decide) (show (0 : Int) ≤ (0 : Int32).toInt ∧ (0 : Int32).toInt ≤ 0 by decide)), x_0, (show 0 = 0 ∨ 0 = 2 ∨ 0 = 1 by omega), trivial⟩
      · have wc10 : ¬ v1.toInt = (1 : Int) := c_ne c10
        refine tt_if (fun c14 => ?_) (fun c14 => ?_)
        · have wc14 : v1.toInt = (2 : Int) := c_eq c14
          have i15 : (2 : Int) ≤ v1.toInt ∧ v1.toInt ≤ 2 := nr_eql c14 (iv_top v1) (show (2 : Int) ≤ (2 : Int32).toInt ∧ (2 : Int32).toInt ≤ 2 by decide) (by decide) (by decide)
          have k16 := ok_fp (k := 30) (v := 0) k_o0 (iv_w (a := 0) (b := 4) (by decide) (by decide) (show (0 : Int) ≤ (0 : Int32).toInt ∧ (0 : Int32).toInt ≤ 0 by decide))
          have r17 := fr_fp (k := 30) (v := 0) r_o0 rfl
          exact tt_some ⟨k16, r17, (iv_w (a := 0) (b := 2) (by decide) (by decide) (show (0 : Int) ≤ (0 : Int32).toInt ∧ (0 : Int32).toInt ≤ 0 by decide)), x_0, (show 0 = 0 ∨ 0 = 2 ∨ 0 = 1 by omega), trivial⟩
        · have wc14 : ¬ v1.toInt = (2 : Int) := c_ne c14
          have k18 := ok_fp (k := 30) (v := 1) k_o0 (iv_w (a := 0) (b := 4) (by decide) (by decide) (show (1 : Int) ≤ (1 : Int32).toInt ∧ (1 : Int32).toInt ≤ 1 by decide))
          have r19 := fr_fp (k := 30) (v := 1) r_o0 rfl
          exact tt_some ⟨k18, r19, (iv_w (a := 0) (b := 2) (by decide) (by decide) (show (1 : Int) ≤ (1 : Int32).toInt ∧ (1 : Int32).toInt ≤ 1 by decide)), x_0, (show 1 = 0 ∨ 1 = 2 ∨ 1 = 1 by omega), trivial⟩
def QF_instance (v1 : Int32) (v2 : Int32) (o0 : cf_O) (o1 : cf_O) (o2 : cf_O) (r : (Int32 × cf_O)) : Prop := ((0 : Int) ≤ r.1.toInt ∧ r.1.toInt ≤ 1048575) ∧ (okO I_F r.2) ∧ (Fr (fr_M [30] [] []) o0 r.2) ∧ ((0 : Int) ≤ (r.2.1 30).toInt ∧ (r.2.1 30).toInt ≤ 3) ∧ (Tks (r.2.1 18).toInt (o1.1 0).toInt (o1.2.1 3) (o1.2.2 4)) ∧ ((r.2.1 30).toInt = 0 ∨ (r.2.1 30).toInt = 2 ∨ (r.2.1 30).toInt = 3 ∨ (r.2.1 30).toInt = 1) ∧ True
set_option maxHeartbeats 4000000 in
set_option maxRecDepth 100000 in
theorem sF_instance (v1 : Int32) (v2 : Int32) (o0 : cf_O) (o1 : cf_O) (o2 : cf_O) (k_o0 : okO I_F o0) (k_o1 : okO I_Mp o1) (k_o2 : okO I_Li o2) (x_0 : Tks (o0.1 18).toInt (o1.1 0).toInt (o1.2.1 3) (o1.2.2 4)) (x_1 : Hlb (o2.1 0).toInt (o2.1 7).toInt (o2.1 1).toInt (o2.2.1 8) (o2.2.1 9) (o2.2.1 10) (o2.2.1 11) (o2.2.1 5)) : tt (fF_instance v1 v2 o0 o1 o2) (QF_instance v1 v2 o0 o1 o2) := by
  have r_o0 : Fr (fr_M [30] [] []) o0 o0 := fr_rfl
  have r_o1 : Fr (fr_M [] [] []) o1 o1 := fr_rfl
  have r_o2 : Fr (fr_M [] [] []) o2 o2 := fr_rfl
  unfold fF_instance fF_instance_0
  have i_v1 := iv_top v1
  have i_v2 := iv_top v2
  have g_o0_0 : (0 : Int) ≤ (o0.1 0).toInt ∧ (o0.1 0).toInt ≤ 0 := k_o0.1 0
  have g_o0_1 : (0 : Int) ≤ (o0.1 1).toInt ∧ (o0.1 1).toInt ≤ 0 := k_o0.1 1
  have g_o0_2 : (0 : Int) ≤ (o0.1 2).toInt ∧ (o0.1 2).toInt ≤ 0 := k_o0.1 2
  have g_o0_3 : (0 : Int) ≤ (o0.1 3).toInt ∧ (o0.1 3).toInt ≤ 0 := k_o0.1 3
  have g_o0_4 : (0 : Int) ≤ (o0.1 4).toInt ∧ (o0.1 4).toInt ≤ 0 := k_o0.1 4
  have g_o0_5 : (0 : Int) ≤ (o0.1 5).toInt ∧ (o0.1 5).toInt ≤ 0 := k_o0.1 5
  have g_o0_16 : (0 : Int) ≤ (o0.1 16).toInt ∧ (o0.1 16).toInt ≤ 1 := k_o0.1 16
  have g_o0_17 : (0 : Int) ≤ (o0.1 17).toInt ∧ (o0.1 17).toInt ≤ 1 := k_o0.1 17
  have g_o0_18 : (0 : Int) ≤ (o0.1 18).toInt ∧ (o0.1 18).toInt ≤ 1 := k_o0.1 18
  have g_o0_30 : (0 : Int) ≤ (o0.1 30).toInt ∧ (o0.1 30).toInt ≤ 4 := k_o0.1 30
  have g_o1_0 : (0 : Int) ≤ (o1.1 0).toInt ∧ (o1.1 0).toInt ≤ 418 := k_o1.1 0
  have g_o1_1 : ((-2147483648) : Int) ≤ (o1.1 1).toInt ∧ (o1.1 1).toInt ≤ 2147483647 := k_o1.1 1
  have g_o1_2 : ((-2147483648) : Int) ≤ (o1.1 2).toInt ∧ (o1.1 2).toInt ≤ 2147483647 := k_o1.1 2
  have g_o1_3 : (0 : Int) ≤ (o1.1 3).toInt ∧ (o1.1 3).toInt ≤ 0 := k_o1.1 3
  have g_o1_4 : (0 : Int) ≤ (o1.1 4).toInt ∧ (o1.1 4).toInt ≤ 0 := k_o1.1 4
  have g_o1_5 : (0 : Int) ≤ (o1.1 5).toInt ∧ (o1.1 5).toInt ≤ 0 := k_o1.1 5
  have g_o1_16 : (0 : Int) ≤ (o1.1 16).toInt ∧ (o1.1 16).toInt ≤ 0 := k_o1.1 16
  have g_o1_17 : (0 : Int) ≤ (o1.1 17).toInt ∧ (o1.1 17).toInt ≤ 0 := k_o1.1 17
  have g_o1_18 : (0 : Int) ≤ (o1.1 18).toInt ∧ (o1.1 18).toInt ≤ 0 := k_o1.1 18
  have g_o1_30 : (0 : Int) ≤ (o1.1 30).toInt ∧ (o1.1 30).toInt ≤ 0 := k_o1.1 30
  have g_o2_0 : (0 : Int) ≤ (o2.1 0).toInt ∧ (o2.1 0).toInt ≤ 12 := k_o2.1 0
  have g_o2_1 : ((-1) : Int) ≤ (o2.1 1).toInt ∧ (o2.1 1).toInt ≤ 11 := k_o2.1 1
  have g_o2_2 : (0 : Int) ≤ (o2.1 2).toInt ∧ (o2.1 2).toInt ≤ 0 := k_o2.1 2
  have g_o2_3 : (0 : Int) ≤ (o2.1 3).toInt ∧ (o2.1 3).toInt ≤ 0 := k_o2.1 3
  have g_o2_4 : (0 : Int) ≤ (o2.1 4).toInt ∧ (o2.1 4).toInt ≤ 0 := k_o2.1 4
  have g_o2_5 : (0 : Int) ≤ (o2.1 5).toInt ∧ (o2.1 5).toInt ≤ 0 := k_o2.1 5
  have g_o2_16 : (0 : Int) ≤ (o2.1 16).toInt ∧ (o2.1 16).toInt ≤ 0 := k_o2.1 16
  have g_o2_17 : (0 : Int) ≤ (o2.1 17).toInt ∧ (o2.1 17).toInt ≤ 0 := k_o2.1 17
  have g_o2_18 : (0 : Int) ≤ (o2.1 18).toInt ∧ (o2.1 18).toInt ≤ 0 := k_o2.1 18
  have g_o2_30 : (0 : Int) ≤ (o2.1 30).toInt ∧ (o2.1 30).toInt ≤ 0 := k_o2.1 30
  refine tt_if (fun c1 => ?_) (fun c1 => ?_)
  · have wc1 : (o0.1 18).toInt = (0 : Int) := c_eq c1
    have i2 : (0 : Int) ≤ (o0.1 18).toInt ∧ (o0.1 18).toInt ≤ 0 := nr_eql c1 (k_o0.1 18) (show (0 : Int) ≤ (0 : Int32).toInt ∧ (0 : Int32).toInt ≤ 0 by decide) (by decide) (by decide)
    have k3 := ok_fp (k := 30) (v := 2) k_o0 (iv_w (a := 0) (b := 4) (by decide) (by decide) (show (2 : Int) ≤ (2 : Int32).toInt ∧ (2 : Int32).toInt ≤ 2 by decide))
    have r4 := fr_fp (k := 30) (v := 2) r_o0 rfl
    exact tt_some ⟨(iv_w (a := 0) (b := 1048575) (by decide) (by decide) (show (0 : Int) ≤ (0 : Int32).toInt ∧ (0 : Int32).toInt ≤ 0 by decide)), k3, r4, (iv_w (a := 0) (b := 3) (by decide) (by decide) (show (2 : Int) ≤ (2 : Int32).toInt ∧ (2 : Int32).toInt ≤ 2 by decide)), x_0, (show 2 = 0 ∨ 2 = 2 ∨ 2 = 3 ∨ 2 = 1 by omega), trivial⟩
  · have wc1 : ¬ (o0.1 18).toInt = (0 : Int) := c_ne c1
    have i5 : (1 : Int) ≤ (o0.1 18).toInt ∧ (o0.1 18).toInt ≤ 1 := nr_nela c1 (k_o0.1 18) (show (0 : Int) ≤ (0 : Int32).toInt ∧ (0 : Int32).toInt ≤ 0 by decide) (by decide) (by decide)
    try unfold fF_instance_7
    refine tt_if (fun c6 => ?_) (fun c6 => ?_)
    · have wc6 : v1.toInt < (0 : Int) := c_lt c6
      have i7 : ((-2147483648) : Int) ≤ v1.toInt ∧ v1.toInt ≤ (-1) := nr_ltl c6 (iv_top v1) (show (0 : Int) ≤ (0 : Int32).toInt ∧ (0 : Int32).toInt ≤ 0 by decide) (by decide) (by decide)
      try unfold fF_instance_26
      try unfold fF_instance_27
      refine tt_if (fun c8 => ?_) (fun c8 => ?_)
      · have wc8 : (0 : Int) = (0 : Int) := c_eq c8
        have k9 := ok_fp (k := 30) (v := 3) k_o0 (iv_w (a := 0) (b := 4) (by decide) (by decide) (show (3 : Int) ≤ (3 : Int32).toInt ∧ (3 : Int32).toInt ≤ 3 by decide))
        have r10 := fr_fp (k := 30) (v := 3) r_o0 rfl
        exact tt_some ⟨(iv_w (a := 0) (b := 1048575) (by decide) (by decide) (show (0 : Int) ≤ (0 : Int32).toInt ∧ (0 : Int32).toInt ≤ 0 by decide)), k9, r10, (iv_w (a := 0) (b := 3) (by decide) (by decide) (show (3 : Int) ≤ (3 : Int32).toInt ∧ (3 : Int32).toInt ≤ 3 by decide)), x_0, (show 3 = 0 ∨ 3 = 2 ∨ 3 = 3 ∨ 3 = 1 by omega), trivial⟩
      · have wc8 : ¬ (0 : Int) = (0 : Int) := c_ne c8
        exact (dd_ne c8 (show (0 : Int) ≤ (0 : Int32).toInt ∧ (0 : Int32).toInt ≤ 0 by decide) (show (0 : Int) ≤ (0 : Int32).toInt ∧ (0 : Int32).toInt ≤ 0 by decide)).elim
    · have wc6 : (0 : Int) ≤ v1.toInt := c_nlt c6
      have i11 : (0 : Int) ≤ v1.toInt ∧ v1.toInt ≤ 2147483647 := nr_nltr c6 (show (0 : Int) ≤ (0 : Int32).toInt ∧ (0 : Int32).toInt ≤ 0 by decide) (iv_top v1) (by decide) (by decide)
      refine tt_if (fun c12 => ?_) (fun c12 => ?_)
      · have wc12 : (o1.1 0).toInt ≤ v1.toInt := c_le c12
        try unfold fF_instance_26
        try unfold fF_instance_27
        refine tt_if (fun c13 => ?_) (fun c13 => ?_)
        · have wc13 : (0 : Int) = (0 : Int) := c_eq c13
          have k14 := ok_fp (k := 30) (v := 3) k_o0 (iv_w (a := 0) (b := 4) (by decide) (by decide) (show (3 : Int) ≤ (3 : Int32).toInt ∧ (3 : Int32).toInt ≤ 3 by decide))
          have r15 := fr_fp (k := 30) (v := 3) r_o0 rfl
          exact tt_some ⟨(iv_w (a := 0) (b := 1048575) (by decide) (by decide) (show (0 : Int) ≤ (0 : Int32).toInt ∧ (0 : Int32).toInt ≤ 0 by decide)), k14, r15, (iv_w (a := 0) (b := 3) (by decide) (by decide) (show (3 : Int) ≤ (3 : Int32).toInt ∧ (3 : Int32).toInt ≤ 3 by decide)), x_0, (show 3 = 0 ∨ 3 = 2 ∨ 3 = 3 ∨ 3 = 1 by omega), trivial⟩
        · have wc13 : ¬ (0 : Int) = (0 : Int) := c_ne c13
          exact (dd_ne c13 (show (0 : Int) ≤ (0 : Int32).toInt ∧ (0 : Int32).toInt ≤ 0 by decide) (show (0 : Int) ≤ (0 : Int32).toInt ∧ (0 : Int32).toInt ≤ 0 by decide)).elim
      · have wc12 : v1.toInt < (o1.1 0).toInt := c_nle c12
        have i16 : (0 : Int) ≤ v1.toInt ∧ v1.toInt ≤ 417 := nr_nlel c12 i11 (k_o1.1 0) (by decide) (by decide)
        have i17 : (1 : Int) ≤ (o1.1 0).toInt ∧ (o1.1 0).toInt ≤ 418 := nr_nler c12 i11 (k_o1.1 0) (by decide) (by decide)
        try unfold fF_instance_27
        refine tt_if (fun c18 => ?_) (fun c18 => ?_)
        · have wc18 : (1 : Int) = (0 : Int) := c_eq c18
          exact (dd_eq c18 (show (1 : Int) ≤ (1 : Int32).toInt ∧ (1 : Int32).toInt ≤ 1 by decide) (show (0 : Int) ≤ (0 : Int32).toInt ∧ (0 : Int32).toInt ≤ 0 by decide) (by decide)).elim
        · have wc18 : ¬ (1 : Int) = (0 : Int) := c_ne c18
          try unfold fF_instance_30
          refine tt_if (fun c19 => ?_) (fun c19 => ?_)
          · have wc19 : (0 : Int) ≤ v2.toInt := c_le c19
            have i20 : (0 : Int) ≤ v2.toInt ∧ v2.toInt ≤ 2147483647 := nr_ler c19 (show (0 : Int) ≤ (0 : Int32).toInt ∧ (0 : Int32).toInt ≤ 0 by decide) (iv_top v2) (by decide) (by decide)
            refine tt_n (ix_ok i16 (by decide) (by decide)) ?_
            refine tt_kv (P := fun z => ((0 : Int) ≤ z.toInt ∧ z.toInt ≤ 417) ∧ z = (o1.2.1 3 v1.toNatClampNeg) ∧ z.toInt = (o1.2.1 3 v1.toNatClampNeg).toInt) ⟨(k_o1.2 3 _), rfl, rfl⟩ (fun x21 qi22 => ?_)
            obtain ⟨i22, ax21, ei22⟩ := qi22
            refine tt_n (ix_ok i22 (by decide) (by decide)) ?_
            refine tt_klr (fun x23 ax23 => ?_)
            refine tt_if (fun c24 => ?_) (fun c24 => ?_)
            · have wc24 : v2.toInt = (0 : Int) := c_eq c24
              have i25 : (0 : Int) ≤ v2.toInt ∧ v2.toInt ≤ 0 := nr_eql c24 i20 (show (0 : Int) ≤ (0 : Int32).toInt ∧ (0 : Int32).toInt ≤ 0 by decide) (by decide) (by decide)
              have k26 := ok_fp (k := 30) (v := 0) k_o0 (iv_w (a := 0) (b := 4) (by decide) (by decide) (show (0 : Int) ≤ (0 : Int32).toInt ∧ (0 : Int32).toInt ≤ 0 by decide))
              have r27 := fr_fp (k := 30) (v := 0) r_o0 rfl
              exact tt_some ⟨(iv_w (a := 0) (b := 1048575) (by decide) (by decide) i22), k26, r27, (iv_w (a := 0) (b := 3) (by decide) (by decide) (show (0 : Int) ≤ (0 : Int32).toInt ∧ (0 : Int32).toInt ≤ 0 by decide)), x_0, (show 0 = 0 ∨ 0 = 2 ∨ 0 = 3 ∨ 0 = 1 by omega), trivial⟩
            · have wc24 : ¬ v2.toInt = (0 : Int) := c_ne c24
              have i28 : (1 : Int) ≤ v2.toInt ∧ v2.toInt ≤ 2147483647 := nr_nela c24 i20 (show (0 : Int) ≤ (0 : Int32).toInt ∧ (0 : Int32).toInt ≤ 0 by decide) (by decide) (by decide)
              refine tt_if (fun c29 => ?_) (fun c29 => ?_)
              · have wc29 : v2.toInt = (1 : Int) := c_eq c29
                have i30 : (1 : Int) ≤ v2.toInt ∧ v2.toInt ≤ 1 := nr_eql c29 i28 (show (1 : Int) ≤ (1 : Int32).toInt ∧ (1 : Int32).toInt ≤ 1 by decide) (by decide) (by decide)
                refine tt_be (sMp_cellOf _ ) (fun q31 hq31 eq31 => ?_)
                obtain ⟨i_q31, -⟩ := hq31
                have t32 := Mgd_c (Tki_m (Tks_k x_0 (by omega)) (i := v1.toNatClampNeg) (by rw [tn_n]; omega) (by assumption) (by assumption)) eq31 rfl
                try unfold fF_instance_99
                have k33 := ok_fp (k := 30) (v := 0) k_o0 (iv_w (a := 0) (b := 4) (by decide) (by decide) (show (0 : Int) ≤ (0 : Int32).toInt ∧ (0 : Int32).toInt ≤ 0 by decide))
                have r34 := fr_fp (k := 30) (v := 0) r_o0 rfl
                exact tt_some ⟨(iv_w (a := 0) (b := 1048575) (by decide) (by decide) i_q31), k33, r34, (iv_w (a := 0) (b := 3) (by decide) (by decide) (show (0 : Int) ≤ (0 : Int32).toInt ∧ (0 : Int32).toInt ≤ 0 by decide)), x_0, (show 0 = 0 ∨ 0 = 2 ∨ 0 = 3 ∨ 0 = 1 by omega), trivial⟩
              · have wc29 : ¬ v2.toInt = (1 : Int) := c_ne c29
                have i35 : (2 : Int) ≤ v2.toInt ∧ v2.toInt ≤ 2147483647 := nr_nela c29 i28 (show (1 : Int) ≤ (1 : Int32).toInt ∧ (1 : Int32).toInt ≤ 1 by decide) (by decide) (by decide)
                refine tt_if (fun c36 => ?_) (fun c36 => ?_)
                · have wc36 : v2.toInt = (2 : Int) := c_eq c36
                  have i37 : (2 : Int) ≤ v2.toInt ∧ v2.toInt ≤ 2 := nr_eql c36 i35 (show (2 : Int) ≤ (2 : Int32).toInt ∧ (2 : Int32).toInt ≤ 2 by decide) (by decide) (by decide)
                  refine tt_b (sMp_timeOf _ ) (fun q38 hq38 => ?_)
                  obtain ⟨i_q38, -⟩ := hq38
                  try unfold fF_instance_105
                  have k39 := ok_fp (k := 30) (v := 0) k_o0 (iv_w (a := 0) (b := 4) (by decide) (by decide) (show (0 : Int) ≤ (0 : Int32).toInt ∧ (0 : Int32).toInt ≤ 0 by decide))
                  have r40 := fr_fp (k := 30) (v := 0) r_o0 rfl
                  exact tt_some ⟨i_q38, k39, r40, (iv_w (a := 0) (b := 3) (by decide) (by decide) (show (0 : Int) ≤ (0 : Int32).toInt ∧ (0 : Int32).toInt ≤ 0 by decide)), x_0, (show 0 = 0 ∨ 0 = 2 ∨ 0 = 3 ∨ 0 = 1 by omega), trivial⟩
                · have wc36 : ¬ v2.toInt = (2 : Int) := c_ne c36
                  have i41 : (3 : Int) ≤ v2.toInt ∧ v2.toInt ≤ 2147483647 := nr_nela c36 i35 (show (2 : Int) ≤ (2 : Int32).toInt ∧ (2 : Int32).toInt ≤ 2 by decide) (by decide) (by decide)
                  refine tt_kv (P := fun z => ((0 : Int) ≤ z.toInt ∧ z.toInt ≤ 2147483644) ∧ z = (v2 - 3) ∧ z.toInt = v2.toInt - 3) ⟨iv_sub i41 (show (3 : Int) ≤ (3 : Int32).toInt ∧ (3 : Int32).toInt ≤ 3 by decide) (by decide) (by decide) (by decide) (by decide), rfl, iq_sub i41 (show (3 : Int) ≤ (3 : Int32).toInt ∧ (3 : Int32).toInt ≤ 3 by decide) (by decide) (by decide)⟩ (fun x42 qi43 => ?_)
                  obtain ⟨i43, ax42, ei43⟩ := qi43
                  refine tt_be (sMp_cellOf _ ) (fun q44 hq44 eq44 => ?_)
                  obtain ⟨i_q44, -⟩ := hq44
                  have t45 := Mgd_c (Tki_m (Tks_k x_0 (by omega)) (i := v1.toNatClampNeg) (by rw [tn_n]; omega) (by assumption) (by assumption)) eq44 rfl
                  try unfold fF_instance_121
                  refine tt_n (ix_rel (by omega) (by omega)) ?_
                  have i46 : (0 : Int) ≤ q44.toInt ∧ q44.toInt ≤ 11 := (by omega)
                  refine tt_kv (P := fun z => ((0 : Int) ≤ z.toInt ∧ z.toInt ≤ 3) ∧ z = (o2.2.1 5 q44.toNatClampNeg) ∧ z.toInt = (o2.2.1 5 q44.toNatClampNeg).toInt) ⟨(k_o2.2 5 _), rfl, rfl⟩ (fun x47 qi48 => ?_)
                  obtain ⟨i48, ax47, ei48⟩ := qi48
                  refine tt_if (fun c49 => ?_) (fun c49 => ?_)
                  · have wc49 : x47.toInt ≤ x42.toInt := c_le c49
                    try unfold fF_instance_130
                    refine tt_if (fun c50 => ?_) (fun c50 => ?_)
                    · have wc50 : (0 : Int) = (0 : Int) := c_eq c50
                      have k51 := ok_fp (k := 30) (v := 3) k_o0 (iv_w (a := 0) (b := 4) (by decide) (by decide) (show (3 : Int) ≤ (3 : Int32).toInt ∧ (3 : Int32).toInt ≤ 3 by decide))
                      have r52 := fr_fp (k := 30) (v := 3) r_o0 rfl
                      exact tt_some ⟨(iv_w (a := 0) (b := 1048575) (by decide) (by decide) (show (0 : Int) ≤ (0 : Int32).toInt ∧ (0 : Int32).toInt ≤ 0 by decide)), k51, r52, (iv_w (a := 0) (b := 3) (by decide) (by decide) (show (3 : Int) ≤ (3 : Int32).toInt ∧ (3 : Int32).toInt ≤ 3 by decide)), x_0, (show 3 = 0 ∨ 3 = 2 ∨ 3 = 3 ∨ 3 = 1 by omega), trivial⟩
                    · have wc50 : ¬ (0 : Int) = (0 : Int) := c_ne c50
                      exact (dd_ne c50 (show (0 : Int) ≤ (0 : Int32).toInt ∧ (0 : Int32).toInt ≤ 0 by decide) (show (0 : Int) ≤ (0 : Int32).toInt ∧ (0 : Int32).toInt ≤ 0 by decide)).elim
                  · have wc49 : x42.toInt < x47.toInt := c_nle c49
                    have i53 : (0 : Int) ≤ x42.toInt ∧ x42.toInt ≤ 2 := nr_nlel c49 i43 i48 (by decide) (by decide)
                    have i54 : (3 : Int) ≤ v2.toInt ∧ v2.toInt ≤ 5 := by omega
                    have i55 : (1 : Int) ≤ x47.toInt ∧ x47.toInt ≤ 3 := nr_nler c49 i43 i48 (by decide) (by decide)
                    try unfold fF_instance_130
                    refine tt_if (fun c56 => ?_) (fun c56 => ?_)
                    · have wc56 : (1 : Int) = (0 : Int) := c_eq c56
                      exact (dd_eq c56 (show (1 : Int) ≤ (1 : Int32).toInt ∧ (1 : Int32).toInt ≤ 1 by decide) (show (0 : Int) ≤ (0 : Int32).toInt ∧ (0 : Int32).toInt ≤ 0 by decide) (by decide)).elim
                    · have wc56 : ¬ (1 : Int) = (0 : Int) := c_ne c56
                      try unfold fF_instance_133
                      refine tt_kv (P := fun z => ((0 : Int) ≤ z.toInt ∧ z.toInt ≤ 2) ∧ z = (v2 - 3) ∧ z.toInt = v2.toInt - 3) ⟨iv_sub i54 (show (3 : Int) ≤ (3 : Int32).toInt ∧ (3 : Int32).toInt ≤ 3 by decide) (by decide) (by decide) (by decide) (by decide), rfl, iq_sub i54 (show (3 : Int) ≤ (3 : Int32).toInt ∧ (3 : Int32).toInt ≤ 3 by decide) (by decide) (by decide)⟩ (fun x57 qi58 => ?_)
                      obtain ⟨i58, ax57, ei58⟩ := qi58
                      refine tt_b (sMp_pinOf _ _ i58) (fun q59 hq59 => ?_)
                      obtain ⟨i_q59, -⟩ := hq59
                      try unfold fF_instance_141
                      have k60 := ok_fp (k := 30) (v := 0) k_o0 (iv_w (a := 0) (b := 4) (by decide) (by decide) (show (0 : Int) ≤ (0 : Int32).toInt ∧ (0 : Int32).toInt ≤ 0 by decide))
                      have r61 := fr_fp (k := 30) (v := 0) r_o0 rfl
                      exact tt_some ⟨(iv_w (a := 0) (b := 1048575) (by decide) (by decide) i_q59), k60, r61, (iv_w (a := 0) (b := 3) (by decide) (by decide) (show (0 : Int) ≤ (0 : Int32).toInt ∧ (0 : Int32).toInt ≤ 0 by decide)), x_0, (show 0 = 0 ∨ 0 = 2 ∨ 0 = 3 ∨ 0 = 1 by omega), trivial⟩
          · have wc19 : v2.toInt < (0 : Int) := c_nle c19
            have i62 : ((-2147483648) : Int) ≤ v2.toInt ∧ v2.toInt ≤ (-1) := nr_nlel c19 (iv_top v2) (show (0 : Int) ≤ (0 : Int32).toInt ∧ (0 : Int32).toInt ≤ 0 by decide) (by decide) (by decide)
            have k63 := ok_fp (k := 30) (v := 1) k_o0 (iv_w (a := 0) (b := 4) (by decide) (by decide) (show (1 : Int) ≤ (1 : Int32).toInt ∧ (1 : Int32).toInt ≤ 1 by decide))
            have r64 := fr_fp (k := 30) (v := 1) r_o0 rfl
            exact tt_some ⟨(iv_w (a := 0) (b := 1048575) (by decide) (by decide) (show (0 : Int) ≤ (0 : Int32).toInt ∧ (0 : Int32).toInt ≤ 0 by decide)), k63, r64, (iv_w (a := 0) (b := 3) (by decide) (by decide) (show (1 : Int) ≤ (1 : Int32).toInt ∧ (1 : Int32).toInt ≤ 1 by decide)), x_0, (show 1 = 0 ∨ 1 = 2 ∨ 1 = 3 ∨ 1 = 1 by omega), trivial⟩
def QF_mappedSign (v1 : Int32) (o0 : cf_O) (o1 : cf_O) (o2 : cf_O) (o3 : cf_O) (o4 : cf_O) (o5 : cf_O) (o6 : cf_O) (r : (Int32 × cf_O × cf_O × cf_O)) : Prop := (((-1) : Int) ≤ r.1.toInt ∧ r.1.toInt ≤ 255) ∧ (okO I_F r.2.1) ∧ (Fr (fr_M [30] [] []) o0 r.2.1) ∧ ((0 : Int) ≤ (r.2.1.1 30).toInt ∧ (r.2.1.1 30).toInt ≤ 3) ∧ (okO I_Sc r.2.2.1) ∧ (Fr (fr_M [0] [] []) o2 r.2.2.1) ∧ (okO I_SB r.2.2.2) ∧ (Fr (fr_M [0, 2, 3] [0] []) o6 r.2.2.2) ∧ (Tks (r.2.1.1 18).toInt (o1.1 0).toInt (o1.2.1 3) (o1.2.2 4)) ∧ ((r.2.2.2.1 3).toInt ≤ (r.2.2.2.1 0).toInt) ∧ ((r.2.1.1 30).toInt = 0 ∨ (r.2.1.1 30).toInt = 2 ∨ (r.2.1.1 30).toInt = 3) ∧ True
set_option maxHeartbeats 4000000 in
set_option maxRecDepth 100000 in
theorem sF_mappedSign (v1 : Int32) (o0 : cf_O) (o1 : cf_O) (o2 : cf_O) (o3 : cf_O) (o4 : cf_O) (o5 : cf_O) (o6 : cf_O) (k_o0 : okO I_F o0) (k_o1 : okO I_Mp o1) (k_o2 : okO I_Sc o2) (k_o3 : okO I_Nl o3) (k_o4 : okO I_Gr o4) (k_o5 : okO I_Li o5) (k_o6 : okO I_SB o6) (x_0 : Gx ((o4.1 0).toInt + 1) (o4.1 2).toInt (sh ((o4.1 0).toInt + 1) (o4.2.1 4)) (sh ((o4.1 0).toInt + 1) (o4.2.1 5))) (x_1 : No (o4.1 1).toInt (((o4.1 0).toInt + 1) + (o4.1 2).toInt) (o4.2.1 7)) (x_2 : Tks (o0.1 18).toInt (o1.1 0).toInt (o1.2.1 3) (o1.2.2 4)) (x_3 : Hlb (o5.1 0).toInt (o5.1 7).toInt (o5.1 1).toInt (o5.2.1 8) (o5.2.1 9) (o5.2.1 10) (o5.2.1 11) (o5.2.1 5)) (x_4 : Rwo (o3.2.1 12)) (x_5 : (o6.1 3).toInt ≤ (o6.1 0).toInt) : tt (fF_mappedSign v1 o0 o1 o2 o3 o4 o5 o6) (QF_mappedSign v1 o0 o1 o2 o3 o4 o5 o6) := by
  have r_o0 : Fr (fr_M [30] [] []) o0 o0 := fr_rfl
  have r_o1 : Fr (fr_M [] [] []) o1 o1 := fr_rfl
  have r_o2 : Fr (fr_M [0] [] []) o2 o2 := fr_rfl
  have r_o3 : Fr (fr_M [] [] []) o3 o3 := fr_rfl
  have r_o4 : Fr (fr_M [] [] []) o4 o4 := fr_rfl
  have r_o5 : Fr (fr_M [] [] []) o5 o5 := fr_rfl
  have r_o6 : Fr (fr_M [0, 2, 3] [0] []) o6 o6 := fr_rfl
  unfold fF_mappedSign fF_mappedSign_0
  have i_v1 := iv_top v1
  have g_o0_0 : (0 : Int) ≤ (o0.1 0).toInt ∧ (o0.1 0).toInt ≤ 0 := k_o0.1 0
  have g_o0_1 : (0 : Int) ≤ (o0.1 1).toInt ∧ (o0.1 1).toInt ≤ 0 := k_o0.1 1
  have g_o0_2 : (0 : Int) ≤ (o0.1 2).toInt ∧ (o0.1 2).toInt ≤ 0 := k_o0.1 2
  have g_o0_3 : (0 : Int) ≤ (o0.1 3).toInt ∧ (o0.1 3).toInt ≤ 0 := k_o0.1 3
  have g_o0_4 : (0 : Int) ≤ (o0.1 4).toInt ∧ (o0.1 4).toInt ≤ 0 := k_o0.1 4
  have g_o0_5 : (0 : Int) ≤ (o0.1 5).toInt ∧ (o0.1 5).toInt ≤ 0 := k_o0.1 5
  have g_o0_16 : (0 : Int) ≤ (o0.1 16).toInt ∧ (o0.1 16).toInt ≤ 1 := k_o0.1 16
  have g_o0_17 : (0 : Int) ≤ (o0.1 17).toInt ∧ (o0.1 17).toInt ≤ 1 := k_o0.1 17
  have g_o0_18 : (0 : Int) ≤ (o0.1 18).toInt ∧ (o0.1 18).toInt ≤ 1 := k_o0.1 18
  have g_o0_30 : (0 : Int) ≤ (o0.1 30).toInt ∧ (o0.1 30).toInt ≤ 4 := k_o0.1 30
  have g_o1_0 : (0 : Int) ≤ (o1.1 0).toInt ∧ (o1.1 0).toInt ≤ 418 := k_o1.1 0
  have g_o1_1 : ((-2147483648) : Int) ≤ (o1.1 1).toInt ∧ (o1.1 1).toInt ≤ 2147483647 := k_o1.1 1
  have g_o1_2 : ((-2147483648) : Int) ≤ (o1.1 2).toInt ∧ (o1.1 2).toInt ≤ 2147483647 := k_o1.1 2
  have g_o1_3 : (0 : Int) ≤ (o1.1 3).toInt ∧ (o1.1 3).toInt ≤ 0 := k_o1.1 3
  have g_o1_4 : (0 : Int) ≤ (o1.1 4).toInt ∧ (o1.1 4).toInt ≤ 0 := k_o1.1 4
  have g_o1_5 : (0 : Int) ≤ (o1.1 5).toInt ∧ (o1.1 5).toInt ≤ 0 := k_o1.1 5
  have g_o1_16 : (0 : Int) ≤ (o1.1 16).toInt ∧ (o1.1 16).toInt ≤ 0 := k_o1.1 16
  have g_o1_17 : (0 : Int) ≤ (o1.1 17).toInt ∧ (o1.1 17).toInt ≤ 0 := k_o1.1 17
  have g_o1_18 : (0 : Int) ≤ (o1.1 18).toInt ∧ (o1.1 18).toInt ≤ 0 := k_o1.1 18
  have g_o1_30 : (0 : Int) ≤ (o1.1 30).toInt ∧ (o1.1 30).toInt ≤ 0 := k_o1.1 30
  have g_o2_0 : (0 : Int) ≤ (o2.1 0).toInt ∧ (o2.1 0).toInt ≤ 1 := k_o2.1 0
  have g_o2_1 : (0 : Int) ≤ (o2.1 1).toInt ∧ (o2.1 1).toInt ≤ 0 := k_o2.1 1
  have g_o2_2 : (0 : Int) ≤ (o2.1 2).toInt ∧ (o2.1 2).toInt ≤ 0 := k_o2.1 2
  have g_o2_3 : (0 : Int) ≤ (o2.1 3).toInt ∧ (o2.1 3).toInt ≤ 0 := k_o2.1 3
  have g_o2_4 : (0 : Int) ≤ (o2.1 4).toInt ∧ (o2.1 4).toInt ≤ 0 := k_o2.1 4
  have g_o2_5 : (0 : Int) ≤ (o2.1 5).toInt ∧ (o2.1 5).toInt ≤ 0 := k_o2.1 5
  have g_o2_16 : (0 : Int) ≤ (o2.1 16).toInt ∧ (o2.1 16).toInt ≤ 0 := k_o2.1 16
  have g_o2_17 : (0 : Int) ≤ (o2.1 17).toInt ∧ (o2.1 17).toInt ≤ 0 := k_o2.1 17
  have g_o2_18 : (0 : Int) ≤ (o2.1 18).toInt ∧ (o2.1 18).toInt ≤ 0 := k_o2.1 18
  have g_o2_30 : (0 : Int) ≤ (o2.1 30).toInt ∧ (o2.1 30).toInt ≤ 0 := k_o2.1 30
  have g_o3_0 : (0 : Int) ≤ (o3.1 0).toInt ∧ (o3.1 0).toInt ≤ 8 := k_o3.1 0
  have g_o3_1 : (0 : Int) ≤ (o3.1 1).toInt ∧ (o3.1 1).toInt ≤ 6 := k_o3.1 1
  have g_o3_2 : ((-2147483648) : Int) ≤ (o3.1 2).toInt ∧ (o3.1 2).toInt ≤ 2147483647 := k_o3.1 2
  have g_o3_3 : (0 : Int) ≤ (o3.1 3).toInt ∧ (o3.1 3).toInt ≤ 0 := k_o3.1 3
  have g_o3_4 : (0 : Int) ≤ (o3.1 4).toInt ∧ (o3.1 4).toInt ≤ 0 := k_o3.1 4
  have g_o3_5 : (0 : Int) ≤ (o3.1 5).toInt ∧ (o3.1 5).toInt ≤ 2147483647 := k_o3.1 5
  have g_o3_16 : (0 : Int) ≤ (o3.1 16).toInt ∧ (o3.1 16).toInt ≤ 0 := k_o3.1 16
  have g_o3_17 : (0 : Int) ≤ (o3.1 17).toInt ∧ (o3.1 17).toInt ≤ 0 := k_o3.1 17
  have g_o3_18 : (0 : Int) ≤ (o3.1 18).toInt ∧ (o3.1 18).toInt ≤ 0 := k_o3.1 18
  have g_o3_30 : (0 : Int) ≤ (o3.1 30).toInt ∧ (o3.1 30).toInt ≤ 0 := k_o3.1 30
  have g_o4_0 : (0 : Int) ≤ (o4.1 0).toInt ∧ (o4.1 0).toInt ≤ 8 := k_o4.1 0
  have g_o4_1 : (0 : Int) ≤ (o4.1 1).toInt ∧ (o4.1 1).toInt ≤ 6 := k_o4.1 1
  have g_o4_2 : (0 : Int) ≤ (o4.1 2).toInt ∧ (o4.1 2).toInt ≤ 200 := k_o4.1 2
  have g_o4_3 : (0 : Int) ≤ (o4.1 3).toInt ∧ (o4.1 3).toInt ≤ 1 := k_o4.1 3
  have g_o4_4 : (0 : Int) ≤ (o4.1 4).toInt ∧ (o4.1 4).toInt ≤ 0 := k_o4.1 4
  have g_o4_5 : (0 : Int) ≤ (o4.1 5).toInt ∧ (o4.1 5).toInt ≤ 0 := k_o4.1 5
  have g_o4_16 : (0 : Int) ≤ (o4.1 16).toInt ∧ (o4.1 16).toInt ≤ 0 := k_o4.1 16
  have g_o4_17 : (0 : Int) ≤ (o4.1 17).toInt ∧ (o4.1 17).toInt ≤ 0 := k_o4.1 17
  have g_o4_18 : (0 : Int) ≤ (o4.1 18).toInt ∧ (o4.1 18).toInt ≤ 0 := k_o4.1 18
  have g_o4_30 : (0 : Int) ≤ (o4.1 30).toInt ∧ (o4.1 30).toInt ≤ 0 := k_o4.1 30
  have g_o5_0 : (0 : Int) ≤ (o5.1 0).toInt ∧ (o5.1 0).toInt ≤ 12 := k_o5.1 0
  have g_o5_1 : ((-1) : Int) ≤ (o5.1 1).toInt ∧ (o5.1 1).toInt ≤ 11 := k_o5.1 1
  have g_o5_2 : (0 : Int) ≤ (o5.1 2).toInt ∧ (o5.1 2).toInt ≤ 0 := k_o5.1 2
  have g_o5_3 : (0 : Int) ≤ (o5.1 3).toInt ∧ (o5.1 3).toInt ≤ 0 := k_o5.1 3
  have g_o5_4 : (0 : Int) ≤ (o5.1 4).toInt ∧ (o5.1 4).toInt ≤ 0 := k_o5.1 4
  have g_o5_5 : (0 : Int) ≤ (o5.1 5).toInt ∧ (o5.1 5).toInt ≤ 0 := k_o5.1 5
  have g_o5_16 : (0 : Int) ≤ (o5.1 16).toInt ∧ (o5.1 16).toInt ≤ 0 := k_o5.1 16
  have g_o5_17 : (0 : Int) ≤ (o5.1 17).toInt ∧ (o5.1 17).toInt ≤ 0 := k_o5.1 17
  have g_o5_18 : (0 : Int) ≤ (o5.1 18).toInt ∧ (o5.1 18).toInt ≤ 0 := k_o5.1 18
  have g_o5_30 : (0 : Int) ≤ (o5.1 30).toInt ∧ (o5.1 30).toInt ≤ 0 := k_o5.1 30
  have g_o6_0 : (16 : Int) ≤ (o6.1 0).toInt ∧ (o6.1 0).toInt ≤ 400000 := k_o6.1 0
  have g_o6_1 : (0 : Int) ≤ (o6.1 1).toInt ∧ (o6.1 1).toInt ≤ 0 := k_o6.1 1
  have g_o6_2 : (0 : Int) ≤ (o6.1 2).toInt ∧ (o6.1 2).toInt ≤ 1 := k_o6.1 2
  have g_o6_3 : (0 : Int) ≤ (o6.1 3).toInt ∧ (o6.1 3).toInt ≤ 90000 := k_o6.1 3
  have g_o6_4 : (0 : Int) ≤ (o6.1 4).toInt ∧ (o6.1 4).toInt ≤ 0 := k_o6.1 4
  have g_o6_5 : (0 : Int) ≤ (o6.1 5).toInt ∧ (o6.1 5).toInt ≤ 0 := k_o6.1 5
  have g_o6_16 : (0 : Int) ≤ (o6.1 16).toInt ∧ (o6.1 16).toInt ≤ 0 := k_o6.1 16
  have g_o6_17 : (0 : Int) ≤ (o6.1 17).toInt ∧ (o6.1 17).toInt ≤ 0 := k_o6.1 17
  have g_o6_18 : (0 : Int) ≤ (o6.1 18).toInt ∧ (o6.1 18).toInt ≤ 0 := k_o6.1 18
  have g_o6_30 : (0 : Int) ≤ (o6.1 30).toInt ∧ (o6.1 30).toInt ≤ 0 := k_o6.1 30
  refine tt_if (fun c1 => ?_) (fun c1 => ?_)
  · have wc1 : (o0.1 18).toInt = (0 : Int) := c_eq c1
    have i2 : (0 : Int) ≤ (o0.1 18).toInt ∧ (o0.1 18).toInt ≤ 0 := nr_eql c1 (k_o0.1 18) (show (0 : Int) ≤ (0 : Int32).toInt ∧ (0 : Int32).toInt ≤ 0 by decide) (by decide) (by decide)
    have k3 := ok_fp (k := 30) (v := 2) k_o0 (iv_w (a := 0) (b := 4) (by decide) (by decide) (show (2 : Int) ≤ (2 : Int32).toInt ∧ (2 : Int32).toInt ≤ 2 by decide))
    have r4 := fr_fp (k := 30) (v := 2) r_o0 rfl
    exact tt_some ⟨(iv_w (a := (-1)) (b := 255) (by decide) (by decide) (show (0 : Int) ≤ (0 : Int32).toInt ∧ (0 : Int32).toInt ≤ 0 by decide)), k3, r4, (iv_w (a := 0) (b := 3) (by decide) (by decide) (show (2 : Int) ≤ (2 : Int32).toInt ∧ (2 : Int32).toInt ≤ 2 by decide)), k_o2, r_o2, k_o6, r_o6, x_2, (show (o6.1 3).toInt ≤ (o6.1 0).toInt by omega), (show 2 = 0 ∨ 2 = 2 ∨ 2 = 3 by omega), trivial⟩
  · have wc1 : ¬ (o0.1 18).toInt = (0 : Int) := c_ne c1
    have i5 : (1 : Int) ≤ (o0.1 18).toInt ∧ (o0.1 18).toInt ≤ 1 := nr_nela c1 (k_o0.1 18) (show (0 : Int) ≤ (0 : Int32).toInt ∧ (0 : Int32).toInt ≤ 0 by decide) (by decide) (by decide)
    try unfold fF_mappedSign_7
    refine tt_if (fun c6 => ?_) (fun c6 => ?_)
    · have wc6 : v1.toInt < (0 : Int) := c_lt c6
      have i7 : ((-2147483648) : Int) ≤ v1.toInt ∧ v1.toInt ≤ (-1) := nr_ltl c6 (iv_top v1) (show (0 : Int) ≤ (0 : Int32).toInt ∧ (0 : Int32).toInt ≤ 0 by decide) (by decide) (by decide)
      try unfold fF_mappedSign_16
      refine tt_if (fun c8 => ?_) (fun c8 => ?_)
      · have wc8 : (0 : Int) = (0 : Int) := c_eq c8
        have k9 := ok_fp (k := 30) (v := 3) k_o0 (iv_w (a := 0) (b := 4) (by decide) (by decide) (show (3 : Int) ≤ (3 : Int32).toInt ∧ (3 : Int32).toInt ≤ 3 by decide))
        have r10 := fr_fp (k := 30) (v := 3) r_o0 rfl
        exact tt_some ⟨(iv_w (a := (-1)) (b := 255) (by decide) (by decide) (show (0 : Int) ≤ (0 : Int32).toInt ∧ (0 : Int32).toInt ≤ 0 by decide)), k9, r10, (iv_w (a := 0) (b := 3) (by decide) (by decide) (show (3 : Int) ≤ (3 : Int32).toInt ∧ (3 : Int32).toInt ≤ 3 by decide)), k_o2, r_o2, k_o6, r_o6, x_2, (show (o6.1 3).toInt ≤ (o6.1 0).toInt by omega), (show 3 = 0 ∨ 3 = 2 ∨ 3 = 3 by omega), trivial⟩
      · have wc8 : ¬ (0 : Int) = (0 : Int) := c_ne c8
        exact (dd_ne c8 (show (0 : Int) ≤ (0 : Int32).toInt ∧ (0 : Int32).toInt ≤ 0 by decide) (show (0 : Int) ≤ (0 : Int32).toInt ∧ (0 : Int32).toInt ≤ 0 by decide)).elim
    · have wc6 : (0 : Int) ≤ v1.toInt := c_nlt c6
      have i11 : (0 : Int) ≤ v1.toInt ∧ v1.toInt ≤ 2147483647 := nr_nltr c6 (show (0 : Int) ≤ (0 : Int32).toInt ∧ (0 : Int32).toInt ≤ 0 by decide) (iv_top v1) (by decide) (by decide)
      try unfold fF_mappedSign_16
      refine tt_if (fun c12 => ?_) (fun c12 => ?_)
      · have wc12 : (1 : Int) = (0 : Int) := c_eq c12
        exact (dd_eq c12 (show (1 : Int) ≤ (1 : Int32).toInt ∧ (1 : Int32).toInt ≤ 1 by decide) (show (0 : Int) ≤ (0 : Int32).toInt ∧ (0 : Int32).toInt ≤ 0 by decide) (by decide)).elim
      · have wc12 : ¬ (1 : Int) = (0 : Int) := c_ne c12
        try unfold fF_mappedSign_19
        refine tt_if (fun c13 => ?_) (fun c13 => ?_)
        · have wc13 : (o2.1 0).toInt = (0 : Int) := c_eq c13
          have i14 : (0 : Int) ≤ (o2.1 0).toInt ∧ (o2.1 0).toInt ≤ 0 := nr_eql c13 (k_o2.1 0) (show (0 : Int) ≤ (0 : Int32).toInt ∧ (0 : Int32).toInt ≤ 0 by decide) (by decide) (by decide)
          have p15 : Tki (o1.1 0).toInt (o1.2.1 3) (o1.2.2 4) := by exact Tks_k (by assumption) (by omega)
          refine tt_b (sMp_writeTo _ _ _ _ _ _ k_o1 k_o2 k_o3 k_o4 k_o5 k_o6 i14 p15 (show (o6.1 3).toInt ≤ (o6.1 0).toInt by omega)) (fun q16 hq16 => ?_)
          obtain ⟨k_q16_1, n_q16_1, f_q16_1_0, k_q16_2, n_q16_2, f_q16_2_3, zq16_0, -⟩ := hq16
          have r_q16_1 := fr_tr r_o2 n_q16_1 rfl rfl rfl
          have e_q16_1_1 : (q16.1.1 1).toInt = (o2.1 1).toInt := congrArg Int32.toInt (n_q16_1.1 1 rfl)
          have g_q16_1_1 : (0 : Int) ≤ (q16.1.1 1).toInt ∧ (q16.1.1 1).toInt ≤ 0 := k_q16_1.1 1
          have e_q16_1_2 : (q16.1.1 2).toInt = (o2.1 2).toInt := congrArg Int32.toInt (n_q16_1.1 2 rfl)
          have g_q16_1_2 : (0 : Int) ≤ (q16.1.1 2).toInt ∧ (q16.1.1 2).toInt ≤ 0 := k_q16_1.1 2
          have e_q16_1_3 : (q16.1.1 3).toInt = (o2.1 3).toInt := congrArg Int32.toInt (n_q16_1.1 3 rfl)
          have g_q16_1_3 : (0 : Int) ≤ (q16.1.1 3).toInt ∧ (q16.1.1 3).toInt ≤ 0 := k_q16_1.1 3
          have e_q16_1_4 : (q16.1.1 4).toInt = (o2.1 4).toInt := congrArg Int32.toInt (n_q16_1.1 4 rfl)
          have g_q16_1_4 : (0 : Int) ≤ (q16.1.1 4).toInt ∧ (q16.1.1 4).toInt ≤ 0 := k_q16_1.1 4
          have e_q16_1_5 : (q16.1.1 5).toInt = (o2.1 5).toInt := congrArg Int32.toInt (n_q16_1.1 5 rfl)
          have g_q16_1_5 : (0 : Int) ≤ (q16.1.1 5).toInt ∧ (q16.1.1 5).toInt ≤ 0 := k_q16_1.1 5
          have e_q16_1_16 : (q16.1.1 16).toInt = (o2.1 16).toInt := congrArg Int32.toInt (n_q16_1.1 16 rfl)
          have g_q16_1_16 : (0 : Int) ≤ (q16.1.1 16).toInt ∧ (q16.1.1 16).toInt ≤ 0 := k_q16_1.1 16
          have e_q16_1_17 : (q16.1.1 17).toInt = (o2.1 17).toInt := congrArg Int32.toInt (n_q16_1.1 17 rfl)
          have g_q16_1_17 : (0 : Int) ≤ (q16.1.1 17).toInt ∧ (q16.1.1 17).toInt ≤ 0 := k_q16_1.1 17
          have e_q16_1_18 : (q16.1.1 18).toInt = (o2.1 18).toInt := congrArg Int32.toInt (n_q16_1.1 18 rfl)
          have g_q16_1_18 : (0 : Int) ≤ (q16.1.1 18).toInt ∧ (q16.1.1 18).toInt ≤ 0 := k_q16_1.1 18
          have e_q16_1_30 : (q16.1.1 30).toInt = (o2.1 30).toInt := congrArg Int32.toInt (n_q16_1.1 30 rfl)
          have g_q16_1_30 : (0 : Int) ≤ (q16.1.1 30).toInt ∧ (q16.1.1 30).toInt ≤ 0 := k_q16_1.1 30
          have r_q16_2 := fr_tr r_o6 n_q16_2 rfl rfl rfl
          have g_q16_2_0 : (16 : Int) ≤ (q16.2.1 0).toInt ∧ (q16.2.1 0).toInt ≤ 400000 := k_q16_2.1 0
          have e_q16_2_1 : (q16.2.1 1).toInt = (o6.1 1).toInt := congrArg Int32.toInt (n_q16_2.1 1 rfl)
          have g_q16_2_1 : (0 : Int) ≤ (q16.2.1 1).toInt ∧ (q16.2.1 1).toInt ≤ 0 := k_q16_2.1 1
          have g_q16_2_2 : (0 : Int) ≤ (q16.2.1 2).toInt ∧ (q16.2.1 2).toInt ≤ 1 := k_q16_2.1 2
          have e_q16_2_4 : (q16.2.1 4).toInt = (o6.1 4).toInt := congrArg Int32.toInt (n_q16_2.1 4 rfl)
          have g_q16_2_4 : (0 : Int) ≤ (q16.2.1 4).toInt ∧ (q16.2.1 4).toInt ≤ 0 := k_q16_2.1 4
          have e_q16_2_5 : (q16.2.1 5).toInt = (o6.1 5).toInt := congrArg Int32.toInt (n_q16_2.1 5 rfl)
          have g_q16_2_5 : (0 : Int) ≤ (q16.2.1 5).toInt ∧ (q16.2.1 5).toInt ≤ 0 := k_q16_2.1 5
          have e_q16_2_16 : (q16.2.1 16).toInt = (o6.1 16).toInt := congrArg Int32.toInt (n_q16_2.1 16 rfl)
          have g_q16_2_16 : (0 : Int) ≤ (q16.2.1 16).toInt ∧ (q16.2.1 16).toInt ≤ 0 := k_q16_2.1 16
          have e_q16_2_17 : (q16.2.1 17).toInt = (o6.1 17).toInt := congrArg Int32.toInt (n_q16_2.1 17 rfl)
          have g_q16_2_17 : (0 : Int) ≤ (q16.2.1 17).toInt ∧ (q16.2.1 17).toInt ≤ 0 := k_q16_2.1 17
          have e_q16_2_18 : (q16.2.1 18).toInt = (o6.1 18).toInt := congrArg Int32.toInt (n_q16_2.1 18 rfl)
          have g_q16_2_18 : (0 : Int) ≤ (q16.2.1 18).toInt ∧ (q16.2.1 18).toInt ≤ 0 := k_q16_2.1 18
          have e_q16_2_30 : (q16.2.1 30).toInt = (o6.1 30).toInt := congrArg Int32.toInt (n_q16_2.1 30 rfl)
          have g_q16_2_30 : (0 : Int) ≤ (q16.2.1 30).toInt ∧ (q16.2.1 30).toInt ≤ 0 := k_q16_2.1 30
          have zq16_0 : (q16.2.1 3).toInt ≤ (q16.2.1 0).toInt := zq16_0
          try unfold fF_mappedSign_52
          refine tt_b (sSc_signAt _ _ _ k_q16_1 k_q16_2 i11 f_q16_1_0 (show (q16.2.1 3).toInt ≤ (q16.2.1 0).toInt by omega) (show 0 ≤ v1.toInt by omega)) (fun q17 hq17 => ?_)
          obtain ⟨i_q17, -⟩ := hq17
          try unfold fF_mappedSign_60
          have k18 := ok_fp (k := 30) (v := 0) k_o0 (iv_w (a := 0) (b := 4) (by decide) (by decide) (show (0 : Int) ≤ (0 : Int32).toInt ∧ (0 : Int32).toInt ≤ 0 by decide))
          have r19 := fr_fp (k := 30) (v := 0) r_o0 rfl
          exact tt_some ⟨i_q17, k18, r19, (iv_w (a := 0) (b := 3) (by decide) (by decide) (show (0 : Int) ≤ (0 : Int32).toInt ∧ (0 : Int32).toInt ≤ 0 by decide)), k_q16_1, r_q16_1, k_q16_2, r_q16_2, x_2, (show (q16.2.1 3).toInt ≤ (q16.2.1 0).toInt by omega), (show 0 = 0 ∨ 0 = 2 ∨ 0 = 3 by omega), trivial⟩
        · have wc13 : ¬ (o2.1 0).toInt = (0 : Int) := c_ne c13
          have i20 : (1 : Int) ≤ (o2.1 0).toInt ∧ (o2.1 0).toInt ≤ 1 := nr_nela c13 (k_o2.1 0) (show (0 : Int) ≤ (0 : Int32).toInt ∧ (0 : Int32).toInt ≤ 0 by decide) (by decide) (by decide)
          try unfold fF_mappedSign_52
          refine tt_b (sSc_signAt _ _ _ k_o2 k_o6 i11 i20 (show (o6.1 3).toInt ≤ (o6.1 0).toInt by omega) (show 0 ≤ v1.toInt by omega)) (fun q21 hq21 => ?_)
          obtain ⟨i_q21, -⟩ := hq21
          try unfold fF_mappedSign_60
          have k22 := ok_fp (k := 30) (v := 0) k_o0 (iv_w (a := 0) (b := 4) (by decide) (by decide) (show (0 : Int) ≤ (0 : Int32).toInt ∧ (0 : Int32).toInt ≤ 0 by decide))
          have r23 := fr_fp (k := 30) (v := 0) r_o0 rfl
          exact tt_some ⟨i_q21, k22, r23, (iv_w (a := 0) (b := 3) (by decide) (by decide) (show (0 : Int) ≤ (0 : Int32).toInt ∧ (0 : Int32).toInt ≤ 0 by decide)), k_o2, r_o2, k_o6, r_o6, x_2, (show (o6.1 3).toInt ≤ (o6.1 0).toInt by omega), (show 0 = 0 ∨ 0 = 2 ∨ 0 = 3 by omega), trivial⟩
