def QSc_writeNode (v2 : Int32) (o0 : cf_O) (o1 : cf_O) (o2 : cf_O) (r : (cf_O)) : Prop := (okO I_SB r) ∧ (Fr (fr_M [0, 3] [0] []) o2 r) ∧ ((8 : Int) ≤ (r.1 3).toInt ∧ (r.1 3).toInt ≤ 90000) ∧ ((r.1 3).toInt ≤ (o2.1 3).toInt + 13) ∧ ((o2.1 3).toInt ≤ (r.1 3).toInt) ∧ ((r.1 3).toInt ≤ (r.1 0).toInt) ∧ True
set_option maxHeartbeats 4000000 in
set_option maxRecDepth 100000 in
theorem sSc_writeNode (v2 : Int32) (o0 : cf_O) (o1 : cf_O) (o2 : cf_O) (k_o0 : okO I_Sc o0) (k_o1 : okO I_Nl o1) (k_o2 : okO I_SB o2) (i_v2 : (0 : Int) ≤ v2.toInt ∧ v2.toInt ≤ 255) (f_o2_3 : (8 : Int) ≤ (o2.1 3).toInt ∧ (o2.1 3).toInt ≤ 90000) (x_0 : (o2.1 3).toInt ≤ (o2.1 0).toInt) (x_1 : (o2.1 3).toInt ≤ 89987) : tt (fSc_writeNode v2 o0 o1 o2) (QSc_writeNode v2 o0 o1 o2) := by
  have r_o0 : Fr (fr_M [] [] []) o0 o0 := fr_rfl
  have r_o1 : Fr (fr_M [] [] []) o1 o1 := fr_rfl
  have r_o2 : Fr (fr_M [0, 3] [0] []) o2 o2 := fr_rfl
  unfold fSc_writeNode fSc_writeNode_0
  have g_o0_0 : (0 : Int) ≤ (o0.1 0).toInt ∧ (o0.1 0).toInt ≤ 1 := k_o0.1 0
  have g_o0_1 : (0 : Int) ≤ (o0.1 1).toInt ∧ (o0.1 1).toInt ≤ 0 := k_o0.1 1
  have g_o0_3 : (0 : Int) ≤ (o0.1 3).toInt ∧ (o0.1 3).toInt ≤ 0 := k_o0.1 3
  have g_o1_0 : (0 : Int) ≤ (o1.1 0).toInt ∧ (o1.1 0).toInt ≤ 8 := k_o1.1 0
  have g_o1_1 : (0 : Int) ≤ (o1.1 1).toInt ∧ (o1.1 1).toInt ≤ 6 := k_o1.1 1
  have g_o1_3 : (0 : Int) ≤ (o1.1 3).toInt ∧ (o1.1 3).toInt ≤ 0 := k_o1.1 3
  have g_o2_0 : (16 : Int) ≤ (o2.1 0).toInt ∧ (o2.1 0).toInt ≤ 400000 := k_o2.1 0
  have g_o2_1 : (0 : Int) ≤ (o2.1 1).toInt ∧ (o2.1 1).toInt ≤ 0 := k_o2.1 1
  refine tt_kv (P := fun z => ((0 : Int) ≤ z.toInt ∧ z.toInt ≤ 510) ∧ z.toInt = 2 * v2.toInt) ⟨iv_mul (show (2 : Int) ≤ (2 : Int32).toInt ∧ (2 : Int32).toInt ≤ 2 by decide) i_v2 (by decide) (by decide) (by decide) (by decide) (by decide), iq_mul (show (2 : Int) ≤ (2 : Int32).toInt ∧ (2 : Int32).toInt ≤ 2 by decide) i_v2 (by decide) (by decide) (by decide) (by decide)⟩ (fun x1 qi2 => ?_)
  obtain ⟨i2, ei2⟩ := qi2
  refine tt_b (sSc_writeLiteral _ _ _ _ k_o0 k_o1 k_o2 (iv_w (a := 0) (b := 1023) (by decide) (by decide) i2) f_o2_3 (show (o2.1 3).toInt ≤ (o2.1 0).toInt by omega) (show (o2.1 3).toInt ≤ 89987 by omega)) (fun q3 hq3 => ?_)
  obtain ⟨k_q3, n_q3, f_q3_3, zq3_0, zq3_1, zq3_2, -⟩ := hq3
  have r_q3 := fr_tr r_o2 n_q3 rfl rfl rfl
  have g_q3_0 : (16 : Int) ≤ (q3.1 0).toInt ∧ (q3.1 0).toInt ≤ 400000 := k_q3.1 0
  have e_q3_1 : (q3.1 1).toInt = (o2.1 1).toInt := congrArg Int32.toInt (n_q3.1 1 rfl)
  have g_q3_1 : (0 : Int) ≤ (q3.1 1).toInt ∧ (q3.1 1).toInt ≤ 0 := k_q3.1 1
  have zq3_0 : (q3.1 3).toInt ≤ (o2.1 3).toInt + 13 := zq3_0
  have zq3_1 : (o2.1 3).toInt ≤ (q3.1 3).toInt := zq3_1
  have zq3_2 : (q3.1 3).toInt ≤ (q3.1 0).toInt := zq3_2
  try unfold fSc_writeNode_8
  exact tt_some ⟨k_q3, r_q3, f_q3_3, (show (q3.1 3).toInt ≤ (o2.1 3).toInt + 13 by omega), (show (o2.1 3).toInt ≤ (q3.1 3).toInt by omega), (show (q3.1 3).toInt ≤ (q3.1 0).toInt by omega), trivial⟩
def QJString_coder__S11  (r : (Int32)) : Prop := ((0 : Int) ≤ r.toInt ∧ r.toInt ≤ 0) ∧ True
set_option maxHeartbeats 4000000 in
set_option maxRecDepth 100000 in
theorem sJString_coder__S11   : tt (fJString_coder__S11 ) (QJString_coder__S11 ) := by
  unfold fJString_coder__S11 fJString_coder__S11_0
  try unfold fJString_coder__S11_14
  refine tt_w (iv_nb (show (0 : Int) ≤ (0 : Int32).toInt ∧ (0 : Int32).toInt ≤ 0 by decide) (by decide) (by decide)) ?_
  exact tt_some ⟨(show (0 : Int) ≤ (0 : Int32).toInt ∧ (0 : Int32).toInt ≤ 0 by decide), trivial⟩
def QJString_length__S11  (r : (Int32)) : Prop := ((3 : Int) ≤ r.toInt ∧ r.toInt ≤ 3) ∧ True
set_option maxHeartbeats 4000000 in
set_option maxRecDepth 100000 in
theorem sJString_length__S11   : tt (fJString_length__S11 ) (QJString_length__S11 ) := by
  unfold fJString_length__S11 fJString_length__S11_0
  refine tt_b (sJString_coder__S11  ) (fun q1 hq1 => ?_)
  obtain ⟨i_q1, -⟩ := hq1
  refine tt_kv (P := fun z => (3 : Int) ≤ z.toInt ∧ z.toInt ≤ 3) (iv_shr (p := 0) (q := 0) (show (3 : Int) ≤ (3 : Int32).toInt ∧ (3 : Int32).toInt ≤ 3 by decide) i_q1 (by decide) (by decide) (by decide) (by decide)) (fun x2 i3 => ?_)
  exact tt_some ⟨i3, trivial⟩
def QAS_inflateIfNeededFor_S11 (o0 : cf_O) (r : (Unit)) : Prop := True
set_option maxHeartbeats 4000000 in
set_option maxRecDepth 100000 in
theorem sAS_inflateIfNeededFor_S11 (o0 : cf_O) (k_o0 : okO I_SB o0) (f_o0_3 : (8 : Int) ≤ (o0.1 3).toInt ∧ (o0.1 3).toInt ≤ 90000) : tt (fAS_inflateIfNeededFor_S11 o0) (QAS_inflateIfNeededFor_S11 o0) := by
  have r_o0 : Fr (fr_M [] [] []) o0 o0 := fr_rfl
  unfold fAS_inflateIfNeededFor_S11 fAS_inflateIfNeededFor_S11_0
  refine tt_b (sJString_coder__S11  ) (fun q1 hq1 => ?_)
  obtain ⟨i_q1, -⟩ := hq1
  refine tt_if (fun c2 => ?_) (fun c2 => ?_)
  · try unfold fAS_inflateIfNeededFor_S11_21
    exact tt_some trivial
  · exact (dd_ne c2 (k_o0.1 1) i_q1).elim
def QJString_getBytes_ABIB_S11_SB0 (v2 : Int32) (v3 : Int32) (o0 : cf_O) (r : (cf_O)) : Prop := (okO I_SB r) ∧ (Fr (fr_M [] [0] []) o0 r) ∧ True
set_option maxHeartbeats 4000000 in
set_option maxRecDepth 100000 in
theorem sJString_getBytes_ABIB_S11_SB0 (v2 : Int32) (v3 : Int32) (o0 : cf_O) (k_o0 : okO I_SB o0) (i_v2 : (8 : Int) ≤ v2.toInt ∧ v2.toInt ≤ 90000) (i_v3 : (0 : Int) ≤ v3.toInt ∧ v3.toInt ≤ 0) (f_o0_3 : (8 : Int) ≤ (o0.1 3).toInt ∧ (o0.1 3).toInt ≤ 90000) (x_0 : 0 ≤ v2.toInt) (x_1 : v2.toInt + 3 ≤ (o0.1 0).toInt) : tt (fJString_getBytes_ABIB_S11_SB0 v2 v3 o0) (QJString_getBytes_ABIB_S11_SB0 v2 v3 o0) := by
  have r_o0 : Fr (fr_M [] [0] []) o0 o0 := fr_rfl
  unfold fJString_getBytes_ABIB_S11_SB0 fJString_getBytes_ABIB_S11_SB0_0
  have g_o0_0 : (16 : Int) ≤ (o0.1 0).toInt ∧ (o0.1 0).toInt ≤ 400000 := k_o0.1 0
  have g_o0_1 : (0 : Int) ≤ (o0.1 1).toInt ∧ (o0.1 1).toInt ≤ 0 := k_o0.1 1
  refine tt_b (sJString_coder__S11  ) (fun q1 hq1 => ?_)
  obtain ⟨i_q1, -⟩ := hq1
  refine tt_if (fun c2 => ?_) (fun c2 => ?_)
  · have wc2 : q1.toInt = v3.toInt := c_eq c2
    refine tt_kv (P := fun z => ((8 : Int) ≤ z.toInt ∧ z.toInt ≤ 90000) ∧ z.toInt = v2.toInt) ⟨iv_shl (p := 0) (q := 0) i_v2 i_v3 (by decide) (by decide) (by decide) (by decide) (by decide), sh0l i_v3⟩ (fun x3 qi4 => ?_)
    obtain ⟨i4, ei4⟩ := qi4
    refine tt_n (ac_ok (x := x3) (l := (o0.1 0)) (by omega) (by omega)) ?_
    refine tt_ko ?_
    have k5 := ok_cb (k := 0) (s := 11) (x := x3) (n := 3) k_o0 ⟨by decide, by decide⟩
    have r6 := fr_cb (k := 0) (s := 11) (x := x3) (n := 3) r_o0 rfl
    exact tt_some ⟨k5, r6, trivial⟩
  · have wc2 : ¬ q1.toInt = v3.toInt := c_ne c2
    exact (dd_ne c2 i_q1 i_v3).elim
def QAS_putStringAt_S11 (v1 : Int32) (o0 : cf_O) (r : (cf_O)) : Prop := (okO I_SB r) ∧ (Fr (fr_M [] [0] []) o0 r) ∧ True
set_option maxHeartbeats 4000000 in
set_option maxRecDepth 100000 in
theorem sAS_putStringAt_S11 (v1 : Int32) (o0 : cf_O) (k_o0 : okO I_SB o0) (i_v1 : (8 : Int) ≤ v1.toInt ∧ v1.toInt ≤ 90000) (f_o0_3 : (8 : Int) ≤ (o0.1 3).toInt ∧ (o0.1 3).toInt ≤ 90000) (x_0 : 0 ≤ v1.toInt) (x_1 : v1.toInt + 3 ≤ (o0.1 0).toInt) : tt (fAS_putStringAt_S11 v1 o0) (QAS_putStringAt_S11 v1 o0) := by
  have r_o0 : Fr (fr_M [] [0] []) o0 o0 := fr_rfl
  unfold fAS_putStringAt_S11 fAS_putStringAt_S11_0
  have g_o0_0 : (16 : Int) ≤ (o0.1 0).toInt ∧ (o0.1 0).toInt ≤ 400000 := k_o0.1 0
  have g_o0_1 : (0 : Int) ≤ (o0.1 1).toInt ∧ (o0.1 1).toInt ≤ 0 := k_o0.1 1
  refine tt_b (sAS_inflateIfNeededFor_S11 _ k_o0 f_o0_3) (fun q1 hq1 => ?_)
  refine tt_b (sJString_getBytes_ABIB_S11_SB0 _ _ _ k_o0 i_v1 (k_o0.1 1) f_o0_3 (show 0 ≤ v1.toInt by omega) (show v1.toInt + 3 ≤ (o0.1 0).toInt by omega)) (fun q2 hq2 => ?_)
  obtain ⟨k_q2, n_q2, -⟩ := hq2
  have r_q2 := fr_tr r_o0 n_q2 rfl rfl rfl
  have f_q2_3 : (8 : Int) ≤ (q2.1 3).toInt ∧ (q2.1 3).toInt ≤ 90000 := by rw [n_q2.1 3 rfl]; exact f_o0_3
  have e_q2_0 : (q2.1 0).toInt = (o0.1 0).toInt := congrArg Int32.toInt (n_q2.1 0 rfl)
  have g_q2_0 : (16 : Int) ≤ (q2.1 0).toInt ∧ (q2.1 0).toInt ≤ 400000 := k_q2.1 0
  have e_q2_1 : (q2.1 1).toInt = (o0.1 1).toInt := congrArg Int32.toInt (n_q2.1 1 rfl)
  have g_q2_1 : (0 : Int) ≤ (q2.1 1).toInt ∧ (q2.1 1).toInt ≤ 0 := k_q2.1 1
  have e_q2_3 : (q2.1 3).toInt = (o0.1 3).toInt := congrArg Int32.toInt (n_q2.1 3 rfl)
  exact tt_some ⟨k_q2, r_q2, trivial⟩
def QAS_appendS_S11 (o0 : cf_O) (r : (cf_O)) : Prop := (okO I_SB r) ∧ (Fr (fr_M [0, 3] [0] []) o0 r) ∧ ((11 : Int) ≤ (r.1 3).toInt ∧ (r.1 3).toInt ≤ 90000) ∧ ((r.1 3).toInt = (o0.1 3).toInt + 3) ∧ ((o0.1 3).toInt ≤ (r.1 3).toInt) ∧ ((r.1 3).toInt ≤ (r.1 0).toInt) ∧ True
set_option maxHeartbeats 4000000 in
set_option maxRecDepth 100000 in
theorem sAS_appendS_S11 (o0 : cf_O) (k_o0 : okO I_SB o0) (f_o0_3 : (8 : Int) ≤ (o0.1 3).toInt ∧ (o0.1 3).toInt ≤ 90000) (x_0 : (o0.1 3).toInt ≤ (o0.1 0).toInt) (x_1 : (o0.1 3).toInt ≤ 89997) : tt (fAS_appendS_S11 o0) (QAS_appendS_S11 o0) := by
  have r_o0 : Fr (fr_M [0, 3] [0] []) o0 o0 := fr_rfl
  unfold fAS_appendS_S11 fAS_appendS_S11_0
  have g_o0_0 : (16 : Int) ≤ (o0.1 0).toInt ∧ (o0.1 0).toInt ≤ 400000 := k_o0.1 0
  have g_o0_1 : (0 : Int) ≤ (o0.1 1).toInt ∧ (o0.1 1).toInt ≤ 0 := k_o0.1 1
  refine tt_b (sJString_length__S11  ) (fun q1 hq1 => ?_)
  obtain ⟨i_q1, -⟩ := hq1
  try unfold fAS_appendS_S11_13
  refine tt_kv (P := fun z => ((11 : Int) ≤ z.toInt ∧ z.toInt ≤ 90003) ∧ z.toInt = (o0.1 3).toInt + q1.toInt) ⟨iv_add f_o0_3 i_q1 (by decide) (by decide) (by decide) (by decide), iq_add f_o0_3 i_q1 (by decide) (by decide)⟩ (fun x2 qi3 => ?_)
  obtain ⟨i3, ei3⟩ := qi3
  refine tt_b (sAS_ensureCapacityInternal _ _ k_o0 (iv_w (a := 0) (b := 90010) (by decide) (by decide) i3)) (fun q4 hq4 => ?_)
  obtain ⟨k_q4, n_q4, zq4_0, zq4_1, zq4_2, -⟩ := hq4
  have r_q4 := fr_tr r_o0 n_q4 rfl rfl rfl
  have f_q4_3 : (8 : Int) ≤ (q4.1 3).toInt ∧ (q4.1 3).toInt ≤ 90000 := by rw [n_q4.1 3 rfl]; exact f_o0_3
  have g_q4_0 : (16 : Int) ≤ (q4.1 0).toInt ∧ (q4.1 0).toInt ≤ 400000 := k_q4.1 0
  have e_q4_1 : (q4.1 1).toInt = (o0.1 1).toInt := congrArg Int32.toInt (n_q4.1 1 rfl)
  have g_q4_1 : (0 : Int) ≤ (q4.1 1).toInt ∧ (q4.1 1).toInt ≤ 0 := k_q4.1 1
  have e_q4_3 : (q4.1 3).toInt = (o0.1 3).toInt := congrArg Int32.toInt (n_q4.1 3 rfl)
  have zq4_0 : x2.toInt ≤ (q4.1 0).toInt := zq4_0
  have zq4_1 : (o0.1 0).toInt ≤ (q4.1 0).toInt := zq4_1
  have zq4_2 : (q4.1 0).toInt ≤ (o0.1 0).toInt ∨ (q4.1 0).toInt ≤ 180022 := zq4_2
  try unfold fAS_appendS_S11_24
  refine tt_b (sAS_putStringAt_S11 _ _ k_q4 f_q4_3 f_q4_3 (show 0 ≤ (q4.1 3).toInt by omega) (show (q4.1 3).toInt + 3 ≤ (q4.1 0).toInt by omega)) (fun q5 hq5 => ?_)
  obtain ⟨k_q5, n_q5, -⟩ := hq5
  have r_q5 := fr_tr r_q4 n_q5 rfl rfl rfl
  have f_q5_3 : (8 : Int) ≤ (q5.1 3).toInt ∧ (q5.1 3).toInt ≤ 90000 := by rw [n_q5.1 3 rfl]; exact f_q4_3
  have e_q5_0 : (q5.1 0).toInt = (q4.1 0).toInt := congrArg Int32.toInt (n_q5.1 0 rfl)
  have g_q5_0 : (16 : Int) ≤ (q5.1 0).toInt ∧ (q5.1 0).toInt ≤ 400000 := k_q5.1 0
  have e_q5_1 : (q5.1 1).toInt = (q4.1 1).toInt := congrArg Int32.toInt (n_q5.1 1 rfl)
  have g_q5_1 : (0 : Int) ≤ (q5.1 1).toInt ∧ (q5.1 1).toInt ≤ 0 := k_q5.1 1
  have e_q5_3 : (q5.1 3).toInt = (q4.1 3).toInt := congrArg Int32.toInt (n_q5.1 3 rfl)
  try unfold fAS_appendS_S11_33
  refine tt_kv (P := fun z => ((11 : Int) ≤ z.toInt ∧ z.toInt ≤ 90003) ∧ z.toInt = (q5.1 3).toInt + q1.toInt) ⟨iv_add f_q5_3 i_q1 (by decide) (by decide) (by decide) (by decide), iq_add f_q5_3 i_q1 (by decide) (by decide)⟩ (fun x6 qi7 => ?_)
  obtain ⟨i7, ei7⟩ := qi7
  refine tt_ko ?_
  have k8 := ok_fp (k := 3) (v := x6) k_q5 (show (0 : Int) ≤ _ ∧ _ ≤ (90000 : Int) by omega)
  have i9 : (11 : Int) ≤ x6.toInt ∧ x6.toInt ≤ 90000 := (by omega)
  have r10 := fr_fp (k := 3) (v := x6) r_q5 rfl
  exact tt_some ⟨k8, r10, i9, (show x6.toInt = (o0.1 3).toInt + 3 by omega), (show (o0.1 3).toInt ≤ x6.toInt by omega), (show x6.toInt ≤ (q5.1 0).toInt by omega), trivial⟩
def QSB_appendS_S11 (o0 : cf_O) (r : (cf_O)) : Prop := (okO I_SB r) ∧ (Fr (fr_M [0, 3] [0] []) o0 r) ∧ ((11 : Int) ≤ (r.1 3).toInt ∧ (r.1 3).toInt ≤ 90000) ∧ ((r.1 3).toInt = (o0.1 3).toInt + 3) ∧ ((o0.1 3).toInt ≤ (r.1 3).toInt) ∧ ((r.1 3).toInt ≤ (r.1 0).toInt) ∧ True
set_option maxHeartbeats 4000000 in
set_option maxRecDepth 100000 in
theorem sSB_appendS_S11 (o0 : cf_O) (k_o0 : okO I_SB o0) (f_o0_3 : (8 : Int) ≤ (o0.1 3).toInt ∧ (o0.1 3).toInt ≤ 90000) (x_0 : (o0.1 3).toInt ≤ (o0.1 0).toInt) (x_1 : (o0.1 3).toInt ≤ 89997) : tt (fSB_appendS_S11 o0) (QSB_appendS_S11 o0) := by
  have r_o0 : Fr (fr_M [0, 3] [0] []) o0 o0 := fr_rfl
  unfold fSB_appendS_S11 fSB_appendS_S11_0
  have g_o0_0 : (16 : Int) ≤ (o0.1 0).toInt ∧ (o0.1 0).toInt ≤ 400000 := k_o0.1 0
  have g_o0_1 : (0 : Int) ≤ (o0.1 1).toInt ∧ (o0.1 1).toInt ≤ 0 := k_o0.1 1
  refine tt_b (sAS_appendS_S11 _ k_o0 f_o0_3 (show (o0.1 3).toInt ≤ (o0.1 0).toInt by omega) (show (o0.1 3).toInt ≤ 89997 by omega)) (fun q1 hq1 => ?_)
  obtain ⟨k_q1, n_q1, f_q1_3, zq1_0, zq1_1, zq1_2, -⟩ := hq1
  have r_q1 := fr_tr r_o0 n_q1 rfl rfl rfl
  have g_q1_0 : (16 : Int) ≤ (q1.1 0).toInt ∧ (q1.1 0).toInt ≤ 400000 := k_q1.1 0
  have e_q1_1 : (q1.1 1).toInt = (o0.1 1).toInt := congrArg Int32.toInt (n_q1.1 1 rfl)
  have g_q1_1 : (0 : Int) ≤ (q1.1 1).toInt ∧ (q1.1 1).toInt ≤ 0 := k_q1.1 1
  have zq1_0 : (q1.1 3).toInt = (o0.1 3).toInt + 3 := zq1_0
  have zq1_1 : (o0.1 3).toInt ≤ (q1.1 3).toInt := zq1_1
  have zq1_2 : (q1.1 3).toInt ≤ (q1.1 0).toInt := zq1_2
  try unfold fSB_appendS_S11_5
  exact tt_some ⟨k_q1, r_q1, f_q1_3, (show (q1.1 3).toInt = (o0.1 3).toInt + 3 by omega), (show (o0.1 3).toInt ≤ (q1.1 3).toInt by omega), (show (q1.1 3).toInt ≤ (q1.1 0).toInt by omega), trivial⟩
def QCv_writeRows (v1 : Int32) (v2 : Int32) (o0 : cf_O) (o1 : cf_O) (r : (cf_O)) : Prop := (okO I_SB r) ∧ (Fr (fr_M [0, 3] [0] []) o1 r) ∧ ((8 : Int) ≤ (r.1 3).toInt ∧ (r.1 3).toInt ≤ 90000) ∧ ((r.1 3).toInt ≤ (o1.1 3).toInt + 256) ∧ ((o1.1 3).toInt ≤ (r.1 3).toInt) ∧ ((r.1 3).toInt ≤ (r.1 0).toInt) ∧ True
def HCv_writeRows (yv1 : Int32) (yv2 : Int32) (yo0 : cf_O) (yo1 : cf_O) (n : Nat) : Prop := (∀ (v1 : Int32) (v2 : Int32) (v3 : Int32) (o0 : cf_O) (o1 : cf_O), (okO I_Sc o0) → (Fr (fr_M [] [] []) yo0 o0) → (okO I_SB o1) → (Fr (fr_M [0, 3] [0] []) yo1 o1) → ((0 : Int) ≤ v2.toInt ∧ v2.toInt ≤ 5) → ((0 : Int) ≤ v3.toInt ∧ v3.toInt ≤ 32) → ((8 : Int) ≤ (o1.1 3).toInt ∧ (o1.1 3).toInt ≤ 90000) → ((o1.1 3).toInt ≤ (o1.1 0).toInt) → ((yo1.1 3).toInt ≤ (o1.1 3).toInt) → ((o1.1 3).toInt ≤ (yo1.1 3).toInt + 8 * v3.toInt) → ((yo1.1 3).toInt ≤ 89744) → (0 ≤ v3.toInt) → (v3.toInt ≤ 32) → 0 + (32 - v3.toInt) * 14 < (n : Int) → tt (gCv_writeRows n 0 v1 v2 v3 0 o0 o1) (QCv_writeRows yv1 yv2 yo0 yo1)) ∧ (∀ (v1 : Int32) (v2 : Int32) (v3 : Int32) (v4 : Int32) (o0 : cf_O) (o1 : cf_O), (okO I_Sc o0) → (Fr (fr_M [] [] []) yo0 o0) → (okO I_SB o1) → (Fr (fr_M [0, 3] [0] []) yo1 o1) → ((0 : Int) ≤ v2.toInt ∧ v2.toInt ≤ 5) → ((0 : Int) ≤ v3.toInt ∧ v3.toInt ≤ 31) → ((0 : Int) ≤ v4.toInt ∧ v4.toInt ≤ 5) → ((8 : Int) ≤ (o1.1 3).toInt ∧ (o1.1 3).toInt ≤ 90000) → ((o1.1 3).toInt ≤ (o1.1 0).toInt) → ((yo1.1 3).toInt ≤ (o1.1 3).toInt) → ((o1.1 3).toInt ≤ (yo1.1 3).toInt + 8 * v3.toInt + v4.toInt) → ((yo1.1 3).toInt ≤ 89744) → (0 ≤ v3.toInt) → (v3.toInt ≤ 31) → (0 ≤ v4.toInt) → (v4.toInt ≤ v2.toInt) → 0 + (32 - v3.toInt - 1) * 14 + 1 + (5 - v4.toInt) * 2 < (n : Int) → tt (gCv_writeRows n 1 v1 v2 v3 v4 o0 o1) (QCv_writeRows yv1 yv2 yo0 yo1))
set_option maxHeartbeats 4000000 in
set_option maxRecDepth 100000 in
theorem tCv_writeRows_23 {yv1 : Int32} {yv2 : Int32} {yo0 : cf_O} {yo1 : cf_O} {n : Nat} (H : HCv_writeRows yv1 yv2 yo0 yo1 n) (v1 : Int32) (v2 : Int32) (v3 : Int32) (v4 : Int32) (o0 : cf_O) (o1 : cf_O) (k_o0 : okO I_Sc o0) (r_o0 : Fr (fr_M [] [] []) yo0 o0) (k_o1 : okO I_SB o1) (r_o1 : Fr (fr_M [0, 3] [0] []) yo1 o1) (i_v2 : (0 : Int) ≤ v2.toInt ∧ v2.toInt ≤ 5) (i_v3 : (0 : Int) ≤ v3.toInt ∧ v3.toInt ≤ 31) (i_v4 : (0 : Int) ≤ v4.toInt ∧ v4.toInt ≤ 5) (f_o1_3 : (8 : Int) ≤ (o1.1 3).toInt ∧ (o1.1 3).toInt ≤ 90000) (x_0 : (o1.1 3).toInt ≤ (o1.1 0).toInt) (x_1 : (yo1.1 3).toInt ≤ (o1.1 3).toInt) (x_2 : (o1.1 3).toInt ≤ (yo1.1 3).toInt + 8 * v3.toInt + v4.toInt) (x_3 : (yo1.1 3).toInt ≤ 89744) (x_4 : 0 ≤ v3.toInt) (x_5 : v3.toInt ≤ 31) (x_6 : 0 ≤ v4.toInt) (x_7 : v4.toInt ≤ v2.toInt) (hm : 0 + (32 - v3.toInt - 1) * 14 + 1 + (5 - v4.toInt) * 2 ≤ (n : Int)) : tt (fCv_writeRows_23 (gCv_writeRows n) v1 v2 v3 v4 o0 o1) (QCv_writeRows yv1 yv2 yo0 yo1) := by
  unfold fCv_writeRows_23
  have i_v1 := iv_top v1
  have g_o0_0 : (0 : Int) ≤ (o0.1 0).toInt ∧ (o0.1 0).toInt ≤ 1 := k_o0.1 0
  have ey_o0_0 : (o0.1 0).toInt = (yo0.1 0).toInt := congrArg Int32.toInt (r_o0.1 0 rfl)
  have g_o0_1 : (0 : Int) ≤ (o0.1 1).toInt ∧ (o0.1 1).toInt ≤ 0 := k_o0.1 1
  have ey_o0_1 : (o0.1 1).toInt = (yo0.1 1).toInt := congrArg Int32.toInt (r_o0.1 1 rfl)
  have g_o0_3 : (0 : Int) ≤ (o0.1 3).toInt ∧ (o0.1 3).toInt ≤ 0 := k_o0.1 3
  have ey_o0_3 : (o0.1 3).toInt = (yo0.1 3).toInt := congrArg Int32.toInt (r_o0.1 3 rfl)
  have g_o1_0 : (16 : Int) ≤ (o1.1 0).toInt ∧ (o1.1 0).toInt ≤ 400000 := k_o1.1 0
  have g_o1_1 : (0 : Int) ≤ (o1.1 1).toInt ∧ (o1.1 1).toInt ≤ 0 := k_o1.1 1
  have ey_o1_1 : (o1.1 1).toInt = (yo1.1 1).toInt := congrArg Int32.toInt (r_o1.1 1 rfl)
  refine tt_if (fun c1 => ?_) (fun c1 => ?_)
  · have wc1 : v2.toInt ≤ v4.toInt := c_le c1
    refine tt_b (sSB_appendS_S11 _ k_o1 f_o1_3 (show (o1.1 3).toInt ≤ (o1.1 0).toInt by omega) (show (o1.1 3).toInt ≤ 89997 by omega)) (fun q2 hq2 => ?_)
    obtain ⟨k_q2, n_q2, f_q2_3, zq2_0, zq2_1, zq2_2, -⟩ := hq2
    have r_q2 := fr_tr r_o1 n_q2 rfl rfl rfl
    have g_q2_0 : (16 : Int) ≤ (q2.1 0).toInt ∧ (q2.1 0).toInt ≤ 400000 := k_q2.1 0
    have e_q2_1 : (q2.1 1).toInt = (o1.1 1).toInt := congrArg Int32.toInt (n_q2.1 1 rfl)
    have g_q2_1 : (0 : Int) ≤ (q2.1 1).toInt ∧ (q2.1 1).toInt ≤ 0 := k_q2.1 1
    have zq2_0 : (q2.1 3).toInt = (o1.1 3).toInt + 3 := zq2_0
    have zq2_1 : (o1.1 3).toInt ≤ (q2.1 3).toInt := zq2_1
    have zq2_2 : (q2.1 3).toInt ≤ (q2.1 0).toInt := zq2_2
    try unfold fCv_writeRows_68
    try unfold fCv_writeRows_69
    refine tt_kv (P := fun z => ((1 : Int) ≤ z.toInt ∧ z.toInt ≤ 32) ∧ z.toInt = v3.toInt + 1) ⟨iv_add i_v3 (show (1 : Int) ≤ (1 : Int32).toInt ∧ (1 : Int32).toInt ≤ 1 by decide) (by decide) (by decide) (by decide) (by decide), iq_add i_v3 (show (1 : Int) ≤ (1 : Int32).toInt ∧ (1 : Int32).toInt ≤ 1 by decide) (by decide) (by decide)⟩ (fun x3 qi4 => ?_)
    obtain ⟨i4, ei4⟩ := qi4
    exact H.1 _ _ _ _ _ k_o0 r_o0 k_q2 r_q2 i_v2 (iv_w (a := 0) (b := 32) (by decide) (by decide) i4) (iv_w (a := 8) (b := 90000) (by decide) (by decide) f_q2_3) (show (q2.1 3).toInt ≤ (q2.1 0).toInt by omega) (show (yo1.1 3).toInt ≤ (q2.1 3).toInt by omega) (show (q2.1 3).toInt ≤ (yo1.1 3).toInt + 8 * x3.toInt by omega) (show (yo1.1 3).toInt ≤ 89744 by omega) (show 0 ≤ x3.toInt by omega) (show x3.toInt ≤ 32 by omega) (show 0 + (32 - x3.toInt) * 14 < (n : Int) by omega)
  · have wc1 : v4.toInt < v2.toInt := c_nle c1
    have i5 : (0 : Int) ≤ v4.toInt ∧ v4.toInt ≤ 4 := nr_nlel c1 i_v4 i_v2 (by decide) (by decide)
    have i6 : (1 : Int) ≤ v2.toInt ∧ v2.toInt ≤ 5 := nr_nler c1 i_v4 i_v2 (by decide) (by decide)
    refine tt_kv (P := fun z => (0 : Int) ≤ z.toInt ∧ z.toInt ≤ 31) (iv_shr (p := 0) (q := 4) i_v3 i5 (by decide) (by decide) (by decide) (by decide)) (fun x7 i8 => ?_)
    refine tt_kv (P := fun z => ((0 : Int) ≤ z.toInt ∧ z.toInt ≤ 1) ∧ z.toInt = x7.toInt % 2) ⟨iv_and (show (1 : Int) ≤ (1 : Int32).toInt ∧ (1 : Int32).toInt ≤ 1 by decide) (by decide) (by decide) (by decide), i_a1 (Int.le_trans (by decide) i8.1)⟩ (fun x9 qi10 => ?_)
    obtain ⟨i10, ei10⟩ := qi10
    refine tt_if (fun c11 => ?_) (fun c11 => ?_)
    · have wc11 : x9.toInt = (0 : Int) := c_eq c11
      have i12 : (0 : Int) ≤ x9.toInt ∧ x9.toInt ≤ 0 := nr_eql c11 i10 (show (0 : Int) ≤ (0 : Int32).toInt ∧ (0 : Int32).toInt ≤ 0 by decide) (by decide) (by decide)
      try unfold fCv_writeRows_49
      refine tt_b (sSB_appendC _ _ k_o1 (iv_w (a := 0) (b := 255) (by decide) (by decide) (show (48 : Int) ≤ (48 : Int32).toInt ∧ (48 : Int32).toInt ≤ 48 by decide)) (iv_w (a := 7) (b := 90000) (by decide) (by decide) f_o1_3) (show (o1.1 3).toInt ≤ (o1.1 0).toInt by omega) (show (o1.1 3).toInt ≤ 89999 by omega)) (fun q13 hq13 => ?_)
      obtain ⟨k_q13, n_q13, f_q13_3, zq13_0, zq13_1, zq13_2, -⟩ := hq13
      have r_q13 := fr_tr r_o1 n_q13 rfl rfl rfl
      have g_q13_0 : (16 : Int) ≤ (q13.1 0).toInt ∧ (q13.1 0).toInt ≤ 400000 := k_q13.1 0
      have e_q13_1 : (q13.1 1).toInt = (o1.1 1).toInt := congrArg Int32.toInt (n_q13.1 1 rfl)
      have g_q13_1 : (0 : Int) ≤ (q13.1 1).toInt ∧ (q13.1 1).toInt ≤ 0 := k_q13.1 1
      have zq13_0 : (q13.1 3).toInt = (o1.1 3).toInt + 1 := zq13_0
      have zq13_1 : (o1.1 3).toInt ≤ (q13.1 3).toInt := zq13_1
      have zq13_2 : (q13.1 3).toInt ≤ (q13.1 0).toInt := zq13_2
      try unfold fCv_writeRows_52
      refine tt_kv (P := fun z => ((1 : Int) ≤ z.toInt ∧ z.toInt ≤ 5) ∧ z.toInt = v4.toInt + 1) ⟨iv_add i5 (show (1 : Int) ≤ (1 : Int32).toInt ∧ (1 : Int32).toInt ≤ 1 by decide) (by decide) (by decide) (by decide) (by decide), iq_add i5 (show (1 : Int) ≤ (1 : Int32).toInt ∧ (1 : Int32).toInt ≤ 1 by decide) (by decide) (by decide)⟩ (fun x14 qi15 => ?_)
      obtain ⟨i15, ei15⟩ := qi15
      exact H.2 _ _ _ _ _ _ k_o0 r_o0 k_q13 r_q13 (iv_w (a := 0) (b := 5) (by decide) (by decide) i6) i_v3 (iv_w (a := 0) (b := 5) (by decide) (by decide) i15) f_q13_3 (show (q13.1 3).toInt ≤ (q13.1 0).toInt by omega) (show (yo1.1 3).toInt ≤ (q13.1 3).toInt by omega) (show (q13.1 3).toInt ≤ (yo1.1 3).toInt + 8 * v3.toInt + x14.toInt by omega) (show (yo1.1 3).toInt ≤ 89744 by omega) (show 0 ≤ v3.toInt by omega) (show v3.toInt ≤ 31 by omega) (show 0 ≤ x14.toInt by omega) (show x14.toInt ≤ v2.toInt by omega) (show 0 + (32 - v3.toInt - 1) * 14 + 1 + (5 - x14.toInt) * 2 < (n : Int) by omega)
    · have wc11 : ¬ x9.toInt = (0 : Int) := c_ne c11
      have i16 : (1 : Int) ≤ x9.toInt ∧ x9.toInt ≤ 1 := nr_nela c11 i10 (show (0 : Int) ≤ (0 : Int32).toInt ∧ (0 : Int32).toInt ≤ 0 by decide) (by decide) (by decide)
      try unfold fCv_writeRows_49
      refine tt_b (sSB_appendC _ _ k_o1 (iv_w (a := 0) (b := 255) (by decide) (by decide) (show (49 : Int) ≤ (49 : Int32).toInt ∧ (49 : Int32).toInt ≤ 49 by decide)) (iv_w (a := 7) (b := 90000) (by decide) (by decide) f_o1_3) (show (o1.1 3).toInt ≤ (o1.1 0).toInt by omega) (show (o1.1 3).toInt ≤ 89999 by omega)) (fun q17 hq17 => ?_)
      obtain ⟨k_q17, n_q17, f_q17_3, zq17_0, zq17_1, zq17_2, -⟩ := hq17
      have r_q17 := fr_tr r_o1 n_q17 rfl rfl rfl
      have g_q17_0 : (16 : Int) ≤ (q17.1 0).toInt ∧ (q17.1 0).toInt ≤ 400000 := k_q17.1 0
      have e_q17_1 : (q17.1 1).toInt = (o1.1 1).toInt := congrArg Int32.toInt (n_q17.1 1 rfl)
      have g_q17_1 : (0 : Int) ≤ (q17.1 1).toInt ∧ (q17.1 1).toInt ≤ 0 := k_q17.1 1
      have zq17_0 : (q17.1 3).toInt = (o1.1 3).toInt + 1 := zq17_0
      have zq17_1 : (o1.1 3).toInt ≤ (q17.1 3).toInt := zq17_1
      have zq17_2 : (q17.1 3).toInt ≤ (q17.1 0).toInt := zq17_2
      try unfold fCv_writeRows_52
      refine tt_kv (P := fun z => ((1 : Int) ≤ z.toInt ∧ z.toInt ≤ 5) ∧ z.toInt = v4.toInt + 1) ⟨iv_add i5 (show (1 : Int) ≤ (1 : Int32).toInt ∧ (1 : Int32).toInt ≤ 1 by decide) (by decide) (by decide) (by decide) (by decide), iq_add i5 (show (1 : Int) ≤ (1 : Int32).toInt ∧ (1 : Int32).toInt ≤ 1 by decide) (by decide) (by decide)⟩ (fun x18 qi19 => ?_)
      obtain ⟨i19, ei19⟩ := qi19
      exact H.2 _ _ _ _ _ _ k_o0 r_o0 k_q17 r_q17 (iv_w (a := 0) (b := 5) (by decide) (by decide) i6) i_v3 (iv_w (a := 0) (b := 5) (by decide) (by decide) i19) f_q17_3 (show (q17.1 3).toInt ≤ (q17.1 0).toInt by omega) (show (yo1.1 3).toInt ≤ (q17.1 3).toInt by omega) (show (q17.1 3).toInt ≤ (yo1.1 3).toInt + 8 * v3.toInt + x18.toInt by omega) (show (yo1.1 3).toInt ≤ 89744 by omega) (show 0 ≤ v3.toInt by omega) (show v3.toInt ≤ 31 by omega) (show 0 ≤ x18.toInt by omega) (show x18.toInt ≤ v2.toInt by omega) (show 0 + (32 - v3.toInt - 1) * 14 + 1 + (5 - x18.toInt) * 2 < (n : Int) by omega)
set_option maxHeartbeats 4000000 in
set_option maxRecDepth 100000 in
theorem tCv_writeRows_2 {yv1 : Int32} {yv2 : Int32} {yo0 : cf_O} {yo1 : cf_O} {n : Nat} (H : HCv_writeRows yv1 yv2 yo0 yo1 n) (v1 : Int32) (v2 : Int32) (v3 : Int32) (o0 : cf_O) (o1 : cf_O) (k_o0 : okO I_Sc o0) (r_o0 : Fr (fr_M [] [] []) yo0 o0) (k_o1 : okO I_SB o1) (r_o1 : Fr (fr_M [0, 3] [0] []) yo1 o1) (i_v2 : (0 : Int) ≤ v2.toInt ∧ v2.toInt ≤ 5) (i_v3 : (0 : Int) ≤ v3.toInt ∧ v3.toInt ≤ 32) (f_o1_3 : (8 : Int) ≤ (o1.1 3).toInt ∧ (o1.1 3).toInt ≤ 90000) (x_0 : (o1.1 3).toInt ≤ (o1.1 0).toInt) (x_1 : (yo1.1 3).toInt ≤ (o1.1 3).toInt) (x_2 : (o1.1 3).toInt ≤ (yo1.1 3).toInt + 8 * v3.toInt) (x_3 : (yo1.1 3).toInt ≤ 89744) (x_4 : 0 ≤ v3.toInt) (x_5 : v3.toInt ≤ 32) (hm : 0 + (32 - v3.toInt) * 14 ≤ (n : Int)) : tt (fCv_writeRows_2 (gCv_writeRows n) v1 v2 v3 o0 o1) (QCv_writeRows yv1 yv2 yo0 yo1) := by
  unfold fCv_writeRows_2
  have i_v1 := iv_top v1
  have g_o0_0 : (0 : Int) ≤ (o0.1 0).toInt ∧ (o0.1 0).toInt ≤ 1 := k_o0.1 0
  have ey_o0_0 : (o0.1 0).toInt = (yo0.1 0).toInt := congrArg Int32.toInt (r_o0.1 0 rfl)
  have g_o0_1 : (0 : Int) ≤ (o0.1 1).toInt ∧ (o0.1 1).toInt ≤ 0 := k_o0.1 1
  have ey_o0_1 : (o0.1 1).toInt = (yo0.1 1).toInt := congrArg Int32.toInt (r_o0.1 1 rfl)
  have g_o0_3 : (0 : Int) ≤ (o0.1 3).toInt ∧ (o0.1 3).toInt ≤ 0 := k_o0.1 3
  have ey_o0_3 : (o0.1 3).toInt = (yo0.1 3).toInt := congrArg Int32.toInt (r_o0.1 3 rfl)
  have g_o1_0 : (16 : Int) ≤ (o1.1 0).toInt ∧ (o1.1 0).toInt ≤ 400000 := k_o1.1 0
  have g_o1_1 : (0 : Int) ≤ (o1.1 1).toInt ∧ (o1.1 1).toInt ≤ 0 := k_o1.1 1
  have ey_o1_1 : (o1.1 1).toInt = (yo1.1 1).toInt := congrArg Int32.toInt (r_o1.1 1 rfl)
  refine tt_kv (P := fun z => ((1 : Int) ≤ z.toInt ∧ z.toInt ≤ 32) ∧ z.toInt = ((1 : Int32) <<< (v2 &&& (31 : Int32))).toInt) ⟨iv_shl (p := 0) (q := 5) (show (1 : Int) ≤ (1 : Int32).toInt ∧ (1 : Int32).toInt ≤ 1 by decide) i_v2 (by decide) (by decide) (by decide) (by decide) (by decide), rfl⟩ (fun x1 qi2 => ?_)
  obtain ⟨i2, ei2⟩ := qi2
  refine tt_if (fun c3 => ?_) (fun c3 => ?_)
  · have wc3 : x1.toInt ≤ v3.toInt := c_le c3
    have i4 : (1 : Int) ≤ v3.toInt ∧ v3.toInt ≤ 32 := nr_ler c3 i2 i_v3 (by decide) (by decide)
    exact tt_some ⟨k_o1, r_o1, f_o1_3, (show (o1.1 3).toInt ≤ (yo1.1 3).toInt + 256 by omega), (show (yo1.1 3).toInt ≤ (o1.1 3).toInt by omega), (show (o1.1 3).toInt ≤ (o1.1 0).toInt by omega), trivial⟩
  · have wc3 : v3.toInt < x1.toInt := c_nle c3
    have i5 : (0 : Int) ≤ v3.toInt ∧ v3.toInt ≤ 31 := nr_nlel c3 i_v3 i2 (by decide) (by decide)
    refine tt_kv (P := fun z => ((-2147483648) : Int) ≤ z.toInt ∧ z.toInt ≤ 2147483647) (iv_top _) (fun x6 i7 => ?_)
    refine tt_kv (P := fun z => (0 : Int) ≤ z.toInt ∧ z.toInt ≤ 1) (iv_and (show (1 : Int) ≤ (1 : Int32).toInt ∧ (1 : Int32).toInt ≤ 1 by decide) (by decide) (by decide) (by decide)) (fun x8 i9 => ?_)
    refine tt_if (fun c10 => ?_) (fun c10 => ?_)
    · have wc10 : x8.toInt = (0 : Int) := c_eq c10
      have i11 : (0 : Int) ≤ x8.toInt ∧ x8.toInt ≤ 0 := nr_eql c10 i9 (show (0 : Int) ≤ (0 : Int32).toInt ∧ (0 : Int32).toInt ≤ 0 by decide) (by decide) (by decide)
      try unfold fCv_writeRows_69
      refine tt_kv (P := fun z => ((1 : Int) ≤ z.toInt ∧ z.toInt ≤ 32) ∧ z.toInt = v3.toInt + 1) ⟨iv_add i5 (show (1 : Int) ≤ (1 : Int32).toInt ∧ (1 : Int32).toInt ≤ 1 by decide) (by decide) (by decide) (by decide) (by decide), iq_add i5 (show (1 : Int) ≤ (1 : Int32).toInt ∧ (1 : Int32).toInt ≤ 1 by decide) (by decide) (by decide)⟩ (fun x12 qi13 => ?_)
      obtain ⟨i13, ei13⟩ := qi13
      exact H.1 _ _ _ _ _ k_o0 r_o0 k_o1 r_o1 i_v2 (iv_w (a := 0) (b := 32) (by decide) (by decide) i13) f_o1_3 (show (o1.1 3).toInt ≤ (o1.1 0).toInt by omega) (show (yo1.1 3).toInt ≤ (o1.1 3).toInt by omega) (show (o1.1 3).toInt ≤ (yo1.1 3).toInt + 8 * x12.toInt by omega) (show (yo1.1 3).toInt ≤ 89744 by omega) (show 0 ≤ x12.toInt by omega) (show x12.toInt ≤ 32 by omega) (show 0 + (32 - x12.toInt) * 14 < (n : Int) by omega)
    · have wc10 : ¬ x8.toInt = (0 : Int) := c_ne c10
      have i14 : (1 : Int) ≤ x8.toInt ∧ x8.toInt ≤ 1 := nr_nela c10 i9 (show (0 : Int) ≤ (0 : Int32).toInt ∧ (0 : Int32).toInt ≤ 0 by decide) (by decide) (by decide)
      exact H.2 _ _ _ _ _ _ k_o0 r_o0 k_o1 r_o1 i_v2 i5 (iv_w (a := 0) (b := 5) (by decide) (by decide) (show (0 : Int) ≤ (0 : Int32).toInt ∧ (0 : Int32).toInt ≤ 0 by decide)) f_o1_3 (show (o1.1 3).toInt ≤ (o1.1 0).toInt by omega) (show (yo1.1 3).toInt ≤ (o1.1 3).toInt by omega) (show (o1.1 3).toInt ≤ (yo1.1 3).toInt + 8 * v3.toInt + 0 by omega) (show (yo1.1 3).toInt ≤ 89744 by omega) (show 0 ≤ v3.toInt by omega) (show v3.toInt ≤ 31 by omega) (show 0 ≤ 0 by omega) (show 0 ≤ v2.toInt by omega) (show 0 + (32 - v3.toInt - 1) * 14 + 1 + (5 - 0) * 2 < (n : Int) by omega)
set_option maxHeartbeats 4000000 in
set_option maxRecDepth 100000 in
theorem hCv_writeRows (yv1 : Int32) (yv2 : Int32) (yo0 : cf_O) (yo1 : cf_O) : ∀ n, HCv_writeRows yv1 yv2 yo0 yo1 n := by
  intro n
  induction n with
  | zero => exact ⟨(fun v1 v2 v3 o0 o1 k_o0 r_o0 k_o1 r_o1 i_v2 i_v3 f_o1_3 x_0 x_1 x_2 x_3 x_4 x_5 hm => by exact absurd (show 0 + (32 - v3.toInt) * 14 < (0 : Int) from hm) (by omega)), (fun v1 v2 v3 v4 o0 o1 k_o0 r_o0 k_o1 r_o1 i_v2 i_v3 i_v4 f_o1_3 x_0 x_1 x_2 x_3 x_4 x_5 x_6 x_7 hm => by exact absurd (show 0 + (32 - v3.toInt - 1) * 14 + 1 + (5 - v4.toInt) * 2 < (0 : Int) from hm) (by omega))⟩
  | succ n ih => exact ⟨(fun v1 v2 v3 o0 o1 k_o0 r_o0 k_o1 r_o1 i_v2 i_v3 f_o1_3 x_0 x_1 x_2 x_3 x_4 x_5 hm => tCv_writeRows_2 ih v1 v2 v3 o0 o1 k_o0 r_o0 k_o1 r_o1 i_v2 i_v3 f_o1_3 x_0 x_1 x_2 x_3 x_4 x_5 (by omega)), (fun v1 v2 v3 v4 o0 o1 k_o0 r_o0 k_o1 r_o1 i_v2 i_v3 i_v4 f_o1_3 x_0 x_1 x_2 x_3 x_4 x_5 x_6 x_7 hm => tCv_writeRows_23 ih v1 v2 v3 v4 o0 o1 k_o0 r_o0 k_o1 r_o1 i_v2 i_v3 i_v4 f_o1_3 x_0 x_1 x_2 x_3 x_4 x_5 x_6 x_7 (by omega))⟩
set_option maxHeartbeats 4000000 in
set_option maxRecDepth 100000 in
theorem sCv_writeRows (v1 : Int32) (v2 : Int32) (o0 : cf_O) (o1 : cf_O) (k_o0 : okO I_Sc o0) (k_o1 : okO I_SB o1) (i_v2 : (0 : Int) ≤ v2.toInt ∧ v2.toInt ≤ 5) (f_o1_3 : (8 : Int) ≤ (o1.1 3).toInt ∧ (o1.1 3).toInt ≤ 90000) (x_0 : (o1.1 3).toInt ≤ (o1.1 0).toInt) (x_1 : (o1.1 3).toInt ≤ 89744) : tt (fCv_writeRows v1 v2 o0 o1) (QCv_writeRows v1 v2 o0 o1) := by
  have H := hCv_writeRows v1 v2 o0 o1 cfFU
  have hm : (451 : Int) ≤ (cfFU : Nat) := by decide
  have r_o0 : Fr (fr_M [] [] []) o0 o0 := fr_rfl
  have r_o1 : Fr (fr_M [0, 3] [0] []) o1 o1 := fr_rfl
  unfold fCv_writeRows fCv_writeRows_0
  have i_v1 := iv_top v1
  have g_o0_0 : (0 : Int) ≤ (o0.1 0).toInt ∧ (o0.1 0).toInt ≤ 1 := k_o0.1 0
  have g_o0_1 : (0 : Int) ≤ (o0.1 1).toInt ∧ (o0.1 1).toInt ≤ 0 := k_o0.1 1
  have g_o0_3 : (0 : Int) ≤ (o0.1 3).toInt ∧ (o0.1 3).toInt ≤ 0 := k_o0.1 3
  have g_o1_0 : (16 : Int) ≤ (o1.1 0).toInt ∧ (o1.1 0).toInt ≤ 400000 := k_o1.1 0
  have g_o1_1 : (0 : Int) ≤ (o1.1 1).toInt ∧ (o1.1 1).toInt ≤ 0 := k_o1.1 1
  exact H.1 _ _ _ _ _ k_o0 r_o0 k_o1 r_o1 i_v2 (iv_w (a := 0) (b := 32) (by decide) (by decide) (show (0 : Int) ≤ (0 : Int32).toInt ∧ (0 : Int32).toInt ≤ 0 by decide)) f_o1_3 (show (o1.1 3).toInt ≤ (o1.1 0).toInt by omega) (show (o1.1 3).toInt ≤ (o1.1 3).toInt by omega) (show (o1.1 3).toInt ≤ (o1.1 3).toInt + 8 * 0 by omega) (show (o1.1 3).toInt ≤ 89744 by omega) (show 0 ≤ 0 by omega) (show 0 ≤ 32 by omega) (show 0 + (32 - 0) * 14 < ((cfFU : Nat) : Int) by omega)
def QJString_coder__S12  (r : (Int32)) : Prop := ((0 : Int) ≤ r.toInt ∧ r.toInt ≤ 0) ∧ True
set_option maxHeartbeats 4000000 in
set_option maxRecDepth 100000 in
theorem sJString_coder__S12   : tt (fJString_coder__S12 ) (QJString_coder__S12 ) := by
  unfold fJString_coder__S12 fJString_coder__S12_0
  try unfold fJString_coder__S12_14
  refine tt_w (iv_nb (show (0 : Int) ≤ (0 : Int32).toInt ∧ (0 : Int32).toInt ≤ 0 by decide) (by decide) (by decide)) ?_
  exact tt_some ⟨(show (0 : Int) ≤ (0 : Int32).toInt ∧ (0 : Int32).toInt ≤ 0 by decide), trivial⟩
def QJString_length__S12  (r : (Int32)) : Prop := ((6 : Int) ≤ r.toInt ∧ r.toInt ≤ 6) ∧ True
set_option maxHeartbeats 4000000 in
set_option maxRecDepth 100000 in
theorem sJString_length__S12   : tt (fJString_length__S12 ) (QJString_length__S12 ) := by
  unfold fJString_length__S12 fJString_length__S12_0
  refine tt_b (sJString_coder__S12  ) (fun q1 hq1 => ?_)
  obtain ⟨i_q1, -⟩ := hq1
  refine tt_kv (P := fun z => (6 : Int) ≤ z.toInt ∧ z.toInt ≤ 6) (iv_shr (p := 0) (q := 0) (show (6 : Int) ≤ (6 : Int32).toInt ∧ (6 : Int32).toInt ≤ 6 by decide) i_q1 (by decide) (by decide) (by decide) (by decide)) (fun x2 i3 => ?_)
  exact tt_some ⟨i3, trivial⟩
def QAS_inflateIfNeededFor_S12 (o0 : cf_O) (r : (Unit)) : Prop := True
set_option maxHeartbeats 4000000 in
set_option maxRecDepth 100000 in
theorem sAS_inflateIfNeededFor_S12 (o0 : cf_O) (k_o0 : okO I_SB o0) (f_o0_3 : (8 : Int) ≤ (o0.1 3).toInt ∧ (o0.1 3).toInt ≤ 90000) : tt (fAS_inflateIfNeededFor_S12 o0) (QAS_inflateIfNeededFor_S12 o0) := by
  have r_o0 : Fr (fr_M [] [] []) o0 o0 := fr_rfl
  unfold fAS_inflateIfNeededFor_S12 fAS_inflateIfNeededFor_S12_0
  refine tt_b (sJString_coder__S12  ) (fun q1 hq1 => ?_)
  obtain ⟨i_q1, -⟩ := hq1
  refine tt_if (fun c2 => ?_) (fun c2 => ?_)
  · try unfold fAS_inflateIfNeededFor_S12_21
    exact tt_some trivial
  · exact (dd_ne c2 (k_o0.1 1) i_q1).elim
def QJString_getBytes_ABIB_S12_SB0 (v2 : Int32) (v3 : Int32) (o0 : cf_O) (r : (cf_O)) : Prop := (okO I_SB r) ∧ (Fr (fr_M [] [0] []) o0 r) ∧ True
set_option maxHeartbeats 4000000 in
set_option maxRecDepth 100000 in
theorem sJString_getBytes_ABIB_S12_SB0 (v2 : Int32) (v3 : Int32) (o0 : cf_O) (k_o0 : okO I_SB o0) (i_v2 : (8 : Int) ≤ v2.toInt ∧ v2.toInt ≤ 90000) (i_v3 : (0 : Int) ≤ v3.toInt ∧ v3.toInt ≤ 0) (f_o0_3 : (8 : Int) ≤ (o0.1 3).toInt ∧ (o0.1 3).toInt ≤ 90000) (x_0 : 0 ≤ v2.toInt) (x_1 : v2.toInt + 6 ≤ (o0.1 0).toInt) : tt (fJString_getBytes_ABIB_S12_SB0 v2 v3 o0) (QJString_getBytes_ABIB_S12_SB0 v2 v3 o0) := by
  have r_o0 : Fr (fr_M [] [0] []) o0 o0 := fr_rfl
  unfold fJString_getBytes_ABIB_S12_SB0 fJString_getBytes_ABIB_S12_SB0_0
  have g_o0_0 : (16 : Int) ≤ (o0.1 0).toInt ∧ (o0.1 0).toInt ≤ 400000 := k_o0.1 0
  have g_o0_1 : (0 : Int) ≤ (o0.1 1).toInt ∧ (o0.1 1).toInt ≤ 0 := k_o0.1 1
  refine tt_b (sJString_coder__S12  ) (fun q1 hq1 => ?_)
  obtain ⟨i_q1, -⟩ := hq1
  refine tt_if (fun c2 => ?_) (fun c2 => ?_)
  · have wc2 : q1.toInt = v3.toInt := c_eq c2
    refine tt_kv (P := fun z => ((8 : Int) ≤ z.toInt ∧ z.toInt ≤ 90000) ∧ z.toInt = v2.toInt) ⟨iv_shl (p := 0) (q := 0) i_v2 i_v3 (by decide) (by decide) (by decide) (by decide) (by decide), sh0l i_v3⟩ (fun x3 qi4 => ?_)
    obtain ⟨i4, ei4⟩ := qi4
    refine tt_n (ac_ok (x := x3) (l := (o0.1 0)) (by omega) (by omega)) ?_
    refine tt_ko ?_
    have k5 := ok_cb (k := 0) (s := 12) (x := x3) (n := 6) k_o0 ⟨by decide, by decide⟩
    have r6 := fr_cb (k := 0) (s := 12) (x := x3) (n := 6) r_o0 rfl
    exact tt_some ⟨k5, r6, trivial⟩
  · have wc2 : ¬ q1.toInt = v3.toInt := c_ne c2
    exact (dd_ne c2 i_q1 i_v3).elim
def QAS_putStringAt_S12 (v1 : Int32) (o0 : cf_O) (r : (cf_O)) : Prop := (okO I_SB r) ∧ (Fr (fr_M [] [0] []) o0 r) ∧ True
set_option maxHeartbeats 4000000 in
set_option maxRecDepth 100000 in
theorem sAS_putStringAt_S12 (v1 : Int32) (o0 : cf_O) (k_o0 : okO I_SB o0) (i_v1 : (8 : Int) ≤ v1.toInt ∧ v1.toInt ≤ 90000) (f_o0_3 : (8 : Int) ≤ (o0.1 3).toInt ∧ (o0.1 3).toInt ≤ 90000) (x_0 : 0 ≤ v1.toInt) (x_1 : v1.toInt + 6 ≤ (o0.1 0).toInt) : tt (fAS_putStringAt_S12 v1 o0) (QAS_putStringAt_S12 v1 o0) := by
  have r_o0 : Fr (fr_M [] [0] []) o0 o0 := fr_rfl
  unfold fAS_putStringAt_S12 fAS_putStringAt_S12_0
  have g_o0_0 : (16 : Int) ≤ (o0.1 0).toInt ∧ (o0.1 0).toInt ≤ 400000 := k_o0.1 0
  have g_o0_1 : (0 : Int) ≤ (o0.1 1).toInt ∧ (o0.1 1).toInt ≤ 0 := k_o0.1 1
  refine tt_b (sAS_inflateIfNeededFor_S12 _ k_o0 f_o0_3) (fun q1 hq1 => ?_)
  refine tt_b (sJString_getBytes_ABIB_S12_SB0 _ _ _ k_o0 i_v1 (k_o0.1 1) f_o0_3 (show 0 ≤ v1.toInt by omega) (show v1.toInt + 6 ≤ (o0.1 0).toInt by omega)) (fun q2 hq2 => ?_)
  obtain ⟨k_q2, n_q2, -⟩ := hq2
  have r_q2 := fr_tr r_o0 n_q2 rfl rfl rfl
  have f_q2_3 : (8 : Int) ≤ (q2.1 3).toInt ∧ (q2.1 3).toInt ≤ 90000 := by rw [n_q2.1 3 rfl]; exact f_o0_3
  have e_q2_0 : (q2.1 0).toInt = (o0.1 0).toInt := congrArg Int32.toInt (n_q2.1 0 rfl)
  have g_q2_0 : (16 : Int) ≤ (q2.1 0).toInt ∧ (q2.1 0).toInt ≤ 400000 := k_q2.1 0
  have e_q2_1 : (q2.1 1).toInt = (o0.1 1).toInt := congrArg Int32.toInt (n_q2.1 1 rfl)
  have g_q2_1 : (0 : Int) ≤ (q2.1 1).toInt ∧ (q2.1 1).toInt ≤ 0 := k_q2.1 1
  have e_q2_3 : (q2.1 3).toInt = (o0.1 3).toInt := congrArg Int32.toInt (n_q2.1 3 rfl)
  exact tt_some ⟨k_q2, r_q2, trivial⟩
def QAS_appendS_S12 (o0 : cf_O) (r : (cf_O)) : Prop := (okO I_SB r) ∧ (Fr (fr_M [0, 3] [0] []) o0 r) ∧ ((14 : Int) ≤ (r.1 3).toInt ∧ (r.1 3).toInt ≤ 90000) ∧ ((r.1 3).toInt = (o0.1 3).toInt + 6) ∧ ((o0.1 3).toInt ≤ (r.1 3).toInt) ∧ ((r.1 3).toInt ≤ (r.1 0).toInt) ∧ True
set_option maxHeartbeats 4000000 in
set_option maxRecDepth 100000 in
theorem sAS_appendS_S12 (o0 : cf_O) (k_o0 : okO I_SB o0) (f_o0_3 : (8 : Int) ≤ (o0.1 3).toInt ∧ (o0.1 3).toInt ≤ 90000) (x_0 : (o0.1 3).toInt ≤ (o0.1 0).toInt) (x_1 : (o0.1 3).toInt ≤ 89994) : tt (fAS_appendS_S12 o0) (QAS_appendS_S12 o0) := by
  have r_o0 : Fr (fr_M [0, 3] [0] []) o0 o0 := fr_rfl
  unfold fAS_appendS_S12 fAS_appendS_S12_0
  have g_o0_0 : (16 : Int) ≤ (o0.1 0).toInt ∧ (o0.1 0).toInt ≤ 400000 := k_o0.1 0
  have g_o0_1 : (0 : Int) ≤ (o0.1 1).toInt ∧ (o0.1 1).toInt ≤ 0 := k_o0.1 1
  refine tt_b (sJString_length__S12  ) (fun q1 hq1 => ?_)
  obtain ⟨i_q1, -⟩ := hq1
  try unfold fAS_appendS_S12_13
  refine tt_kv (P := fun z => ((14 : Int) ≤ z.toInt ∧ z.toInt ≤ 90006) ∧ z.toInt = (o0.1 3).toInt + q1.toInt) ⟨iv_add f_o0_3 i_q1 (by decide) (by decide) (by decide) (by decide), iq_add f_o0_3 i_q1 (by decide) (by decide)⟩ (fun x2 qi3 => ?_)
  obtain ⟨i3, ei3⟩ := qi3
  refine tt_b (sAS_ensureCapacityInternal _ _ k_o0 (iv_w (a := 0) (b := 90010) (by decide) (by decide) i3)) (fun q4 hq4 => ?_)
  obtain ⟨k_q4, n_q4, zq4_0, zq4_1, zq4_2, -⟩ := hq4
  have r_q4 := fr_tr r_o0 n_q4 rfl rfl rfl
  have f_q4_3 : (8 : Int) ≤ (q4.1 3).toInt ∧ (q4.1 3).toInt ≤ 90000 := by rw [n_q4.1 3 rfl]; exact f_o0_3
  have g_q4_0 : (16 : Int) ≤ (q4.1 0).toInt ∧ (q4.1 0).toInt ≤ 400000 := k_q4.1 0
  have e_q4_1 : (q4.1 1).toInt = (o0.1 1).toInt := congrArg Int32.toInt (n_q4.1 1 rfl)
  have g_q4_1 : (0 : Int) ≤ (q4.1 1).toInt ∧ (q4.1 1).toInt ≤ 0 := k_q4.1 1
  have e_q4_3 : (q4.1 3).toInt = (o0.1 3).toInt := congrArg Int32.toInt (n_q4.1 3 rfl)
  have zq4_0 : x2.toInt ≤ (q4.1 0).toInt := zq4_0
  have zq4_1 : (o0.1 0).toInt ≤ (q4.1 0).toInt := zq4_1
  have zq4_2 : (q4.1 0).toInt ≤ (o0.1 0).toInt ∨ (q4.1 0).toInt ≤ 180022 := zq4_2
  try unfold fAS_appendS_S12_24
  refine tt_b (sAS_putStringAt_S12 _ _ k_q4 f_q4_3 f_q4_3 (show 0 ≤ (q4.1 3).toInt by omega) (show (q4.1 3).toInt + 6 ≤ (q4.1 0).toInt by omega)) (fun q5 hq5 => ?_)
  obtain ⟨k_q5, n_q5, -⟩ := hq5
  have r_q5 := fr_tr r_q4 n_q5 rfl rfl rfl
  have f_q5_3 : (8 : Int) ≤ (q5.1 3).toInt ∧ (q5.1 3).toInt ≤ 90000 := by rw [n_q5.1 3 rfl]; exact f_q4_3
  have e_q5_0 : (q5.1 0).toInt = (q4.1 0).toInt := congrArg Int32.toInt (n_q5.1 0 rfl)
  have g_q5_0 : (16 : Int) ≤ (q5.1 0).toInt ∧ (q5.1 0).toInt ≤ 400000 := k_q5.1 0
  have e_q5_1 : (q5.1 1).toInt = (q4.1 1).toInt := congrArg Int32.toInt (n_q5.1 1 rfl)
  have g_q5_1 : (0 : Int) ≤ (q5.1 1).toInt ∧ (q5.1 1).toInt ≤ 0 := k_q5.1 1
  have e_q5_3 : (q5.1 3).toInt = (q4.1 3).toInt := congrArg Int32.toInt (n_q5.1 3 rfl)
  try unfold fAS_appendS_S12_33
  refine tt_kv (P := fun z => ((14 : Int) ≤ z.toInt ∧ z.toInt ≤ 90006) ∧ z.toInt = (q5.1 3).toInt + q1.toInt) ⟨iv_add f_q5_3 i_q1 (by decide) (by decide) (by decide) (by decide), iq_add f_q5_3 i_q1 (by decide) (by decide)⟩ (fun x6 qi7 => ?_)
  obtain ⟨i7, ei7⟩ := qi7
  refine tt_ko ?_
  have k8 := ok_fp (k := 3) (v := x6) k_q5 (show (0 : Int) ≤ _ ∧ _ ≤ (90000 : Int) by omega)
  have i9 : (14 : Int) ≤ x6.toInt ∧ x6.toInt ≤ 90000 := (by omega)
  have r10 := fr_fp (k := 3) (v := x6) r_q5 rfl
  exact tt_some ⟨k8, r10, i9, (show x6.toInt = (o0.1 3).toInt + 6 by omega), (show (o0.1 3).toInt ≤ x6.toInt by omega), (show x6.toInt ≤ (q5.1 0).toInt by omega), trivial⟩
def QSB_appendS_S12 (o0 : cf_O) (r : (cf_O)) : Prop := (okO I_SB r) ∧ (Fr (fr_M [0, 3] [0] []) o0 r) ∧ ((14 : Int) ≤ (r.1 3).toInt ∧ (r.1 3).toInt ≤ 90000) ∧ ((r.1 3).toInt = (o0.1 3).toInt + 6) ∧ ((o0.1 3).toInt ≤ (r.1 3).toInt) ∧ ((r.1 3).toInt ≤ (r.1 0).toInt) ∧ True
set_option maxHeartbeats 4000000 in
set_option maxRecDepth 100000 in
theorem sSB_appendS_S12 (o0 : cf_O) (k_o0 : okO I_SB o0) (f_o0_3 : (8 : Int) ≤ (o0.1 3).toInt ∧ (o0.1 3).toInt ≤ 90000) (x_0 : (o0.1 3).toInt ≤ (o0.1 0).toInt) (x_1 : (o0.1 3).toInt ≤ 89994) : tt (fSB_appendS_S12 o0) (QSB_appendS_S12 o0) := by
  have r_o0 : Fr (fr_M [0, 3] [0] []) o0 o0 := fr_rfl
  unfold fSB_appendS_S12 fSB_appendS_S12_0
  have g_o0_0 : (16 : Int) ≤ (o0.1 0).toInt ∧ (o0.1 0).toInt ≤ 400000 := k_o0.1 0
  have g_o0_1 : (0 : Int) ≤ (o0.1 1).toInt ∧ (o0.1 1).toInt ≤ 0 := k_o0.1 1
  refine tt_b (sAS_appendS_S12 _ k_o0 f_o0_3 (show (o0.1 3).toInt ≤ (o0.1 0).toInt by omega) (show (o0.1 3).toInt ≤ 89994 by omega)) (fun q1 hq1 => ?_)
  obtain ⟨k_q1, n_q1, f_q1_3, zq1_0, zq1_1, zq1_2, -⟩ := hq1
  have r_q1 := fr_tr r_o0 n_q1 rfl rfl rfl
  have g_q1_0 : (16 : Int) ≤ (q1.1 0).toInt ∧ (q1.1 0).toInt ≤ 400000 := k_q1.1 0
  have e_q1_1 : (q1.1 1).toInt = (o0.1 1).toInt := congrArg Int32.toInt (n_q1.1 1 rfl)
  have g_q1_1 : (0 : Int) ≤ (q1.1 1).toInt ∧ (q1.1 1).toInt ≤ 0 := k_q1.1 1
  have zq1_0 : (q1.1 3).toInt = (o0.1 3).toInt + 6 := zq1_0
  have zq1_1 : (o0.1 3).toInt ≤ (q1.1 3).toInt := zq1_1
  have zq1_2 : (q1.1 3).toInt ≤ (q1.1 0).toInt := zq1_2
  try unfold fSB_appendS_S12_5
  exact tt_some ⟨k_q1, r_q1, f_q1_3, (show (q1.1 3).toInt = (o0.1 3).toInt + 6 by omega), (show (o0.1 3).toInt ≤ (q1.1 3).toInt by omega), (show (q1.1 3).toInt ≤ (q1.1 0).toInt by omega), trivial⟩
def QJString_coder__S14  (r : (Int32)) : Prop := ((0 : Int) ≤ r.toInt ∧ r.toInt ≤ 0) ∧ True
set_option maxHeartbeats 4000000 in
set_option maxRecDepth 100000 in
theorem sJString_coder__S14   : tt (fJString_coder__S14 ) (QJString_coder__S14 ) := by
  unfold fJString_coder__S14 fJString_coder__S14_0
  try unfold fJString_coder__S14_14
  refine tt_w (iv_nb (show (0 : Int) ≤ (0 : Int32).toInt ∧ (0 : Int32).toInt ≤ 0 by decide) (by decide) (by decide)) ?_
  exact tt_some ⟨(show (0 : Int) ≤ (0 : Int32).toInt ∧ (0 : Int32).toInt ≤ 0 by decide), trivial⟩
def QJString_length__S14  (r : (Int32)) : Prop := ((4 : Int) ≤ r.toInt ∧ r.toInt ≤ 4) ∧ True
set_option maxHeartbeats 4000000 in
set_option maxRecDepth 100000 in
theorem sJString_length__S14   : tt (fJString_length__S14 ) (QJString_length__S14 ) := by
  unfold fJString_length__S14 fJString_length__S14_0
  refine tt_b (sJString_coder__S14  ) (fun q1 hq1 => ?_)
  obtain ⟨i_q1, -⟩ := hq1
  refine tt_kv (P := fun z => (4 : Int) ≤ z.toInt ∧ z.toInt ≤ 4) (iv_shr (p := 0) (q := 0) (show (4 : Int) ≤ (4 : Int32).toInt ∧ (4 : Int32).toInt ≤ 4 by decide) i_q1 (by decide) (by decide) (by decide) (by decide)) (fun x2 i3 => ?_)
  exact tt_some ⟨i3, trivial⟩
def QAS_inflateIfNeededFor_S14 (o0 : cf_O) (r : (Unit)) : Prop := True
set_option maxHeartbeats 4000000 in
set_option maxRecDepth 100000 in
theorem sAS_inflateIfNeededFor_S14 (o0 : cf_O) (k_o0 : okO I_SB o0) (f_o0_3 : (8 : Int) ≤ (o0.1 3).toInt ∧ (o0.1 3).toInt ≤ 90000) : tt (fAS_inflateIfNeededFor_S14 o0) (QAS_inflateIfNeededFor_S14 o0) := by
  have r_o0 : Fr (fr_M [] [] []) o0 o0 := fr_rfl
  unfold fAS_inflateIfNeededFor_S14 fAS_inflateIfNeededFor_S14_0
  refine tt_b (sJString_coder__S14  ) (fun q1 hq1 => ?_)
  obtain ⟨i_q1, -⟩ := hq1
  refine tt_if (fun c2 => ?_) (fun c2 => ?_)
  · try unfold fAS_inflateIfNeededFor_S14_21
    exact tt_some trivial
  · exact (dd_ne c2 (k_o0.1 1) i_q1).elim
def QJString_getBytes_ABIB_S14_SB0 (v2 : Int32) (v3 : Int32) (o0 : cf_O) (r : (cf_O)) : Prop := (okO I_SB r) ∧ (Fr (fr_M [] [0] []) o0 r) ∧ True
set_option maxHeartbeats 4000000 in
set_option maxRecDepth 100000 in
theorem sJString_getBytes_ABIB_S14_SB0 (v2 : Int32) (v3 : Int32) (o0 : cf_O) (k_o0 : okO I_SB o0) (i_v2 : (8 : Int) ≤ v2.toInt ∧ v2.toInt ≤ 90000) (i_v3 : (0 : Int) ≤ v3.toInt ∧ v3.toInt ≤ 0) (f_o0_3 : (8 : Int) ≤ (o0.1 3).toInt ∧ (o0.1 3).toInt ≤ 90000) (x_0 : 0 ≤ v2.toInt) (x_1 : v2.toInt + 4 ≤ (o0.1 0).toInt) : tt (fJString_getBytes_ABIB_S14_SB0 v2 v3 o0) (QJString_getBytes_ABIB_S14_SB0 v2 v3 o0) := by
  have r_o0 : Fr (fr_M [] [0] []) o0 o0 := fr_rfl
  unfold fJString_getBytes_ABIB_S14_SB0 fJString_getBytes_ABIB_S14_SB0_0
  have g_o0_0 : (16 : Int) ≤ (o0.1 0).toInt ∧ (o0.1 0).toInt ≤ 400000 := k_o0.1 0
  have g_o0_1 : (0 : Int) ≤ (o0.1 1).toInt ∧ (o0.1 1).toInt ≤ 0 := k_o0.1 1
  refine tt_b (sJString_coder__S14  ) (fun q1 hq1 => ?_)
  obtain ⟨i_q1, -⟩ := hq1
  refine tt_if (fun c2 => ?_) (fun c2 => ?_)
  · have wc2 : q1.toInt = v3.toInt := c_eq c2
    refine tt_kv (P := fun z => ((8 : Int) ≤ z.toInt ∧ z.toInt ≤ 90000) ∧ z.toInt = v2.toInt) ⟨iv_shl (p := 0) (q := 0) i_v2 i_v3 (by decide) (by decide) (by decide) (by decide) (by decide), sh0l i_v3⟩ (fun x3 qi4 => ?_)
    obtain ⟨i4, ei4⟩ := qi4
    refine tt_n (ac_ok (x := x3) (l := (o0.1 0)) (by omega) (by omega)) ?_
    refine tt_ko ?_
    have k5 := ok_cb (k := 0) (s := 14) (x := x3) (n := 4) k_o0 ⟨by decide, by decide⟩
    have r6 := fr_cb (k := 0) (s := 14) (x := x3) (n := 4) r_o0 rfl
    exact tt_some ⟨k5, r6, trivial⟩
  · have wc2 : ¬ q1.toInt = v3.toInt := c_ne c2
    exact (dd_ne c2 i_q1 i_v3).elim
def QAS_putStringAt_S14 (v1 : Int32) (o0 : cf_O) (r : (cf_O)) : Prop := (okO I_SB r) ∧ (Fr (fr_M [] [0] []) o0 r) ∧ True
set_option maxHeartbeats 4000000 in
set_option maxRecDepth 100000 in
theorem sAS_putStringAt_S14 (v1 : Int32) (o0 : cf_O) (k_o0 : okO I_SB o0) (i_v1 : (8 : Int) ≤ v1.toInt ∧ v1.toInt ≤ 90000) (f_o0_3 : (8 : Int) ≤ (o0.1 3).toInt ∧ (o0.1 3).toInt ≤ 90000) (x_0 : 0 ≤ v1.toInt) (x_1 : v1.toInt + 4 ≤ (o0.1 0).toInt) : tt (fAS_putStringAt_S14 v1 o0) (QAS_putStringAt_S14 v1 o0) := by
  have r_o0 : Fr (fr_M [] [0] []) o0 o0 := fr_rfl
  unfold fAS_putStringAt_S14 fAS_putStringAt_S14_0
  have g_o0_0 : (16 : Int) ≤ (o0.1 0).toInt ∧ (o0.1 0).toInt ≤ 400000 := k_o0.1 0
  have g_o0_1 : (0 : Int) ≤ (o0.1 1).toInt ∧ (o0.1 1).toInt ≤ 0 := k_o0.1 1
  refine tt_b (sAS_inflateIfNeededFor_S14 _ k_o0 f_o0_3) (fun q1 hq1 => ?_)
  refine tt_b (sJString_getBytes_ABIB_S14_SB0 _ _ _ k_o0 i_v1 (k_o0.1 1) f_o0_3 (show 0 ≤ v1.toInt by omega) (show v1.toInt + 4 ≤ (o0.1 0).toInt by omega)) (fun q2 hq2 => ?_)
  obtain ⟨k_q2, n_q2, -⟩ := hq2
  have r_q2 := fr_tr r_o0 n_q2 rfl rfl rfl
  have f_q2_3 : (8 : Int) ≤ (q2.1 3).toInt ∧ (q2.1 3).toInt ≤ 90000 := by rw [n_q2.1 3 rfl]; exact f_o0_3
  have e_q2_0 : (q2.1 0).toInt = (o0.1 0).toInt := congrArg Int32.toInt (n_q2.1 0 rfl)
  have g_q2_0 : (16 : Int) ≤ (q2.1 0).toInt ∧ (q2.1 0).toInt ≤ 400000 := k_q2.1 0
  have e_q2_1 : (q2.1 1).toInt = (o0.1 1).toInt := congrArg Int32.toInt (n_q2.1 1 rfl)
  have g_q2_1 : (0 : Int) ≤ (q2.1 1).toInt ∧ (q2.1 1).toInt ≤ 0 := k_q2.1 1
  have e_q2_3 : (q2.1 3).toInt = (o0.1 3).toInt := congrArg Int32.toInt (n_q2.1 3 rfl)
  exact tt_some ⟨k_q2, r_q2, trivial⟩
def QAS_appendS_S14 (o0 : cf_O) (r : (cf_O)) : Prop := (okO I_SB r) ∧ (Fr (fr_M [0, 3] [0] []) o0 r) ∧ ((12 : Int) ≤ (r.1 3).toInt ∧ (r.1 3).toInt ≤ 90000) ∧ ((r.1 3).toInt = (o0.1 3).toInt + 4) ∧ ((o0.1 3).toInt ≤ (r.1 3).toInt) ∧ ((r.1 3).toInt ≤ (r.1 0).toInt) ∧ True
set_option maxHeartbeats 4000000 in
set_option maxRecDepth 100000 in
theorem sAS_appendS_S14 (o0 : cf_O) (k_o0 : okO I_SB o0) (f_o0_3 : (8 : Int) ≤ (o0.1 3).toInt ∧ (o0.1 3).toInt ≤ 90000) (x_0 : (o0.1 3).toInt ≤ (o0.1 0).toInt) (x_1 : (o0.1 3).toInt ≤ 89996) : tt (fAS_appendS_S14 o0) (QAS_appendS_S14 o0) := by
  have r_o0 : Fr (fr_M [0, 3] [0] []) o0 o0 := fr_rfl
  unfold fAS_appendS_S14 fAS_appendS_S14_0
  have g_o0_0 : (16 : Int) ≤ (o0.1 0).toInt ∧ (o0.1 0).toInt ≤ 400000 := k_o0.1 0
  have g_o0_1 : (0 : Int) ≤ (o0.1 1).toInt ∧ (o0.1 1).toInt ≤ 0 := k_o0.1 1
  refine tt_b (sJString_length__S14  ) (fun q1 hq1 => ?_)
  obtain ⟨i_q1, -⟩ := hq1
  try unfold fAS_appendS_S14_13
  refine tt_kv (P := fun z => ((12 : Int) ≤ z.toInt ∧ z.toInt ≤ 90004) ∧ z.toInt = (o0.1 3).toInt + q1.toInt) ⟨iv_add f_o0_3 i_q1 (by decide) (by decide) (by decide) (by decide), iq_add f_o0_3 i_q1 (by decide) (by decide)⟩ (fun x2 qi3 => ?_)
  obtain ⟨i3, ei3⟩ := qi3
  refine tt_b (sAS_ensureCapacityInternal _ _ k_o0 (iv_w (a := 0) (b := 90010) (by decide) (by decide) i3)) (fun q4 hq4 => ?_)
  obtain ⟨k_q4, n_q4, zq4_0, zq4_1, zq4_2, -⟩ := hq4
  have r_q4 := fr_tr r_o0 n_q4 rfl rfl rfl
  have f_q4_3 : (8 : Int) ≤ (q4.1 3).toInt ∧ (q4.1 3).toInt ≤ 90000 := by rw [n_q4.1 3 rfl]; exact f_o0_3
  have g_q4_0 : (16 : Int) ≤ (q4.1 0).toInt ∧ (q4.1 0).toInt ≤ 400000 := k_q4.1 0
  have e_q4_1 : (q4.1 1).toInt = (o0.1 1).toInt := congrArg Int32.toInt (n_q4.1 1 rfl)
  have g_q4_1 : (0 : Int) ≤ (q4.1 1).toInt ∧ (q4.1 1).toInt ≤ 0 := k_q4.1 1
  have e_q4_3 : (q4.1 3).toInt = (o0.1 3).toInt := congrArg Int32.toInt (n_q4.1 3 rfl)
  have zq4_0 : x2.toInt ≤ (q4.1 0).toInt := zq4_0
  have zq4_1 : (o0.1 0).toInt ≤ (q4.1 0).toInt := zq4_1
  have zq4_2 : (q4.1 0).toInt ≤ (o0.1 0).toInt ∨ (q4.1 0).toInt ≤ 180022 := zq4_2
  try unfold fAS_appendS_S14_24
  refine tt_b (sAS_putStringAt_S14 _ _ k_q4 f_q4_3 f_q4_3 (show 0 ≤ (q4.1 3).toInt by omega) (show (q4.1 3).toInt + 4 ≤ (q4.1 0).toInt by omega)) (fun q5 hq5 => ?_)
  obtain ⟨k_q5, n_q5, -⟩ := hq5
  have r_q5 := fr_tr r_q4 n_q5 rfl rfl rfl
  have f_q5_3 : (8 : Int) ≤ (q5.1 3).toInt ∧ (q5.1 3).toInt ≤ 90000 := by rw [n_q5.1 3 rfl]; exact f_q4_3
  have e_q5_0 : (q5.1 0).toInt = (q4.1 0).toInt := congrArg Int32.toInt (n_q5.1 0 rfl)
  have g_q5_0 : (16 : Int) ≤ (q5.1 0).toInt ∧ (q5.1 0).toInt ≤ 400000 := k_q5.1 0
  have e_q5_1 : (q5.1 1).toInt = (q4.1 1).toInt := congrArg Int32.toInt (n_q5.1 1 rfl)
  have g_q5_1 : (0 : Int) ≤ (q5.1 1).toInt ∧ (q5.1 1).toInt ≤ 0 := k_q5.1 1
  have e_q5_3 : (q5.1 3).toInt = (q4.1 3).toInt := congrArg Int32.toInt (n_q5.1 3 rfl)
  try unfold fAS_appendS_S14_33
  refine tt_kv (P := fun z => ((12 : Int) ≤ z.toInt ∧ z.toInt ≤ 90004) ∧ z.toInt = (q5.1 3).toInt + q1.toInt) ⟨iv_add f_q5_3 i_q1 (by decide) (by decide) (by decide) (by decide), iq_add f_q5_3 i_q1 (by decide) (by decide)⟩ (fun x6 qi7 => ?_)
  obtain ⟨i7, ei7⟩ := qi7
  refine tt_ko ?_
  have k8 := ok_fp (k := 3) (v := x6) k_q5 (show (0 : Int) ≤ _ ∧ _ ≤ (90000 : Int) by omega)
  have i9 : (12 : Int) ≤ x6.toInt ∧ x6.toInt ≤ 90000 := (by omega)
  have r10 := fr_fp (k := 3) (v := x6) r_q5 rfl
  exact tt_some ⟨k8, r10, i9, (show x6.toInt = (o0.1 3).toInt + 4 by omega), (show (o0.1 3).toInt ≤ x6.toInt by omega), (show x6.toInt ≤ (q5.1 0).toInt by omega), trivial⟩
def QSB_appendS_S14 (o0 : cf_O) (r : (cf_O)) : Prop := (okO I_SB r) ∧ (Fr (fr_M [0, 3] [0] []) o0 r) ∧ ((12 : Int) ≤ (r.1 3).toInt ∧ (r.1 3).toInt ≤ 90000) ∧ ((r.1 3).toInt = (o0.1 3).toInt + 4) ∧ ((o0.1 3).toInt ≤ (r.1 3).toInt) ∧ ((r.1 3).toInt ≤ (r.1 0).toInt) ∧ True
set_option maxHeartbeats 4000000 in
set_option maxRecDepth 100000 in
theorem sSB_appendS_S14 (o0 : cf_O) (k_o0 : okO I_SB o0) (f_o0_3 : (8 : Int) ≤ (o0.1 3).toInt ∧ (o0.1 3).toInt ≤ 90000) (x_0 : (o0.1 3).toInt ≤ (o0.1 0).toInt) (x_1 : (o0.1 3).toInt ≤ 89996) : tt (fSB_appendS_S14 o0) (QSB_appendS_S14 o0) := by
  have r_o0 : Fr (fr_M [0, 3] [0] []) o0 o0 := fr_rfl
  unfold fSB_appendS_S14 fSB_appendS_S14_0
  have g_o0_0 : (16 : Int) ≤ (o0.1 0).toInt ∧ (o0.1 0).toInt ≤ 400000 := k_o0.1 0
  have g_o0_1 : (0 : Int) ≤ (o0.1 1).toInt ∧ (o0.1 1).toInt ≤ 0 := k_o0.1 1
  refine tt_b (sAS_appendS_S14 _ k_o0 f_o0_3 (show (o0.1 3).toInt ≤ (o0.1 0).toInt by omega) (show (o0.1 3).toInt ≤ 89996 by omega)) (fun q1 hq1 => ?_)
  obtain ⟨k_q1, n_q1, f_q1_3, zq1_0, zq1_1, zq1_2, -⟩ := hq1
  have r_q1 := fr_tr r_o0 n_q1 rfl rfl rfl
  have g_q1_0 : (16 : Int) ≤ (q1.1 0).toInt ∧ (q1.1 0).toInt ≤ 400000 := k_q1.1 0
  have e_q1_1 : (q1.1 1).toInt = (o0.1 1).toInt := congrArg Int32.toInt (n_q1.1 1 rfl)
  have g_q1_1 : (0 : Int) ≤ (q1.1 1).toInt ∧ (q1.1 1).toInt ≤ 0 := k_q1.1 1
  have zq1_0 : (q1.1 3).toInt = (o0.1 3).toInt + 4 := zq1_0
  have zq1_1 : (o0.1 3).toInt ≤ (q1.1 3).toInt := zq1_1
  have zq1_2 : (q1.1 3).toInt ≤ (q1.1 0).toInt := zq1_2
  try unfold fSB_appendS_S14_5
  exact tt_some ⟨k_q1, r_q1, f_q1_3, (show (q1.1 3).toInt = (o0.1 3).toInt + 4 by omega), (show (o0.1 3).toInt ≤ (q1.1 3).toInt by omega), (show (q1.1 3).toInt ≤ (q1.1 0).toInt by omega), trivial⟩
def QJString_coder__S13  (r : (Int32)) : Prop := ((0 : Int) ≤ r.toInt ∧ r.toInt ≤ 0) ∧ True
set_option maxHeartbeats 4000000 in
set_option maxRecDepth 100000 in
theorem sJString_coder__S13   : tt (fJString_coder__S13 ) (QJString_coder__S13 ) := by
  unfold fJString_coder__S13 fJString_coder__S13_0
  try unfold fJString_coder__S13_14
  refine tt_w (iv_nb (show (0 : Int) ≤ (0 : Int32).toInt ∧ (0 : Int32).toInt ≤ 0 by decide) (by decide) (by decide)) ?_
  exact tt_some ⟨(show (0 : Int) ≤ (0 : Int32).toInt ∧ (0 : Int32).toInt ≤ 0 by decide), trivial⟩
def QJString_length__S13  (r : (Int32)) : Prop := ((4 : Int) ≤ r.toInt ∧ r.toInt ≤ 4) ∧ True
set_option maxHeartbeats 4000000 in
set_option maxRecDepth 100000 in
theorem sJString_length__S13   : tt (fJString_length__S13 ) (QJString_length__S13 ) := by
  unfold fJString_length__S13 fJString_length__S13_0
  refine tt_b (sJString_coder__S13  ) (fun q1 hq1 => ?_)
  obtain ⟨i_q1, -⟩ := hq1
  refine tt_kv (P := fun z => (4 : Int) ≤ z.toInt ∧ z.toInt ≤ 4) (iv_shr (p := 0) (q := 0) (show (4 : Int) ≤ (4 : Int32).toInt ∧ (4 : Int32).toInt ≤ 4 by decide) i_q1 (by decide) (by decide) (by decide) (by decide)) (fun x2 i3 => ?_)
  exact tt_some ⟨i3, trivial⟩
def QAS_inflateIfNeededFor_S13 (o0 : cf_O) (r : (Unit)) : Prop := True
set_option maxHeartbeats 4000000 in
set_option maxRecDepth 100000 in
theorem sAS_inflateIfNeededFor_S13 (o0 : cf_O) (k_o0 : okO I_SB o0) (f_o0_3 : (8 : Int) ≤ (o0.1 3).toInt ∧ (o0.1 3).toInt ≤ 90000) : tt (fAS_inflateIfNeededFor_S13 o0) (QAS_inflateIfNeededFor_S13 o0) := by
  have r_o0 : Fr (fr_M [] [] []) o0 o0 := fr_rfl
  unfold fAS_inflateIfNeededFor_S13 fAS_inflateIfNeededFor_S13_0
  refine tt_b (sJString_coder__S13  ) (fun q1 hq1 => ?_)
  obtain ⟨i_q1, -⟩ := hq1
  refine tt_if (fun c2 => ?_) (fun c2 => ?_)
  · try unfold fAS_inflateIfNeededFor_S13_21
    exact tt_some trivial
  · exact (dd_ne c2 (k_o0.1 1) i_q1).elim
def QJString_getBytes_ABIB_S13_SB0 (v2 : Int32) (v3 : Int32) (o0 : cf_O) (r : (cf_O)) : Prop := (okO I_SB r) ∧ (Fr (fr_M [] [0] []) o0 r) ∧ True
set_option maxHeartbeats 4000000 in
set_option maxRecDepth 100000 in
theorem sJString_getBytes_ABIB_S13_SB0 (v2 : Int32) (v3 : Int32) (o0 : cf_O) (k_o0 : okO I_SB o0) (i_v2 : (8 : Int) ≤ v2.toInt ∧ v2.toInt ≤ 90000) (i_v3 : (0 : Int) ≤ v3.toInt ∧ v3.toInt ≤ 0) (f_o0_3 : (8 : Int) ≤ (o0.1 3).toInt ∧ (o0.1 3).toInt ≤ 90000) (x_0 : 0 ≤ v2.toInt) (x_1 : v2.toInt + 4 ≤ (o0.1 0).toInt) : tt (fJString_getBytes_ABIB_S13_SB0 v2 v3 o0) (QJString_getBytes_ABIB_S13_SB0 v2 v3 o0) := by
  have r_o0 : Fr (fr_M [] [0] []) o0 o0 := fr_rfl
  unfold fJString_getBytes_ABIB_S13_SB0 fJString_getBytes_ABIB_S13_SB0_0
  have g_o0_0 : (16 : Int) ≤ (o0.1 0).toInt ∧ (o0.1 0).toInt ≤ 400000 := k_o0.1 0
  have g_o0_1 : (0 : Int) ≤ (o0.1 1).toInt ∧ (o0.1 1).toInt ≤ 0 := k_o0.1 1
  refine tt_b (sJString_coder__S13  ) (fun q1 hq1 => ?_)
  obtain ⟨i_q1, -⟩ := hq1
  refine tt_if (fun c2 => ?_) (fun c2 => ?_)
  · have wc2 : q1.toInt = v3.toInt := c_eq c2
    refine tt_kv (P := fun z => ((8 : Int) ≤ z.toInt ∧ z.toInt ≤ 90000) ∧ z.toInt = v2.toInt) ⟨iv_shl (p := 0) (q := 0) i_v2 i_v3 (by decide) (by decide) (by decide) (by decide) (by decide), sh0l i_v3⟩ (fun x3 qi4 => ?_)
    obtain ⟨i4, ei4⟩ := qi4
    refine tt_n (ac_ok (x := x3) (l := (o0.1 0)) (by omega) (by omega)) ?_
    refine tt_ko ?_
    have k5 := ok_cb (k := 0) (s := 13) (x := x3) (n := 4) k_o0 ⟨by decide, by decide⟩
    have r6 := fr_cb (k := 0) (s := 13) (x := x3) (n := 4) r_o0 rfl
    exact tt_some ⟨k5, r6, trivial⟩
  · have wc2 : ¬ q1.toInt = v3.toInt := c_ne c2
    exact (dd_ne c2 i_q1 i_v3).elim
def QAS_putStringAt_S13 (v1 : Int32) (o0 : cf_O) (r : (cf_O)) : Prop := (okO I_SB r) ∧ (Fr (fr_M [] [0] []) o0 r) ∧ True
set_option maxHeartbeats 4000000 in
set_option maxRecDepth 100000 in
theorem sAS_putStringAt_S13 (v1 : Int32) (o0 : cf_O) (k_o0 : okO I_SB o0) (i_v1 : (8 : Int) ≤ v1.toInt ∧ v1.toInt ≤ 90000) (f_o0_3 : (8 : Int) ≤ (o0.1 3).toInt ∧ (o0.1 3).toInt ≤ 90000) (x_0 : 0 ≤ v1.toInt) (x_1 : v1.toInt + 4 ≤ (o0.1 0).toInt) : tt (fAS_putStringAt_S13 v1 o0) (QAS_putStringAt_S13 v1 o0) := by
  have r_o0 : Fr (fr_M [] [0] []) o0 o0 := fr_rfl
  unfold fAS_putStringAt_S13 fAS_putStringAt_S13_0
  have g_o0_0 : (16 : Int) ≤ (o0.1 0).toInt ∧ (o0.1 0).toInt ≤ 400000 := k_o0.1 0
  have g_o0_1 : (0 : Int) ≤ (o0.1 1).toInt ∧ (o0.1 1).toInt ≤ 0 := k_o0.1 1
  refine tt_b (sAS_inflateIfNeededFor_S13 _ k_o0 f_o0_3) (fun q1 hq1 => ?_)
  refine tt_b (sJString_getBytes_ABIB_S13_SB0 _ _ _ k_o0 i_v1 (k_o0.1 1) f_o0_3 (show 0 ≤ v1.toInt by omega) (show v1.toInt + 4 ≤ (o0.1 0).toInt by omega)) (fun q2 hq2 => ?_)
  obtain ⟨k_q2, n_q2, -⟩ := hq2
  have r_q2 := fr_tr r_o0 n_q2 rfl rfl rfl
  have f_q2_3 : (8 : Int) ≤ (q2.1 3).toInt ∧ (q2.1 3).toInt ≤ 90000 := by rw [n_q2.1 3 rfl]; exact f_o0_3
  have e_q2_0 : (q2.1 0).toInt = (o0.1 0).toInt := congrArg Int32.toInt (n_q2.1 0 rfl)
  have g_q2_0 : (16 : Int) ≤ (q2.1 0).toInt ∧ (q2.1 0).toInt ≤ 400000 := k_q2.1 0
  have e_q2_1 : (q2.1 1).toInt = (o0.1 1).toInt := congrArg Int32.toInt (n_q2.1 1 rfl)
  have g_q2_1 : (0 : Int) ≤ (q2.1 1).toInt ∧ (q2.1 1).toInt ≤ 0 := k_q2.1 1
  have e_q2_3 : (q2.1 3).toInt = (o0.1 3).toInt := congrArg Int32.toInt (n_q2.1 3 rfl)
  exact tt_some ⟨k_q2, r_q2, trivial⟩
def QAS_appendS_S13 (o0 : cf_O) (r : (cf_O)) : Prop := (okO I_SB r) ∧ (Fr (fr_M [0, 3] [0] []) o0 r) ∧ ((12 : Int) ≤ (r.1 3).toInt ∧ (r.1 3).toInt ≤ 90000) ∧ ((r.1 3).toInt = (o0.1 3).toInt + 4) ∧ ((o0.1 3).toInt ≤ (r.1 3).toInt) ∧ ((r.1 3).toInt ≤ (r.1 0).toInt) ∧ True
set_option maxHeartbeats 4000000 in
set_option maxRecDepth 100000 in
theorem sAS_appendS_S13 (o0 : cf_O) (k_o0 : okO I_SB o0) (f_o0_3 : (8 : Int) ≤ (o0.1 3).toInt ∧ (o0.1 3).toInt ≤ 90000) (x_0 : (o0.1 3).toInt ≤ (o0.1 0).toInt) (x_1 : (o0.1 3).toInt ≤ 89996) : tt (fAS_appendS_S13 o0) (QAS_appendS_S13 o0) := by
  have r_o0 : Fr (fr_M [0, 3] [0] []) o0 o0 := fr_rfl
  unfold fAS_appendS_S13 fAS_appendS_S13_0
  have g_o0_0 : (16 : Int) ≤ (o0.1 0).toInt ∧ (o0.1 0).toInt ≤ 400000 := k_o0.1 0
  have g_o0_1 : (0 : Int) ≤ (o0.1 1).toInt ∧ (o0.1 1).toInt ≤ 0 := k_o0.1 1
  refine tt_b (sJString_length__S13  ) (fun q1 hq1 => ?_)
  obtain ⟨i_q1, -⟩ := hq1
  try unfold fAS_appendS_S13_13
  refine tt_kv (P := fun z => ((12 : Int) ≤ z.toInt ∧ z.toInt ≤ 90004) ∧ z.toInt = (o0.1 3).toInt + q1.toInt) ⟨iv_add f_o0_3 i_q1 (by decide) (by decide) (by decide) (by decide), iq_add f_o0_3 i_q1 (by decide) (by decide)⟩ (fun x2 qi3 => ?_)
  obtain ⟨i3, ei3⟩ := qi3
  refine tt_b (sAS_ensureCapacityInternal _ _ k_o0 (iv_w (a := 0) (b := 90010) (by decide) (by decide) i3)) (fun q4 hq4 => ?_)
  obtain ⟨k_q4, n_q4, zq4_0, zq4_1, zq4_2, -⟩ := hq4
  have r_q4 := fr_tr r_o0 n_q4 rfl rfl rfl
  have f_q4_3 : (8 : Int) ≤ (q4.1 3).toInt ∧ (q4.1 3).toInt ≤ 90000 := by rw [n_q4.1 3 rfl]; exact f_o0_3
  have g_q4_0 : (16 : Int) ≤ (q4.1 0).toInt ∧ (q4.1 0).toInt ≤ 400000 := k_q4.1 0
  have e_q4_1 : (q4.1 1).toInt = (o0.1 1).toInt := congrArg Int32.toInt (n_q4.1 1 rfl)
  have g_q4_1 : (0 : Int) ≤ (q4.1 1).toInt ∧ (q4.1 1).toInt ≤ 0 := k_q4.1 1
  have e_q4_3 : (q4.1 3).toInt = (o0.1 3).toInt := congrArg Int32.toInt (n_q4.1 3 rfl)
  have zq4_0 : x2.toInt ≤ (q4.1 0).toInt := zq4_0
  have zq4_1 : (o0.1 0).toInt ≤ (q4.1 0).toInt := zq4_1
  have zq4_2 : (q4.1 0).toInt ≤ (o0.1 0).toInt ∨ (q4.1 0).toInt ≤ 180022 := zq4_2
  try unfold fAS_appendS_S13_24
  refine tt_b (sAS_putStringAt_S13 _ _ k_q4 f_q4_3 f_q4_3 (show 0 ≤ (q4.1 3).toInt by omega) (show (q4.1 3).toInt + 4 ≤ (q4.1 0).toInt by omega)) (fun q5 hq5 => ?_)
  obtain ⟨k_q5, n_q5, -⟩ := hq5
  have r_q5 := fr_tr r_q4 n_q5 rfl rfl rfl
  have f_q5_3 : (8 : Int) ≤ (q5.1 3).toInt ∧ (q5.1 3).toInt ≤ 90000 := by rw [n_q5.1 3 rfl]; exact f_q4_3
  have e_q5_0 : (q5.1 0).toInt = (q4.1 0).toInt := congrArg Int32.toInt (n_q5.1 0 rfl)
  have g_q5_0 : (16 : Int) ≤ (q5.1 0).toInt ∧ (q5.1 0).toInt ≤ 400000 := k_q5.1 0
  have e_q5_1 : (q5.1 1).toInt = (q4.1 1).toInt := congrArg Int32.toInt (n_q5.1 1 rfl)
  have g_q5_1 : (0 : Int) ≤ (q5.1 1).toInt ∧ (q5.1 1).toInt ≤ 0 := k_q5.1 1
  have e_q5_3 : (q5.1 3).toInt = (q4.1 3).toInt := congrArg Int32.toInt (n_q5.1 3 rfl)
  try unfold fAS_appendS_S13_33
  refine tt_kv (P := fun z => ((12 : Int) ≤ z.toInt ∧ z.toInt ≤ 90004) ∧ z.toInt = (q5.1 3).toInt + q1.toInt) ⟨iv_add f_q5_3 i_q1 (by decide) (by decide) (by decide) (by decide), iq_add f_q5_3 i_q1 (by decide) (by decide)⟩ (fun x6 qi7 => ?_)
  obtain ⟨i7, ei7⟩ := qi7
  refine tt_ko ?_
  have k8 := ok_fp (k := 3) (v := x6) k_q5 (show (0 : Int) ≤ _ ∧ _ ≤ (90000 : Int) by omega)
  have i9 : (12 : Int) ≤ x6.toInt ∧ x6.toInt ≤ 90000 := (by omega)
  have r10 := fr_fp (k := 3) (v := x6) r_q5 rfl
  exact tt_some ⟨k8, r10, i9, (show x6.toInt = (o0.1 3).toInt + 4 by omega), (show (o0.1 3).toInt ≤ x6.toInt by omega), (show x6.toInt ≤ (q5.1 0).toInt by omega), trivial⟩
def QSB_appendS_S13 (o0 : cf_O) (r : (cf_O)) : Prop := (okO I_SB r) ∧ (Fr (fr_M [0, 3] [0] []) o0 r) ∧ ((12 : Int) ≤ (r.1 3).toInt ∧ (r.1 3).toInt ≤ 90000) ∧ ((r.1 3).toInt = (o0.1 3).toInt + 4) ∧ ((o0.1 3).toInt ≤ (r.1 3).toInt) ∧ ((r.1 3).toInt ≤ (r.1 0).toInt) ∧ True
set_option maxHeartbeats 4000000 in
set_option maxRecDepth 100000 in
theorem sSB_appendS_S13 (o0 : cf_O) (k_o0 : okO I_SB o0) (f_o0_3 : (8 : Int) ≤ (o0.1 3).toInt ∧ (o0.1 3).toInt ≤ 90000) (x_0 : (o0.1 3).toInt ≤ (o0.1 0).toInt) (x_1 : (o0.1 3).toInt ≤ 89996) : tt (fSB_appendS_S13 o0) (QSB_appendS_S13 o0) := by
  have r_o0 : Fr (fr_M [0, 3] [0] []) o0 o0 := fr_rfl
  unfold fSB_appendS_S13 fSB_appendS_S13_0
  have g_o0_0 : (16 : Int) ≤ (o0.1 0).toInt ∧ (o0.1 0).toInt ≤ 400000 := k_o0.1 0
  have g_o0_1 : (0 : Int) ≤ (o0.1 1).toInt ∧ (o0.1 1).toInt ≤ 0 := k_o0.1 1
  refine tt_b (sAS_appendS_S13 _ k_o0 f_o0_3 (show (o0.1 3).toInt ≤ (o0.1 0).toInt by omega) (show (o0.1 3).toInt ≤ 89996 by omega)) (fun q1 hq1 => ?_)
  obtain ⟨k_q1, n_q1, f_q1_3, zq1_0, zq1_1, zq1_2, -⟩ := hq1
  have r_q1 := fr_tr r_o0 n_q1 rfl rfl rfl
  have g_q1_0 : (16 : Int) ≤ (q1.1 0).toInt ∧ (q1.1 0).toInt ≤ 400000 := k_q1.1 0
  have e_q1_1 : (q1.1 1).toInt = (o0.1 1).toInt := congrArg Int32.toInt (n_q1.1 1 rfl)
  have g_q1_1 : (0 : Int) ≤ (q1.1 1).toInt ∧ (q1.1 1).toInt ≤ 0 := k_q1.1 1
  have zq1_0 : (q1.1 3).toInt = (o0.1 3).toInt + 4 := zq1_0
  have zq1_1 : (o0.1 3).toInt ≤ (q1.1 3).toInt := zq1_1
  have zq1_2 : (q1.1 3).toInt ≤ (q1.1 0).toInt := zq1_2
  try unfold fSB_appendS_S13_5
  exact tt_some ⟨k_q1, r_q1, f_q1_3, (show (q1.1 3).toInt = (o0.1 3).toInt + 4 by omega), (show (o0.1 3).toInt ≤ (q1.1 3).toInt by omega), (show (q1.1 3).toInt ≤ (q1.1 0).toInt by omega), trivial⟩
def QJString_coder__S15  (r : (Int32)) : Prop := ((0 : Int) ≤ r.toInt ∧ r.toInt ≤ 0) ∧ True
set_option maxHeartbeats 4000000 in
set_option maxRecDepth 100000 in
theorem sJString_coder__S15   : tt (fJString_coder__S15 ) (QJString_coder__S15 ) := by
  unfold fJString_coder__S15 fJString_coder__S15_0
  try unfold fJString_coder__S15_14
  refine tt_w (iv_nb (show (0 : Int) ≤ (0 : Int32).toInt ∧ (0 : Int32).toInt ≤ 0 by decide) (by decide) (by decide)) ?_
  exact tt_some ⟨(show (0 : Int) ≤ (0 : Int32).toInt ∧ (0 : Int32).toInt ≤ 0 by decide), trivial⟩
def QJString_length__S15  (r : (Int32)) : Prop := ((2 : Int) ≤ r.toInt ∧ r.toInt ≤ 2) ∧ True
set_option maxHeartbeats 4000000 in
set_option maxRecDepth 100000 in
theorem sJString_length__S15   : tt (fJString_length__S15 ) (QJString_length__S15 ) := by
  unfold fJString_length__S15 fJString_length__S15_0
  refine tt_b (sJString_coder__S15  ) (fun q1 hq1 => ?_)
  obtain ⟨i_q1, -⟩ := hq1
  refine tt_kv (P := fun z => (2 : Int) ≤ z.toInt ∧ z.toInt ≤ 2) (iv_shr (p := 0) (q := 0) (show (2 : Int) ≤ (2 : Int32).toInt ∧ (2 : Int32).toInt ≤ 2 by decide) i_q1 (by decide) (by decide) (by decide) (by decide)) (fun x2 i3 => ?_)
  exact tt_some ⟨i3, trivial⟩
def QAS_inflateIfNeededFor_S15 (o0 : cf_O) (r : (Unit)) : Prop := True
set_option maxHeartbeats 4000000 in
set_option maxRecDepth 100000 in
theorem sAS_inflateIfNeededFor_S15 (o0 : cf_O) (k_o0 : okO I_SB o0) (f_o0_3 : (8 : Int) ≤ (o0.1 3).toInt ∧ (o0.1 3).toInt ≤ 90000) : tt (fAS_inflateIfNeededFor_S15 o0) (QAS_inflateIfNeededFor_S15 o0) := by
  have r_o0 : Fr (fr_M [] [] []) o0 o0 := fr_rfl
  unfold fAS_inflateIfNeededFor_S15 fAS_inflateIfNeededFor_S15_0
  refine tt_b (sJString_coder__S15  ) (fun q1 hq1 => ?_)
  obtain ⟨i_q1, -⟩ := hq1
  refine tt_if (fun c2 => ?_) (fun c2 => ?_)
  · try unfold fAS_inflateIfNeededFor_S15_21
    exact tt_some trivial
  · exact (dd_ne c2 (k_o0.1 1) i_q1).elim
def QJString_getBytes_ABIB_S15_SB0 (v2 : Int32) (v3 : Int32) (o0 : cf_O) (r : (cf_O)) : Prop := (okO I_SB r) ∧ (Fr (fr_M [] [0] []) o0 r) ∧ True
set_option maxHeartbeats 4000000 in
set_option maxRecDepth 100000 in
theorem sJString_getBytes_ABIB_S15_SB0 (v2 : Int32) (v3 : Int32) (o0 : cf_O) (k_o0 : okO I_SB o0) (i_v2 : (8 : Int) ≤ v2.toInt ∧ v2.toInt ≤ 90000) (i_v3 : (0 : Int) ≤ v3.toInt ∧ v3.toInt ≤ 0) (f_o0_3 : (8 : Int) ≤ (o0.1 3).toInt ∧ (o0.1 3).toInt ≤ 90000) (x_0 : 0 ≤ v2.toInt) (x_1 : v2.toInt + 2 ≤ (o0.1 0).toInt) : tt (fJString_getBytes_ABIB_S15_SB0 v2 v3 o0) (QJString_getBytes_ABIB_S15_SB0 v2 v3 o0) := by
  have r_o0 : Fr (fr_M [] [0] []) o0 o0 := fr_rfl
  unfold fJString_getBytes_ABIB_S15_SB0 fJString_getBytes_ABIB_S15_SB0_0
  have g_o0_0 : (16 : Int) ≤ (o0.1 0).toInt ∧ (o0.1 0).toInt ≤ 400000 := k_o0.1 0
  have g_o0_1 : (0 : Int) ≤ (o0.1 1).toInt ∧ (o0.1 1).toInt ≤ 0 := k_o0.1 1
  refine tt_b (sJString_coder__S15  ) (fun q1 hq1 => ?_)
  obtain ⟨i_q1, -⟩ := hq1
  refine tt_if (fun c2 => ?_) (fun c2 => ?_)
  · have wc2 : q1.toInt = v3.toInt := c_eq c2
    refine tt_kv (P := fun z => ((8 : Int) ≤ z.toInt ∧ z.toInt ≤ 90000) ∧ z.toInt = v2.toInt) ⟨iv_shl (p := 0) (q := 0) i_v2 i_v3 (by decide) (by decide) (by decide) (by decide) (by decide), sh0l i_v3⟩ (fun x3 qi4 => ?_)
    obtain ⟨i4, ei4⟩ := qi4
    refine tt_n (ac_ok (x := x3) (l := (o0.1 0)) (by omega) (by omega)) ?_
    refine tt_ko ?_
    have k5 := ok_cb (k := 0) (s := 15) (x := x3) (n := 2) k_o0 ⟨by decide, by decide⟩
    have r6 := fr_cb (k := 0) (s := 15) (x := x3) (n := 2) r_o0 rfl
    exact tt_some ⟨k5, r6, trivial⟩
  · have wc2 : ¬ q1.toInt = v3.toInt := c_ne c2
    exact (dd_ne c2 i_q1 i_v3).elim
def QAS_putStringAt_S15 (v1 : Int32) (o0 : cf_O) (r : (cf_O)) : Prop := (okO I_SB r) ∧ (Fr (fr_M [] [0] []) o0 r) ∧ True
set_option maxHeartbeats 4000000 in
set_option maxRecDepth 100000 in
theorem sAS_putStringAt_S15 (v1 : Int32) (o0 : cf_O) (k_o0 : okO I_SB o0) (i_v1 : (8 : Int) ≤ v1.toInt ∧ v1.toInt ≤ 90000) (f_o0_3 : (8 : Int) ≤ (o0.1 3).toInt ∧ (o0.1 3).toInt ≤ 90000) (x_0 : 0 ≤ v1.toInt) (x_1 : v1.toInt + 2 ≤ (o0.1 0).toInt) : tt (fAS_putStringAt_S15 v1 o0) (QAS_putStringAt_S15 v1 o0) := by
  have r_o0 : Fr (fr_M [] [0] []) o0 o0 := fr_rfl
  unfold fAS_putStringAt_S15 fAS_putStringAt_S15_0
  have g_o0_0 : (16 : Int) ≤ (o0.1 0).toInt ∧ (o0.1 0).toInt ≤ 400000 := k_o0.1 0
  have g_o0_1 : (0 : Int) ≤ (o0.1 1).toInt ∧ (o0.1 1).toInt ≤ 0 := k_o0.1 1
  refine tt_b (sAS_inflateIfNeededFor_S15 _ k_o0 f_o0_3) (fun q1 hq1 => ?_)
  refine tt_b (sJString_getBytes_ABIB_S15_SB0 _ _ _ k_o0 i_v1 (k_o0.1 1) f_o0_3 (show 0 ≤ v1.toInt by omega) (show v1.toInt + 2 ≤ (o0.1 0).toInt by omega)) (fun q2 hq2 => ?_)
  obtain ⟨k_q2, n_q2, -⟩ := hq2
  have r_q2 := fr_tr r_o0 n_q2 rfl rfl rfl
  have f_q2_3 : (8 : Int) ≤ (q2.1 3).toInt ∧ (q2.1 3).toInt ≤ 90000 := by rw [n_q2.1 3 rfl]; exact f_o0_3
  have e_q2_0 : (q2.1 0).toInt = (o0.1 0).toInt := congrArg Int32.toInt (n_q2.1 0 rfl)
  have g_q2_0 : (16 : Int) ≤ (q2.1 0).toInt ∧ (q2.1 0).toInt ≤ 400000 := k_q2.1 0
  have e_q2_1 : (q2.1 1).toInt = (o0.1 1).toInt := congrArg Int32.toInt (n_q2.1 1 rfl)
  have g_q2_1 : (0 : Int) ≤ (q2.1 1).toInt ∧ (q2.1 1).toInt ≤ 0 := k_q2.1 1
  have e_q2_3 : (q2.1 3).toInt = (o0.1 3).toInt := congrArg Int32.toInt (n_q2.1 3 rfl)
  exact tt_some ⟨k_q2, r_q2, trivial⟩
def QAS_appendS_S15 (o0 : cf_O) (r : (cf_O)) : Prop := (okO I_SB r) ∧ (Fr (fr_M [0, 3] [0] []) o0 r) ∧ ((10 : Int) ≤ (r.1 3).toInt ∧ (r.1 3).toInt ≤ 90000) ∧ ((r.1 3).toInt = (o0.1 3).toInt + 2) ∧ ((o0.1 3).toInt ≤ (r.1 3).toInt) ∧ ((r.1 3).toInt ≤ (r.1 0).toInt) ∧ True
set_option maxHeartbeats 4000000 in
set_option maxRecDepth 100000 in
theorem sAS_appendS_S15 (o0 : cf_O) (k_o0 : okO I_SB o0) (f_o0_3 : (8 : Int) ≤ (o0.1 3).toInt ∧ (o0.1 3).toInt ≤ 90000) (x_0 : (o0.1 3).toInt ≤ (o0.1 0).toInt) (x_1 : (o0.1 3).toInt ≤ 89998) : tt (fAS_appendS_S15 o0) (QAS_appendS_S15 o0) := by
  have r_o0 : Fr (fr_M [0, 3] [0] []) o0 o0 := fr_rfl
  unfold fAS_appendS_S15 fAS_appendS_S15_0
  have g_o0_0 : (16 : Int) ≤ (o0.1 0).toInt ∧ (o0.1 0).toInt ≤ 400000 := k_o0.1 0
  have g_o0_1 : (0 : Int) ≤ (o0.1 1).toInt ∧ (o0.1 1).toInt ≤ 0 := k_o0.1 1
  refine tt_b (sJString_length__S15  ) (fun q1 hq1 => ?_)
  obtain ⟨i_q1, -⟩ := hq1
  try unfold fAS_appendS_S15_13
  refine tt_kv (P := fun z => ((10 : Int) ≤ z.toInt ∧ z.toInt ≤ 90002) ∧ z.toInt = (o0.1 3).toInt + q1.toInt) ⟨iv_add f_o0_3 i_q1 (by decide) (by decide) (by decide) (by decide), iq_add f_o0_3 i_q1 (by decide) (by decide)⟩ (fun x2 qi3 => ?_)
  obtain ⟨i3, ei3⟩ := qi3
  refine tt_b (sAS_ensureCapacityInternal _ _ k_o0 (iv_w (a := 0) (b := 90010) (by decide) (by decide) i3)) (fun q4 hq4 => ?_)
  obtain ⟨k_q4, n_q4, zq4_0, zq4_1, zq4_2, -⟩ := hq4
  have r_q4 := fr_tr r_o0 n_q4 rfl rfl rfl
  have f_q4_3 : (8 : Int) ≤ (q4.1 3).toInt ∧ (q4.1 3).toInt ≤ 90000 := by rw [n_q4.1 3 rfl]; exact f_o0_3
  have g_q4_0 : (16 : Int) ≤ (q4.1 0).toInt ∧ (q4.1 0).toInt ≤ 400000 := k_q4.1 0
  have e_q4_1 : (q4.1 1).toInt = (o0.1 1).toInt := congrArg Int32.toInt (n_q4.1 1 rfl)
  have g_q4_1 : (0 : Int) ≤ (q4.1 1).toInt ∧ (q4.1 1).toInt ≤ 0 := k_q4.1 1
  have e_q4_3 : (q4.1 3).toInt = (o0.1 3).toInt := congrArg Int32.toInt (n_q4.1 3 rfl)
  have zq4_0 : x2.toInt ≤ (q4.1 0).toInt := zq4_0
  have zq4_1 : (o0.1 0).toInt ≤ (q4.1 0).toInt := zq4_1
  have zq4_2 : (q4.1 0).toInt ≤ (o0.1 0).toInt ∨ (q4.1 0).toInt ≤ 180022 := zq4_2
  try unfold fAS_appendS_S15_24
  refine tt_b (sAS_putStringAt_S15 _ _ k_q4 f_q4_3 f_q4_3 (show 0 ≤ (q4.1 3).toInt by omega) (show (q4.1 3).toInt + 2 ≤ (q4.1 0).toInt by omega)) (fun q5 hq5 => ?_)
  obtain ⟨k_q5, n_q5, -⟩ := hq5
  have r_q5 := fr_tr r_q4 n_q5 rfl rfl rfl
  have f_q5_3 : (8 : Int) ≤ (q5.1 3).toInt ∧ (q5.1 3).toInt ≤ 90000 := by rw [n_q5.1 3 rfl]; exact f_q4_3
  have e_q5_0 : (q5.1 0).toInt = (q4.1 0).toInt := congrArg Int32.toInt (n_q5.1 0 rfl)
  have g_q5_0 : (16 : Int) ≤ (q5.1 0).toInt ∧ (q5.1 0).toInt ≤ 400000 := k_q5.1 0
  have e_q5_1 : (q5.1 1).toInt = (q4.1 1).toInt := congrArg Int32.toInt (n_q5.1 1 rfl)
  have g_q5_1 : (0 : Int) ≤ (q5.1 1).toInt ∧ (q5.1 1).toInt ≤ 0 := k_q5.1 1
  have e_q5_3 : (q5.1 3).toInt = (q4.1 3).toInt := congrArg Int32.toInt (n_q5.1 3 rfl)
  try unfold fAS_appendS_S15_33
  refine tt_kv (P := fun z => ((10 : Int) ≤ z.toInt ∧ z.toInt ≤ 90002) ∧ z.toInt = (q5.1 3).toInt + q1.toInt) ⟨iv_add f_q5_3 i_q1 (by decide) (by decide) (by decide) (by decide), iq_add f_q5_3 i_q1 (by decide) (by decide)⟩ (fun x6 qi7 => ?_)
  obtain ⟨i7, ei7⟩ := qi7
  refine tt_ko ?_
  have k8 := ok_fp (k := 3) (v := x6) k_q5 (show (0 : Int) ≤ _ ∧ _ ≤ (90000 : Int) by omega)
  have i9 : (10 : Int) ≤ x6.toInt ∧ x6.toInt ≤ 90000 := (by omega)
  have r10 := fr_fp (k := 3) (v := x6) r_q5 rfl
  exact tt_some ⟨k8, r10, i9, (show x6.toInt = (o0.1 3).toInt + 2 by omega), (show (o0.1 3).toInt ≤ x6.toInt by omega), (show x6.toInt ≤ (q5.1 0).toInt by omega), trivial⟩
def QSB_appendS_S15 (o0 : cf_O) (r : (cf_O)) : Prop := (okO I_SB r) ∧ (Fr (fr_M [0, 3] [0] []) o0 r) ∧ ((10 : Int) ≤ (r.1 3).toInt ∧ (r.1 3).toInt ≤ 90000) ∧ ((r.1 3).toInt = (o0.1 3).toInt + 2) ∧ ((o0.1 3).toInt ≤ (r.1 3).toInt) ∧ ((r.1 3).toInt ≤ (r.1 0).toInt) ∧ True
set_option maxHeartbeats 4000000 in
set_option maxRecDepth 100000 in
theorem sSB_appendS_S15 (o0 : cf_O) (k_o0 : okO I_SB o0) (f_o0_3 : (8 : Int) ≤ (o0.1 3).toInt ∧ (o0.1 3).toInt ≤ 90000) (x_0 : (o0.1 3).toInt ≤ (o0.1 0).toInt) (x_1 : (o0.1 3).toInt ≤ 89998) : tt (fSB_appendS_S15 o0) (QSB_appendS_S15 o0) := by
  have r_o0 : Fr (fr_M [0, 3] [0] []) o0 o0 := fr_rfl
  unfold fSB_appendS_S15 fSB_appendS_S15_0
  have g_o0_0 : (16 : Int) ≤ (o0.1 0).toInt ∧ (o0.1 0).toInt ≤ 400000 := k_o0.1 0
  have g_o0_1 : (0 : Int) ≤ (o0.1 1).toInt ∧ (o0.1 1).toInt ≤ 0 := k_o0.1 1
  refine tt_b (sAS_appendS_S15 _ k_o0 f_o0_3 (show (o0.1 3).toInt ≤ (o0.1 0).toInt by omega) (show (o0.1 3).toInt ≤ 89998 by omega)) (fun q1 hq1 => ?_)
  obtain ⟨k_q1, n_q1, f_q1_3, zq1_0, zq1_1, zq1_2, -⟩ := hq1
  have r_q1 := fr_tr r_o0 n_q1 rfl rfl rfl
  have g_q1_0 : (16 : Int) ≤ (q1.1 0).toInt ∧ (q1.1 0).toInt ≤ 400000 := k_q1.1 0
  have e_q1_1 : (q1.1 1).toInt = (o0.1 1).toInt := congrArg Int32.toInt (n_q1.1 1 rfl)
  have g_q1_1 : (0 : Int) ≤ (q1.1 1).toInt ∧ (q1.1 1).toInt ≤ 0 := k_q1.1 1
  have zq1_0 : (q1.1 3).toInt = (o0.1 3).toInt + 2 := zq1_0
  have zq1_1 : (o0.1 3).toInt ≤ (q1.1 3).toInt := zq1_1
  have zq1_2 : (q1.1 3).toInt ≤ (q1.1 0).toInt := zq1_2
  try unfold fSB_appendS_S15_5
  exact tt_some ⟨k_q1, r_q1, f_q1_3, (show (q1.1 3).toInt = (o0.1 3).toInt + 2 by omega), (show (o0.1 3).toInt ≤ (q1.1 3).toInt by omega), (show (q1.1 3).toInt ≤ (q1.1 0).toInt by omega), trivial⟩
def QSc_writeResult (v2 : Int32) (v3 : Int32) (v4 : Int32) (o0 : cf_O) (o1 : cf_O) (o2 : cf_O) (r : (cf_O)) : Prop := (okO I_SB r) ∧ (Fr (fr_M [0, 3] [0] []) o2 r) ∧ ((8 : Int) ≤ (r.1 3).toInt ∧ (r.1 3).toInt ≤ 90000) ∧ ((r.1 3).toInt ≤ (o2.1 3).toInt + 33) ∧ ((o2.1 3).toInt ≤ (r.1 3).toInt) ∧ ((r.1 3).toInt ≤ (r.1 0).toInt) ∧ True
set_option maxHeartbeats 4000000 in
set_option maxRecDepth 100000 in
theorem sSc_writeResult (v2 : Int32) (v3 : Int32) (v4 : Int32) (o0 : cf_O) (o1 : cf_O) (o2 : cf_O) (k_o0 : okO I_Sc o0) (k_o1 : okO I_Nl o1) (k_o2 : okO I_SB o2) (i_v2 : (0 : Int) ≤ v2.toInt ∧ v2.toInt ≤ 5) (i_v3 : (0 : Int) ≤ v3.toInt ∧ v3.toInt ≤ 417) (i_v4 : (0 : Int) ≤ v4.toInt ∧ v4.toInt ≤ 1) (f_o2_3 : (8 : Int) ≤ (o2.1 3).toInt ∧ (o2.1 3).toInt ≤ 90000) (x_0 : (o2.1 3).toInt ≤ (o2.1 0).toInt) (x_1 : (o2.1 3).toInt ≤ 89967) : tt (fSc_writeResult v2 v3 v4 o0 o1 o2) (QSc_writeResult v2 v3 v4 o0 o1 o2) := by
  have r_o0 : Fr (fr_M [] [] []) o0 o0 := fr_rfl
  have r_o1 : Fr (fr_M [] [] []) o1 o1 := fr_rfl
  have r_o2 : Fr (fr_M [0, 3] [0] []) o2 o2 := fr_rfl
  unfold fSc_writeResult fSc_writeResult_0
  have g_o0_0 : (0 : Int) ≤ (o0.1 0).toInt ∧ (o0.1 0).toInt ≤ 1 := k_o0.1 0
  have g_o0_1 : (0 : Int) ≤ (o0.1 1).toInt ∧ (o0.1 1).toInt ≤ 0 := k_o0.1 1
  have g_o0_3 : (0 : Int) ≤ (o0.1 3).toInt ∧ (o0.1 3).toInt ≤ 0 := k_o0.1 3
  have g_o1_0 : (0 : Int) ≤ (o1.1 0).toInt ∧ (o1.1 0).toInt ≤ 8 := k_o1.1 0
  have g_o1_1 : (0 : Int) ≤ (o1.1 1).toInt ∧ (o1.1 1).toInt ≤ 6 := k_o1.1 1
  have g_o1_3 : (0 : Int) ≤ (o1.1 3).toInt ∧ (o1.1 3).toInt ≤ 0 := k_o1.1 3
  have g_o2_0 : (16 : Int) ≤ (o2.1 0).toInt ∧ (o2.1 0).toInt ≤ 400000 := k_o2.1 0
  have g_o2_1 : (0 : Int) ≤ (o2.1 1).toInt ∧ (o2.1 1).toInt ≤ 0 := k_o2.1 1
  refine tt_if (fun c1 => ?_) (fun c1 => ?_)
  · have wc1 : (2 : Int) ≤ v3.toInt := c_le c1
    have i2 : (2 : Int) ≤ v3.toInt ∧ v3.toInt ≤ 417 := nr_ler c1 (show (2 : Int) ≤ (2 : Int32).toInt ∧ (2 : Int32).toInt ≤ 2 by decide) i_v3 (by decide) (by decide)
    try unfold fSc_writeResult_10
    refine tt_b (sSB_appendS_S12 _ k_o2 f_o2_3 (show (o2.1 3).toInt ≤ (o2.1 0).toInt by omega) (show (o2.1 3).toInt ≤ 89994 by omega)) (fun q3 hq3 => ?_)
    obtain ⟨k_q3, n_q3, f_q3_3, zq3_0, zq3_1, zq3_2, -⟩ := hq3
    have r_q3 := fr_tr r_o2 n_q3 rfl rfl rfl
    have g_q3_0 : (16 : Int) ≤ (q3.1 0).toInt ∧ (q3.1 0).toInt ≤ 400000 := k_q3.1 0
    have e_q3_1 : (q3.1 1).toInt = (o2.1 1).toInt := congrArg Int32.toInt (n_q3.1 1 rfl)
    have g_q3_1 : (0 : Int) ≤ (q3.1 1).toInt ∧ (q3.1 1).toInt ≤ 0 := k_q3.1 1
    have zq3_0 : (q3.1 3).toInt = (o2.1 3).toInt + 6 := zq3_0
    have zq3_1 : (o2.1 3).toInt ≤ (q3.1 3).toInt := zq3_1
    have zq3_2 : (q3.1 3).toInt ≤ (q3.1 0).toInt := zq3_2
    try unfold fSc_writeResult_21
    refine tt_if (fun c4 => ?_) (fun c4 => ?_)
    · have wc4 : (0 : Int) = (0 : Int) := c_eq c4
      refine tt_b (sSc_writeLiteral _ _ _ _ k_o0 k_o1 k_q3 (iv_w (a := 0) (b := 1023) (by decide) (by decide) i2) (iv_w (a := 8) (b := 90000) (by decide) (by decide) f_q3_3) (show (q3.1 3).toInt ≤ (q3.1 0).toInt by omega) (show (q3.1 3).toInt ≤ 89987 by omega)) (fun q5 hq5 => ?_)
      obtain ⟨k_q5, n_q5, f_q5_3, zq5_0, zq5_1, zq5_2, -⟩ := hq5
      have r_q5 := fr_tr r_q3 n_q5 rfl rfl rfl
      have g_q5_0 : (16 : Int) ≤ (q5.1 0).toInt ∧ (q5.1 0).toInt ≤ 400000 := k_q5.1 0
      have e_q5_1 : (q5.1 1).toInt = (q3.1 1).toInt := congrArg Int32.toInt (n_q5.1 1 rfl)
      have g_q5_1 : (0 : Int) ≤ (q5.1 1).toInt ∧ (q5.1 1).toInt ≤ 0 := k_q5.1 1
      have zq5_0 : (q5.1 3).toInt ≤ (q3.1 3).toInt + 13 := zq5_0
      have zq5_1 : (q3.1 3).toInt ≤ (q5.1 3).toInt := zq5_1
      have zq5_2 : (q5.1 3).toInt ≤ (q5.1 0).toInt := zq5_2
      try unfold fSc_writeResult_33
      refine tt_n (ix_ok i_v2 (by decide) (by decide)) ?_
      refine tt_kl (fun x6 => ?_)
      refine tt_b (sSc_writeName _ _ _ k_o0 k_q5 (iv_w (a := 7) (b := 90000) (by decide) (by decide) f_q5_3) (show (q5.1 3).toInt ≤ (q5.1 0).toInt by omega) (show (q5.1 3).toInt ≤ 89991 by omega)) (fun q7 hq7 => ?_)
      obtain ⟨k_q7, n_q7, f_q7_3, zq7_0, zq7_1, zq7_2, -⟩ := hq7
      have r_q7 := fr_tr r_q5 n_q7 rfl rfl rfl
      have g_q7_0 : (16 : Int) ≤ (q7.1 0).toInt ∧ (q7.1 0).toInt ≤ 400000 := k_q7.1 0
      have e_q7_1 : (q7.1 1).toInt = (q5.1 1).toInt := congrArg Int32.toInt (n_q7.1 1 rfl)
      have g_q7_1 : (0 : Int) ≤ (q7.1 1).toInt ∧ (q7.1 1).toInt ≤ 0 := k_q7.1 1
      have zq7_0 : (q7.1 3).toInt ≤ (q5.1 3).toInt + 9 := zq7_0
      have zq7_1 : (q5.1 3).toInt ≤ (q7.1 3).toInt := zq7_1
      have zq7_2 : (q7.1 3).toInt ≤ (q7.1 0).toInt := zq7_2
      try unfold fSc_writeResult_43
      refine tt_b (sSB_appendC _ _ k_q7 (iv_w (a := 0) (b := 255) (by decide) (by decide) (show (10 : Int) ≤ (10 : Int32).toInt ∧ (10 : Int32).toInt ≤ 10 by decide)) (iv_w (a := 7) (b := 90000) (by decide) (by decide) f_q7_3) (show (q7.1 3).toInt ≤ (q7.1 0).toInt by omega) (show (q7.1 3).toInt ≤ 89999 by omega)) (fun q8 hq8 => ?_)
      obtain ⟨k_q8, n_q8, f_q8_3, zq8_0, zq8_1, zq8_2, -⟩ := hq8
      have r_q8 := fr_tr r_q7 n_q8 rfl rfl rfl
      have g_q8_0 : (16 : Int) ≤ (q8.1 0).toInt ∧ (q8.1 0).toInt ≤ 400000 := k_q8.1 0
      have e_q8_1 : (q8.1 1).toInt = (q7.1 1).toInt := congrArg Int32.toInt (n_q8.1 1 rfl)
      have g_q8_1 : (0 : Int) ≤ (q8.1 1).toInt ∧ (q8.1 1).toInt ≤ 0 := k_q8.1 1
      have zq8_0 : (q8.1 3).toInt = (q7.1 3).toInt + 1 := zq8_0
      have zq8_1 : (q7.1 3).toInt ≤ (q8.1 3).toInt := zq8_1
      have zq8_2 : (q8.1 3).toInt ≤ (q8.1 0).toInt := zq8_2
      try unfold fSc_writeResult_52
      refine tt_if (fun c9 => ?_) (fun c9 => ?_)
      · have wc9 : (0 : Int) = (0 : Int) := c_eq c9
        refine tt_if (fun c10 => ?_) (fun c10 => ?_)
        · have wc10 : v4.toInt = (0 : Int) := c_eq c10
          have i11 : (0 : Int) ≤ v4.toInt ∧ v4.toInt ≤ 0 := nr_eql c10 i_v4 (show (0 : Int) ≤ (0 : Int32).toInt ∧ (0 : Int32).toInt ≤ 0 by decide) (by decide) (by decide)
          refine tt_b (sSB_appendS_S14 _ k_q8 f_q8_3 (show (q8.1 3).toInt ≤ (q8.1 0).toInt by omega) (show (q8.1 3).toInt ≤ 89996 by omega)) (fun q12 hq12 => ?_)
          obtain ⟨k_q12, n_q12, f_q12_3, zq12_0, zq12_1, zq12_2, -⟩ := hq12
          have r_q12 := fr_tr r_q8 n_q12 rfl rfl rfl
          have g_q12_0 : (16 : Int) ≤ (q12.1 0).toInt ∧ (q12.1 0).toInt ≤ 400000 := k_q12.1 0
          have e_q12_1 : (q12.1 1).toInt = (q8.1 1).toInt := congrArg Int32.toInt (n_q12.1 1 rfl)
          have g_q12_1 : (0 : Int) ≤ (q12.1 1).toInt ∧ (q12.1 1).toInt ≤ 0 := k_q12.1 1
          have zq12_0 : (q12.1 3).toInt = (q8.1 3).toInt + 4 := zq12_0
          have zq12_1 : (q8.1 3).toInt ≤ (q12.1 3).toInt := zq12_1
          have zq12_2 : (q12.1 3).toInt ≤ (q12.1 0).toInt := zq12_2
          try unfold fSc_writeResult_77
          try unfold fSc_writeResult_101
          exact tt_some ⟨k_q12, r_q12, (iv_w (a := 8) (b := 90000) (by decide) (by decide) f_q12_3), (show (q12.1 3).toInt ≤ (o2.1 3).toInt + 33 by omega), (show (o2.1 3).toInt ≤ (q12.1 3).toInt by omega), (show (q12.1 3).toInt ≤ (q12.1 0).toInt by omega), trivial⟩
        · have wc10 : ¬ v4.toInt = (0 : Int) := c_ne c10
          have i13 : (1 : Int) ≤ v4.toInt ∧ v4.toInt ≤ 1 := nr_nela c10 i_v4 (show (0 : Int) ≤ (0 : Int32).toInt ∧ (0 : Int32).toInt ≤ 0 by decide) (by decide) (by decide)
          refine tt_b (sSB_appendS_S13 _ k_q8 f_q8_3 (show (q8.1 3).toInt ≤ (q8.1 0).toInt by omega) (show (q8.1 3).toInt ≤ 89996 by omega)) (fun q14 hq14 => ?_)
          obtain ⟨k_q14, n_q14, f_q14_3, zq14_0, zq14_1, zq14_2, -⟩ := hq14
          have r_q14 := fr_tr r_q8 n_q14 rfl rfl rfl
          have g_q14_0 : (16 : Int) ≤ (q14.1 0).toInt ∧ (q14.1 0).toInt ≤ 400000 := k_q14.1 0
          have e_q14_1 : (q14.1 1).toInt = (q8.1 1).toInt := congrArg Int32.toInt (n_q14.1 1 rfl)
          have g_q14_1 : (0 : Int) ≤ (q14.1 1).toInt ∧ (q14.1 1).toInt ≤ 0 := k_q14.1 1
          have zq14_0 : (q14.1 3).toInt = (q8.1 3).toInt + 4 := zq14_0
          have zq14_1 : (q8.1 3).toInt ≤ (q14.1 3).toInt := zq14_1
          have zq14_2 : (q14.1 3).toInt ≤ (q14.1 0).toInt := zq14_2
          try unfold fSc_writeResult_77
          try unfold fSc_writeResult_101
          exact tt_some ⟨k_q14, r_q14, (iv_w (a := 8) (b := 90000) (by decide) (by decide) f_q14_3), (show (q14.1 3).toInt ≤ (o2.1 3).toInt + 33 by omega), (show (o2.1 3).toInt ≤ (q14.1 3).toInt by omega), (show (q14.1 3).toInt ≤ (q14.1 0).toInt by omega), trivial⟩
      · have wc9 : ¬ (0 : Int) = (0 : Int) := c_ne c9
        exact (dd_ne c9 (show (0 : Int) ≤ (0 : Int32).toInt ∧ (0 : Int32).toInt ≤ 0 by decide) (show (0 : Int) ≤ (0 : Int32).toInt ∧ (0 : Int32).toInt ≤ 0 by decide)).elim
    · have wc4 : ¬ (0 : Int) = (0 : Int) := c_ne c4
      exact (dd_ne c4 (show (0 : Int) ≤ (0 : Int32).toInt ∧ (0 : Int32).toInt ≤ 0 by decide) (show (0 : Int) ≤ (0 : Int32).toInt ∧ (0 : Int32).toInt ≤ 0 by decide)).elim
  · have wc1 : v3.toInt < (2 : Int) := c_nle c1
    have i15 : (0 : Int) ≤ v3.toInt ∧ v3.toInt ≤ 1 := nr_nlel c1 i_v3 (show (2 : Int) ≤ (2 : Int32).toInt ∧ (2 : Int32).toInt ≤ 2 by decide) (by decide) (by decide)
    try unfold fSc_writeResult_10
    refine tt_b (sSB_appendS_S12 _ k_o2 f_o2_3 (show (o2.1 3).toInt ≤ (o2.1 0).toInt by omega) (show (o2.1 3).toInt ≤ 89994 by omega)) (fun q16 hq16 => ?_)
    obtain ⟨k_q16, n_q16, f_q16_3, zq16_0, zq16_1, zq16_2, -⟩ := hq16
    have r_q16 := fr_tr r_o2 n_q16 rfl rfl rfl
    have g_q16_0 : (16 : Int) ≤ (q16.1 0).toInt ∧ (q16.1 0).toInt ≤ 400000 := k_q16.1 0
    have e_q16_1 : (q16.1 1).toInt = (o2.1 1).toInt := congrArg Int32.toInt (n_q16.1 1 rfl)
    have g_q16_1 : (0 : Int) ≤ (q16.1 1).toInt ∧ (q16.1 1).toInt ≤ 0 := k_q16.1 1
    have zq16_0 : (q16.1 3).toInt = (o2.1 3).toInt + 6 := zq16_0
    have zq16_1 : (o2.1 3).toInt ≤ (q16.1 3).toInt := zq16_1
    have zq16_2 : (q16.1 3).toInt ≤ (q16.1 0).toInt := zq16_2
    try unfold fSc_writeResult_21
    refine tt_if (fun c17 => ?_) (fun c17 => ?_)
    · have wc17 : (1 : Int) = (0 : Int) := c_eq c17
      exact (dd_eq c17 (show (1 : Int) ≤ (1 : Int32).toInt ∧ (1 : Int32).toInt ≤ 1 by decide) (show (0 : Int) ≤ (0 : Int32).toInt ∧ (0 : Int32).toInt ≤ 0 by decide) (by decide)).elim
    · have wc17 : ¬ (1 : Int) = (0 : Int) := c_ne c17
      try unfold fSc_writeResult_33
      refine tt_n (ix_ok i_v2 (by decide) (by decide)) ?_
      refine tt_kl (fun x18 => ?_)
      refine tt_b (sSc_writeName _ _ _ k_o0 k_q16 (iv_w (a := 7) (b := 90000) (by decide) (by decide) f_q16_3) (show (q16.1 3).toInt ≤ (q16.1 0).toInt by omega) (show (q16.1 3).toInt ≤ 89991 by omega)) (fun q19 hq19 => ?_)
      obtain ⟨k_q19, n_q19, f_q19_3, zq19_0, zq19_1, zq19_2, -⟩ := hq19
      have r_q19 := fr_tr r_q16 n_q19 rfl rfl rfl
      have g_q19_0 : (16 : Int) ≤ (q19.1 0).toInt ∧ (q19.1 0).toInt ≤ 400000 := k_q19.1 0
      have e_q19_1 : (q19.1 1).toInt = (q16.1 1).toInt := congrArg Int32.toInt (n_q19.1 1 rfl)
      have g_q19_1 : (0 : Int) ≤ (q19.1 1).toInt ∧ (q19.1 1).toInt ≤ 0 := k_q19.1 1
      have zq19_0 : (q19.1 3).toInt ≤ (q16.1 3).toInt + 9 := zq19_0
      have zq19_1 : (q16.1 3).toInt ≤ (q19.1 3).toInt := zq19_1
      have zq19_2 : (q19.1 3).toInt ≤ (q19.1 0).toInt := zq19_2
      try unfold fSc_writeResult_43
      refine tt_b (sSB_appendC _ _ k_q19 (iv_w (a := 0) (b := 255) (by decide) (by decide) (show (10 : Int) ≤ (10 : Int32).toInt ∧ (10 : Int32).toInt ≤ 10 by decide)) (iv_w (a := 7) (b := 90000) (by decide) (by decide) f_q19_3) (show (q19.1 3).toInt ≤ (q19.1 0).toInt by omega) (show (q19.1 3).toInt ≤ 89999 by omega)) (fun q20 hq20 => ?_)
      obtain ⟨k_q20, n_q20, f_q20_3, zq20_0, zq20_1, zq20_2, -⟩ := hq20
      have r_q20 := fr_tr r_q19 n_q20 rfl rfl rfl
      have g_q20_0 : (16 : Int) ≤ (q20.1 0).toInt ∧ (q20.1 0).toInt ≤ 400000 := k_q20.1 0
      have e_q20_1 : (q20.1 1).toInt = (q19.1 1).toInt := congrArg Int32.toInt (n_q20.1 1 rfl)
      have g_q20_1 : (0 : Int) ≤ (q20.1 1).toInt ∧ (q20.1 1).toInt ≤ 0 := k_q20.1 1
      have zq20_0 : (q20.1 3).toInt = (q19.1 3).toInt + 1 := zq20_0
      have zq20_1 : (q19.1 3).toInt ≤ (q20.1 3).toInt := zq20_1
      have zq20_2 : (q20.1 3).toInt ≤ (q20.1 0).toInt := zq20_2
      try unfold fSc_writeResult_52
      refine tt_if (fun c21 => ?_) (fun c21 => ?_)
      · have wc21 : (1 : Int) = (0 : Int) := c_eq c21
        exact (dd_eq c21 (show (1 : Int) ≤ (1 : Int32).toInt ∧ (1 : Int32).toInt ≤ 1 by decide) (show (0 : Int) ≤ (0 : Int32).toInt ∧ (0 : Int32).toInt ≤ 0 by decide) (by decide)).elim
      · have wc21 : ¬ (1 : Int) = (0 : Int) := c_ne c21
        refine tt_if (fun c22 => ?_) (fun c22 => ?_)
        · have wc22 : v3.toInt = (1 : Int) := c_eq c22
          have i23 : (1 : Int) ≤ v3.toInt ∧ v3.toInt ≤ 1 := nr_eql c22 i15 (show (1 : Int) ≤ (1 : Int32).toInt ∧ (1 : Int32).toInt ≤ 1 by decide) (by decide) (by decide)
          try unfold fSc_writeResult_91
          refine tt_b (sSB_appendS_S15 _ k_q20 f_q20_3 (show (q20.1 3).toInt ≤ (q20.1 0).toInt by omega) (show (q20.1 3).toInt ≤ 89998 by omega)) (fun q24 hq24 => ?_)
          obtain ⟨k_q24, n_q24, f_q24_3, zq24_0, zq24_1, zq24_2, -⟩ := hq24
          have r_q24 := fr_tr r_q20 n_q24 rfl rfl rfl
          have g_q24_0 : (16 : Int) ≤ (q24.1 0).toInt ∧ (q24.1 0).toInt ≤ 400000 := k_q24.1 0
          have e_q24_1 : (q24.1 1).toInt = (q20.1 1).toInt := congrArg Int32.toInt (n_q24.1 1 rfl)
          have g_q24_1 : (0 : Int) ≤ (q24.1 1).toInt ∧ (q24.1 1).toInt ≤ 0 := k_q24.1 1
          have zq24_0 : (q24.1 3).toInt = (q20.1 3).toInt + 2 := zq24_0
          have zq24_1 : (q20.1 3).toInt ≤ (q24.1 3).toInt := zq24_1
          have zq24_2 : (q24.1 3).toInt ≤ (q24.1 0).toInt := zq24_2
          try unfold fSc_writeResult_100
          try unfold fSc_writeResult_101
          exact tt_some ⟨k_q24, r_q24, (iv_w (a := 8) (b := 90000) (by decide) (by decide) f_q24_3), (show (q24.1 3).toInt ≤ (o2.1 3).toInt + 33 by omega), (show (o2.1 3).toInt ≤ (q24.1 3).toInt by omega), (show (q24.1 3).toInt ≤ (q24.1 0).toInt by omega), trivial⟩
        · have wc22 : ¬ v3.toInt = (1 : Int) := c_ne c22
          have i25 : (0 : Int) ≤ v3.toInt ∧ v3.toInt ≤ 0 := nr_nelb c22 i15 (show (1 : Int) ≤ (1 : Int32).toInt ∧ (1 : Int32).toInt ≤ 1 by decide) (by decide) (by decide)
          refine tt_if (fun c26 => ?_) (fun c26 => ?_)
          · have wc26 : v4.toInt = (0 : Int) := c_eq c26
            have i27 : (0 : Int) ≤ v4.toInt ∧ v4.toInt ≤ 0 := nr_eql c26 i_v4 (show (0 : Int) ≤ (0 : Int32).toInt ∧ (0 : Int32).toInt ≤ 0 by decide) (by decide) (by decide)
            try unfold fSc_writeResult_101
            exact tt_some ⟨k_q20, r_q20, f_q20_3, (show (q20.1 3).toInt ≤ (o2.1 3).toInt + 33 by omega), (show (o2.1 3).toInt ≤ (q20.1 3).toInt by omega), (show (q20.1 3).toInt ≤ (q20.1 0).toInt by omega), trivial⟩
          · have wc26 : ¬ v4.toInt = (0 : Int) := c_ne c26
            have i28 : (1 : Int) ≤ v4.toInt ∧ v4.toInt ≤ 1 := nr_nela c26 i_v4 (show (0 : Int) ≤ (0 : Int32).toInt ∧ (0 : Int32).toInt ≤ 0 by decide) (by decide) (by decide)
            try unfold fSc_writeResult_91
            refine tt_b (sSB_appendS_S15 _ k_q20 f_q20_3 (show (q20.1 3).toInt ≤ (q20.1 0).toInt by omega) (show (q20.1 3).toInt ≤ 89998 by omega)) (fun q29 hq29 => ?_)
            obtain ⟨k_q29, n_q29, f_q29_3, zq29_0, zq29_1, zq29_2, -⟩ := hq29
            have r_q29 := fr_tr r_q20 n_q29 rfl rfl rfl
            have g_q29_0 : (16 : Int) ≤ (q29.1 0).toInt ∧ (q29.1 0).toInt ≤ 400000 := k_q29.1 0
            have e_q29_1 : (q29.1 1).toInt = (q20.1 1).toInt := congrArg Int32.toInt (n_q29.1 1 rfl)
            have g_q29_1 : (0 : Int) ≤ (q29.1 1).toInt ∧ (q29.1 1).toInt ≤ 0 := k_q29.1 1
            have zq29_0 : (q29.1 3).toInt = (q20.1 3).toInt + 2 := zq29_0
            have zq29_1 : (q20.1 3).toInt ≤ (q29.1 3).toInt := zq29_1
            have zq29_2 : (q29.1 3).toInt ≤ (q29.1 0).toInt := zq29_2
            try unfold fSc_writeResult_100
            try unfold fSc_writeResult_101
            exact tt_some ⟨k_q29, r_q29, (iv_w (a := 8) (b := 90000) (by decide) (by decide) f_q29_3), (show (q29.1 3).toInt ≤ (o2.1 3).toInt + 33 by omega), (show (o2.1 3).toInt ≤ (q29.1 3).toInt by omega), (show (q29.1 3).toInt ≤ (q29.1 0).toInt by omega), trivial⟩
def QJString_coder__S16  (r : (Int32)) : Prop := ((0 : Int) ≤ r.toInt ∧ r.toInt ≤ 0) ∧ True
set_option maxHeartbeats 4000000 in
set_option maxRecDepth 100000 in
theorem sJString_coder__S16   : tt (fJString_coder__S16 ) (QJString_coder__S16 ) := by
  unfold fJString_coder__S16 fJString_coder__S16_0
  try unfold fJString_coder__S16_14
  refine tt_w (iv_nb (show (0 : Int) ≤ (0 : Int32).toInt ∧ (0 : Int32).toInt ≤ 0 by decide) (by decide) (by decide)) ?_
  exact tt_some ⟨(show (0 : Int) ≤ (0 : Int32).toInt ∧ (0 : Int32).toInt ≤ 0 by decide), trivial⟩
def QJString_length__S16  (r : (Int32)) : Prop := ((5 : Int) ≤ r.toInt ∧ r.toInt ≤ 5) ∧ True
set_option maxHeartbeats 4000000 in
set_option maxRecDepth 100000 in
theorem sJString_length__S16   : tt (fJString_length__S16 ) (QJString_length__S16 ) := by
  unfold fJString_length__S16 fJString_length__S16_0
  refine tt_b (sJString_coder__S16  ) (fun q1 hq1 => ?_)
  obtain ⟨i_q1, -⟩ := hq1
  refine tt_kv (P := fun z => (5 : Int) ≤ z.toInt ∧ z.toInt ≤ 5) (iv_shr (p := 0) (q := 0) (show (5 : Int) ≤ (5 : Int32).toInt ∧ (5 : Int32).toInt ≤ 5 by decide) i_q1 (by decide) (by decide) (by decide) (by decide)) (fun x2 i3 => ?_)
  exact tt_some ⟨i3, trivial⟩
def QAS_inflateIfNeededFor_S16 (o0 : cf_O) (r : (Unit)) : Prop := True
set_option maxHeartbeats 4000000 in
set_option maxRecDepth 100000 in
theorem sAS_inflateIfNeededFor_S16 (o0 : cf_O) (k_o0 : okO I_SB o0) (f_o0_3 : (8 : Int) ≤ (o0.1 3).toInt ∧ (o0.1 3).toInt ≤ 90000) : tt (fAS_inflateIfNeededFor_S16 o0) (QAS_inflateIfNeededFor_S16 o0) := by
  have r_o0 : Fr (fr_M [] [] []) o0 o0 := fr_rfl
  unfold fAS_inflateIfNeededFor_S16 fAS_inflateIfNeededFor_S16_0
  refine tt_b (sJString_coder__S16  ) (fun q1 hq1 => ?_)
  obtain ⟨i_q1, -⟩ := hq1
  refine tt_if (fun c2 => ?_) (fun c2 => ?_)
  · try unfold fAS_inflateIfNeededFor_S16_21
    exact tt_some trivial
  · exact (dd_ne c2 (k_o0.1 1) i_q1).elim
def QJString_getBytes_ABIB_S16_SB0 (v2 : Int32) (v3 : Int32) (o0 : cf_O) (r : (cf_O)) : Prop := (okO I_SB r) ∧ (Fr (fr_M [] [0] []) o0 r) ∧ True
set_option maxHeartbeats 4000000 in
set_option maxRecDepth 100000 in
theorem sJString_getBytes_ABIB_S16_SB0 (v2 : Int32) (v3 : Int32) (o0 : cf_O) (k_o0 : okO I_SB o0) (i_v2 : (8 : Int) ≤ v2.toInt ∧ v2.toInt ≤ 90000) (i_v3 : (0 : Int) ≤ v3.toInt ∧ v3.toInt ≤ 0) (f_o0_3 : (8 : Int) ≤ (o0.1 3).toInt ∧ (o0.1 3).toInt ≤ 90000) (x_0 : 0 ≤ v2.toInt) (x_1 : v2.toInt + 5 ≤ (o0.1 0).toInt) : tt (fJString_getBytes_ABIB_S16_SB0 v2 v3 o0) (QJString_getBytes_ABIB_S16_SB0 v2 v3 o0) := by
  have r_o0 : Fr (fr_M [] [0] []) o0 o0 := fr_rfl
  unfold fJString_getBytes_ABIB_S16_SB0 fJString_getBytes_ABIB_S16_SB0_0
  have g_o0_0 : (16 : Int) ≤ (o0.1 0).toInt ∧ (o0.1 0).toInt ≤ 400000 := k_o0.1 0
  have g_o0_1 : (0 : Int) ≤ (o0.1 1).toInt ∧ (o0.1 1).toInt ≤ 0 := k_o0.1 1
  refine tt_b (sJString_coder__S16  ) (fun q1 hq1 => ?_)
  obtain ⟨i_q1, -⟩ := hq1
  refine tt_if (fun c2 => ?_) (fun c2 => ?_)
  · have wc2 : q1.toInt = v3.toInt := c_eq c2
    refine tt_kv (P := fun z => ((8 : Int) ≤ z.toInt ∧ z.toInt ≤ 90000) ∧ z.toInt = v2.toInt) ⟨iv_shl (p := 0) (q := 0) i_v2 i_v3 (by decide) (by decide) (by decide) (by decide) (by decide), sh0l i_v3⟩ (fun x3 qi4 => ?_)
    obtain ⟨i4, ei4⟩ := qi4
    refine tt_n (ac_ok (x := x3) (l := (o0.1 0)) (by omega) (by omega)) ?_
    refine tt_ko ?_
    have k5 := ok_cb (k := 0) (s := 16) (x := x3) (n := 5) k_o0 ⟨by decide, by decide⟩
    have r6 := fr_cb (k := 0) (s := 16) (x := x3) (n := 5) r_o0 rfl
    exact tt_some ⟨k5, r6, trivial⟩
  · have wc2 : ¬ q1.toInt = v3.toInt := c_ne c2
    exact (dd_ne c2 i_q1 i_v3).elim
def QAS_putStringAt_S16 (v1 : Int32) (o0 : cf_O) (r : (cf_O)) : Prop := (okO I_SB r) ∧ (Fr (fr_M [] [0] []) o0 r) ∧ True
set_option maxHeartbeats 4000000 in
set_option maxRecDepth 100000 in
theorem sAS_putStringAt_S16 (v1 : Int32) (o0 : cf_O) (k_o0 : okO I_SB o0) (i_v1 : (8 : Int) ≤ v1.toInt ∧ v1.toInt ≤ 90000) (f_o0_3 : (8 : Int) ≤ (o0.1 3).toInt ∧ (o0.1 3).toInt ≤ 90000) (x_0 : 0 ≤ v1.toInt) (x_1 : v1.toInt + 5 ≤ (o0.1 0).toInt) : tt (fAS_putStringAt_S16 v1 o0) (QAS_putStringAt_S16 v1 o0) := by
  have r_o0 : Fr (fr_M [] [0] []) o0 o0 := fr_rfl
  unfold fAS_putStringAt_S16 fAS_putStringAt_S16_0
  have g_o0_0 : (16 : Int) ≤ (o0.1 0).toInt ∧ (o0.1 0).toInt ≤ 400000 := k_o0.1 0
  have g_o0_1 : (0 : Int) ≤ (o0.1 1).toInt ∧ (o0.1 1).toInt ≤ 0 := k_o0.1 1
  refine tt_b (sAS_inflateIfNeededFor_S16 _ k_o0 f_o0_3) (fun q1 hq1 => ?_)
  refine tt_b (sJString_getBytes_ABIB_S16_SB0 _ _ _ k_o0 i_v1 (k_o0.1 1) f_o0_3 (show 0 ≤ v1.toInt by omega) (show v1.toInt + 5 ≤ (o0.1 0).toInt by omega)) (fun q2 hq2 => ?_)
  obtain ⟨k_q2, n_q2, -⟩ := hq2
  have r_q2 := fr_tr r_o0 n_q2 rfl rfl rfl
  have f_q2_3 : (8 : Int) ≤ (q2.1 3).toInt ∧ (q2.1 3).toInt ≤ 90000 := by rw [n_q2.1 3 rfl]; exact f_o0_3
  have e_q2_0 : (q2.1 0).toInt = (o0.1 0).toInt := congrArg Int32.toInt (n_q2.1 0 rfl)
  have g_q2_0 : (16 : Int) ≤ (q2.1 0).toInt ∧ (q2.1 0).toInt ≤ 400000 := k_q2.1 0
  have e_q2_1 : (q2.1 1).toInt = (o0.1 1).toInt := congrArg Int32.toInt (n_q2.1 1 rfl)
  have g_q2_1 : (0 : Int) ≤ (q2.1 1).toInt ∧ (q2.1 1).toInt ≤ 0 := k_q2.1 1
  have e_q2_3 : (q2.1 3).toInt = (o0.1 3).toInt := congrArg Int32.toInt (n_q2.1 3 rfl)
  exact tt_some ⟨k_q2, r_q2, trivial⟩
def QAS_appendS_S16 (o0 : cf_O) (r : (cf_O)) : Prop := (okO I_SB r) ∧ (Fr (fr_M [0, 3] [0] []) o0 r) ∧ ((13 : Int) ≤ (r.1 3).toInt ∧ (r.1 3).toInt ≤ 90000) ∧ ((r.1 3).toInt = (o0.1 3).toInt + 5) ∧ ((o0.1 3).toInt ≤ (r.1 3).toInt) ∧ ((r.1 3).toInt ≤ (r.1 0).toInt) ∧ True
set_option maxHeartbeats 4000000 in
set_option maxRecDepth 100000 in
theorem sAS_appendS_S16 (o0 : cf_O) (k_o0 : okO I_SB o0) (f_o0_3 : (8 : Int) ≤ (o0.1 3).toInt ∧ (o0.1 3).toInt ≤ 90000) (x_0 : (o0.1 3).toInt ≤ (o0.1 0).toInt) (x_1 : (o0.1 3).toInt ≤ 89995) : tt (fAS_appendS_S16 o0) (QAS_appendS_S16 o0) := by
  have r_o0 : Fr (fr_M [0, 3] [0] []) o0 o0 := fr_rfl
  unfold fAS_appendS_S16 fAS_appendS_S16_0
  have g_o0_0 : (16 : Int) ≤ (o0.1 0).toInt ∧ (o0.1 0).toInt ≤ 400000 := k_o0.1 0
  have g_o0_1 : (0 : Int) ≤ (o0.1 1).toInt ∧ (o0.1 1).toInt ≤ 0 := k_o0.1 1
  refine tt_b (sJString_length__S16  ) (fun q1 hq1 => ?_)
  obtain ⟨i_q1, -⟩ := hq1
  try unfold fAS_appendS_S16_13
  refine tt_kv (P := fun z => ((13 : Int) ≤ z.toInt ∧ z.toInt ≤ 90005) ∧ z.toInt = (o0.1 3).toInt + q1.toInt) ⟨iv_add f_o0_3 i_q1 (by decide) (by decide) (by decide) (by decide), iq_add f_o0_3 i_q1 (by decide) (by decide)⟩ (fun x2 qi3 => ?_)
  obtain ⟨i3, ei3⟩ := qi3
  refine tt_b (sAS_ensureCapacityInternal _ _ k_o0 (iv_w (a := 0) (b := 90010) (by decide) (by decide) i3)) (fun q4 hq4 => ?_)
  obtain ⟨k_q4, n_q4, zq4_0, zq4_1, zq4_2, -⟩ := hq4
  have r_q4 := fr_tr r_o0 n_q4 rfl rfl rfl
  have f_q4_3 : (8 : Int) ≤ (q4.1 3).toInt ∧ (q4.1 3).toInt ≤ 90000 := by rw [n_q4.1 3 rfl]; exact f_o0_3
  have g_q4_0 : (16 : Int) ≤ (q4.1 0).toInt ∧ (q4.1 0).toInt ≤ 400000 := k_q4.1 0
  have e_q4_1 : (q4.1 1).toInt = (o0.1 1).toInt := congrArg Int32.toInt (n_q4.1 1 rfl)
  have g_q4_1 : (0 : Int) ≤ (q4.1 1).toInt ∧ (q4.1 1).toInt ≤ 0 := k_q4.1 1
  have e_q4_3 : (q4.1 3).toInt = (o0.1 3).toInt := congrArg Int32.toInt (n_q4.1 3 rfl)
  have zq4_0 : x2.toInt ≤ (q4.1 0).toInt := zq4_0
  have zq4_1 : (o0.1 0).toInt ≤ (q4.1 0).toInt := zq4_1
  have zq4_2 : (q4.1 0).toInt ≤ (o0.1 0).toInt ∨ (q4.1 0).toInt ≤ 180022 := zq4_2
  try unfold fAS_appendS_S16_24
  refine tt_b (sAS_putStringAt_S16 _ _ k_q4 f_q4_3 f_q4_3 (show 0 ≤ (q4.1 3).toInt by omega) (show (q4.1 3).toInt + 5 ≤ (q4.1 0).toInt by omega)) (fun q5 hq5 => ?_)
  obtain ⟨k_q5, n_q5, -⟩ := hq5
  have r_q5 := fr_tr r_q4 n_q5 rfl rfl rfl
  have f_q5_3 : (8 : Int) ≤ (q5.1 3).toInt ∧ (q5.1 3).toInt ≤ 90000 := by rw [n_q5.1 3 rfl]; exact f_q4_3
  have e_q5_0 : (q5.1 0).toInt = (q4.1 0).toInt := congrArg Int32.toInt (n_q5.1 0 rfl)
  have g_q5_0 : (16 : Int) ≤ (q5.1 0).toInt ∧ (q5.1 0).toInt ≤ 400000 := k_q5.1 0
  have e_q5_1 : (q5.1 1).toInt = (q4.1 1).toInt := congrArg Int32.toInt (n_q5.1 1 rfl)
  have g_q5_1 : (0 : Int) ≤ (q5.1 1).toInt ∧ (q5.1 1).toInt ≤ 0 := k_q5.1 1
  have e_q5_3 : (q5.1 3).toInt = (q4.1 3).toInt := congrArg Int32.toInt (n_q5.1 3 rfl)
  try unfold fAS_appendS_S16_33
  refine tt_kv (P := fun z => ((13 : Int) ≤ z.toInt ∧ z.toInt ≤ 90005) ∧ z.toInt = (q5.1 3).toInt + q1.toInt) ⟨iv_add f_q5_3 i_q1 (by decide) (by decide) (by decide) (by decide), iq_add f_q5_3 i_q1 (by decide) (by decide)⟩ (fun x6 qi7 => ?_)
  obtain ⟨i7, ei7⟩ := qi7
  refine tt_ko ?_
  have k8 := ok_fp (k := 3) (v := x6) k_q5 (show (0 : Int) ≤ _ ∧ _ ≤ (90000 : Int) by omega)
  have i9 : (13 : Int) ≤ x6.toInt ∧ x6.toInt ≤ 90000 := (by omega)
  have r10 := fr_fp (k := 3) (v := x6) r_q5 rfl
  exact tt_some ⟨k8, r10, i9, (show x6.toInt = (o0.1 3).toInt + 5 by omega), (show (o0.1 3).toInt ≤ x6.toInt by omega), (show x6.toInt ≤ (q5.1 0).toInt by omega), trivial⟩
def QSB_appendS_S16 (o0 : cf_O) (r : (cf_O)) : Prop := (okO I_SB r) ∧ (Fr (fr_M [0, 3] [0] []) o0 r) ∧ ((13 : Int) ≤ (r.1 3).toInt ∧ (r.1 3).toInt ≤ 90000) ∧ ((r.1 3).toInt = (o0.1 3).toInt + 5) ∧ ((o0.1 3).toInt ≤ (r.1 3).toInt) ∧ ((r.1 3).toInt ≤ (r.1 0).toInt) ∧ True
set_option maxHeartbeats 4000000 in
set_option maxRecDepth 100000 in
theorem sSB_appendS_S16 (o0 : cf_O) (k_o0 : okO I_SB o0) (f_o0_3 : (8 : Int) ≤ (o0.1 3).toInt ∧ (o0.1 3).toInt ≤ 90000) (x_0 : (o0.1 3).toInt ≤ (o0.1 0).toInt) (x_1 : (o0.1 3).toInt ≤ 89995) : tt (fSB_appendS_S16 o0) (QSB_appendS_S16 o0) := by
  have r_o0 : Fr (fr_M [0, 3] [0] []) o0 o0 := fr_rfl
  unfold fSB_appendS_S16 fSB_appendS_S16_0
  have g_o0_0 : (16 : Int) ≤ (o0.1 0).toInt ∧ (o0.1 0).toInt ≤ 400000 := k_o0.1 0
  have g_o0_1 : (0 : Int) ≤ (o0.1 1).toInt ∧ (o0.1 1).toInt ≤ 0 := k_o0.1 1
  refine tt_b (sAS_appendS_S16 _ k_o0 f_o0_3 (show (o0.1 3).toInt ≤ (o0.1 0).toInt by omega) (show (o0.1 3).toInt ≤ 89995 by omega)) (fun q1 hq1 => ?_)
  obtain ⟨k_q1, n_q1, f_q1_3, zq1_0, zq1_1, zq1_2, -⟩ := hq1
  have r_q1 := fr_tr r_o0 n_q1 rfl rfl rfl
  have g_q1_0 : (16 : Int) ≤ (q1.1 0).toInt ∧ (q1.1 0).toInt ≤ 400000 := k_q1.1 0
  have e_q1_1 : (q1.1 1).toInt = (o0.1 1).toInt := congrArg Int32.toInt (n_q1.1 1 rfl)
  have g_q1_1 : (0 : Int) ≤ (q1.1 1).toInt ∧ (q1.1 1).toInt ≤ 0 := k_q1.1 1
  have zq1_0 : (q1.1 3).toInt = (o0.1 3).toInt + 5 := zq1_0
  have zq1_1 : (o0.1 3).toInt ≤ (q1.1 3).toInt := zq1_1
  have zq1_2 : (q1.1 3).toInt ≤ (q1.1 0).toInt := zq1_2
  try unfold fSB_appendS_S16_5
  exact tt_some ⟨k_q1, r_q1, f_q1_3, (show (q1.1 3).toInt = (o0.1 3).toInt + 5 by omega), (show (o0.1 3).toInt ≤ (q1.1 3).toInt by omega), (show (q1.1 3).toInt ≤ (q1.1 0).toInt by omega), trivial⟩
def QSc_close (o0 : cf_O) (o1 : cf_O) (r : (cf_O × cf_O)) : Prop := (okO I_Sc r.1) ∧ (Fr (fr_M [0] [] []) o0 r.1) ∧ ((1 : Int) ≤ (r.1.1 0).toInt ∧ (r.1.1 0).toInt ≤ 1) ∧ (okO I_SB r.2) ∧ (Fr (fr_M [0, 3] [0] []) o1 r.2) ∧ ((13 : Int) ≤ (r.2.1 3).toInt ∧ (r.2.1 3).toInt ≤ 90000) ∧ ((r.2.1 3).toInt ≤ (o1.1 3).toInt + 5) ∧ ((r.2.1 3).toInt ≤ (r.2.1 0).toInt) ∧ True
set_option maxHeartbeats 4000000 in
set_option maxRecDepth 100000 in
theorem sSc_close (o0 : cf_O) (o1 : cf_O) (k_o0 : okO I_Sc o0) (k_o1 : okO I_SB o1) (f_o1_3 : (8 : Int) ≤ (o1.1 3).toInt ∧ (o1.1 3).toInt ≤ 90000) (x_0 : (o1.1 3).toInt ≤ (o1.1 0).toInt) (x_1 : (o1.1 3).toInt ≤ 89995) : tt (fSc_close o0 o1) (QSc_close o0 o1) := by
  have r_o0 : Fr (fr_M [0] [] []) o0 o0 := fr_rfl
  have r_o1 : Fr (fr_M [0, 3] [0] []) o1 o1 := fr_rfl
  unfold fSc_close fSc_close_0
  have g_o0_0 : (0 : Int) ≤ (o0.1 0).toInt ∧ (o0.1 0).toInt ≤ 1 := k_o0.1 0
  have g_o0_1 : (0 : Int) ≤ (o0.1 1).toInt ∧ (o0.1 1).toInt ≤ 0 := k_o0.1 1
  have g_o0_3 : (0 : Int) ≤ (o0.1 3).toInt ∧ (o0.1 3).toInt ≤ 0 := k_o0.1 3
  have g_o1_0 : (16 : Int) ≤ (o1.1 0).toInt ∧ (o1.1 0).toInt ≤ 400000 := k_o1.1 0
  have g_o1_1 : (0 : Int) ≤ (o1.1 1).toInt ∧ (o1.1 1).toInt ≤ 0 := k_o1.1 1
  refine tt_b (sSB_appendS_S16 _ k_o1 f_o1_3 (show (o1.1 3).toInt ≤ (o1.1 0).toInt by omega) (show (o1.1 3).toInt ≤ 89995 by omega)) (fun q1 hq1 => ?_)
  obtain ⟨k_q1, n_q1, f_q1_3, zq1_0, zq1_1, zq1_2, -⟩ := hq1
  have r_q1 := fr_tr r_o1 n_q1 rfl rfl rfl
  have g_q1_0 : (16 : Int) ≤ (q1.1 0).toInt ∧ (q1.1 0).toInt ≤ 400000 := k_q1.1 0
  have e_q1_1 : (q1.1 1).toInt = (o1.1 1).toInt := congrArg Int32.toInt (n_q1.1 1 rfl)
  have g_q1_1 : (0 : Int) ≤ (q1.1 1).toInt ∧ (q1.1 1).toInt ≤ 0 := k_q1.1 1
  have zq1_0 : (q1.1 3).toInt = (o1.1 3).toInt + 5 := zq1_0
  have zq1_1 : (o1.1 3).toInt ≤ (q1.1 3).toInt := zq1_1
  have zq1_2 : (q1.1 3).toInt ≤ (q1.1 0).toInt := zq1_2
  try unfold fSc_close_9
  refine tt_ko ?_
  have k2 := ok_fp (k := 0) (v := 1) k_o0 (iv_w (a := 0) (b := 1) (by decide) (by decide) (show (1 : Int) ≤ (1 : Int32).toInt ∧ (1 : Int32).toInt ≤ 1 by decide))
  have r3 := fr_fp (k := 0) (v := 1) r_o0 rfl
  exact tt_some ⟨k2, r3, (show (1 : Int) ≤ (1 : Int32).toInt ∧ (1 : Int32).toInt ≤ 1 by decide), k_q1, r_q1, f_q1_3, (show (q1.1 3).toInt ≤ (o1.1 3).toInt + 5 by omega), (show (q1.1 3).toInt ≤ (q1.1 0).toInt by omega), trivial⟩
def QCv_writeTo (o0 : cf_O) (o1 : cf_O) (o2 : cf_O) (o3 : cf_O) (o4 : cf_O) (r : (cf_O × cf_O)) : Prop := (okO I_Sc r.1) ∧ (Fr (fr_M [0] [] []) o1 r.1) ∧ ((1 : Int) ≤ (r.1.1 0).toInt ∧ (r.1.1 0).toInt ≤ 1) ∧ (okO I_SB r.2) ∧ (Fr (fr_M [0, 2, 3] [0] []) o4 r.2) ∧ ((13 : Int) ≤ (r.2.1 3).toInt ∧ (r.2.1 3).toInt ≤ 90000) ∧ ((r.2.1 3).toInt ≤ (r.2.1 0).toInt) ∧ True
def HCv_writeTo (yo0 : cf_O) (yo1 : cf_O) (yo2 : cf_O) (yo3 : cf_O) (yo4 : cf_O) (n : Nat) : Prop := (∀ (v4 : Int32) (o0 : cf_O) (o1 : cf_O) (o2 : cf_O) (o3 : cf_O) (o4 : cf_O), (okO I_Cv o0) → (Fr (fr_M [] [] []) yo0 o0) → (okO I_Sc o1) → (Fr (fr_M [0] [] []) yo1 o1) → (okO I_Nl o2) → (Fr (fr_M [] [] []) yo2 o2) → (okO I_Gr o3) → (Fr (fr_M [] [] []) yo3 o3) → (okO I_SB o4) → (Fr (fr_M [0, 2, 3] [0] []) yo4 o4) → ((0 : Int) ≤ v4.toInt ∧ v4.toInt ≤ 200) → ((8 : Int) ≤ (o4.1 3).toInt ∧ (o4.1 3).toInt ≤ 90000) → (Ctk (o0.1 0).toInt (o0.2.1 2) (o0.2.2 5)) → ((o4.1 3).toInt ≤ (o4.1 0).toInt) → ((o4.1 3).toInt ≤ 143 + 341 * v4.toInt) → (0 ≤ v4.toInt) → (v4.toInt ≤ (o0.1 0).toInt) → 14 + (200 - v4.toInt) * 20 < (n : Int) → tt (gCv_writeTo n 0 v4 0 0 o0 o1 o2 o3 o4) (QCv_writeTo yo0 yo1 yo2 yo3 yo4)) ∧ (∀ (v4 : Int32) (v5 : Int32) (v6 : Int32) (o0 : cf_O) (o1 : cf_O) (o2 : cf_O) (o3 : cf_O) (o4 : cf_O), (okO I_Cv o0) → (Fr (fr_M [] [] []) yo0 o0) → (okO I_Sc o1) → (Fr (fr_M [0] [] []) yo1 o1) → (okO I_Nl o2) → (Fr (fr_M [] [] []) yo2 o2) → (okO I_Gr o3) → (Fr (fr_M [] [] []) yo3 o3) → (okO I_SB o4) → (Fr (fr_M [0, 2, 3] [0] []) yo4 o4) → ((0 : Int) ≤ v4.toInt ∧ v4.toInt ≤ 199) → ((0 : Int) ≤ v5.toInt ∧ v5.toInt ≤ 8) → ((0 : Int) ≤ v6.toInt ∧ v6.toInt ≤ 8) → ((1 : Int) ≤ (o0.1 0).toInt ∧ (o0.1 0).toInt ≤ 200) → ((8 : Int) ≤ (o4.1 3).toInt ∧ (o4.1 3).toInt ≤ 90000) → (Ctk (o0.1 0).toInt (o0.2.1 2) (o0.2.2 5)) → ((o4.1 3).toInt ≤ (o4.1 0).toInt) → ((o4.1 3).toInt ≤ 149 + 341 * v4.toInt + 13 * v6.toInt) → (0 ≤ v4.toInt) → (v4.toInt < (o0.1 0).toInt) → (0 ≤ v6.toInt) → (v6.toInt ≤ v5.toInt) → (v5.toInt ≤ 5) → 14 + (200 - v4.toInt - 1) * 20 + 1 + (8 - v6.toInt) * 2 < (n : Int) → tt (gCv_writeTo n 1 v4 v5 v6 o0 o1 o2 o3 o4) (QCv_writeTo yo0 yo1 yo2 yo3 yo4)) ∧ (∀ (v4 : Int32) (o0 : cf_O) (o1 : cf_O) (o2 : cf_O) (o3 : cf_O) (o4 : cf_O), (okO I_Cv o0) → (Fr (fr_M [] [] []) yo0 o0) → (okO I_Sc o1) → (Fr (fr_M [0] [] []) yo1 o1) → (okO I_Nl o2) → (Fr (fr_M [] [] []) yo2 o2) → (okO I_Gr o3) → (Fr (fr_M [] [] []) yo3 o3) → (okO I_SB o4) → (Fr (fr_M [0, 2, 3] [0] []) yo4 o4) → ((0 : Int) ≤ v4.toInt ∧ v4.toInt ≤ 6) → ((8 : Int) ≤ (o4.1 3).toInt ∧ (o4.1 3).toInt ≤ 90000) → ((o4.1 3).toInt ≤ (o4.1 0).toInt) → ((o4.1 3).toInt ≤ 68343 + 33 * v4.toInt) → 0 + (6 - v4.toInt) * 2 < (n : Int) → tt (gCv_writeTo n 2 v4 0 0 o0 o1 o2 o3 o4) (QCv_writeTo yo0 yo1 yo2 yo3 yo4))
set_option maxHeartbeats 4000000 in
set_option maxRecDepth 100000 in
theorem tCv_writeTo_114 {yo0 : cf_O} {yo1 : cf_O} {yo2 : cf_O} {yo3 : cf_O} {yo4 : cf_O} {n : Nat} (H : HCv_writeTo yo0 yo1 yo2 yo3 yo4 n) (v4 : Int32) (o0 : cf_O) (o1 : cf_O) (o2 : cf_O) (o3 : cf_O) (o4 : cf_O) (k_o0 : okO I_Cv o0) (r_o0 : Fr (fr_M [] [] []) yo0 o0) (k_o1 : okO I_Sc o1) (r_o1 : Fr (fr_M [0] [] []) yo1 o1) (k_o2 : okO I_Nl o2) (r_o2 : Fr (fr_M [] [] []) yo2 o2) (k_o3 : okO I_Gr o3) (r_o3 : Fr (fr_M [] [] []) yo3 o3) (k_o4 : okO I_SB o4) (r_o4 : Fr (fr_M [0, 2, 3] [0] []) yo4 o4) (i_v4 : (0 : Int) ≤ v4.toInt ∧ v4.toInt ≤ 6) (f_o4_3 : (8 : Int) ≤ (o4.1 3).toInt ∧ (o4.1 3).toInt ≤ 90000) (x_0 : (o4.1 3).toInt ≤ (o4.1 0).toInt) (x_1 : (o4.1 3).toInt ≤ 68343 + 33 * v4.toInt) (hm : 0 + (6 - v4.toInt) * 2 ≤ (n : Int)) : tt (fCv_writeTo_114 (gCv_writeTo n) v4 o0 o1 o2 o3 o4) (QCv_writeTo yo0 yo1 yo2 yo3 yo4) := by
  unfold fCv_writeTo_114
  have g_o0_0 : (0 : Int) ≤ (o0.1 0).toInt ∧ (o0.1 0).toInt ≤ 200 := k_o0.1 0
  have ey_o0_0 : (o0.1 0).toInt = (yo0.1 0).toInt := congrArg Int32.toInt (r_o0.1 0 rfl)
  have g_o0_1 : ((-2147483648) : Int) ≤ (o0.1 1).toInt ∧ (o0.1 1).toInt ≤ 2147483647 := k_o0.1 1
  have ey_o0_1 : (o0.1 1).toInt = (yo0.1 1).toInt := congrArg Int32.toInt (r_o0.1 1 rfl)
  have g_o0_3 : (0 : Int) ≤ (o0.1 3).toInt ∧ (o0.1 3).toInt ≤ 0 := k_o0.1 3
  have ey_o0_3 : (o0.1 3).toInt = (yo0.1 3).toInt := congrArg Int32.toInt (r_o0.1 3 rfl)
  have g_o1_0 : (0 : Int) ≤ (o1.1 0).toInt ∧ (o1.1 0).toInt ≤ 1 := k_o1.1 0
  have g_o1_1 : (0 : Int) ≤ (o1.1 1).toInt ∧ (o1.1 1).toInt ≤ 0 := k_o1.1 1
  have ey_o1_1 : (o1.1 1).toInt = (yo1.1 1).toInt := congrArg Int32.toInt (r_o1.1 1 rfl)
  have g_o1_3 : (0 : Int) ≤ (o1.1 3).toInt ∧ (o1.1 3).toInt ≤ 0 := k_o1.1 3
  have ey_o1_3 : (o1.1 3).toInt = (yo1.1 3).toInt := congrArg Int32.toInt (r_o1.1 3 rfl)
  have g_o2_0 : (0 : Int) ≤ (o2.1 0).toInt ∧ (o2.1 0).toInt ≤ 8 := k_o2.1 0
  have ey_o2_0 : (o2.1 0).toInt = (yo2.1 0).toInt := congrArg Int32.toInt (r_o2.1 0 rfl)
  have g_o2_1 : (0 : Int) ≤ (o2.1 1).toInt ∧ (o2.1 1).toInt ≤ 6 := k_o2.1 1
  have ey_o2_1 : (o2.1 1).toInt = (yo2.1 1).toInt := congrArg Int32.toInt (r_o2.1 1 rfl)
  have g_o2_3 : (0 : Int) ≤ (o2.1 3).toInt ∧ (o2.1 3).toInt ≤ 0 := k_o2.1 3
  have ey_o2_3 : (o2.1 3).toInt = (yo2.1 3).toInt := congrArg Int32.toInt (r_o2.1 3 rfl)
  have g_o3_0 : (0 : Int) ≤ (o3.1 0).toInt ∧ (o3.1 0).toInt ≤ 8 := k_o3.1 0
  have ey_o3_0 : (o3.1 0).toInt = (yo3.1 0).toInt := congrArg Int32.toInt (r_o3.1 0 rfl)
  have g_o3_1 : (0 : Int) ≤ (o3.1 1).toInt ∧ (o3.1 1).toInt ≤ 6 := k_o3.1 1
  have ey_o3_1 : (o3.1 1).toInt = (yo3.1 1).toInt := congrArg Int32.toInt (r_o3.1 1 rfl)
  have g_o3_3 : (0 : Int) ≤ (o3.1 3).toInt ∧ (o3.1 3).toInt ≤ 1 := k_o3.1 3
  have ey_o3_3 : (o3.1 3).toInt = (yo3.1 3).toInt := congrArg Int32.toInt (r_o3.1 3 rfl)
  have g_o4_0 : (16 : Int) ≤ (o4.1 0).toInt ∧ (o4.1 0).toInt ≤ 400000 := k_o4.1 0
  have g_o4_1 : (0 : Int) ≤ (o4.1 1).toInt ∧ (o4.1 1).toInt ≤ 0 := k_o4.1 1
  have ey_o4_1 : (o4.1 1).toInt = (yo4.1 1).toInt := congrArg Int32.toInt (r_o4.1 1 rfl)
  refine tt_if (fun c1 => ?_) (fun c1 => ?_)
  · have wc1 : (o3.1 1).toInt ≤ v4.toInt := c_le c1
    refine tt_b (sSc_close _ _ k_o1 k_o4 f_o4_3 (show (o4.1 3).toInt ≤ (o4.1 0).toInt by omega) (show (o4.1 3).toInt ≤ 89995 by omega)) (fun q2 hq2 => ?_)
    obtain ⟨k_q2_1, n_q2_1, f_q2_1_0, k_q2_2, n_q2_2, f_q2_2_3, zq2_0, zq2_1, -⟩ := hq2
    have r_q2_1 := fr_tr r_o1 n_q2_1 rfl rfl rfl
    have e_q2_1_1 : (q2.1.1 1).toInt = (o1.1 1).toInt := congrArg Int32.toInt (n_q2_1.1 1 rfl)
    have g_q2_1_1 : (0 : Int) ≤ (q2.1.1 1).toInt ∧ (q2.1.1 1).toInt ≤ 0 := k_q2_1.1 1
    have e_q2_1_3 : (q2.1.1 3).toInt = (o1.1 3).toInt := congrArg Int32.toInt (n_q2_1.1 3 rfl)
    have g_q2_1_3 : (0 : Int) ≤ (q2.1.1 3).toInt ∧ (q2.1.1 3).toInt ≤ 0 := k_q2_1.1 3
    have r_q2_2 := fr_tr r_o4 n_q2_2 rfl rfl rfl
    have g_q2_2_0 : (16 : Int) ≤ (q2.2.1 0).toInt ∧ (q2.2.1 0).toInt ≤ 400000 := k_q2_2.1 0
    have e_q2_2_1 : (q2.2.1 1).toInt = (o4.1 1).toInt := congrArg Int32.toInt (n_q2_2.1 1 rfl)
    have g_q2_2_1 : (0 : Int) ≤ (q2.2.1 1).toInt ∧ (q2.2.1 1).toInt ≤ 0 := k_q2_2.1 1
    have zq2_0 : (q2.2.1 3).toInt ≤ (o4.1 3).toInt + 5 := zq2_0
    have zq2_1 : (q2.2.1 3).toInt ≤ (q2.2.1 0).toInt := zq2_1
    try unfold fCv_writeTo_166
    exact tt_some ⟨k_q2_1, r_q2_1, f_q2_1_0, k_q2_2, r_q2_2, f_q2_2_3, (show (q2.2.1 3).toInt ≤ (q2.2.1 0).toInt by omega), trivial⟩
  · have wc1 : v4.toInt < (o3.1 1).toInt := c_nle c1
    have i3 : (0 : Int) ≤ v4.toInt ∧ v4.toInt ≤ 5 := nr_nlel c1 i_v4 (k_o3.1 1) (by decide) (by decide)
    have i4 : (1 : Int) ≤ (o3.1 1).toInt ∧ (o3.1 1).toInt ≤ 6 := nr_nler c1 i_v4 (k_o3.1 1) (by decide) (by decide)
    refine tt_n (ix_ok i3 (by decide) (by decide)) ?_
    refine tt_kv (P := fun z => ((0 : Int) ≤ z.toInt ∧ z.toInt ≤ 417) ∧ z.toInt = (o3.2.1 7 v4.toNatClampNeg).toInt) ⟨(k_o3.2 7 _), rfl⟩ (fun x5 qi6 => ?_)
    obtain ⟨i6, ei6⟩ := qi6
    refine tt_kv (P := fun z => (0 : Int) ≤ z.toInt ∧ z.toInt ≤ 417) (iv_andl i6 (by decide) (by decide) (by decide)) (fun x7 i8 => ?_)
    refine tt_kv (P := fun z => ((0 : Int) ≤ z.toInt ∧ z.toInt ≤ 1) ∧ z.toInt = x5.toInt % 2) ⟨iv_and (show (1 : Int) ≤ (1 : Int32).toInt ∧ (1 : Int32).toInt ≤ 1 by decide) (by decide) (by decide) (by decide), i_a1 (Int.le_trans (by decide) i6.1)⟩ (fun x9 qi10 => ?_)
    obtain ⟨i10, ei10⟩ := qi10
    refine tt_if (fun c11 => ?_) (fun c11 => ?_)
    · have wc11 : x9.toInt = (0 : Int) := c_eq c11
      have i12 : (0 : Int) ≤ x9.toInt ∧ x9.toInt ≤ 0 := nr_eql c11 i10 (show (0 : Int) ≤ (0 : Int32).toInt ∧ (0 : Int32).toInt ≤ 0 by decide) (by decide) (by decide)
      try unfold fCv_writeTo_153
      refine tt_b (sSc_writeResult _ _ _ _ _ _ k_o1 k_o2 k_o4 i3 i8 (iv_w (a := 0) (b := 1) (by decide) (by decide) (show (0 : Int) ≤ (0 : Int32).toInt ∧ (0 : Int32).toInt ≤ 0 by decide)) f_o4_3 (show (o4.1 3).toInt ≤ (o4.1 0).toInt by omega) (show (o4.1 3).toInt ≤ 89967 by omega)) (fun q13 hq13 => ?_)
      obtain ⟨k_q13, n_q13, f_q13_3, zq13_0, zq13_1, zq13_2, -⟩ := hq13
      have r_q13 := fr_tr r_o4 n_q13 rfl rfl rfl
      have g_q13_0 : (16 : Int) ≤ (q13.1 0).toInt ∧ (q13.1 0).toInt ≤ 400000 := k_q13.1 0
      have e_q13_1 : (q13.1 1).toInt = (o4.1 1).toInt := congrArg Int32.toInt (n_q13.1 1 rfl)
      have g_q13_1 : (0 : Int) ≤ (q13.1 1).toInt ∧ (q13.1 1).toInt ≤ 0 := k_q13.1 1
      have zq13_0 : (q13.1 3).toInt ≤ (o4.1 3).toInt + 33 := zq13_0
      have zq13_1 : (o4.1 3).toInt ≤ (q13.1 3).toInt := zq13_1
      have zq13_2 : (q13.1 3).toInt ≤ (q13.1 0).toInt := zq13_2
      try unfold fCv_writeTo_156
      refine tt_kv (P := fun z => ((1 : Int) ≤ z.toInt ∧ z.toInt ≤ 6) ∧ z.toInt = v4.toInt + 1) ⟨iv_add i3 (show (1 : Int) ≤ (1 : Int32).toInt ∧ (1 : Int32).toInt ≤ 1 by decide) (by decide) (by decide) (by decide) (by decide), iq_add i3 (show (1 : Int) ≤ (1 : Int32).toInt ∧ (1 : Int32).toInt ≤ 1 by decide) (by decide) (by decide)⟩ (fun x14 qi15 => ?_)
      obtain ⟨i15, ei15⟩ := qi15
      exact H.2.2 _ _ _ _ _ _ k_o0 r_o0 k_o1 r_o1 k_o2 r_o2 k_o3 r_o3 k_q13 r_q13 (iv_w (a := 0) (b := 6) (by decide) (by decide) i15) f_q13_3 (show (q13.1 3).toInt ≤ (q13.1 0).toInt by omega) (show (q13.1 3).toInt ≤ 68343 + 33 * x14.toInt by omega) (show 0 + (6 - x14.toInt) * 2 < (n : Int) by omega)
    · have wc11 : ¬ x9.toInt = (0 : Int) := c_ne c11
      have i16 : (1 : Int) ≤ x9.toInt ∧ x9.toInt ≤ 1 := nr_nela c11 i10 (show (0 : Int) ≤ (0 : Int32).toInt ∧ (0 : Int32).toInt ≤ 0 by decide) (by decide) (by decide)
      try unfold fCv_writeTo_153
      refine tt_b (sSc_writeResult _ _ _ _ _ _ k_o1 k_o2 k_o4 i3 i8 (iv_w (a := 0) (b := 1) (by decide) (by decide) (show (1 : Int) ≤ (1 : Int32).toInt ∧ (1 : Int32).toInt ≤ 1 by decide)) f_o4_3 (show (o4.1 3).toInt ≤ (o4.1 0).toInt by omega) (show (o4.1 3).toInt ≤ 89967 by omega)) (fun q17 hq17 => ?_)
      obtain ⟨k_q17, n_q17, f_q17_3, zq17_0, zq17_1, zq17_2, -⟩ := hq17
      have r_q17 := fr_tr r_o4 n_q17 rfl rfl rfl
      have g_q17_0 : (16 : Int) ≤ (q17.1 0).toInt ∧ (q17.1 0).toInt ≤ 400000 := k_q17.1 0
      have e_q17_1 : (q17.1 1).toInt = (o4.1 1).toInt := congrArg Int32.toInt (n_q17.1 1 rfl)
      have g_q17_1 : (0 : Int) ≤ (q17.1 1).toInt ∧ (q17.1 1).toInt ≤ 0 := k_q17.1 1
      have zq17_0 : (q17.1 3).toInt ≤ (o4.1 3).toInt + 33 := zq17_0
      have zq17_1 : (o4.1 3).toInt ≤ (q17.1 3).toInt := zq17_1
      have zq17_2 : (q17.1 3).toInt ≤ (q17.1 0).toInt := zq17_2
      try unfold fCv_writeTo_156
      refine tt_kv (P := fun z => ((1 : Int) ≤ z.toInt ∧ z.toInt ≤ 6) ∧ z.toInt = v4.toInt + 1) ⟨iv_add i3 (show (1 : Int) ≤ (1 : Int32).toInt ∧ (1 : Int32).toInt ≤ 1 by decide) (by decide) (by decide) (by decide) (by decide), iq_add i3 (show (1 : Int) ≤ (1 : Int32).toInt ∧ (1 : Int32).toInt ≤ 1 by decide) (by decide) (by decide)⟩ (fun x18 qi19 => ?_)
      obtain ⟨i19, ei19⟩ := qi19
      exact H.2.2 _ _ _ _ _ _ k_o0 r_o0 k_o1 r_o1 k_o2 r_o2 k_o3 r_o3 k_q17 r_q17 (iv_w (a := 0) (b := 6) (by decide) (by decide) i19) f_q17_3 (show (q17.1 3).toInt ≤ (q17.1 0).toInt by omega) (show (q17.1 3).toInt ≤ 68343 + 33 * x18.toInt by omega) (show 0 + (6 - x18.toInt) * 2 < (n : Int) by omega)
set_option maxHeartbeats 4000000 in
set_option maxRecDepth 100000 in
theorem tCv_writeTo_41 {yo0 : cf_O} {yo1 : cf_O} {yo2 : cf_O} {yo3 : cf_O} {yo4 : cf_O} {n : Nat} (H : HCv_writeTo yo0 yo1 yo2 yo3 yo4 n) (v4 : Int32) (v5 : Int32) (v6 : Int32) (o0 : cf_O) (o1 : cf_O) (o2 : cf_O) (o3 : cf_O) (o4 : cf_O) (k_o0 : okO I_Cv o0) (r_o0 : Fr (fr_M [] [] []) yo0 o0) (k_o1 : okO I_Sc o1) (r_o1 : Fr (fr_M [0] [] []) yo1 o1) (k_o2 : okO I_Nl o2) (r_o2 : Fr (fr_M [] [] []) yo2 o2) (k_o3 : okO I_Gr o3) (r_o3 : Fr (fr_M [] [] []) yo3 o3) (k_o4 : okO I_SB o4) (r_o4 : Fr (fr_M [0, 2, 3] [0] []) yo4 o4) (i_v4 : (0 : Int) ≤ v4.toInt ∧ v4.toInt ≤ 199) (i_v5 : (0 : Int) ≤ v5.toInt ∧ v5.toInt ≤ 8) (i_v6 : (0 : Int) ≤ v6.toInt ∧ v6.toInt ≤ 8) (f_o0_0 : (1 : Int) ≤ (o0.1 0).toInt ∧ (o0.1 0).toInt ≤ 200) (f_o4_3 : (8 : Int) ≤ (o4.1 3).toInt ∧ (o4.1 3).toInt ≤ 90000) (x_0 : Ctk (o0.1 0).toInt (o0.2.1 2) (o0.2.2 5)) (x_1 : (o4.1 3).toInt ≤ (o4.1 0).toInt) (x_2 : (o4.1 3).toInt ≤ 149 + 341 * v4.toInt + 13 * v6.toInt) (x_3 : 0 ≤ v4.toInt) (x_4 : v4.toInt < (o0.1 0).toInt) (x_5 : 0 ≤ v6.toInt) (x_6 : v6.toInt ≤ v5.toInt) (x_7 : v5.toInt ≤ 5) (hm : 14 + (200 - v4.toInt - 1) * 20 + 1 + (8 - v6.toInt) * 2 ≤ (n : Int)) : tt (fCv_writeTo_41 (gCv_writeTo n) v4 v5 v6 o0 o1 o2 o3 o4) (QCv_writeTo yo0 yo1 yo2 yo3 yo4) := by
  unfold fCv_writeTo_41
  have ey_o0_0 : (o0.1 0).toInt = (yo0.1 0).toInt := congrArg Int32.toInt (r_o0.1 0 rfl)
  have g_o0_1 : ((-2147483648) : Int) ≤ (o0.1 1).toInt ∧ (o0.1 1).toInt ≤ 2147483647 := k_o0.1 1
  have ey_o0_1 : (o0.1 1).toInt = (yo0.1 1).toInt := congrArg Int32.toInt (r_o0.1 1 rfl)
  have g_o0_3 : (0 : Int) ≤ (o0.1 3).toInt ∧ (o0.1 3).toInt ≤ 0 := k_o0.1 3
  have ey_o0_3 : (o0.1 3).toInt = (yo0.1 3).toInt := congrArg Int32.toInt (r_o0.1 3 rfl)
  have g_o1_0 : (0 : Int) ≤ (o1.1 0).toInt ∧ (o1.1 0).toInt ≤ 1 := k_o1.1 0
  have g_o1_1 : (0 : Int) ≤ (o1.1 1).toInt ∧ (o1.1 1).toInt ≤ 0 := k_o1.1 1
  have ey_o1_1 : (o1.1 1).toInt = (yo1.1 1).toInt := congrArg Int32.toInt (r_o1.1 1 rfl)
  have g_o1_3 : (0 : Int) ≤ (o1.1 3).toInt ∧ (o1.1 3).toInt ≤ 0 := k_o1.1 3
  have ey_o1_3 : (o1.1 3).toInt = (yo1.1 3).toInt := congrArg Int32.toInt (r_o1.1 3 rfl)
  have g_o2_0 : (0 : Int) ≤ (o2.1 0).toInt ∧ (o2.1 0).toInt ≤ 8 := k_o2.1 0
  have ey_o2_0 : (o2.1 0).toInt = (yo2.1 0).toInt := congrArg Int32.toInt (r_o2.1 0 rfl)
  have g_o2_1 : (0 : Int) ≤ (o2.1 1).toInt ∧ (o2.1 1).toInt ≤ 6 := k_o2.1 1
  have ey_o2_1 : (o2.1 1).toInt = (yo2.1 1).toInt := congrArg Int32.toInt (r_o2.1 1 rfl)
  have g_o2_3 : (0 : Int) ≤ (o2.1 3).toInt ∧ (o2.1 3).toInt ≤ 0 := k_o2.1 3
  have ey_o2_3 : (o2.1 3).toInt = (yo2.1 3).toInt := congrArg Int32.toInt (r_o2.1 3 rfl)
  have g_o3_0 : (0 : Int) ≤ (o3.1 0).toInt ∧ (o3.1 0).toInt ≤ 8 := k_o3.1 0
  have ey_o3_0 : (o3.1 0).toInt = (yo3.1 0).toInt := congrArg Int32.toInt (r_o3.1 0 rfl)
  have g_o3_1 : (0 : Int) ≤ (o3.1 1).toInt ∧ (o3.1 1).toInt ≤ 6 := k_o3.1 1
  have ey_o3_1 : (o3.1 1).toInt = (yo3.1 1).toInt := congrArg Int32.toInt (r_o3.1 1 rfl)
  have g_o3_3 : (0 : Int) ≤ (o3.1 3).toInt ∧ (o3.1 3).toInt ≤ 1 := k_o3.1 3
  have ey_o3_3 : (o3.1 3).toInt = (yo3.1 3).toInt := congrArg Int32.toInt (r_o3.1 3 rfl)
  have g_o4_0 : (16 : Int) ≤ (o4.1 0).toInt ∧ (o4.1 0).toInt ≤ 400000 := k_o4.1 0
  have g_o4_1 : (0 : Int) ≤ (o4.1 1).toInt ∧ (o4.1 1).toInt ≤ 0 := k_o4.1 1
  have ey_o4_1 : (o4.1 1).toInt = (yo4.1 1).toInt := congrArg Int32.toInt (r_o4.1 1 rfl)
  refine tt_if (fun c1 => ?_) (fun c1 => ?_)
  · have wc1 : v5.toInt ≤ v6.toInt := c_le c1
    refine tt_n (ix_ok i_v4 (by decide) (by decide)) ?_
    refine tt_kv (P := fun z => ((0 : Int) ≤ z.toInt ∧ z.toInt ≤ 208) ∧ z.toInt = (o0.2.1 2 v4.toNatClampNeg).toInt) ⟨(k_o0.2 2 _), rfl⟩ (fun x2 qi3 => ?_)
    obtain ⟨i3, ei3⟩ := qi3
    refine tt_b (sSc_writeNode _ _ _ _ k_o1 k_o2 k_o4 (iv_w (a := 0) (b := 255) (by decide) (by decide) i3) f_o4_3 (show (o4.1 3).toInt ≤ (o4.1 0).toInt by omega) (show (o4.1 3).toInt ≤ 89987 by omega)) (fun q4 hq4 => ?_)
    obtain ⟨k_q4, n_q4, f_q4_3, zq4_0, zq4_1, zq4_2, -⟩ := hq4
    have r_q4 := fr_tr r_o4 n_q4 rfl rfl rfl
    have g_q4_0 : (16 : Int) ≤ (q4.1 0).toInt ∧ (q4.1 0).toInt ≤ 400000 := k_q4.1 0
    have e_q4_1 : (q4.1 1).toInt = (o4.1 1).toInt := congrArg Int32.toInt (n_q4.1 1 rfl)
    have g_q4_1 : (0 : Int) ≤ (q4.1 1).toInt ∧ (q4.1 1).toInt ≤ 0 := k_q4.1 1
    have zq4_0 : (q4.1 3).toInt ≤ (o4.1 3).toInt + 13 := zq4_0
    have zq4_1 : (o4.1 3).toInt ≤ (q4.1 3).toInt := zq4_1
    have zq4_2 : (q4.1 3).toInt ≤ (q4.1 0).toInt := zq4_2
    try unfold fCv_writeTo_82
    refine tt_b (sSB_appendC _ _ k_q4 (iv_w (a := 0) (b := 255) (by decide) (by decide) (show (10 : Int) ≤ (10 : Int32).toInt ∧ (10 : Int32).toInt ≤ 10 by decide)) (iv_w (a := 7) (b := 90000) (by decide) (by decide) f_q4_3) (show (q4.1 3).toInt ≤ (q4.1 0).toInt by omega) (show (q4.1 3).toInt ≤ 89999 by omega)) (fun q5 hq5 => ?_)
    obtain ⟨k_q5, n_q5, f_q5_3, zq5_0, zq5_1, zq5_2, -⟩ := hq5
    have r_q5 := fr_tr r_q4 n_q5 rfl rfl rfl
    have g_q5_0 : (16 : Int) ≤ (q5.1 0).toInt ∧ (q5.1 0).toInt ≤ 400000 := k_q5.1 0
    have e_q5_1 : (q5.1 1).toInt = (q4.1 1).toInt := congrArg Int32.toInt (n_q5.1 1 rfl)
    have g_q5_1 : (0 : Int) ≤ (q5.1 1).toInt ∧ (q5.1 1).toInt ≤ 0 := k_q5.1 1
    have zq5_0 : (q5.1 3).toInt = (q4.1 3).toInt + 1 := zq5_0
    have zq5_1 : (q4.1 3).toInt ≤ (q5.1 3).toInt := zq5_1
    have zq5_2 : (q5.1 3).toInt ≤ (q5.1 0).toInt := zq5_2
    try unfold fCv_writeTo_91
    refine tt_n (ix_ok i_v4 (by decide) (by decide)) ?_
    refine tt_kv (P := fun z => (((-2147483648) : Int) ≤ z.toInt ∧ z.toInt ≤ 2147483647) ∧ z.toInt = (o0.2.1 3 v4.toNatClampNeg).toInt) ⟨(k_o0.2 3 _), rfl⟩ (fun x6 qi7 => ?_)
    obtain ⟨i7, ei7⟩ := qi7
    refine tt_b (sCv_writeRows _ _ _ _ k_o1 k_q5 (show (0 : Int) ≤ _ ∧ _ ≤ (5 : Int) by omega) f_q5_3 (show (q5.1 3).toInt ≤ (q5.1 0).toInt by omega) (show (q5.1 3).toInt ≤ 89744 by omega)) (fun q8 hq8 => ?_)
    obtain ⟨k_q8, n_q8, f_q8_3, zq8_0, zq8_1, zq8_2, -⟩ := hq8
    have r_q8 := fr_tr r_q5 n_q8 rfl rfl rfl
    have g_q8_0 : (16 : Int) ≤ (q8.1 0).toInt ∧ (q8.1 0).toInt ≤ 400000 := k_q8.1 0
    have e_q8_1 : (q8.1 1).toInt = (q5.1 1).toInt := congrArg Int32.toInt (n_q8.1 1 rfl)
    have g_q8_1 : (0 : Int) ≤ (q8.1 1).toInt ∧ (q8.1 1).toInt ≤ 0 := k_q8.1 1
    have zq8_0 : (q8.1 3).toInt ≤ (q5.1 3).toInt + 256 := zq8_0
    have zq8_1 : (q5.1 3).toInt ≤ (q8.1 3).toInt := zq8_1
    have zq8_2 : (q8.1 3).toInt ≤ (q8.1 0).toInt := zq8_2
    try unfold fCv_writeTo_105
    refine tt_kv (P := fun z => ((1 : Int) ≤ z.toInt ∧ z.toInt ≤ 200) ∧ z.toInt = v4.toInt + 1) ⟨iv_add i_v4 (show (1 : Int) ≤ (1 : Int32).toInt ∧ (1 : Int32).toInt ≤ 1 by decide) (by decide) (by decide) (by decide) (by decide), iq_add i_v4 (show (1 : Int) ≤ (1 : Int32).toInt ∧ (1 : Int32).toInt ≤ 1 by decide) (by decide) (by decide)⟩ (fun x9 qi10 => ?_)
    obtain ⟨i10, ei10⟩ := qi10
    exact H.1 _ _ _ _ _ _ k_o0 r_o0 k_o1 r_o1 k_o2 r_o2 k_o3 r_o3 k_q8 r_q8 (iv_w (a := 0) (b := 200) (by decide) (by decide) i10) f_q8_3 x_0 (show (q8.1 3).toInt ≤ (q8.1 0).toInt by omega) (show (q8.1 3).toInt ≤ 143 + 341 * x9.toInt by omega) (show 0 ≤ x9.toInt by omega) (show x9.toInt ≤ (o0.1 0).toInt by omega) (show 14 + (200 - x9.toInt) * 20 < (n : Int) by omega)
  · have wc1 : v6.toInt < v5.toInt := c_nle c1
    have i11 : (0 : Int) ≤ v6.toInt ∧ v6.toInt ≤ 7 := nr_nlel c1 i_v6 i_v5 (by decide) (by decide)
    have i12 : (1 : Int) ≤ v5.toInt ∧ v5.toInt ≤ 8 := nr_nler c1 i_v6 i_v5 (by decide) (by decide)
    refine tt_b (sCv_cutOf _ _ k_o0 i_v4 f_o0_0) (fun q13 hq13 => ?_)
    obtain ⟨zq13_0, -⟩ := hq13
    try unfold fCv_writeTo_56
    refine tt_b (sCu_nodeAt _ _ i11) (fun q14 hq14 => ?_)
    obtain ⟨i_q14, -⟩ := hq14
    try unfold fCv_writeTo_61
    refine tt_b (sSc_writeNode _ _ _ _ k_o1 k_o2 k_o4 i_q14 f_o4_3 (show (o4.1 3).toInt ≤ (o4.1 0).toInt by omega) (show (o4.1 3).toInt ≤ 89987 by omega)) (fun q15 hq15 => ?_)
    obtain ⟨k_q15, n_q15, f_q15_3, zq15_0, zq15_1, zq15_2, -⟩ := hq15
    have r_q15 := fr_tr r_o4 n_q15 rfl rfl rfl
    have g_q15_0 : (16 : Int) ≤ (q15.1 0).toInt ∧ (q15.1 0).toInt ≤ 400000 := k_q15.1 0
    have e_q15_1 : (q15.1 1).toInt = (o4.1 1).toInt := congrArg Int32.toInt (n_q15.1 1 rfl)
    have g_q15_1 : (0 : Int) ≤ (q15.1 1).toInt ∧ (q15.1 1).toInt ≤ 0 := k_q15.1 1
    have zq15_0 : (q15.1 3).toInt ≤ (o4.1 3).toInt + 13 := zq15_0
    have zq15_1 : (o4.1 3).toInt ≤ (q15.1 3).toInt := zq15_1
    have zq15_2 : (q15.1 3).toInt ≤ (q15.1 0).toInt := zq15_2
    try unfold fCv_writeTo_64
    refine tt_kv (P := fun z => ((1 : Int) ≤ z.toInt ∧ z.toInt ≤ 8) ∧ z.toInt = v6.toInt + 1) ⟨iv_add i11 (show (1 : Int) ≤ (1 : Int32).toInt ∧ (1 : Int32).toInt ≤ 1 by decide) (by decide) (by decide) (by decide) (by decide), iq_add i11 (show (1 : Int) ≤ (1 : Int32).toInt ∧ (1 : Int32).toInt ≤ 1 by decide) (by decide) (by decide)⟩ (fun x16 qi17 => ?_)
    obtain ⟨i17, ei17⟩ := qi17
    exact H.2.1 _ _ _ _ _ _ _ _ k_o0 r_o0 k_o1 r_o1 k_o2 r_o2 k_o3 r_o3 k_q15 r_q15 i_v4 (iv_w (a := 0) (b := 8) (by decide) (by decide) i12) (iv_w (a := 0) (b := 8) (by decide) (by decide) i17) f_o0_0 f_q15_3 x_0 (show (q15.1 3).toInt ≤ (q15.1 0).toInt by omega) (show (q15.1 3).toInt ≤ 149 + 341 * v4.toInt + 13 * x16.toInt by omega) (show 0 ≤ v4.toInt by omega) (show v4.toInt < (o0.1 0).toInt by omega) (show 0 ≤ x16.toInt by omega) (show x16.toInt ≤ v5.toInt by omega) (show v5.toInt ≤ 5 by omega) (show 14 + (200 - v4.toInt - 1) * 20 + 1 + (8 - x16.toInt) * 2 < (n : Int) by omega)
set_option maxHeartbeats 4000000 in
set_option maxRecDepth 100000 in
theorem tCv_writeTo_8 {yo0 : cf_O} {yo1 : cf_O} {yo2 : cf_O} {yo3 : cf_O} {yo4 : cf_O} {n : Nat} (H : HCv_writeTo yo0 yo1 yo2 yo3 yo4 n) (v4 : Int32) (o0 : cf_O) (o1 : cf_O) (o2 : cf_O) (o3 : cf_O) (o4 : cf_O) (k_o0 : okO I_Cv o0) (r_o0 : Fr (fr_M [] [] []) yo0 o0) (k_o1 : okO I_Sc o1) (r_o1 : Fr (fr_M [0] [] []) yo1 o1) (k_o2 : okO I_Nl o2) (r_o2 : Fr (fr_M [] [] []) yo2 o2) (k_o3 : okO I_Gr o3) (r_o3 : Fr (fr_M [] [] []) yo3 o3) (k_o4 : okO I_SB o4) (r_o4 : Fr (fr_M [0, 2, 3] [0] []) yo4 o4) (i_v4 : (0 : Int) ≤ v4.toInt ∧ v4.toInt ≤ 200) (f_o4_3 : (8 : Int) ≤ (o4.1 3).toInt ∧ (o4.1 3).toInt ≤ 90000) (x_0 : Ctk (o0.1 0).toInt (o0.2.1 2) (o0.2.2 5)) (x_1 : (o4.1 3).toInt ≤ (o4.1 0).toInt) (x_2 : (o4.1 3).toInt ≤ 143 + 341 * v4.toInt) (x_3 : 0 ≤ v4.toInt) (x_4 : v4.toInt ≤ (o0.1 0).toInt) (hm : 14 + (200 - v4.toInt) * 20 ≤ (n : Int)) : tt (fCv_writeTo_8 (gCv_writeTo n) v4 o0 o1 o2 o3 o4) (QCv_writeTo yo0 yo1 yo2 yo3 yo4) := by
  unfold fCv_writeTo_8
  have g_o0_0 : (0 : Int) ≤ (o0.1 0).toInt ∧ (o0.1 0).toInt ≤ 200 := k_o0.1 0
  have ey_o0_0 : (o0.1 0).toInt = (yo0.1 0).toInt := congrArg Int32.toInt (r_o0.1 0 rfl)
  have g_o0_1 : ((-2147483648) : Int) ≤ (o0.1 1).toInt ∧ (o0.1 1).toInt ≤ 2147483647 := k_o0.1 1
  have ey_o0_1 : (o0.1 1).toInt = (yo0.1 1).toInt := congrArg Int32.toInt (r_o0.1 1 rfl)
  have g_o0_3 : (0 : Int) ≤ (o0.1 3).toInt ∧ (o0.1 3).toInt ≤ 0 := k_o0.1 3
  have ey_o0_3 : (o0.1 3).toInt = (yo0.1 3).toInt := congrArg Int32.toInt (r_o0.1 3 rfl)
  have g_o1_0 : (0 : Int) ≤ (o1.1 0).toInt ∧ (o1.1 0).toInt ≤ 1 := k_o1.1 0
  have g_o1_1 : (0 : Int) ≤ (o1.1 1).toInt ∧ (o1.1 1).toInt ≤ 0 := k_o1.1 1
  have ey_o1_1 : (o1.1 1).toInt = (yo1.1 1).toInt := congrArg Int32.toInt (r_o1.1 1 rfl)
  have g_o1_3 : (0 : Int) ≤ (o1.1 3).toInt ∧ (o1.1 3).toInt ≤ 0 := k_o1.1 3
  have ey_o1_3 : (o1.1 3).toInt = (yo1.1 3).toInt := congrArg Int32.toInt (r_o1.1 3 rfl)
  have g_o2_0 : (0 : Int) ≤ (o2.1 0).toInt ∧ (o2.1 0).toInt ≤ 8 := k_o2.1 0
  have ey_o2_0 : (o2.1 0).toInt = (yo2.1 0).toInt := congrArg Int32.toInt (r_o2.1 0 rfl)
  have g_o2_1 : (0 : Int) ≤ (o2.1 1).toInt ∧ (o2.1 1).toInt ≤ 6 := k_o2.1 1
  have ey_o2_1 : (o2.1 1).toInt = (yo2.1 1).toInt := congrArg Int32.toInt (r_o2.1 1 rfl)
  have g_o2_3 : (0 : Int) ≤ (o2.1 3).toInt ∧ (o2.1 3).toInt ≤ 0 := k_o2.1 3
  have ey_o2_3 : (o2.1 3).toInt = (yo2.1 3).toInt := congrArg Int32.toInt (r_o2.1 3 rfl)
  have g_o3_0 : (0 : Int) ≤ (o3.1 0).toInt ∧ (o3.1 0).toInt ≤ 8 := k_o3.1 0
  have ey_o3_0 : (o3.1 0).toInt = (yo3.1 0).toInt := congrArg Int32.toInt (r_o3.1 0 rfl)
  have g_o3_1 : (0 : Int) ≤ (o3.1 1).toInt ∧ (o3.1 1).toInt ≤ 6 := k_o3.1 1
  have ey_o3_1 : (o3.1 1).toInt = (yo3.1 1).toInt := congrArg Int32.toInt (r_o3.1 1 rfl)
  have g_o3_3 : (0 : Int) ≤ (o3.1 3).toInt ∧ (o3.1 3).toInt ≤ 1 := k_o3.1 3
  have ey_o3_3 : (o3.1 3).toInt = (yo3.1 3).toInt := congrArg Int32.toInt (r_o3.1 3 rfl)
  have g_o4_0 : (16 : Int) ≤ (o4.1 0).toInt ∧ (o4.1 0).toInt ≤ 400000 := k_o4.1 0
  have g_o4_1 : (0 : Int) ≤ (o4.1 1).toInt ∧ (o4.1 1).toInt ≤ 0 := k_o4.1 1
  have ey_o4_1 : (o4.1 1).toInt = (yo4.1 1).toInt := congrArg Int32.toInt (r_o4.1 1 rfl)
  refine tt_if (fun c1 => ?_) (fun c1 => ?_)
  · have wc1 : (o0.1 0).toInt ≤ v4.toInt := c_le c1
    exact H.2.2 _ _ _ _ _ _ k_o0 r_o0 k_o1 r_o1 k_o2 r_o2 k_o3 r_o3 k_o4 r_o4 (iv_w (a := 0) (b := 6) (by decide) (by decide) (show (0 : Int) ≤ (0 : Int32).toInt ∧ (0 : Int32).toInt ≤ 0 by decide)) f_o4_3 (show (o4.1 3).toInt ≤ (o4.1 0).toInt by omega) (show (o4.1 3).toInt ≤ 68343 + 33 * 0 by omega) (show 0 + (6 - 0) * 2 < (n : Int) by omega)
  · have wc1 : v4.toInt < (o0.1 0).toInt := c_nle c1
    have i2 : (0 : Int) ≤ v4.toInt ∧ v4.toInt ≤ 199 := nr_nlel c1 i_v4 (k_o0.1 0) (by decide) (by decide)
    have i3 : (1 : Int) ≤ (o0.1 0).toInt ∧ (o0.1 0).toInt ≤ 200 := nr_nler c1 i_v4 (k_o0.1 0) (by decide) (by decide)
    refine tt_b (sCv_cutOf _ _ k_o0 i2 i3) (fun q4 hq4 => ?_)
    obtain ⟨zq4_0, -⟩ := hq4
    try unfold fCv_writeTo_23
    refine tt_b (sCu_sizeOf _ ) (fun q5 hq5 => ?_)
    obtain ⟨i_q5, zq5_0, zq5_1, -⟩ := hq5
    have t6 := S5_e (show S5 q5.toInt _ by assumption) (Ctq_e (show Ctq _ _ _ _ _ by assumption) x_0 (by omega) (by omega))
    try unfold fCv_writeTo_26
    refine tt_b (sSB_appendS_S8 _ k_o4 f_o4_3 (show (o4.1 3).toInt ≤ (o4.1 0).toInt by omega) (show (o4.1 3).toInt ≤ 89994 by omega)) (fun q7 hq7 => ?_)
    obtain ⟨k_q7, n_q7, f_q7_3, zq7_0, zq7_1, zq7_2, -⟩ := hq7
    have r_q7 := fr_tr r_o4 n_q7 rfl rfl rfl
    have g_q7_0 : (16 : Int) ≤ (q7.1 0).toInt ∧ (q7.1 0).toInt ≤ 400000 := k_q7.1 0
    have e_q7_1 : (q7.1 1).toInt = (o4.1 1).toInt := congrArg Int32.toInt (n_q7.1 1 rfl)
    have g_q7_1 : (0 : Int) ≤ (q7.1 1).toInt ∧ (q7.1 1).toInt ≤ 0 := k_q7.1 1
    have zq7_0 : (q7.1 3).toInt = (o4.1 3).toInt + 6 := zq7_0
    have zq7_1 : (o4.1 3).toInt ≤ (q7.1 3).toInt := zq7_1
    have zq7_2 : (q7.1 3).toInt ≤ (q7.1 0).toInt := zq7_2
    try unfold fCv_writeTo_37
    exact H.2.1 _ _ _ _ _ _ _ _ k_o0 r_o0 k_o1 r_o1 k_o2 r_o2 k_o3 r_o3 k_q7 r_q7 i2 i_q5 (iv_w (a := 0) (b := 8) (by decide) (by decide) (show (0 : Int) ≤ (0 : Int32).toInt ∧ (0 : Int32).toInt ≤ 0 by decide)) i3 (iv_w (a := 8) (b := 90000) (by decide) (by decide) f_q7_3) x_0 (show (q7.1 3).toInt ≤ (q7.1 0).toInt by omega) (show (q7.1 3).toInt ≤ 149 + 341 * v4.toInt + 13 * 0 by omega) (show 0 ≤ v4.toInt by omega) (show v4.toInt < (o0.1 0).toInt by omega) (show 0 ≤ 0 by omega) (show 0 ≤ q5.toInt by omega) (show q5.toInt ≤ 5 by omega) (show 14 + (200 - v4.toInt - 1) * 20 + 1 + (8 - 0) * 2 < (n : Int) by omega)
set_option maxHeartbeats 4000000 in
set_option maxRecDepth 100000 in
theorem hCv_writeTo (yo0 : cf_O) (yo1 : cf_O) (yo2 : cf_O) (yo3 : cf_O) (yo4 : cf_O) : ∀ n, HCv_writeTo yo0 yo1 yo2 yo3 yo4 n := by
  intro n
  induction n with
  | zero => exact ⟨(fun v4 o0 o1 o2 o3 o4 k_o0 r_o0 k_o1 r_o1 k_o2 r_o2 k_o3 r_o3 k_o4 r_o4 i_v4 f_o4_3 x_0 x_1 x_2 x_3 x_4 hm => by exact absurd (show 14 + (200 - v4.toInt) * 20 < (0 : Int) from hm) (by omega)), (fun v4 v5 v6 o0 o1 o2 o3 o4 k_o0 r_o0 k_o1 r_o1 k_o2 r_o2 k_o3 r_o3 k_o4 r_o4 i_v4 i_v5 i_v6 f_o0_0 f_o4_3 x_0 x_1 x_2 x_3 x_4 x_5 x_6 x_7 hm => by exact absurd (show 14 + (200 - v4.toInt - 1) * 20 + 1 + (8 - v6.toInt) * 2 < (0 : Int) from hm) (by omega)), (fun v4 o0 o1 o2 o3 o4 k_o0 r_o0 k_o1 r_o1 k_o2 r_o2 k_o3 r_o3 k_o4 r_o4 i_v4 f_o4_3 x_0 x_1 hm => by exact absurd (show 0 + (6 - v4.toInt) * 2 < (0 : Int) from hm) (by omega))⟩
  | succ n ih => exact ⟨(fun v4 o0 o1 o2 o3 o4 k_o0 r_o0 k_o1 r_o1 k_o2 r_o2 k_o3 r_o3 k_o4 r_o4 i_v4 f_o4_3 x_0 x_1 x_2 x_3 x_4 hm => tCv_writeTo_8 ih v4 o0 o1 o2 o3 o4 k_o0 r_o0 k_o1 r_o1 k_o2 r_o2 k_o3 r_o3 k_o4 r_o4 i_v4 f_o4_3 x_0 x_1 x_2 x_3 x_4 (by omega)), (fun v4 v5 v6 o0 o1 o2 o3 o4 k_o0 r_o0 k_o1 r_o1 k_o2 r_o2 k_o3 r_o3 k_o4 r_o4 i_v4 i_v5 i_v6 f_o0_0 f_o4_3 x_0 x_1 x_2 x_3 x_4 x_5 x_6 x_7 hm => tCv_writeTo_41 ih v4 v5 v6 o0 o1 o2 o3 o4 k_o0 r_o0 k_o1 r_o1 k_o2 r_o2 k_o3 r_o3 k_o4 r_o4 i_v4 i_v5 i_v6 f_o0_0 f_o4_3 x_0 x_1 x_2 x_3 x_4 x_5 x_6 x_7 (by omega)), (fun v4 o0 o1 o2 o3 o4 k_o0 r_o0 k_o1 r_o1 k_o2 r_o2 k_o3 r_o3 k_o4 r_o4 i_v4 f_o4_3 x_0 x_1 hm => tCv_writeTo_114 ih v4 o0 o1 o2 o3 o4 k_o0 r_o0 k_o1 r_o1 k_o2 r_o2 k_o3 r_o3 k_o4 r_o4 i_v4 f_o4_3 x_0 x_1 (by omega))⟩
set_option maxHeartbeats 4000000 in
set_option maxRecDepth 100000 in
theorem sCv_writeTo (o0 : cf_O) (o1 : cf_O) (o2 : cf_O) (o3 : cf_O) (o4 : cf_O) (k_o0 : okO I_Cv o0) (k_o1 : okO I_Sc o1) (k_o2 : okO I_Nl o2) (k_o3 : okO I_Gr o3) (k_o4 : okO I_SB o4) (f_o1_0 : (0 : Int) ≤ (o1.1 0).toInt ∧ (o1.1 0).toInt ≤ 0) (x_0 : Ctk (o0.1 0).toInt (o0.2.1 2) (o0.2.2 5)) (x_1 : (o4.1 3).toInt ≤ (o4.1 0).toInt) : tt (fCv_writeTo o0 o1 o2 o3 o4) (QCv_writeTo o0 o1 o2 o3 o4) := by
  have H := hCv_writeTo o0 o1 o2 o3 o4 cfFU
  have hm : (4017 : Int) ≤ (cfFU : Nat) := by decide
  have r_o0 : Fr (fr_M [] [] []) o0 o0 := fr_rfl
  have r_o1 : Fr (fr_M [0] [] []) o1 o1 := fr_rfl
  have r_o2 : Fr (fr_M [] [] []) o2 o2 := fr_rfl
  have r_o3 : Fr (fr_M [] [] []) o3 o3 := fr_rfl
  have r_o4 : Fr (fr_M [0, 2, 3] [0] []) o4 o4 := fr_rfl
  unfold fCv_writeTo fCv_writeTo_0
  have g_o0_0 : (0 : Int) ≤ (o0.1 0).toInt ∧ (o0.1 0).toInt ≤ 200 := k_o0.1 0
  have g_o0_1 : ((-2147483648) : Int) ≤ (o0.1 1).toInt ∧ (o0.1 1).toInt ≤ 2147483647 := k_o0.1 1
  have g_o0_3 : (0 : Int) ≤ (o0.1 3).toInt ∧ (o0.1 3).toInt ≤ 0 := k_o0.1 3
  have g_o1_1 : (0 : Int) ≤ (o1.1 1).toInt ∧ (o1.1 1).toInt ≤ 0 := k_o1.1 1
  have g_o1_3 : (0 : Int) ≤ (o1.1 3).toInt ∧ (o1.1 3).toInt ≤ 0 := k_o1.1 3
  have g_o2_0 : (0 : Int) ≤ (o2.1 0).toInt ∧ (o2.1 0).toInt ≤ 8 := k_o2.1 0
  have g_o2_1 : (0 : Int) ≤ (o2.1 1).toInt ∧ (o2.1 1).toInt ≤ 6 := k_o2.1 1
  have g_o2_3 : (0 : Int) ≤ (o2.1 3).toInt ∧ (o2.1 3).toInt ≤ 0 := k_o2.1 3
  have g_o3_0 : (0 : Int) ≤ (o3.1 0).toInt ∧ (o3.1 0).toInt ≤ 8 := k_o3.1 0
  have g_o3_1 : (0 : Int) ≤ (o3.1 1).toInt ∧ (o3.1 1).toInt ≤ 6 := k_o3.1 1
  have g_o3_3 : (0 : Int) ≤ (o3.1 3).toInt ∧ (o3.1 3).toInt ≤ 1 := k_o3.1 3
  have g_o4_0 : (16 : Int) ≤ (o4.1 0).toInt ∧ (o4.1 0).toInt ≤ 400000 := k_o4.1 0
  have g_o4_1 : (0 : Int) ≤ (o4.1 1).toInt ∧ (o4.1 1).toInt ≤ 0 := k_o4.1 1
  have g_o4_3 : (0 : Int) ≤ (o4.1 3).toInt ∧ (o4.1 3).toInt ≤ 90000 := k_o4.1 3
  refine tt_b (sSc_writeHead _ _ _ k_o1 k_o2 k_o4 f_o1_0 (show (o4.1 3).toInt ≤ (o4.1 0).toInt by omega)) (fun q1 hq1 => ?_)
  obtain ⟨k_q1, n_q1, f_q1_3, zq1_0, zq1_1, -⟩ := hq1
  have r_q1 := fr_tr r_o4 n_q1 rfl rfl rfl
  have g_q1_0 : (16 : Int) ≤ (q1.1 0).toInt ∧ (q1.1 0).toInt ≤ 400000 := k_q1.1 0
  have e_q1_1 : (q1.1 1).toInt = (o4.1 1).toInt := congrArg Int32.toInt (n_q1.1 1 rfl)
  have g_q1_1 : (0 : Int) ≤ (q1.1 1).toInt ∧ (q1.1 1).toInt ≤ 0 := k_q1.1 1
  have zq1_0 : (q1.1 3).toInt ≤ 143 := zq1_0
  have zq1_1 : (q1.1 3).toInt ≤ (q1.1 0).toInt := zq1_1
  try unfold fCv_writeTo_5
  exact H.1 _ _ _ _ _ _ k_o0 r_o0 k_o1 r_o1 k_o2 r_o2 k_o3 r_o3 k_q1 r_q1 (iv_w (a := 0) (b := 200) (by decide) (by decide) (show (0 : Int) ≤ (0 : Int32).toInt ∧ (0 : Int32).toInt ≤ 0 by decide)) f_q1_3 x_0 (show (q1.1 3).toInt ≤ (q1.1 0).toInt by omega) (show (q1.1 3).toInt ≤ 143 + 341 * 0 by omega) (show 0 ≤ 0 by omega) (show 0 ≤ (o0.1 0).toInt by omega) (show 14 + (200 - 0) * 20 < ((cfFU : Nat) : Int) by omega)
def QCu_add (v1 : Int64) (v3 : Int64) (o0 : cf_O) (r : (cf_O)) : Prop := (okO I_Cu r) ∧ (Fr (fr_M [3, 4, 5] [] [4, 5]) o0 r) ∧ ((1 : Int) ≤ (r.1 3).toInt ∧ (r.1 3).toInt ≤ 62909) ∧ ((r.1 3).toInt = (o0.1 3).toInt + 1) ∧ ((r.1 3).toInt ≤ (r.1 4).toInt) ∧ ((r.1 4).toInt = (r.1 5).toInt) ∧ ((o0.1 4).toInt ≤ (r.1 4).toInt) ∧ (Adp (o0.1 3).toInt v1 (o0.2.2 4) (r.2.2 4)) ∧ (Adp (o0.1 3).toInt v3 (o0.2.2 5) (r.2.2 5)) ∧ True
set_option maxHeartbeats 4000000 in
set_option maxRecDepth 100000 in
theorem sCu_add (v1 : Int64) (v3 : Int64) (o0 : cf_O) (k_o0 : okO I_Cu o0) (f_o0_0 : (0 : Int) ≤ (o0.1 0).toInt ∧ (o0.1 0).toInt ≤ 0) (x_0 : (o0.1 3).toInt ≤ (o0.1 4).toInt) (x_1 : (o0.1 4).toInt = (o0.1 5).toInt) (x_2 : (o0.1 3).toInt ≤ 62907) : tt (fCu_add v1 v3 o0) (QCu_add v1 v3 o0) := by
  have r_o0 : Fr (fr_M [3, 4, 5] [] [4, 5]) o0 o0 := fr_rfl
  unfold fCu_add fCu_add_0
  have g_o0_3 : (0 : Int) ≤ (o0.1 3).toInt ∧ (o0.1 3).toInt ≤ 62909 := k_o0.1 3
  have g_o0_4 : (1024 : Int) ≤ (o0.1 4).toInt ∧ (o0.1 4).toInt ≤ 131072 := k_o0.1 4
  have g_o0_5 : (1024 : Int) ≤ (o0.1 5).toInt ∧ (o0.1 5).toInt ≤ 131072 := k_o0.1 5
  refine tt_n (nz_ok (Int.le_trans (by decide) (k_o0.1 4).1)) ?_
  refine tt_kv (P := fun z => ((1024 : Int) ≤ z.toInt ∧ z.toInt ≤ 131072) ∧ z.toInt = (o0.1 4).toInt) ⟨(k_o0.1 4), rfl⟩ (fun x1 qi2 => ?_)
  obtain ⟨i2, ei2⟩ := qi2
  refine tt_if (fun c3 => ?_) (fun c3 => ?_)
  · have wc3 : (o0.1 3).toInt = x1.toInt := c_eq c3
    have i4 : (1024 : Int) ≤ (o0.1 3).toInt ∧ (o0.1 3).toInt ≤ 62909 := nr_eql c3 (k_o0.1 3) i2 (by decide) (by decide)
    have i5 : (1024 : Int) ≤ x1.toInt ∧ x1.toInt ≤ 62909 := nr_eqr c3 (k_o0.1 3) i2 (by decide) (by decide)
    refine tt_kv (P := fun z => ((2048 : Int) ≤ z.toInt ∧ z.toInt ≤ 125818) ∧ z.toInt = 2 * (o0.1 3).toInt) ⟨iv_mul (show (2 : Int) ≤ (2 : Int32).toInt ∧ (2 : Int32).toInt ≤ 2 by decide) i4 (by decide) (by decide) (by decide) (by decide) (by decide), iq_mul (show (2 : Int) ≤ (2 : Int32).toInt ∧ (2 : Int32).toInt ≤ 2 by decide) i4 (by decide) (by decide) (by decide) (by decide)⟩ (fun x6 qi7 => ?_)
    obtain ⟨i7, ei7⟩ := qi7
    refine tt_n (cp_ok (l := (o0.1 4)) (x := x6) (by omega) (by omega) (by omega) (by omega)) ?_
    refine tt_ko ?_
    have k8 := ok_gp (k := 4) (v := x6) k_o0 (iv_w (a := 1024) (b := 131072) (by decide) (by decide) i7)
    have r9 := fr_gp (k := 4) (v := x6) r_o0 rfl rfl
    try unfold fCu_add_29
    refine tt_kv (P := fun z => ((2048 : Int) ≤ z.toInt ∧ z.toInt ≤ 125818) ∧ z.toInt = 2 * (o0.1 3).toInt) ⟨iv_mul (show (2 : Int) ≤ (2 : Int32).toInt ∧ (2 : Int32).toInt ≤ 2 by decide) i4 (by decide) (by decide) (by decide) (by decide) (by decide), iq_mul (show (2 : Int) ≤ (2 : Int32).toInt ∧ (2 : Int32).toInt ≤ 2 by decide) i4 (by decide) (by decide) (by decide) (by decide)⟩ (fun x10 qi11 => ?_)
    obtain ⟨i11, ei11⟩ := qi11
    refine tt_n (cp_ok (l := (o0.1 5)) (x := x10) (by omega) (by omega) (by omega) (by omega)) ?_
    refine tt_ko ?_
    have k12 := ok_gp (k := 5) (v := x10) k8 (iv_w (a := 1024) (b := 131072) (by decide) (by decide) i11)
    have r13 := fr_gp (k := 5) (v := x10) r9 rfl rfl
    try unfold fCu_add_46
    refine tt_n (ix_v (x := (o0.1 3)) (l := x6) (by omega) (by omega)) ?_
    refine tt_ko ?_
    have k14 := ok_yp (k := 4) (i := (o0.1 3).toNatClampNeg) (v := v1) k12
    have r15 := fr_yp (k := 4) (i := (o0.1 3).toNatClampNeg) (v := v1) r13 rfl
    refine tt_n (ix_v (x := (o0.1 3)) (l := x10) (by omega) (by omega)) ?_
    refine tt_ko ?_
    have k16 := ok_yp (k := 5) (i := (o0.1 3).toNatClampNeg) (v := v3) k14
    have r17 := fr_yp (k := 5) (i := (o0.1 3).toNatClampNeg) (v := v3) r15 rfl
    refine tt_kv (P := fun z => ((1025 : Int) ≤ z.toInt ∧ z.toInt ≤ 62910) ∧ z.toInt = (o0.1 3).toInt + 1) ⟨iv_add i4 (show (1 : Int) ≤ (1 : Int32).toInt ∧ (1 : Int32).toInt ≤ 1 by decide) (by decide) (by decide) (by decide) (by decide), iq_add i4 (show (1 : Int) ≤ (1 : Int32).toInt ∧ (1 : Int32).toInt ≤ 1 by decide) (by decide) (by decide)⟩ (fun x18 qi19 => ?_)
    obtain ⟨i19, ei19⟩ := qi19
    refine tt_ko ?_
    have k20 := ok_fp (k := 3) (v := x18) k16 (show (0 : Int) ≤ _ ∧ _ ≤ (62909 : Int) by omega)
    have i21 : (1025 : Int) ≤ x18.toInt ∧ x18.toInt ≤ 62909 := (by omega)
    have i22 : (1024 : Int) ≤ (o0.1 3).toInt ∧ (o0.1 3).toInt ≤ 62908 := by omega
    have r23 := fr_fp (k := 3) (v := x18) r17 rfl
    have p24 : Adp (o0.1 3).toInt v1 (o0.2.2 4) (vp_updL (gcp (o0.1 4).toNatClampNeg 0 (o0.2.2 4)) ((o0.1 3).toNatClampNeg) v1) := by first | exact Adp_1 rfl (by omega) | exact Adp_2 rfl (by omega) (by rw [tn_n]; omega)
    have p25 : Adp (o0.1 3).toInt v3 (o0.2.2 5) (vp_updL (gcp (o0.1 5).toNatClampNeg 0 (o0.2.2 5)) ((o0.1 3).toNatClampNeg) v3) := by first | exact Adp_1 rfl (by omega) | exact Adp_2 rfl (by omega) (by rw [tn_n]; omega)
    exact tt_some ⟨k20, r23, (iv_w (a := 1) (b := 62909) (by decide) (by decide) i21), (show x18.toInt = (o0.1 3).toInt + 1 by omega), (show x18.toInt ≤ x6.toInt by omega), (show x6.toInt = x10.toInt by omega), (show (o0.1 4).toInt ≤ x6.toInt by omega), p24, p25, trivial⟩
  · have wc3 : ¬ (o0.1 3).toInt = x1.toInt := c_ne c3
    try unfold fCu_add_46
    refine tt_n (ix_v (x := (o0.1 3)) (l := (o0.1 4)) (by omega) (by omega)) ?_
    refine tt_ko ?_
    have k26 := ok_yp (k := 4) (i := (o0.1 3).toNatClampNeg) (v := v1) k_o0
    have r27 := fr_yp (k := 4) (i := (o0.1 3).toNatClampNeg) (v := v1) r_o0 rfl
    refine tt_n (ix_v (x := (o0.1 3)) (l := (o0.1 5)) (by omega) (by omega)) ?_
    refine tt_ko ?_
    have k28 := ok_yp (k := 5) (i := (o0.1 3).toNatClampNeg) (v := v3) k26
    have r29 := fr_yp (k := 5) (i := (o0.1 3).toNatClampNeg) (v := v3) r27 rfl
    refine tt_kv (P := fun z => ((1 : Int) ≤ z.toInt ∧ z.toInt ≤ 62910) ∧ z.toInt = (o0.1 3).toInt + 1) ⟨iv_add (k_o0.1 3) (show (1 : Int) ≤ (1 : Int32).toInt ∧ (1 : Int32).toInt ≤ 1 by decide) (by decide) (by decide) (by decide) (by decide), iq_add (k_o0.1 3) (show (1 : Int) ≤ (1 : Int32).toInt ∧ (1 : Int32).toInt ≤ 1 by decide) (by decide) (by decide)⟩ (fun x30 qi31 => ?_)
    obtain ⟨i31, ei31⟩ := qi31
    refine tt_ko ?_
    have k32 := ok_fp (k := 3) (v := x30) k28 (show (0 : Int) ≤ _ ∧ _ ≤ (62909 : Int) by omega)
    have i33 : (1 : Int) ≤ x30.toInt ∧ x30.toInt ≤ 62909 := (by omega)
    have i34 : (0 : Int) ≤ (o0.1 3).toInt ∧ (o0.1 3).toInt ≤ 62908 := by omega
    have r35 := fr_fp (k := 3) (v := x30) r29 rfl
    have p36 : Adp (o0.1 3).toInt v1 (o0.2.2 4) (vp_updL (o0.2.2 4) ((o0.1 3).toNatClampNeg) v1) := by first | exact Adp_1 rfl (by omega) | exact Adp_2 rfl (by omega) (by rw [tn_n]; omega)
    have p37 : Adp (o0.1 3).toInt v3 (o0.2.2 5) (vp_updL (o0.2.2 5) ((o0.1 3).toNatClampNeg) v3) := by first | exact Adp_1 rfl (by omega) | exact Adp_2 rfl (by omega) (by rw [tn_n]; omega)
    exact tt_some ⟨k32, r35, i33, (show x30.toInt = (o0.1 3).toInt + 1 by omega), (show x30.toInt ≤ (o0.1 4).toInt by omega), (show (o0.1 4).toInt = (o0.1 5).toInt by omega), (show (o0.1 4).toInt ≤ (o0.1 4).toInt by omega), p36, p37, trivial⟩
def QJLong_bitCount_J (v0 : Int64) (r : (Int32)) : Prop := ((0 : Int) ≤ r.toInt ∧ r.toInt ≤ 127) ∧ True
set_option maxHeartbeats 4000000 in
set_option maxRecDepth 100000 in
theorem sJLong_bitCount_J (v0 : Int64)  : tt (fJLong_bitCount_J v0) (QJLong_bitCount_J v0) := by
  unfold fJLong_bitCount_J fJLong_bitCount_J_0
  refine tt_klv (P := fun z => (0 : Int) ≤ z.toInt ∧ z.toInt ≤ 9223372036854775807) (ivl_shr (k := 1) (by decide) (by decide) (by decide) (by decide)) (fun x1 i2 => ?_)
  refine tt_klv (P := fun z => (0 : Int) ≤ z.toInt ∧ z.toInt ≤ 6148914691236517205) (ivl_and (by decide) (by decide) (by decide)) (fun x3 i4 => ?_)
  refine tt_kl (fun x5 => ?_)
  refine tt_klv (P := fun z => (0 : Int) ≤ z.toInt ∧ z.toInt ≤ 3689348814741910323) (ivl_and (by decide) (by decide) (by decide)) (fun x6 i7 => ?_)
  refine tt_klv (P := fun z => (0 : Int) ≤ z.toInt ∧ z.toInt ≤ 4611686018427387903) (ivl_shr (k := 2) (by decide) (by decide) (by decide) (by decide)) (fun x8 i9 => ?_)
  refine tt_klv (P := fun z => (0 : Int) ≤ z.toInt ∧ z.toInt ≤ 3689348814741910323) (ivl_and (by decide) (by decide) (by decide)) (fun x10 i11 => ?_)
  refine tt_kl (fun x12 => ?_)
  refine tt_klv (P := fun z => (0 : Int) ≤ z.toInt ∧ z.toInt ≤ 1152921504606846975) (ivl_shr (k := 4) (by decide) (by decide) (by decide) (by decide)) (fun x13 i14 => ?_)
  refine tt_kl (fun x15 => ?_)
  refine tt_klv (P := fun z => (0 : Int) ≤ z.toInt ∧ z.toInt ≤ 1085102592571150095) (ivl_and (by decide) (by decide) (by decide)) (fun x16 i17 => ?_)
  refine tt_klv (P := fun z => (0 : Int) ≤ z.toInt ∧ z.toInt ≤ 72057594037927935) (ivl_shr (k := 8) (by decide) (by decide) (by decide) (by decide)) (fun x18 i19 => ?_)
  refine tt_kl (fun x20 => ?_)
  refine tt_klv (P := fun z => (0 : Int) ≤ z.toInt ∧ z.toInt ≤ 281474976710655) (ivl_shr (k := 16) (by decide) (by decide) (by decide) (by decide)) (fun x21 i22 => ?_)
  refine tt_kl (fun x23 => ?_)
  refine tt_klv (P := fun z => (0 : Int) ≤ z.toInt ∧ z.toInt ≤ 4294967295) (ivl_shr (k := 32) (by decide) (by decide) (by decide) (by decide)) (fun x24 i25 => ?_)
  refine tt_kl (fun x26 => ?_)
  refine tt_kv (P := fun z => ((-2147483648) : Int) ≤ z.toInt ∧ z.toInt ≤ 2147483647) (iv_top _) (fun x27 i28 => ?_)
  refine tt_kv (P := fun z => (0 : Int) ≤ z.toInt ∧ z.toInt ≤ 127) (iv_and (show (127 : Int) ≤ (127 : Int32).toInt ∧ (127 : Int32).toInt ≤ 127 by decide) (by decide) (by decide) (by decide)) (fun x29 i30 => ?_)
  exact tt_some ⟨i30, trivial⟩
def QCu_join (v0 : Int64) (v2 : Int64) (v4 : Int32) (r : (Int64)) : Prop := True
def HCu_join (yv0 : Int64) (yv2 : Int64) (yv4 : Int32) (n : Nat) : Prop := (∀ (v4 : Int32) (v5 : Int64) (v7 : Int64) (v9 : Int64) (v11 : Int32), ((0 : Int) ≤ v4.toInt ∧ v4.toInt ≤ 5) → ((0 : Int) ≤ v11.toInt ∧ v11.toInt ≤ 5) → 0 + (5 - v11.toInt) * 2 < (n : Int) → tt (gCu_join n 0 v4 v5 v7 v9 v11) (QCu_join yv0 yv2 yv4))
set_option maxHeartbeats 4000000 in
set_option maxRecDepth 100000 in
theorem tCu_join_12 {yv0 : Int64} {yv2 : Int64} {yv4 : Int32} {n : Nat} (H : HCu_join yv0 yv2 yv4 n) (v4 : Int32) (v5 : Int64) (v7 : Int64) (v9 : Int64) (v11 : Int32) (i_v4 : (0 : Int) ≤ v4.toInt ∧ v4.toInt ≤ 5) (i_v11 : (0 : Int) ≤ v11.toInt ∧ v11.toInt ≤ 5) (hm : 0 + (5 - v11.toInt) * 2 ≤ (n : Int)) : tt (fCu_join_12 (gCu_join n) v4 v5 v7 v9 v11) (QCu_join yv0 yv2 yv4) := by
  unfold fCu_join_12
  refine tt_if (fun c1 => ?_) (fun c1 => ?_)
  · refine tt_kv (P := fun z => ((-2147483648) : Int) ≤ z.toInt ∧ z.toInt ≤ 2147483647) (iv_top _) (fun x2 i3 => ?_)
    refine tt_if (fun c4 => ?_) (fun c4 => ?_)
    · have i5 : (0 : Int) ≤ x2.toInt ∧ x2.toInt ≤ 0 := nr_eql c4 i3 (show (0 : Int) ≤ (0 : Int32).toInt ∧ (0 : Int32).toInt ≤ 0 by decide) (by decide) (by decide)
      refine tt_kv (P := fun z => ((-2147483648) : Int) ≤ z.toInt ∧ z.toInt ≤ 2147483647) (iv_top _) (fun x6 i7 => ?_)
      refine tt_if (fun c8 => ?_) (fun c8 => ?_)
      · have i9 : (0 : Int) ≤ x6.toInt ∧ x6.toInt ≤ 0 := nr_eql c8 i7 (show (0 : Int) ≤ (0 : Int32).toInt ∧ (0 : Int32).toInt ≤ 0 by decide) (by decide) (by decide)
        try unfold fCu_join_123
        exact tt_some trivial
      · try unfold fCu_join_122
        try unfold fCu_join_123
        exact tt_some trivial
    · try unfold fCu_join_122
      try unfold fCu_join_123
      exact tt_some trivial
  · have i10 : (0 : Int) ≤ v11.toInt ∧ v11.toInt ≤ 4 := nr_nlel c1 i_v11 i_v4 (by decide) (by decide)
    have i11 : (1 : Int) ≤ v4.toInt ∧ v4.toInt ≤ 5 := nr_nler c1 i_v11 i_v4 (by decide) (by decide)
    refine tt_klv (P := fun z => (0 : Int) ≤ z.toInt ∧ z.toInt ≤ 255) (ivl_and (by decide) (by decide) (by decide)) (fun x12 i13 => ?_)
    refine tt_klv (P := fun z => (0 : Int) ≤ z.toInt ∧ z.toInt ≤ 255) (ivl_and (by decide) (by decide) (by decide)) (fun x14 i15 => ?_)
    refine tt_kl (fun x16 => ?_)
    refine tt_kv (P := fun z => (0 : Int) ≤ z.toInt ∧ z.toInt ≤ 32) (iv_mul (show (8 : Int) ≤ (8 : Int32).toInt ∧ (8 : Int32).toInt ≤ 8 by decide) i10 (by decide) (by decide) (by decide) (by decide) (by decide)) (fun x17 i18 => ?_)
    refine tt_kl (fun x19 => ?_)
    refine tt_kl (fun x20 => ?_)
    refine tt_klv (P := fun z => (0 : Int) ≤ z.toInt ∧ z.toInt ≤ 255) (ivl_and (by decide) (by decide) (by decide)) (fun x21 i22 => ?_)
    refine tt_kv (P := fun z => ((-2147483648) : Int) ≤ z.toInt ∧ z.toInt ≤ 2147483647) (iv_top _) (fun x23 i24 => ?_)
    refine tt_if (fun c25 => ?_) (fun c25 => ?_)
    · have i26 : (0 : Int) ≤ x23.toInt ∧ x23.toInt ≤ 0 := nr_eql c25 i24 (show (0 : Int) ≤ (0 : Int32).toInt ∧ (0 : Int32).toInt ≤ 0 by decide) (by decide) (by decide)
      refine tt_klv (P := fun z => (0 : Int) ≤ z.toInt ∧ z.toInt ≤ 72057594037927935) (ivl_shr (k := 8) (by decide) (by decide) (by decide) (by decide)) (fun x27 i28 => ?_)
      try unfold fCu_join_71
      refine tt_klv (P := fun z => (0 : Int) ≤ z.toInt ∧ z.toInt ≤ 255) (ivl_and (by decide) (by decide) (by decide)) (fun x29 i30 => ?_)
      refine tt_kv (P := fun z => ((-2147483648) : Int) ≤ z.toInt ∧ z.toInt ≤ 2147483647) (iv_top _) (fun x31 i32 => ?_)
      refine tt_if (fun c33 => ?_) (fun c33 => ?_)
      · have i34 : (0 : Int) ≤ x31.toInt ∧ x31.toInt ≤ 0 := nr_eql c33 i32 (show (0 : Int) ≤ (0 : Int32).toInt ∧ (0 : Int32).toInt ≤ 0 by decide) (by decide) (by decide)
        refine tt_klv (P := fun z => (0 : Int) ≤ z.toInt ∧ z.toInt ≤ 72057594037927935) (ivl_shr (k := 8) (by decide) (by decide) (by decide) (by decide)) (fun x35 i36 => ?_)
        try unfold fCu_join_95
        refine tt_kv (P := fun z => ((1 : Int) ≤ z.toInt ∧ z.toInt ≤ 5) ∧ z.toInt = v11.toInt + 1) ⟨iv_add i10 (show (1 : Int) ≤ (1 : Int32).toInt ∧ (1 : Int32).toInt ≤ 1 by decide) (by decide) (by decide) (by decide) (by decide), iq_add i10 (show (1 : Int) ≤ (1 : Int32).toInt ∧ (1 : Int32).toInt ≤ 1 by decide) (by decide) (by decide)⟩ (fun x37 qi38 => ?_)
        obtain ⟨i38, ei38⟩ := qi38
        exact H _ _ _ _ _ (iv_w (a := 0) (b := 5) (by decide) (by decide) i11) (iv_w (a := 0) (b := 5) (by decide) (by decide) i38) (show 0 + (5 - x37.toInt) * 2 < (n : Int) by omega)
      · try unfold fCu_join_95
        refine tt_kv (P := fun z => ((1 : Int) ≤ z.toInt ∧ z.toInt ≤ 5) ∧ z.toInt = v11.toInt + 1) ⟨iv_add i10 (show (1 : Int) ≤ (1 : Int32).toInt ∧ (1 : Int32).toInt ≤ 1 by decide) (by decide) (by decide) (by decide) (by decide), iq_add i10 (show (1 : Int) ≤ (1 : Int32).toInt ∧ (1 : Int32).toInt ≤ 1 by decide) (by decide) (by decide)⟩ (fun x39 qi40 => ?_)
        obtain ⟨i40, ei40⟩ := qi40
        exact H _ _ _ _ _ (iv_w (a := 0) (b := 5) (by decide) (by decide) i11) (iv_w (a := 0) (b := 5) (by decide) (by decide) i40) (show 0 + (5 - x39.toInt) * 2 < (n : Int) by omega)
    · try unfold fCu_join_71
      refine tt_klv (P := fun z => (0 : Int) ≤ z.toInt ∧ z.toInt ≤ 255) (ivl_and (by decide) (by decide) (by decide)) (fun x41 i42 => ?_)
      refine tt_kv (P := fun z => ((-2147483648) : Int) ≤ z.toInt ∧ z.toInt ≤ 2147483647) (iv_top _) (fun x43 i44 => ?_)
      refine tt_if (fun c45 => ?_) (fun c45 => ?_)
      · have i46 : (0 : Int) ≤ x43.toInt ∧ x43.toInt ≤ 0 := nr_eql c45 i44 (show (0 : Int) ≤ (0 : Int32).toInt ∧ (0 : Int32).toInt ≤ 0 by decide) (by decide) (by decide)
        refine tt_klv (P := fun z => (0 : Int) ≤ z.toInt ∧ z.toInt ≤ 72057594037927935) (ivl_shr (k := 8) (by decide) (by decide) (by decide) (by decide)) (fun x47 i48 => ?_)
        try unfold fCu_join_95
        refine tt_kv (P := fun z => ((1 : Int) ≤ z.toInt ∧ z.toInt ≤ 5) ∧ z.toInt = v11.toInt + 1) ⟨iv_add i10 (show (1 : Int) ≤ (1 : Int32).toInt ∧ (1 : Int32).toInt ≤ 1 by decide) (by decide) (by decide) (by decide) (by decide), iq_add i10 (show (1 : Int) ≤ (1 : Int32).toInt ∧ (1 : Int32).toInt ≤ 1 by decide) (by decide) (by decide)⟩ (fun x49 qi50 => ?_)
        obtain ⟨i50, ei50⟩ := qi50
        exact H _ _ _ _ _ (iv_w (a := 0) (b := 5) (by decide) (by decide) i11) (iv_w (a := 0) (b := 5) (by decide) (by decide) i50) (show 0 + (5 - x49.toInt) * 2 < (n : Int) by omega)
      · try unfold fCu_join_95
        refine tt_kv (P := fun z => ((1 : Int) ≤ z.toInt ∧ z.toInt ≤ 5) ∧ z.toInt = v11.toInt + 1) ⟨iv_add i10 (show (1 : Int) ≤ (1 : Int32).toInt ∧ (1 : Int32).toInt ≤ 1 by decide) (by decide) (by decide) (by decide) (by decide), iq_add i10 (show (1 : Int) ≤ (1 : Int32).toInt ∧ (1 : Int32).toInt ≤ 1 by decide) (by decide) (by decide)⟩ (fun x51 qi52 => ?_)
        obtain ⟨i52, ei52⟩ := qi52
        exact H _ _ _ _ _ (iv_w (a := 0) (b := 5) (by decide) (by decide) i11) (iv_w (a := 0) (b := 5) (by decide) (by decide) i52) (show 0 + (5 - x51.toInt) * 2 < (n : Int) by omega)
set_option maxHeartbeats 4000000 in
set_option maxRecDepth 100000 in
theorem hCu_join (yv0 : Int64) (yv2 : Int64) (yv4 : Int32) : ∀ n, HCu_join yv0 yv2 yv4 n := by
  intro n
  induction n with
  | zero => exact (fun v4 v5 v7 v9 v11 i_v4 i_v11 hm => by exact absurd (show 0 + (5 - v11.toInt) * 2 < (0 : Int) from hm) (by omega))
  | succ n ih => exact (fun v4 v5 v7 v9 v11 i_v4 i_v11 hm => tCu_join_12 ih v4 v5 v7 v9 v11 i_v4 i_v11 (by omega))
set_option maxHeartbeats 4000000 in
set_option maxRecDepth 100000 in
theorem sCu_join (v0 : Int64) (v2 : Int64) (v4 : Int32) (i_v4 : (0 : Int) ≤ v4.toInt ∧ v4.toInt ≤ 5) : tt (fCu_join v0 v2 v4) (QCu_join v0 v2 v4) := by
  have H := hCu_join v0 v2 v4 cfFU
  have hm : (13 : Int) ≤ (cfFU : Nat) := by decide
  unfold fCu_join fCu_join_0
  exact H _ _ _ _ _ i_v4 (iv_w (a := 0) (b := 5) (by decide) (by decide) (show (0 : Int) ≤ (0 : Int32).toInt ∧ (0 : Int32).toInt ≤ 0 by decide)) (show 0 + (5 - 0) * 2 < ((cfFU : Nat) : Int) by omega)
def QCu_isPart (v0 : Int64) (v2 : Int64) (r : (Int32)) : Prop := ((0 : Int) ≤ r.toInt ∧ r.toInt ≤ 1) ∧ True
def HCu_isPart (yv0 : Int64) (yv2 : Int64) (n : Nat) : Prop := (∀ (v4 : Int64) (v6 : Int64), nb v6 < (n : Int) → tt (gCu_isPart n 0 v4 v6) (QCu_isPart yv0 yv2))
set_option maxHeartbeats 4000000 in
set_option maxRecDepth 100000 in
theorem tCu_isPart_6 {yv0 : Int64} {yv2 : Int64} {n : Nat} (H : HCu_isPart yv0 yv2 n) (v4 : Int64) (v6 : Int64)  (hm : nb v6 ≤ (n : Int)) : tt (fCu_isPart_6 (gCu_isPart n) v4 v6) (QCu_isPart yv0 yv2) := by
  unfold fCu_isPart_6
  have t1 := nb_0 v6
  refine tt_kv (P := fun z => (((-2147483648) : Int) ≤ z.toInt ∧ z.toInt ≤ 2147483647) ∧ z = (lg_cmp v6 (0 : Int64))) ⟨iv_top _, rfl⟩ (fun x2 qi3 => ?_)
  obtain ⟨i3, ax2⟩ := qi3
  have t4 := nb_p ax2
  refine tt_if (fun c5 => ?_) (fun c5 => ?_)
  · have wc5 : x2.toInt = (0 : Int) := c_eq c5
    have i6 : (0 : Int) ≤ x2.toInt ∧ x2.toInt ≤ 0 := nr_eql c5 i3 (show (0 : Int) ≤ (0 : Int32).toInt ∧ (0 : Int32).toInt ≤ 0 by decide) (by decide) (by decide)
    refine tt_kv (P := fun z => (((-2147483648) : Int) ≤ z.toInt ∧ z.toInt ≤ 2147483647) ∧ z = (lg_cmp v4 (0 : Int64))) ⟨iv_top _, rfl⟩ (fun x7 qi8 => ?_)
    obtain ⟨i8, ax7⟩ := qi8
    refine tt_if (fun c9 => ?_) (fun c9 => ?_)
    · have wc9 : x7.toInt = (0 : Int) := c_eq c9
      have i10 : (0 : Int) ≤ x7.toInt ∧ x7.toInt ≤ 0 := nr_eql c9 i8 (show (0 : Int) ≤ (0 : Int32).toInt ∧ (0 : Int32).toInt ≤ 0 by decide) (by decide) (by decide)
      try unfold fCu_isPart_58
      refine tt_w (iv_b (show (1 : Int) ≤ (1 : Int32).toInt ∧ (1 : Int32).toInt ≤ 1 by decide) (by decide) (by decide)) ?_
      exact tt_some ⟨(iv_w (a := 0) (b := 1) (by decide) (by decide) (show (1 : Int) ≤ (1 : Int32).toInt ∧ (1 : Int32).toInt ≤ 1 by decide)), trivial⟩
    · have wc9 : ¬ x7.toInt = (0 : Int) := c_ne c9
      try unfold fCu_isPart_58
      refine tt_w (iv_b (show (0 : Int) ≤ (0 : Int32).toInt ∧ (0 : Int32).toInt ≤ 0 by decide) (by decide) (by decide)) ?_
      exact tt_some ⟨(iv_w (a := 0) (b := 1) (by decide) (by decide) (show (0 : Int) ≤ (0 : Int32).toInt ∧ (0 : Int32).toInt ≤ 0 by decide)), trivial⟩
  · have wc5 : ¬ x2.toInt = (0 : Int) := c_ne c5
    refine tt_klr (fun x11 ax11 => ?_)
    refine tt_klr (fun x12 ax12 => ?_)
    refine tt_kv (P := fun z => (((-2147483648) : Int) ≤ z.toInt ∧ z.toInt ≤ 2147483647) ∧ z = (lg_cmp x11 x12)) ⟨iv_top _, rfl⟩ (fun x13 qi14 => ?_)
    obtain ⟨i14, ax13⟩ := qi14
    refine tt_if (fun c15 => ?_) (fun c15 => ?_)
    · have wc15 : x13.toInt = (0 : Int) := c_eq c15
      have i16 : (0 : Int) ≤ x13.toInt ∧ x13.toInt ≤ 0 := nr_eql c15 i14 (show (0 : Int) ≤ (0 : Int32).toInt ∧ (0 : Int32).toInt ≤ 0 by decide) (by decide) (by decide)
      refine tt_klr (fun x17 ax17 => ?_)
      try unfold fCu_isPart_36
      refine tt_klr (fun x18 ax18 => ?_)
      have t19 := nb_w ax2 ax18
      have t20 := nb_0 x18
      exact H _ _ (show nb x18 < (n : Int) by omega)
    · have wc15 : ¬ x13.toInt = (0 : Int) := c_ne c15
      try unfold fCu_isPart_36
      refine tt_klr (fun x21 ax21 => ?_)
      have t22 := nb_w ax2 ax21
      have t23 := nb_0 x21
      exact H _ _ (show nb x21 < (n : Int) by omega)
set_option maxHeartbeats 4000000 in
set_option maxRecDepth 100000 in
theorem hCu_isPart (yv0 : Int64) (yv2 : Int64) : ∀ n, HCu_isPart yv0 yv2 n := by
  intro n
  induction n with
  | zero => exact (fun v4 v6 hm => by exact absurd (show nb v6 < (0 : Int) from hm) (by have zz := nb_0 v6; omega))
  | succ n ih => exact (fun v4 v6 hm => tCu_isPart_6 ih v4 v6 (by omega))
set_option maxHeartbeats 4000000 in
set_option maxRecDepth 100000 in
theorem sCu_isPart (v0 : Int64) (v2 : Int64)  : tt (fCu_isPart v0 v2) (QCu_isPart v0 v2) := by
  have H := hCu_isPart v0 v2 cfFU
  have hm : (10 : Int) ≤ (cfFU : Nat) := by decide
  unfold fCu_isPart fCu_isPart_0
  have t1 := nb_0 v2
  exact H _ _ (show nb v2 < ((cfFU : Nat) : Int) by omega)
def QCu_hasPart (v1 : Int64) (v3 : Int64) (v5 : Int32) (o0 : cf_O) (r : (Int32)) : Prop := ((0 : Int) ≤ r.toInt ∧ r.toInt ≤ 1) ∧ (r.toInt = 0 ∨ v5.toInt < (o0.1 3).toInt) ∧ True
def HCu_hasPart (yv1 : Int64) (yv3 : Int64) (yv5 : Int32) (yo0 : cf_O) (n : Nat) : Prop := (∀ (v1 : Int64) (v3 : Int64) (v6 : Int32) (o0 : cf_O), (okO I_Cu o0) → (Fr (fr_M [] [] []) yo0 o0) → ((0 : Int) ≤ v6.toInt ∧ v6.toInt ≤ 62909) → ((0 : Int) ≤ (o0.1 0).toInt ∧ (o0.1 0).toInt ≤ 0) → ((1 : Int) ≤ (o0.1 3).toInt ∧ (o0.1 3).toInt ≤ 62909) → ((o0.1 3).toInt ≤ (o0.1 4).toInt) → ((o0.1 4).toInt = (o0.1 5).toInt) → (yv5.toInt ≤ v6.toInt) → 0 + (62909 - v6.toInt) * 2 < (n : Int) → tt (gCu_hasPart n 0 v1 v3 v6 o0) (QCu_hasPart yv1 yv3 yv5 yo0))
set_option maxHeartbeats 4000000 in
set_option maxRecDepth 100000 in
theorem tCu_hasPart_4 {yv1 : Int64} {yv3 : Int64} {yv5 : Int32} {yo0 : cf_O} {n : Nat} (H : HCu_hasPart yv1 yv3 yv5 yo0 n) (v1 : Int64) (v3 : Int64) (v6 : Int32) (o0 : cf_O) (k_o0 : okO I_Cu o0) (r_o0 : Fr (fr_M [] [] []) yo0 o0) (i_v6 : (0 : Int) ≤ v6.toInt ∧ v6.toInt ≤ 62909) (f_o0_0 : (0 : Int) ≤ (o0.1 0).toInt ∧ (o0.1 0).toInt ≤ 0) (f_o0_3 : (1 : Int) ≤ (o0.1 3).toInt ∧ (o0.1 3).toInt ≤ 62909) (x_0 : (o0.1 3).toInt ≤ (o0.1 4).toInt) (x_1 : (o0.1 4).toInt = (o0.1 5).toInt) (x_2 : yv5.toInt ≤ v6.toInt) (hm : 0 + (62909 - v6.toInt) * 2 ≤ (n : Int)) : tt (fCu_hasPart_4 (gCu_hasPart n) v1 v3 v6 o0) (QCu_hasPart yv1 yv3 yv5 yo0) := by
  unfold fCu_hasPart_4
  have ey_o0_3 : (o0.1 3).toInt = (yo0.1 3).toInt := congrArg Int32.toInt (r_o0.1 3 rfl)
  have g_o0_4 : (1024 : Int) ≤ (o0.1 4).toInt ∧ (o0.1 4).toInt ≤ 131072 := k_o0.1 4
  have ey_o0_4 : (o0.1 4).toInt = (yo0.1 4).toInt := congrArg Int32.toInt (r_o0.1 4 rfl)
  have g_o0_5 : (1024 : Int) ≤ (o0.1 5).toInt ∧ (o0.1 5).toInt ≤ 131072 := k_o0.1 5
  have ey_o0_5 : (o0.1 5).toInt = (yo0.1 5).toInt := congrArg Int32.toInt (r_o0.1 5 rfl)
  refine tt_if (fun c1 => ?_) (fun c1 => ?_)
  · have wc1 : (o0.1 3).toInt ≤ v6.toInt := c_le c1
    have i2 : (1 : Int) ≤ v6.toInt ∧ v6.toInt ≤ 62909 := nr_ler c1 f_o0_3 i_v6 (by decide) (by decide)
    exact tt_some ⟨(iv_w (a := 0) (b := 1) (by decide) (by decide) (show (0 : Int) ≤ (0 : Int32).toInt ∧ (0 : Int32).toInt ≤ 0 by decide)), (show 0 = 0 ∨ yv5.toInt < (yo0.1 3).toInt by omega), trivial⟩
  · have wc1 : v6.toInt < (o0.1 3).toInt := c_nle c1
    have i3 : (0 : Int) ≤ v6.toInt ∧ v6.toInt ≤ 62908 := nr_nlel c1 i_v6 f_o0_3 (by decide) (by decide)
    refine tt_n (ix_v (x := v6) (l := (o0.1 5)) (by omega) (by omega)) ?_
    refine tt_kl (fun x4 => ?_)
    refine tt_kl (fun x5 => ?_)
    refine tt_kl (fun x6 => ?_)
    refine tt_kv (P := fun z => ((-2147483648) : Int) ≤ z.toInt ∧ z.toInt ≤ 2147483647) (iv_top _) (fun x7 i8 => ?_)
    refine tt_if (fun c9 => ?_) (fun c9 => ?_)
    · have wc9 : x7.toInt = (0 : Int) := c_eq c9
      have i10 : (0 : Int) ≤ x7.toInt ∧ x7.toInt ≤ 0 := nr_eql c9 i8 (show (0 : Int) ≤ (0 : Int32).toInt ∧ (0 : Int32).toInt ≤ 0 by decide) (by decide) (by decide)
      refine tt_n (ix_v (x := v6) (l := (o0.1 4)) (by omega) (by omega)) ?_
      refine tt_kl (fun x11 => ?_)
      refine tt_b (sCu_isPart _ _ ) (fun q12 hq12 => ?_)
      obtain ⟨i_q12, -⟩ := hq12
      refine tt_if (fun c13 => ?_) (fun c13 => ?_)
      · have wc13 : q12.toInt = (0 : Int) := c_eq c13
        have i14 : (0 : Int) ≤ q12.toInt ∧ q12.toInt ≤ 0 := nr_eql c13 i_q12 (show (0 : Int) ≤ (0 : Int32).toInt ∧ (0 : Int32).toInt ≤ 0 by decide) (by decide) (by decide)
        try unfold fCu_hasPart_47
        refine tt_kv (P := fun z => ((1 : Int) ≤ z.toInt ∧ z.toInt ≤ 62909) ∧ z.toInt = v6.toInt + 1) ⟨iv_add i3 (show (1 : Int) ≤ (1 : Int32).toInt ∧ (1 : Int32).toInt ≤ 1 by decide) (by decide) (by decide) (by decide) (by decide), iq_add i3 (show (1 : Int) ≤ (1 : Int32).toInt ∧ (1 : Int32).toInt ≤ 1 by decide) (by decide) (by decide)⟩ (fun x15 qi16 => ?_)
        obtain ⟨i16, ei16⟩ := qi16
        exact H _ _ _ _ k_o0 r_o0 (iv_w (a := 0) (b := 62909) (by decide) (by decide) i16) f_o0_0 f_o0_3 (show (o0.1 3).toInt ≤ (o0.1 4).toInt by omega) (show (o0.1 4).toInt = (o0.1 5).toInt by omega) (show yv5.toInt ≤ x15.toInt by omega) (show 0 + (62909 - x15.toInt) * 2 < (n : Int) by omega)
      · have wc13 : ¬ q12.toInt = (0 : Int) := c_ne c13
        have i17 : (1 : Int) ≤ q12.toInt ∧ q12.toInt ≤ 1 := nr_nela c13 i_q12 (show (0 : Int) ≤ (0 : Int32).toInt ∧ (0 : Int32).toInt ≤ 0 by decide) (by decide) (by decide)
        exact tt_some ⟨(iv_w (a := 0) (b := 1) (by decide) (by decide) (show (1 : Int) ≤ (1 : Int32).toInt ∧ (1 : Int32).toInt ≤ 1 by decide)), (show 1 = 0 ∨ yv5.toInt < (yo0.1 3).toInt by omega), trivial⟩
    · have wc9 : ¬ x7.toInt = (0 : Int) := c_ne c9
      try unfold fCu_hasPart_47
      refine tt_kv (P := fun z => ((1 : Int) ≤ z.toInt ∧ z.toInt ≤ 62909) ∧ z.toInt = v6.toInt + 1) ⟨iv_add i3 (show (1 : Int) ≤ (1 : Int32).toInt ∧ (1 : Int32).toInt ≤ 1 by decide) (by decide) (by decide) (by decide) (by decide), iq_add i3 (show (1 : Int) ≤ (1 : Int32).toInt ∧ (1 : Int32).toInt ≤ 1 by decide) (by decide) (by decide)⟩ (fun x18 qi19 => ?_)
      obtain ⟨i19, ei19⟩ := qi19
      exact H _ _ _ _ k_o0 r_o0 (iv_w (a := 0) (b := 62909) (by decide) (by decide) i19) f_o0_0 f_o0_3 (show (o0.1 3).toInt ≤ (o0.1 4).toInt by omega) (show (o0.1 4).toInt = (o0.1 5).toInt by omega) (show yv5.toInt ≤ x18.toInt by omega) (show 0 + (62909 - x18.toInt) * 2 < (n : Int) by omega)
set_option maxHeartbeats 4000000 in
set_option maxRecDepth 100000 in
theorem hCu_hasPart (yv1 : Int64) (yv3 : Int64) (yv5 : Int32) (yo0 : cf_O) : ∀ n, HCu_hasPart yv1 yv3 yv5 yo0 n := by
  intro n
  induction n with
  | zero => exact (fun v1 v3 v6 o0 k_o0 r_o0 i_v6 f_o0_0 f_o0_3 x_0 x_1 x_2 hm => by exact absurd (show 0 + (62909 - v6.toInt) * 2 < (0 : Int) from hm) (by omega))
  | succ n ih => exact (fun v1 v3 v6 o0 k_o0 r_o0 i_v6 f_o0_0 f_o0_3 x_0 x_1 x_2 hm => tCu_hasPart_4 ih v1 v3 v6 o0 k_o0 r_o0 i_v6 f_o0_0 f_o0_3 x_0 x_1 x_2 (by omega))
set_option maxHeartbeats 4000000 in
set_option maxRecDepth 100000 in
theorem sCu_hasPart (v1 : Int64) (v3 : Int64) (v5 : Int32) (o0 : cf_O) (k_o0 : okO I_Cu o0) (i_v5 : (0 : Int) ≤ v5.toInt ∧ v5.toInt ≤ 62909) (f_o0_0 : (0 : Int) ≤ (o0.1 0).toInt ∧ (o0.1 0).toInt ≤ 0) (f_o0_3 : (1 : Int) ≤ (o0.1 3).toInt ∧ (o0.1 3).toInt ≤ 62909) (x_0 : (o0.1 3).toInt ≤ (o0.1 4).toInt) (x_1 : (o0.1 4).toInt = (o0.1 5).toInt) : tt (fCu_hasPart v1 v3 v5 o0) (QCu_hasPart v1 v3 v5 o0) := by
  have H := hCu_hasPart v1 v3 v5 o0 cfFU
  have hm : (125821 : Int) ≤ (cfFU : Nat) := by decide
  have r_o0 : Fr (fr_M [] [] []) o0 o0 := fr_rfl
  unfold fCu_hasPart fCu_hasPart_0
  have g_o0_4 : (1024 : Int) ≤ (o0.1 4).toInt ∧ (o0.1 4).toInt ≤ 131072 := k_o0.1 4
  have g_o0_5 : (1024 : Int) ≤ (o0.1 5).toInt ∧ (o0.1 5).toInt ≤ 131072 := k_o0.1 5
  exact H _ _ _ _ k_o0 r_o0 i_v5 f_o0_0 f_o0_3 (show (o0.1 3).toInt ≤ (o0.1 4).toInt by omega) (show (o0.1 4).toInt = (o0.1 5).toInt by omega) (show v5.toInt ≤ v5.toInt by omega) (show 0 + (62909 - v5.toInt) * 2 < ((cfFU : Nat) : Int) by omega)
def QCu_joinAll (v1 : Int32) (v2 : Int32) (v3 : Int32) (v4 : Int32) (o0 : cf_O) (r : (Int32 × cf_O)) : Prop := ((0 : Int) ≤ r.1.toInt ∧ r.1.toInt ≤ 1) ∧ (okO I_Cu r.2) ∧ (Fr (fr_M [3, 4, 5] [] [4, 5]) o0 r.2) ∧ ((1 : Int) ≤ (r.2.1 3).toInt ∧ (r.2.1 3).toInt ≤ 62909) ∧ (Kw v4.toInt (r.2.1 3).toInt (r.2.2.2 4)) ∧ (Pe (o0.1 3).toInt (o0.2.2 4) (r.2.2.2 4)) ∧ ((r.2.1 3).toInt ≤ (r.2.1 4).toInt) ∧ ((r.2.1 4).toInt = (r.2.1 5).toInt) ∧ ((o0.1 3).toInt ≤ (r.2.1 3).toInt) ∧ (v4.toInt ≤ (r.2.1 3).toInt) ∧ ((r.2.1 3).toInt ≤ v4.toInt + 300) ∧ (Jqp v1.toInt v2.toInt v3.toInt v4.toInt (o0.1 3).toInt (r.2.1 3).toInt r.1.toInt (o0.2.1 2) (o0.2.2 4) (o0.2.2 5)) ∧ (Pe (o0.1 3).toInt (o0.2.2 5) (r.2.2.2 5)) ∧ (Lnw v3.toInt (o0.1 3).toInt (r.2.1 3).toInt (r.2.2.2 4)) ∧ (Sbj v1.toInt v2.toInt (o0.1 3).toInt (r.2.1 3).toInt (o0.2.1 2) (o0.2.2 4) (r.2.2.2 4)) ∧ True
def HCu_joinAll (yv1 : Int32) (yv2 : Int32) (yv3 : Int32) (yv4 : Int32) (yo0 : cf_O) (n : Nat) : Prop := (∀ (v1 : Int32) (v2 : Int32) (v3 : Int32) (v4 : Int32) (v5 : Int64) (v7 : Int32) (o0 : cf_O), (okO I_Cu o0) → (Fr (fr_M [3, 4, 5] [] [4, 5]) yo0 o0) → ((1 : Int) ≤ v1.toInt ∧ v1.toInt ≤ 208) → ((1 : Int) ≤ v2.toInt ∧ v2.toInt ≤ 208) → ((2 : Int) ≤ v3.toInt ∧ v3.toInt ≤ 5) → ((1 : Int) ≤ v4.toInt ∧ v4.toInt ≤ 62608) → ((0 : Int) ≤ v7.toInt ∧ v7.toInt ≤ 62909) → ((0 : Int) ≤ (o0.1 0).toInt ∧ (o0.1 0).toInt ≤ 0) → ((1 : Int) ≤ (o0.1 3).toInt ∧ (o0.1 3).toInt ≤ 62909) → (Sy v1.toInt v2.toInt v4.toInt (o0.2.1 2)) → (Kw v4.toInt (o0.1 3).toInt (o0.2.2 4)) → (Pe (yo0.1 3).toInt (yo0.2.2 4) (o0.2.2 4)) → ((v1 = yv1 ∧ v2 = yv2 ∧ v3 = yv3 ∧ v4 = yv4)) → (Pe (yo0.1 3).toInt (yo0.2.2 5) (o0.2.2 5)) → (Lim v5 v3.toInt) → ((o0.1 3).toInt ≤ (o0.1 4).toInt) → ((o0.1 4).toInt = (o0.1 5).toInt) → (v4.toInt ≤ (o0.1 3).toInt) → ((o0.1 3).toInt ≤ v4.toInt + 300) → ((yo0.1 3).toInt ≤ (o0.1 3).toInt) → (v4.toInt = yv4.toInt) → (v3.toInt = yv3.toInt) → (Jqa v1.toInt v2.toInt v3.toInt v4.toInt (yo0.1 3).toInt (o0.1 3).toInt v7.toInt (o0.2.1 2) (yo0.2.2 4) (yo0.2.2 5)) → (Lnw v3.toInt (yo0.1 3).toInt (o0.1 3).toInt (o0.2.2 4)) → (Sbj v1.toInt v2.toInt (yo0.1 3).toInt (o0.1 3).toInt (o0.2.1 2) (yo0.2.2 4) (o0.2.2 4)) → (Rwi v1.toInt v7.toInt (o0.2.1 2)) → (v4.toInt ≤ (yo0.1 3).toInt) → 0 + (62909 - v7.toInt) * 125822 < (n : Int) → tt (gCu_joinAll n 0 v1 v2 v3 v4 v5 v7 0 o0) (QCu_joinAll yv1 yv2 yv3 yv4 yo0)) ∧ (∀ (v1 : Int32) (v2 : Int32) (v3 : Int32) (v4 : Int32) (v5 : Int64) (v7 : Int32) (v8 : Int32) (o0 : cf_O), (okO I_Cu o0) → (Fr (fr_M [3, 4, 5] [] [4, 5]) yo0 o0) → ((1 : Int) ≤ v1.toInt ∧ v1.toInt ≤ 208) → ((1 : Int) ≤ v2.toInt ∧ v2.toInt ≤ 208) → ((2 : Int) ≤ v3.toInt ∧ v3.toInt ≤ 5) → ((1 : Int) ≤ v4.toInt ∧ v4.toInt ≤ 62608) → ((0 : Int) ≤ v7.toInt ∧ v7.toInt ≤ 62908) → ((0 : Int) ≤ v8.toInt ∧ v8.toInt ≤ 62909) → ((0 : Int) ≤ (o0.1 0).toInt ∧ (o0.1 0).toInt ≤ 0) → ((1 : Int) ≤ (o0.1 3).toInt ∧ (o0.1 3).toInt ≤ 62909) → (Sy v1.toInt v2.toInt v4.toInt (o0.2.1 2)) → (Kw v4.toInt (o0.1 3).toInt (o0.2.2 4)) → (Pe (yo0.1 3).toInt (yo0.2.2 4) (o0.2.2 4)) → ((v1 = yv1 ∧ v2 = yv2 ∧ v3 = yv3 ∧ v4 = yv4)) → (Pe (yo0.1 3).toInt (yo0.2.2 5) (o0.2.2 5)) → (Lim v5 v3.toInt) → ((o0.1 3).toInt ≤ (o0.1 4).toInt) → ((o0.1 4).toInt = (o0.1 5).toInt) → (v4.toInt ≤ (o0.1 3).toInt) → ((o0.1 3).toInt ≤ v4.toInt + 300) → ((yo0.1 3).toInt ≤ (o0.1 3).toInt) → (v4.toInt = yv4.toInt) → (v3.toInt = yv3.toInt) → (Jqb v1.toInt v2.toInt v3.toInt v4.toInt (yo0.1 3).toInt (o0.1 3).toInt v7.toInt v8.toInt (o0.2.1 2) (yo0.2.2 4) (yo0.2.2 5)) → (v7.toInt < v4.toInt - 1) → (Lnw v3.toInt (yo0.1 3).toInt (o0.1 3).toInt (o0.2.2 4)) → (Sbj v1.toInt v2.toInt (yo0.1 3).toInt (o0.1 3).toInt (o0.2.1 2) (yo0.2.2 4) (o0.2.2 4)) → (Rwj v1.toInt v7.toInt (o0.2.1 2)) → (Rwi v2.toInt v8.toInt (o0.2.1 2)) → (v4.toInt ≤ (yo0.1 3).toInt) → 0 + (62909 - v7.toInt - 1) * 125822 + 1 + (62909 - v8.toInt) * 2 < (n : Int) → tt (gCu_joinAll n 1 v1 v2 v3 v4 v5 v7 v8 o0) (QCu_joinAll yv1 yv2 yv3 yv4 yo0))
set_option maxHeartbeats 4000000 in
set_option maxRecDepth 100000 in
theorem tCu_joinAll_50 {yv1 : Int32} {yv2 : Int32} {yv3 : Int32} {yv4 : Int32} {yo0 : cf_O} {n : Nat} (H : HCu_joinAll yv1 yv2 yv3 yv4 yo0 n) (v1 : Int32) (v2 : Int32) (v3 : Int32) (v4 : Int32) (v5 : Int64) (v7 : Int32) (v8 : Int32) (o0 : cf_O) (k_o0 : okO I_Cu o0) (r_o0 : Fr (fr_M [3, 4, 5] [] [4, 5]) yo0 o0) (i_v1 : (1 : Int) ≤ v1.toInt ∧ v1.toInt ≤ 208) (i_v2 : (1 : Int) ≤ v2.toInt ∧ v2.toInt ≤ 208) (i_v3 : (2 : Int) ≤ v3.toInt ∧ v3.toInt ≤ 5) (i_v4 : (1 : Int) ≤ v4.toInt ∧ v4.toInt ≤ 62608) (i_v7 : (0 : Int) ≤ v7.toInt ∧ v7.toInt ≤ 62908) (i_v8 : (0 : Int) ≤ v8.toInt ∧ v8.toInt ≤ 62909) (f_o0_0 : (0 : Int) ≤ (o0.1 0).toInt ∧ (o0.1 0).toInt ≤ 0) (f_o0_3 : (1 : Int) ≤ (o0.1 3).toInt ∧ (o0.1 3).toInt ≤ 62909) (x_0 : Sy v1.toInt v2.toInt v4.toInt (o0.2.1 2)) (x_1 : Kw v4.toInt (o0.1 3).toInt (o0.2.2 4)) (x_2 : Pe (yo0.1 3).toInt (yo0.2.2 4) (o0.2.2 4)) (x_3 : (v1 = yv1 ∧ v2 = yv2 ∧ v3 = yv3 ∧ v4 = yv4)) (x_4 : Pe (yo0.1 3).toInt (yo0.2.2 5) (o0.2.2 5)) (x_5 : Lim v5 v3.toInt) (x_6 : (o0.1 3).toInt ≤ (o0.1 4).toInt) (x_7 : (o0.1 4).toInt = (o0.1 5).toInt) (x_8 : v4.toInt ≤ (o0.1 3).toInt) (x_9 : (o0.1 3).toInt ≤ v4.toInt + 300) (x_10 : (yo0.1 3).toInt ≤ (o0.1 3).toInt) (x_11 : v4.toInt = yv4.toInt) (x_12 : v3.toInt = yv3.toInt) (x_13 : Jqb v1.toInt v2.toInt v3.toInt v4.toInt (yo0.1 3).toInt (o0.1 3).toInt v7.toInt v8.toInt (o0.2.1 2) (yo0.2.2 4) (yo0.2.2 5)) (x_14 : v7.toInt < v4.toInt - 1) (x_15 : Lnw v3.toInt (yo0.1 3).toInt (o0.1 3).toInt (o0.2.2 4)) (x_16 : Sbj v1.toInt v2.toInt (yo0.1 3).toInt (o0.1 3).toInt (o0.2.1 2) (yo0.2.2 4) (o0.2.2 4)) (x_17 : Rwj v1.toInt v7.toInt (o0.2.1 2)) (x_18 : Rwi v2.toInt v8.toInt (o0.2.1 2)) (x_19 : v4.toInt ≤ (yo0.1 3).toInt) (hm : 0 + (62909 - v7.toInt - 1) * 125822 + 1 + (62909 - v8.toInt) * 2 ≤ (n : Int)) : tt (fCu_joinAll_50 (gCu_joinAll n) v1 v2 v3 v4 v5 v7 v8 o0) (QCu_joinAll yv1 yv2 yv3 yv4 yo0) := by
  unfold fCu_joinAll_50
  have g_o0_4 : (1024 : Int) ≤ (o0.1 4).toInt ∧ (o0.1 4).toInt ≤ 131072 := k_o0.1 4
  have g_o0_5 : (1024 : Int) ≤ (o0.1 5).toInt ∧ (o0.1 5).toInt ≤ 131072 := k_o0.1 5
  refine tt_kv (P := fun z => ((2 : Int) ≤ z.toInt ∧ z.toInt ≤ 209) ∧ z = (v2 + 1) ∧ z.toInt = v2.toInt + 1) ⟨iv_add i_v2 (show (1 : Int) ≤ (1 : Int32).toInt ∧ (1 : Int32).toInt ≤ 1 by decide) (by decide) (by decide) (by decide) (by decide), rfl, iq_add i_v2 (show (1 : Int) ≤ (1 : Int32).toInt ∧ (1 : Int32).toInt ≤ 1 by decide) (by decide) (by decide)⟩ (fun x1 qi2 => ?_)
  obtain ⟨i2, ax1, ei2⟩ := qi2
  refine tt_n (ix_ok i2 (by decide) (by decide)) ?_
  refine tt_kv (P := fun z => ((0 : Int) ≤ z.toInt ∧ z.toInt ≤ 62909) ∧ z = (o0.2.1 2 x1.toNatClampNeg) ∧ z.toInt = (o0.2.1 2 x1.toNatClampNeg).toInt) ⟨(k_o0.2 2 _), rfl, rfl⟩ (fun x3 qi4 => ?_)
  obtain ⟨i4, ax3, ei4⟩ := qi4
  have t5 := tn_n x1
  have t6 := x_0 (x1.toNatClampNeg) (by rw [tn_n]; omega)
  refine tt_if (fun c7 => ?_) (fun c7 => ?_)
  · have wc7 : x3.toInt ≤ v8.toInt := c_le c7
    try unfold fCu_joinAll_185
    refine tt_kv (P := fun z => ((1 : Int) ≤ z.toInt ∧ z.toInt ≤ 62909) ∧ z = (v7 + 1) ∧ z.toInt = v7.toInt + 1) ⟨iv_add i_v7 (show (1 : Int) ≤ (1 : Int32).toInt ∧ (1 : Int32).toInt ≤ 1 by decide) (by decide) (by decide) (by decide) (by decide), rfl, iq_add i_v7 (show (1 : Int) ≤ (1 : Int32).toInt ∧ (1 : Int32).toInt ≤ 1 by decide) (by decide) (by decide)⟩ (fun x8 qi9 => ?_)
    obtain ⟨i9, ax8, ei9⟩ := qi9
    have p10 : Jqa v1.toInt v2.toInt v3.toInt v4.toInt (yo0.1 3).toInt (o0.1 3).toInt x8.toInt (o0.2.1 2) (yo0.2.2 4) (yo0.2.2 5) := by first | exact Jqb_x (s := x3) (k := x1.toNatClampNeg) x_13 (by rw [tn_n]; omega) (by assumption) (by omega) | fail
    have p11 : Rwi v1.toInt x8.toInt (o0.2.1 2) := by exact Rwi_n x_17.1 (by omega)
    exact H.1 _ _ _ _ _ _ _ k_o0 r_o0 i_v1 i_v2 i_v3 i_v4 (iv_w (a := 0) (b := 62909) (by decide) (by decide) i9) f_o0_0 f_o0_3 x_0 x_1 x_2 x_3 x_4 x_5 (show (o0.1 3).toInt ≤ (o0.1 4).toInt by omega) (show (o0.1 4).toInt = (o0.1 5).toInt by omega) (show v4.toInt ≤ (o0.1 3).toInt by omega) (show (o0.1 3).toInt ≤ v4.toInt + 300 by omega) (show (yo0.1 3).toInt ≤ (o0.1 3).toInt by omega) (show v4.toInt = yv4.toInt by omega) (show v3.toInt = yv3.toInt by omega) p10 x_15 x_16 p11 (show v4.toInt ≤ (yo0.1 3).toInt by omega) (show 0 + (62909 - x8.toInt) * 125822 < (n : Int) by omega)
  · have wc7 : v8.toInt < x3.toInt := c_nle c7
    have i12 : (0 : Int) ≤ v8.toInt ∧ v8.toInt ≤ 62908 := nr_nlel c7 i_v8 i4 (by decide) (by decide)
    have i13 : (1 : Int) ≤ x3.toInt ∧ x3.toInt ≤ 62909 := nr_nler c7 i_v8 i4 (by decide) (by decide)
    refine tt_n (ix_v (x := v8) (l := (o0.1 4)) (by omega) (by omega)) ?_
    refine tt_klr (fun x14 ax14 => ?_)
    refine tt_kv (P := fun z => (((-2147483648) : Int) ≤ z.toInt ∧ z.toInt ≤ 2147483647) ∧ z = (lg_cmp x14 v5)) ⟨iv_top _, rfl⟩ (fun x15 qi16 => ?_)
    obtain ⟨i16, ax15⟩ := qi16
    refine tt_if (fun c17 => ?_) (fun c17 => ?_)
    · have wc17 : (0 : Int) ≤ x15.toInt := c_le c17
      have i18 : (0 : Int) ≤ x15.toInt ∧ x15.toInt ≤ 2147483647 := nr_ler c17 (show (0 : Int) ≤ (0 : Int32).toInt ∧ (0 : Int32).toInt ≤ 0 by decide) i16 (by decide) (by decide)
      try unfold fCu_joinAll_185
      refine tt_kv (P := fun z => ((1 : Int) ≤ z.toInt ∧ z.toInt ≤ 62909) ∧ z = (v7 + 1) ∧ z.toInt = v7.toInt + 1) ⟨iv_add i_v7 (show (1 : Int) ≤ (1 : Int32).toInt ∧ (1 : Int32).toInt ≤ 1 by decide) (by decide) (by decide) (by decide) (by decide), rfl, iq_add i_v7 (show (1 : Int) ≤ (1 : Int32).toInt ∧ (1 : Int32).toInt ≤ 1 by decide) (by decide) (by decide)⟩ (fun x19 qi20 => ?_)
      obtain ⟨i20, ax19, ei20⟩ := qi20
      have p21 : Jqa v1.toInt v2.toInt v3.toInt v4.toInt (yo0.1 3).toInt (o0.1 3).toInt x19.toInt (o0.2.1 2) (yo0.2.2 4) (yo0.2.2 5) := by first | exact Jqb_x (s := x3) (k := x1.toNatClampNeg) x_13 (by rw [tn_n]; omega) (by assumption) (by omega) | exact Jqb_l (a := x14) (c := x15) (n := v8.toNatClampNeg) x_13 x_2 x_5 (by rw [tn_n]; omega) (by assumption) (by assumption) (by omega)
      have p22 : Rwi v1.toInt x19.toInt (o0.2.1 2) := by exact Rwi_n x_17.1 (by omega)
      exact H.1 _ _ _ _ _ _ _ k_o0 r_o0 i_v1 i_v2 i_v3 i_v4 (iv_w (a := 0) (b := 62909) (by decide) (by decide) i20) f_o0_0 f_o0_3 x_0 x_1 x_2 x_3 x_4 x_5 (show (o0.1 3).toInt ≤ (o0.1 4).toInt by omega) (show (o0.1 4).toInt = (o0.1 5).toInt by omega) (show v4.toInt ≤ (o0.1 3).toInt by omega) (show (o0.1 3).toInt ≤ v4.toInt + 300 by omega) (show (yo0.1 3).toInt ≤ (o0.1 3).toInt by omega) (show v4.toInt = yv4.toInt by omega) (show v3.toInt = yv3.toInt by omega) p21 x_15 x_16 p22 (show v4.toInt ≤ (yo0.1 3).toInt by omega) (show 0 + (62909 - x19.toInt) * 125822 < (n : Int) by omega)
    · have wc17 : x15.toInt < (0 : Int) := c_nle c17
      have i23 : ((-2147483648) : Int) ≤ x15.toInt ∧ x15.toInt ≤ (-1) := nr_nlel c17 i16 (show (0 : Int) ≤ (0 : Int32).toInt ∧ (0 : Int32).toInt ≤ 0 by decide) (by decide) (by decide)
      refine tt_n (ix_v (x := v7) (l := (o0.1 5)) (by omega) (by omega)) ?_
      refine tt_klr (fun x24 ax24 => ?_)
      refine tt_n (ix_v (x := v8) (l := (o0.1 5)) (by omega) (by omega)) ?_
      refine tt_klr (fun x25 ax25 => ?_)
      refine tt_klr (fun x26 ax26 => ?_)
      refine tt_be (sJLong_bitCount_J _ ) (fun q27 hq27 eq27 => ?_)
      obtain ⟨i_q27, -⟩ := hq27
      try unfold fCu_joinAll_98
      refine tt_if (fun c28 => ?_) (fun c28 => ?_)
      · have wc28 : q27.toInt ≤ v3.toInt := c_le c28
        have i29 : (0 : Int) ≤ q27.toInt ∧ q27.toInt ≤ 5 := nr_lel c28 i_q27 i_v3 (by decide) (by decide)
        refine tt_n (ix_v (x := v7) (l := (o0.1 4)) (by omega) (by omega)) ?_
        refine tt_klr (fun x30 ax30 => ?_)
        refine tt_n (ix_v (x := v8) (l := (o0.1 4)) (by omega) (by omega)) ?_
        refine tt_klr (fun x31 ax31 => ?_)
        refine tt_be (sCu_join _ _ _ (iv_w (a := 0) (b := 5) (by decide) (by decide) i_v3)) (fun q32 hq32 eq32 => ?_)
        have t33 := Kj (i := v7.toNatClampNeg) (j := v8.toNatClampNeg) x_1 (by rw [tn_n]; omega) (by rw [tn_n]; omega) (by rw [tn_n]; omega) (by rw [tn_n]; omega) (by assumption) (by assumption) (by omega) (by omega) eq32
        have t34 := Kj2 (i := v7.toNatClampNeg) (j := v8.toNatClampNeg) x_1 (by rw [tn_n]; omega) (by rw [tn_n]; omega) (by rw [tn_n]; omega) (by rw [tn_n]; omega) (by assumption) (by assumption) (by omega) (by omega) eq32
        have t35 := Kj3 (i := v7.toNatClampNeg) (j := v8.toNatClampNeg) x_1 (by rw [tn_n]; omega) (by rw [tn_n]; omega) (by rw [tn_n]; omega) (by rw [tn_n]; omega) (by assumption) (by assumption) (by omega) (by omega) eq32
        try unfold fCu_joinAll_124
        refine tt_kv (P := fun z => ((1 : Int) ≤ z.toInt ∧ z.toInt ≤ 4) ∧ z = (v3 - 1) ∧ z.toInt = v3.toInt - 1) ⟨iv_sub i_v3 (show (1 : Int) ≤ (1 : Int32).toInt ∧ (1 : Int32).toInt ≤ 1 by decide) (by decide) (by decide) (by decide) (by decide), rfl, iq_sub i_v3 (show (1 : Int) ≤ (1 : Int32).toInt ∧ (1 : Int32).toInt ≤ 1 by decide) (by decide) (by decide)⟩ (fun x36 qi37 => ?_)
        obtain ⟨i37, ax36, ei37⟩ := qi37
        refine tt_kv (P := fun z => ((8 : Int) ≤ z.toInt ∧ z.toInt ≤ 32) ∧ z = (8 * x36) ∧ z.toInt = 8 * x36.toInt) ⟨iv_mul (show (8 : Int) ≤ (8 : Int32).toInt ∧ (8 : Int32).toInt ≤ 8 by decide) i37 (by decide) (by decide) (by decide) (by decide) (by decide), rfl, iq_mul (show (8 : Int) ≤ (8 : Int32).toInt ∧ (8 : Int32).toInt ≤ 8 by decide) i37 (by decide) (by decide) (by decide) (by decide)⟩ (fun x38 qi39 => ?_)
        obtain ⟨i39, ax38, ei39⟩ := qi39
        refine tt_klr (fun x40 ax40 => ?_)
        refine tt_kv (P := fun z => (((-2147483648) : Int) ≤ z.toInt ∧ z.toInt ≤ 2147483647) ∧ z = (lg_cmp x40 (0 : Int64))) ⟨iv_top _, rfl⟩ (fun x41 qi42 => ?_)
        obtain ⟨i42, ax41⟩ := qi42
        refine tt_if (fun c43 => ?_) (fun c43 => ?_)
        · have wc43 : x41.toInt = (0 : Int) := c_eq c43
          have i44 : (0 : Int) ≤ x41.toInt ∧ x41.toInt ≤ 0 := nr_eql c43 i42 (show (0 : Int) ≤ (0 : Int32).toInt ∧ (0 : Int32).toInt ≤ 0 by decide) (by decide) (by decide)
          try unfold fCu_joinAll_179
          refine tt_kv (P := fun z => ((1 : Int) ≤ z.toInt ∧ z.toInt ≤ 62909) ∧ z = (v8 + 1) ∧ z.toInt = v8.toInt + 1) ⟨iv_add i12 (show (1 : Int) ≤ (1 : Int32).toInt ∧ (1 : Int32).toInt ≤ 1 by decide) (by decide) (by decide) (by decide) (by decide), rfl, iq_add i12 (show (1 : Int) ≤ (1 : Int32).toInt ∧ (1 : Int32).toInt ≤ 1 by decide) (by decide) (by decide)⟩ (fun x45 qi46 => ?_)
          obtain ⟨i46, ax45, ei46⟩ := qi46
          have p47 : Jqb v1.toInt v2.toInt v3.toInt v4.toInt (yo0.1 3).toInt (o0.1 3).toInt v7.toInt x45.toInt (o0.2.1 2) (yo0.2.2 4) (yo0.2.2 5) := by first | exact fun _ => Or.inl (by omega) | exact Jqb_c (ni := v7.toNatClampNeg) (nj := v8.toNatClampNeg) x_13 x_4 (by rw [tn_n]; omega) (by rw [tn_n]; omega) (by assumption) (by assumption) (by assumption) eq27 (by omega) | exact Jqb_j (ni := v7.toNatClampNeg) (nj := v8.toNatClampNeg) (sh := x38) (s := x40) (c := x41) x_13 x_2 (by rw [tn_n]; omega) (by rw [tn_n]; omega) (by assumption) (by assumption) eq32 (by omega) (by assumption) (by assumption) (by omega)
          have p48 : Rwi v2.toInt x45.toInt (o0.2.1 2) := by exact Rwi_n x_18 (by omega)
          exact H.2 _ _ _ _ _ _ _ _ k_o0 r_o0 i_v1 i_v2 i_v3 i_v4 i_v7 (iv_w (a := 0) (b := 62909) (by decide) (by decide) i46) f_o0_0 f_o0_3 x_0 x_1 x_2 x_3 x_4 x_5 (show (o0.1 3).toInt ≤ (o0.1 4).toInt by omega) (show (o0.1 4).toInt = (o0.1 5).toInt by omega) (show v4.toInt ≤ (o0.1 3).toInt by omega) (show (o0.1 3).toInt ≤ v4.toInt + 300 by omega) (show (yo0.1 3).toInt ≤ (o0.1 3).toInt by omega) (show v4.toInt = yv4.toInt by omega) (show v3.toInt = yv3.toInt by omega) p47 (show v7.toInt < v4.toInt - 1 by omega) x_15 x_16 x_17 p48 (show v4.toInt ≤ (yo0.1 3).toInt by omega) (show 0 + (62909 - v7.toInt - 1) * 125822 + 1 + (62909 - x45.toInt) * 2 < (n : Int) by omega)
        · have wc43 : ¬ x41.toInt = (0 : Int) := c_ne c43
          refine tt_b (sCu_hasPart _ _ _ _ k_o0 (iv_w (a := 0) (b := 62909) (by decide) (by decide) i_v4) f_o0_0 f_o0_3 (show (o0.1 3).toInt ≤ (o0.1 4).toInt by omega) (show (o0.1 4).toInt = (o0.1 5).toInt by omega)) (fun q49 hq49 => ?_)
          obtain ⟨i_q49, zq49_0, -⟩ := hq49
          have zq49_0 : q49.toInt = 0 ∨ v4.toInt < (o0.1 3).toInt := zq49_0
          try unfold fCu_joinAll_150
          refine tt_if (fun c50 => ?_) (fun c50 => ?_)
          · have wc50 : q49.toInt = (0 : Int) := c_eq c50
            have i51 : (0 : Int) ≤ q49.toInt ∧ q49.toInt ≤ 0 := nr_eql c50 i_q49 (show (0 : Int) ≤ (0 : Int32).toInt ∧ (0 : Int32).toInt ≤ 0 by decide) (by decide) (by decide)
            refine tt_kv (P := fun z => (((-62607) : Int) ≤ z.toInt ∧ z.toInt ≤ 62908) ∧ z = ((o0.1 3) - v4) ∧ z.toInt = (o0.1 3).toInt - v4.toInt) ⟨iv_sub f_o0_3 i_v4 (by decide) (by decide) (by decide) (by decide), rfl, iq_sub f_o0_3 i_v4 (by decide) (by decide)⟩ (fun x52 qi53 => ?_)
            obtain ⟨i53, ax52, ei53⟩ := qi53
            refine tt_if (fun c54 => ?_) (fun c54 => ?_)
            · have wc54 : x52.toInt = (300 : Int) := c_eq c54
              have i55 : (300 : Int) ≤ x52.toInt ∧ x52.toInt ≤ 300 := nr_eql c54 i53 (show (300 : Int) ≤ (300 : Int32).toInt ∧ (300 : Int32).toInt ≤ 300 by decide) (by decide) (by decide)
              have p56 : Kw yv4.toInt (o0.1 3).toInt (o0.2.2 4) := by rw [← x_3.2.2.2]; exact x_1
              have p57 : Jqp yv1.toInt yv2.toInt yv3.toInt yv4.toInt (yo0.1 3).toInt (o0.1 3).toInt 0 (yo0.2.1 2) (yo0.2.2 4) (yo0.2.2 5) := by exact fun _ => Or.inl rfl
              have p58 : Lnw yv3.toInt (yo0.1 3).toInt (o0.1 3).toInt (o0.2.2 4) := by rw [← x_3.2.2.1]; exact x_15
              have p59 : Sbj yv1.toInt yv2.toInt (yo0.1 3).toInt (o0.1 3).toInt (yo0.2.1 2) (yo0.2.2 4) (o0.2.2 4) := by rw [← x_3.1, ← x_3.2.1, ← r_o0.2.1 2 rfl]; exact x_16
              exact tt_some ⟨(iv_w (a := 0) (b := 1) (by decide) (by decide) (show (0 : Int) ≤ (0 : Int32).toInt ∧ (0 : Int32).toInt ≤ 0 by decide)), k_o0, r_o0, f_o0_3, p56, x_2, (show (o0.1 3).toInt ≤ (o0.1 4).toInt by omega), (show (o0.1 4).toInt = (o0.1 5).toInt by omega), (show (yo0.1 3).toInt ≤ (o0.1 3).toInt by omega), (show yv4.toInt ≤ (o0.1 3).toInt by omega), (show (o0.1 3).toInt ≤ yv4.toInt + 300 by omega), p57, x_4, p58, p59, trivial⟩
            · have wc54 : ¬ x52.toInt = (300 : Int) := c_ne c54
              refine tt_b (sCu_add _ _ _ k_o0 f_o0_0 (show (o0.1 3).toInt ≤ (o0.1 4).toInt by omega) (show (o0.1 4).toInt = (o0.1 5).toInt by omega) (show (o0.1 3).toInt ≤ 62907 by omega)) (fun q60 hq60 => ?_)
              obtain ⟨k_q60, n_q60, f_q60_3, zq60_0, zq60_1, zq60_2, zq60_3, zq60_4, zq60_5, -⟩ := hq60
              have r_q60 := fr_tr r_o0 n_q60 rfl rfl rfl
              have f_q60_0 : (0 : Int) ≤ (q60.1 0).toInt ∧ (q60.1 0).toInt ≤ 0 := by rw [n_q60.1 0 rfl]; exact f_o0_0
              have g_q60_4 : (1024 : Int) ≤ (q60.1 4).toInt ∧ (q60.1 4).toInt ≤ 131072 := k_q60.1 4
              have g_q60_5 : (1024 : Int) ≤ (q60.1 5).toInt ∧ (q60.1 5).toInt ≤ 131072 := k_q60.1 5
              have zq60_0 : (q60.1 3).toInt = (o0.1 3).toInt + 1 := zq60_0
              have zq60_1 : (q60.1 3).toInt ≤ (q60.1 4).toInt := zq60_1
              have zq60_2 : (q60.1 4).toInt = (q60.1 5).toInt := zq60_2
              have zq60_3 : (o0.1 4).toInt ≤ (q60.1 4).toInt := zq60_3
              have u61 : Sy v1.toInt v2.toInt v4.toInt (q60.2.1 2) := by rw [n_q60.2.1 2 rfl]; exact x_0
              have u62 : Rwj v1.toInt v7.toInt (q60.2.1 2) := by rw [n_q60.2.1 2 rfl]; exact x_17
              have u63 : Rwi v2.toInt v8.toInt (q60.2.1 2) := by rw [n_q60.2.1 2 rfl]; exact x_18
              try unfold fCu_joinAll_179
              refine tt_kv (P := fun z => ((1 : Int) ≤ z.toInt ∧ z.toInt ≤ 62909) ∧ z = (v8 + 1) ∧ z.toInt = v8.toInt + 1) ⟨iv_add i12 (show (1 : Int) ≤ (1 : Int32).toInt ∧ (1 : Int32).toInt ≤ 1 by decide) (by decide) (by decide) (by decide) (by decide), rfl, iq_add i12 (show (1 : Int) ≤ (1 : Int32).toInt ∧ (1 : Int32).toInt ≤ 1 by decide) (by decide) (by decide)⟩ (fun x64 qi65 => ?_)
              obtain ⟨i65, ax64, ei65⟩ := qi65
              have p66 : Kw v4.toInt (q60.1 3).toInt (q60.2.2 4) := by first | exact Kw_a x_1 (show Adp _ _ (o0.2.2 4) _ by assumption) (show Cnn _ _ by assumption) (by omega) (by omega) (by omega) | exact Kw_a x_1 (show Adp _ _ (o0.2.2 4) _ by assumption) Cn_0 (by omega) (by omega) (by omega)
              have p67 : Pe (yo0.1 3).toInt (yo0.2.2 4) (q60.2.2 4) := by exact Pe_a x_2 (show Adp _ _ (o0.2.2 4) _ by assumption) (by omega)
              have p68 : Pe (yo0.1 3).toInt (yo0.2.2 5) (q60.2.2 5) := by exact Pe_a x_4 (show Adp _ _ (o0.2.2 5) _ by assumption) (by omega)
              have p69 : Jqb v1.toInt v2.toInt v3.toInt v4.toInt (yo0.1 3).toInt (q60.1 3).toInt v7.toInt x64.toInt (q60.2.1 2) (yo0.2.2 4) (yo0.2.2 5) := by exact fun _ => Or.inl (by omega)
              have p70 : Lnw v3.toInt (yo0.1 3).toInt (q60.1 3).toInt (q60.2.2 4) := by first | exact x_15 | exact Lnw_a x_15 (show Adp _ _ (o0.2.2 4) _ by assumption) (show nv _ < _ by assumption) (by omega) (by omega) | exact Lnw_a x_15 (show Adp _ _ (o0.2.2 4) _ by assumption) pw_0 (by omega) (by omega)
              have p71 : Sbj v1.toInt v2.toInt (yo0.1 3).toInt (q60.1 3).toInt (q60.2.1 2) (yo0.2.2 4) (q60.2.2 4) := by rw [n_q60.2.1 2 rfl]; first | exact Sbj_a (i := v7.toNatClampNeg) (j := v8.toNatClampNeg) x_16 (show Adp _ _ (o0.2.2 4) _ by assumption) (show Sbq _ _ _ by assumption) x_17 (Rwj_i x_18 (show _ = o0.2.1 2 _ by assumption) (by rw [tn_n]; omega) (by omega) (by omega)) x_2 (by rw [tn_n]; omega) (by rw [tn_n]; omega) (by omega) (by omega) (by omega) (by omega) | exact Sbj_a (i := v7.toNatClampNeg) (j := v8.toNatClampNeg) x_16 (show Adp _ _ (o0.2.2 4) _ by assumption) Sbq_0 x_17 (Rwj_i x_18 (show _ = o0.2.1 2 _ by assumption) (by rw [tn_n]; omega) (by omega) (by omega)) x_2 (by rw [tn_n]; omega) (by rw [tn_n]; omega) (by omega) (by omega) (by omega) (by omega)
              have p72 : Rwi v2.toInt x64.toInt (q60.2.1 2) := by rw [n_q60.2.1 2 rfl]; exact Rwi_n x_18 (by omega)
              exact H.2 _ _ _ _ _ _ _ _ k_q60 r_q60 i_v1 i_v2 i_v3 i_v4 i_v7 (iv_w (a := 0) (b := 62909) (by decide) (by decide) i65) f_q60_0 f_q60_3 u61 p66 p67 x_3 p68 x_5 (show (q60.1 3).toInt ≤ (q60.1 4).toInt by omega) (show (q60.1 4).toInt = (q60.1 5).toInt by omega) (show v4.toInt ≤ (q60.1 3).toInt by omega) (show (q60.1 3).toInt ≤ v4.toInt + 300 by omega) (show (yo0.1 3).toInt ≤ (q60.1 3).toInt by omega) (show v4.toInt = yv4.toInt by omega) (show v3.toInt = yv3.toInt by omega) p69 (show v7.toInt < v4.toInt - 1 by omega) p70 p71 u62 p72 (show v4.toInt ≤ (yo0.1 3).toInt by omega) (show 0 + (62909 - v7.toInt - 1) * 125822 + 1 + (62909 - x64.toInt) * 2 < (n : Int) by omega)
          · have wc50 : ¬ q49.toInt = (0 : Int) := c_ne c50
            have i73 : (1 : Int) ≤ q49.toInt ∧ q49.toInt ≤ 1 := nr_nela c50 i_q49 (show (0 : Int) ≤ (0 : Int32).toInt ∧ (0 : Int32).toInt ≤ 0 by decide) (by decide) (by decide)
            try unfold fCu_joinAll_179
            refine tt_kv (P := fun z => ((1 : Int) ≤ z.toInt ∧ z.toInt ≤ 62909) ∧ z = (v8 + 1) ∧ z.toInt = v8.toInt + 1) ⟨iv_add i12 (show (1 : Int) ≤ (1 : Int32).toInt ∧ (1 : Int32).toInt ≤ 1 by decide) (by decide) (by decide) (by decide) (by decide), rfl, iq_add i12 (show (1 : Int) ≤ (1 : Int32).toInt ∧ (1 : Int32).toInt ≤ 1 by decide) (by decide) (by decide)⟩ (fun x74 qi75 => ?_)
            obtain ⟨i75, ax74, ei75⟩ := qi75
            have p76 : Jqb v1.toInt v2.toInt v3.toInt v4.toInt (yo0.1 3).toInt (o0.1 3).toInt v7.toInt x74.toInt (o0.2.1 2) (yo0.2.2 4) (yo0.2.2 5) := by first | exact fun _ => Or.inl (by omega) | exact Jqb_c (ni := v7.toNatClampNeg) (nj := v8.toNatClampNeg) x_13 x_4 (by rw [tn_n]; omega) (by rw [tn_n]; omega) (by assumption) (by assumption) (by assumption) eq27 (by omega) | exact Jqb_j (ni := v7.toNatClampNeg) (nj := v8.toNatClampNeg) (sh := x38) (s := x40) (c := x41) x_13 x_2 (by rw [tn_n]; omega) (by rw [tn_n]; omega) (by assumption) (by assumption) eq32 (by omega) (by assumption) (by assumption) (by omega)
            have p77 : Rwi v2.toInt x74.toInt (o0.2.1 2) := by exact Rwi_n x_18 (by omega)
            exact H.2 _ _ _ _ _ _ _ _ k_o0 r_o0 i_v1 i_v2 i_v3 i_v4 i_v7 (iv_w (a := 0) (b := 62909) (by decide) (by decide) i75) f_o0_0 f_o0_3 x_0 x_1 x_2 x_3 x_4 x_5 (show (o0.1 3).toInt ≤ (o0.1 4).toInt by omega) (show (o0.1 4).toInt = (o0.1 5).toInt by omega) (show v4.toInt ≤ (o0.1 3).toInt by omega) (show (o0.1 3).toInt ≤ v4.toInt + 300 by omega) (show (yo0.1 3).toInt ≤ (o0.1 3).toInt by omega) (show v4.toInt = yv4.toInt by omega) (show v3.toInt = yv3.toInt by omega) p76 (show v7.toInt < v4.toInt - 1 by omega) x_15 x_16 x_17 p77 (show v4.toInt ≤ (yo0.1 3).toInt by omega) (show 0 + (62909 - v7.toInt - 1) * 125822 + 1 + (62909 - x74.toInt) * 2 < (n : Int) by omega)
      · have wc28 : v3.toInt < q27.toInt := c_nle c28
        have i78 : (3 : Int) ≤ q27.toInt ∧ q27.toInt ≤ 127 := nr_nler c28 i_v3 i_q27 (by decide) (by decide)
        try unfold fCu_joinAll_124
        refine tt_kv (P := fun z => ((1 : Int) ≤ z.toInt ∧ z.toInt ≤ 4) ∧ z = (v3 - 1) ∧ z.toInt = v3.toInt - 1) ⟨iv_sub i_v3 (show (1 : Int) ≤ (1 : Int32).toInt ∧ (1 : Int32).toInt ≤ 1 by decide) (by decide) (by decide) (by decide) (by decide), rfl, iq_sub i_v3 (show (1 : Int) ≤ (1 : Int32).toInt ∧ (1 : Int32).toInt ≤ 1 by decide) (by decide) (by decide)⟩ (fun x79 qi80 => ?_)
        obtain ⟨i80, ax79, ei80⟩ := qi80
        refine tt_kv (P := fun z => ((8 : Int) ≤ z.toInt ∧ z.toInt ≤ 32) ∧ z = (8 * x79) ∧ z.toInt = 8 * x79.toInt) ⟨iv_mul (show (8 : Int) ≤ (8 : Int32).toInt ∧ (8 : Int32).toInt ≤ 8 by decide) i80 (by decide) (by decide) (by decide) (by decide) (by decide), rfl, iq_mul (show (8 : Int) ≤ (8 : Int32).toInt ∧ (8 : Int32).toInt ≤ 8 by decide) i80 (by decide) (by decide) (by decide) (by decide)⟩ (fun x81 qi82 => ?_)
        obtain ⟨i82, ax81, ei82⟩ := qi82
        refine tt_klr (fun x83 ax83 => ?_)
        refine tt_kv (P := fun z => (((-2147483648) : Int) ≤ z.toInt ∧ z.toInt ≤ 2147483647) ∧ z = (lg_cmp x83 (0 : Int64))) ⟨iv_top _, rfl⟩ (fun x84 qi85 => ?_)
        obtain ⟨i85, ax84⟩ := qi85
        refine tt_if (fun c86 => ?_) (fun c86 => ?_)
        · have wc86 : x84.toInt = (0 : Int) := c_eq c86
          have i87 : (0 : Int) ≤ x84.toInt ∧ x84.toInt ≤ 0 := nr_eql c86 i85 (show (0 : Int) ≤ (0 : Int32).toInt ∧ (0 : Int32).toInt ≤ 0 by decide) (by decide) (by decide)
          try unfold fCu_joinAll_179
          refine tt_kv (P := fun z => ((1 : Int) ≤ z.toInt ∧ z.toInt ≤ 62909) ∧ z = (v8 + 1) ∧ z.toInt = v8.toInt + 1) ⟨iv_add i12 (show (1 : Int) ≤ (1 : Int32).toInt ∧ (1 : Int32).toInt ≤ 1 by decide) (by decide) (by decide) (by decide) (by decide), rfl, iq_add i12 (show (1 : Int) ≤ (1 : Int32).toInt ∧ (1 : Int32).toInt ≤ 1 by decide) (by decide) (by decide)⟩ (fun x88 qi89 => ?_)
          obtain ⟨i89, ax88, ei89⟩ := qi89
          have p90 : Jqb v1.toInt v2.toInt v3.toInt v4.toInt (yo0.1 3).toInt (o0.1 3).toInt v7.toInt x88.toInt (o0.2.1 2) (yo0.2.2 4) (yo0.2.2 5) := by first | exact fun _ => Or.inl (by omega) | exact Jqb_c (ni := v7.toNatClampNeg) (nj := v8.toNatClampNeg) x_13 x_4 (by rw [tn_n]; omega) (by rw [tn_n]; omega) (by assumption) (by assumption) (by assumption) eq27 (by omega) | exact Jqb_j (ni := v7.toNatClampNeg) (nj := v8.toNatClampNeg) (sh := x81) (s := x83) (c := x84) x_13 x_2 (by rw [tn_n]; omega) (by rw [tn_n]; omega) (by assumption) (by assumption) eq32 (by omega) (by assumption) (by assumption) (by omega)
          have p91 : Rwi v2.toInt x88.toInt (o0.2.1 2) := by exact Rwi_n x_18 (by omega)
          exact H.2 _ _ _ _ _ _ _ _ k_o0 r_o0 i_v1 i_v2 i_v3 i_v4 i_v7 (iv_w (a := 0) (b := 62909) (by decide) (by decide) i89) f_o0_0 f_o0_3 x_0 x_1 x_2 x_3 x_4 x_5 (show (o0.1 3).toInt ≤ (o0.1 4).toInt by omega) (show (o0.1 4).toInt = (o0.1 5).toInt by omega) (show v4.toInt ≤ (o0.1 3).toInt by omega) (show (o0.1 3).toInt ≤ v4.toInt + 300 by omega) (show (yo0.1 3).toInt ≤ (o0.1 3).toInt by omega) (show v4.toInt = yv4.toInt by omega) (show v3.toInt = yv3.toInt by omega) p90 (show v7.toInt < v4.toInt - 1 by omega) x_15 x_16 x_17 p91 (show v4.toInt ≤ (yo0.1 3).toInt by omega) (show 0 + (62909 - v7.toInt - 1) * 125822 + 1 + (62909 - x88.toInt) * 2 < (n : Int) by omega)
        · have wc86 : ¬ x84.toInt = (0 : Int) := c_ne c86
          refine tt_b (sCu_hasPart _ _ _ _ k_o0 (iv_w (a := 0) (b := 62909) (by decide) (by decide) i_v4) f_o0_0 f_o0_3 (show (o0.1 3).toInt ≤ (o0.1 4).toInt by omega) (show (o0.1 4).toInt = (o0.1 5).toInt by omega)) (fun q92 hq92 => ?_)
          obtain ⟨i_q92, zq92_0, -⟩ := hq92
          have zq92_0 : q92.toInt = 0 ∨ v4.toInt < (o0.1 3).toInt := zq92_0
          try unfold fCu_joinAll_150
          refine tt_if (fun c93 => ?_) (fun c93 => ?_)
          · have wc93 : q92.toInt = (0 : Int) := c_eq c93
            have i94 : (0 : Int) ≤ q92.toInt ∧ q92.toInt ≤ 0 := nr_eql c93 i_q92 (show (0 : Int) ≤ (0 : Int32).toInt ∧ (0 : Int32).toInt ≤ 0 by decide) (by decide) (by decide)
            refine tt_kv (P := fun z => (((-62607) : Int) ≤ z.toInt ∧ z.toInt ≤ 62908) ∧ z = ((o0.1 3) - v4) ∧ z.toInt = (o0.1 3).toInt - v4.toInt) ⟨iv_sub f_o0_3 i_v4 (by decide) (by decide) (by decide) (by decide), rfl, iq_sub f_o0_3 i_v4 (by decide) (by decide)⟩ (fun x95 qi96 => ?_)
            obtain ⟨i96, ax95, ei96⟩ := qi96
            refine tt_if (fun c97 => ?_) (fun c97 => ?_)
            · have wc97 : x95.toInt = (300 : Int) := c_eq c97
              have i98 : (300 : Int) ≤ x95.toInt ∧ x95.toInt ≤ 300 := nr_eql c97 i96 (show (300 : Int) ≤ (300 : Int32).toInt ∧ (300 : Int32).toInt ≤ 300 by decide) (by decide) (by decide)
              have p99 : Kw yv4.toInt (o0.1 3).toInt (o0.2.2 4) := by rw [← x_3.2.2.2]; exact x_1
              have p100 : Jqp yv1.toInt yv2.toInt yv3.toInt yv4.toInt (yo0.1 3).toInt (o0.1 3).toInt 0 (yo0.2.1 2) (yo0.2.2 4) (yo0.2.2 5) := by exact fun _ => Or.inl rfl
              have p101 : Lnw yv3.toInt (yo0.1 3).toInt (o0.1 3).toInt (o0.2.2 4) := by rw [← x_3.2.2.1]; exact x_15
              have p102 : Sbj yv1.toInt yv2.toInt (yo0.1 3).toInt (o0.1 3).toInt (yo0.2.1 2) (yo0.2.2 4) (o0.2.2 4) := by rw [← x_3.1, ← x_3.2.1, ← r_o0.2.1 2 rfl]; exact x_16
              exact tt_some ⟨(iv_w (a := 0) (b := 1) (by decide) (by decide) (show (0 : Int) ≤ (0 : Int32).toInt ∧ (0 : Int32).toInt ≤ 0 by decide)), k_o0, r_o0, f_o0_3, p99, x_2, (show (o0.1 3).toInt ≤ (o0.1 4).toInt by omega), (show (o0.1 4).toInt = (o0.1 5).toInt by omega), (show (yo0.1 3).toInt ≤ (o0.1 3).toInt by omega), (show yv4.toInt ≤ (o0.1 3).toInt by omega), (show (o0.1 3).toInt ≤ yv4.toInt + 300 by omega), p100, x_4, p101, p102, trivial⟩
            · have wc97 : ¬ x95.toInt = (300 : Int) := c_ne c97
              refine tt_b (sCu_add _ _ _ k_o0 f_o0_0 (show (o0.1 3).toInt ≤ (o0.1 4).toInt by omega) (show (o0.1 4).toInt = (o0.1 5).toInt by omega) (show (o0.1 3).toInt ≤ 62907 by omega)) (fun q103 hq103 => ?_)
              obtain ⟨k_q103, n_q103, f_q103_3, zq103_0, zq103_1, zq103_2, zq103_3, zq103_4, zq103_5, -⟩ := hq103
              have r_q103 := fr_tr r_o0 n_q103 rfl rfl rfl
              have f_q103_0 : (0 : Int) ≤ (q103.1 0).toInt ∧ (q103.1 0).toInt ≤ 0 := by rw [n_q103.1 0 rfl]; exact f_o0_0
              have g_q103_4 : (1024 : Int) ≤ (q103.1 4).toInt ∧ (q103.1 4).toInt ≤ 131072 := k_q103.1 4
              have g_q103_5 : (1024 : Int) ≤ (q103.1 5).toInt ∧ (q103.1 5).toInt ≤ 131072 := k_q103.1 5
              have zq103_0 : (q103.1 3).toInt = (o0.1 3).toInt + 1 := zq103_0
              have zq103_1 : (q103.1 3).toInt ≤ (q103.1 4).toInt := zq103_1
              have zq103_2 : (q103.1 4).toInt = (q103.1 5).toInt := zq103_2
              have zq103_3 : (o0.1 4).toInt ≤ (q103.1 4).toInt := zq103_3
              have u104 : Sy v1.toInt v2.toInt v4.toInt (q103.2.1 2) := by rw [n_q103.2.1 2 rfl]; exact x_0
              have u105 : Rwj v1.toInt v7.toInt (q103.2.1 2) := by rw [n_q103.2.1 2 rfl]; exact x_17
              have u106 : Rwi v2.toInt v8.toInt (q103.2.1 2) := by rw [n_q103.2.1 2 rfl]; exact x_18
              try unfold fCu_joinAll_179
              refine tt_kv (P := fun z => ((1 : Int) ≤ z.toInt ∧ z.toInt ≤ 62909) ∧ z = (v8 + 1) ∧ z.toInt = v8.toInt + 1) ⟨iv_add i12 (show (1 : Int) ≤ (1 : Int32).toInt ∧ (1 : Int32).toInt ≤ 1 by decide) (by decide) (by decide) (by decide) (by decide), rfl, iq_add i12 (show (1 : Int) ≤ (1 : Int32).toInt ∧ (1 : Int32).toInt ≤ 1 by decide) (by decide) (by decide)⟩ (fun x107 qi108 => ?_)
              obtain ⟨i108, ax107, ei108⟩ := qi108
              have p109 : Kw v4.toInt (q103.1 3).toInt (q103.2.2 4) := by first | exact Kw_a x_1 (show Adp _ _ (o0.2.2 4) _ by assumption) (show Cnn _ _ by assumption) (by omega) (by omega) (by omega) | exact Kw_a x_1 (show Adp _ _ (o0.2.2 4) _ by assumption) Cn_0 (by omega) (by omega) (by omega)
              have p110 : Pe (yo0.1 3).toInt (yo0.2.2 4) (q103.2.2 4) := by exact Pe_a x_2 (show Adp _ _ (o0.2.2 4) _ by assumption) (by omega)
              have p111 : Pe (yo0.1 3).toInt (yo0.2.2 5) (q103.2.2 5) := by exact Pe_a x_4 (show Adp _ _ (o0.2.2 5) _ by assumption) (by omega)
              have p112 : Jqb v1.toInt v2.toInt v3.toInt v4.toInt (yo0.1 3).toInt (q103.1 3).toInt v7.toInt x107.toInt (q103.2.1 2) (yo0.2.2 4) (yo0.2.2 5) := by exact fun _ => Or.inl (by omega)
              have p113 : Lnw v3.toInt (yo0.1 3).toInt (q103.1 3).toInt (q103.2.2 4) := by first | exact x_15 | exact Lnw_a x_15 (show Adp _ _ (o0.2.2 4) _ by assumption) (show nv _ < _ by assumption) (by omega) (by omega) | exact Lnw_a x_15 (show Adp _ _ (o0.2.2 4) _ by assumption) pw_0 (by omega) (by omega)
              have p114 : Sbj v1.toInt v2.toInt (yo0.1 3).toInt (q103.1 3).toInt (q103.2.1 2) (yo0.2.2 4) (q103.2.2 4) := by rw [n_q103.2.1 2 rfl]; first | exact Sbj_a (i := v7.toNatClampNeg) (j := v8.toNatClampNeg) x_16 (show Adp _ _ (o0.2.2 4) _ by assumption) (show Sbq _ _ _ by assumption) x_17 (Rwj_i x_18 (show _ = o0.2.1 2 _ by assumption) (by rw [tn_n]; omega) (by omega) (by omega)) x_2 (by rw [tn_n]; omega) (by rw [tn_n]; omega) (by omega) (by omega) (by omega) (by omega) | exact Sbj_a (i := v7.toNatClampNeg) (j := v8.toNatClampNeg) x_16 (show Adp _ _ (o0.2.2 4) _ by assumption) Sbq_0 x_17 (Rwj_i x_18 (show _ = o0.2.1 2 _ by assumption) (by rw [tn_n]; omega) (by omega) (by omega)) x_2 (by rw [tn_n]; omega) (by rw [tn_n]; omega) (by omega) (by omega) (by omega) (by omega)
              have p115 : Rwi v2.toInt x107.toInt (q103.2.1 2) := by rw [n_q103.2.1 2 rfl]; exact Rwi_n x_18 (by omega)
              exact H.2 _ _ _ _ _ _ _ _ k_q103 r_q103 i_v1 i_v2 i_v3 i_v4 i_v7 (iv_w (a := 0) (b := 62909) (by decide) (by decide) i108) f_q103_0 f_q103_3 u104 p109 p110 x_3 p111 x_5 (show (q103.1 3).toInt ≤ (q103.1 4).toInt by omega) (show (q103.1 4).toInt = (q103.1 5).toInt by omega) (show v4.toInt ≤ (q103.1 3).toInt by omega) (show (q103.1 3).toInt ≤ v4.toInt + 300 by omega) (show (yo0.1 3).toInt ≤ (q103.1 3).toInt by omega) (show v4.toInt = yv4.toInt by omega) (show v3.toInt = yv3.toInt by omega) p112 (show v7.toInt < v4.toInt - 1 by omega) p113 p114 u105 p115 (show v4.toInt ≤ (yo0.1 3).toInt by omega) (show 0 + (62909 - v7.toInt - 1) * 125822 + 1 + (62909 - x107.toInt) * 2 < (n : Int) by omega)
          · have wc93 : ¬ q92.toInt = (0 : Int) := c_ne c93
            have i116 : (1 : Int) ≤ q92.toInt ∧ q92.toInt ≤ 1 := nr_nela c93 i_q92 (show (0 : Int) ≤ (0 : Int32).toInt ∧ (0 : Int32).toInt ≤ 0 by decide) (by decide) (by decide)
            try unfold fCu_joinAll_179
            refine tt_kv (P := fun z => ((1 : Int) ≤ z.toInt ∧ z.toInt ≤ 62909) ∧ z = (v8 + 1) ∧ z.toInt = v8.toInt + 1) ⟨iv_add i12 (show (1 : Int) ≤ (1 : Int32).toInt ∧ (1 : Int32).toInt ≤ 1 by decide) (by decide) (by decide) (by decide) (by decide), rfl, iq_add i12 (show (1 : Int) ≤ (1 : Int32).toInt ∧ (1 : Int32).toInt ≤ 1 by decide) (by decide) (by decide)⟩ (fun x117 qi118 => ?_)
            obtain ⟨i118, ax117, ei118⟩ := qi118
            have p119 : Jqb v1.toInt v2.toInt v3.toInt v4.toInt (yo0.1 3).toInt (o0.1 3).toInt v7.toInt x117.toInt (o0.2.1 2) (yo0.2.2 4) (yo0.2.2 5) := by first | exact fun _ => Or.inl (by omega) | exact Jqb_c (ni := v7.toNatClampNeg) (nj := v8.toNatClampNeg) x_13 x_4 (by rw [tn_n]; omega) (by rw [tn_n]; omega) (by assumption) (by assumption) (by assumption) eq27 (by omega) | exact Jqb_j (ni := v7.toNatClampNeg) (nj := v8.toNatClampNeg) (sh := x81) (s := x83) (c := x84) x_13 x_2 (by rw [tn_n]; omega) (by rw [tn_n]; omega) (by assumption) (by assumption) eq32 (by omega) (by assumption) (by assumption) (by omega)
            have p120 : Rwi v2.toInt x117.toInt (o0.2.1 2) := by exact Rwi_n x_18 (by omega)
            exact H.2 _ _ _ _ _ _ _ _ k_o0 r_o0 i_v1 i_v2 i_v3 i_v4 i_v7 (iv_w (a := 0) (b := 62909) (by decide) (by decide) i118) f_o0_0 f_o0_3 x_0 x_1 x_2 x_3 x_4 x_5 (show (o0.1 3).toInt ≤ (o0.1 4).toInt by omega) (show (o0.1 4).toInt = (o0.1 5).toInt by omega) (show v4.toInt ≤ (o0.1 3).toInt by omega) (show (o0.1 3).toInt ≤ v4.toInt + 300 by omega) (show (yo0.1 3).toInt ≤ (o0.1 3).toInt by omega) (show v4.toInt = yv4.toInt by omega) (show v3.toInt = yv3.toInt by omega) p119 (show v7.toInt < v4.toInt - 1 by omega) x_15 x_16 x_17 p120 (show v4.toInt ≤ (yo0.1 3).toInt by omega) (show 0 + (62909 - v7.toInt - 1) * 125822 + 1 + (62909 - x117.toInt) * 2 < (n : Int) by omega)
set_option maxHeartbeats 4000000 in
set_option maxRecDepth 100000 in
theorem tCu_joinAll_16 {yv1 : Int32} {yv2 : Int32} {yv3 : Int32} {yv4 : Int32} {yo0 : cf_O} {n : Nat} (H : HCu_joinAll yv1 yv2 yv3 yv4 yo0 n) (v1 : Int32) (v2 : Int32) (v3 : Int32) (v4 : Int32) (v5 : Int64) (v7 : Int32) (o0 : cf_O) (k_o0 : okO I_Cu o0) (r_o0 : Fr (fr_M [3, 4, 5] [] [4, 5]) yo0 o0) (i_v1 : (1 : Int) ≤ v1.toInt ∧ v1.toInt ≤ 208) (i_v2 : (1 : Int) ≤ v2.toInt ∧ v2.toInt ≤ 208) (i_v3 : (2 : Int) ≤ v3.toInt ∧ v3.toInt ≤ 5) (i_v4 : (1 : Int) ≤ v4.toInt ∧ v4.toInt ≤ 62608) (i_v7 : (0 : Int) ≤ v7.toInt ∧ v7.toInt ≤ 62909) (f_o0_0 : (0 : Int) ≤ (o0.1 0).toInt ∧ (o0.1 0).toInt ≤ 0) (f_o0_3 : (1 : Int) ≤ (o0.1 3).toInt ∧ (o0.1 3).toInt ≤ 62909) (x_0 : Sy v1.toInt v2.toInt v4.toInt (o0.2.1 2)) (x_1 : Kw v4.toInt (o0.1 3).toInt (o0.2.2 4)) (x_2 : Pe (yo0.1 3).toInt (yo0.2.2 4) (o0.2.2 4)) (x_3 : (v1 = yv1 ∧ v2 = yv2 ∧ v3 = yv3 ∧ v4 = yv4)) (x_4 : Pe (yo0.1 3).toInt (yo0.2.2 5) (o0.2.2 5)) (x_5 : Lim v5 v3.toInt) (x_6 : (o0.1 3).toInt ≤ (o0.1 4).toInt) (x_7 : (o0.1 4).toInt = (o0.1 5).toInt) (x_8 : v4.toInt ≤ (o0.1 3).toInt) (x_9 : (o0.1 3).toInt ≤ v4.toInt + 300) (x_10 : (yo0.1 3).toInt ≤ (o0.1 3).toInt) (x_11 : v4.toInt = yv4.toInt) (x_12 : v3.toInt = yv3.toInt) (x_13 : Jqa v1.toInt v2.toInt v3.toInt v4.toInt (yo0.1 3).toInt (o0.1 3).toInt v7.toInt (o0.2.1 2) (yo0.2.2 4) (yo0.2.2 5)) (x_14 : Lnw v3.toInt (yo0.1 3).toInt (o0.1 3).toInt (o0.2.2 4)) (x_15 : Sbj v1.toInt v2.toInt (yo0.1 3).toInt (o0.1 3).toInt (o0.2.1 2) (yo0.2.2 4) (o0.2.2 4)) (x_16 : Rwi v1.toInt v7.toInt (o0.2.1 2)) (x_17 : v4.toInt ≤ (yo0.1 3).toInt) (hm : 0 + (62909 - v7.toInt) * 125822 ≤ (n : Int)) : tt (fCu_joinAll_16 (gCu_joinAll n) v1 v2 v3 v4 v5 v7 o0) (QCu_joinAll yv1 yv2 yv3 yv4 yo0) := by
  unfold fCu_joinAll_16
  have g_o0_4 : (1024 : Int) ≤ (o0.1 4).toInt ∧ (o0.1 4).toInt ≤ 131072 := k_o0.1 4
  have g_o0_5 : (1024 : Int) ≤ (o0.1 5).toInt ∧ (o0.1 5).toInt ≤ 131072 := k_o0.1 5
  refine tt_kv (P := fun z => ((2 : Int) ≤ z.toInt ∧ z.toInt ≤ 209) ∧ z = (v1 + 1) ∧ z.toInt = v1.toInt + 1) ⟨iv_add i_v1 (show (1 : Int) ≤ (1 : Int32).toInt ∧ (1 : Int32).toInt ≤ 1 by decide) (by decide) (by decide) (by decide) (by decide), rfl, iq_add i_v1 (show (1 : Int) ≤ (1 : Int32).toInt ∧ (1 : Int32).toInt ≤ 1 by decide) (by decide) (by decide)⟩ (fun x1 qi2 => ?_)
  obtain ⟨i2, ax1, ei2⟩ := qi2
  refine tt_n (ix_ok i2 (by decide) (by decide)) ?_
  refine tt_kv (P := fun z => ((0 : Int) ≤ z.toInt ∧ z.toInt ≤ 62909) ∧ z = (o0.2.1 2 x1.toNatClampNeg) ∧ z.toInt = (o0.2.1 2 x1.toNatClampNeg).toInt) ⟨(k_o0.2 2 _), rfl, rfl⟩ (fun x3 qi4 => ?_)
  obtain ⟨i4, ax3, ei4⟩ := qi4
  have t5 := tn_n x1
  have t6 := x_0 (x1.toNatClampNeg) (by rw [tn_n]; omega)
  refine tt_if (fun c7 => ?_) (fun c7 => ?_)
  · have wc7 : x3.toInt ≤ v7.toInt := c_le c7
    try unfold fCu_joinAll_191
    have p8 : Kw yv4.toInt (o0.1 3).toInt (o0.2.2 4) := by rw [← x_3.2.2.2]; exact x_1
    have p9 : Jqp yv1.toInt yv2.toInt yv3.toInt yv4.toInt (yo0.1 3).toInt (o0.1 3).toInt 1 (yo0.2.1 2) (yo0.2.2 4) (yo0.2.2 5) := by rw [← x_3.1, ← x_3.2.1, ← x_3.2.2.1, ← x_3.2.2.2, ← r_o0.2.1 2 rfl]; first | exact Jqa_x (s := x3) (k := x1.toNatClampNeg) x_13 (by rw [tn_n]; omega) (by assumption) (by omega) rfl | fail
    have p10 : Lnw yv3.toInt (yo0.1 3).toInt (o0.1 3).toInt (o0.2.2 4) := by rw [← x_3.2.2.1]; exact x_14
    have p11 : Sbj yv1.toInt yv2.toInt (yo0.1 3).toInt (o0.1 3).toInt (yo0.2.1 2) (yo0.2.2 4) (o0.2.2 4) := by rw [← x_3.1, ← x_3.2.1, ← r_o0.2.1 2 rfl]; exact x_15
    exact tt_some ⟨(iv_w (a := 0) (b := 1) (by decide) (by decide) (show (1 : Int) ≤ (1 : Int32).toInt ∧ (1 : Int32).toInt ≤ 1 by decide)), k_o0, r_o0, f_o0_3, p8, x_2, (show (o0.1 3).toInt ≤ (o0.1 4).toInt by omega), (show (o0.1 4).toInt = (o0.1 5).toInt by omega), (show (yo0.1 3).toInt ≤ (o0.1 3).toInt by omega), (show yv4.toInt ≤ (o0.1 3).toInt by omega), (show (o0.1 3).toInt ≤ yv4.toInt + 300 by omega), p9, x_4, p10, p11, trivial⟩
  · have wc7 : v7.toInt < x3.toInt := c_nle c7
    have i12 : (0 : Int) ≤ v7.toInt ∧ v7.toInt ≤ 62908 := nr_nlel c7 i_v7 i4 (by decide) (by decide)
    have i13 : (1 : Int) ≤ x3.toInt ∧ x3.toInt ≤ 62909 := nr_nler c7 i_v7 i4 (by decide) (by decide)
    refine tt_n (ix_v (x := v7) (l := (o0.1 4)) (by omega) (by omega)) ?_
    refine tt_klr (fun x14 ax14 => ?_)
    refine tt_kv (P := fun z => (((-2147483648) : Int) ≤ z.toInt ∧ z.toInt ≤ 2147483647) ∧ z = (lg_cmp x14 v5)) ⟨iv_top _, rfl⟩ (fun x15 qi16 => ?_)
    obtain ⟨i16, ax15⟩ := qi16
    refine tt_if (fun c17 => ?_) (fun c17 => ?_)
    · have wc17 : (0 : Int) ≤ x15.toInt := c_le c17
      have i18 : (0 : Int) ≤ x15.toInt ∧ x15.toInt ≤ 2147483647 := nr_ler c17 (show (0 : Int) ≤ (0 : Int32).toInt ∧ (0 : Int32).toInt ≤ 0 by decide) i16 (by decide) (by decide)
      try unfold fCu_joinAll_191
      have p19 : Kw yv4.toInt (o0.1 3).toInt (o0.2.2 4) := by rw [← x_3.2.2.2]; exact x_1
      have p20 : Jqp yv1.toInt yv2.toInt yv3.toInt yv4.toInt (yo0.1 3).toInt (o0.1 3).toInt 1 (yo0.2.1 2) (yo0.2.2 4) (yo0.2.2 5) := by rw [← x_3.1, ← x_3.2.1, ← x_3.2.2.1, ← x_3.2.2.2, ← r_o0.2.1 2 rfl]; first | exact Jqa_x (s := x3) (k := x1.toNatClampNeg) x_13 (by rw [tn_n]; omega) (by assumption) (by omega) rfl | exact Jqa_l (a := x14) (c := x15) (n := v7.toNatClampNeg) x_13 x_2 x_5 (by rw [tn_n]; omega) (by assumption) (by assumption) (by omega)
      have p21 : Lnw yv3.toInt (yo0.1 3).toInt (o0.1 3).toInt (o0.2.2 4) := by rw [← x_3.2.2.1]; exact x_14
      have p22 : Sbj yv1.toInt yv2.toInt (yo0.1 3).toInt (o0.1 3).toInt (yo0.2.1 2) (yo0.2.2 4) (o0.2.2 4) := by rw [← x_3.1, ← x_3.2.1, ← r_o0.2.1 2 rfl]; exact x_15
      exact tt_some ⟨(iv_w (a := 0) (b := 1) (by decide) (by decide) (show (1 : Int) ≤ (1 : Int32).toInt ∧ (1 : Int32).toInt ≤ 1 by decide)), k_o0, r_o0, f_o0_3, p19, x_2, (show (o0.1 3).toInt ≤ (o0.1 4).toInt by omega), (show (o0.1 4).toInt = (o0.1 5).toInt by omega), (show (yo0.1 3).toInt ≤ (o0.1 3).toInt by omega), (show yv4.toInt ≤ (o0.1 3).toInt by omega), (show (o0.1 3).toInt ≤ yv4.toInt + 300 by omega), p20, x_4, p21, p22, trivial⟩
    · have wc17 : x15.toInt < (0 : Int) := c_nle c17
      have i23 : ((-2147483648) : Int) ≤ x15.toInt ∧ x15.toInt ≤ (-1) := nr_nlel c17 i16 (show (0 : Int) ≤ (0 : Int32).toInt ∧ (0 : Int32).toInt ≤ 0 by decide) (by decide) (by decide)
      refine tt_n (ix_ok i_v2 (by decide) (by decide)) ?_
      refine tt_kv (P := fun z => ((0 : Int) ≤ z.toInt ∧ z.toInt ≤ 62909) ∧ z = (o0.2.1 2 v2.toNatClampNeg) ∧ z.toInt = (o0.2.1 2 v2.toNatClampNeg).toInt) ⟨(k_o0.2 2 _), rfl, rfl⟩ (fun x24 qi25 => ?_)
      obtain ⟨i25, ax24, ei25⟩ := qi25
      have t26 := tn_n v2
      have t27 := x_0 (v2.toNatClampNeg) (by rw [tn_n]; omega)
      have p28 : Jqb v1.toInt v2.toInt v3.toInt v4.toInt (yo0.1 3).toInt (o0.1 3).toInt v7.toInt x24.toInt (o0.2.1 2) (yo0.2.2 4) (yo0.2.2 5) := by exact fun P => (x_13 P).imp id (fun h => ⟨h, congrArg Int32.toInt (show _ = o0.2.1 2 v2.toNatClampNeg by assumption)⟩)
      have p29 : Rwj v1.toInt v7.toInt (o0.2.1 2) := by exact Rwj_i x_16 (z := x3) (by assumption) (by rw [tn_n]; omega) (by omega) (by omega)
      have p30 : Rwi v2.toInt x24.toInt (o0.2.1 2) := by exact Int.le_of_eq (congrArg Int32.toInt (show _ = o0.2.1 2 v2.toNatClampNeg by assumption)).symm
      exact H.2 _ _ _ _ _ _ _ _ k_o0 r_o0 i_v1 i_v2 i_v3 i_v4 i12 i25 f_o0_0 f_o0_3 x_0 x_1 x_2 x_3 x_4 x_5 (show (o0.1 3).toInt ≤ (o0.1 4).toInt by omega) (show (o0.1 4).toInt = (o0.1 5).toInt by omega) (show v4.toInt ≤ (o0.1 3).toInt by omega) (show (o0.1 3).toInt ≤ v4.toInt + 300 by omega) (show (yo0.1 3).toInt ≤ (o0.1 3).toInt by omega) (show v4.toInt = yv4.toInt by omega) (show v3.toInt = yv3.toInt by omega) p28 (show v7.toInt < v4.toInt - 1 by omega) x_14 x_15 p29 p30 (show v4.toInt ≤ (yo0.1 3).toInt by omega) (show 0 + (62909 - v7.toInt - 1) * 125822 + 1 + (62909 - x24.toInt) * 2 < (n : Int) by omega)
set_option maxHeartbeats 4000000 in
set_option maxRecDepth 100000 in
theorem hCu_joinAll (yv1 : Int32) (yv2 : Int32) (yv3 : Int32) (yv4 : Int32) (yo0 : cf_O) : ∀ n, HCu_joinAll yv1 yv2 yv3 yv4 yo0 n := by
  intro n
  induction n with
  | zero => exact ⟨(fun v1 v2 v3 v4 v5 v7 o0 k_o0 r_o0 i_v1 i_v2 i_v3 i_v4 i_v7 f_o0_0 f_o0_3 x_0 x_1 x_2 x_3 x_4 x_5 x_6 x_7 x_8 x_9 x_10 x_11 x_12 x_13 x_14 x_15 x_16 x_17 hm => by exact absurd (show 0 + (62909 - v7.toInt) * 125822 < (0 : Int) from hm) (by omega)), (fun v1 v2 v3 v4 v5 v7 v8 o0 k_o0 r_o0 i_v1 i_v2 i_v3 i_v4 i_v7 i_v8 f_o0_0 f_o0_3 x_0 x_1 x_2 x_3 x_4 x_5 x_6 x_7 x_8 x_9 x_10 x_11 x_12 x_13 x_14 x_15 x_16 x_17 x_18 x_19 hm => by exact absurd (show 0 + (62909 - v7.toInt - 1) * 125822 + 1 + (62909 - v8.toInt) * 2 < (0 : Int) from hm) (by omega))⟩
  | succ n ih => exact ⟨(fun v1 v2 v3 v4 v5 v7 o0 k_o0 r_o0 i_v1 i_v2 i_v3 i_v4 i_v7 f_o0_0 f_o0_3 x_0 x_1 x_2 x_3 x_4 x_5 x_6 x_7 x_8 x_9 x_10 x_11 x_12 x_13 x_14 x_15 x_16 x_17 hm => tCu_joinAll_16 ih v1 v2 v3 v4 v5 v7 o0 k_o0 r_o0 i_v1 i_v2 i_v3 i_v4 i_v7 f_o0_0 f_o0_3 x_0 x_1 x_2 x_3 x_4 x_5 x_6 x_7 x_8 x_9 x_10 x_11 x_12 x_13 x_14 x_15 x_16 x_17 (by omega)), (fun v1 v2 v3 v4 v5 v7 v8 o0 k_o0 r_o0 i_v1 i_v2 i_v3 i_v4 i_v7 i_v8 f_o0_0 f_o0_3 x_0 x_1 x_2 x_3 x_4 x_5 x_6 x_7 x_8 x_9 x_10 x_11 x_12 x_13 x_14 x_15 x_16 x_17 x_18 x_19 hm => tCu_joinAll_50 ih v1 v2 v3 v4 v5 v7 v8 o0 k_o0 r_o0 i_v1 i_v2 i_v3 i_v4 i_v7 i_v8 f_o0_0 f_o0_3 x_0 x_1 x_2 x_3 x_4 x_5 x_6 x_7 x_8 x_9 x_10 x_11 x_12 x_13 x_14 x_15 x_16 x_17 x_18 x_19 (by omega))⟩
set_option maxHeartbeats 4000000 in
set_option maxRecDepth 100000 in
theorem sCu_joinAll (v1 : Int32) (v2 : Int32) (v3 : Int32) (v4 : Int32) (o0 : cf_O) (k_o0 : okO I_Cu o0) (i_v1 : (1 : Int) ≤ v1.toInt ∧ v1.toInt ≤ 208) (i_v2 : (1 : Int) ≤ v2.toInt ∧ v2.toInt ≤ 208) (i_v3 : (2 : Int) ≤ v3.toInt ∧ v3.toInt ≤ 5) (i_v4 : (1 : Int) ≤ v4.toInt ∧ v4.toInt ≤ 62608) (f_o0_0 : (0 : Int) ≤ (o0.1 0).toInt ∧ (o0.1 0).toInt ≤ 0) (f_o0_3 : (1 : Int) ≤ (o0.1 3).toInt ∧ (o0.1 3).toInt ≤ 62909) (x_0 : Sy v1.toInt v2.toInt v4.toInt (o0.2.1 2)) (x_1 : Kw v4.toInt (o0.1 3).toInt (o0.2.2 4)) (x_2 : (o0.1 3).toInt ≤ (o0.1 4).toInt) (x_3 : (o0.1 4).toInt = (o0.1 5).toInt) (x_4 : v4.toInt ≤ (o0.1 3).toInt) (x_5 : (o0.1 3).toInt ≤ v4.toInt + 300) : tt (fCu_joinAll v1 v2 v3 v4 o0) (QCu_joinAll v1 v2 v3 v4 o0) := by
  have H := hCu_joinAll v1 v2 v3 v4 o0 cfFU
  have hm : (7915336201 : Int) ≤ (cfFU : Nat) := by decide
  have r_o0 : Fr (fr_M [3, 4, 5] [] [4, 5]) o0 o0 := fr_rfl
  unfold fCu_joinAll fCu_joinAll_0
  have g_o0_4 : (1024 : Int) ≤ (o0.1 4).toInt ∧ (o0.1 4).toInt ≤ 131072 := k_o0.1 4
  have g_o0_5 : (1024 : Int) ≤ (o0.1 5).toInt ∧ (o0.1 5).toInt ≤ 131072 := k_o0.1 5
  refine tt_kv (P := fun z => ((16 : Int) ≤ z.toInt ∧ z.toInt ≤ 40) ∧ z = (8 * v3) ∧ z.toInt = 8 * v3.toInt) ⟨iv_mul (show (8 : Int) ≤ (8 : Int32).toInt ∧ (8 : Int32).toInt ≤ 8 by decide) i_v3 (by decide) (by decide) (by decide) (by decide) (by decide), rfl, iq_mul (show (8 : Int) ≤ (8 : Int32).toInt ∧ (8 : Int32).toInt ≤ 8 by decide) i_v3 (by decide) (by decide) (by decide) (by decide)⟩ (fun x1 qi2 => ?_)
  obtain ⟨i2, ax1, ei2⟩ := qi2
  refine tt_klr (fun x3 ax3 => ?_)
  refine tt_n (ix_ok i_v1 (by decide) (by decide)) ?_
  refine tt_kv (P := fun z => ((0 : Int) ≤ z.toInt ∧ z.toInt ≤ 62909) ∧ z = (o0.2.1 2 v1.toNatClampNeg) ∧ z.toInt = (o0.2.1 2 v1.toNatClampNeg).toInt) ⟨(k_o0.2 2 _), rfl, rfl⟩ (fun x4 qi5 => ?_)
  obtain ⟨i5, ax4, ei5⟩ := qi5
  have t6 := tn_n v1
  have t7 := x_0 (v1.toNatClampNeg) (by rw [tn_n]; omega)
  have p8 : Pe (o0.1 3).toInt (o0.2.2 4) (o0.2.2 4) := by exact Pe_0
  have p9 : (v1 = v1 ∧ v2 = v2 ∧ v3 = v3 ∧ v4 = v4) := by exact ⟨rfl, rfl, rfl, rfl⟩
  have p10 : Pe (o0.1 3).toInt (o0.2.2 5) (o0.2.2 5) := by exact Pe_0
  have p11 : Lim x3 v3.toInt := by exact Lim_i (show _ = 8 * v3.toInt by assumption) (by assumption)
  have p12 : Jqa v1.toInt v2.toInt v3.toInt v4.toInt (o0.1 3).toInt (o0.1 3).toInt x4.toInt (o0.2.1 2) (o0.2.2 4) (o0.2.2 5) := by exact fun _ => Or.inr (congrArg Int32.toInt (show _ = o0.2.1 2 v1.toNatClampNeg by assumption))
  have p13 : Lnw v3.toInt (o0.1 3).toInt (o0.1 3).toInt (o0.2.2 4) := by exact Lnw_0 (Int.le_refl _)
  have p14 : Sbj v1.toInt v2.toInt (o0.1 3).toInt (o0.1 3).toInt (o0.2.1 2) (o0.2.2 4) (o0.2.2 4) := by exact Sbj_0 (Int.le_refl _)
  have p15 : Rwi v1.toInt x4.toInt (o0.2.1 2) := by exact Int.le_of_eq (congrArg Int32.toInt (show _ = o0.2.1 2 v1.toNatClampNeg by assumption)).symm
  exact H.1 _ _ _ _ _ _ _ k_o0 r_o0 i_v1 i_v2 i_v3 i_v4 i5 f_o0_0 f_o0_3 x_0 x_1 p8 p9 p10 p11 (show (o0.1 3).toInt ≤ (o0.1 4).toInt by omega) (show (o0.1 4).toInt = (o0.1 5).toInt by omega) (show v4.toInt ≤ (o0.1 3).toInt by omega) (show (o0.1 3).toInt ≤ v4.toInt + 300 by omega) (show (o0.1 3).toInt ≤ (o0.1 3).toInt by omega) (show v4.toInt = v4.toInt by omega) (show v3.toInt = v3.toInt by omega) p12 p13 p14 p15 (show v4.toInt ≤ (o0.1 3).toInt by omega) (show 0 + (62909 - x4.toInt) * 125822 < ((cfFU : Nat) : Int) by omega)
def QCu_findOf (v2 : Int32) (v3 : Int32) (o0 : cf_O) (o1 : cf_O) (r : (Int32 × cf_O)) : Prop := ((0 : Int) ≤ r.1.toInt ∧ r.1.toInt ≤ 1) ∧ (okO I_Cu r.2) ∧ (Fr (fr_M [3, 4, 5] [1] [4, 5]) o0 r.2) ∧ ((1 : Int) ≤ (r.2.1 3).toInt ∧ (r.2.1 3).toInt ≤ 62909) ∧ (Kw ((o0.2.1 2 v2.toNatClampNeg).toInt + 1) (r.2.1 3).toInt (r.2.2.2 4)) ∧ (Nvp v2.toInt (o0.2.1 2 v2.toNatClampNeg).toInt (r.2.2.2 4)) ∧ (Pe (o0.1 3).toInt (o0.2.2 4) (r.2.2.2 4)) ∧ ((r.2.1 3).toInt ≤ (r.2.1 4).toInt) ∧ ((r.2.1 4).toInt = (r.2.1 5).toInt) ∧ ((r.2.1 3).toInt ≤ (o0.2.1 2 v2.toNatClampNeg).toInt + 301) ∧ ((o0.1 3).toInt ≤ (r.2.1 3).toInt) ∧ (Rkq r.1.toInt v2.toInt (o0.2.1 2 v2.toNatClampNeg).toInt (r.2.1 3).toInt (r.2.2.1 1) (r.2.2.2 4)) ∧ (Pe (o0.1 3).toInt (o0.2.2 5) (r.2.2.2 5)) ∧ (Dpq r.1.toInt v2.toInt (o0.2.1 1) (r.2.2.1 1)) ∧ (Lmp v3.toInt (r.2.1 3).toInt (r.2.2.2 4)) ∧ (Sbj ((o1.2.1 4 v2.toNatClampNeg).toInt / 2) ((o1.2.1 5 v2.toNatClampNeg).toInt / 2) ((o0.2.1 2 v2.toNatClampNeg).toInt + 1) (r.2.1 3).toInt (r.2.2.1 2) (r.2.2.2 4) (r.2.2.2 4)) ∧ True
def HCu_findOf (yv2 : Int32) (yv3 : Int32) (yo0 : cf_O) (yo1 : cf_O) (n : Nat) : Prop := (∀ (v2 : Int32) (v3 : Int32) (v4 : Int32) (o0 : cf_O) (o1 : cf_O), (okO I_Cu o0) → (Fr (fr_M [3, 4, 5] [1] [4, 5]) yo0 o0) → (okO I_Gr o1) → (Fr (fr_M [] [] []) yo1 o1) → ((1 : Int) ≤ v2.toInt ∧ v2.toInt ≤ 208) → ((2 : Int) ≤ v3.toInt ∧ v3.toInt ≤ 5) → ((2 : Int) ≤ v4.toInt ∧ v4.toInt ≤ 6) → ((0 : Int) ≤ (o0.1 0).toInt ∧ (o0.1 0).toInt ≤ 0) → ((1 : Int) ≤ (o0.1 3).toInt ∧ (o0.1 3).toInt ≤ 62909) → (Gx ((o1.1 0).toInt + 1) (o1.1 2).toInt (sh ((o1.1 0).toInt + 1) (o1.2.1 4)) (sh ((o1.1 0).toInt + 1) (o1.2.1 5))) → (Stt (v2.toInt + 1) (o0.2.1 2 v2.toNatClampNeg).toInt (o0.2.1 2)) → (Kw ((o0.2.1 2 v2.toNatClampNeg).toInt + 1) (o0.1 3).toInt (o0.2.2 4)) → (Nvp v2.toInt (o0.2.1 2 v2.toNatClampNeg).toInt (o0.2.2 4)) → (Pe (yo0.1 3).toInt (yo0.2.2 4) (o0.2.2 4)) → ((v2 = yv2)) → ((o1.1 0).toInt < v2.toInt) → (v2.toInt < 1 + (o1.1 0).toInt + (o1.1 2).toInt) → ((o0.1 3).toInt ≤ (o0.1 4).toInt) → ((o0.1 4).toInt = (o0.1 5).toInt) → ((o0.2.1 2 v2.toNatClampNeg).toInt + 1 ≤ (o0.1 3).toInt) → ((o0.1 3).toInt ≤ (o0.2.1 2 v2.toNatClampNeg).toInt + 301) → ((o0.2.1 2 v2.toNatClampNeg).toInt ≤ 62607) → (0 ≤ (o0.2.1 2 v2.toNatClampNeg).toInt) → ((yo0.1 3).toInt ≤ (o0.1 3).toInt) → (v2.toInt = yv2.toInt) → (Rnk v2.toInt (o0.2.1 2) (o0.2.2 4) (o0.2.2 5)) → (Dep v2.toInt (o0.2.1 1)) → (Pe (yo0.1 3).toInt (yo0.2.2 5) (o0.2.2 5)) → (3 ≤ v4.toInt ∨ (o0.1 3).toInt = (o0.2.1 2 v2.toNatClampNeg).toInt + 1) → (v4.toInt ≤ 2 ∨ (o0.2.1 2 v2.toNatClampNeg).toInt + 1 < (o0.1 3).toInt) → (((o0.2.1 1) = (yo0.2.1 1))) → (Lmp yv3.toInt (o0.1 3).toInt (o0.2.2 4)) → (v3.toInt = yv3.toInt) → (Sbj ((o1.2.1 4 v2.toNatClampNeg).toInt / 2) ((o1.2.1 5 v2.toNatClampNeg).toInt / 2) ((o0.2.1 2 v2.toNatClampNeg).toInt + 1) (o0.1 3).toInt (o0.2.1 2) (o0.2.2 4) (o0.2.2 4)) → 125820 + (6 - v4.toInt) * 2 < (n : Int) → tt (gCu_findOf n 0 v2 v3 v4 0 o0 o1) (QCu_findOf yv2 yv3 yo0 yo1)) ∧ (∀ (v2 : Int32) (v4 : Int32) (v5 : Int32) (o0 : cf_O) (o1 : cf_O), (okO I_Cu o0) → (Fr (fr_M [3, 4, 5] [1] [4, 5]) yo0 o0) → (okO I_Gr o1) → (Fr (fr_M [] [] []) yo1 o1) → ((1 : Int) ≤ v2.toInt ∧ v2.toInt ≤ 208) → (((-2147483648) : Int) ≤ v4.toInt ∧ v4.toInt ≤ 209) → ((1 : Int) ≤ v5.toInt ∧ v5.toInt ≤ 62910) → ((0 : Int) ≤ (o0.1 0).toInt ∧ (o0.1 0).toInt ≤ 0) → ((1 : Int) ≤ (o0.1 3).toInt ∧ (o0.1 3).toInt ≤ 62909) → (Kw ((o0.2.1 2 v2.toNatClampNeg).toInt + 1) (o0.1 3).toInt (o0.2.2 4)) → (Nvp v2.toInt (o0.2.1 2 v2.toNatClampNeg).toInt (o0.2.2 4)) → (Pe (yo0.1 3).toInt (yo0.2.2 4) (o0.2.2 4)) → ((v2 = yv2)) → ((o0.1 3).toInt ≤ (o0.1 4).toInt) → ((o0.1 4).toInt = (o0.1 5).toInt) → ((o0.2.1 2 v2.toNatClampNeg).toInt + 1 ≤ (o0.1 3).toInt) → ((o0.1 3).toInt ≤ (o0.2.1 2 v2.toNatClampNeg).toInt + 301) → ((o0.2.1 2 v2.toNatClampNeg).toInt ≤ 62607) → (0 ≤ (o0.2.1 2 v2.toNatClampNeg).toInt) → ((yo0.1 3).toInt ≤ (o0.1 3).toInt) → (v2.toInt = yv2.toInt) → ((o0.2.1 2 v2.toNatClampNeg).toInt + 1 ≤ v5.toInt) → (Dep v2.toInt (o0.2.1 1)) → (Dao v2.toInt v4.toInt (o0.2.1 2 v2.toNatClampNeg).toInt v5.toInt (o0.2.1 1) (o0.2.2 4)) → (Pe (yo0.1 3).toInt (yo0.2.2 5) (o0.2.2 5)) → ((o0.2.1 2 v2.toNatClampNeg).toInt + 1 < (o0.1 3).toInt) → (v5.toInt ≤ (o0.1 3).toInt) → (((o0.2.1 1) = (yo0.2.1 1))) → (Lmp yv3.toInt (o0.1 3).toInt (o0.2.2 4)) → (Sbj ((o1.2.1 4 v2.toNatClampNeg).toInt / 2) ((o1.2.1 5 v2.toNatClampNeg).toInt / 2) ((o0.2.1 2 v2.toNatClampNeg).toInt + 1) (o0.1 3).toInt (o0.2.1 2) (o0.2.2 4) (o0.2.2 4)) → 0 + (62910 - v5.toInt) * 2 < (n : Int) → tt (gCu_findOf n 1 v2 0 v4 v5 o0 o1) (QCu_findOf yv2 yv3 yo0 yo1))
set_option maxHeartbeats 4000000 in
set_option maxRecDepth 100000 in
theorem tCu_findOf_65 {yv2 : Int32} {yv3 : Int32} {yo0 : cf_O} {yo1 : cf_O} {n : Nat} (H : HCu_findOf yv2 yv3 yo0 yo1 n) (v2 : Int32) (v4 : Int32) (v5 : Int32) (o0 : cf_O) (o1 : cf_O) (k_o0 : okO I_Cu o0) (r_o0 : Fr (fr_M [3, 4, 5] [1] [4, 5]) yo0 o0) (k_o1 : okO I_Gr o1) (r_o1 : Fr (fr_M [] [] []) yo1 o1) (i_v2 : (1 : Int) ≤ v2.toInt ∧ v2.toInt ≤ 208) (i_v4 : ((-2147483648) : Int) ≤ v4.toInt ∧ v4.toInt ≤ 209) (i_v5 : (1 : Int) ≤ v5.toInt ∧ v5.toInt ≤ 62910) (f_o0_0 : (0 : Int) ≤ (o0.1 0).toInt ∧ (o0.1 0).toInt ≤ 0) (f_o0_3 : (1 : Int) ≤ (o0.1 3).toInt ∧ (o0.1 3).toInt ≤ 62909) (x_0 : Kw ((o0.2.1 2 v2.toNatClampNeg).toInt + 1) (o0.1 3).toInt (o0.2.2 4)) (x_1 : Nvp v2.toInt (o0.2.1 2 v2.toNatClampNeg).toInt (o0.2.2 4)) (x_2 : Pe (yo0.1 3).toInt (yo0.2.2 4) (o0.2.2 4)) (x_3 : (v2 = yv2)) (x_4 : (o0.1 3).toInt ≤ (o0.1 4).toInt) (x_5 : (o0.1 4).toInt = (o0.1 5).toInt) (x_6 : (o0.2.1 2 v2.toNatClampNeg).toInt + 1 ≤ (o0.1 3).toInt) (x_7 : (o0.1 3).toInt ≤ (o0.2.1 2 v2.toNatClampNeg).toInt + 301) (x_8 : (o0.2.1 2 v2.toNatClampNeg).toInt ≤ 62607) (x_9 : 0 ≤ (o0.2.1 2 v2.toNatClampNeg).toInt) (x_10 : (yo0.1 3).toInt ≤ (o0.1 3).toInt) (x_11 : v2.toInt = yv2.toInt) (x_12 : (o0.2.1 2 v2.toNatClampNeg).toInt + 1 ≤ v5.toInt) (x_13 : Dep v2.toInt (o0.2.1 1)) (x_14 : Dao v2.toInt v4.toInt (o0.2.1 2 v2.toNatClampNeg).toInt v5.toInt (o0.2.1 1) (o0.2.2 4)) (x_15 : Pe (yo0.1 3).toInt (yo0.2.2 5) (o0.2.2 5)) (x_16 : (o0.2.1 2 v2.toNatClampNeg).toInt + 1 < (o0.1 3).toInt) (x_17 : v5.toInt ≤ (o0.1 3).toInt) (x_18 : ((o0.2.1 1) = (yo0.2.1 1))) (x_19 : Lmp yv3.toInt (o0.1 3).toInt (o0.2.2 4)) (x_20 : Sbj ((o1.2.1 4 v2.toNatClampNeg).toInt / 2) ((o1.2.1 5 v2.toNatClampNeg).toInt / 2) ((o0.2.1 2 v2.toNatClampNeg).toInt + 1) (o0.1 3).toInt (o0.2.1 2) (o0.2.2 4) (o0.2.2 4)) (hm : 0 + (62910 - v5.toInt) * 2 ≤ (n : Int)) : tt (fCu_findOf_65 (gCu_findOf n) v2 v4 v5 o0 o1) (QCu_findOf yv2 yv3 yo0 yo1) := by
  unfold fCu_findOf_65
  have ey_o0_0 : (o0.1 0).toInt = (yo0.1 0).toInt := congrArg Int32.toInt (r_o0.1 0 rfl)
  have g_o0_2 : (0 : Int) ≤ (o0.1 2).toInt ∧ (o0.1 2).toInt ≤ 0 := k_o0.1 2
  have ey_o0_2 : (o0.1 2).toInt = (yo0.1 2).toInt := congrArg Int32.toInt (r_o0.1 2 rfl)
  have g_o0_4 : (1024 : Int) ≤ (o0.1 4).toInt ∧ (o0.1 4).toInt ≤ 131072 := k_o0.1 4
  have g_o0_5 : (1024 : Int) ≤ (o0.1 5).toInt ∧ (o0.1 5).toInt ≤ 131072 := k_o0.1 5
  have g_o1_0 : (0 : Int) ≤ (o1.1 0).toInt ∧ (o1.1 0).toInt ≤ 8 := k_o1.1 0
  have ey_o1_0 : (o1.1 0).toInt = (yo1.1 0).toInt := congrArg Int32.toInt (r_o1.1 0 rfl)
  have g_o1_2 : (0 : Int) ≤ (o1.1 2).toInt ∧ (o1.1 2).toInt ≤ 200 := k_o1.1 2
  have ey_o1_2 : (o1.1 2).toInt = (yo1.1 2).toInt := congrArg Int32.toInt (r_o1.1 2 rfl)
  have g_o1_3 : (0 : Int) ≤ (o1.1 3).toInt ∧ (o1.1 3).toInt ≤ 1 := k_o1.1 3
  have ey_o1_3 : (o1.1 3).toInt = (yo1.1 3).toInt := congrArg Int32.toInt (r_o1.1 3 rfl)
  have g_o1_4 : (0 : Int) ≤ (o1.1 4).toInt ∧ (o1.1 4).toInt ≤ 0 := k_o1.1 4
  have ey_o1_4 : (o1.1 4).toInt = (yo1.1 4).toInt := congrArg Int32.toInt (r_o1.1 4 rfl)
  have g_o1_5 : (0 : Int) ≤ (o1.1 5).toInt ∧ (o1.1 5).toInt ≤ 0 := k_o1.1 5
  have ey_o1_5 : (o1.1 5).toInt = (yo1.1 5).toInt := congrArg Int32.toInt (r_o1.1 5 rfl)
  have t1 := congrArg Int32.toInt (congrFun (r_o0.2.1 2 rfl) v2.toNatClampNeg)
  have t2 := (show (yo0.2.1 2 v2.toNatClampNeg).toInt = (yo0.2.1 2 yv2.toNatClampNeg).toInt by rw [x_3])
  refine tt_if (fun c3 => ?_) (fun c3 => ?_)
  · have wc3 : (o0.1 3).toInt ≤ v5.toInt := c_le c3
    refine tt_n (ix_ok i_v2 (by decide) (by decide)) ?_
    refine tt_ko ?_
    have k4 := ok_xp (k := 1) (i := v2.toNatClampNeg) (v := v4) k_o0 (iv_w (a := (-2147483648)) (b := 2147483647) (by decide) (by decide) i_v4)
    have r5 := fr_xp (k := 1) (i := v2.toNatClampNeg) (v := v4) r_o0 rfl
    have p6 : Kw ((yo0.2.1 2 yv2.toNatClampNeg).toInt + 1) (o0.1 3).toInt (o0.2.2 4) := by rw [← x_3]; first | exact Kw_e (show Kw _ _ _ by assumption) (by omega) rfl
    have p7 : Nvp yv2.toInt (yo0.2.1 2 yv2.toNatClampNeg).toInt (o0.2.2 4) := by rw [← x_3]; first | exact Nvp_e x_1 (by omega) | exact Nvp_e (Nvp_p x_1 (show Pe _ (o0.2.2 4) _ by assumption) (by omega) (by omega)) (by omega)
    have p8 : Rkq 1 yv2.toInt (yo0.2.1 2 yv2.toNatClampNeg).toInt (o0.1 3).toInt (upd (o0.2.1 1) (v2.toNatClampNeg) v4) (o0.2.2 4) := by rw [← x_3]; exact Rkq_i x_14 rfl (by rw [tn_n]; omega) (by omega) (by omega) x_13 (by omega) (by omega) (by omega)
    have p9 : Dpq 1 yv2.toInt (yo0.2.1 1) (upd (o0.2.1 1) (v2.toNatClampNeg) v4) := by rw [← x_3]; exact Dpq_i x_18 (by rw [tn_n]; omega)
    have p10 : Sbj ((yo1.2.1 4 yv2.toNatClampNeg).toInt / 2) ((yo1.2.1 5 yv2.toNatClampNeg).toInt / 2) ((yo0.2.1 2 yv2.toNatClampNeg).toInt + 1) (o0.1 3).toInt (o0.2.1 2) (o0.2.2 4) (o0.2.2 4) := by rw [← x_3, ← r_o1.2.1 4 rfl, ← r_o1.2.1 5 rfl]; first | exact Sbj_e x_20 (by omega) | exact Sbj_e (Sbj_t x_20 (show Sbj _ _ _ _ _ _ _ by assumption) (show Pe _ (o0.2.2 4) _ by assumption) x_1 (by omega) (by omega) (by omega) (by omega) (by omega) (by omega) (by omega) (by assumption)) (by omega)
    exact tt_some ⟨(iv_w (a := 0) (b := 1) (by decide) (by decide) (show (1 : Int) ≤ (1 : Int32).toInt ∧ (1 : Int32).toInt ≤ 1 by decide)), k4, r5, f_o0_3, p6, p7, x_2, (show (o0.1 3).toInt ≤ (o0.1 4).toInt by omega), (show (o0.1 4).toInt = (o0.1 5).toInt by omega), (show (o0.1 3).toInt ≤ (yo0.2.1 2 yv2.toNatClampNeg).toInt + 301 by omega), (show (yo0.1 3).toInt ≤ (o0.1 3).toInt by omega), p8, x_15, p9, x_19, p10, trivial⟩
  · have wc3 : v5.toInt < (o0.1 3).toInt := c_nle c3
    have i11 : (1 : Int) ≤ v5.toInt ∧ v5.toInt ≤ 62908 := nr_nlel c3 i_v5 f_o0_3 (by decide) (by decide)
    have i12 : (2 : Int) ≤ (o0.1 3).toInt ∧ (o0.1 3).toInt ≤ 62909 := nr_nler c3 i_v5 f_o0_3 (by decide) (by decide)
    refine tt_n (ix_v (x := v5) (l := (o0.1 4)) (by omega) (by omega)) ?_
    refine tt_klr (fun x13 ax13 => ?_)
    have p14 : Bo x13 := by exact Kw_b x_0 (i := v5.toNatClampNeg) (by rw [tn_n]; omega) (by rw [tn_n]; omega) (by assumption)
    refine tt_be (sCu_depthOf _ _ k_o0 (iv_w (a := 0) (b := 5) (by decide) (by decide) f_o0_0) p14) (fun q15 hq15 eq15 => ?_)
    have i_q15 := iv_top q15
    try unfold fCu_findOf_87
    refine tt_kv (P := fun z => (((-2147483648) : Int) ≤ z.toInt ∧ z.toInt ≤ 209) ∧ z = (op_mn v4 q15) ∧ z.toInt = min v4.toInt q15.toInt) ⟨iv_mn i_v4 (iv_top q15) (by decide) (by decide) (by decide) (by decide), rfl, i_mn _ _⟩ (fun x16 qi17 => ?_)
    obtain ⟨i17, ax16, ei17⟩ := qi17
    try unfold fCu_findOf_90
    refine tt_kv (P := fun z => ((2 : Int) ≤ z.toInt ∧ z.toInt ≤ 62909) ∧ z = (v5 + 1) ∧ z.toInt = v5.toInt + 1) ⟨iv_add i11 (show (1 : Int) ≤ (1 : Int32).toInt ∧ (1 : Int32).toInt ≤ 1 by decide) (by decide) (by decide) (by decide) (by decide), rfl, iq_add i11 (show (1 : Int) ≤ (1 : Int32).toInt ∧ (1 : Int32).toInt ≤ 1 by decide) (by decide) (by decide)⟩ (fun x18 qi19 => ?_)
    obtain ⟨i19, ax18, ei19⟩ := qi19
    have t20 : (0 : Int) ≤ (o0.2.1 2 v2.toNatClampNeg).toInt ∧ (o0.2.1 2 v2.toNatClampNeg).toInt ≤ 62909 := k_o0.2 2 _
    have t21 : (0 : Int) ≤ (o0.2.1 2 v2.toNatClampNeg).toInt ∧ (o0.2.1 2 v2.toNatClampNeg).toInt ≤ 62909 := k_o0.2 2 _
    have t22 : (0 : Int) ≤ (o0.2.1 2 v2.toNatClampNeg).toInt ∧ (o0.2.1 2 v2.toNatClampNeg).toInt ≤ 62909 := k_o0.2 2 _
    have t23 : (0 : Int) ≤ (o0.2.1 2 v2.toNatClampNeg).toInt ∧ (o0.2.1 2 v2.toNatClampNeg).toInt ≤ 62909 := k_o0.2 2 _
    have t24 : (0 : Int) ≤ (o0.2.1 2 v2.toNatClampNeg).toInt ∧ (o0.2.1 2 v2.toNatClampNeg).toInt ≤ 62909 := k_o0.2 2 _
    have p25 : Dao v2.toInt x16.toInt (o0.2.1 2 v2.toNatClampNeg).toInt x18.toInt (o0.2.1 1) (o0.2.2 4) := by exact Dao_s (o := o0) (i := v5.toNatClampNeg) x_14 (Kw_m x_0 (by omega)) x_1 rfl (by rw [tn_n]; omega) (by omega) (by assumption) eq15 rfl x_13 (by omega) (by omega) (by omega) (by omega) (by omega)
    have t26 : (0 : Int) ≤ (o0.2.1 2 v2.toNatClampNeg).toInt ∧ (o0.2.1 2 v2.toNatClampNeg).toInt ≤ 62909 := k_o0.2 2 _
    exact H.2 _ _ _ _ _ k_o0 r_o0 k_o1 r_o1 i_v2 i17 (iv_w (a := 1) (b := 62910) (by decide) (by decide) i19) f_o0_0 (iv_w (a := 1) (b := 62909) (by decide) (by decide) i12) x_0 x_1 x_2 x_3 (show (o0.1 3).toInt ≤ (o0.1 4).toInt by omega) (show (o0.1 4).toInt = (o0.1 5).toInt by omega) (show (o0.2.1 2 v2.toNatClampNeg).toInt + 1 ≤ (o0.1 3).toInt by omega) (show (o0.1 3).toInt ≤ (o0.2.1 2 v2.toNatClampNeg).toInt + 301 by omega) (show (o0.2.1 2 v2.toNatClampNeg).toInt ≤ 62607 by omega) (show 0 ≤ (o0.2.1 2 v2.toNatClampNeg).toInt by omega) (show (yo0.1 3).toInt ≤ (o0.1 3).toInt by omega) (show v2.toInt = yv2.toInt by omega) (show (o0.2.1 2 v2.toNatClampNeg).toInt + 1 ≤ x18.toInt by omega) x_13 p25 x_15 (show (o0.2.1 2 v2.toNatClampNeg).toInt + 1 < (o0.1 3).toInt by omega) (show x18.toInt ≤ (o0.1 3).toInt by omega) x_18 x_19 x_20 (show 0 + (62910 - x18.toInt) * 2 < (n : Int) by omega)
set_option maxHeartbeats 4000000 in
set_option maxRecDepth 100000 in
theorem tCu_findOf_3 {yv2 : Int32} {yv3 : Int32} {yo0 : cf_O} {yo1 : cf_O} {n : Nat} (H : HCu_findOf yv2 yv3 yo0 yo1 n) (v2 : Int32) (v3 : Int32) (v4 : Int32) (o0 : cf_O) (o1 : cf_O) (k_o0 : okO I_Cu o0) (r_o0 : Fr (fr_M [3, 4, 5] [1] [4, 5]) yo0 o0) (k_o1 : okO I_Gr o1) (r_o1 : Fr (fr_M [] [] []) yo1 o1) (i_v2 : (1 : Int) ≤ v2.toInt ∧ v2.toInt ≤ 208) (i_v3 : (2 : Int) ≤ v3.toInt ∧ v3.toInt ≤ 5) (i_v4 : (2 : Int) ≤ v4.toInt ∧ v4.toInt ≤ 6) (f_o0_0 : (0 : Int) ≤ (o0.1 0).toInt ∧ (o0.1 0).toInt ≤ 0) (f_o0_3 : (1 : Int) ≤ (o0.1 3).toInt ∧ (o0.1 3).toInt ≤ 62909) (x_0 : Gx ((o1.1 0).toInt + 1) (o1.1 2).toInt (sh ((o1.1 0).toInt + 1) (o1.2.1 4)) (sh ((o1.1 0).toInt + 1) (o1.2.1 5))) (x_1 : Stt (v2.toInt + 1) (o0.2.1 2 v2.toNatClampNeg).toInt (o0.2.1 2)) (x_2 : Kw ((o0.2.1 2 v2.toNatClampNeg).toInt + 1) (o0.1 3).toInt (o0.2.2 4)) (x_3 : Nvp v2.toInt (o0.2.1 2 v2.toNatClampNeg).toInt (o0.2.2 4)) (x_4 : Pe (yo0.1 3).toInt (yo0.2.2 4) (o0.2.2 4)) (x_5 : (v2 = yv2)) (x_6 : (o1.1 0).toInt < v2.toInt) (x_7 : v2.toInt < 1 + (o1.1 0).toInt + (o1.1 2).toInt) (x_8 : (o0.1 3).toInt ≤ (o0.1 4).toInt) (x_9 : (o0.1 4).toInt = (o0.1 5).toInt) (x_10 : (o0.2.1 2 v2.toNatClampNeg).toInt + 1 ≤ (o0.1 3).toInt) (x_11 : (o0.1 3).toInt ≤ (o0.2.1 2 v2.toNatClampNeg).toInt + 301) (x_12 : (o0.2.1 2 v2.toNatClampNeg).toInt ≤ 62607) (x_13 : 0 ≤ (o0.2.1 2 v2.toNatClampNeg).toInt) (x_14 : (yo0.1 3).toInt ≤ (o0.1 3).toInt) (x_15 : v2.toInt = yv2.toInt) (x_16 : Rnk v2.toInt (o0.2.1 2) (o0.2.2 4) (o0.2.2 5)) (x_17 : Dep v2.toInt (o0.2.1 1)) (x_18 : Pe (yo0.1 3).toInt (yo0.2.2 5) (o0.2.2 5)) (x_19 : 3 ≤ v4.toInt ∨ (o0.1 3).toInt = (o0.2.1 2 v2.toNatClampNeg).toInt + 1) (x_20 : v4.toInt ≤ 2 ∨ (o0.2.1 2 v2.toNatClampNeg).toInt + 1 < (o0.1 3).toInt) (x_21 : ((o0.2.1 1) = (yo0.2.1 1))) (x_22 : Lmp yv3.toInt (o0.1 3).toInt (o0.2.2 4)) (x_23 : v3.toInt = yv3.toInt) (x_24 : Sbj ((o1.2.1 4 v2.toNatClampNeg).toInt / 2) ((o1.2.1 5 v2.toNatClampNeg).toInt / 2) ((o0.2.1 2 v2.toNatClampNeg).toInt + 1) (o0.1 3).toInt (o0.2.1 2) (o0.2.2 4) (o0.2.2 4)) (hm : 125820 + (6 - v4.toInt) * 2 ≤ (n : Int)) : tt (fCu_findOf_3 (gCu_findOf n) v2 v3 v4 o0 o1) (QCu_findOf yv2 yv3 yo0 yo1) := by
  unfold fCu_findOf_3
  have ey_o0_0 : (o0.1 0).toInt = (yo0.1 0).toInt := congrArg Int32.toInt (r_o0.1 0 rfl)
  have g_o0_2 : (0 : Int) ≤ (o0.1 2).toInt ∧ (o0.1 2).toInt ≤ 0 := k_o0.1 2
  have ey_o0_2 : (o0.1 2).toInt = (yo0.1 2).toInt := congrArg Int32.toInt (r_o0.1 2 rfl)
  have g_o0_4 : (1024 : Int) ≤ (o0.1 4).toInt ∧ (o0.1 4).toInt ≤ 131072 := k_o0.1 4
  have g_o0_5 : (1024 : Int) ≤ (o0.1 5).toInt ∧ (o0.1 5).toInt ≤ 131072 := k_o0.1 5
  have g_o1_0 : (0 : Int) ≤ (o1.1 0).toInt ∧ (o1.1 0).toInt ≤ 8 := k_o1.1 0
  have ey_o1_0 : (o1.1 0).toInt = (yo1.1 0).toInt := congrArg Int32.toInt (r_o1.1 0 rfl)
  have g_o1_2 : (0 : Int) ≤ (o1.1 2).toInt ∧ (o1.1 2).toInt ≤ 200 := k_o1.1 2
  have ey_o1_2 : (o1.1 2).toInt = (yo1.1 2).toInt := congrArg Int32.toInt (r_o1.1 2 rfl)
  have g_o1_3 : (0 : Int) ≤ (o1.1 3).toInt ∧ (o1.1 3).toInt ≤ 1 := k_o1.1 3
  have ey_o1_3 : (o1.1 3).toInt = (yo1.1 3).toInt := congrArg Int32.toInt (r_o1.1 3 rfl)
  have g_o1_4 : (0 : Int) ≤ (o1.1 4).toInt ∧ (o1.1 4).toInt ≤ 0 := k_o1.1 4
  have ey_o1_4 : (o1.1 4).toInt = (yo1.1 4).toInt := congrArg Int32.toInt (r_o1.1 4 rfl)
  have g_o1_5 : (0 : Int) ≤ (o1.1 5).toInt ∧ (o1.1 5).toInt ≤ 0 := k_o1.1 5
  have ey_o1_5 : (o1.1 5).toInt = (yo1.1 5).toInt := congrArg Int32.toInt (r_o1.1 5 rfl)
  have t1 := Gx_at (v := v2) x_0 (by omega) (by omega) (by omega)
  have t2 := congrArg Int32.toInt (congrFun (r_o0.2.1 2 rfl) v2.toNatClampNeg)
  have t3 := (show (yo0.2.1 2 v2.toNatClampNeg).toInt = (yo0.2.1 2 yv2.toNatClampNeg).toInt by rw [x_5])
  refine tt_if (fun c4 => ?_) (fun c4 => ?_)
  · have wc4 : v3.toInt < v4.toInt := c_lt c4
    have i5 : (3 : Int) ≤ v4.toInt ∧ v4.toInt ≤ 6 := nr_ltr c4 i_v3 i_v4 (by decide) (by decide)
    refine tt_n (ix_ok i_v2 (by decide) (by decide)) ?_
    refine tt_kv (P := fun z => ((0 : Int) ≤ z.toInt ∧ z.toInt ≤ 62909) ∧ z = (o0.2.1 2 v2.toNatClampNeg) ∧ z.toInt = (o0.2.1 2 v2.toNatClampNeg).toInt) ⟨(k_o0.2 2 _), rfl, rfl⟩ (fun x6 qi7 => ?_)
    obtain ⟨i7, ax6, ei7⟩ := qi7
    refine tt_kv (P := fun z => ((1 : Int) ≤ z.toInt ∧ z.toInt ≤ 62910) ∧ z = (x6 + 1) ∧ z.toInt = x6.toInt + 1) ⟨iv_add i7 (show (1 : Int) ≤ (1 : Int32).toInt ∧ (1 : Int32).toInt ≤ 1 by decide) (by decide) (by decide) (by decide) (by decide), rfl, iq_add i7 (show (1 : Int) ≤ (1 : Int32).toInt ∧ (1 : Int32).toInt ≤ 1 by decide) (by decide) (by decide)⟩ (fun x8 qi9 => ?_)
    obtain ⟨i9, ax8, ei9⟩ := qi9
    have t10 : (0 : Int) ≤ (o0.2.1 2 v2.toNatClampNeg).toInt ∧ (o0.2.1 2 v2.toNatClampNeg).toInt ≤ 62909 := k_o0.2 2 _
    have t11 : (0 : Int) ≤ (o0.2.1 2 v2.toNatClampNeg).toInt ∧ (o0.2.1 2 v2.toNatClampNeg).toInt ≤ 62909 := k_o0.2 2 _
    have t12 : (0 : Int) ≤ (o0.2.1 2 v2.toNatClampNeg).toInt ∧ (o0.2.1 2 v2.toNatClampNeg).toInt ≤ 62909 := k_o0.2 2 _
    have t13 : (0 : Int) ≤ (o0.2.1 2 v2.toNatClampNeg).toInt ∧ (o0.2.1 2 v2.toNatClampNeg).toInt ≤ 62909 := k_o0.2 2 _
    have t14 : (0 : Int) ≤ (o0.2.1 2 v2.toNatClampNeg).toInt ∧ (o0.2.1 2 v2.toNatClampNeg).toInt ≤ 62909 := k_o0.2 2 _
    have p15 : Dao v2.toInt 209 (o0.2.1 2 v2.toNatClampNeg).toInt x8.toInt (o0.2.1 1) (o0.2.2 4) := by exact Dao_0 rfl (by omega)
    have t16 : (0 : Int) ≤ (o0.2.1 2 v2.toNatClampNeg).toInt ∧ (o0.2.1 2 v2.toNatClampNeg).toInt ≤ 62909 := k_o0.2 2 _
    exact H.2 _ _ _ _ _ k_o0 r_o0 k_o1 r_o1 i_v2 (iv_w (a := (-2147483648)) (b := 209) (by decide) (by decide) (show (209 : Int) ≤ (209 : Int32).toInt ∧ (209 : Int32).toInt ≤ 209 by decide)) i9 f_o0_0 f_o0_3 x_2 x_3 x_4 x_5 (show (o0.1 3).toInt ≤ (o0.1 4).toInt by omega) (show (o0.1 4).toInt = (o0.1 5).toInt by omega) (show (o0.2.1 2 v2.toNatClampNeg).toInt + 1 ≤ (o0.1 3).toInt by omega) (show (o0.1 3).toInt ≤ (o0.2.1 2 v2.toNatClampNeg).toInt + 301 by omega) (show (o0.2.1 2 v2.toNatClampNeg).toInt ≤ 62607 by omega) (show 0 ≤ (o0.2.1 2 v2.toNatClampNeg).toInt by omega) (show (yo0.1 3).toInt ≤ (o0.1 3).toInt by omega) (show v2.toInt = yv2.toInt by omega) (show (o0.2.1 2 v2.toNatClampNeg).toInt + 1 ≤ x8.toInt by omega) x_17 p15 x_18 (show (o0.2.1 2 v2.toNatClampNeg).toInt + 1 < (o0.1 3).toInt by omega) (show x8.toInt ≤ (o0.1 3).toInt by omega) x_21 x_22 x_24 (show 0 + (62910 - x8.toInt) * 2 < (n : Int) by omega)
  · have wc4 : v4.toInt ≤ v3.toInt := c_nlt c4
    have i17 : (2 : Int) ≤ v4.toInt ∧ v4.toInt ≤ 5 := nr_nltl c4 i_v4 i_v3 (by decide) (by decide)
    refine tt_n (ix_ok i_v2 (by decide) (by decide)) ?_
    refine tt_kv (P := fun z => ((0 : Int) ≤ z.toInt ∧ z.toInt ≤ 417) ∧ z = (o1.2.1 4 v2.toNatClampNeg) ∧ z.toInt = (o1.2.1 4 v2.toNatClampNeg).toInt) ⟨(k_o1.2 4 _), rfl, rfl⟩ (fun x18 qi19 => ?_)
    obtain ⟨i19, ax18, ei19⟩ := qi19
    refine tt_kv (P := fun z => ((0 : Int) ≤ z.toInt ∧ z.toInt ≤ 208) ∧ z = (x18 >>> (1 &&& 31)) ∧ z.toInt = x18.toInt / 2) ⟨iv_shr (p := 1) (q := 1) i19 (show (1 : Int) ≤ (1 : Int32).toInt ∧ (1 : Int32).toInt ≤ 1 by decide) (by decide) (by decide) (by decide) (by decide), rfl, i_s1 (Int.le_trans (by decide) i19.1)⟩ (fun x20 qi21 => ?_)
    obtain ⟨i21, ax20, ei21⟩ := qi21
    refine tt_n (ix_ok i_v2 (by decide) (by decide)) ?_
    refine tt_kv (P := fun z => ((0 : Int) ≤ z.toInt ∧ z.toInt ≤ 417) ∧ z = (o1.2.1 5 v2.toNatClampNeg) ∧ z.toInt = (o1.2.1 5 v2.toNatClampNeg).toInt) ⟨(k_o1.2 5 _), rfl, rfl⟩ (fun x22 qi23 => ?_)
    obtain ⟨i23, ax22, ei23⟩ := qi23
    refine tt_kv (P := fun z => ((0 : Int) ≤ z.toInt ∧ z.toInt ≤ 208) ∧ z = (x22 >>> (1 &&& 31)) ∧ z.toInt = x22.toInt / 2) ⟨iv_shr (p := 1) (q := 1) i23 (show (1 : Int) ≤ (1 : Int32).toInt ∧ (1 : Int32).toInt ≤ 1 by decide) (by decide) (by decide) (by decide) (by decide), rfl, i_s1 (Int.le_trans (by decide) i23.1)⟩ (fun x24 qi25 => ?_)
    obtain ⟨i25, ax24, ei25⟩ := qi25
    refine tt_n (ix_ok i_v2 (by decide) (by decide)) ?_
    refine tt_kv (P := fun z => ((0 : Int) ≤ z.toInt ∧ z.toInt ≤ 62909) ∧ z = (o0.2.1 2 v2.toNatClampNeg) ∧ z.toInt = (o0.2.1 2 v2.toNatClampNeg).toInt) ⟨(k_o0.2 2 _), rfl, rfl⟩ (fun x26 qi27 => ?_)
    obtain ⟨i27, ax26, ei27⟩ := qi27
    refine tt_kv (P := fun z => ((1 : Int) ≤ z.toInt ∧ z.toInt ≤ 62910) ∧ z = (x26 + 1) ∧ z.toInt = x26.toInt + 1) ⟨iv_add i27 (show (1 : Int) ≤ (1 : Int32).toInt ∧ (1 : Int32).toInt ≤ 1 by decide) (by decide) (by decide) (by decide) (by decide), rfl, iq_add i27 (show (1 : Int) ≤ (1 : Int32).toInt ∧ (1 : Int32).toInt ≤ 1 by decide) (by decide) (by decide)⟩ (fun x28 qi29 => ?_)
    obtain ⟨i29, ax28, ei29⟩ := qi29
    have p30 : Sy x20.toInt x24.toInt x28.toInt (o0.2.1 2) := by exact Sy_i x_1 (by omega) (by omega) (by omega) (by omega) (by omega)
    have p31 : Kw x28.toInt (o0.1 3).toInt (o0.2.2 4) := by exact Kw_e x_2 (by omega) rfl
    refine tt_b (sCu_joinAll _ _ _ _ _ k_o0 (show (1 : Int) ≤ _ ∧ _ ≤ (208 : Int) by omega) (show (1 : Int) ≤ _ ∧ _ ≤ (208 : Int) by omega) i17 (show (1 : Int) ≤ _ ∧ _ ≤ (62608 : Int) by omega) f_o0_0 f_o0_3 p30 p31 (show (o0.1 3).toInt ≤ (o0.1 4).toInt by omega) (show (o0.1 4).toInt = (o0.1 5).toInt by omega) (show x28.toInt ≤ (o0.1 3).toInt by omega) (show (o0.1 3).toInt ≤ x28.toInt + 300 by omega)) (fun q32 hq32 => ?_)
    obtain ⟨i_q32, k_q32_2, n_q32_2, f_q32_2_3, zq32_0, zq32_1, zq32_2, zq32_3, zq32_4, zq32_5, zq32_6, zq32_7, zq32_8, zq32_9, zq32_10, -⟩ := hq32
    have r_q32_2 := fr_tr r_o0 n_q32_2 rfl rfl rfl
    have f_q32_2_0 : (0 : Int) ≤ (q32.2.1 0).toInt ∧ (q32.2.1 0).toInt ≤ 0 := by rw [n_q32_2.1 0 rfl]; exact f_o0_0
    have e_q32_2_0 : (q32.2.1 0).toInt = (o0.1 0).toInt := congrArg Int32.toInt (n_q32_2.1 0 rfl)
    have e_q32_2_2 : (q32.2.1 2).toInt = (o0.1 2).toInt := congrArg Int32.toInt (n_q32_2.1 2 rfl)
    have g_q32_2_2 : (0 : Int) ≤ (q32.2.1 2).toInt ∧ (q32.2.1 2).toInt ≤ 0 := k_q32_2.1 2
    have g_q32_2_4 : (1024 : Int) ≤ (q32.2.1 4).toInt ∧ (q32.2.1 4).toInt ≤ 131072 := k_q32_2.1 4
    have g_q32_2_5 : (1024 : Int) ≤ (q32.2.1 5).toInt ∧ (q32.2.1 5).toInt ≤ 131072 := k_q32_2.1 5
    have zq32_2 : (q32.2.1 3).toInt ≤ (q32.2.1 4).toInt := zq32_2
    have zq32_3 : (q32.2.1 4).toInt = (q32.2.1 5).toInt := zq32_3
    have zq32_4 : (o0.1 3).toInt ≤ (q32.2.1 3).toInt := zq32_4
    have zq32_5 : x28.toInt ≤ (q32.2.1 3).toInt := zq32_5
    have zq32_6 : (q32.2.1 3).toInt ≤ x28.toInt + 300 := zq32_6
    have u33 : Stt (v2.toInt + 1) (q32.2.2.1 2 v2.toNatClampNeg).toInt (q32.2.2.1 2) := by rw [n_q32_2.2.1 2 rfl]; exact x_1
    have u34 : Dep v2.toInt (q32.2.2.1 1) := by rw [n_q32_2.2.1 1 rfl]; exact x_17
    have u35 : ((q32.2.2.1 1) = (yo0.2.1 1)) := by rw [n_q32_2.2.1 1 rfl]; exact x_21
    have t36 := congrArg Int32.toInt (congrFun (n_q32_2.2.1 2 rfl) v2.toNatClampNeg)
    have t37 := Nzd (show Jqp _ _ _ _ _ _ _ _ _ _ by assumption) (fun h2 => Pj_i x_16 x_1 h2 (by omega) (by omega) (by omega) (by omega) (by omega) (by omega))
    have t38 := (show q32.2.2.1 2 = o0.2.1 2 from n_q32_2.2.1 2 rfl)
    try unfold fCu_findOf_39
    refine tt_if (fun c39 => ?_) (fun c39 => ?_)
    · have wc39 : q32.1.toInt = (0 : Int) := c_eq c39
      have i40 : (0 : Int) ≤ q32.1.toInt ∧ q32.1.toInt ≤ 0 := nr_eql c39 i_q32 (show (0 : Int) ≤ (0 : Int32).toInt ∧ (0 : Int32).toInt ≤ 0 by decide) (by decide) (by decide)
      have p41 : Kw ((yo0.2.1 2 yv2.toNatClampNeg).toInt + 1) (q32.2.1 3).toInt (q32.2.2.2 4) := by rw [← x_5]; first | exact Kw_e (show Kw _ _ _ by assumption) (by omega) rfl
      have p42 : Nvp yv2.toInt (yo0.2.1 2 yv2.toNatClampNeg).toInt (q32.2.2.2 4) := by rw [← x_5]; first | exact Nvp_e x_3 (by omega) | exact Nvp_e (Nvp_p x_3 (show Pe _ (o0.2.2 4) _ by assumption) (by omega) (by omega)) (by omega)
      have p43 : Pe (yo0.1 3).toInt (yo0.2.2 4) (q32.2.2.2 4) := by first | exact x_4 | exact Pe_t x_4 (show Pe _ (o0.2.2 4) _ by assumption) (by omega)
      have p44 : Rkq 0 yv2.toInt (yo0.2.1 2 yv2.toNatClampNeg).toInt (q32.2.1 3).toInt (q32.2.2.1 1) (q32.2.2.2 4) := by exact Rkq_0 rfl
      have p45 : Pe (yo0.1 3).toInt (yo0.2.2 5) (q32.2.2.2 5) := by first | exact x_18 | exact Pe_t x_18 (show Pe _ (o0.2.2 5) _ by assumption) (by omega)
      have p46 : Dpq 0 yv2.toInt (yo0.2.1 1) (q32.2.2.1 1) := by exact Dpq_0 rfl
      have p47 : Lmp yv3.toInt (q32.2.1 3).toInt (q32.2.2.2 4) := by first | exact x_22 | exact Lmp_j x_22 (show Pe _ (o0.2.2 4) _ by assumption) (show Lnw _ _ _ _ by assumption) (by omega)
      have p48 : Sbj ((yo1.2.1 4 yv2.toNatClampNeg).toInt / 2) ((yo1.2.1 5 yv2.toNatClampNeg).toInt / 2) ((yo0.2.1 2 yv2.toNatClampNeg).toInt + 1) (q32.2.1 3).toInt (q32.2.2.1 2) (q32.2.2.2 4) (q32.2.2.2 4) := by rw [← x_5, ← r_o1.2.1 4 rfl, ← r_o1.2.1 5 rfl]; first | exact Sbj_e x_24 (by omega) | exact Sbj_e (Sbj_t x_24 (show Sbj _ _ _ _ _ _ _ by assumption) (show Pe _ (o0.2.2 4) _ by assumption) x_1 (by omega) (by omega) (by omega) (by omega) (by omega) (by omega) (by omega) (by assumption)) (by omega)
      exact tt_some ⟨(iv_w (a := 0) (b := 1) (by decide) (by decide) (show (0 : Int) ≤ (0 : Int32).toInt ∧ (0 : Int32).toInt ≤ 0 by decide)), k_q32_2, r_q32_2, f_q32_2_3, p41, p42, p43, (show (q32.2.1 3).toInt ≤ (q32.2.1 4).toInt by omega), (show (q32.2.1 4).toInt = (q32.2.1 5).toInt by omega), (show (q32.2.1 3).toInt ≤ (yo0.2.1 2 yv2.toNatClampNeg).toInt + 301 by omega), (show (yo0.1 3).toInt ≤ (q32.2.1 3).toInt by omega), p44, p45, p46, p47, p48, trivial⟩
    · have wc39 : ¬ q32.1.toInt = (0 : Int) := c_ne c39
      have i49 : (1 : Int) ≤ q32.1.toInt ∧ q32.1.toInt ≤ 1 := nr_nela c39 i_q32 (show (0 : Int) ≤ (0 : Int32).toInt ∧ (0 : Int32).toInt ≤ 0 by decide) (by decide) (by decide)
      refine tt_kv (P := fun z => ((3 : Int) ≤ z.toInt ∧ z.toInt ≤ 6) ∧ z = (v4 + 1) ∧ z.toInt = v4.toInt + 1) ⟨iv_add i17 (show (1 : Int) ≤ (1 : Int32).toInt ∧ (1 : Int32).toInt ≤ 1 by decide) (by decide) (by decide) (by decide) (by decide), rfl, iq_add i17 (show (1 : Int) ≤ (1 : Int32).toInt ∧ (1 : Int32).toInt ≤ 1 by decide) (by decide) (by decide)⟩ (fun x50 qi51 => ?_)
      obtain ⟨i51, ax50, ei51⟩ := qi51
      have p52 : Kw ((q32.2.2.1 2 v2.toNatClampNeg).toInt + 1) (q32.2.1 3).toInt (q32.2.2.2 4) := by exact Kw_e (show Kw _ _ _ by assumption) (by omega) rfl
      have p53 : Nvp v2.toInt (q32.2.2.1 2 v2.toNatClampNeg).toInt (q32.2.2.2 4) := by exact Nvp_e (Nvp_p x_3 (show Pe _ (o0.2.2 4) _ by assumption) (by omega) (by omega)) (by omega)
      have p54 : Pe (yo0.1 3).toInt (yo0.2.2 4) (q32.2.2.2 4) := by exact Pe_t x_4 (show Pe _ (o0.2.2 4) _ by assumption) (by omega)
      have t55 : (0 : Int) ≤ (q32.2.2.1 2 v2.toNatClampNeg).toInt ∧ (q32.2.2.1 2 v2.toNatClampNeg).toInt ≤ 62909 := k_q32_2.2 2 _
      have t56 : (0 : Int) ≤ (q32.2.2.1 2 v2.toNatClampNeg).toInt ∧ (q32.2.2.1 2 v2.toNatClampNeg).toInt ≤ 62909 := k_q32_2.2 2 _
      have t57 : (0 : Int) ≤ (q32.2.2.1 2 v2.toNatClampNeg).toInt ∧ (q32.2.2.1 2 v2.toNatClampNeg).toInt ≤ 62909 := k_q32_2.2 2 _
      have t58 : (0 : Int) ≤ (q32.2.2.1 2 v2.toNatClampNeg).toInt ∧ (q32.2.2.1 2 v2.toNatClampNeg).toInt ≤ 62909 := k_q32_2.2 2 _
      have p59 : Rnk v2.toInt (q32.2.2.1 2) (q32.2.2.2 4) (q32.2.2.2 5) := by rw [n_q32_2.2.1 2 rfl]; exact Rnk_p x_16 x_1 (show Pe _ (o0.2.2 4) _ by assumption) (show Pe _ (o0.2.2 5) _ by assumption) (by omega)
      have p60 : Pe (yo0.1 3).toInt (yo0.2.2 5) (q32.2.2.2 5) := by exact Pe_t x_18 (show Pe _ (o0.2.2 5) _ by assumption) (by omega)
      have t61 : (0 : Int) ≤ (q32.2.2.1 2 v2.toNatClampNeg).toInt ∧ (q32.2.2.1 2 v2.toNatClampNeg).toInt ≤ 62909 := k_q32_2.2 2 _
      have t62 : (0 : Int) ≤ (q32.2.2.1 2 v2.toNatClampNeg).toInt ∧ (q32.2.2.1 2 v2.toNatClampNeg).toInt ≤ 62909 := k_q32_2.2 2 _
      have p63 : Lmp yv3.toInt (q32.2.1 3).toInt (q32.2.2.2 4) := by first | exact x_22 | exact Lmp_j x_22 (show Pe _ (o0.2.2 4) _ by assumption) (show Lnw _ _ _ _ by assumption) (by omega)
      have p64 : Sbj ((o1.2.1 4 v2.toNatClampNeg).toInt / 2) ((o1.2.1 5 v2.toNatClampNeg).toInt / 2) ((q32.2.2.1 2 v2.toNatClampNeg).toInt + 1) (q32.2.1 3).toInt (q32.2.2.1 2) (q32.2.2.2 4) (q32.2.2.2 4) := by exact Sbj_e (Sbj_t x_24 (show Sbj _ _ _ _ _ _ _ by assumption) (show Pe _ (o0.2.2 4) _ by assumption) x_1 (by omega) (by omega) (by omega) (by omega) (by omega) (by omega) (by omega) (show q32.2.2.1 2 = o0.2.1 2 from n_q32_2.2.1 2 rfl)) (by omega)
      exact H.1 _ _ _ _ _ k_q32_2 r_q32_2 k_o1 r_o1 i_v2 i_v3 (iv_w (a := 2) (b := 6) (by decide) (by decide) i51) f_q32_2_0 f_q32_2_3 x_0 u33 p52 p53 p54 x_5 (show (o1.1 0).toInt < v2.toInt by omega) (show v2.toInt < 1 + (o1.1 0).toInt + (o1.1 2).toInt by omega) (show (q32.2.1 3).toInt ≤ (q32.2.1 4).toInt by omega) (show (q32.2.1 4).toInt = (q32.2.1 5).toInt by omega) (show (q32.2.2.1 2 v2.toNatClampNeg).toInt + 1 ≤ (q32.2.1 3).toInt by omega) (show (q32.2.1 3).toInt ≤ (q32.2.2.1 2 v2.toNatClampNeg).toInt + 301 by omega) (show (q32.2.2.1 2 v2.toNatClampNeg).toInt ≤ 62607 by omega) (show 0 ≤ (q32.2.2.1 2 v2.toNatClampNeg).toInt by omega) (show (yo0.1 3).toInt ≤ (q32.2.1 3).toInt by omega) (show v2.toInt = yv2.toInt by omega) p59 u34 p60 (show 3 ≤ x50.toInt ∨ (q32.2.1 3).toInt = (q32.2.2.1 2 v2.toNatClampNeg).toInt + 1 by omega) (show x50.toInt ≤ 2 ∨ (q32.2.2.1 2 v2.toNatClampNeg).toInt + 1 < (q32.2.1 3).toInt by omega) u35 p63 (show v3.toInt = yv3.toInt by omega) p64 (show 125820 + (6 - x50.toInt) * 2 < (n : Int) by omega)
set_option maxHeartbeats 4000000 in
set_option maxRecDepth 100000 in
theorem hCu_findOf (yv2 : Int32) (yv3 : Int32) (yo0 : cf_O) (yo1 : cf_O) : ∀ n, HCu_findOf yv2 yv3 yo0 yo1 n := by
  intro n
  induction n with
  | zero => exact ⟨(fun v2 v3 v4 o0 o1 k_o0 r_o0 k_o1 r_o1 i_v2 i_v3 i_v4 f_o0_0 f_o0_3 x_0 x_1 x_2 x_3 x_4 x_5 x_6 x_7 x_8 x_9 x_10 x_11 x_12 x_13 x_14 x_15 x_16 x_17 x_18 x_19 x_20 x_21 x_22 x_23 x_24 hm => by exact absurd (show 125820 + (6 - v4.toInt) * 2 < (0 : Int) from hm) (by omega)), (fun v2 v4 v5 o0 o1 k_o0 r_o0 k_o1 r_o1 i_v2 i_v4 i_v5 f_o0_0 f_o0_3 x_0 x_1 x_2 x_3 x_4 x_5 x_6 x_7 x_8 x_9 x_10 x_11 x_12 x_13 x_14 x_15 x_16 x_17 x_18 x_19 x_20 hm => by exact absurd (show 0 + (62910 - v5.toInt) * 2 < (0 : Int) from hm) (by omega))⟩
  | succ n ih => exact ⟨(fun v2 v3 v4 o0 o1 k_o0 r_o0 k_o1 r_o1 i_v2 i_v3 i_v4 f_o0_0 f_o0_3 x_0 x_1 x_2 x_3 x_4 x_5 x_6 x_7 x_8 x_9 x_10 x_11 x_12 x_13 x_14 x_15 x_16 x_17 x_18 x_19 x_20 x_21 x_22 x_23 x_24 hm => tCu_findOf_3 ih v2 v3 v4 o0 o1 k_o0 r_o0 k_o1 r_o1 i_v2 i_v3 i_v4 f_o0_0 f_o0_3 x_0 x_1 x_2 x_3 x_4 x_5 x_6 x_7 x_8 x_9 x_10 x_11 x_12 x_13 x_14 x_15 x_16 x_17 x_18 x_19 x_20 x_21 x_22 x_23 x_24 (by omega)), (fun v2 v4 v5 o0 o1 k_o0 r_o0 k_o1 r_o1 i_v2 i_v4 i_v5 f_o0_0 f_o0_3 x_0 x_1 x_2 x_3 x_4 x_5 x_6 x_7 x_8 x_9 x_10 x_11 x_12 x_13 x_14 x_15 x_16 x_17 x_18 x_19 x_20 hm => tCu_findOf_65 ih v2 v4 v5 o0 o1 k_o0 r_o0 k_o1 r_o1 i_v2 i_v4 i_v5 f_o0_0 f_o0_3 x_0 x_1 x_2 x_3 x_4 x_5 x_6 x_7 x_8 x_9 x_10 x_11 x_12 x_13 x_14 x_15 x_16 x_17 x_18 x_19 x_20 (by omega))⟩
set_option maxHeartbeats 4000000 in
set_option maxRecDepth 100000 in
theorem sCu_findOf (v2 : Int32) (v3 : Int32) (o0 : cf_O) (o1 : cf_O) (k_o0 : okO I_Cu o0) (k_o1 : okO I_Gr o1) (i_v2 : (1 : Int) ≤ v2.toInt ∧ v2.toInt ≤ 208) (i_v3 : (2 : Int) ≤ v3.toInt ∧ v3.toInt ≤ 5) (f_o0_0 : (0 : Int) ≤ (o0.1 0).toInt ∧ (o0.1 0).toInt ≤ 0) (f_o0_3 : (1 : Int) ≤ (o0.1 3).toInt ∧ (o0.1 3).toInt ≤ 62909) (x_0 : Gx ((o1.1 0).toInt + 1) (o1.1 2).toInt (sh ((o1.1 0).toInt + 1) (o1.2.1 4)) (sh ((o1.1 0).toInt + 1) (o1.2.1 5))) (x_1 : Stt (v2.toInt + 1) (o0.2.1 2 v2.toNatClampNeg).toInt (o0.2.1 2)) (x_2 : Kw ((o0.2.1 2 v2.toNatClampNeg).toInt + 1) (o0.1 3).toInt (o0.2.2 4)) (x_3 : Nvp v2.toInt (o0.2.1 2 v2.toNatClampNeg).toInt (o0.2.2 4)) (x_4 : (o1.1 0).toInt < v2.toInt) (x_5 : v2.toInt < 1 + (o1.1 0).toInt + (o1.1 2).toInt) (x_6 : (o0.1 3).toInt ≤ (o0.1 4).toInt) (x_7 : (o0.1 4).toInt = (o0.1 5).toInt) (x_8 : (o0.2.1 2 v2.toNatClampNeg).toInt + 1 ≤ (o0.1 3).toInt) (x_9 : (o0.1 3).toInt ≤ (o0.2.1 2 v2.toNatClampNeg).toInt + 301) (x_10 : (o0.2.1 2 v2.toNatClampNeg).toInt ≤ 62607) (x_11 : 0 ≤ (o0.2.1 2 v2.toNatClampNeg).toInt) (x_12 : Rnk v2.toInt (o0.2.1 2) (o0.2.2 4) (o0.2.2 5)) (x_13 : Dep v2.toInt (o0.2.1 1)) (x_14 : (o0.1 3).toInt = (o0.2.1 2 v2.toNatClampNeg).toInt + 1) (x_15 : Lmp v3.toInt (o0.1 3).toInt (o0.2.2 4)) : tt (fCu_findOf v2 v3 o0 o1) (QCu_findOf v2 v3 o0 o1) := by
  have H := hCu_findOf v2 v3 o0 o1 cfFU
  have hm : (125831 : Int) ≤ (cfFU : Nat) := by decide
  have r_o0 : Fr (fr_M [3, 4, 5] [1] [4, 5]) o0 o0 := fr_rfl
  have r_o1 : Fr (fr_M [] [] []) o1 o1 := fr_rfl
  unfold fCu_findOf fCu_findOf_0
  have g_o0_2 : (0 : Int) ≤ (o0.1 2).toInt ∧ (o0.1 2).toInt ≤ 0 := k_o0.1 2
  have g_o0_4 : (1024 : Int) ≤ (o0.1 4).toInt ∧ (o0.1 4).toInt ≤ 131072 := k_o0.1 4
  have g_o0_5 : (1024 : Int) ≤ (o0.1 5).toInt ∧ (o0.1 5).toInt ≤ 131072 := k_o0.1 5
  have g_o1_0 : (0 : Int) ≤ (o1.1 0).toInt ∧ (o1.1 0).toInt ≤ 8 := k_o1.1 0
  have g_o1_2 : (0 : Int) ≤ (o1.1 2).toInt ∧ (o1.1 2).toInt ≤ 200 := k_o1.1 2
  have g_o1_3 : (0 : Int) ≤ (o1.1 3).toInt ∧ (o1.1 3).toInt ≤ 1 := k_o1.1 3
  have g_o1_4 : (0 : Int) ≤ (o1.1 4).toInt ∧ (o1.1 4).toInt ≤ 0 := k_o1.1 4
  have g_o1_5 : (0 : Int) ≤ (o1.1 5).toInt ∧ (o1.1 5).toInt ≤ 0 := k_o1.1 5
  have p1 : Pe (o0.1 3).toInt (o0.2.2 4) (o0.2.2 4) := by exact Pe_0
  have p2 : (v2 = v2) := by exact rfl
  have t3 : (0 : Int) ≤ (o0.2.1 2 v2.toNatClampNeg).toInt ∧ (o0.2.1 2 v2.toNatClampNeg).toInt ≤ 62909 := k_o0.2 2 _
  have t4 : (0 : Int) ≤ (o0.2.1 2 v2.toNatClampNeg).toInt ∧ (o0.2.1 2 v2.toNatClampNeg).toInt ≤ 62909 := k_o0.2 2 _
  have t5 : (0 : Int) ≤ (o0.2.1 2 v2.toNatClampNeg).toInt ∧ (o0.2.1 2 v2.toNatClampNeg).toInt ≤ 62909 := k_o0.2 2 _
  have t6 : (0 : Int) ≤ (o0.2.1 2 v2.toNatClampNeg).toInt ∧ (o0.2.1 2 v2.toNatClampNeg).toInt ≤ 62909 := k_o0.2 2 _
  have p7 : Pe (o0.1 3).toInt (o0.2.2 5) (o0.2.2 5) := by exact Pe_0
  have t8 : (0 : Int) ≤ (o0.2.1 2 v2.toNatClampNeg).toInt ∧ (o0.2.1 2 v2.toNatClampNeg).toInt ≤ 62909 := k_o0.2 2 _
  have t9 : (0 : Int) ≤ (o0.2.1 2 v2.toNatClampNeg).toInt ∧ (o0.2.1 2 v2.toNatClampNeg).toInt ≤ 62909 := k_o0.2 2 _
  have p10 : ((o0.2.1 1) = (o0.2.1 1)) := by exact rfl
  have p11 : Sbj ((o1.2.1 4 v2.toNatClampNeg).toInt / 2) ((o1.2.1 5 v2.toNatClampNeg).toInt / 2) ((o0.2.1 2 v2.toNatClampNeg).toInt + 1) (o0.1 3).toInt (o0.2.1 2) (o0.2.2 4) (o0.2.2 4) := by exact Sbj_0 (by omega)
  exact H.1 _ _ _ _ _ k_o0 r_o0 k_o1 r_o1 i_v2 i_v3 (iv_w (a := 2) (b := 6) (by decide) (by decide) (show (2 : Int) ≤ (2 : Int32).toInt ∧ (2 : Int32).toInt ≤ 2 by decide)) f_o0_0 f_o0_3 x_0 x_1 x_2 x_3 p1 p2 (show (o1.1 0).toInt < v2.toInt by omega) (show v2.toInt < 1 + (o1.1 0).toInt + (o1.1 2).toInt by omega) (show (o0.1 3).toInt ≤ (o0.1 4).toInt by omega) (show (o0.1 4).toInt = (o0.1 5).toInt by omega) (show (o0.2.1 2 v2.toNatClampNeg).toInt + 1 ≤ (o0.1 3).toInt by omega) (show (o0.1 3).toInt ≤ (o0.2.1 2 v2.toNatClampNeg).toInt + 301 by omega) (show (o0.2.1 2 v2.toNatClampNeg).toInt ≤ 62607 by omega) (show 0 ≤ (o0.2.1 2 v2.toNatClampNeg).toInt by omega) (show (o0.1 3).toInt ≤ (o0.1 3).toInt by omega) (show v2.toInt = v2.toInt by omega) x_12 x_13 p7 (show 3 ≤ 2 ∨ (o0.1 3).toInt = (o0.2.1 2 v2.toNatClampNeg).toInt + 1 by omega) (show 2 ≤ 2 ∨ (o0.2.1 2 v2.toNatClampNeg).toInt + 1 < (o0.1 3).toInt by omega) p10 x_15 (show v3.toInt = v3.toInt by omega) p11 (show 125820 + (6 - 2) * 2 < ((cfFU : Nat) : Int) by omega)
def QCu_find (v2 : Int32) (o0 : cf_O) (o1 : cf_O) (r : (Int32 × cf_O)) : Prop := ((0 : Int) ≤ r.1.toInt ∧ r.1.toInt ≤ 1) ∧ (okO I_Cu r.2) ∧ (Fr (fr_M [0, 3, 4, 5] [1, 2] [4, 5]) o0 r.2) ∧ ((0 : Int) ≤ (r.2.1 0).toInt ∧ (r.2.1 0).toInt ≤ 5) ∧ (Fqs (r.2.1 0).toInt (o1.1 0).toInt (((o1.1 0).toInt + 1) + (o1.1 2).toInt) (r.2.1 3).toInt (r.2.2.1 2) (r.2.2.1 1) (r.2.2.2 4)) ∧ ((r.2.1 3).toInt ≤ (r.2.1 4).toInt) ∧ ((r.2.1 4).toInt = (r.2.1 5).toInt) ∧ (r.1.toInt = 0 ∨ (r.2.1 0).toInt = v2.toInt) ∧ (Rcf (r.2.1 0).toInt (r.2.1 3).toInt (o1.1 0).toInt (((o1.1 0).toInt + 1) + (o1.1 2).toInt) (o1.2.1 4) (o1.2.1 5) (r.2.2.1 2) (r.2.2.2 4)) ∧ True
def HCu_find (yv2 : Int32) (yo0 : cf_O) (yo1 : cf_O) (n : Nat) : Prop := (∀ (v2 : Int32) (v3 : Int32) (o0 : cf_O) (o1 : cf_O), (okO I_Cu o0) → (Fr (fr_M [0, 3, 4, 5] [1, 2] [4, 5]) yo0 o0) → (okO I_Gr o1) → (Fr (fr_M [] [] []) yo1 o1) → ((2 : Int) ≤ v2.toInt ∧ v2.toInt ≤ 5) → ((1 : Int) ≤ v3.toInt ∧ v3.toInt ≤ 209) → ((0 : Int) ≤ (o0.1 0).toInt ∧ (o0.1 0).toInt ≤ 0) → (Gx ((o1.1 0).toInt + 1) (o1.1 2).toInt (sh ((o1.1 0).toInt + 1) (o1.2.1 4)) (sh ((o1.1 0).toInt + 1) (o1.2.1 5))) → (Sts v3.toInt (o0.1 3).toInt (o0.2.1 2)) → (Ka v3.toInt (o0.1 3).toInt (o0.2.2 4)) → ((o0.1 3).toInt ≤ (o0.1 4).toInt) → ((o0.1 4).toInt = (o0.1 5).toInt) → ((o0.1 0).toInt = 0) → (1 ≤ v3.toInt) → (v3.toInt ≤ 1 + (o1.1 0).toInt + (o1.1 2).toInt) → ((o0.1 3).toInt ≤ 301 * (v3.toInt - 1)) → (v2.toInt = yv2.toInt) → (Rnk v3.toInt (o0.2.1 2) (o0.2.2 4) (o0.2.2 5)) → (Dep v3.toInt (o0.2.1 1)) → (Rka (o1.1 0).toInt v3.toInt (o0.1 3).toInt (o0.2.1 2) (o0.2.1 1) (o0.2.2 4)) → (Lmp v2.toInt (o0.1 3).toInt (o0.2.2 4)) → (Rcs v3.toInt (o0.1 3).toInt (o1.1 0).toInt (((o1.1 0).toInt + 1) + (o1.1 2).toInt) (o1.2.1 4) (o1.2.1 5) (o0.2.1 2) (o0.2.2 4)) → 0 + (209 - v3.toInt) * 2 < (n : Int) → tt (gCu_find n 0 v2 v3 o0 o1) (QCu_find yv2 yo0 yo1))
set_option maxHeartbeats 4000000 in
set_option maxRecDepth 100000 in
theorem tCu_find_22 {yv2 : Int32} {yo0 : cf_O} {yo1 : cf_O} {n : Nat} (H : HCu_find yv2 yo0 yo1 n) (v2 : Int32) (v3 : Int32) (o0 : cf_O) (o1 : cf_O) (k_o0 : okO I_Cu o0) (r_o0 : Fr (fr_M [0, 3, 4, 5] [1, 2] [4, 5]) yo0 o0) (k_o1 : okO I_Gr o1) (r_o1 : Fr (fr_M [] [] []) yo1 o1) (i_v2 : (2 : Int) ≤ v2.toInt ∧ v2.toInt ≤ 5) (i_v3 : (1 : Int) ≤ v3.toInt ∧ v3.toInt ≤ 209) (f_o0_0 : (0 : Int) ≤ (o0.1 0).toInt ∧ (o0.1 0).toInt ≤ 0) (x_0 : Gx ((o1.1 0).toInt + 1) (o1.1 2).toInt (sh ((o1.1 0).toInt + 1) (o1.2.1 4)) (sh ((o1.1 0).toInt + 1) (o1.2.1 5))) (x_1 : Sts v3.toInt (o0.1 3).toInt (o0.2.1 2)) (x_2 : Ka v3.toInt (o0.1 3).toInt (o0.2.2 4)) (x_3 : (o0.1 3).toInt ≤ (o0.1 4).toInt) (x_4 : (o0.1 4).toInt = (o0.1 5).toInt) (x_5 : (o0.1 0).toInt = 0) (x_6 : 1 ≤ v3.toInt) (x_7 : v3.toInt ≤ 1 + (o1.1 0).toInt + (o1.1 2).toInt) (x_8 : (o0.1 3).toInt ≤ 301 * (v3.toInt - 1)) (x_9 : v2.toInt = yv2.toInt) (x_10 : Rnk v3.toInt (o0.2.1 2) (o0.2.2 4) (o0.2.2 5)) (x_11 : Dep v3.toInt (o0.2.1 1)) (x_12 : Rka (o1.1 0).toInt v3.toInt (o0.1 3).toInt (o0.2.1 2) (o0.2.1 1) (o0.2.2 4)) (x_13 : Lmp v2.toInt (o0.1 3).toInt (o0.2.2 4)) (x_14 : Rcs v3.toInt (o0.1 3).toInt (o1.1 0).toInt (((o1.1 0).toInt + 1) + (o1.1 2).toInt) (o1.2.1 4) (o1.2.1 5) (o0.2.1 2) (o0.2.2 4)) (hm : 0 + (209 - v3.toInt) * 2 ≤ (n : Int)) : tt (fCu_find_22 (gCu_find n) v2 v3 o0 o1) (QCu_find yv2 yo0 yo1) := by
  unfold fCu_find_22
  have g_o0_2 : (0 : Int) ≤ (o0.1 2).toInt ∧ (o0.1 2).toInt ≤ 0 := k_o0.1 2
  have ey_o0_2 : (o0.1 2).toInt = (yo0.1 2).toInt := congrArg Int32.toInt (r_o0.1 2 rfl)
  have g_o0_3 : (0 : Int) ≤ (o0.1 3).toInt ∧ (o0.1 3).toInt ≤ 62909 := k_o0.1 3
  have g_o0_4 : (1024 : Int) ≤ (o0.1 4).toInt ∧ (o0.1 4).toInt ≤ 131072 := k_o0.1 4
  have g_o0_5 : (1024 : Int) ≤ (o0.1 5).toInt ∧ (o0.1 5).toInt ≤ 131072 := k_o0.1 5
  have g_o1_0 : (0 : Int) ≤ (o1.1 0).toInt ∧ (o1.1 0).toInt ≤ 8 := k_o1.1 0
  have ey_o1_0 : (o1.1 0).toInt = (yo1.1 0).toInt := congrArg Int32.toInt (r_o1.1 0 rfl)
  have g_o1_2 : (0 : Int) ≤ (o1.1 2).toInt ∧ (o1.1 2).toInt ≤ 200 := k_o1.1 2
  have ey_o1_2 : (o1.1 2).toInt = (yo1.1 2).toInt := congrArg Int32.toInt (r_o1.1 2 rfl)
  have g_o1_3 : (0 : Int) ≤ (o1.1 3).toInt ∧ (o1.1 3).toInt ≤ 1 := k_o1.1 3
  have ey_o1_3 : (o1.1 3).toInt = (yo1.1 3).toInt := congrArg Int32.toInt (r_o1.1 3 rfl)
  have g_o1_4 : (0 : Int) ≤ (o1.1 4).toInt ∧ (o1.1 4).toInt ≤ 0 := k_o1.1 4
  have ey_o1_4 : (o1.1 4).toInt = (yo1.1 4).toInt := congrArg Int32.toInt (r_o1.1 4 rfl)
  have g_o1_5 : (0 : Int) ≤ (o1.1 5).toInt ∧ (o1.1 5).toInt ≤ 0 := k_o1.1 5
  have ey_o1_5 : (o1.1 5).toInt = (yo1.1 5).toInt := congrArg Int32.toInt (r_o1.1 5 rfl)
  try unfold fGr_size
  try unfold fGr_size_0
  refine tt_bkv (P := fun z => ((1 : Int) ≤ z.toInt ∧ z.toInt ≤ 9) ∧ z = (1 + (o1.1 0)) ∧ z.toInt = 1 + (o1.1 0).toInt) ⟨iv_add (show (1 : Int) ≤ (1 : Int32).toInt ∧ (1 : Int32).toInt ≤ 1 by decide) (k_o1.1 0) (by decide) (by decide) (by decide) (by decide), rfl, iq_add (show (1 : Int) ≤ (1 : Int32).toInt ∧ (1 : Int32).toInt ≤ 1 by decide) (k_o1.1 0) (by decide) (by decide)⟩ (fun x1 qi2 => ?_)
  obtain ⟨i2, ax1, ei2⟩ := qi2
  refine tt_bkv (P := fun z => ((1 : Int) ≤ z.toInt ∧ z.toInt ≤ 209) ∧ z = (x1 + (o1.1 2)) ∧ z.toInt = x1.toInt + (o1.1 2).toInt) ⟨iv_add i2 (k_o1.1 2) (by decide) (by decide) (by decide) (by decide), rfl, iq_add i2 (k_o1.1 2) (by decide) (by decide)⟩ (fun x3 qi4 => ?_)
  obtain ⟨i4, ax3, ei4⟩ := qi4
  refine tt_bs ?_
  try unfold fCu_find_27
  refine tt_if (fun c5 => ?_) (fun c5 => ?_)
  · have wc5 : x3.toInt ≤ v3.toInt := c_le c5
    refine tt_ko ?_
    have k6 := ok_fp (k := 0) (v := v2) k_o0 (iv_w (a := (-2147483648)) (b := 2147483647) (by decide) (by decide) i_v2)
    have r7 := fr_fp (k := 0) (v := v2) r_o0 rfl
    have p8 : Fqs v2.toInt (yo1.1 0).toInt (((yo1.1 0).toInt + 1) + (yo1.1 2).toInt) (o0.1 3).toInt (o0.2.1 2) (o0.2.1 1) (o0.2.2 4) := by first | exact Fqs_0 (by omega) | (rw [← r_o1.1 0 rfl, ← r_o1.1 2 rfl]; exact Fqs_1 x_1 x_2 x_11 x_12 (by omega) x_13 (by omega))
    have p9 : Rcf v2.toInt (o0.1 3).toInt (yo1.1 0).toInt (((yo1.1 0).toInt + 1) + (yo1.1 2).toInt) (yo1.2.1 4) (yo1.2.1 5) (o0.2.1 2) (o0.2.2 4) := by first | exact Or.inl (by omega) | (rw [← r_o1.1 0 rfl, ← r_o1.1 2 rfl, ← r_o1.2.1 4 rfl, ← r_o1.2.1 5 rfl]; exact Or.inr (Rcs_e x_14 (by omega) (by omega)))
    exact tt_some ⟨(iv_w (a := 0) (b := 1) (by decide) (by decide) (show (1 : Int) ≤ (1 : Int32).toInt ∧ (1 : Int32).toInt ≤ 1 by decide)), k6, r7, (iv_w (a := 0) (b := 5) (by decide) (by decide) i_v2), p8, (show (o0.1 3).toInt ≤ (o0.1 4).toInt by omega), (show (o0.1 4).toInt = (o0.1 5).toInt by omega), (show 1 = 0 ∨ v2.toInt = yv2.toInt by omega), p9, trivial⟩
  · have wc5 : v3.toInt < x3.toInt := c_nle c5
    have i10 : (1 : Int) ≤ v3.toInt ∧ v3.toInt ≤ 208 := nr_nlel c5 i_v3 i4 (by decide) (by decide)
    have i11 : (2 : Int) ≤ x3.toInt ∧ x3.toInt ≤ 209 := nr_nler c5 i_v3 i4 (by decide) (by decide)
    refine tt_n (ix_ok i10 (by decide) (by decide)) ?_
    refine tt_ko ?_
    have k12 := ok_xp (k := 2) (i := v3.toNatClampNeg) (v := (o0.1 3)) k_o0 (k_o0.1 3)
    have r13 := fr_xp (k := 2) (i := v3.toNatClampNeg) (v := (o0.1 3)) r_o0 rfl
    refine tt_n (ix_ok i10 (by decide) (by decide)) ?_
    refine tt_ko ?_
    have k14 := ok_xp (k := 1) (i := v3.toNatClampNeg) (v := 0) k12 (iv_w (a := (-2147483648)) (b := 2147483647) (by decide) (by decide) (show (0 : Int) ≤ (0 : Int32).toInt ∧ (0 : Int32).toInt ≤ 0 by decide))
    have r15 := fr_xp (k := 1) (i := v3.toNatClampNeg) (v := 0) r13 rfl
    refine tt_klr (fun x16 ax16 => ?_)
    refine tt_kv (P := fun z => ((0 : Int) ≤ z.toInt ∧ z.toInt ≤ 63) ∧ z = (v3 &&& 63)) ⟨iv_and (show (63 : Int) ≤ (63 : Int32).toInt ∧ (63 : Int32).toInt ≤ 63 by decide) (by decide) (by decide) (by decide), rfl⟩ (fun x17 qi18 => ?_)
    obtain ⟨i18, ax17⟩ := qi18
    refine tt_klr (fun x19 ax19 => ?_)
    refine tt_b (sCu_add _ _ _ k14 f_o0_0 (show (o0.1 3).toInt ≤ (o0.1 4).toInt by omega) (show (o0.1 4).toInt = (o0.1 5).toInt by omega) (show (o0.1 3).toInt ≤ 62907 by omega)) (fun q20 hq20 => ?_)
    obtain ⟨k_q20, n_q20, f_q20_3, zq20_0, zq20_1, zq20_2, zq20_3, zq20_4, zq20_5, -⟩ := hq20
    have r_q20 := fr_tr r15 n_q20 rfl rfl rfl
    have f_q20_0 : (0 : Int) ≤ (q20.1 0).toInt ∧ (q20.1 0).toInt ≤ 0 := by rw [n_q20.1 0 rfl]; exact f_o0_0
    have e_q20_0 : (q20.1 0).toInt = (o0.1 0).toInt := congrArg Int32.toInt (n_q20.1 0 rfl)
    have e_q20_2 : (q20.1 2).toInt = (o0.1 2).toInt := congrArg Int32.toInt (n_q20.1 2 rfl)
    have g_q20_2 : (0 : Int) ≤ (q20.1 2).toInt ∧ (q20.1 2).toInt ≤ 0 := k_q20.1 2
    have g_q20_4 : (1024 : Int) ≤ (q20.1 4).toInt ∧ (q20.1 4).toInt ≤ 131072 := k_q20.1 4
    have g_q20_5 : (1024 : Int) ≤ (q20.1 5).toInt ∧ (q20.1 5).toInt ≤ 131072 := k_q20.1 5
    have zq20_0 : (q20.1 3).toInt = (o0.1 3).toInt + 1 := zq20_0
    have zq20_1 : (q20.1 3).toInt ≤ (q20.1 4).toInt := zq20_1
    have zq20_2 : (q20.1 4).toInt = (q20.1 5).toInt := zq20_2
    have zq20_3 : (o0.1 4).toInt ≤ (q20.1 4).toInt := zq20_3
    have zq20_4 : Adp (o0.1 3).toInt x16 (o0.2.2 4) (q20.2.2 4) := zq20_4
    have zq20_5 : Adp (o0.1 3).toInt x19 (o0.2.2 5) (q20.2.2 5) := zq20_5
    have t21 := (show q20.2.1 2 = upd (o0.2.1 2) (v3.toNatClampNeg) (o0.1 3) from n_q20.2.1 2 rfl)
    have t22 := (show (q20.2.1 2 v3.toNatClampNeg).toInt = (o0.1 3).toInt by rw [show q20.2.1 2 = upd (o0.2.1 2) (v3.toNatClampNeg) (o0.1 3) from n_q20.2.1 2 rfl, up_s])
    try unfold fCu_find_59
    refine tt_b (sGr_isGate _ _ k_o1) (fun q23 hq23 => ?_)
    obtain ⟨i_q23, zq23_0, zq23_1, -⟩ := hq23
    have zq23_0 : q23.toInt = 0 ∨ ((o1.1 0).toInt < v3.toInt ∧ v3.toInt < 1 + (o1.1 0).toInt + (o1.1 2).toInt) := zq23_0
    try unfold fCu_find_64
    refine tt_if (fun c24 => ?_) (fun c24 => ?_)
    · have wc24 : q23.toInt = (0 : Int) := c_eq c24
      have i25 : (0 : Int) ≤ q23.toInt ∧ q23.toInt ≤ 0 := nr_eql c24 i_q23 (show (0 : Int) ≤ (0 : Int32).toInt ∧ (0 : Int32).toInt ≤ 0 by decide) (by decide) (by decide)
      try unfold fCu_find_79
      refine tt_kv (P := fun z => ((2 : Int) ≤ z.toInt ∧ z.toInt ≤ 209) ∧ z = (v3 + 1) ∧ z.toInt = v3.toInt + 1) ⟨iv_add i10 (show (1 : Int) ≤ (1 : Int32).toInt ∧ (1 : Int32).toInt ≤ 1 by decide) (by decide) (by decide) (by decide) (by decide), rfl, iq_add i10 (show (1 : Int) ≤ (1 : Int32).toInt ∧ (1 : Int32).toInt ≤ 1 by decide) (by decide) (by decide)⟩ (fun x26 qi27 => ?_)
      obtain ⟨i27, ax26, ei27⟩ := qi27
      refine tt_n (ix_ok i27 (by decide) (by decide)) ?_
      refine tt_ko ?_
      have k28 := ok_xp (k := 2) (i := x26.toNatClampNeg) (v := (q20.1 3)) k_q20 (iv_w (a := 0) (b := 62909) (by decide) (by decide) f_q20_3)
      have r29 := fr_xp (k := 2) (i := x26.toNatClampNeg) (v := (q20.1 3)) r_q20 rfl
      refine tt_kv (P := fun z => ((2 : Int) ≤ z.toInt ∧ z.toInt ≤ 209) ∧ z = (v3 + 1) ∧ z.toInt = v3.toInt + 1) ⟨iv_add i10 (show (1 : Int) ≤ (1 : Int32).toInt ∧ (1 : Int32).toInt ≤ 1 by decide) (by decide) (by decide) (by decide) (by decide), rfl, iq_add i10 (show (1 : Int) ≤ (1 : Int32).toInt ∧ (1 : Int32).toInt ≤ 1 by decide) (by decide) (by decide)⟩ (fun x30 qi31 => ?_)
      obtain ⟨i31, ax30, ei31⟩ := qi31
      have p32 : Sts x30.toInt (q20.1 3).toInt (upd (q20.2.1 2) (x26.toNatClampNeg) (q20.1 3)) := by exact Sts_n x_1 (show q20.2.1 2 = upd (o0.2.1 2) (v3.toNatClampNeg) (o0.1 3) from n_q20.2.1 2 rfl) (by rw [tn_n]; omega) rfl (by omega) (by omega) (by rw [tn_n]; omega) rfl (by omega)
      have p33 : Ka x30.toInt (q20.1 3).toInt (q20.2.2 4) := by exact Ka_e (Ka_n x_2 (show Adp _ _ _ _ by assumption) (nv_e (v := v3) (by assumption) (by omega)) (by omega) rfl) (by omega) (by omega)
      have p34 : Rnk x30.toInt (upd (q20.2.1 2) (x26.toNatClampNeg) (q20.1 3)) (q20.2.2 4) (q20.2.2 5) := by exact Rnk_e (Stq_all (Stq_n (inp := (o1.1 0).toInt) (show q20.2.1 2 = upd (o0.2.1 2) (v3.toNatClampNeg) (o0.1 3) from n_q20.2.1 2 rfl) (by rw [tn_n]; omega) rfl rfl (by rw [tn_n]; omega) rfl (show q20.2.1 1 = upd (o0.2.1 1) (v3.toNatClampNeg) 0 from n_q20.2.1 1 rfl) zq20_4 (nv_e (v := v3) (by assumption) (by omega)) zq20_5 (Bm_i (by assumption) (by omega) (by omega)) (by omega) (Ig_e (show Ig _ _ _ _ by assumption) (by omega) (by omega)) (by omega)) x_1 x_10 x_11 x_12 (by omega) (by omega) (by omega)).1 (by omega)
      have p35 : Dep x30.toInt (q20.2.1 1) := by exact Dep_e (Stq_all (Stq_n (inp := (o1.1 0).toInt) (show q20.2.1 2 = upd (o0.2.1 2) (v3.toNatClampNeg) (o0.1 3) from n_q20.2.1 2 rfl) (by rw [tn_n]; omega) rfl (F := upd (q20.2.1 2) x26.toNatClampNeg (q20.1 3)) rfl (by rw [tn_n]; omega) rfl (show q20.2.1 1 = upd (o0.2.1 1) (v3.toNatClampNeg) 0 from n_q20.2.1 1 rfl) zq20_4 (nv_e (v := v3) (by assumption) (by omega)) zq20_5 (Bm_i (by assumption) (by omega) (by omega)) (by omega) (Ig_e (show Ig _ _ _ _ by assumption) (by omega) (by omega)) (by omega)) x_1 x_10 x_11 x_12 (by omega) (by omega) (by omega)).2.1 (by omega)
      have p36 : Rka (o1.1 0).toInt x30.toInt (q20.1 3).toInt (upd (q20.2.1 2) (x26.toNatClampNeg) (q20.1 3)) (q20.2.1 1) (q20.2.2 4) := by exact Rka_e (Stq_all (Stq_n (inp := (o1.1 0).toInt) (show q20.2.1 2 = upd (o0.2.1 2) (v3.toNatClampNeg) (o0.1 3) from n_q20.2.1 2 rfl) (by rw [tn_n]; omega) rfl rfl (by rw [tn_n]; omega) rfl (show q20.2.1 1 = upd (o0.2.1 1) (v3.toNatClampNeg) 0 from n_q20.2.1 1 rfl) zq20_4 (nv_e (v := v3) (by assumption) (by omega)) zq20_5 (Bm_i (by assumption) (by omega) (by omega)) (by omega) (Ig_e (show Ig _ _ _ _ by assumption) (by omega) (by omega)) (by omega)) x_1 x_10 x_11 x_12 (by omega) (by omega) (by omega)).2.2 (by omega) rfl
      have p37 : Lmp v2.toInt (q20.1 3).toInt (q20.2.2 4) := by exact Lmp_e (Lmp_a x_13 (show Adp _ _ (o0.2.2 4) _ by assumption) (nv_e (v := v3) (by assumption) (by omega)) (by omega) (by omega) rfl (by omega)) (by omega) (by omega)
      have p38 : Rcs x30.toInt (q20.1 3).toInt (o1.1 0).toInt (((o1.1 0).toInt + 1) + (o1.1 2).toInt) (o1.2.1 4) (o1.2.1 5) (upd (q20.2.1 2) (x26.toNatClampNeg) (q20.1 3)) (q20.2.2 4) := by exact Rcs_s (Stq_n (inp := (o1.1 0).toInt) (show q20.2.1 2 = upd (o0.2.1 2) (v3.toNatClampNeg) (o0.1 3) from n_q20.2.1 2 rfl) (by rw [tn_n]; omega) rfl rfl (by rw [tn_n]; omega) rfl (show q20.2.1 1 = upd (o0.2.1 1) (v3.toNatClampNeg) 0 from n_q20.2.1 1 rfl) zq20_4 (nv_e (v := v3) (by assumption) (by omega)) zq20_5 (Bm_i (by assumption) (by omega) (by omega)) (by omega) (Ig_e (show Ig _ _ _ _ by assumption) (by omega) (by omega)) (by omega)) x_14 x_1 (Or.inl ⟨Ig_e (show Ig _ _ _ _ by assumption) (by omega) (by omega), by omega⟩) (by omega) (by omega) (by omega) (by omega) (by omega) (by omega)
      exact H _ _ _ _ k28 r29 k_o1 r_o1 i_v2 (iv_w (a := 1) (b := 209) (by decide) (by decide) i31) f_q20_0 x_0 p32 p33 (show (q20.1 3).toInt ≤ (q20.1 4).toInt by omega) (show (q20.1 4).toInt = (q20.1 5).toInt by omega) (show (q20.1 0).toInt = 0 by omega) (show 1 ≤ x30.toInt by omega) (show x30.toInt ≤ 1 + (o1.1 0).toInt + (o1.1 2).toInt by omega) (show (q20.1 3).toInt ≤ 301 * (x30.toInt - 1) by omega) (show v2.toInt = yv2.toInt by omega) p34 p35 p36 p37 p38 (show 0 + (209 - x30.toInt) * 2 < (n : Int) by omega)
    · have wc24 : ¬ q23.toInt = (0 : Int) := c_ne c24
      have i39 : (1 : Int) ≤ q23.toInt ∧ q23.toInt ≤ 1 := nr_nela c24 i_q23 (show (0 : Int) ≤ (0 : Int32).toInt ∧ (0 : Int32).toInt ≤ 0 by decide) (by decide) (by decide)
      have p40 : Stt (v3.toInt + 1) (q20.2.1 2 v3.toNatClampNeg).toInt (q20.2.1 2) := by rw [show q20.2.1 2 = upd (o0.2.1 2) (v3.toNatClampNeg) (o0.1 3) from n_q20.2.1 2 rfl, up_s]; exact Stt_e (Stt_s (Sts_v x_1) (by rw [tn_n]; omega) (by omega) (by omega)) rfl (by omega)
      have p41 : Kw ((q20.2.1 2 v3.toNatClampNeg).toInt + 1) (q20.1 3).toInt (q20.2.2 4) := by rw [show q20.2.1 2 = upd (o0.2.1 2) (v3.toNatClampNeg) (o0.1 3) from n_q20.2.1 2 rfl, up_s]; exact Kw_i x_2 (show Adp _ _ _ _ by assumption) (nv_e (v := v3) (by assumption) (by omega)) (by omega) (by omega) (by omega) (by omega)
      have p42 : Nvp v3.toInt (q20.2.1 2 v3.toNatClampNeg).toInt (q20.2.2 4) := by rw [show q20.2.1 2 = upd (o0.2.1 2) (v3.toNatClampNeg) (o0.1 3) from n_q20.2.1 2 rfl, up_s]; exact Nvp_a (show Adp _ _ _ _ by assumption) (nv_e (v := v3) (by assumption) (by omega))
      have t43 : (0 : Int) ≤ (q20.2.1 2 v3.toNatClampNeg).toInt ∧ (q20.2.1 2 v3.toNatClampNeg).toInt ≤ 62909 := k_q20.2 2 _
      have t44 : (0 : Int) ≤ (q20.2.1 2 v3.toNatClampNeg).toInt ∧ (q20.2.1 2 v3.toNatClampNeg).toInt ≤ 62909 := k_q20.2 2 _
      have t45 : (0 : Int) ≤ (q20.2.1 2 v3.toNatClampNeg).toInt ∧ (q20.2.1 2 v3.toNatClampNeg).toInt ≤ 62909 := k_q20.2 2 _
      have t46 : (0 : Int) ≤ (q20.2.1 2 v3.toNatClampNeg).toInt ∧ (q20.2.1 2 v3.toNatClampNeg).toInt ≤ 62909 := k_q20.2 2 _
      have p47 : Rnk v3.toInt (q20.2.1 2) (q20.2.2 4) (q20.2.2 5) := by rw [show q20.2.1 2 = upd (o0.2.1 2) (v3.toNatClampNeg) (o0.1 3) from n_q20.2.1 2 rfl]; exact Rnk_a x_10 x_1 (by rw [tn_n]; omega) rfl zq20_4 zq20_5 (by omega)
      have p48 : Dep v3.toInt (q20.2.1 1) := by rw [show q20.2.1 1 = upd (o0.2.1 1) (v3.toNatClampNeg) 0 from n_q20.2.1 1 rfl]; exact Dep_o x_11 (by rw [tn_n]; omega)
      have t49 : (0 : Int) ≤ (q20.2.1 2 v3.toNatClampNeg).toInt ∧ (q20.2.1 2 v3.toNatClampNeg).toInt ≤ 62909 := k_q20.2 2 _
      have p50 : Lmp v2.toInt (q20.1 3).toInt (q20.2.2 4) := by exact Lmp_e (Lmp_a x_13 (show Adp _ _ (o0.2.2 4) _ by assumption) (nv_e (v := v3) (by assumption) (by omega)) (by omega) (by omega) rfl (by omega)) (by omega) (by omega)
      refine tt_b (sCu_findOf _ _ _ _ k_q20 k_o1 i10 i_v2 f_q20_0 f_q20_3 x_0 p40 p41 p42 (show (o1.1 0).toInt < v3.toInt by omega) (show v3.toInt < 1 + (o1.1 0).toInt + (o1.1 2).toInt by omega) (show (q20.1 3).toInt ≤ (q20.1 4).toInt by omega) (show (q20.1 4).toInt = (q20.1 5).toInt by omega) (show (q20.2.1 2 v3.toNatClampNeg).toInt + 1 ≤ (q20.1 3).toInt by omega) (show (q20.1 3).toInt ≤ (q20.2.1 2 v3.toNatClampNeg).toInt + 301 by omega) (show (q20.2.1 2 v3.toNatClampNeg).toInt ≤ 62607 by omega) (show 0 ≤ (q20.2.1 2 v3.toNatClampNeg).toInt by omega) p47 p48 (show (q20.1 3).toInt = (q20.2.1 2 v3.toNatClampNeg).toInt + 1 by omega) p50) (fun q51 hq51 => ?_)
      obtain ⟨i_q51, k_q51_2, n_q51_2, f_q51_2_3, zq51_0, zq51_1, zq51_2, zq51_3, zq51_4, zq51_5, zq51_6, zq51_7, zq51_8, zq51_9, zq51_10, zq51_11, -⟩ := hq51
      have r_q51_2 := fr_tr r_q20 n_q51_2 rfl rfl rfl
      have f_q51_2_0 : (0 : Int) ≤ (q51.2.1 0).toInt ∧ (q51.2.1 0).toInt ≤ 0 := by rw [n_q51_2.1 0 rfl]; exact f_q20_0
      have e_q51_2_0 : (q51.2.1 0).toInt = (q20.1 0).toInt := congrArg Int32.toInt (n_q51_2.1 0 rfl)
      have e_q51_2_2 : (q51.2.1 2).toInt = (q20.1 2).toInt := congrArg Int32.toInt (n_q51_2.1 2 rfl)
      have g_q51_2_2 : (0 : Int) ≤ (q51.2.1 2).toInt ∧ (q51.2.1 2).toInt ≤ 0 := k_q51_2.1 2
      have g_q51_2_4 : (1024 : Int) ≤ (q51.2.1 4).toInt ∧ (q51.2.1 4).toInt ≤ 131072 := k_q51_2.1 4
      have g_q51_2_5 : (1024 : Int) ≤ (q51.2.1 5).toInt ∧ (q51.2.1 5).toInt ≤ 131072 := k_q51_2.1 5
      have zq51_3 : (q51.2.1 3).toInt ≤ (q51.2.1 4).toInt := zq51_3
      have zq51_4 : (q51.2.1 4).toInt = (q51.2.1 5).toInt := zq51_4
      have zq51_5 : (q51.2.1 3).toInt ≤ (q20.2.1 2 v3.toNatClampNeg).toInt + 301 := zq51_5
      have zq51_6 : (q20.1 3).toInt ≤ (q51.2.1 3).toInt := zq51_6
      have t52 := (n_q51_2.2.1 2 rfl)
      have t53 := Gx_at (v := v3) x_0 (by omega) (by omega) (by omega)
      try unfold fCu_find_74
      refine tt_if (fun c54 => ?_) (fun c54 => ?_)
      · have wc54 : q51.1.toInt = (0 : Int) := c_eq c54
        have i55 : (0 : Int) ≤ q51.1.toInt ∧ q51.1.toInt ≤ 0 := nr_eql c54 i_q51 (show (0 : Int) ≤ (0 : Int32).toInt ∧ (0 : Int32).toInt ≤ 0 by decide) (by decide) (by decide)
        have p56 : Fqs (q51.2.1 0).toInt (yo1.1 0).toInt (((yo1.1 0).toInt + 1) + (yo1.1 2).toInt) (q51.2.1 3).toInt (q51.2.2.1 2) (q51.2.2.1 1) (q51.2.2.2 4) := by first | exact Fqs_0 (by omega) | (rw [← r_o1.1 0 rfl, ← r_o1.1 2 rfl]; exact Fqs_1 x_1 x_2 x_11 x_12 (by omega) x_13 (by omega))
        have p57 : Rcf (q51.2.1 0).toInt (q51.2.1 3).toInt (yo1.1 0).toInt (((yo1.1 0).toInt + 1) + (yo1.1 2).toInt) (yo1.2.1 4) (yo1.2.1 5) (q51.2.2.1 2) (q51.2.2.2 4) := by first | exact Or.inl (by omega) | (rw [← r_o1.1 0 rfl, ← r_o1.1 2 rfl, ← r_o1.2.1 4 rfl, ← r_o1.2.1 5 rfl]; exact Or.inr (Rcs_e x_14 (by omega) (by omega)))
        exact tt_some ⟨(iv_w (a := 0) (b := 1) (by decide) (by decide) (show (0 : Int) ≤ (0 : Int32).toInt ∧ (0 : Int32).toInt ≤ 0 by decide)), k_q51_2, r_q51_2, (iv_w (a := 0) (b := 5) (by decide) (by decide) f_q51_2_0), p56, (show (q51.2.1 3).toInt ≤ (q51.2.1 4).toInt by omega), (show (q51.2.1 4).toInt = (q51.2.1 5).toInt by omega), (show 0 = 0 ∨ (q51.2.1 0).toInt = yv2.toInt by omega), p57, trivial⟩
      · have wc54 : ¬ q51.1.toInt = (0 : Int) := c_ne c54
        have i58 : (1 : Int) ≤ q51.1.toInt ∧ q51.1.toInt ≤ 1 := nr_nela c54 i_q51 (show (0 : Int) ≤ (0 : Int32).toInt ∧ (0 : Int32).toInt ≤ 0 by decide) (by decide) (by decide)
        try unfold fCu_find_79
        refine tt_kv (P := fun z => ((2 : Int) ≤ z.toInt ∧ z.toInt ≤ 209) ∧ z = (v3 + 1) ∧ z.toInt = v3.toInt + 1) ⟨iv_add i10 (show (1 : Int) ≤ (1 : Int32).toInt ∧ (1 : Int32).toInt ≤ 1 by decide) (by decide) (by decide) (by decide) (by decide), rfl, iq_add i10 (show (1 : Int) ≤ (1 : Int32).toInt ∧ (1 : Int32).toInt ≤ 1 by decide) (by decide) (by decide)⟩ (fun x59 qi60 => ?_)
        obtain ⟨i60, ax59, ei60⟩ := qi60
        refine tt_n (ix_ok i60 (by decide) (by decide)) ?_
        refine tt_ko ?_
        have k61 := ok_xp (k := 2) (i := x59.toNatClampNeg) (v := (q51.2.1 3)) k_q51_2 (iv_w (a := 0) (b := 62909) (by decide) (by decide) f_q51_2_3)
        have r62 := fr_xp (k := 2) (i := x59.toNatClampNeg) (v := (q51.2.1 3)) r_q51_2 rfl
        refine tt_kv (P := fun z => ((2 : Int) ≤ z.toInt ∧ z.toInt ≤ 209) ∧ z = (v3 + 1) ∧ z.toInt = v3.toInt + 1) ⟨iv_add i10 (show (1 : Int) ≤ (1 : Int32).toInt ∧ (1 : Int32).toInt ≤ 1 by decide) (by decide) (by decide) (by decide) (by decide), rfl, iq_add i10 (show (1 : Int) ≤ (1 : Int32).toInt ∧ (1 : Int32).toInt ≤ 1 by decide) (by decide) (by decide)⟩ (fun x63 qi64 => ?_)
        obtain ⟨i64, ax63, ei64⟩ := qi64
        have p65 : Sts x63.toInt (q51.2.1 3).toInt (upd (q51.2.2.1 2) (x59.toNatClampNeg) (q51.2.1 3)) := by exact Sts_n x_1 ((show q51.2.2.1 2 = q20.2.1 2 from n_q51_2.2.1 2 rfl).trans (show q20.2.1 2 = upd (o0.2.1 2) (v3.toNatClampNeg) (o0.1 3) from n_q20.2.1 2 rfl)) (by rw [tn_n]; omega) rfl (by omega) (by omega) (by rw [tn_n]; omega) rfl (by omega)
        have p66 : Ka x63.toInt (q51.2.1 3).toInt (q51.2.2.2 4) := by exact Ka_e (Ka_q (show Kw (_ + 1) _ _ by assumption) (show Nvp _ _ _ by assumption) (by omega) (by omega)) (by omega) rfl
        have p67 : Rnk x63.toInt (upd (q51.2.2.1 2) (x59.toNatClampNeg) (q51.2.1 3)) (q51.2.2.2 4) (q51.2.2.2 5) := by exact Rnk_e (Stq_all (Stq_g (inp := (o1.1 0).toInt) ((show q51.2.2.1 2 = q20.2.1 2 from n_q51_2.2.1 2 rfl).trans (show q20.2.1 2 = upd (o0.2.1 2) (v3.toNatClampNeg) (o0.1 3) from n_q20.2.1 2 rfl)) (by rw [tn_n]; omega) rfl rfl (by rw [tn_n]; omega) rfl (show q20.2.1 1 = upd (o0.2.1 1) (v3.toNatClampNeg) 0 from n_q20.2.1 1 rfl) zq20_4 (nv_e (v := v3) (by assumption) (by omega)) zq20_5 (Bm_i (by assumption) (by omega) (by omega)) (show Pe _ (q20.2.2 4) _ by assumption) (show Pe _ (q20.2.2 5) _ by assumption) (by omega) (by omega) (by omega) (show Dpq _ _ _ _ by assumption) (show Rkq _ _ _ _ _ _ by assumption) (by omega) (by omega) (by omega) (show Kw (_ + 1) _ _ by assumption) (show Nvp _ _ _ by assumption)) x_1 x_10 x_11 x_12 (by omega) (by omega) (by omega)).1 (by omega)
        have p68 : Dep x63.toInt (q51.2.2.1 1) := by exact Dep_e (Stq_all (Stq_g (inp := (o1.1 0).toInt) ((show q51.2.2.1 2 = q20.2.1 2 from n_q51_2.2.1 2 rfl).trans (show q20.2.1 2 = upd (o0.2.1 2) (v3.toNatClampNeg) (o0.1 3) from n_q20.2.1 2 rfl)) (by rw [tn_n]; omega) rfl (F := upd (q51.2.2.1 2) x59.toNatClampNeg (q51.2.1 3)) rfl (by rw [tn_n]; omega) rfl (show q20.2.1 1 = upd (o0.2.1 1) (v3.toNatClampNeg) 0 from n_q20.2.1 1 rfl) zq20_4 (nv_e (v := v3) (by assumption) (by omega)) zq20_5 (Bm_i (by assumption) (by omega) (by omega)) (show Pe _ (q20.2.2 4) _ by assumption) (show Pe _ (q20.2.2 5) _ by assumption) (by omega) (by omega) (by omega) (show Dpq _ _ _ _ by assumption) (show Rkq _ _ _ _ _ _ by assumption) (by omega) (by omega) (by omega) (show Kw (_ + 1) _ _ by assumption) (show Nvp _ _ _ by assumption)) x_1 x_10 x_11 x_12 (by omega) (by omega) (by omega)).2.1 (by omega)
        have p69 : Rka (o1.1 0).toInt x63.toInt (q51.2.1 3).toInt (upd (q51.2.2.1 2) (x59.toNatClampNeg) (q51.2.1 3)) (q51.2.2.1 1) (q51.2.2.2 4) := by exact Rka_e (Stq_all (Stq_g (inp := (o1.1 0).toInt) ((show q51.2.2.1 2 = q20.2.1 2 from n_q51_2.2.1 2 rfl).trans (show q20.2.1 2 = upd (o0.2.1 2) (v3.toNatClampNeg) (o0.1 3) from n_q20.2.1 2 rfl)) (by rw [tn_n]; omega) rfl rfl (by rw [tn_n]; omega) rfl (show q20.2.1 1 = upd (o0.2.1 1) (v3.toNatClampNeg) 0 from n_q20.2.1 1 rfl) zq20_4 (nv_e (v := v3) (by assumption) (by omega)) zq20_5 (Bm_i (by assumption) (by omega) (by omega)) (show Pe _ (q20.2.2 4) _ by assumption) (show Pe _ (q20.2.2 5) _ by assumption) (by omega) (by omega) (by omega) (show Dpq _ _ _ _ by assumption) (show Rkq _ _ _ _ _ _ by assumption) (by omega) (by omega) (by omega) (show Kw (_ + 1) _ _ by assumption) (show Nvp _ _ _ by assumption)) x_1 x_10 x_11 x_12 (by omega) (by omega) (by omega)).2.2 (by omega) rfl
        have p70 : Rcs x63.toInt (q51.2.1 3).toInt (o1.1 0).toInt (((o1.1 0).toInt + 1) + (o1.1 2).toInt) (o1.2.1 4) (o1.2.1 5) (upd (q51.2.2.1 2) (x59.toNatClampNeg) (q51.2.1 3)) (q51.2.2.2 4) := by exact Rcs_s (Stq_g (inp := (o1.1 0).toInt) ((show q51.2.2.1 2 = q20.2.1 2 from n_q51_2.2.1 2 rfl).trans (show q20.2.1 2 = upd (o0.2.1 2) (v3.toNatClampNeg) (o0.1 3) from n_q20.2.1 2 rfl)) (by rw [tn_n]; omega) rfl rfl (by rw [tn_n]; omega) rfl (show q20.2.1 1 = upd (o0.2.1 1) (v3.toNatClampNeg) 0 from n_q20.2.1 1 rfl) zq20_4 (nv_e (v := v3) (by assumption) (by omega)) zq20_5 (Bm_i (by assumption) (by omega) (by omega)) (show Pe _ (q20.2.2 4) _ by assumption) (show Pe _ (q20.2.2 5) _ by assumption) (by omega) (by omega) (by omega) (show Dpq _ _ _ _ by assumption) (show Rkq _ _ _ _ _ _ by assumption) (by omega) (by omega) (by omega) (show Kw (_ + 1) _ _ by assumption) (show Nvp _ _ _ by assumption)) x_14 x_1 (Or.inr ⟨by omega, (show 2 ≤ (o1.2.1 4 v3.toNatClampNeg).toInt by omega), (show (o1.2.1 4 v3.toNatClampNeg).toInt / 2 < v3.toInt by omega), (show 2 ≤ (o1.2.1 5 v3.toNatClampNeg).toInt by omega), (show (o1.2.1 5 v3.toNatClampNeg).toInt / 2 < v3.toInt by omega), Sbj_f (n := v3.toInt) (x := (o1.2.1 4 v3.toNatClampNeg).toInt / 2) (y := (o1.2.1 5 v3.toNatClampNeg).toInt / 2) (show Sbj _ _ _ _ _ _ _ by assumption) rfl (by rw [tn_n]; omega) (by omega) (by omega) (by omega) (by omega) (by omega)⟩) (by omega) (by omega) (by omega) (by omega) (by omega) (by omega)
        exact H _ _ _ _ k61 r62 k_o1 r_o1 i_v2 (iv_w (a := 1) (b := 209) (by decide) (by decide) i64) f_q51_2_0 x_0 p65 p66 (show (q51.2.1 3).toInt ≤ (q51.2.1 4).toInt by omega) (show (q51.2.1 4).toInt = (q51.2.1 5).toInt by omega) (show (q51.2.1 0).toInt = 0 by omega) (show 1 ≤ x63.toInt by omega) (show x63.toInt ≤ 1 + (o1.1 0).toInt + (o1.1 2).toInt by omega) (show (q51.2.1 3).toInt ≤ 301 * (x63.toInt - 1) by omega) (show v2.toInt = yv2.toInt by omega) p67 p68 p69 zq51_10 p70 (show 0 + (209 - x63.toInt) * 2 < (n : Int) by omega)
set_option maxHeartbeats 4000000 in
set_option maxRecDepth 100000 in
theorem hCu_find (yv2 : Int32) (yo0 : cf_O) (yo1 : cf_O) : ∀ n, HCu_find yv2 yo0 yo1 n := by
  intro n
  induction n with
  | zero => exact (fun v2 v3 o0 o1 k_o0 r_o0 k_o1 r_o1 i_v2 i_v3 f_o0_0 x_0 x_1 x_2 x_3 x_4 x_5 x_6 x_7 x_8 x_9 x_10 x_11 x_12 x_13 x_14 hm => by exact absurd (show 0 + (209 - v3.toInt) * 2 < (0 : Int) from hm) (by omega))
  | succ n ih => exact (fun v2 v3 o0 o1 k_o0 r_o0 k_o1 r_o1 i_v2 i_v3 f_o0_0 x_0 x_1 x_2 x_3 x_4 x_5 x_6 x_7 x_8 x_9 x_10 x_11 x_12 x_13 x_14 hm => tCu_find_22 ih v2 v3 o0 o1 k_o0 r_o0 k_o1 r_o1 i_v2 i_v3 f_o0_0 x_0 x_1 x_2 x_3 x_4 x_5 x_6 x_7 x_8 x_9 x_10 x_11 x_12 x_13 x_14 (by omega))
set_option maxHeartbeats 4000000 in
set_option maxRecDepth 100000 in
theorem sCu_find (v2 : Int32) (o0 : cf_O) (o1 : cf_O) (k_o0 : okO I_Cu o0) (k_o1 : okO I_Gr o1) (i_v2 : (2 : Int) ≤ v2.toInt ∧ v2.toInt ≤ 5) (x_0 : Gx ((o1.1 0).toInt + 1) (o1.1 2).toInt (sh ((o1.1 0).toInt + 1) (o1.2.1 4)) (sh ((o1.1 0).toInt + 1) (o1.2.1 5))) (x_1 : Fqs (o0.1 0).toInt (o1.1 0).toInt (((o1.1 0).toInt + 1) + (o1.1 2).toInt) (o0.1 3).toInt (o0.2.1 2) (o0.2.1 1) (o0.2.2 4)) (x_2 : (o0.1 3).toInt ≤ (o0.1 4).toInt) (x_3 : (o0.1 4).toInt = (o0.1 5).toInt) (x_4 : Rcf (o0.1 0).toInt (o0.1 3).toInt (o1.1 0).toInt (((o1.1 0).toInt + 1) + (o1.1 2).toInt) (o1.2.1 4) (o1.2.1 5) (o0.2.1 2) (o0.2.2 4)) : tt (fCu_find v2 o0 o1) (QCu_find v2 o0 o1) := by
  have H := hCu_find v2 o0 o1 cfFU
  have hm : (419 : Int) ≤ (cfFU : Nat) := by decide
  have r_o0 : Fr (fr_M [0, 3, 4, 5] [1, 2] [4, 5]) o0 o0 := fr_rfl
  have r_o1 : Fr (fr_M [] [] []) o1 o1 := fr_rfl
  unfold fCu_find fCu_find_0
  have g_o0_0 : ((-2147483648) : Int) ≤ (o0.1 0).toInt ∧ (o0.1 0).toInt ≤ 2147483647 := k_o0.1 0
  have g_o0_2 : (0 : Int) ≤ (o0.1 2).toInt ∧ (o0.1 2).toInt ≤ 0 := k_o0.1 2
  have g_o0_3 : (0 : Int) ≤ (o0.1 3).toInt ∧ (o0.1 3).toInt ≤ 62909 := k_o0.1 3
  have g_o0_4 : (1024 : Int) ≤ (o0.1 4).toInt ∧ (o0.1 4).toInt ≤ 131072 := k_o0.1 4
  have g_o0_5 : (1024 : Int) ≤ (o0.1 5).toInt ∧ (o0.1 5).toInt ≤ 131072 := k_o0.1 5
  have g_o1_0 : (0 : Int) ≤ (o1.1 0).toInt ∧ (o1.1 0).toInt ≤ 8 := k_o1.1 0
  have g_o1_2 : (0 : Int) ≤ (o1.1 2).toInt ∧ (o1.1 2).toInt ≤ 200 := k_o1.1 2
  have g_o1_3 : (0 : Int) ≤ (o1.1 3).toInt ∧ (o1.1 3).toInt ≤ 1 := k_o1.1 3
  have g_o1_4 : (0 : Int) ≤ (o1.1 4).toInt ∧ (o1.1 4).toInt ≤ 0 := k_o1.1 4
  have g_o1_5 : (0 : Int) ≤ (o1.1 5).toInt ∧ (o1.1 5).toInt ≤ 0 := k_o1.1 5
  refine tt_if (fun c1 => ?_) (fun c1 => ?_)
  · have wc1 : (o0.1 0).toInt = v2.toInt := c_eq c1
    have i2 : (2 : Int) ≤ (o0.1 0).toInt ∧ (o0.1 0).toInt ≤ 5 := nr_eql c1 (k_o0.1 0) i_v2 (by decide) (by decide)
    exact tt_some ⟨(iv_w (a := 0) (b := 1) (by decide) (by decide) (show (1 : Int) ≤ (1 : Int32).toInt ∧ (1 : Int32).toInt ≤ 1 by decide)), k_o0, r_o0, (iv_w (a := 0) (b := 5) (by decide) (by decide) i2), x_1, (show (o0.1 3).toInt ≤ (o0.1 4).toInt by omega), (show (o0.1 4).toInt = (o0.1 5).toInt by omega), (show 1 = 0 ∨ (o0.1 0).toInt = v2.toInt by omega), x_4, trivial⟩
  · have wc1 : ¬ (o0.1 0).toInt = v2.toInt := c_ne c1
    refine tt_ko ?_
    have k3 := ok_fp (k := 0) (v := 0) k_o0 (iv_w (a := (-2147483648)) (b := 2147483647) (by decide) (by decide) (show (0 : Int) ≤ (0 : Int32).toInt ∧ (0 : Int32).toInt ≤ 0 by decide))
    have r4 := fr_fp (k := 0) (v := 0) r_o0 rfl
    refine tt_ko ?_
    have k5 := ok_fp (k := 3) (v := 0) k3 (iv_w (a := 0) (b := 62909) (by decide) (by decide) (show (0 : Int) ≤ (0 : Int32).toInt ∧ (0 : Int32).toInt ≤ 0 by decide))
    have r6 := fr_fp (k := 3) (v := 0) r4 rfl
    have p7 : Sts 1 0 (o0.2.1 2) := by exact Sts_1 rfl
    have p8 : Ka 1 0 (o0.2.2 4) := by exact Ka_0
    have p9 : Rnk 1 (o0.2.1 2) (o0.2.2 4) (o0.2.2 5) := by exact Rnk_0 (by decide)
    have p10 : Dep 1 (o0.2.1 1) := by exact Dep_0 (by decide)
    have p11 : Rka (o1.1 0).toInt 1 0 (o0.2.1 2) (o0.2.1 1) (o0.2.2 4) := by exact Rka_0 (show (1 : Int) ≤ _ by omega)
    have p12 : Lmp v2.toInt 0 (o0.2.2 4) := by exact Lmp_0 (by decide)
    have p13 : Rcs 1 0 (o1.1 0).toInt (((o1.1 0).toInt + 1) + (o1.1 2).toInt) (o1.2.1 4) (o1.2.1 5) (o0.2.1 2) (o0.2.2 4) := by exact Rcs_0
    exact H _ _ _ _ k5 r6 k_o1 r_o1 i_v2 (iv_w (a := 1) (b := 209) (by decide) (by decide) (show (1 : Int) ≤ (1 : Int32).toInt ∧ (1 : Int32).toInt ≤ 1 by decide)) (show (0 : Int) ≤ (0 : Int32).toInt ∧ (0 : Int32).toInt ≤ 0 by decide) x_0 p7 p8 (show 0 ≤ (o0.1 4).toInt by omega) (show (o0.1 4).toInt = (o0.1 5).toInt by omega) (show 0 = 0 by omega) (show 1 ≤ 1 by omega) (show 1 ≤ 1 + (o1.1 0).toInt + (o1.1 2).toInt by omega) (show 0 ≤ 301 * (1 - 1) by omega) (show v2.toInt = v2.toInt by omega) p9 p10 p11 p12 p13 (show 0 + (209 - 1) * 2 < ((cfFU : Nat) : Int) by omega)
def QFu_inputWord (v0 : Int32) (v1 : Int32) (r : (Int64)) : Prop := True
set_option maxHeartbeats 4000000 in
set_option maxRecDepth 100000 in
theorem sFu_inputWord (v0 : Int32) (v1 : Int32) (i_v0 : (0 : Int) ≤ v0.toInt ∧ v0.toInt ≤ 7) (i_v1 : (0 : Int) ≤ v1.toInt ∧ v1.toInt ≤ 3) : tt (fFu_inputWord v0 v1) (QFu_inputWord v0 v1) := by
  unfold fFu_inputWord fFu_inputWord_0
  refine tt_if (fun c1 => ?_) (fun c1 => ?_)
  · have i2 : (6 : Int) ≤ v0.toInt ∧ v0.toInt ≤ 7 := nr_ler c1 (show (6 : Int) ≤ (6 : Int32).toInt ∧ (6 : Int32).toInt ≤ 6 by decide) i_v0 (by decide) (by decide)
    refine tt_kv (P := fun z => ((0 : Int) ≤ z.toInt ∧ z.toInt ≤ 1) ∧ z.toInt = v0.toInt - 6) ⟨iv_sub i2 (show (6 : Int) ≤ (6 : Int32).toInt ∧ (6 : Int32).toInt ≤ 6 by decide) (by decide) (by decide) (by decide) (by decide), iq_sub i2 (show (6 : Int) ≤ (6 : Int32).toInt ∧ (6 : Int32).toInt ≤ 6 by decide) (by decide) (by decide)⟩ (fun x3 qi4 => ?_)
    obtain ⟨i4, ei4⟩ := qi4
    refine tt_kv (P := fun z => (0 : Int) ≤ z.toInt ∧ z.toInt ≤ 3) (iv_shr (p := 0) (q := 1) i_v1 i4 (by decide) (by decide) (by decide) (by decide)) (fun x5 i6 => ?_)
    refine tt_kv (P := fun z => (0 : Int) ≤ z.toInt ∧ z.toInt ≤ 1) (iv_and (show (1 : Int) ≤ (1 : Int32).toInt ∧ (1 : Int32).toInt ≤ 1 by decide) (by decide) (by decide) (by decide)) (fun x7 i8 => ?_)
    refine tt_klv (P := fun z => (0 : Int) ≤ z.toInt ∧ z.toInt ≤ 1) (ivl_of i8) (fun x9 i10 => ?_)
    refine tt_kl (fun x11 => ?_)
    exact tt_some trivial
  · have i12 : (0 : Int) ≤ v0.toInt ∧ v0.toInt ≤ 5 := nr_nlel c1 i_v0 (show (6 : Int) ≤ (6 : Int32).toInt ∧ (6 : Int32).toInt ≤ 6 by decide) (by decide) (by decide)
    refine tt_n (ix_ok i12 (by decide) (by decide)) ?_
    refine tt_kl (fun x13 => ?_)
    exact tt_some trivial
def QFu_word (v1 : Int32) (v2 : Int32) (o0 : cf_O) (r : (Int64)) : Prop := True
set_option maxHeartbeats 4000000 in
set_option maxRecDepth 100000 in
theorem sFu_word (v1 : Int32) (v2 : Int32) (o0 : cf_O) (k_o0 : okO I_Fu o0) (i_v1 : (0 : Int) ≤ v1.toInt ∧ v1.toInt ≤ 417) (i_v2 : (0 : Int) ≤ v2.toInt ∧ v2.toInt ≤ 3) : tt (fFu_word v1 v2 o0) (QFu_word v1 v2 o0) := by
  have r_o0 : Fr (fr_M [] [] []) o0 o0 := fr_rfl
  unfold fFu_word fFu_word_0
  refine tt_kv (P := fun z => (0 : Int) ≤ z.toInt ∧ z.toInt ≤ 208) (iv_shr (p := 1) (q := 1) i_v1 (show (1 : Int) ≤ (1 : Int32).toInt ∧ (1 : Int32).toInt ≤ 1 by decide) (by decide) (by decide) (by decide) (by decide)) (fun x1 i2 => ?_)
  refine tt_kv (P := fun z => (0 : Int) ≤ z.toInt ∧ z.toInt ≤ 832) (iv_mul i2 (show (4 : Int) ≤ (4 : Int32).toInt ∧ (4 : Int32).toInt ≤ 4 by decide) (by decide) (by decide) (by decide) (by decide) (by decide)) (fun x3 i4 => ?_)
  refine tt_kv (P := fun z => (0 : Int) ≤ z.toInt ∧ z.toInt ≤ 835) (iv_add i4 i_v2 (by decide) (by decide) (by decide) (by decide)) (fun x5 i6 => ?_)
  refine tt_n (ix_ok i6 (by decide) (by decide)) ?_
  refine tt_kl (fun x7 => ?_)
  refine tt_kv (P := fun z => (0 : Int) ≤ z.toInt ∧ z.toInt ≤ 1) (iv_and (show (1 : Int) ≤ (1 : Int32).toInt ∧ (1 : Int32).toInt ≤ 1 by decide) (by decide) (by decide) (by decide)) (fun x8 i9 => ?_)
  refine tt_klv (P := fun z => (0 : Int) ≤ z.toInt ∧ z.toInt ≤ 1) (ivl_of i9) (fun x10 i11 => ?_)
  refine tt_kl (fun x12 => ?_)
  refine tt_kl (fun x13 => ?_)
  exact tt_some trivial
def QFu_find (o0 : cf_O) (o1 : cf_O) (r : (cf_O)) : Prop := (okO I_Fu r) ∧ (Fr (fr_M [0] [] [1]) o0 r) ∧ ((1 : Int) ≤ (r.1 0).toInt ∧ (r.1 0).toInt ≤ 1) ∧ True
def HFu_find (yo0 : cf_O) (yo1 : cf_O) (n : Nat) : Prop := (∀ (v2 : Int32) (o0 : cf_O) (o1 : cf_O), (okO I_Fu o0) → (Fr (fr_M [0] [] [1]) yo0 o0) → (okO I_Gr o1) → (Fr (fr_M [] [] []) yo1 o1) → ((0 : Int) ≤ v2.toInt ∧ v2.toInt ≤ 4) → ((0 : Int) ≤ (o0.1 0).toInt ∧ (o0.1 0).toInt ≤ 0) → 0 + (4 - v2.toInt) * 438 < (n : Int) → tt (gFu_find n 0 v2 0 o0 o1) (QFu_find yo0 yo1)) ∧ (∀ (v2 : Int32) (v3 : Int32) (o0 : cf_O) (o1 : cf_O), (okO I_Fu o0) → (Fr (fr_M [0] [] [1]) yo0 o0) → (okO I_Gr o1) → (Fr (fr_M [] [] []) yo1 o1) → ((0 : Int) ≤ v2.toInt ∧ v2.toInt ≤ 3) → ((0 : Int) ≤ v3.toInt ∧ v3.toInt ≤ 8) → ((0 : Int) ≤ (o0.1 0).toInt ∧ (o0.1 0).toInt ≤ 0) → 0 + (4 - v2.toInt - 1) * 438 + 419 + (8 - v3.toInt) * 2 < (n : Int) → tt (gFu_find n 1 v2 v3 o0 o1) (QFu_find yo0 yo1)) ∧ (∀ (v2 : Int32) (v3 : Int32) (o0 : cf_O) (o1 : cf_O), (okO I_Fu o0) → (Fr (fr_M [0] [] [1]) yo0 o0) → (okO I_Gr o1) → (Fr (fr_M [] [] []) yo1 o1) → ((0 : Int) ≤ v2.toInt ∧ v2.toInt ≤ 3) → ((1 : Int) ≤ v3.toInt ∧ v3.toInt ≤ 209) → ((0 : Int) ≤ (o0.1 0).toInt ∧ (o0.1 0).toInt ≤ 0) → 0 + (4 - v2.toInt - 1) * 438 + 1 + (209 - v3.toInt) * 2 < (n : Int) → tt (gFu_find n 2 v2 v3 o0 o1) (QFu_find yo0 yo1))
set_option maxHeartbeats 4000000 in
set_option maxRecDepth 100000 in
theorem tFu_find_55 {yo0 : cf_O} {yo1 : cf_O} {n : Nat} (H : HFu_find yo0 yo1 n) (v2 : Int32) (v3 : Int32) (o0 : cf_O) (o1 : cf_O) (k_o0 : okO I_Fu o0) (r_o0 : Fr (fr_M [0] [] [1]) yo0 o0) (k_o1 : okO I_Gr o1) (r_o1 : Fr (fr_M [] [] []) yo1 o1) (i_v2 : (0 : Int) ≤ v2.toInt ∧ v2.toInt ≤ 3) (i_v3 : (1 : Int) ≤ v3.toInt ∧ v3.toInt ≤ 209) (f_o0_0 : (0 : Int) ≤ (o0.1 0).toInt ∧ (o0.1 0).toInt ≤ 0) (hm : 0 + (4 - v2.toInt - 1) * 438 + 1 + (209 - v3.toInt) * 2 ≤ (n : Int)) : tt (fFu_find_55 (gFu_find n) v2 v3 o0 o1) (QFu_find yo0 yo1) := by
  unfold fFu_find_55
  try unfold fGr_size
  try unfold fGr_size_0
  refine tt_bkv (P := fun z => (1 : Int) ≤ z.toInt ∧ z.toInt ≤ 9) (iv_add (show (1 : Int) ≤ (1 : Int32).toInt ∧ (1 : Int32).toInt ≤ 1 by decide) (k_o1.1 0) (by decide) (by decide) (by decide) (by decide)) (fun x1 i2 => ?_)
  refine tt_bkv (P := fun z => (1 : Int) ≤ z.toInt ∧ z.toInt ≤ 209) (iv_add i2 (k_o1.1 2) (by decide) (by decide) (by decide) (by decide)) (fun x3 i4 => ?_)
  refine tt_bs ?_
  refine tt_if (fun c5 => ?_) (fun c5 => ?_)
  · refine tt_kv (P := fun z => ((1 : Int) ≤ z.toInt ∧ z.toInt ≤ 4) ∧ z.toInt = v2.toInt + 1) ⟨iv_add i_v2 (show (1 : Int) ≤ (1 : Int32).toInt ∧ (1 : Int32).toInt ≤ 1 by decide) (by decide) (by decide) (by decide) (by decide), iq_add i_v2 (show (1 : Int) ≤ (1 : Int32).toInt ∧ (1 : Int32).toInt ≤ 1 by decide) (by decide) (by decide)⟩ (fun x6 qi7 => ?_)
    obtain ⟨i7, ei7⟩ := qi7
    exact H.1 _ _ _ k_o0 r_o0 k_o1 r_o1 (iv_w (a := 0) (b := 4) (by decide) (by decide) i7) f_o0_0 (show 0 + (4 - x6.toInt) * 438 < (n : Int) by omega)
  · have i8 : (1 : Int) ≤ v3.toInt ∧ v3.toInt ≤ 208 := nr_nlel c5 i_v3 i4 (by decide) (by decide)
    have i9 : (2 : Int) ≤ x3.toInt ∧ x3.toInt ≤ 209 := nr_nler c5 i_v3 i4 (by decide) (by decide)
    refine tt_kv (P := fun z => (4 : Int) ≤ z.toInt ∧ z.toInt ≤ 832) (iv_mul i8 (show (4 : Int) ≤ (4 : Int32).toInt ∧ (4 : Int32).toInt ≤ 4 by decide) (by decide) (by decide) (by decide) (by decide) (by decide)) (fun x10 i11 => ?_)
    refine tt_kv (P := fun z => (4 : Int) ≤ z.toInt ∧ z.toInt ≤ 835) (iv_add i11 i_v2 (by decide) (by decide) (by decide) (by decide)) (fun x12 i13 => ?_)
    refine tt_n (ix_ok i8 (by decide) (by decide)) ?_
    refine tt_kv (P := fun z => (0 : Int) ≤ z.toInt ∧ z.toInt ≤ 417) (k_o1.2 4 _) (fun x14 i15 => ?_)
    refine tt_b (sFu_word _ _ _ k_o0 i15 i_v2) (fun q16 hq16 => ?_)
    refine tt_n (ix_ok i8 (by decide) (by decide)) ?_
    refine tt_kv (P := fun z => (0 : Int) ≤ z.toInt ∧ z.toInt ≤ 417) (k_o1.2 5 _) (fun x17 i18 => ?_)
    refine tt_b (sFu_word _ _ _ k_o0 i18 i_v2) (fun q19 hq19 => ?_)
    refine tt_kl (fun x20 => ?_)
    refine tt_n (ix_ok i13 (by decide) (by decide)) ?_
    refine tt_ko ?_
    have k21 := ok_yp (k := 1) (i := x12.toNatClampNeg) (v := x20) k_o0
    have r22 := fr_yp (k := 1) (i := x12.toNatClampNeg) (v := x20) r_o0 rfl
    refine tt_kv (P := fun z => ((2 : Int) ≤ z.toInt ∧ z.toInt ≤ 209) ∧ z.toInt = v3.toInt + 1) ⟨iv_add i8 (show (1 : Int) ≤ (1 : Int32).toInt ∧ (1 : Int32).toInt ≤ 1 by decide) (by decide) (by decide) (by decide) (by decide), iq_add i8 (show (1 : Int) ≤ (1 : Int32).toInt ∧ (1 : Int32).toInt ≤ 1 by decide) (by decide) (by decide)⟩ (fun x23 qi24 => ?_)
    obtain ⟨i24, ei24⟩ := qi24
    exact H.2.2 _ _ _ _ k21 r22 k_o1 r_o1 i_v2 (iv_w (a := 1) (b := 209) (by decide) (by decide) i24) f_o0_0 (show 0 + (4 - v2.toInt - 1) * 438 + 1 + (209 - x23.toInt) * 2 < (n : Int) by omega)
set_option maxHeartbeats 4000000 in
set_option maxRecDepth 100000 in
theorem tFu_find_17 {yo0 : cf_O} {yo1 : cf_O} {n : Nat} (H : HFu_find yo0 yo1 n) (v2 : Int32) (v3 : Int32) (o0 : cf_O) (o1 : cf_O) (k_o0 : okO I_Fu o0) (r_o0 : Fr (fr_M [0] [] [1]) yo0 o0) (k_o1 : okO I_Gr o1) (r_o1 : Fr (fr_M [] [] []) yo1 o1) (i_v2 : (0 : Int) ≤ v2.toInt ∧ v2.toInt ≤ 3) (i_v3 : (0 : Int) ≤ v3.toInt ∧ v3.toInt ≤ 8) (f_o0_0 : (0 : Int) ≤ (o0.1 0).toInt ∧ (o0.1 0).toInt ≤ 0) (hm : 0 + (4 - v2.toInt - 1) * 438 + 419 + (8 - v3.toInt) * 2 ≤ (n : Int)) : tt (fFu_find_17 (gFu_find n) v2 v3 o0 o1) (QFu_find yo0 yo1) := by
  unfold fFu_find_17
  refine tt_if (fun c1 => ?_) (fun c1 => ?_)
  · refine tt_kv (P := fun z => ((1 : Int) ≤ z.toInt ∧ z.toInt ≤ 9) ∧ z.toInt = (o1.1 0).toInt + 1) ⟨iv_add (k_o1.1 0) (show (1 : Int) ≤ (1 : Int32).toInt ∧ (1 : Int32).toInt ≤ 1 by decide) (by decide) (by decide) (by decide) (by decide), iq_add (k_o1.1 0) (show (1 : Int) ≤ (1 : Int32).toInt ∧ (1 : Int32).toInt ≤ 1 by decide) (by decide) (by decide)⟩ (fun x2 qi3 => ?_)
    obtain ⟨i3, ei3⟩ := qi3
    exact H.2.2 _ _ _ _ k_o0 r_o0 k_o1 r_o1 i_v2 (iv_w (a := 1) (b := 209) (by decide) (by decide) i3) f_o0_0 (show 0 + (4 - v2.toInt - 1) * 438 + 1 + (209 - x2.toInt) * 2 < (n : Int) by omega)
  · have i4 : (0 : Int) ≤ v3.toInt ∧ v3.toInt ≤ 7 := nr_nlel c1 i_v3 (k_o1.1 0) (by decide) (by decide)
    have i5 : (1 : Int) ≤ (o1.1 0).toInt ∧ (o1.1 0).toInt ≤ 8 := nr_nler c1 i_v3 (k_o1.1 0) (by decide) (by decide)
    refine tt_kv (P := fun z => ((1 : Int) ≤ z.toInt ∧ z.toInt ≤ 8) ∧ z.toInt = v3.toInt + 1) ⟨iv_add i4 (show (1 : Int) ≤ (1 : Int32).toInt ∧ (1 : Int32).toInt ≤ 1 by decide) (by decide) (by decide) (by decide) (by decide), iq_add i4 (show (1 : Int) ≤ (1 : Int32).toInt ∧ (1 : Int32).toInt ≤ 1 by decide) (by decide) (by decide)⟩ (fun x6 qi7 => ?_)
    obtain ⟨i7, ei7⟩ := qi7
    refine tt_kv (P := fun z => (4 : Int) ≤ z.toInt ∧ z.toInt ≤ 32) (iv_mul i7 (show (4 : Int) ≤ (4 : Int32).toInt ∧ (4 : Int32).toInt ≤ 4 by decide) (by decide) (by decide) (by decide) (by decide) (by decide)) (fun x8 i9 => ?_)
    refine tt_kv (P := fun z => (4 : Int) ≤ z.toInt ∧ z.toInt ≤ 35) (iv_add i9 i_v2 (by decide) (by decide) (by decide) (by decide)) (fun x10 i11 => ?_)
    refine tt_b (sFu_inputWord _ _ i4 i_v2) (fun q12 hq12 => ?_)
    refine tt_n (ix_ok i11 (by decide) (by decide)) ?_
    refine tt_ko ?_
    have k13 := ok_yp (k := 1) (i := x10.toNatClampNeg) (v := q12) k_o0
    have r14 := fr_yp (k := 1) (i := x10.toNatClampNeg) (v := q12) r_o0 rfl
    refine tt_kv (P := fun z => ((1 : Int) ≤ z.toInt ∧ z.toInt ≤ 8) ∧ z.toInt = v3.toInt + 1) ⟨iv_add i4 (show (1 : Int) ≤ (1 : Int32).toInt ∧ (1 : Int32).toInt ≤ 1 by decide) (by decide) (by decide) (by decide) (by decide), iq_add i4 (show (1 : Int) ≤ (1 : Int32).toInt ∧ (1 : Int32).toInt ≤ 1 by decide) (by decide) (by decide)⟩ (fun x15 qi16 => ?_)
    obtain ⟨i16, ei16⟩ := qi16
    exact H.2.1 _ _ _ _ k13 r14 k_o1 r_o1 i_v2 (iv_w (a := 0) (b := 8) (by decide) (by decide) i16) f_o0_0 (show 0 + (4 - v2.toInt - 1) * 438 + 419 + (8 - x15.toInt) * 2 < (n : Int) by omega)
set_option maxHeartbeats 4000000 in
set_option maxRecDepth 100000 in
theorem tFu_find_10 {yo0 : cf_O} {yo1 : cf_O} {n : Nat} (H : HFu_find yo0 yo1 n) (v2 : Int32) (o0 : cf_O) (o1 : cf_O) (k_o0 : okO I_Fu o0) (r_o0 : Fr (fr_M [0] [] [1]) yo0 o0) (k_o1 : okO I_Gr o1) (r_o1 : Fr (fr_M [] [] []) yo1 o1) (i_v2 : (0 : Int) ≤ v2.toInt ∧ v2.toInt ≤ 4) (f_o0_0 : (0 : Int) ≤ (o0.1 0).toInt ∧ (o0.1 0).toInt ≤ 0) (hm : 0 + (4 - v2.toInt) * 438 ≤ (n : Int)) : tt (fFu_find_10 (gFu_find n) v2 o0 o1) (QFu_find yo0 yo1) := by
  unfold fFu_find_10
  refine tt_if (fun c1 => ?_) (fun c1 => ?_)
  · have i2 : (4 : Int) ≤ v2.toInt ∧ v2.toInt ≤ 4 := nr_ler c1 (show (4 : Int) ≤ (4 : Int32).toInt ∧ (4 : Int32).toInt ≤ 4 by decide) i_v2 (by decide) (by decide)
    refine tt_ko ?_
    have k3 := ok_fp (k := 0) (v := 1) k_o0 (iv_w (a := 0) (b := 1) (by decide) (by decide) (show (1 : Int) ≤ (1 : Int32).toInt ∧ (1 : Int32).toInt ≤ 1 by decide))
    have r4 := fr_fp (k := 0) (v := 1) r_o0 rfl
    exact tt_some ⟨k3, r4, (show (1 : Int) ≤ (1 : Int32).toInt ∧ (1 : Int32).toInt ≤ 1 by decide), trivial⟩
  · have i5 : (0 : Int) ≤ v2.toInt ∧ v2.toInt ≤ 3 := nr_nlel c1 i_v2 (show (4 : Int) ≤ (4 : Int32).toInt ∧ (4 : Int32).toInt ≤ 4 by decide) (by decide) (by decide)
    exact H.2.1 _ _ _ _ k_o0 r_o0 k_o1 r_o1 i5 (iv_w (a := 0) (b := 8) (by decide) (by decide) (show (0 : Int) ≤ (0 : Int32).toInt ∧ (0 : Int32).toInt ≤ 0 by decide)) f_o0_0 (show 0 + (4 - v2.toInt - 1) * 438 + 419 + (8 - 0) * 2 < (n : Int) by omega)
set_option maxHeartbeats 4000000 in
set_option maxRecDepth 100000 in
theorem hFu_find (yo0 : cf_O) (yo1 : cf_O) : ∀ n, HFu_find yo0 yo1 n := by
  intro n
  induction n with
  | zero => exact ⟨(fun v2 o0 o1 k_o0 r_o0 k_o1 r_o1 i_v2 f_o0_0 hm => by exact absurd (show 0 + (4 - v2.toInt) * 438 < (0 : Int) from hm) (by omega)), (fun v2 v3 o0 o1 k_o0 r_o0 k_o1 r_o1 i_v2 i_v3 f_o0_0 hm => by exact absurd (show 0 + (4 - v2.toInt - 1) * 438 + 419 + (8 - v3.toInt) * 2 < (0 : Int) from hm) (by omega)), (fun v2 v3 o0 o1 k_o0 r_o0 k_o1 r_o1 i_v2 i_v3 f_o0_0 hm => by exact absurd (show 0 + (4 - v2.toInt - 1) * 438 + 1 + (209 - v3.toInt) * 2 < (0 : Int) from hm) (by omega))⟩
  | succ n ih => exact ⟨(fun v2 o0 o1 k_o0 r_o0 k_o1 r_o1 i_v2 f_o0_0 hm => tFu_find_10 ih v2 o0 o1 k_o0 r_o0 k_o1 r_o1 i_v2 f_o0_0 (by omega)), (fun v2 v3 o0 o1 k_o0 r_o0 k_o1 r_o1 i_v2 i_v3 f_o0_0 hm => tFu_find_17 ih v2 v3 o0 o1 k_o0 r_o0 k_o1 r_o1 i_v2 i_v3 f_o0_0 (by omega)), (fun v2 v3 o0 o1 k_o0 r_o0 k_o1 r_o1 i_v2 i_v3 f_o0_0 hm => tFu_find_55 ih v2 v3 o0 o1 k_o0 r_o0 k_o1 r_o1 i_v2 i_v3 f_o0_0 (by omega))⟩
set_option maxHeartbeats 4000000 in
set_option maxRecDepth 100000 in
theorem sFu_find (o0 : cf_O) (o1 : cf_O) (k_o0 : okO I_Fu o0) (k_o1 : okO I_Gr o1) : tt (fFu_find o0 o1) (QFu_find o0 o1) := by
  have H := hFu_find o0 o1 cfFU
  have hm : (1755 : Int) ≤ (cfFU : Nat) := by decide
  have r_o0 : Fr (fr_M [0] [] [1]) o0 o0 := fr_rfl
  have r_o1 : Fr (fr_M [] [] []) o1 o1 := fr_rfl
  unfold fFu_find fFu_find_0
  refine tt_if (fun c1 => ?_) (fun c1 => ?_)
  · have i2 : (0 : Int) ≤ (o0.1 0).toInt ∧ (o0.1 0).toInt ≤ 0 := nr_eql c1 (k_o0.1 0) (show (0 : Int) ≤ (0 : Int32).toInt ∧ (0 : Int32).toInt ≤ 0 by decide) (by decide) (by decide)
    exact H.1 _ _ _ k_o0 r_o0 k_o1 r_o1 (iv_w (a := 0) (b := 4) (by decide) (by decide) (show (0 : Int) ≤ (0 : Int32).toInt ∧ (0 : Int32).toInt ≤ 0 by decide)) i2 (show 0 + (4 - 0) * 438 < ((cfFU : Nat) : Int) by omega)
  · have i3 : (1 : Int) ≤ (o0.1 0).toInt ∧ (o0.1 0).toInt ≤ 1 := nr_nela c1 (k_o0.1 0) (show (0 : Int) ≤ (0 : Int32).toInt ∧ (0 : Int32).toInt ≤ 0 by decide) (by decide) (by decide)
    exact tt_some ⟨k_o0, r_o0, i3, trivial⟩
def QFu_bit (v1 : Int32) (v2 : Int32) (o0 : cf_O) (r : (Int32)) : Prop := ((0 : Int) ≤ r.toInt ∧ r.toInt ≤ 1) ∧ True
set_option maxHeartbeats 4000000 in
set_option maxRecDepth 100000 in
theorem sFu_bit (v1 : Int32) (v2 : Int32) (o0 : cf_O) (k_o0 : okO I_Fu o0) (i_v1 : (0 : Int) ≤ v1.toInt ∧ v1.toInt ≤ 417) (i_v2 : (0 : Int) ≤ v2.toInt ∧ v2.toInt ≤ 255) (f_o0_0 : (1 : Int) ≤ (o0.1 0).toInt ∧ (o0.1 0).toInt ≤ 1) : tt (fFu_bit v1 v2 o0) (QFu_bit v1 v2 o0) := by
  have r_o0 : Fr (fr_M [] [] []) o0 o0 := fr_rfl
  unfold fFu_bit fFu_bit_0
  refine tt_kv (P := fun z => (0 : Int) ≤ z.toInt ∧ z.toInt ≤ 3) (iv_shr (p := 6) (q := 6) i_v2 (show (6 : Int) ≤ (6 : Int32).toInt ∧ (6 : Int32).toInt ≤ 6 by decide) (by decide) (by decide) (by decide) (by decide)) (fun x1 i2 => ?_)
  refine tt_b (sFu_word _ _ _ k_o0 i_v1 i2) (fun q3 hq3 => ?_)
  refine tt_kv (P := fun z => (0 : Int) ≤ z.toInt ∧ z.toInt ≤ 63) (iv_and (show (63 : Int) ≤ (63 : Int32).toInt ∧ (63 : Int32).toInt ≤ 63 by decide) (by decide) (by decide) (by decide)) (fun x4 i5 => ?_)
  refine tt_kl (fun x6 => ?_)
  refine tt_klv (P := fun z => (0 : Int) ≤ z.toInt ∧ z.toInt ≤ 1) (ivl_and (by decide) (by decide) (by decide)) (fun x7 i8 => ?_)
  refine tt_kv (P := fun z => (0 : Int) ≤ z.toInt ∧ z.toInt ≤ 1) (ivl_i i8 (by decide) (by decide)) (fun x9 i10 => ?_)
  exact tt_some ⟨i10, trivial⟩
def QJInteger_numberOfTrailingZeros_I (v0 : Int32) (r : (Int32)) : Prop := ((0 : Int) ≤ r.toInt ∧ r.toInt ≤ 32) ∧ True
set_option maxHeartbeats 4000000 in
set_option maxRecDepth 100000 in
theorem sJInteger_numberOfTrailingZeros_I (v0 : Int32)  : tt (fJInteger_numberOfTrailingZeros_I v0) (QJInteger_numberOfTrailingZeros_I v0) := by
  unfold fJInteger_numberOfTrailingZeros_I fJInteger_numberOfTrailingZeros_I_0
  refine tt_kv (P := fun z => ((-2147483648) : Int) ≤ z.toInt ∧ z.toInt ≤ 2147483647) (iv_top _) (fun x1 i2 => ?_)
  refine tt_kv (P := fun z => ((-2147483648) : Int) ≤ z.toInt ∧ z.toInt ≤ 2147483647) (iv_top _) (fun x3 i4 => ?_)
  refine tt_kv (P := fun z => ((-2147483648) : Int) ≤ z.toInt ∧ z.toInt ≤ 2147483647) (iv_top _) (fun x5 i6 => ?_)
  refine tt_if (fun c7 => ?_) (fun c7 => ?_)
  · have i8 : (1 : Int) ≤ x5.toInt ∧ x5.toInt ≤ 2147483647 := nr_ltr c7 (show (0 : Int) ≤ (0 : Int32).toInt ∧ (0 : Int32).toInt ≤ 0 by decide) i6 (by decide) (by decide)
    refine tt_if (fun c9 => ?_) (fun c9 => ?_)
    · have i10 : (1 : Int) ≤ x5.toInt ∧ x5.toInt ≤ 65536 := nr_lel c9 i8 (show (65536 : Int) ≤ (65536 : Int32).toInt ∧ (65536 : Int32).toInt ≤ 65536 by decide) (by decide) (by decide)
      try unfold fJInteger_numberOfTrailingZeros_I_34
      refine tt_if (fun c11 => ?_) (fun c11 => ?_)
      · have i12 : (1 : Int) ≤ x5.toInt ∧ x5.toInt ≤ 256 := nr_lel c11 i10 (show (256 : Int) ≤ (256 : Int32).toInt ∧ (256 : Int32).toInt ≤ 256 by decide) (by decide) (by decide)
        try unfold fJInteger_numberOfTrailingZeros_I_49
        refine tt_if (fun c13 => ?_) (fun c13 => ?_)
        · have i14 : (1 : Int) ≤ x5.toInt ∧ x5.toInt ≤ 16 := nr_lel c13 i12 (show (16 : Int) ≤ (16 : Int32).toInt ∧ (16 : Int32).toInt ≤ 16 by decide) (by decide) (by decide)
          try unfold fJInteger_numberOfTrailingZeros_I_62
          refine tt_if (fun c15 => ?_) (fun c15 => ?_)
          · have i16 : (1 : Int) ≤ x5.toInt ∧ x5.toInt ≤ 4 := nr_lel c15 i14 (show (4 : Int) ≤ (4 : Int32).toInt ∧ (4 : Int32).toInt ≤ 4 by decide) (by decide) (by decide)
            try unfold fJInteger_numberOfTrailingZeros_I_74
            refine tt_kv (P := fun z => (0 : Int) ≤ z.toInt ∧ z.toInt ≤ 2) (iv_ushr (k := 1) i16 (by decide) (by decide) (by decide) (by decide) (by decide)) (fun x17 i18 => ?_)
            refine tt_kv (P := fun z => (1 : Int) ≤ z.toInt ∧ z.toInt ≤ 3) (iv_add (show (1 : Int) ≤ (1 : Int32).toInt ∧ (1 : Int32).toInt ≤ 1 by decide) i18 (by decide) (by decide) (by decide) (by decide)) (fun x19 i20 => ?_)
            exact tt_some ⟨(iv_w (a := 0) (b := 32) (by decide) (by decide) i20), trivial⟩
          · have i21 : (5 : Int) ≤ x5.toInt ∧ x5.toInt ≤ 16 := nr_nler c15 (show (4 : Int) ≤ (4 : Int32).toInt ∧ (4 : Int32).toInt ≤ 4 by decide) i14 (by decide) (by decide)
            refine tt_kv (P := fun z => (3 : Int) ≤ z.toInt ∧ z.toInt ≤ 3) (iv_add (show (1 : Int) ≤ (1 : Int32).toInt ∧ (1 : Int32).toInt ≤ 1 by decide) (show (2 : Int) ≤ (2 : Int32).toInt ∧ (2 : Int32).toInt ≤ 2 by decide) (by decide) (by decide) (by decide) (by decide)) (fun x22 i23 => ?_)
            refine tt_kv (P := fun z => (1 : Int) ≤ z.toInt ∧ z.toInt ≤ 4) (iv_ushr (k := 2) i21 (by decide) (by decide) (by decide) (by decide) (by decide)) (fun x24 i25 => ?_)
            try unfold fJInteger_numberOfTrailingZeros_I_74
            refine tt_kv (P := fun z => (0 : Int) ≤ z.toInt ∧ z.toInt ≤ 2) (iv_ushr (k := 1) i25 (by decide) (by decide) (by decide) (by decide) (by decide)) (fun x26 i27 => ?_)
            refine tt_kv (P := fun z => (3 : Int) ≤ z.toInt ∧ z.toInt ≤ 5) (iv_add i23 i27 (by decide) (by decide) (by decide) (by decide)) (fun x28 i29 => ?_)
            exact tt_some ⟨(iv_w (a := 0) (b := 32) (by decide) (by decide) i29), trivial⟩
        · have i30 : (17 : Int) ≤ x5.toInt ∧ x5.toInt ≤ 256 := nr_nler c13 (show (16 : Int) ≤ (16 : Int32).toInt ∧ (16 : Int32).toInt ≤ 16 by decide) i12 (by decide) (by decide)
          refine tt_kv (P := fun z => (5 : Int) ≤ z.toInt ∧ z.toInt ≤ 5) (iv_add (show (1 : Int) ≤ (1 : Int32).toInt ∧ (1 : Int32).toInt ≤ 1 by decide) (show (4 : Int) ≤ (4 : Int32).toInt ∧ (4 : Int32).toInt ≤ 4 by decide) (by decide) (by decide) (by decide) (by decide)) (fun x31 i32 => ?_)
          refine tt_kv (P := fun z => (1 : Int) ≤ z.toInt ∧ z.toInt ≤ 16) (iv_ushr (k := 4) i30 (by decide) (by decide) (by decide) (by decide) (by decide)) (fun x33 i34 => ?_)
          try unfold fJInteger_numberOfTrailingZeros_I_62
          refine tt_if (fun c35 => ?_) (fun c35 => ?_)
          · have i36 : (1 : Int) ≤ x33.toInt ∧ x33.toInt ≤ 4 := nr_lel c35 i34 (show (4 : Int) ≤ (4 : Int32).toInt ∧ (4 : Int32).toInt ≤ 4 by decide) (by decide) (by decide)
            try unfold fJInteger_numberOfTrailingZeros_I_74
            refine tt_kv (P := fun z => (0 : Int) ≤ z.toInt ∧ z.toInt ≤ 2) (iv_ushr (k := 1) i36 (by decide) (by decide) (by decide) (by decide) (by decide)) (fun x37 i38 => ?_)
            refine tt_kv (P := fun z => (5 : Int) ≤ z.toInt ∧ z.toInt ≤ 7) (iv_add i32 i38 (by decide) (by decide) (by decide) (by decide)) (fun x39 i40 => ?_)
            exact tt_some ⟨(iv_w (a := 0) (b := 32) (by decide) (by decide) i40), trivial⟩
          · have i41 : (5 : Int) ≤ x33.toInt ∧ x33.toInt ≤ 16 := nr_nler c35 (show (4 : Int) ≤ (4 : Int32).toInt ∧ (4 : Int32).toInt ≤ 4 by decide) i34 (by decide) (by decide)
            refine tt_kv (P := fun z => ((7 : Int) ≤ z.toInt ∧ z.toInt ≤ 7) ∧ z.toInt = x31.toInt + 2) ⟨iv_add i32 (show (2 : Int) ≤ (2 : Int32).toInt ∧ (2 : Int32).toInt ≤ 2 by decide) (by decide) (by decide) (by decide) (by decide), iq_add i32 (show (2 : Int) ≤ (2 : Int32).toInt ∧ (2 : Int32).toInt ≤ 2 by decide) (by decide) (by decide)⟩ (fun x42 qi43 => ?_)
            obtain ⟨i43, ei43⟩ := qi43
            refine tt_kv (P := fun z => (1 : Int) ≤ z.toInt ∧ z.toInt ≤ 4) (iv_ushr (k := 2) i41 (by decide) (by decide) (by decide) (by decide) (by decide)) (fun x44 i45 => ?_)
            try unfold fJInteger_numberOfTrailingZeros_I_74
            refine tt_kv (P := fun z => (0 : Int) ≤ z.toInt ∧ z.toInt ≤ 2) (iv_ushr (k := 1) i45 (by decide) (by decide) (by decide) (by decide) (by decide)) (fun x46 i47 => ?_)
            refine tt_kv (P := fun z => (7 : Int) ≤ z.toInt ∧ z.toInt ≤ 9) (iv_add i43 i47 (by decide) (by decide) (by decide) (by decide)) (fun x48 i49 => ?_)
            exact tt_some ⟨(iv_w (a := 0) (b := 32) (by decide) (by decide) i49), trivial⟩
      · have i50 : (257 : Int) ≤ x5.toInt ∧ x5.toInt ≤ 65536 := nr_nler c11 (show (256 : Int) ≤ (256 : Int32).toInt ∧ (256 : Int32).toInt ≤ 256 by decide) i10 (by decide) (by decide)
        refine tt_kv (P := fun z => (9 : Int) ≤ z.toInt ∧ z.toInt ≤ 9) (iv_add (show (1 : Int) ≤ (1 : Int32).toInt ∧ (1 : Int32).toInt ≤ 1 by decide) (show (8 : Int) ≤ (8 : Int32).toInt ∧ (8 : Int32).toInt ≤ 8 by decide) (by decide) (by decide) (by decide) (by decide)) (fun x51 i52 => ?_)
        refine tt_kv (P := fun z => (1 : Int) ≤ z.toInt ∧ z.toInt ≤ 256) (iv_ushr (k := 8) i50 (by decide) (by decide) (by decide) (by decide) (by decide)) (fun x53 i54 => ?_)
        try unfold fJInteger_numberOfTrailingZeros_I_49
        refine tt_if (fun c55 => ?_) (fun c55 => ?_)
        · have i56 : (1 : Int) ≤ x53.toInt ∧ x53.toInt ≤ 16 := nr_lel c55 i54 (show (16 : Int) ≤ (16 : Int32).toInt ∧ (16 : Int32).toInt ≤ 16 by decide) (by decide) (by decide)
          try unfold fJInteger_numberOfTrailingZeros_I_62
          refine tt_if (fun c57 => ?_) (fun c57 => ?_)
          · have i58 : (1 : Int) ≤ x53.toInt ∧ x53.toInt ≤ 4 := nr_lel c57 i56 (show (4 : Int) ≤ (4 : Int32).toInt ∧ (4 : Int32).toInt ≤ 4 by decide) (by decide) (by decide)
            try unfold fJInteger_numberOfTrailingZeros_I_74
            refine tt_kv (P := fun z => (0 : Int) ≤ z.toInt ∧ z.toInt ≤ 2) (iv_ushr (k := 1) i58 (by decide) (by decide) (by decide) (by decide) (by decide)) (fun x59 i60 => ?_)
            refine tt_kv (P := fun z => (9 : Int) ≤ z.toInt ∧ z.toInt ≤ 11) (iv_add i52 i60 (by decide) (by decide) (by decide) (by decide)) (fun x61 i62 => ?_)
            exact tt_some ⟨(iv_w (a := 0) (b := 32) (by decide) (by decide) i62), trivial⟩
          · have i63 : (5 : Int) ≤ x53.toInt ∧ x53.toInt ≤ 16 := nr_nler c57 (show (4 : Int) ≤ (4 : Int32).toInt ∧ (4 : Int32).toInt ≤ 4 by decide) i56 (by decide) (by decide)
            refine tt_kv (P := fun z => ((11 : Int) ≤ z.toInt ∧ z.toInt ≤ 11) ∧ z.toInt = x51.toInt + 2) ⟨iv_add i52 (show (2 : Int) ≤ (2 : Int32).toInt ∧ (2 : Int32).toInt ≤ 2 by decide) (by decide) (by decide) (by decide) (by decide), iq_add i52 (show (2 : Int) ≤ (2 : Int32).toInt ∧ (2 : Int32).toInt ≤ 2 by decide) (by decide) (by decide)⟩ (fun x64 qi65 => ?_)
            obtain ⟨i65, ei65⟩ := qi65
            refine tt_kv (P := fun z => (1 : Int) ≤ z.toInt ∧ z.toInt ≤ 4) (iv_ushr (k := 2) i63 (by decide) (by decide) (by decide) (by decide) (by decide)) (fun x66 i67 => ?_)
            try unfold fJInteger_numberOfTrailingZeros_I_74
            refine tt_kv (P := fun z => (0 : Int) ≤ z.toInt ∧ z.toInt ≤ 2) (iv_ushr (k := 1) i67 (by decide) (by decide) (by decide) (by decide) (by decide)) (fun x68 i69 => ?_)
            refine tt_kv (P := fun z => (11 : Int) ≤ z.toInt ∧ z.toInt ≤ 13) (iv_add i65 i69 (by decide) (by decide) (by decide) (by decide)) (fun x70 i71 => ?_)
            exact tt_some ⟨(iv_w (a := 0) (b := 32) (by decide) (by decide) i71), trivial⟩
        · have i72 : (17 : Int) ≤ x53.toInt ∧ x53.toInt ≤ 256 := nr_nler c55 (show (16 : Int) ≤ (16 : Int32).toInt ∧ (16 : Int32).toInt ≤ 16 by decide) i54 (by decide) (by decide)
          refine tt_kv (P := fun z => ((13 : Int) ≤ z.toInt ∧ z.toInt ≤ 13) ∧ z.toInt = x51.toInt + 4) ⟨iv_add i52 (show (4 : Int) ≤ (4 : Int32).toInt ∧ (4 : Int32).toInt ≤ 4 by decide) (by decide) (by decide) (by decide) (by decide), iq_add i52 (show (4 : Int) ≤ (4 : Int32).toInt ∧ (4 : Int32).toInt ≤ 4 by decide) (by decide) (by decide)⟩ (fun x73 qi74 => ?_)
          obtain ⟨i74, ei74⟩ := qi74
          refine tt_kv (P := fun z => (1 : Int) ≤ z.toInt ∧ z.toInt ≤ 16) (iv_ushr (k := 4) i72 (by decide) (by decide) (by decide) (by decide) (by decide)) (fun x75 i76 => ?_)
          try unfold fJInteger_numberOfTrailingZeros_I_62
          refine tt_if (fun c77 => ?_) (fun c77 => ?_)
          · have i78 : (1 : Int) ≤ x75.toInt ∧ x75.toInt ≤ 4 := nr_lel c77 i76 (show (4 : Int) ≤ (4 : Int32).toInt ∧ (4 : Int32).toInt ≤ 4 by decide) (by decide) (by decide)
            try unfold fJInteger_numberOfTrailingZeros_I_74
            refine tt_kv (P := fun z => (0 : Int) ≤ z.toInt ∧ z.toInt ≤ 2) (iv_ushr (k := 1) i78 (by decide) (by decide) (by decide) (by decide) (by decide)) (fun x79 i80 => ?_)
            refine tt_kv (P := fun z => (13 : Int) ≤ z.toInt ∧ z.toInt ≤ 15) (iv_add i74 i80 (by decide) (by decide) (by decide) (by decide)) (fun x81 i82 => ?_)
            exact tt_some ⟨(iv_w (a := 0) (b := 32) (by decide) (by decide) i82), trivial⟩
          · have i83 : (5 : Int) ≤ x75.toInt ∧ x75.toInt ≤ 16 := nr_nler c77 (show (4 : Int) ≤ (4 : Int32).toInt ∧ (4 : Int32).toInt ≤ 4 by decide) i76 (by decide) (by decide)
            refine tt_kv (P := fun z => ((15 : Int) ≤ z.toInt ∧ z.toInt ≤ 15) ∧ z.toInt = x73.toInt + 2) ⟨iv_add i74 (show (2 : Int) ≤ (2 : Int32).toInt ∧ (2 : Int32).toInt ≤ 2 by decide) (by decide) (by decide) (by decide) (by decide), iq_add i74 (show (2 : Int) ≤ (2 : Int32).toInt ∧ (2 : Int32).toInt ≤ 2 by decide) (by decide) (by decide)⟩ (fun x84 qi85 => ?_)
            obtain ⟨i85, ei85⟩ := qi85
            refine tt_kv (P := fun z => (1 : Int) ≤ z.toInt ∧ z.toInt ≤ 4) (iv_ushr (k := 2) i83 (by decide) (by decide) (by decide) (by decide) (by decide)) (fun x86 i87 => ?_)
            try unfold fJInteger_numberOfTrailingZeros_I_74
            refine tt_kv (P := fun z => (0 : Int) ≤ z.toInt ∧ z.toInt ≤ 2) (iv_ushr (k := 1) i87 (by decide) (by decide) (by decide) (by decide) (by decide)) (fun x88 i89 => ?_)
            refine tt_kv (P := fun z => (15 : Int) ≤ z.toInt ∧ z.toInt ≤ 17) (iv_add i85 i89 (by decide) (by decide) (by decide) (by decide)) (fun x90 i91 => ?_)
            exact tt_some ⟨(iv_w (a := 0) (b := 32) (by decide) (by decide) i91), trivial⟩
    · have i92 : (65537 : Int) ≤ x5.toInt ∧ x5.toInt ≤ 2147483647 := nr_nler c9 (show (65536 : Int) ≤ (65536 : Int32).toInt ∧ (65536 : Int32).toInt ≤ 65536 by decide) i8 (by decide) (by decide)
      refine tt_kv (P := fun z => (1 : Int) ≤ z.toInt ∧ z.toInt ≤ 32767) (iv_ushr (k := 16) i92 (by decide) (by decide) (by decide) (by decide) (by decide)) (fun x93 i94 => ?_)
      try unfold fJInteger_numberOfTrailingZeros_I_34
      refine tt_if (fun c95 => ?_) (fun c95 => ?_)
      · have i96 : (1 : Int) ≤ x93.toInt ∧ x93.toInt ≤ 256 := nr_lel c95 i94 (show (256 : Int) ≤ (256 : Int32).toInt ∧ (256 : Int32).toInt ≤ 256 by decide) (by decide) (by decide)
        try unfold fJInteger_numberOfTrailingZeros_I_49
        refine tt_if (fun c97 => ?_) (fun c97 => ?_)
        · have i98 : (1 : Int) ≤ x93.toInt ∧ x93.toInt ≤ 16 := nr_lel c97 i96 (show (16 : Int) ≤ (16 : Int32).toInt ∧ (16 : Int32).toInt ≤ 16 by decide) (by decide) (by decide)
          try unfold fJInteger_numberOfTrailingZeros_I_62
          refine tt_if (fun c99 => ?_) (fun c99 => ?_)
          · have i100 : (1 : Int) ≤ x93.toInt ∧ x93.toInt ≤ 4 := nr_lel c99 i98 (show (4 : Int) ≤ (4 : Int32).toInt ∧ (4 : Int32).toInt ≤ 4 by decide) (by decide) (by decide)
            try unfold fJInteger_numberOfTrailingZeros_I_74
            refine tt_kv (P := fun z => (0 : Int) ≤ z.toInt ∧ z.toInt ≤ 2) (iv_ushr (k := 1) i100 (by decide) (by decide) (by decide) (by decide) (by decide)) (fun x101 i102 => ?_)
            refine tt_kv (P := fun z => (17 : Int) ≤ z.toInt ∧ z.toInt ≤ 19) (iv_add (show (17 : Int) ≤ (17 : Int32).toInt ∧ (17 : Int32).toInt ≤ 17 by decide) i102 (by decide) (by decide) (by decide) (by decide)) (fun x103 i104 => ?_)
            exact tt_some ⟨(iv_w (a := 0) (b := 32) (by decide) (by decide) i104), trivial⟩
          · have i105 : (5 : Int) ≤ x93.toInt ∧ x93.toInt ≤ 16 := nr_nler c99 (show (4 : Int) ≤ (4 : Int32).toInt ∧ (4 : Int32).toInt ≤ 4 by decide) i98 (by decide) (by decide)
            refine tt_kv (P := fun z => (19 : Int) ≤ z.toInt ∧ z.toInt ≤ 19) (iv_add (show (17 : Int) ≤ (17 : Int32).toInt ∧ (17 : Int32).toInt ≤ 17 by decide) (show (2 : Int) ≤ (2 : Int32).toInt ∧ (2 : Int32).toInt ≤ 2 by decide) (by decide) (by decide) (by decide) (by decide)) (fun x106 i107 => ?_)
            refine tt_kv (P := fun z => (1 : Int) ≤ z.toInt ∧ z.toInt ≤ 4) (iv_ushr (k := 2) i105 (by decide) (by decide) (by decide) (by decide) (by decide)) (fun x108 i109 => ?_)
            try unfold fJInteger_numberOfTrailingZeros_I_74
            refine tt_kv (P := fun z => (0 : Int) ≤ z.toInt ∧ z.toInt ≤ 2) (iv_ushr (k := 1) i109 (by decide) (by decide) (by decide) (by decide) (by decide)) (fun x110 i111 => ?_)
            refine tt_kv (P := fun z => (19 : Int) ≤ z.toInt ∧ z.toInt ≤ 21) (iv_add i107 i111 (by decide) (by decide) (by decide) (by decide)) (fun x112 i113 => ?_)
            exact tt_some ⟨(iv_w (a := 0) (b := 32) (by decide) (by decide) i113), trivial⟩
        · have i114 : (17 : Int) ≤ x93.toInt ∧ x93.toInt ≤ 256 := nr_nler c97 (show (16 : Int) ≤ (16 : Int32).toInt ∧ (16 : Int32).toInt ≤ 16 by decide) i96 (by decide) (by decide)
          refine tt_kv (P := fun z => (21 : Int) ≤ z.toInt ∧ z.toInt ≤ 21) (iv_add (show (17 : Int) ≤ (17 : Int32).toInt ∧ (17 : Int32).toInt ≤ 17 by decide) (show (4 : Int) ≤ (4 : Int32).toInt ∧ (4 : Int32).toInt ≤ 4 by decide) (by decide) (by decide) (by decide) (by decide)) (fun x115 i116 => ?_)
          refine tt_kv (P := fun z => (1 : Int) ≤ z.toInt ∧ z.toInt ≤ 16) (iv_ushr (k := 4) i114 (by decide) (by decide) (by decide) (by decide) (by decide)) (fun x117 i118 => ?_)
          try unfold fJInteger_numberOfTrailingZeros_I_62
          refine tt_if (fun c119 => ?_) (fun c119 => ?_)
          · have i120 : (1 : Int) ≤ x117.toInt ∧ x117.toInt ≤ 4 := nr_lel c119 i118 (show (4 : Int) ≤ (4 : Int32).toInt ∧ (4 : Int32).toInt ≤ 4 by decide) (by decide) (by decide)
            try unfold fJInteger_numberOfTrailingZeros_I_74
            refine tt_kv (P := fun z => (0 : Int) ≤ z.toInt ∧ z.toInt ≤ 2) (iv_ushr (k := 1) i120 (by decide) (by decide) (by decide) (by decide) (by decide)) (fun x121 i122 => ?_)
            refine tt_kv (P := fun z => (21 : Int) ≤ z.toInt ∧ z.toInt ≤ 23) (iv_add i116 i122 (by decide) (by decide) (by decide) (by decide)) (fun x123 i124 => ?_)
            exact tt_some ⟨(iv_w (a := 0) (b := 32) (by decide) (by decide) i124), trivial⟩
          · have i125 : (5 : Int) ≤ x117.toInt ∧ x117.toInt ≤ 16 := nr_nler c119 (show (4 : Int) ≤ (4 : Int32).toInt ∧ (4 : Int32).toInt ≤ 4 by decide) i118 (by decide) (by decide)
            refine tt_kv (P := fun z => ((23 : Int) ≤ z.toInt ∧ z.toInt ≤ 23) ∧ z.toInt = x115.toInt + 2) ⟨iv_add i116 (show (2 : Int) ≤ (2 : Int32).toInt ∧ (2 : Int32).toInt ≤ 2 by decide) (by decide) (by decide) (by decide) (by decide), iq_add i116 (show (2 : Int) ≤ (2 : Int32).toInt ∧ (2 : Int32).toInt ≤ 2 by decide) (by decide) (by decide)⟩ (fun x126 qi127 => ?_)
            obtain ⟨i127, ei127⟩ := qi127
            refine tt_kv (P := fun z => (1 : Int) ≤ z.toInt ∧ z.toInt ≤ 4) (iv_ushr (k := 2) i125 (by decide) (by decide) (by decide) (by decide) (by decide)) (fun x128 i129 => ?_)
            try unfold fJInteger_numberOfTrailingZeros_I_74
            refine tt_kv (P := fun z => (0 : Int) ≤ z.toInt ∧ z.toInt ≤ 2) (iv_ushr (k := 1) i129 (by decide) (by decide) (by decide) (by decide) (by decide)) (fun x130 i131 => ?_)
            refine tt_kv (P := fun z => (23 : Int) ≤ z.toInt ∧ z.toInt ≤ 25) (iv_add i127 i131 (by decide) (by decide) (by decide) (by decide)) (fun x132 i133 => ?_)
            exact tt_some ⟨(iv_w (a := 0) (b := 32) (by decide) (by decide) i133), trivial⟩
      · have i134 : (257 : Int) ≤ x93.toInt ∧ x93.toInt ≤ 32767 := nr_nler c95 (show (256 : Int) ≤ (256 : Int32).toInt ∧ (256 : Int32).toInt ≤ 256 by decide) i94 (by decide) (by decide)
        refine tt_kv (P := fun z => (25 : Int) ≤ z.toInt ∧ z.toInt ≤ 25) (iv_add (show (17 : Int) ≤ (17 : Int32).toInt ∧ (17 : Int32).toInt ≤ 17 by decide) (show (8 : Int) ≤ (8 : Int32).toInt ∧ (8 : Int32).toInt ≤ 8 by decide) (by decide) (by decide) (by decide) (by decide)) (fun x135 i136 => ?_)
        refine tt_kv (P := fun z => (1 : Int) ≤ z.toInt ∧ z.toInt ≤ 127) (iv_ushr (k := 8) i134 (by decide) (by decide) (by decide) (by decide) (by decide)) (fun x137 i138 => ?_)
        try unfold fJInteger_numberOfTrailingZeros_I_49
        refine tt_if (fun c139 => ?_) (fun c139 => ?_)
        · have i140 : (1 : Int) ≤ x137.toInt ∧ x137.toInt ≤ 16 := nr_lel c139 i138 (show (16 : Int) ≤ (16 : Int32).toInt ∧ (16 : Int32).toInt ≤ 16 by decide) (by decide) (by decide)
          try unfold fJInteger_numberOfTrailingZeros_I_62
          refine tt_if (fun c141 => ?_) (fun c141 => ?_)
          · have i142 : (1 : Int) ≤ x137.toInt ∧ x137.toInt ≤ 4 := nr_lel c141 i140 (show (4 : Int) ≤ (4 : Int32).toInt ∧ (4 : Int32).toInt ≤ 4 by decide) (by decide) (by decide)
            try unfold fJInteger_numberOfTrailingZeros_I_74
            refine tt_kv (P := fun z => (0 : Int) ≤ z.toInt ∧ z.toInt ≤ 2) (iv_ushr (k := 1) i142 (by decide) (by decide) (by decide) (by decide) (by decide)) (fun x143 i144 => ?_)
            refine tt_kv (P := fun z => (25 : Int) ≤ z.toInt ∧ z.toInt ≤ 27) (iv_add i136 i144 (by decide) (by decide) (by decide) (by decide)) (fun x145 i146 => ?_)
            exact tt_some ⟨(iv_w (a := 0) (b := 32) (by decide) (by decide) i146), trivial⟩
          · have i147 : (5 : Int) ≤ x137.toInt ∧ x137.toInt ≤ 16 := nr_nler c141 (show (4 : Int) ≤ (4 : Int32).toInt ∧ (4 : Int32).toInt ≤ 4 by decide) i140 (by decide) (by decide)
            refine tt_kv (P := fun z => ((27 : Int) ≤ z.toInt ∧ z.toInt ≤ 27) ∧ z.toInt = x135.toInt + 2) ⟨iv_add i136 (show (2 : Int) ≤ (2 : Int32).toInt ∧ (2 : Int32).toInt ≤ 2 by decide) (by decide) (by decide) (by decide) (by decide), iq_add i136 (show (2 : Int) ≤ (2 : Int32).toInt ∧ (2 : Int32).toInt ≤ 2 by decide) (by decide) (by decide)⟩ (fun x148 qi149 => ?_)
            obtain ⟨i149, ei149⟩ := qi149
            refine tt_kv (P := fun z => (1 : Int) ≤ z.toInt ∧ z.toInt ≤ 4) (iv_ushr (k := 2) i147 (by decide) (by decide) (by decide) (by decide) (by decide)) (fun x150 i151 => ?_)
            try unfold fJInteger_numberOfTrailingZeros_I_74
            refine tt_kv (P := fun z => (0 : Int) ≤ z.toInt ∧ z.toInt ≤ 2) (iv_ushr (k := 1) i151 (by decide) (by decide) (by decide) (by decide) (by decide)) (fun x152 i153 => ?_)
            refine tt_kv (P := fun z => (27 : Int) ≤ z.toInt ∧ z.toInt ≤ 29) (iv_add i149 i153 (by decide) (by decide) (by decide) (by decide)) (fun x154 i155 => ?_)
            exact tt_some ⟨(iv_w (a := 0) (b := 32) (by decide) (by decide) i155), trivial⟩
        · have i156 : (17 : Int) ≤ x137.toInt ∧ x137.toInt ≤ 127 := nr_nler c139 (show (16 : Int) ≤ (16 : Int32).toInt ∧ (16 : Int32).toInt ≤ 16 by decide) i138 (by decide) (by decide)
          refine tt_kv (P := fun z => ((29 : Int) ≤ z.toInt ∧ z.toInt ≤ 29) ∧ z.toInt = x135.toInt + 4) ⟨iv_add i136 (show (4 : Int) ≤ (4 : Int32).toInt ∧ (4 : Int32).toInt ≤ 4 by decide) (by decide) (by decide) (by decide) (by decide), iq_add i136 (show (4 : Int) ≤ (4 : Int32).toInt ∧ (4 : Int32).toInt ≤ 4 by decide) (by decide) (by decide)⟩ (fun x157 qi158 => ?_)
          obtain ⟨i158, ei158⟩ := qi158
          refine tt_kv (P := fun z => (1 : Int) ≤ z.toInt ∧ z.toInt ≤ 7) (iv_ushr (k := 4) i156 (by decide) (by decide) (by decide) (by decide) (by decide)) (fun x159 i160 => ?_)
          try unfold fJInteger_numberOfTrailingZeros_I_62
          refine tt_if (fun c161 => ?_) (fun c161 => ?_)
          · have i162 : (1 : Int) ≤ x159.toInt ∧ x159.toInt ≤ 4 := nr_lel c161 i160 (show (4 : Int) ≤ (4 : Int32).toInt ∧ (4 : Int32).toInt ≤ 4 by decide) (by decide) (by decide)
            try unfold fJInteger_numberOfTrailingZeros_I_74
            refine tt_kv (P := fun z => (0 : Int) ≤ z.toInt ∧ z.toInt ≤ 2) (iv_ushr (k := 1) i162 (by decide) (by decide) (by decide) (by decide) (by decide)) (fun x163 i164 => ?_)
            refine tt_kv (P := fun z => (29 : Int) ≤ z.toInt ∧ z.toInt ≤ 31) (iv_add i158 i164 (by decide) (by decide) (by decide) (by decide)) (fun x165 i166 => ?_)
            exact tt_some ⟨(iv_w (a := 0) (b := 32) (by decide) (by decide) i166), trivial⟩
          · have i167 : (5 : Int) ≤ x159.toInt ∧ x159.toInt ≤ 7 := nr_nler c161 (show (4 : Int) ≤ (4 : Int32).toInt ∧ (4 : Int32).toInt ≤ 4 by decide) i160 (by decide) (by decide)
            refine tt_kv (P := fun z => ((31 : Int) ≤ z.toInt ∧ z.toInt ≤ 31) ∧ z.toInt = x157.toInt + 2) ⟨iv_add i158 (show (2 : Int) ≤ (2 : Int32).toInt ∧ (2 : Int32).toInt ≤ 2 by decide) (by decide) (by decide) (by decide) (by decide), iq_add i158 (show (2 : Int) ≤ (2 : Int32).toInt ∧ (2 : Int32).toInt ≤ 2 by decide) (by decide) (by decide)⟩ (fun x168 qi169 => ?_)
            obtain ⟨i169, ei169⟩ := qi169
            refine tt_kv (P := fun z => (1 : Int) ≤ z.toInt ∧ z.toInt ≤ 1) (iv_ushr (k := 2) i167 (by decide) (by decide) (by decide) (by decide) (by decide)) (fun x170 i171 => ?_)
            try unfold fJInteger_numberOfTrailingZeros_I_74
            refine tt_kv (P := fun z => (0 : Int) ≤ z.toInt ∧ z.toInt ≤ 0) (iv_ushr (k := 1) i171 (by decide) (by decide) (by decide) (by decide) (by decide)) (fun x172 i173 => ?_)
            refine tt_kv (P := fun z => (31 : Int) ≤ z.toInt ∧ z.toInt ≤ 31) (iv_add i169 i173 (by decide) (by decide) (by decide) (by decide)) (fun x174 i175 => ?_)
            exact tt_some ⟨(iv_w (a := 0) (b := 32) (by decide) (by decide) i175), trivial⟩
  · have i176 : ((-2147483648) : Int) ≤ x5.toInt ∧ x5.toInt ≤ 0 := nr_nltl c7 i6 (show (0 : Int) ≤ (0 : Int32).toInt ∧ (0 : Int32).toInt ≤ 0 by decide) (by decide) (by decide)
    refine tt_kv (P := fun z => (0 : Int) ≤ z.toInt ∧ z.toInt ≤ 32) (iv_and (show (32 : Int) ≤ (32 : Int32).toInt ∧ (32 : Int32).toInt ≤ 32 by decide) (by decide) (by decide) (by decide)) (fun x177 i178 => ?_)
    exact tt_some ⟨i178, trivial⟩
def QJLong_numberOfTrailingZeros_J (v0 : Int64) (r : (Int32)) : Prop := ((0 : Int) ≤ r.toInt ∧ r.toInt ≤ 64) ∧ True
set_option maxHeartbeats 4000000 in
set_option maxRecDepth 100000 in
theorem sJLong_numberOfTrailingZeros_J (v0 : Int64)  : tt (fJLong_numberOfTrailingZeros_J v0) (QJLong_numberOfTrailingZeros_J v0) := by
  unfold fJLong_numberOfTrailingZeros_J fJLong_numberOfTrailingZeros_J_0
  refine tt_kv (P := fun z => ((-2147483648) : Int) ≤ z.toInt ∧ z.toInt ≤ 2147483647) (iv_top _) (fun x1 i2 => ?_)
  refine tt_if (fun c3 => ?_) (fun c3 => ?_)
  · have i4 : (0 : Int) ≤ x1.toInt ∧ x1.toInt ≤ 0 := nr_eql c3 i2 (show (0 : Int) ≤ (0 : Int32).toInt ∧ (0 : Int32).toInt ≤ 0 by decide) (by decide) (by decide)
    refine tt_klv (P := fun z => (0 : Int) ≤ z.toInt ∧ z.toInt ≤ 4294967295) (ivl_shr (k := 32) (by decide) (by decide) (by decide) (by decide)) (fun x5 i6 => ?_)
    refine tt_kv (P := fun z => ((-2147483648) : Int) ≤ z.toInt ∧ z.toInt ≤ 2147483647) (iv_top _) (fun x7 i8 => ?_)
    refine tt_b (sJInteger_numberOfTrailingZeros_I _ ) (fun q9 hq9 => ?_)
    obtain ⟨i_q9, -⟩ := hq9
    refine tt_kv (P := fun z => (32 : Int) ≤ z.toInt ∧ z.toInt ≤ 64) (iv_add (show (32 : Int) ≤ (32 : Int32).toInt ∧ (32 : Int32).toInt ≤ 32 by decide) i_q9 (by decide) (by decide) (by decide) (by decide)) (fun x10 i11 => ?_)
    try unfold fJLong_numberOfTrailingZeros_J_25
    exact tt_some ⟨(iv_w (a := 0) (b := 64) (by decide) (by decide) i11), trivial⟩
  · refine tt_b (sJInteger_numberOfTrailingZeros_I _ ) (fun q12 hq12 => ?_)
    obtain ⟨i_q12, -⟩ := hq12
    try unfold fJLong_numberOfTrailingZeros_J_25
    exact tt_some ⟨(iv_w (a := 0) (b := 64) (by decide) (by decide) i_q12), trivial⟩
def QFu_leastUnlike (v1 : Int32) (v2 : Int32) (o0 : cf_O) (r : (Int32)) : Prop := (((-1) : Int) ≤ r.toInt ∧ r.toInt ≤ 256) ∧ True
def HFu_leastUnlike (yv1 : Int32) (yv2 : Int32) (yo0 : cf_O) (n : Nat) : Prop := (∀ (v1 : Int32) (v2 : Int32) (v3 : Int32) (o0 : cf_O), (okO I_Fu o0) → (Fr (fr_M [] [] []) yo0 o0) → ((0 : Int) ≤ v1.toInt ∧ v1.toInt ≤ 417) → ((0 : Int) ≤ v2.toInt ∧ v2.toInt ≤ 417) → ((0 : Int) ≤ v3.toInt ∧ v3.toInt ≤ 4) → ((1 : Int) ≤ (o0.1 0).toInt ∧ (o0.1 0).toInt ≤ 1) → 0 + (4 - v3.toInt) * 2 < (n : Int) → tt (gFu_leastUnlike n 0 v1 v2 v3 o0) (QFu_leastUnlike yv1 yv2 yo0))
set_option maxHeartbeats 4000000 in
set_option maxRecDepth 100000 in
theorem tFu_leastUnlike_2 {yv1 : Int32} {yv2 : Int32} {yo0 : cf_O} {n : Nat} (H : HFu_leastUnlike yv1 yv2 yo0 n) (v1 : Int32) (v2 : Int32) (v3 : Int32) (o0 : cf_O) (k_o0 : okO I_Fu o0) (r_o0 : Fr (fr_M [] [] []) yo0 o0) (i_v1 : (0 : Int) ≤ v1.toInt ∧ v1.toInt ≤ 417) (i_v2 : (0 : Int) ≤ v2.toInt ∧ v2.toInt ≤ 417) (i_v3 : (0 : Int) ≤ v3.toInt ∧ v3.toInt ≤ 4) (f_o0_0 : (1 : Int) ≤ (o0.1 0).toInt ∧ (o0.1 0).toInt ≤ 1) (hm : 0 + (4 - v3.toInt) * 2 ≤ (n : Int)) : tt (fFu_leastUnlike_2 (gFu_leastUnlike n) v1 v2 v3 o0) (QFu_leastUnlike yv1 yv2 yo0) := by
  unfold fFu_leastUnlike_2
  refine tt_if (fun c1 => ?_) (fun c1 => ?_)
  · have i2 : (4 : Int) ≤ v3.toInt ∧ v3.toInt ≤ 4 := nr_ler c1 (show (4 : Int) ≤ (4 : Int32).toInt ∧ (4 : Int32).toInt ≤ 4 by decide) i_v3 (by decide) (by decide)
    exact tt_some ⟨(iv_w (a := (-1)) (b := 256) (by decide) (by decide) (show ((-1) : Int) ≤ ((-1) : Int32).toInt ∧ ((-1) : Int32).toInt ≤ (-1) by decide)), trivial⟩
  · have i3 : (0 : Int) ≤ v3.toInt ∧ v3.toInt ≤ 3 := nr_nlel c1 i_v3 (show (4 : Int) ≤ (4 : Int32).toInt ∧ (4 : Int32).toInt ≤ 4 by decide) (by decide) (by decide)
    refine tt_b (sFu_word _ _ _ k_o0 i_v1 i3) (fun q4 hq4 => ?_)
    refine tt_b (sFu_word _ _ _ k_o0 i_v2 i3) (fun q5 hq5 => ?_)
    refine tt_kl (fun x6 => ?_)
    refine tt_kv (P := fun z => ((-2147483648) : Int) ≤ z.toInt ∧ z.toInt ≤ 2147483647) (iv_top _) (fun x7 i8 => ?_)
    refine tt_if (fun c9 => ?_) (fun c9 => ?_)
    · have i10 : (0 : Int) ≤ x7.toInt ∧ x7.toInt ≤ 0 := nr_eql c9 i8 (show (0 : Int) ≤ (0 : Int32).toInt ∧ (0 : Int32).toInt ≤ 0 by decide) (by decide) (by decide)
      refine tt_kv (P := fun z => ((1 : Int) ≤ z.toInt ∧ z.toInt ≤ 4) ∧ z.toInt = v3.toInt + 1) ⟨iv_add i3 (show (1 : Int) ≤ (1 : Int32).toInt ∧ (1 : Int32).toInt ≤ 1 by decide) (by decide) (by decide) (by decide) (by decide), iq_add i3 (show (1 : Int) ≤ (1 : Int32).toInt ∧ (1 : Int32).toInt ≤ 1 by decide) (by decide) (by decide)⟩ (fun x11 qi12 => ?_)
      obtain ⟨i12, ei12⟩ := qi12
      exact H _ _ _ _ k_o0 r_o0 i_v1 i_v2 (iv_w (a := 0) (b := 4) (by decide) (by decide) i12) f_o0_0 (show 0 + (4 - x11.toInt) * 2 < (n : Int) by omega)
    · refine tt_kv (P := fun z => (0 : Int) ≤ z.toInt ∧ z.toInt ≤ 192) (iv_mul (show (64 : Int) ≤ (64 : Int32).toInt ∧ (64 : Int32).toInt ≤ 64 by decide) i3 (by decide) (by decide) (by decide) (by decide) (by decide)) (fun x13 i14 => ?_)
      refine tt_b (sJLong_numberOfTrailingZeros_J _ ) (fun q15 hq15 => ?_)
      obtain ⟨i_q15, -⟩ := hq15
      refine tt_kv (P := fun z => (0 : Int) ≤ z.toInt ∧ z.toInt ≤ 256) (iv_add i14 i_q15 (by decide) (by decide) (by decide) (by decide)) (fun x16 i17 => ?_)
      exact tt_some ⟨(iv_w (a := (-1)) (b := 256) (by decide) (by decide) i17), trivial⟩
set_option maxHeartbeats 4000000 in
set_option maxRecDepth 100000 in
theorem hFu_leastUnlike (yv1 : Int32) (yv2 : Int32) (yo0 : cf_O) : ∀ n, HFu_leastUnlike yv1 yv2 yo0 n := by
  intro n
  induction n with
  | zero => exact (fun v1 v2 v3 o0 k_o0 r_o0 i_v1 i_v2 i_v3 f_o0_0 hm => by exact absurd (show 0 + (4 - v3.toInt) * 2 < (0 : Int) from hm) (by omega))
  | succ n ih => exact (fun v1 v2 v3 o0 k_o0 r_o0 i_v1 i_v2 i_v3 f_o0_0 hm => tFu_leastUnlike_2 ih v1 v2 v3 o0 k_o0 r_o0 i_v1 i_v2 i_v3 f_o0_0 (by omega))
set_option maxHeartbeats 4000000 in
set_option maxRecDepth 100000 in
theorem sFu_leastUnlike (v1 : Int32) (v2 : Int32) (o0 : cf_O) (k_o0 : okO I_Fu o0) (i_v1 : (0 : Int) ≤ v1.toInt ∧ v1.toInt ≤ 417) (i_v2 : (0 : Int) ≤ v2.toInt ∧ v2.toInt ≤ 417) (f_o0_0 : (1 : Int) ≤ (o0.1 0).toInt ∧ (o0.1 0).toInt ≤ 1) : tt (fFu_leastUnlike v1 v2 o0) (QFu_leastUnlike v1 v2 o0) := by
  have H := hFu_leastUnlike v1 v2 o0 cfFU
  have hm : (11 : Int) ≤ (cfFU : Nat) := by decide
  have r_o0 : Fr (fr_M [] [] []) o0 o0 := fr_rfl
  unfold fFu_leastUnlike fFu_leastUnlike_0
  exact H _ _ _ _ k_o0 r_o0 i_v1 i_v2 (iv_w (a := 0) (b := 4) (by decide) (by decide) (show (0 : Int) ≤ (0 : Int32).toInt ∧ (0 : Int32).toInt ≤ 0 by decide)) f_o0_0 (show 0 + (4 - 0) * 2 < ((cfFU : Nat) : Int) by omega)
def QFu_areSame (v1 : Int32) (v2 : Int32) (o0 : cf_O) (r : (Int32)) : Prop := ((0 : Int) ≤ r.toInt ∧ r.toInt ≤ 1) ∧ True
set_option maxHeartbeats 4000000 in
set_option maxRecDepth 100000 in
theorem sFu_areSame (v1 : Int32) (v2 : Int32) (o0 : cf_O) (k_o0 : okO I_Fu o0) (i_v1 : (0 : Int) ≤ v1.toInt ∧ v1.toInt ≤ 417) (i_v2 : (0 : Int) ≤ v2.toInt ∧ v2.toInt ≤ 417) (f_o0_0 : (1 : Int) ≤ (o0.1 0).toInt ∧ (o0.1 0).toInt ≤ 1) : tt (fFu_areSame v1 v2 o0) (QFu_areSame v1 v2 o0) := by
  have r_o0 : Fr (fr_M [] [] []) o0 o0 := fr_rfl
  unfold fFu_areSame fFu_areSame_0
  refine tt_b (sFu_leastUnlike _ _ _ k_o0 i_v1 i_v2 f_o0_0) (fun q1 hq1 => ?_)
  obtain ⟨i_q1, -⟩ := hq1
  refine tt_if (fun c2 => ?_) (fun c2 => ?_)
  · have i3 : ((-1) : Int) ≤ q1.toInt ∧ q1.toInt ≤ (-1) := nr_eql c2 i_q1 (show ((-1) : Int) ≤ ((-1) : Int32).toInt ∧ ((-1) : Int32).toInt ≤ (-1) by decide) (by decide) (by decide)
    try unfold fFu_areSame_15
    refine tt_w (iv_b (show (1 : Int) ≤ (1 : Int32).toInt ∧ (1 : Int32).toInt ≤ 1 by decide) (by decide) (by decide)) ?_
    exact tt_some ⟨(iv_w (a := 0) (b := 1) (by decide) (by decide) (show (1 : Int) ≤ (1 : Int32).toInt ∧ (1 : Int32).toInt ≤ 1 by decide)), trivial⟩
  · have i4 : (0 : Int) ≤ q1.toInt ∧ q1.toInt ≤ 256 := nr_nela c2 i_q1 (show ((-1) : Int) ≤ ((-1) : Int32).toInt ∧ ((-1) : Int32).toInt ≤ (-1) by decide) (by decide) (by decide)
    try unfold fFu_areSame_15
    refine tt_w (iv_b (show (0 : Int) ≤ (0 : Int32).toInt ∧ (0 : Int32).toInt ≤ 0 by decide) (by decide) (by decide)) ?_
    exact tt_some ⟨(iv_w (a := 0) (b := 1) (by decide) (by decide) (show (0 : Int) ≤ (0 : Int32).toInt ∧ (0 : Int32).toInt ≤ 0 by decide)), trivial⟩
def QFu_ones (v1 : Int32) (v2 : Int32) (o0 : cf_O) (r : (Int32)) : Prop := True
def HFu_ones (yv1 : Int32) (yv2 : Int32) (yo0 : cf_O) (n : Nat) : Prop := (∀ (v1 : Int32) (v2 : Int32) (v3 : Int32) (v4 : Int32) (o0 : cf_O), (okO I_Fu o0) → (Fr (fr_M [] [] []) yo0 o0) → ((0 : Int) ≤ v1.toInt ∧ v1.toInt ≤ 417) → ((0 : Int) ≤ v2.toInt ∧ v2.toInt ≤ 8) → ((0 : Int) ≤ v4.toInt ∧ v4.toInt ≤ 4) → ((1 : Int) ≤ (o0.1 0).toInt ∧ (o0.1 0).toInt ≤ 1) → 0 + (4 - v4.toInt) * 2 < (n : Int) → tt (gFu_ones n 0 v1 v2 v3 v4 o0) (QFu_ones yv1 yv2 yo0))
set_option maxHeartbeats 4000000 in
set_option maxRecDepth 100000 in
theorem tFu_ones_5 {yv1 : Int32} {yv2 : Int32} {yo0 : cf_O} {n : Nat} (H : HFu_ones yv1 yv2 yo0 n) (v1 : Int32) (v2 : Int32) (v3 : Int32) (v4 : Int32) (o0 : cf_O) (k_o0 : okO I_Fu o0) (r_o0 : Fr (fr_M [] [] []) yo0 o0) (i_v1 : (0 : Int) ≤ v1.toInt ∧ v1.toInt ≤ 417) (i_v2 : (0 : Int) ≤ v2.toInt ∧ v2.toInt ≤ 8) (i_v4 : (0 : Int) ≤ v4.toInt ∧ v4.toInt ≤ 4) (f_o0_0 : (1 : Int) ≤ (o0.1 0).toInt ∧ (o0.1 0).toInt ≤ 1) (hm : 0 + (4 - v4.toInt) * 2 ≤ (n : Int)) : tt (fFu_ones_5 (gFu_ones n) v1 v2 v3 v4 o0) (QFu_ones yv1 yv2 yo0) := by
  unfold fFu_ones_5
  refine tt_if (fun c1 => ?_) (fun c1 => ?_)
  · have i2 : (4 : Int) ≤ v4.toInt ∧ v4.toInt ≤ 4 := nr_ler c1 (show (4 : Int) ≤ (4 : Int32).toInt ∧ (4 : Int32).toInt ≤ 4 by decide) i_v4 (by decide) (by decide)
    refine tt_kv (P := fun z => (0 : Int) ≤ z.toInt ∧ z.toInt ≤ 8) (iv_sub (show (8 : Int) ≤ (8 : Int32).toInt ∧ (8 : Int32).toInt ≤ 8 by decide) i_v2 (by decide) (by decide) (by decide) (by decide)) (fun x3 i4 => ?_)
    refine tt_kv (P := fun z => ((-2147483648) : Int) ≤ z.toInt ∧ z.toInt ≤ 2147483647) (iv_top _) (fun x5 i6 => ?_)
    exact tt_some trivial
  · have i7 : (0 : Int) ≤ v4.toInt ∧ v4.toInt ≤ 3 := nr_nlel c1 i_v4 (show (4 : Int) ≤ (4 : Int32).toInt ∧ (4 : Int32).toInt ≤ 4 by decide) (by decide) (by decide)
    refine tt_b (sFu_word _ _ _ k_o0 i_v1 i7) (fun q8 hq8 => ?_)
    refine tt_b (sJLong_bitCount_J _ ) (fun q9 hq9 => ?_)
    obtain ⟨i_q9, -⟩ := hq9
    refine tt_kv (P := fun z => ((-2147483648) : Int) ≤ z.toInt ∧ z.toInt ≤ 2147483647) (iv_top _) (fun x10 i11 => ?_)
    refine tt_kv (P := fun z => ((1 : Int) ≤ z.toInt ∧ z.toInt ≤ 4) ∧ z.toInt = v4.toInt + 1) ⟨iv_add i7 (show (1 : Int) ≤ (1 : Int32).toInt ∧ (1 : Int32).toInt ≤ 1 by decide) (by decide) (by decide) (by decide) (by decide), iq_add i7 (show (1 : Int) ≤ (1 : Int32).toInt ∧ (1 : Int32).toInt ≤ 1 by decide) (by decide) (by decide)⟩ (fun x12 qi13 => ?_)
    obtain ⟨i13, ei13⟩ := qi13
    exact H _ _ _ _ _ k_o0 r_o0 i_v1 i_v2 (iv_w (a := 0) (b := 4) (by decide) (by decide) i13) f_o0_0 (show 0 + (4 - x12.toInt) * 2 < (n : Int) by omega)
set_option maxHeartbeats 4000000 in
set_option maxRecDepth 100000 in
theorem hFu_ones (yv1 : Int32) (yv2 : Int32) (yo0 : cf_O) : ∀ n, HFu_ones yv1 yv2 yo0 n := by
  intro n
  induction n with
  | zero => exact (fun v1 v2 v3 v4 o0 k_o0 r_o0 i_v1 i_v2 i_v4 f_o0_0 hm => by exact absurd (show 0 + (4 - v4.toInt) * 2 < (0 : Int) from hm) (by omega))
  | succ n ih => exact (fun v1 v2 v3 v4 o0 k_o0 r_o0 i_v1 i_v2 i_v4 f_o0_0 hm => tFu_ones_5 ih v1 v2 v3 v4 o0 k_o0 r_o0 i_v1 i_v2 i_v4 f_o0_0 (by omega))
set_option maxHeartbeats 4000000 in
set_option maxRecDepth 100000 in
theorem sFu_ones (v1 : Int32) (v2 : Int32) (o0 : cf_O) (k_o0 : okO I_Fu o0) (i_v1 : (0 : Int) ≤ v1.toInt ∧ v1.toInt ≤ 417) (i_v2 : (0 : Int) ≤ v2.toInt ∧ v2.toInt ≤ 8) (f_o0_0 : (1 : Int) ≤ (o0.1 0).toInt ∧ (o0.1 0).toInt ≤ 1) : tt (fFu_ones v1 v2 o0) (QFu_ones v1 v2 o0) := by
  have H := hFu_ones v1 v2 o0 cfFU
  have hm : (11 : Int) ≤ (cfFU : Nat) := by decide
  have r_o0 : Fr (fr_M [] [] []) o0 o0 := fr_rfl
  unfold fFu_ones fFu_ones_0
  exact H _ _ _ _ _ k_o0 r_o0 i_v1 i_v2 (iv_w (a := 0) (b := 4) (by decide) (by decide) (show (0 : Int) ≤ (0 : Int32).toInt ∧ (0 : Int32).toInt ≤ 0 by decide)) f_o0_0 (show 0 + (4 - 0) * 2 < ((cfFU : Nat) : Int) by omega)
