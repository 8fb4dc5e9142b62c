def QAS_length (o0 : cf_O) (r : (Int32)) : Prop := ((0 : Int) ≤ r.toInt ∧ r.toInt ≤ 90000) ∧ (r.toInt = (o0.1 3).toInt) ∧ True
set_option maxHeartbeats 4000000 in
set_option maxRecDepth 100000 in
theorem sAS_length (o0 : cf_O) (k_o0 : okO I_SB o0) : tt (fAS_length o0) (QAS_length o0) := by
  have r_o0 : Fr (fr_M [] [] []) o0 o0 := fr_rfl
  unfold fAS_length fAS_length_0
  have g_o0_3 : (0 : Int) ≤ (o0.1 3).toInt ∧ (o0.1 3).toInt ≤ 90000 := k_o0.1 3
  exact tt_some ⟨(k_o0.1 3), (show (o0.1 3).toInt = (o0.1 3).toInt by omega), trivial⟩
def QSB_length (o0 : cf_O) (r : (Int32)) : Prop := ((0 : Int) ≤ r.toInt ∧ r.toInt ≤ 90000) ∧ (r.toInt = (o0.1 3).toInt) ∧ True
set_option maxHeartbeats 4000000 in
set_option maxRecDepth 100000 in
theorem sSB_length (o0 : cf_O) (k_o0 : okO I_SB o0) : tt (fSB_length o0) (QSB_length o0) := by
  have r_o0 : Fr (fr_M [] [] []) o0 o0 := fr_rfl
  unfold fSB_length fSB_length_0
  have g_o0_3 : (0 : Int) ≤ (o0.1 3).toInt ∧ (o0.1 3).toInt ≤ 90000 := k_o0.1 3
  refine tt_b (sAS_length _ k_o0) (fun q1 hq1 => ?_)
  obtain ⟨i_q1, zq1_0, -⟩ := hq1
  have zq1_0 : q1.toInt = (o0.1 3).toInt := zq1_0
  exact tt_some ⟨i_q1, (show q1.toInt = (o0.1 3).toInt by omega), trivial⟩
def QAS_charAt (v1 : Int32) (o0 : cf_O) (r : (Int32)) : Prop := ((0 : Int) ≤ r.toInt ∧ r.toInt ≤ 255) ∧ True
set_option maxHeartbeats 4000000 in
set_option maxRecDepth 100000 in
theorem sAS_charAt (v1 : Int32) (o0 : cf_O) (k_o0 : okO I_SB o0) (i_v1 : (0 : Int) ≤ v1.toInt ∧ v1.toInt ≤ 89999) (x_0 : (o0.1 3).toInt ≤ (o0.1 0).toInt) (x_1 : 0 ≤ v1.toInt) (x_2 : v1.toInt < (o0.1 3).toInt) : tt (fAS_charAt v1 o0) (QAS_charAt v1 o0) := by
  have r_o0 : Fr (fr_M [] [] []) o0 o0 := fr_rfl
  unfold fAS_charAt fAS_charAt_0
  have g_o0_0 : (16 : Int) ≤ (o0.1 0).toInt ∧ (o0.1 0).toInt ≤ 400000 := k_o0.1 0
  have g_o0_1 : (0 : Int) ≤ (o0.1 1).toInt ∧ (o0.1 1).toInt ≤ 0 := k_o0.1 1
  have g_o0_3 : (0 : Int) ≤ (o0.1 3).toInt ∧ (o0.1 3).toInt ≤ 90000 := k_o0.1 3
  refine tt_n (nz_ok (Int.le_trans (by decide) (k_o0.1 0).1)) ?_
  refine tt_kv (P := fun z => ((16 : Int) ≤ z.toInt ∧ z.toInt ≤ 400000) ∧ z.toInt = (o0.1 0).toInt) ⟨(k_o0.1 0), rfl⟩ (fun x1 qi2 => ?_)
  obtain ⟨i2, ei2⟩ := qi2
  refine tt_kv (P := fun z => ((16 : Int) ≤ z.toInt ∧ z.toInt ≤ 400000) ∧ z.toInt = x1.toInt) ⟨iv_shr (p := 0) (q := 0) i2 (k_o0.1 1) (by decide) (by decide) (by decide) (by decide), sh0r (k_o0.1 1)⟩ (fun x3 qi4 => ?_)
  obtain ⟨i4, ei4⟩ := qi4
  refine tt_kv (P := fun z => ((0 : Int) ≤ z.toInt ∧ z.toInt ≤ 90000) ∧ z.toInt = min (o0.1 3).toInt x3.toInt) ⟨iv_mn (k_o0.1 3) i4 (by decide) (by decide) (by decide) (by decide), i_mn _ _⟩ (fun x5 qi6 => ?_)
  obtain ⟨i6, ei6⟩ := qi6
  refine tt_b (sJString_checkIndex_II _ _ i_v1 i6 (show 0 ≤ v1.toInt by omega) (show v1.toInt < x5.toInt by omega)) (fun q7 hq7 => ?_)
  refine tt_if (fun c8 => ?_) (fun c8 => ?_)
  · have wc8 : (o0.1 1).toInt = (0 : Int) := c_eq c8
    refine tt_n (ix_v (x := v1) (l := (o0.1 0)) (by omega) (by omega)) ?_
    refine tt_kv (P := fun z => (((-128) : Int) ≤ z.toInt ∧ z.toInt ≤ 127) ∧ z.toInt = (o0.2.1 0 v1.toNatClampNeg).toInt) ⟨(k_o0.2 0 _), rfl⟩ (fun x9 qi10 => ?_)
    obtain ⟨i10, ei10⟩ := qi10
    refine tt_kv (P := fun z => (0 : Int) ≤ z.toInt ∧ z.toInt ≤ 255) (iv_and (show (255 : Int) ≤ (255 : Int32).toInt ∧ (255 : Int32).toInt ≤ 255 by decide) (by decide) (by decide) (by decide)) (fun x11 i12 => ?_)
    refine tt_kv (P := fun z => (0 : Int) ≤ z.toInt ∧ z.toInt ≤ 255) (iv_c16i i12 (by decide) (by decide)) (fun x13 i14 => ?_)
    refine tt_w (iv_nc i14 (by decide) (by decide)) ?_
    exact tt_some ⟨i14, trivial⟩
  · have wc8 : ¬ (o0.1 1).toInt = (0 : Int) := c_ne c8
    exact (dd_ne c8 (k_o0.1 1) (show (0 : Int) ≤ (0 : Int32).toInt ∧ (0 : Int32).toInt ≤ 0 by decide)).elim
def QSB_charAt (v1 : Int32) (o0 : cf_O) (r : (Int32)) : Prop := ((0 : Int) ≤ r.toInt ∧ r.toInt ≤ 255) ∧ True
set_option maxHeartbeats 4000000 in
set_option maxRecDepth 100000 in
theorem sSB_charAt (v1 : Int32) (o0 : cf_O) (k_o0 : okO I_SB o0) (i_v1 : (0 : Int) ≤ v1.toInt ∧ v1.toInt ≤ 89999) (x_0 : (o0.1 3).toInt ≤ (o0.1 0).toInt) (x_1 : 0 ≤ v1.toInt) (x_2 : v1.toInt < (o0.1 3).toInt) : tt (fSB_charAt v1 o0) (QSB_charAt v1 o0) := by
  have r_o0 : Fr (fr_M [] [] []) o0 o0 := fr_rfl
  unfold fSB_charAt fSB_charAt_0
  have g_o0_0 : (16 : Int) ≤ (o0.1 0).toInt ∧ (o0.1 0).toInt ≤ 400000 := k_o0.1 0
  have g_o0_1 : (0 : Int) ≤ (o0.1 1).toInt ∧ (o0.1 1).toInt ≤ 0 := k_o0.1 1
  have g_o0_3 : (0 : Int) ≤ (o0.1 3).toInt ∧ (o0.1 3).toInt ≤ 90000 := k_o0.1 3
  refine tt_b (sAS_charAt _ _ k_o0 i_v1 (show (o0.1 3).toInt ≤ (o0.1 0).toInt by omega) (show 0 ≤ v1.toInt by omega) (show v1.toInt < (o0.1 3).toInt by omega)) (fun q1 hq1 => ?_)
  obtain ⟨i_q1, -⟩ := hq1
  refine tt_w (iv_nc i_q1 (by decide) (by decide)) ?_
  exact tt_some ⟨i_q1, trivial⟩
def QSc_signAt (v1 : Int32) (o0 : cf_O) (o1 : cf_O) (r : (Int32)) : Prop := (((-1) : Int) ≤ r.toInt ∧ r.toInt ≤ 255) ∧ True
set_option maxHeartbeats 4000000 in
set_option maxRecDepth 100000 in
theorem sSc_signAt (v1 : Int32) (o0 : cf_O) (o1 : cf_O) (k_o0 : okO I_Sc o0) (k_o1 : okO I_SB o1) (i_v1 : (0 : Int) ≤ v1.toInt ∧ v1.toInt ≤ 2147483647) (f_o0_0 : (1 : Int) ≤ (o0.1 0).toInt ∧ (o0.1 0).toInt ≤ 1) (x_0 : (o1.1 3).toInt ≤ (o1.1 0).toInt) (x_1 : 0 ≤ v1.toInt) : tt (fSc_signAt v1 o0 o1) (QSc_signAt v1 o0 o1) := by
  have r_o0 : Fr (fr_M [] [] []) o0 o0 := fr_rfl
  have r_o1 : Fr (fr_M [] [] []) o1 o1 := fr_rfl
  unfold fSc_signAt fSc_signAt_0
  have g_o0_1 : (0 : Int) ≤ (o0.1 1).toInt ∧ (o0.1 1).toInt ≤ 0 := k_o0.1 1
  have g_o0_3 : (0 : Int) ≤ (o0.1 3).toInt ∧ (o0.1 3).toInt ≤ 0 := k_o0.1 3
  have g_o1_0 : (16 : Int) ≤ (o1.1 0).toInt ∧ (o1.1 0).toInt ≤ 400000 := k_o1.1 0
  have g_o1_1 : (0 : Int) ≤ (o1.1 1).toInt ∧ (o1.1 1).toInt ≤ 0 := k_o1.1 1
  have g_o1_3 : (0 : Int) ≤ (o1.1 3).toInt ∧ (o1.1 3).toInt ≤ 90000 := k_o1.1 3
  refine tt_b (sSB_length _ k_o1) (fun q1 hq1 => ?_)
  obtain ⟨i_q1, zq1_0, -⟩ := hq1
  have zq1_0 : q1.toInt = (o1.1 3).toInt := zq1_0
  refine tt_if (fun c2 => ?_) (fun c2 => ?_)
  · have wc2 : q1.toInt ≤ v1.toInt := c_le c2
    try unfold fSc_signAt_23
    exact tt_some ⟨(iv_w (a := (-1)) (b := 255) (by decide) (by decide) (show ((-1) : Int) ≤ ((-1) : Int32).toInt ∧ ((-1) : Int32).toInt ≤ (-1) by decide)), trivial⟩
  · have wc2 : v1.toInt < q1.toInt := c_nle c2
    have i3 : (0 : Int) ≤ v1.toInt ∧ v1.toInt ≤ 89999 := nr_nlel c2 i_v1 i_q1 (by decide) (by decide)
    have i4 : (1 : Int) ≤ q1.toInt ∧ q1.toInt ≤ 90000 := nr_nler c2 i_v1 i_q1 (by decide) (by decide)
    refine tt_b (sSB_charAt _ _ k_o1 i3 (show (o1.1 3).toInt ≤ (o1.1 0).toInt by omega) (show 0 ≤ v1.toInt by omega) (show v1.toInt < (o1.1 3).toInt by omega)) (fun q5 hq5 => ?_)
    obtain ⟨i_q5, -⟩ := hq5
    try unfold fSc_signAt_23
    exact tt_some ⟨(iv_w (a := (-1)) (b := 255) (by decide) (by decide) i_q5), trivial⟩
def QTx_isSign (v0 : Int32) (r : (Int32)) : Prop := ((0 : Int) ≤ r.toInt ∧ r.toInt ≤ 1) ∧ True
set_option maxHeartbeats 4000000 in
set_option maxRecDepth 100000 in
theorem sTx_isSign (v0 : Int32) (i_v0 : (1 : Int) ≤ v0.toInt ∧ v0.toInt ≤ 255) : tt (fTx_isSign v0) (QTx_isSign v0) := by
  unfold fTx_isSign fTx_isSign_0
  refine tt_if (fun c1 => ?_) (fun c1 => ?_)
  · have i2 : (10 : Int) ≤ v0.toInt ∧ v0.toInt ≤ 10 := nr_eql c1 i_v0 (show (10 : Int) ≤ (10 : Int32).toInt ∧ (10 : Int32).toInt ≤ 10 by decide) (by decide) (by decide)
    try unfold fTx_isSign_18
    try unfold fTx_isSign_23
    refine tt_w (iv_b (show (1 : Int) ≤ (1 : Int32).toInt ∧ (1 : Int32).toInt ≤ 1 by decide) (by decide) (by decide)) ?_
    exact tt_some ⟨(iv_w (a := 0) (b := 1) (by decide) (by decide) (show (1 : Int) ≤ (1 : Int32).toInt ∧ (1 : Int32).toInt ≤ 1 by decide)), trivial⟩
  · refine tt_if (fun c3 => ?_) (fun c3 => ?_)
    · have i4 : (1 : Int) ≤ v0.toInt ∧ v0.toInt ≤ 31 := nr_ltl c3 i_v0 (show (32 : Int) ≤ (32 : Int32).toInt ∧ (32 : Int32).toInt ≤ 32 by decide) (by decide) (by decide)
      try unfold fTx_isSign_22
      try unfold fTx_isSign_23
      refine tt_w (iv_b (show (0 : Int) ≤ (0 : Int32).toInt ∧ (0 : Int32).toInt ≤ 0 by decide) (by decide) (by decide)) ?_
      exact tt_some ⟨(iv_w (a := 0) (b := 1) (by decide) (by decide) (show (0 : Int) ≤ (0 : Int32).toInt ∧ (0 : Int32).toInt ≤ 0 by decide)), trivial⟩
    · have i5 : (32 : Int) ≤ v0.toInt ∧ v0.toInt ≤ 255 := nr_nltr c3 (show (32 : Int) ≤ (32 : Int32).toInt ∧ (32 : Int32).toInt ≤ 32 by decide) i_v0 (by decide) (by decide)
      refine tt_if (fun c6 => ?_) (fun c6 => ?_)
      · have i7 : (127 : Int) ≤ v0.toInt ∧ v0.toInt ≤ 255 := nr_ltr c6 (show (126 : Int) ≤ (126 : Int32).toInt ∧ (126 : Int32).toInt ≤ 126 by decide) i5 (by decide) (by decide)
        try unfold fTx_isSign_22
        try unfold fTx_isSign_23
        refine tt_w (iv_b (show (0 : Int) ≤ (0 : Int32).toInt ∧ (0 : Int32).toInt ≤ 0 by decide) (by decide) (by decide)) ?_
        exact tt_some ⟨(iv_w (a := 0) (b := 1) (by decide) (by decide) (show (0 : Int) ≤ (0 : Int32).toInt ∧ (0 : Int32).toInt ≤ 0 by decide)), trivial⟩
      · have i8 : (32 : Int) ≤ v0.toInt ∧ v0.toInt ≤ 126 := nr_nltl c6 i5 (show (126 : Int) ≤ (126 : Int32).toInt ∧ (126 : Int32).toInt ≤ 126 by decide) (by decide) (by decide)
        try unfold fTx_isSign_18
        try unfold fTx_isSign_23
        refine tt_w (iv_b (show (1 : Int) ≤ (1 : Int32).toInt ∧ (1 : Int32).toInt ≤ 1 by decide) (by decide) (by decide)) ?_
        exact tt_some ⟨(iv_w (a := 0) (b := 1) (by decide) (by decide) (show (1 : Int) ≤ (1 : Int32).toInt ∧ (1 : Int32).toInt ≤ 1 by decide)), trivial⟩
def QTx_add (v1 : Int32) (o0 : cf_O) (r : (cf_O)) : Prop := (okO I_Tx r) ∧ (Fr (fr_M [3] [0] []) o0 r) ∧ True
set_option maxHeartbeats 4000000 in
set_option maxRecDepth 100000 in
theorem sTx_add (v1 : Int32) (o0 : cf_O) (k_o0 : okO I_Tx o0) (i_v1 : (0 : Int) ≤ v1.toInt ∧ v1.toInt ≤ 255) : tt (fTx_add v1 o0) (QTx_add v1 o0) := by
  have r_o0 : Fr (fr_M [3] [0] []) o0 o0 := fr_rfl
  unfold fTx_add fTx_add_0
  refine tt_if (fun c1 => ?_) (fun c1 => ?_)
  · have i2 : (0 : Int) ≤ v1.toInt ∧ v1.toInt ≤ 0 := nr_eql c1 i_v1 (show (0 : Int) ≤ (0 : Int32).toInt ∧ (0 : Int32).toInt ≤ 0 by decide) (by decide) (by decide)
    try unfold fTx_add_35
    exact tt_some ⟨k_o0, r_o0, trivial⟩
  · have i3 : (1 : Int) ≤ v1.toInt ∧ v1.toInt ≤ 255 := nr_nela c1 i_v1 (show (0 : Int) ≤ (0 : Int32).toInt ∧ (0 : Int32).toInt ≤ 0 by decide) (by decide) (by decide)
    refine tt_if (fun c4 => ?_) (fun c4 => ?_)
    · have i5 : (1600 : Int) ≤ (o0.1 3).toInt ∧ (o0.1 3).toInt ≤ 1600 := nr_ler c4 (show (1600 : Int) ≤ (1600 : Int32).toInt ∧ (1600 : Int32).toInt ≤ 1600 by decide) (k_o0.1 3) (by decide) (by decide)
      try unfold fTx_add_35
      exact tt_some ⟨k_o0, r_o0, trivial⟩
    · have i6 : (0 : Int) ≤ (o0.1 3).toInt ∧ (o0.1 3).toInt ≤ 1599 := nr_nlel c4 (k_o0.1 3) (show (1600 : Int) ≤ (1600 : Int32).toInt ∧ (1600 : Int32).toInt ≤ 1600 by decide) (by decide) (by decide)
      refine tt_kv (P := fun z => ((-128) : Int) ≤ z.toInt ∧ z.toInt ≤ 127) (iv_i8 _) (fun x7 i8 => ?_)
      refine tt_n (ix_ok i6 (by decide) (by decide)) ?_
      refine tt_ko ?_
      have k9 := ok_xp (k := 0) (i := (o0.1 3).toNatClampNeg) (v := (vp_nar .byte x7)) k_o0 (iv_nby _)
      have r10 := fr_xp (k := 0) (i := (o0.1 3).toNatClampNeg) (v := (vp_nar .byte x7)) r_o0 rfl
      refine tt_kv (P := fun z => ((1 : Int) ≤ z.toInt ∧ z.toInt ≤ 1600) ∧ z.toInt = (o0.1 3).toInt + 1) ⟨iv_add i6 (show (1 : Int) ≤ (1 : Int32).toInt ∧ (1 : Int32).toInt ≤ 1 by decide) (by decide) (by decide) (by decide) (by decide), iq_add i6 (show (1 : Int) ≤ (1 : Int32).toInt ∧ (1 : Int32).toInt ≤ 1 by decide) (by decide) (by decide)⟩ (fun x11 qi12 => ?_)
      obtain ⟨i12, ei12⟩ := qi12
      refine tt_ko ?_
      have k13 := ok_fp (k := 3) (v := x11) k9 (iv_w (a := 0) (b := 1600) (by decide) (by decide) i12)
      have r14 := fr_fp (k := 3) (v := x11) r10 rfl
      try unfold fTx_add_35
      exact tt_some ⟨k13, r14, trivial⟩
def QF_put (v1 : Int32) (o0 : cf_O) (o1 : cf_O) (r : (Int32 × cf_O × cf_O)) : Prop := ((0 : Int) ≤ r.1.toInt ∧ r.1.toInt ≤ 1600) ∧ (okO I_F r.2.1) ∧ (Fr (fr_M [30] [] []) o0 r.2.1) ∧ (okO I_Tx r.2.2) ∧ (Fr (fr_M [3] [0] []) o1 r.2.2) ∧ ((r.2.1.1 30).toInt = 0 ∨ (r.2.1.1 30).toInt = 1 ∨ (r.2.1.1 30).toInt = 4) ∧ True
def HF_put (yv1 : Int32) (yo0 : cf_O) (yo1 : cf_O) (n : Nat) : Prop := (∀ (v1 : Int32) (v2 : Int32) (v3 : Int32) (o0 : cf_O) (o1 : cf_O), (okO I_F o0) → (Fr (fr_M [30] [] []) yo0 o0) → (okO I_Tx o1) → (Fr (fr_M [3] [0] []) yo1 o1) → ((0 : Int) ≤ v3.toInt ∧ v3.toInt ≤ 4) → 10 + (4 - v3.toInt) * 2 < (n : Int) → tt (gF_put n 0 v1 v2 v3 o0 o1) (QF_put yv1 yo0 yo1)) ∧ (∀ (v1 : Int32) (v3 : Int32) (o0 : cf_O) (o1 : cf_O), (okO I_F o0) → (Fr (fr_M [30] [] []) yo0 o0) → (okO I_Tx o1) → (Fr (fr_M [3] [0] []) yo1 o1) → ((0 : Int) ≤ v3.toInt ∧ v3.toInt ≤ 4) → 0 + (4 - v3.toInt) * 2 < (n : Int) → tt (gF_put n 1 v1 0 v3 o0 o1) (QF_put yv1 yo0 yo1))
set_option maxHeartbeats 4000000 in
set_option maxRecDepth 100000 in
theorem tF_put_86 {yv1 : Int32} {yo0 : cf_O} {yo1 : cf_O} {n : Nat} (H : HF_put yv1 yo0 yo1 n) (v1 : Int32) (v3 : Int32) (o0 : cf_O) (o1 : cf_O) (k_o0 : okO I_F o0) (r_o0 : Fr (fr_M [30] [] []) yo0 o0) (k_o1 : okO I_Tx o1) (r_o1 : Fr (fr_M [3] [0] []) yo1 o1) (i_v3 : (0 : Int) ≤ v3.toInt ∧ v3.toInt ≤ 4) (hm : 0 + (4 - v3.toInt) * 2 ≤ (n : Int)) : tt (fF_put_86 (gF_put n) v1 v3 o0 o1) (QF_put yv1 yo0 yo1) := by
  unfold fF_put_86
  have i_v1 := iv_top v1
  have g_o0_0 : (0 : Int) ≤ (o0.1 0).toInt ∧ (o0.1 0).toInt ≤ 0 := k_o0.1 0
  have ey_o0_0 : (o0.1 0).toInt = (yo0.1 0).toInt := congrArg Int32.toInt (r_o0.1 0 rfl)
  have g_o0_1 : (0 : Int) ≤ (o0.1 1).toInt ∧ (o0.1 1).toInt ≤ 0 := k_o0.1 1
  have ey_o0_1 : (o0.1 1).toInt = (yo0.1 1).toInt := congrArg Int32.toInt (r_o0.1 1 rfl)
  have g_o0_2 : (0 : Int) ≤ (o0.1 2).toInt ∧ (o0.1 2).toInt ≤ 0 := k_o0.1 2
  have ey_o0_2 : (o0.1 2).toInt = (yo0.1 2).toInt := congrArg Int32.toInt (r_o0.1 2 rfl)
  have g_o0_3 : (0 : Int) ≤ (o0.1 3).toInt ∧ (o0.1 3).toInt ≤ 0 := k_o0.1 3
  have ey_o0_3 : (o0.1 3).toInt = (yo0.1 3).toInt := congrArg Int32.toInt (r_o0.1 3 rfl)
  have g_o0_4 : (0 : Int) ≤ (o0.1 4).toInt ∧ (o0.1 4).toInt ≤ 0 := k_o0.1 4
  have ey_o0_4 : (o0.1 4).toInt = (yo0.1 4).toInt := congrArg Int32.toInt (r_o0.1 4 rfl)
  have g_o0_5 : (0 : Int) ≤ (o0.1 5).toInt ∧ (o0.1 5).toInt ≤ 0 := k_o0.1 5
  have ey_o0_5 : (o0.1 5).toInt = (yo0.1 5).toInt := congrArg Int32.toInt (r_o0.1 5 rfl)
  have g_o0_16 : (0 : Int) ≤ (o0.1 16).toInt ∧ (o0.1 16).toInt ≤ 1 := k_o0.1 16
  have ey_o0_16 : (o0.1 16).toInt = (yo0.1 16).toInt := congrArg Int32.toInt (r_o0.1 16 rfl)
  have g_o0_17 : (0 : Int) ≤ (o0.1 17).toInt ∧ (o0.1 17).toInt ≤ 1 := k_o0.1 17
  have ey_o0_17 : (o0.1 17).toInt = (yo0.1 17).toInt := congrArg Int32.toInt (r_o0.1 17 rfl)
  have g_o0_18 : (0 : Int) ≤ (o0.1 18).toInt ∧ (o0.1 18).toInt ≤ 1 := k_o0.1 18
  have ey_o0_18 : (o0.1 18).toInt = (yo0.1 18).toInt := congrArg Int32.toInt (r_o0.1 18 rfl)
  have g_o0_30 : (0 : Int) ≤ (o0.1 30).toInt ∧ (o0.1 30).toInt ≤ 4 := k_o0.1 30
  have g_o1_0 : (0 : Int) ≤ (o1.1 0).toInt ∧ (o1.1 0).toInt ≤ 0 := k_o1.1 0
  have ey_o1_0 : (o1.1 0).toInt = (yo1.1 0).toInt := congrArg Int32.toInt (r_o1.1 0 rfl)
  have g_o1_1 : (0 : Int) ≤ (o1.1 1).toInt ∧ (o1.1 1).toInt ≤ 0 := k_o1.1 1
  have ey_o1_1 : (o1.1 1).toInt = (yo1.1 1).toInt := congrArg Int32.toInt (r_o1.1 1 rfl)
  have g_o1_2 : (0 : Int) ≤ (o1.1 2).toInt ∧ (o1.1 2).toInt ≤ 0 := k_o1.1 2
  have ey_o1_2 : (o1.1 2).toInt = (yo1.1 2).toInt := congrArg Int32.toInt (r_o1.1 2 rfl)
  have g_o1_3 : (0 : Int) ≤ (o1.1 3).toInt ∧ (o1.1 3).toInt ≤ 1600 := k_o1.1 3
  have g_o1_4 : ((-1) : Int) ≤ (o1.1 4).toInt ∧ (o1.1 4).toInt ≤ 1602 := k_o1.1 4
  have ey_o1_4 : (o1.1 4).toInt = (yo1.1 4).toInt := congrArg Int32.toInt (r_o1.1 4 rfl)
  have g_o1_5 : (0 : Int) ≤ (o1.1 5).toInt ∧ (o1.1 5).toInt ≤ 10 := k_o1.1 5
  have ey_o1_5 : (o1.1 5).toInt = (yo1.1 5).toInt := congrArg Int32.toInt (r_o1.1 5 rfl)
  have g_o1_16 : (0 : Int) ≤ (o1.1 16).toInt ∧ (o1.1 16).toInt ≤ 0 := k_o1.1 16
  have ey_o1_16 : (o1.1 16).toInt = (yo1.1 16).toInt := congrArg Int32.toInt (r_o1.1 16 rfl)
  have g_o1_17 : (0 : Int) ≤ (o1.1 17).toInt ∧ (o1.1 17).toInt ≤ 0 := k_o1.1 17
  have ey_o1_17 : (o1.1 17).toInt = (yo1.1 17).toInt := congrArg Int32.toInt (r_o1.1 17 rfl)
  have g_o1_18 : (0 : Int) ≤ (o1.1 18).toInt ∧ (o1.1 18).toInt ≤ 0 := k_o1.1 18
  have ey_o1_18 : (o1.1 18).toInt = (yo1.1 18).toInt := congrArg Int32.toInt (r_o1.1 18 rfl)
  have g_o1_30 : (0 : Int) ≤ (o1.1 30).toInt ∧ (o1.1 30).toInt ≤ 0 := k_o1.1 30
  have ey_o1_30 : (o1.1 30).toInt = (yo1.1 30).toInt := congrArg Int32.toInt (r_o1.1 30 rfl)
  refine tt_if (fun c1 => ?_) (fun c1 => ?_)
  · have wc1 : (4 : Int) ≤ v3.toInt := c_le c1
    have i2 : (4 : Int) ≤ v3.toInt ∧ v3.toInt ≤ 4 := nr_ler c1 (show (4 : Int) ≤ (4 : Int32).toInt ∧ (4 : Int32).toInt ≤ 4 by decide) i_v3 (by decide) (by decide)
    have k3 := ok_fp (k := 30) (v := 0) k_o0 (iv_w (a := 0) (b := 4) (by decide) (by decide) (show (0 : Int) ≤ (0 : Int32).toInt ∧ (0 : Int32).toInt ≤ 0 by decide))
    have r4 := fr_fp (k := 30) (v := 0) r_o0 rfl
    exact tt_some ⟨(k_o1.1 3), k3, r4, k_o1, r_o1, (show 0 = 0 ∨ 0 = 1 ∨ 0 = 4 by omega), trivial⟩
  · have wc1 : v3.toInt < (4 : Int) := c_nle c1
    have i5 : (0 : Int) ≤ v3.toInt ∧ v3.toInt ≤ 3 := nr_nlel c1 i_v3 (show (4 : Int) ≤ (4 : Int32).toInt ∧ (4 : Int32).toInt ≤ 4 by decide) (by decide) (by decide)
    refine tt_kv (P := fun z => ((0 : Int) ≤ z.toInt ∧ z.toInt ≤ 24) ∧ z.toInt = 8 * v3.toInt) ⟨iv_mul (show (8 : Int) ≤ (8 : Int32).toInt ∧ (8 : Int32).toInt ≤ 8 by decide) i5 (by decide) (by decide) (by decide) (by decide) (by decide), iq_mul (show (8 : Int) ≤ (8 : Int32).toInt ∧ (8 : Int32).toInt ≤ 8 by decide) i5 (by decide) (by decide) (by decide) (by decide)⟩ (fun x6 qi7 => ?_)
    obtain ⟨i7, ei7⟩ := qi7
    refine tt_kv (P := fun z => ((-2147483648) : Int) ≤ z.toInt ∧ z.toInt ≤ 2147483647) (iv_top _) (fun x8 i9 => ?_)
    refine tt_kv (P := fun z => (0 : Int) ≤ z.toInt ∧ z.toInt ≤ 255) (iv_and (show (255 : Int) ≤ (255 : Int32).toInt ∧ (255 : Int32).toInt ≤ 255 by decide) (by decide) (by decide) (by decide)) (fun x10 i11 => ?_)
    refine tt_b (sTx_add _ _ k_o1 i11) (fun q12 hq12 => ?_)
    obtain ⟨k_q12, n_q12, -⟩ := hq12
    have r_q12 := fr_tr r_o1 n_q12 rfl rfl rfl
    have e_q12_0 : (q12.1 0).toInt = (o1.1 0).toInt := congrArg Int32.toInt (n_q12.1 0 rfl)
    have g_q12_0 : (0 : Int) ≤ (q12.1 0).toInt ∧ (q12.1 0).toInt ≤ 0 := k_q12.1 0
    have e_q12_1 : (q12.1 1).toInt = (o1.1 1).toInt := congrArg Int32.toInt (n_q12.1 1 rfl)
    have g_q12_1 : (0 : Int) ≤ (q12.1 1).toInt ∧ (q12.1 1).toInt ≤ 0 := k_q12.1 1
    have e_q12_2 : (q12.1 2).toInt = (o1.1 2).toInt := congrArg Int32.toInt (n_q12.1 2 rfl)
    have g_q12_2 : (0 : Int) ≤ (q12.1 2).toInt ∧ (q12.1 2).toInt ≤ 0 := k_q12.1 2
    have g_q12_3 : (0 : Int) ≤ (q12.1 3).toInt ∧ (q12.1 3).toInt ≤ 1600 := k_q12.1 3
    have e_q12_4 : (q12.1 4).toInt = (o1.1 4).toInt := congrArg Int32.toInt (n_q12.1 4 rfl)
    have g_q12_4 : ((-1) : Int) ≤ (q12.1 4).toInt ∧ (q12.1 4).toInt ≤ 1602 := k_q12.1 4
    have e_q12_5 : (q12.1 5).toInt = (o1.1 5).toInt := congrArg Int32.toInt (n_q12.1 5 rfl)
    have g_q12_5 : (0 : Int) ≤ (q12.1 5).toInt ∧ (q12.1 5).toInt ≤ 10 := k_q12.1 5
    have e_q12_16 : (q12.1 16).toInt = (o1.1 16).toInt := congrArg Int32.toInt (n_q12.1 16 rfl)
    have g_q12_16 : (0 : Int) ≤ (q12.1 16).toInt ∧ (q12.1 16).toInt ≤ 0 := k_q12.1 16
    have e_q12_17 : (q12.1 17).toInt = (o1.1 17).toInt := congrArg Int32.toInt (n_q12.1 17 rfl)
    have g_q12_17 : (0 : Int) ≤ (q12.1 17).toInt ∧ (q12.1 17).toInt ≤ 0 := k_q12.1 17
    have e_q12_18 : (q12.1 18).toInt = (o1.1 18).toInt := congrArg Int32.toInt (n_q12.1 18 rfl)
    have g_q12_18 : (0 : Int) ≤ (q12.1 18).toInt ∧ (q12.1 18).toInt ≤ 0 := k_q12.1 18
    have e_q12_30 : (q12.1 30).toInt = (o1.1 30).toInt := congrArg Int32.toInt (n_q12.1 30 rfl)
    have g_q12_30 : (0 : Int) ≤ (q12.1 30).toInt ∧ (q12.1 30).toInt ≤ 0 := k_q12.1 30
    try unfold fF_put_108
    refine tt_kv (P := fun z => ((1 : Int) ≤ z.toInt ∧ z.toInt ≤ 4) ∧ z.toInt = v3.toInt + 1) ⟨iv_add i5 (show (1 : Int) ≤ (1 : Int32).toInt ∧ (1 : Int32).toInt ≤ 1 by decide) (by decide) (by decide) (by decide) (by decide), iq_add i5 (show (1 : Int) ≤ (1 : Int32).toInt ∧ (1 : Int32).toInt ≤ 1 by decide) (by decide) (by decide)⟩ (fun x13 qi14 => ?_)
    obtain ⟨i14, ei14⟩ := qi14
    exact H.2 _ _ _ _ k_o0 r_o0 k_q12 r_q12 (iv_w (a := 0) (b := 4) (by decide) (by decide) i14) (show 0 + (4 - x13.toInt) * 2 < (n : Int) by omega)
set_option maxHeartbeats 4000000 in
set_option maxRecDepth 100000 in
theorem tF_put_4 {yv1 : Int32} {yo0 : cf_O} {yo1 : cf_O} {n : Nat} (H : HF_put yv1 yo0 yo1 n) (v1 : Int32) (v2 : Int32) (v3 : Int32) (o0 : cf_O) (o1 : cf_O) (k_o0 : okO I_F o0) (r_o0 : Fr (fr_M [30] [] []) yo0 o0) (k_o1 : okO I_Tx o1) (r_o1 : Fr (fr_M [3] [0] []) yo1 o1) (i_v3 : (0 : Int) ≤ v3.toInt ∧ v3.toInt ≤ 4) (hm : 10 + (4 - v3.toInt) * 2 ≤ (n : Int)) : tt (fF_put_4 (gF_put n) v1 v2 v3 o0 o1) (QF_put yv1 yo0 yo1) := by
  unfold fF_put_4
  have i_v1 := iv_top v1
  have i_v2 := iv_top v2
  have g_o0_0 : (0 : Int) ≤ (o0.1 0).toInt ∧ (o0.1 0).toInt ≤ 0 := k_o0.1 0
  have ey_o0_0 : (o0.1 0).toInt = (yo0.1 0).toInt := congrArg Int32.toInt (r_o0.1 0 rfl)
  have g_o0_1 : (0 : Int) ≤ (o0.1 1).toInt ∧ (o0.1 1).toInt ≤ 0 := k_o0.1 1
  have ey_o0_1 : (o0.1 1).toInt = (yo0.1 1).toInt := congrArg Int32.toInt (r_o0.1 1 rfl)
  have g_o0_2 : (0 : Int) ≤ (o0.1 2).toInt ∧ (o0.1 2).toInt ≤ 0 := k_o0.1 2
  have ey_o0_2 : (o0.1 2).toInt = (yo0.1 2).toInt := congrArg Int32.toInt (r_o0.1 2 rfl)
  have g_o0_3 : (0 : Int) ≤ (o0.1 3).toInt ∧ (o0.1 3).toInt ≤ 0 := k_o0.1 3
  have ey_o0_3 : (o0.1 3).toInt = (yo0.1 3).toInt := congrArg Int32.toInt (r_o0.1 3 rfl)
  have g_o0_4 : (0 : Int) ≤ (o0.1 4).toInt ∧ (o0.1 4).toInt ≤ 0 := k_o0.1 4
  have ey_o0_4 : (o0.1 4).toInt = (yo0.1 4).toInt := congrArg Int32.toInt (r_o0.1 4 rfl)
  have g_o0_5 : (0 : Int) ≤ (o0.1 5).toInt ∧ (o0.1 5).toInt ≤ 0 := k_o0.1 5
  have ey_o0_5 : (o0.1 5).toInt = (yo0.1 5).toInt := congrArg Int32.toInt (r_o0.1 5 rfl)
  have g_o0_16 : (0 : Int) ≤ (o0.1 16).toInt ∧ (o0.1 16).toInt ≤ 1 := k_o0.1 16
  have ey_o0_16 : (o0.1 16).toInt = (yo0.1 16).toInt := congrArg Int32.toInt (r_o0.1 16 rfl)
  have g_o0_17 : (0 : Int) ≤ (o0.1 17).toInt ∧ (o0.1 17).toInt ≤ 1 := k_o0.1 17
  have ey_o0_17 : (o0.1 17).toInt = (yo0.1 17).toInt := congrArg Int32.toInt (r_o0.1 17 rfl)
  have g_o0_18 : (0 : Int) ≤ (o0.1 18).toInt ∧ (o0.1 18).toInt ≤ 1 := k_o0.1 18
  have ey_o0_18 : (o0.1 18).toInt = (yo0.1 18).toInt := congrArg Int32.toInt (r_o0.1 18 rfl)
  have g_o0_30 : (0 : Int) ≤ (o0.1 30).toInt ∧ (o0.1 30).toInt ≤ 4 := k_o0.1 30
  have g_o1_0 : (0 : Int) ≤ (o1.1 0).toInt ∧ (o1.1 0).toInt ≤ 0 := k_o1.1 0
  have ey_o1_0 : (o1.1 0).toInt = (yo1.1 0).toInt := congrArg Int32.toInt (r_o1.1 0 rfl)
  have g_o1_1 : (0 : Int) ≤ (o1.1 1).toInt ∧ (o1.1 1).toInt ≤ 0 := k_o1.1 1
  have ey_o1_1 : (o1.1 1).toInt = (yo1.1 1).toInt := congrArg Int32.toInt (r_o1.1 1 rfl)
  have g_o1_2 : (0 : Int) ≤ (o1.1 2).toInt ∧ (o1.1 2).toInt ≤ 0 := k_o1.1 2
  have ey_o1_2 : (o1.1 2).toInt = (yo1.1 2).toInt := congrArg Int32.toInt (r_o1.1 2 rfl)
  have g_o1_3 : (0 : Int) ≤ (o1.1 3).toInt ∧ (o1.1 3).toInt ≤ 1600 := k_o1.1 3
  have g_o1_4 : ((-1) : Int) ≤ (o1.1 4).toInt ∧ (o1.1 4).toInt ≤ 1602 := k_o1.1 4
  have ey_o1_4 : (o1.1 4).toInt = (yo1.1 4).toInt := congrArg Int32.toInt (r_o1.1 4 rfl)
  have g_o1_5 : (0 : Int) ≤ (o1.1 5).toInt ∧ (o1.1 5).toInt ≤ 10 := k_o1.1 5
  have ey_o1_5 : (o1.1 5).toInt = (yo1.1 5).toInt := congrArg Int32.toInt (r_o1.1 5 rfl)
  have g_o1_16 : (0 : Int) ≤ (o1.1 16).toInt ∧ (o1.1 16).toInt ≤ 0 := k_o1.1 16
  have ey_o1_16 : (o1.1 16).toInt = (yo1.1 16).toInt := congrArg Int32.toInt (r_o1.1 16 rfl)
  have g_o1_17 : (0 : Int) ≤ (o1.1 17).toInt ∧ (o1.1 17).toInt ≤ 0 := k_o1.1 17
  have ey_o1_17 : (o1.1 17).toInt = (yo1.1 17).toInt := congrArg Int32.toInt (r_o1.1 17 rfl)
  have g_o1_18 : (0 : Int) ≤ (o1.1 18).toInt ∧ (o1.1 18).toInt ≤ 0 := k_o1.1 18
  have ey_o1_18 : (o1.1 18).toInt = (yo1.1 18).toInt := congrArg Int32.toInt (r_o1.1 18 rfl)
  have g_o1_30 : (0 : Int) ≤ (o1.1 30).toInt ∧ (o1.1 30).toInt ≤ 0 := k_o1.1 30
  have ey_o1_30 : (o1.1 30).toInt = (yo1.1 30).toInt := congrArg Int32.toInt (r_o1.1 30 rfl)
  refine tt_if (fun c1 => ?_) (fun c1 => ?_)
  · have wc1 : (4 : Int) ≤ v3.toInt := c_le c1
    have i2 : (4 : Int) ≤ v3.toInt ∧ v3.toInt ≤ 4 := nr_ler c1 (show (4 : Int) ≤ (4 : Int32).toInt ∧ (4 : Int32).toInt ≤ 4 by decide) i_v3 (by decide) (by decide)
    refine tt_kv (P := fun z => ((-2147483648) : Int) ≤ z.toInt ∧ z.toInt ≤ 2147483647) (iv_top _) (fun x3 i4 => ?_)
    refine tt_if (fun c5 => ?_) (fun c5 => ?_)
    · have wc5 : x3.toInt ≤ (1600 : Int) := c_le c5
      have i6 : ((-2147483648) : Int) ≤ x3.toInt ∧ x3.toInt ≤ 1600 := nr_lel c5 i4 (show (1600 : Int) ≤ (1600 : Int32).toInt ∧ (1600 : Int32).toInt ≤ 1600 by decide) (by decide) (by decide)
      exact H.2 _ _ _ _ k_o0 r_o0 k_o1 r_o1 (iv_w (a := 0) (b := 4) (by decide) (by decide) (show (0 : Int) ≤ (0 : Int32).toInt ∧ (0 : Int32).toInt ≤ 0 by decide)) (show 0 + (4 - 0) * 2 < (n : Int) by omega)
    · have wc5 : (1600 : Int) < x3.toInt := c_nle c5
      have i7 : (1601 : Int) ≤ x3.toInt ∧ x3.toInt ≤ 2147483647 := nr_nler c5 (show (1600 : Int) ≤ (1600 : Int32).toInt ∧ (1600 : Int32).toInt ≤ 1600 by decide) i4 (by decide) (by decide)
      have k8 := ok_fp (k := 30) (v := 4) k_o0 (iv_w (a := 0) (b := 4) (by decide) (by decide) (show (4 : Int) ≤ (4 : Int32).toInt ∧ (4 : Int32).toInt ≤ 4 by decide))
      have r9 := fr_fp (k := 30) (v := 4) r_o0 rfl
      exact tt_some ⟨(iv_w (a := 0) (b := 1600) (by decide) (by decide) (show (0 : Int) ≤ (0 : Int32).toInt ∧ (0 : Int32).toInt ≤ 0 by decide)), k8, r9, k_o1, r_o1, (show 4 = 0 ∨ 4 = 1 ∨ 4 = 4 by omega), trivial⟩
  · have wc1 : v3.toInt < (4 : Int) := c_nle c1
    have i10 : (0 : Int) ≤ v3.toInt ∧ v3.toInt ≤ 3 := nr_nlel c1 i_v3 (show (4 : Int) ≤ (4 : Int32).toInt ∧ (4 : Int32).toInt ≤ 4 by decide) (by decide) (by decide)
    refine tt_kv (P := fun z => ((0 : Int) ≤ z.toInt ∧ z.toInt ≤ 24) ∧ z.toInt = 8 * v3.toInt) ⟨iv_mul (show (8 : Int) ≤ (8 : Int32).toInt ∧ (8 : Int32).toInt ≤ 8 by decide) i10 (by decide) (by decide) (by decide) (by decide) (by decide), iq_mul (show (8 : Int) ≤ (8 : Int32).toInt ∧ (8 : Int32).toInt ≤ 8 by decide) i10 (by decide) (by decide) (by decide) (by decide)⟩ (fun x11 qi12 => ?_)
    obtain ⟨i12, ei12⟩ := qi12
    refine tt_kv (P := fun z => ((-2147483648) : Int) ≤ z.toInt ∧ z.toInt ≤ 2147483647) (iv_top _) (fun x13 i14 => ?_)
    refine tt_kv (P := fun z => (0 : Int) ≤ z.toInt ∧ z.toInt ≤ 255) (iv_and (show (255 : Int) ≤ (255 : Int32).toInt ∧ (255 : Int32).toInt ≤ 255 by decide) (by decide) (by decide) (by decide)) (fun x15 i16 => ?_)
    refine tt_if (fun c17 => ?_) (fun c17 => ?_)
    · have wc17 : x15.toInt = (0 : Int) := c_eq c17
      have i18 : (0 : Int) ≤ x15.toInt ∧ x15.toInt ≤ 0 := nr_eql c17 i16 (show (0 : Int) ≤ (0 : Int32).toInt ∧ (0 : Int32).toInt ≤ 0 by decide) (by decide) (by decide)
      try unfold fF_put_42
      refine tt_if (fun c19 => ?_) (fun c19 => ?_)
      · have wc19 : x15.toInt = (0 : Int) := c_eq c19
        try unfold fF_put_53
        refine tt_kv (P := fun z => ((-2147483648) : Int) ≤ z.toInt ∧ z.toInt ≤ 2147483647) (iv_add (iv_top v2) (show (0 : Int) ≤ (0 : Int32).toInt ∧ (0 : Int32).toInt ≤ 0 by decide) (by decide) (by decide) (by decide) (by decide)) (fun x20 i21 => ?_)
        refine tt_kv (P := fun z => ((1 : Int) ≤ z.toInt ∧ z.toInt ≤ 4) ∧ z.toInt = v3.toInt + 1) ⟨iv_add i10 (show (1 : Int) ≤ (1 : Int32).toInt ∧ (1 : Int32).toInt ≤ 1 by decide) (by decide) (by decide) (by decide) (by decide), iq_add i10 (show (1 : Int) ≤ (1 : Int32).toInt ∧ (1 : Int32).toInt ≤ 1 by decide) (by decide) (by decide)⟩ (fun x22 qi23 => ?_)
        obtain ⟨i23, ei23⟩ := qi23
        exact H.1 _ _ _ _ _ k_o0 r_o0 k_o1 r_o1 (iv_w (a := 0) (b := 4) (by decide) (by decide) i23) (show 10 + (4 - x22.toInt) * 2 < (n : Int) by omega)
      · have wc19 : ¬ x15.toInt = (0 : Int) := c_ne c19
        exact (dd_ne c19 i18 (show (0 : Int) ≤ (0 : Int32).toInt ∧ (0 : Int32).toInt ≤ 0 by decide)).elim
    · have wc17 : ¬ x15.toInt = (0 : Int) := c_ne c17
      have i24 : (1 : Int) ≤ x15.toInt ∧ x15.toInt ≤ 255 := nr_nela c17 i16 (show (0 : Int) ≤ (0 : Int32).toInt ∧ (0 : Int32).toInt ≤ 0 by decide) (by decide) (by decide)
      refine tt_b (sTx_isSign _ i24) (fun q25 hq25 => ?_)
      obtain ⟨i_q25, -⟩ := hq25
      try unfold fF_put_31
      refine tt_if (fun c26 => ?_) (fun c26 => ?_)
      · have wc26 : q25.toInt = (0 : Int) := c_eq c26
        have i27 : (0 : Int) ≤ q25.toInt ∧ q25.toInt ≤ 0 := nr_eql c26 i_q25 (show (0 : Int) ≤ (0 : Int32).toInt ∧ (0 : Int32).toInt ≤ 0 by decide) (by decide) (by decide)
        have k28 := ok_fp (k := 30) (v := 1) k_o0 (iv_w (a := 0) (b := 4) (by decide) (by decide) (show (1 : Int) ≤ (1 : Int32).toInt ∧ (1 : Int32).toInt ≤ 1 by decide))
        have r29 := fr_fp (k := 30) (v := 1) r_o0 rfl
        exact tt_some ⟨(iv_w (a := 0) (b := 1600) (by decide) (by decide) (show (0 : Int) ≤ (0 : Int32).toInt ∧ (0 : Int32).toInt ≤ 0 by decide)), k28, r29, k_o1, r_o1, (show 1 = 0 ∨ 1 = 1 ∨ 1 = 4 by omega), trivial⟩
      · have wc26 : ¬ q25.toInt = (0 : Int) := c_ne c26
        have i30 : (1 : Int) ≤ q25.toInt ∧ q25.toInt ≤ 1 := nr_nela c26 i_q25 (show (0 : Int) ≤ (0 : Int32).toInt ∧ (0 : Int32).toInt ≤ 0 by decide) (by decide) (by decide)
        try unfold fF_put_42
        refine tt_if (fun c31 => ?_) (fun c31 => ?_)
        · have wc31 : x15.toInt = (0 : Int) := c_eq c31
          exact (dd_eq c31 i24 (show (0 : Int) ≤ (0 : Int32).toInt ∧ (0 : Int32).toInt ≤ 0 by decide) (by decide)).elim
        · have wc31 : ¬ x15.toInt = (0 : Int) := c_ne c31
          try unfold fF_put_53
          refine tt_kv (P := fun z => ((-2147483648) : Int) ≤ z.toInt ∧ z.toInt ≤ 2147483647) (iv_top _) (fun x32 i33 => ?_)
          refine tt_kv (P := fun z => ((1 : Int) ≤ z.toInt ∧ z.toInt ≤ 4) ∧ z.toInt = v3.toInt + 1) ⟨iv_add i10 (show (1 : Int) ≤ (1 : Int32).toInt ∧ (1 : Int32).toInt ≤ 1 by decide) (by decide) (by decide) (by decide) (by decide), iq_add i10 (show (1 : Int) ≤ (1 : Int32).toInt ∧ (1 : Int32).toInt ≤ 1 by decide) (by decide) (by decide)⟩ (fun x34 qi35 => ?_)
          obtain ⟨i35, ei35⟩ := qi35
          exact H.1 _ _ _ _ _ k_o0 r_o0 k_o1 r_o1 (iv_w (a := 0) (b := 4) (by decide) (by decide) i35) (show 10 + (4 - x34.toInt) * 2 < (n : Int) by omega)
set_option maxHeartbeats 4000000 in
set_option maxRecDepth 100000 in
theorem hF_put (yv1 : Int32) (yo0 : cf_O) (yo1 : cf_O) : ∀ n, HF_put yv1 yo0 yo1 n := by
  intro n
  induction n with
  | zero => exact ⟨(fun v1 v2 v3 o0 o1 k_o0 r_o0 k_o1 r_o1 i_v3 hm => by exact absurd (show 10 + (4 - v3.toInt) * 2 < (0 : Int) from hm) (by omega)), (fun v1 v3 o0 o1 k_o0 r_o0 k_o1 r_o1 i_v3 hm => by exact absurd (show 0 + (4 - v3.toInt) * 2 < (0 : Int) from hm) (by omega))⟩
  | succ n ih => exact ⟨(fun v1 v2 v3 o0 o1 k_o0 r_o0 k_o1 r_o1 i_v3 hm => tF_put_4 ih v1 v2 v3 o0 o1 k_o0 r_o0 k_o1 r_o1 i_v3 (by omega)), (fun v1 v3 o0 o1 k_o0 r_o0 k_o1 r_o1 i_v3 hm => tF_put_86 ih v1 v3 o0 o1 k_o0 r_o0 k_o1 r_o1 i_v3 (by omega))⟩
set_option maxHeartbeats 4000000 in
set_option maxRecDepth 100000 in
theorem sF_put (v1 : Int32) (o0 : cf_O) (o1 : cf_O) (k_o0 : okO I_F o0) (k_o1 : okO I_Tx o1) : tt (fF_put v1 o0 o1) (QF_put v1 o0 o1) := by
  have H := hF_put v1 o0 o1 cfFU
  have hm : (21 : Int) ≤ (cfFU : Nat) := by decide
  have r_o0 : Fr (fr_M [30] [] []) o0 o0 := fr_rfl
  have r_o1 : Fr (fr_M [3] [0] []) o1 o1 := fr_rfl
  unfold fF_put fF_put_0
  have i_v1 := iv_top v1
  have g_o0_0 : (0 : Int) ≤ (o0.1 0).toInt ∧ (o0.1 0).toInt ≤ 0 := k_o0.1 0
  have g_o0_1 : (0 : Int) ≤ (o0.1 1).toInt ∧ (o0.1 1).toInt ≤ 0 := k_o0.1 1
  have g_o0_2 : (0 : Int) ≤ (o0.1 2).toInt ∧ (o0.1 2).toInt ≤ 0 := k_o0.1 2
  have g_o0_3 : (0 : Int) ≤ (o0.1 3).toInt ∧ (o0.1 3).toInt ≤ 0 := k_o0.1 3
  have g_o0_4 : (0 : Int) ≤ (o0.1 4).toInt ∧ (o0.1 4).toInt ≤ 0 := k_o0.1 4
  have g_o0_5 : (0 : Int) ≤ (o0.1 5).toInt ∧ (o0.1 5).toInt ≤ 0 := k_o0.1 5
  have g_o0_16 : (0 : Int) ≤ (o0.1 16).toInt ∧ (o0.1 16).toInt ≤ 1 := k_o0.1 16
  have g_o0_17 : (0 : Int) ≤ (o0.1 17).toInt ∧ (o0.1 17).toInt ≤ 1 := k_o0.1 17
  have g_o0_18 : (0 : Int) ≤ (o0.1 18).toInt ∧ (o0.1 18).toInt ≤ 1 := k_o0.1 18
  have g_o0_30 : (0 : Int) ≤ (o0.1 30).toInt ∧ (o0.1 30).toInt ≤ 4 := k_o0.1 30
  have g_o1_0 : (0 : Int) ≤ (o1.1 0).toInt ∧ (o1.1 0).toInt ≤ 0 := k_o1.1 0
  have g_o1_1 : (0 : Int) ≤ (o1.1 1).toInt ∧ (o1.1 1).toInt ≤ 0 := k_o1.1 1
  have g_o1_2 : (0 : Int) ≤ (o1.1 2).toInt ∧ (o1.1 2).toInt ≤ 0 := k_o1.1 2
  have g_o1_3 : (0 : Int) ≤ (o1.1 3).toInt ∧ (o1.1 3).toInt ≤ 1600 := k_o1.1 3
  have g_o1_4 : ((-1) : Int) ≤ (o1.1 4).toInt ∧ (o1.1 4).toInt ≤ 1602 := k_o1.1 4
  have g_o1_5 : (0 : Int) ≤ (o1.1 5).toInt ∧ (o1.1 5).toInt ≤ 10 := k_o1.1 5
  have g_o1_16 : (0 : Int) ≤ (o1.1 16).toInt ∧ (o1.1 16).toInt ≤ 0 := k_o1.1 16
  have g_o1_17 : (0 : Int) ≤ (o1.1 17).toInt ∧ (o1.1 17).toInt ≤ 0 := k_o1.1 17
  have g_o1_18 : (0 : Int) ≤ (o1.1 18).toInt ∧ (o1.1 18).toInt ≤ 0 := k_o1.1 18
  have g_o1_30 : (0 : Int) ≤ (o1.1 30).toInt ∧ (o1.1 30).toInt ≤ 0 := k_o1.1 30
  exact H.1 _ _ _ _ _ k_o0 r_o0 k_o1 r_o1 (iv_w (a := 0) (b := 4) (by decide) (by decide) (show (0 : Int) ≤ (0 : Int32).toInt ∧ (0 : Int32).toInt ≤ 0 by decide)) (show 10 + (4 - 0) * 2 < ((cfFU : Nat) : Int) by omega)
def QF_end (v1 : Int32) (o0 : cf_O) (o1 : cf_O) (r : (cf_O × cf_O)) : Prop := (okO I_F r.1) ∧ (Fr (fr_M [30] [] []) o0 r.1) ∧ ((0 : Int) ≤ (r.1.1 30).toInt ∧ (r.1.1 30).toInt ≤ 1) ∧ (okO I_Tx r.2) ∧ (Fr (fr_M [3] [] []) o1 r.2) ∧ ((r.1.1 30).toInt = 0 ∨ (r.1.1 30).toInt = 1) ∧ True
set_option maxHeartbeats 4000000 in
set_option maxRecDepth 100000 in
theorem sF_end (v1 : Int32) (o0 : cf_O) (o1 : cf_O) (k_o0 : okO I_F o0) (k_o1 : okO I_Tx o1) : tt (fF_end v1 o0 o1) (QF_end v1 o0 o1) := by
  have r_o0 : Fr (fr_M [30] [] []) o0 o0 := fr_rfl
  have r_o1 : Fr (fr_M [3] [] []) o1 o1 := fr_rfl
  unfold fF_end fF_end_0
  have i_v1 := iv_top v1
  have g_o0_0 : (0 : Int) ≤ (o0.1 0).toInt ∧ (o0.1 0).toInt ≤ 0 := k_o0.1 0
  have g_o0_1 : (0 : Int) ≤ (o0.1 1).toInt ∧ (o0.1 1).toInt ≤ 0 := k_o0.1 1
  have g_o0_2 : (0 : Int) ≤ (o0.1 2).toInt ∧ (o0.1 2).toInt ≤ 0 := k_o0.1 2
  have g_o0_3 : (0 : Int) ≤ (o0.1 3).toInt ∧ (o0.1 3).toInt ≤ 0 := k_o0.1 3
  have g_o0_4 : (0 : Int) ≤ (o0.1 4).toInt ∧ (o0.1 4).toInt ≤ 0 := k_o0.1 4
  have g_o0_5 : (0 : Int) ≤ (o0.1 5).toInt ∧ (o0.1 5).toInt ≤ 0 := k_o0.1 5
  have g_o0_16 : (0 : Int) ≤ (o0.1 16).toInt ∧ (o0.1 16).toInt ≤ 1 := k_o0.1 16
  have g_o0_17 : (0 : Int) ≤ (o0.1 17).toInt ∧ (o0.1 17).toInt ≤ 1 := k_o0.1 17
  have g_o0_18 : (0 : Int) ≤ (o0.1 18).toInt ∧ (o0.1 18).toInt ≤ 1 := k_o0.1 18
  have g_o0_30 : (0 : Int) ≤ (o0.1 30).toInt ∧ (o0.1 30).toInt ≤ 4 := k_o0.1 30
  have g_o1_0 : (0 : Int) ≤ (o1.1 0).toInt ∧ (o1.1 0).toInt ≤ 0 := k_o1.1 0
  have g_o1_1 : (0 : Int) ≤ (o1.1 1).toInt ∧ (o1.1 1).toInt ≤ 0 := k_o1.1 1
  have g_o1_2 : (0 : Int) ≤ (o1.1 2).toInt ∧ (o1.1 2).toInt ≤ 0 := k_o1.1 2
  have g_o1_3 : (0 : Int) ≤ (o1.1 3).toInt ∧ (o1.1 3).toInt ≤ 1600 := k_o1.1 3
  have g_o1_4 : ((-1) : Int) ≤ (o1.1 4).toInt ∧ (o1.1 4).toInt ≤ 1602 := k_o1.1 4
  have g_o1_5 : (0 : Int) ≤ (o1.1 5).toInt ∧ (o1.1 5).toInt ≤ 10 := k_o1.1 5
  have g_o1_16 : (0 : Int) ≤ (o1.1 16).toInt ∧ (o1.1 16).toInt ≤ 0 := k_o1.1 16
  have g_o1_17 : (0 : Int) ≤ (o1.1 17).toInt ∧ (o1.1 17).toInt ≤ 0 := k_o1.1 17
  have g_o1_18 : (0 : Int) ≤ (o1.1 18).toInt ∧ (o1.1 18).toInt ≤ 0 := k_o1.1 18
  have g_o1_30 : (0 : Int) ≤ (o1.1 30).toInt ∧ (o1.1 30).toInt ≤ 0 := k_o1.1 30
  refine tt_if (fun c1 => ?_) (fun c1 => ?_)
  · have wc1 : v1.toInt < (0 : Int) := c_lt c1
    have i2 : ((-2147483648) : Int) ≤ v1.toInt ∧ v1.toInt ≤ (-1) := nr_ltl c1 (iv_top v1) (show (0 : Int) ≤ (0 : Int32).toInt ∧ (0 : Int32).toInt ≤ 0 by decide) (by decide) (by decide)
    try unfold fF_end_15
    have k3 := ok_fp (k := 30) (v := 1) k_o0 (iv_w (a := 0) (b := 4) (by decide) (by decide) (show (1 : Int) ≤ (1 : Int32).toInt ∧ (1 : Int32).toInt ≤ 1 by decide))
    have r4 := fr_fp (k := 30) (v := 1) r_o0 rfl
    exact tt_some ⟨k3, r4, (iv_w (a := 0) (b := 1) (by decide) (by decide) (show (1 : Int) ≤ (1 : Int32).toInt ∧ (1 : Int32).toInt ≤ 1 by decide)), k_o1, r_o1, (show 1 = 0 ∨ 1 = 1 by omega), trivial⟩
  · have wc1 : (0 : Int) ≤ v1.toInt := c_nlt c1
    have i5 : (0 : Int) ≤ v1.toInt ∧ v1.toInt ≤ 2147483647 := nr_nltr c1 (show (0 : Int) ≤ (0 : Int32).toInt ∧ (0 : Int32).toInt ≤ 0 by decide) (iv_top v1) (by decide) (by decide)
    refine tt_if (fun c6 => ?_) (fun c6 => ?_)
    · have wc6 : v1.toInt ≤ (o1.1 3).toInt := c_le c6
      have i7 : (0 : Int) ≤ v1.toInt ∧ v1.toInt ≤ 1600 := nr_lel c6 i5 (k_o1.1 3) (by decide) (by decide)
      refine tt_ko ?_
      have k8 := ok_fp (k := 3) (v := v1) k_o1 i7
      have r9 := fr_fp (k := 3) (v := v1) r_o1 rfl
      have k10 := ok_fp (k := 30) (v := 0) k_o0 (iv_w (a := 0) (b := 4) (by decide) (by decide) (show (0 : Int) ≤ (0 : Int32).toInt ∧ (0 : Int32).toInt ≤ 0 by decide))
      have r11 := fr_fp (k := 30) (v := 0) r_o0 rfl
      exact tt_some ⟨k10, r11, (iv_w (a := 0) (b := 1) (by decide) (by decide) (show (0 : Int) ≤ (0 : Int32).toInt ∧ (0 : Int32).toInt ≤ 0 by decide)), k8, r9, (show 0 = 0 ∨ 0 = 1 by omega), trivial⟩
    · have wc6 : (o1.1 3).toInt < v1.toInt := c_nle c6
      have i12 : (1 : Int) ≤ v1.toInt ∧ v1.toInt ≤ 2147483647 := nr_nler c6 (k_o1.1 3) i5 (by decide) (by decide)
      try unfold fF_end_15
      have k13 := ok_fp (k := 30) (v := 1) k_o0 (iv_w (a := 0) (b := 4) (by decide) (by decide) (show (1 : Int) ≤ (1 : Int32).toInt ∧ (1 : Int32).toInt ≤ 1 by decide))
      have r14 := fr_fp (k := 30) (v := 1) r_o0 rfl
      exact tt_some ⟨k13, r14, (iv_w (a := 0) (b := 1) (by decide) (by decide) (show (1 : Int) ≤ (1 : Int32).toInt ∧ (1 : Int32).toInt ≤ 1 by decide)), k_o1, r_o1, (show 1 = 0 ∨ 1 = 1 by omega), trivial⟩
def QF_takeSpareNodes (o0 : cf_O) (o1 : cf_O) (o2 : cf_O) (r : (cf_O × cf_O × cf_O)) : Prop := (okO I_F r.1) ∧ (Fr (fr_M [17, 18, 30] [] []) o0 r.1) ∧ ((0 : Int) ≤ (r.1.1 17).toInt ∧ (r.1.1 17).toInt ≤ 0) ∧ ((0 : Int) ≤ (r.1.1 18).toInt ∧ (r.1.1 18).toInt ≤ 0) ∧ ((0 : Int) ≤ (r.1.1 30).toInt ∧ (r.1.1 30).toInt ≤ 0) ∧ (okO I_Fu r.2.1) ∧ (Fr (fr_M [0] [] []) o1 r.2.1) ∧ ((0 : Int) ≤ (r.2.1.1 0).toInt ∧ (r.2.1.1 0).toInt ≤ 0) ∧ (okO I_Cu r.2.2) ∧ (Fr (fr_M [0] [] []) o2 r.2.2) ∧ ((0 : Int) ≤ (r.2.2.1 0).toInt ∧ (r.2.2.1 0).toInt ≤ 0) ∧ ((r.1.1 17).toInt = 0) ∧ ((r.1.1 18).toInt = 0) ∧ ((r.2.2.1 0).toInt = 0) ∧ ((r.1.1 30).toInt = 0) ∧ True
set_option maxHeartbeats 4000000 in
set_option maxRecDepth 100000 in
theorem sF_takeSpareNodes (o0 : cf_O) (o1 : cf_O) (o2 : cf_O) (k_o0 : okO I_F o0) (k_o1 : okO I_Fu o1) (k_o2 : okO I_Cu o2) : tt (fF_takeSpareNodes o0 o1 o2) (QF_takeSpareNodes o0 o1 o2) := by
  have r_o0 : Fr (fr_M [17, 18, 30] [] []) o0 o0 := fr_rfl
  have r_o1 : Fr (fr_M [0] [] []) o1 o1 := fr_rfl
  have r_o2 : Fr (fr_M [0] [] []) o2 o2 := fr_rfl
  unfold fF_takeSpareNodes fF_takeSpareNodes_0
  have g_o0_0 : (0 : Int) ≤ (o0.1 0).toInt ∧ (o0.1 0).toInt ≤ 0 := k_o0.1 0
  have g_o0_17 : (0 : Int) ≤ (o0.1 17).toInt ∧ (o0.1 17).toInt ≤ 1 := k_o0.1 17
  have g_o0_18 : (0 : Int) ≤ (o0.1 18).toInt ∧ (o0.1 18).toInt ≤ 1 := k_o0.1 18
  have g_o0_30 : (0 : Int) ≤ (o0.1 30).toInt ∧ (o0.1 30).toInt ≤ 4 := k_o0.1 30
  have g_o1_0 : (0 : Int) ≤ (o1.1 0).toInt ∧ (o1.1 0).toInt ≤ 1 := k_o1.1 0
  have g_o1_17 : (0 : Int) ≤ (o1.1 17).toInt ∧ (o1.1 17).toInt ≤ 0 := k_o1.1 17
  have g_o1_18 : (0 : Int) ≤ (o1.1 18).toInt ∧ (o1.1 18).toInt ≤ 0 := k_o1.1 18
  have g_o1_30 : (0 : Int) ≤ (o1.1 30).toInt ∧ (o1.1 30).toInt ≤ 0 := k_o1.1 30
  have g_o2_0 : ((-2147483648) : Int) ≤ (o2.1 0).toInt ∧ (o2.1 0).toInt ≤ 2147483647 := k_o2.1 0
  have g_o2_17 : (0 : Int) ≤ (o2.1 17).toInt ∧ (o2.1 17).toInt ≤ 0 := k_o2.1 17
  have g_o2_18 : (0 : Int) ≤ (o2.1 18).toInt ∧ (o2.1 18).toInt ≤ 0 := k_o2.1 18
  have g_o2_30 : (0 : Int) ≤ (o2.1 30).toInt ∧ (o2.1 30).toInt ≤ 0 := k_o2.1 30
  refine tt_ko ?_
  have k1 := ok_fp (k := 0) (v := 0) k_o1 (iv_w (a := 0) (b := 1) (by decide) (by decide) (show (0 : Int) ≤ (0 : Int32).toInt ∧ (0 : Int32).toInt ≤ 0 by decide))
  have r2 := fr_fp (k := 0) (v := 0) r_o1 rfl
  refine tt_ko ?_
  have k3 := ok_fp (k := 0) (v := 0) k_o2 (iv_w (a := (-2147483648)) (b := 2147483647) (by decide) (by decide) (show (0 : Int) ≤ (0 : Int32).toInt ∧ (0 : Int32).toInt ≤ 0 by decide))
  have r4 := fr_fp (k := 0) (v := 0) r_o2 rfl
  refine tt_ko ?_
  have k5 := ok_fp (k := 17) (v := 0) k_o0 (iv_w (a := 0) (b := 1) (by decide) (by decide) (show (0 : Int) ≤ (0 : Int32).toInt ∧ (0 : Int32).toInt ≤ 0 by decide))
  have r6 := fr_fp (k := 17) (v := 0) r_o0 rfl
  refine tt_ko ?_
  have k7 := ok_fp (k := 18) (v := 0) k5 (iv_w (a := 0) (b := 1) (by decide) (by decide) (show (0 : Int) ≤ (0 : Int32).toInt ∧ (0 : Int32).toInt ≤ 0 by decide))
  have r8 := fr_fp (k := 18) (v := 0) r6 rfl
  have k9 := ok_fp (k := 30) (v := 0) k7 (iv_w (a := 0) (b := 4) (by decide) (by decide) (show (0 : Int) ≤ (0 : Int32).toInt ∧ (0 : Int32).toInt ≤ 0 by decide))
  have r10 := fr_fp (k := 30) (v := 0) r8 rfl
  exact tt_some ⟨k9, r10, (show (0 : Int) ≤ (0 : Int32).toInt ∧ (0 : Int32).toInt ≤ 0 by decide), (show (0 : Int) ≤ (0 : Int32).toInt ∧ (0 : Int32).toInt ≤ 0 by decide), (show (0 : Int) ≤ (0 : Int32).toInt ∧ (0 : Int32).toInt ≤ 0 by decide), k1, r2, (show (0 : Int) ≤ (0 : Int32).toInt ∧ (0 : Int32).toInt ≤ 0 by decide), k3, r4, (show (0 : Int) ≤ (0 : Int32).toInt ∧ (0 : Int32).toInt ≤ 0 by decide), (show 0 = 0 by omega), (show 0 = 0 by omega), (show 0 = 0 by omega), (show 0 = 0 by omega), trivial⟩
def QF_read (o0 : cf_O) (o1 : cf_O) (o2 : cf_O) (o3 : cf_O) (o4 : cf_O) (o5 : cf_O) (o6 : cf_O) (o7 : cf_O) (r : (Int32 × cf_O × cf_O × cf_O × cf_O × cf_O × cf_O × cf_O × cf_O)) : Prop := ((0 : Int) ≤ r.1.toInt ∧ r.1.toInt ≤ 4) ∧ (okO I_F r.2.1) ∧ (okO I_Tx r.2.2.1) ∧ (okO I_Fu r.2.2.2.1) ∧ (okO I_Cu r.2.2.2.2.1) ∧ (okO I_Nl r.2.2.2.2.2.1) ∧ (okO I_Nl r.2.2.2.2.2.2.1) ∧ (okO I_Gr r.2.2.2.2.2.2.2.1) ∧ (okO I_Gr r.2.2.2.2.2.2.2.2) ∧ (Gx ((r.2.2.2.2.2.2.2.1.1 0).toInt + 1) (r.2.2.2.2.2.2.2.1.1 2).toInt (sh ((r.2.2.2.2.2.2.2.1.1 0).toInt + 1) (r.2.2.2.2.2.2.2.1.2.1 4)) (sh ((r.2.2.2.2.2.2.2.1.1 0).toInt + 1) (r.2.2.2.2.2.2.2.1.2.1 5))) ∧ (No (r.2.2.2.2.2.2.2.1.1 1).toInt (((r.2.2.2.2.2.2.2.1.1 0).toInt + 1) + (r.2.2.2.2.2.2.2.1.1 2).toInt) (r.2.2.2.2.2.2.2.1.2.1 7)) ∧ (Fqs (r.2.2.2.2.1.1 0).toInt (r.2.2.2.2.2.2.2.1.1 0).toInt (((r.2.2.2.2.2.2.2.1.1 0).toInt + 1) + (r.2.2.2.2.2.2.2.1.1 2).toInt) (r.2.2.2.2.1.1 3).toInt (r.2.2.2.2.1.2.1 2) (r.2.2.2.2.1.2.1 1) (r.2.2.2.2.1.2.2 4)) ∧ (Rcf (r.2.2.2.2.1.1 0).toInt (r.2.2.2.2.1.1 3).toInt (r.2.2.2.2.2.2.2.1.1 0).toInt (((r.2.2.2.2.2.2.2.1.1 0).toInt + 1) + (r.2.2.2.2.2.2.2.1.1 2).toInt) (r.2.2.2.2.2.2.2.1.2.1 4) (r.2.2.2.2.2.2.2.1.2.1 5) (r.2.2.2.2.1.2.1 2) (r.2.2.2.2.1.2.2 4)) ∧ ((r.2.2.2.2.1.1 3).toInt ≤ (r.2.2.2.2.1.1 4).toInt) ∧ ((r.2.2.2.2.1.1 4).toInt = (r.2.2.2.2.1.1 5).toInt) ∧ (Rwo (r.2.2.2.2.2.1.2.1 12)) ∧ (Rwo (r.2.2.2.2.2.2.1.2.1 12)) ∧ ((r.2.1.1 17).toInt = 0 ∨ (r.2.1.1 17).toInt = (o0.1 17).toInt) ∧ ((r.2.1.1 18).toInt = 0 ∨ (r.2.1.1 18).toInt = (o0.1 18).toInt) ∧ ((r.2.1.1 30).toInt = 0 ∨ (r.2.1.1 30).toInt = 4) ∧ (((r.2.2.1.1 3) = (o1.1 3) ∧ (r.2.2.1.2.1 0) = (o1.2.1 0))) ∧ True
set_option maxHeartbeats 4000000 in
set_option maxRecDepth 100000 in
theorem sF_read (o0 : cf_O) (o1 : cf_O) (o2 : cf_O) (o3 : cf_O) (o4 : cf_O) (o5 : cf_O) (o6 : cf_O) (o7 : cf_O) (k_o0 : okO I_F o0) (k_o1 : okO I_Tx o1) (k_o2 : okO I_Fu o2) (k_o3 : okO I_Cu o3) (k_o4 : okO I_Nl o4) (k_o5 : okO I_Nl o5) (k_o6 : okO I_Gr o6) (k_o7 : okO I_Gr o7) (x_0 : Gx ((o6.1 0).toInt + 1) (o6.1 2).toInt (sh ((o6.1 0).toInt + 1) (o6.2.1 4)) (sh ((o6.1 0).toInt + 1) (o6.2.1 5))) (x_1 : No (o6.1 1).toInt (((o6.1 0).toInt + 1) + (o6.1 2).toInt) (o6.2.1 7)) (x_2 : Fqs (o3.1 0).toInt (o6.1 0).toInt (((o6.1 0).toInt + 1) + (o6.1 2).toInt) (o3.1 3).toInt (o3.2.1 2) (o3.2.1 1) (o3.2.2 4)) (x_3 : Rcf (o3.1 0).toInt (o3.1 3).toInt (o6.1 0).toInt (((o6.1 0).toInt + 1) + (o6.1 2).toInt) (o6.2.1 4) (o6.2.1 5) (o3.2.1 2) (o3.2.2 4)) (x_4 : (o3.1 3).toInt ≤ (o3.1 4).toInt) (x_5 : (o3.1 4).toInt = (o3.1 5).toInt) (x_6 : Rwo (o4.2.1 12)) (x_7 : Rwo (o5.2.1 12)) : tt (fF_read o0 o1 o2 o3 o4 o5 o6 o7) (QF_read o0 o1 o2 o3 o4 o5 o6 o7) := by
  have r_o0 : Fr (fr_M [15, 16, 17, 18, 30] [] []) o0 o0 := fr_rfl
  have r_o1 : Fr (fr_M [4, 5, 6] [1, 2] []) o1 o1 := fr_rfl
  have r_o2 : Fr (fr_M [0] [] []) o2 o2 := fr_rfl
  have r_o3 : Fr (fr_M [0] [] []) o3 o3 := fr_rfl
  have r_o4 : Fr (fr_M [] [] []) o4 o4 := fr_rfl
  have r_o5 : Fr (fr_M [0, 1, 2, 5, 6] [8, 9, 10, 11, 12, 13, 14, 15, 16] [3, 4, 7]) o5 o5 := fr_rfl
  have r_o6 : Fr (fr_M [] [] []) o6 o6 := fr_rfl
  have r_o7 : Fr (fr_M [0, 1, 2, 3] [4, 5, 6, 7, 8, 9] []) o7 o7 := fr_rfl
  unfold fF_read fF_read_0
  have g_o0_0 : (0 : Int) ≤ (o0.1 0).toInt ∧ (o0.1 0).toInt ≤ 0 := k_o0.1 0
  have g_o0_1 : (0 : Int) ≤ (o0.1 1).toInt ∧ (o0.1 1).toInt ≤ 0 := k_o0.1 1
  have g_o0_2 : (0 : Int) ≤ (o0.1 2).toInt ∧ (o0.1 2).toInt ≤ 0 := k_o0.1 2
  have g_o0_3 : (0 : Int) ≤ (o0.1 3).toInt ∧ (o0.1 3).toInt ≤ 0 := k_o0.1 3
  have g_o0_4 : (0 : Int) ≤ (o0.1 4).toInt ∧ (o0.1 4).toInt ≤ 0 := k_o0.1 4
  have g_o0_5 : (0 : Int) ≤ (o0.1 5).toInt ∧ (o0.1 5).toInt ≤ 0 := k_o0.1 5
  have g_o0_16 : (0 : Int) ≤ (o0.1 16).toInt ∧ (o0.1 16).toInt ≤ 1 := k_o0.1 16
  have g_o0_17 : (0 : Int) ≤ (o0.1 17).toInt ∧ (o0.1 17).toInt ≤ 1 := k_o0.1 17
  have g_o0_18 : (0 : Int) ≤ (o0.1 18).toInt ∧ (o0.1 18).toInt ≤ 1 := k_o0.1 18
  have g_o0_30 : (0 : Int) ≤ (o0.1 30).toInt ∧ (o0.1 30).toInt ≤ 4 := k_o0.1 30
  have g_o1_0 : (0 : Int) ≤ (o1.1 0).toInt ∧ (o1.1 0).toInt ≤ 0 := k_o1.1 0
  have g_o1_1 : (0 : Int) ≤ (o1.1 1).toInt ∧ (o1.1 1).toInt ≤ 0 := k_o1.1 1
  have g_o1_2 : (0 : Int) ≤ (o1.1 2).toInt ∧ (o1.1 2).toInt ≤ 0 := k_o1.1 2
  have g_o1_3 : (0 : Int) ≤ (o1.1 3).toInt ∧ (o1.1 3).toInt ≤ 1600 := k_o1.1 3
  have g_o1_4 : ((-1) : Int) ≤ (o1.1 4).toInt ∧ (o1.1 4).toInt ≤ 1602 := k_o1.1 4
  have g_o1_5 : (0 : Int) ≤ (o1.1 5).toInt ∧ (o1.1 5).toInt ≤ 10 := k_o1.1 5
  have g_o1_16 : (0 : Int) ≤ (o1.1 16).toInt ∧ (o1.1 16).toInt ≤ 0 := k_o1.1 16
  have g_o1_17 : (0 : Int) ≤ (o1.1 17).toInt ∧ (o1.1 17).toInt ≤ 0 := k_o1.1 17
  have g_o1_18 : (0 : Int) ≤ (o1.1 18).toInt ∧ (o1.1 18).toInt ≤ 0 := k_o1.1 18
  have g_o1_30 : (0 : Int) ≤ (o1.1 30).toInt ∧ (o1.1 30).toInt ≤ 0 := k_o1.1 30
  have g_o2_0 : (0 : Int) ≤ (o2.1 0).toInt ∧ (o2.1 0).toInt ≤ 1 := k_o2.1 0
  have g_o2_1 : (0 : Int) ≤ (o2.1 1).toInt ∧ (o2.1 1).toInt ≤ 0 := k_o2.1 1
  have g_o2_2 : (0 : Int) ≤ (o2.1 2).toInt ∧ (o2.1 2).toInt ≤ 0 := k_o2.1 2
  have g_o2_3 : (0 : Int) ≤ (o2.1 3).toInt ∧ (o2.1 3).toInt ≤ 0 := k_o2.1 3
  have g_o2_4 : (0 : Int) ≤ (o2.1 4).toInt ∧ (o2.1 4).toInt ≤ 0 := k_o2.1 4
  have g_o2_5 : (0 : Int) ≤ (o2.1 5).toInt ∧ (o2.1 5).toInt ≤ 0 := k_o2.1 5
  have g_o2_16 : (0 : Int) ≤ (o2.1 16).toInt ∧ (o2.1 16).toInt ≤ 0 := k_o2.1 16
  have g_o2_17 : (0 : Int) ≤ (o2.1 17).toInt ∧ (o2.1 17).toInt ≤ 0 := k_o2.1 17
  have g_o2_18 : (0 : Int) ≤ (o2.1 18).toInt ∧ (o2.1 18).toInt ≤ 0 := k_o2.1 18
  have g_o2_30 : (0 : Int) ≤ (o2.1 30).toInt ∧ (o2.1 30).toInt ≤ 0 := k_o2.1 30
  have g_o3_0 : ((-2147483648) : Int) ≤ (o3.1 0).toInt ∧ (o3.1 0).toInt ≤ 2147483647 := k_o3.1 0
  have g_o3_1 : (0 : Int) ≤ (o3.1 1).toInt ∧ (o3.1 1).toInt ≤ 0 := k_o3.1 1
  have g_o3_2 : (0 : Int) ≤ (o3.1 2).toInt ∧ (o3.1 2).toInt ≤ 0 := k_o3.1 2
  have g_o3_3 : (0 : Int) ≤ (o3.1 3).toInt ∧ (o3.1 3).toInt ≤ 62909 := k_o3.1 3
  have g_o3_4 : (1024 : Int) ≤ (o3.1 4).toInt ∧ (o3.1 4).toInt ≤ 131072 := k_o3.1 4
  have g_o3_5 : (1024 : Int) ≤ (o3.1 5).toInt ∧ (o3.1 5).toInt ≤ 131072 := k_o3.1 5
  have g_o3_16 : (0 : Int) ≤ (o3.1 16).toInt ∧ (o3.1 16).toInt ≤ 0 := k_o3.1 16
  have g_o3_17 : (0 : Int) ≤ (o3.1 17).toInt ∧ (o3.1 17).toInt ≤ 0 := k_o3.1 17
  have g_o3_18 : (0 : Int) ≤ (o3.1 18).toInt ∧ (o3.1 18).toInt ≤ 0 := k_o3.1 18
  have g_o3_30 : (0 : Int) ≤ (o3.1 30).toInt ∧ (o3.1 30).toInt ≤ 0 := k_o3.1 30
  have g_o4_0 : (0 : Int) ≤ (o4.1 0).toInt ∧ (o4.1 0).toInt ≤ 8 := k_o4.1 0
  have g_o4_1 : (0 : Int) ≤ (o4.1 1).toInt ∧ (o4.1 1).toInt ≤ 6 := k_o4.1 1
  have g_o4_2 : ((-2147483648) : Int) ≤ (o4.1 2).toInt ∧ (o4.1 2).toInt ≤ 2147483647 := k_o4.1 2
  have g_o4_3 : (0 : Int) ≤ (o4.1 3).toInt ∧ (o4.1 3).toInt ≤ 0 := k_o4.1 3
  have g_o4_4 : (0 : Int) ≤ (o4.1 4).toInt ∧ (o4.1 4).toInt ≤ 0 := k_o4.1 4
  have g_o4_5 : (0 : Int) ≤ (o4.1 5).toInt ∧ (o4.1 5).toInt ≤ 2147483647 := k_o4.1 5
  have g_o4_16 : (0 : Int) ≤ (o4.1 16).toInt ∧ (o4.1 16).toInt ≤ 0 := k_o4.1 16
  have g_o4_17 : (0 : Int) ≤ (o4.1 17).toInt ∧ (o4.1 17).toInt ≤ 0 := k_o4.1 17
  have g_o4_18 : (0 : Int) ≤ (o4.1 18).toInt ∧ (o4.1 18).toInt ≤ 0 := k_o4.1 18
  have g_o4_30 : (0 : Int) ≤ (o4.1 30).toInt ∧ (o4.1 30).toInt ≤ 0 := k_o4.1 30
  have g_o5_0 : (0 : Int) ≤ (o5.1 0).toInt ∧ (o5.1 0).toInt ≤ 8 := k_o5.1 0
  have g_o5_1 : (0 : Int) ≤ (o5.1 1).toInt ∧ (o5.1 1).toInt ≤ 6 := k_o5.1 1
  have g_o5_2 : ((-2147483648) : Int) ≤ (o5.1 2).toInt ∧ (o5.1 2).toInt ≤ 2147483647 := k_o5.1 2
  have g_o5_3 : (0 : Int) ≤ (o5.1 3).toInt ∧ (o5.1 3).toInt ≤ 0 := k_o5.1 3
  have g_o5_4 : (0 : Int) ≤ (o5.1 4).toInt ∧ (o5.1 4).toInt ≤ 0 := k_o5.1 4
  have g_o5_5 : (0 : Int) ≤ (o5.1 5).toInt ∧ (o5.1 5).toInt ≤ 2147483647 := k_o5.1 5
  have g_o5_16 : (0 : Int) ≤ (o5.1 16).toInt ∧ (o5.1 16).toInt ≤ 0 := k_o5.1 16
  have g_o5_17 : (0 : Int) ≤ (o5.1 17).toInt ∧ (o5.1 17).toInt ≤ 0 := k_o5.1 17
  have g_o5_18 : (0 : Int) ≤ (o5.1 18).toInt ∧ (o5.1 18).toInt ≤ 0 := k_o5.1 18
  have g_o5_30 : (0 : Int) ≤ (o5.1 30).toInt ∧ (o5.1 30).toInt ≤ 0 := k_o5.1 30
  have g_o6_0 : (0 : Int) ≤ (o6.1 0).toInt ∧ (o6.1 0).toInt ≤ 8 := k_o6.1 0
  have g_o6_1 : (0 : Int) ≤ (o6.1 1).toInt ∧ (o6.1 1).toInt ≤ 6 := k_o6.1 1
  have g_o6_2 : (0 : Int) ≤ (o6.1 2).toInt ∧ (o6.1 2).toInt ≤ 200 := k_o6.1 2
  have g_o6_3 : (0 : Int) ≤ (o6.1 3).toInt ∧ (o6.1 3).toInt ≤ 1 := k_o6.1 3
  have g_o6_4 : (0 : Int) ≤ (o6.1 4).toInt ∧ (o6.1 4).toInt ≤ 0 := k_o6.1 4
  have g_o6_5 : (0 : Int) ≤ (o6.1 5).toInt ∧ (o6.1 5).toInt ≤ 0 := k_o6.1 5
  have g_o6_16 : (0 : Int) ≤ (o6.1 16).toInt ∧ (o6.1 16).toInt ≤ 0 := k_o6.1 16
  have g_o6_17 : (0 : Int) ≤ (o6.1 17).toInt ∧ (o6.1 17).toInt ≤ 0 := k_o6.1 17
  have g_o6_18 : (0 : Int) ≤ (o6.1 18).toInt ∧ (o6.1 18).toInt ≤ 0 := k_o6.1 18
  have g_o6_30 : (0 : Int) ≤ (o6.1 30).toInt ∧ (o6.1 30).toInt ≤ 0 := k_o6.1 30
  have g_o7_0 : (0 : Int) ≤ (o7.1 0).toInt ∧ (o7.1 0).toInt ≤ 8 := k_o7.1 0
  have g_o7_1 : (0 : Int) ≤ (o7.1 1).toInt ∧ (o7.1 1).toInt ≤ 6 := k_o7.1 1
  have g_o7_2 : (0 : Int) ≤ (o7.1 2).toInt ∧ (o7.1 2).toInt ≤ 200 := k_o7.1 2
  have g_o7_3 : (0 : Int) ≤ (o7.1 3).toInt ∧ (o7.1 3).toInt ≤ 1 := k_o7.1 3
  have g_o7_4 : (0 : Int) ≤ (o7.1 4).toInt ∧ (o7.1 4).toInt ≤ 0 := k_o7.1 4
  have g_o7_5 : (0 : Int) ≤ (o7.1 5).toInt ∧ (o7.1 5).toInt ≤ 0 := k_o7.1 5
  have g_o7_16 : (0 : Int) ≤ (o7.1 16).toInt ∧ (o7.1 16).toInt ≤ 0 := k_o7.1 16
  have g_o7_17 : (0 : Int) ≤ (o7.1 17).toInt ∧ (o7.1 17).toInt ≤ 0 := k_o7.1 17
  have g_o7_18 : (0 : Int) ≤ (o7.1 18).toInt ∧ (o7.1 18).toInt ≤ 0 := k_o7.1 18
  have g_o7_30 : (0 : Int) ≤ (o7.1 30).toInt ∧ (o7.1 30).toInt ≤ 0 := k_o7.1 30
  refine tt_b (sNl_scan _ _ k_o5 k_o1 x_7) (fun q1 hq1 => ?_)
  obtain ⟨i_q1, k_q1_2_1, n_q1_2_1, f_q1_2_1_2, k_q1_2_2, n_q1_2_2, zq1_0, zq1_1, -⟩ := hq1
  have r_q1_2_1 := fr_tr r_o5 n_q1_2_1 rfl rfl rfl
  have g_q1_2_1_0 : (0 : Int) ≤ (q1.2.1.1 0).toInt ∧ (q1.2.1.1 0).toInt ≤ 8 := k_q1_2_1.1 0
  have g_q1_2_1_1 : (0 : Int) ≤ (q1.2.1.1 1).toInt ∧ (q1.2.1.1 1).toInt ≤ 6 := k_q1_2_1.1 1
  have e_q1_2_1_3 : (q1.2.1.1 3).toInt = (o5.1 3).toInt := congrArg Int32.toInt (n_q1_2_1.1 3 rfl)
  have g_q1_2_1_3 : (0 : Int) ≤ (q1.2.1.1 3).toInt ∧ (q1.2.1.1 3).toInt ≤ 0 := k_q1_2_1.1 3
  have e_q1_2_1_4 : (q1.2.1.1 4).toInt = (o5.1 4).toInt := congrArg Int32.toInt (n_q1_2_1.1 4 rfl)
  have g_q1_2_1_4 : (0 : Int) ≤ (q1.2.1.1 4).toInt ∧ (q1.2.1.1 4).toInt ≤ 0 := k_q1_2_1.1 4
  have g_q1_2_1_5 : (0 : Int) ≤ (q1.2.1.1 5).toInt ∧ (q1.2.1.1 5).toInt ≤ 2147483647 := k_q1_2_1.1 5
  have e_q1_2_1_16 : (q1.2.1.1 16).toInt = (o5.1 16).toInt := congrArg Int32.toInt (n_q1_2_1.1 16 rfl)
  have g_q1_2_1_16 : (0 : Int) ≤ (q1.2.1.1 16).toInt ∧ (q1.2.1.1 16).toInt ≤ 0 := k_q1_2_1.1 16
  have e_q1_2_1_17 : (q1.2.1.1 17).toInt = (o5.1 17).toInt := congrArg Int32.toInt (n_q1_2_1.1 17 rfl)
  have g_q1_2_1_17 : (0 : Int) ≤ (q1.2.1.1 17).toInt ∧ (q1.2.1.1 17).toInt ≤ 0 := k_q1_2_1.1 17
  have e_q1_2_1_18 : (q1.2.1.1 18).toInt = (o5.1 18).toInt := congrArg Int32.toInt (n_q1_2_1.1 18 rfl)
  have g_q1_2_1_18 : (0 : Int) ≤ (q1.2.1.1 18).toInt ∧ (q1.2.1.1 18).toInt ≤ 0 := k_q1_2_1.1 18
  have e_q1_2_1_30 : (q1.2.1.1 30).toInt = (o5.1 30).toInt := congrArg Int32.toInt (n_q1_2_1.1 30 rfl)
  have g_q1_2_1_30 : (0 : Int) ≤ (q1.2.1.1 30).toInt ∧ (q1.2.1.1 30).toInt ≤ 0 := k_q1_2_1.1 30
  have r_q1_2_2 := fr_tr r_o1 n_q1_2_2 rfl rfl rfl
  have e_q1_2_2_0 : (q1.2.2.1 0).toInt = (o1.1 0).toInt := congrArg Int32.toInt (n_q1_2_2.1 0 rfl)
  have g_q1_2_2_0 : (0 : Int) ≤ (q1.2.2.1 0).toInt ∧ (q1.2.2.1 0).toInt ≤ 0 := k_q1_2_2.1 0
  have e_q1_2_2_1 : (q1.2.2.1 1).toInt = (o1.1 1).toInt := congrArg Int32.toInt (n_q1_2_2.1 1 rfl)
  have g_q1_2_2_1 : (0 : Int) ≤ (q1.2.2.1 1).toInt ∧ (q1.2.2.1 1).toInt ≤ 0 := k_q1_2_2.1 1
  have e_q1_2_2_2 : (q1.2.2.1 2).toInt = (o1.1 2).toInt := congrArg Int32.toInt (n_q1_2_2.1 2 rfl)
  have g_q1_2_2_2 : (0 : Int) ≤ (q1.2.2.1 2).toInt ∧ (q1.2.2.1 2).toInt ≤ 0 := k_q1_2_2.1 2
  have e_q1_2_2_3 : (q1.2.2.1 3).toInt = (o1.1 3).toInt := congrArg Int32.toInt (n_q1_2_2.1 3 rfl)
  have g_q1_2_2_3 : (0 : Int) ≤ (q1.2.2.1 3).toInt ∧ (q1.2.2.1 3).toInt ≤ 1600 := k_q1_2_2.1 3
  have g_q1_2_2_4 : ((-1) : Int) ≤ (q1.2.2.1 4).toInt ∧ (q1.2.2.1 4).toInt ≤ 1602 := k_q1_2_2.1 4
  have g_q1_2_2_5 : (0 : Int) ≤ (q1.2.2.1 5).toInt ∧ (q1.2.2.1 5).toInt ≤ 10 := k_q1_2_2.1 5
  have e_q1_2_2_16 : (q1.2.2.1 16).toInt = (o1.1 16).toInt := congrArg Int32.toInt (n_q1_2_2.1 16 rfl)
  have g_q1_2_2_16 : (0 : Int) ≤ (q1.2.2.1 16).toInt ∧ (q1.2.2.1 16).toInt ≤ 0 := k_q1_2_2.1 16
  have e_q1_2_2_17 : (q1.2.2.1 17).toInt = (o1.1 17).toInt := congrArg Int32.toInt (n_q1_2_2.1 17 rfl)
  have g_q1_2_2_17 : (0 : Int) ≤ (q1.2.2.1 17).toInt ∧ (q1.2.2.1 17).toInt ≤ 0 := k_q1_2_2.1 17
  have e_q1_2_2_18 : (q1.2.2.1 18).toInt = (o1.1 18).toInt := congrArg Int32.toInt (n_q1_2_2.1 18 rfl)
  have g_q1_2_2_18 : (0 : Int) ≤ (q1.2.2.1 18).toInt ∧ (q1.2.2.1 18).toInt ≤ 0 := k_q1_2_2.1 18
  have e_q1_2_2_30 : (q1.2.2.1 30).toInt = (o1.1 30).toInt := congrArg Int32.toInt (n_q1_2_2.1 30 rfl)
  have g_q1_2_2_30 : (0 : Int) ≤ (q1.2.2.1 30).toInt ∧ (q1.2.2.1 30).toInt ≤ 0 := k_q1_2_2.1 30
  try unfold fF_read_11
  refine tt_if (fun c2 => ?_) (fun c2 => ?_)
  · have wc2 : q1.1.toInt = (0 : Int) := c_eq c2
    have i3 : (0 : Int) ≤ q1.1.toInt ∧ q1.1.toInt ≤ 0 := nr_eql c2 i_q1 (show (0 : Int) ≤ (0 : Int32).toInt ∧ (0 : Int32).toInt ≤ 0 by decide) (by decide) (by decide)
    have p4 : Nok (q1.2.1.1 1).toInt (q1.2.1.1 0).toInt (q1.2.1.1 6).toInt (q1.2.1.2.1 8) (q1.2.1.2.1 13) (q1.2.1.2.1 14) := by exact Nks_k (by assumption) (by omega)
    refine tt_b (sNl_buildInto _ _ k_q1_2_1 k_o7 f_q1_2_1_2 p4 zq1_0) (fun q5 hq5 => ?_)
    obtain ⟨k_q5_1, n_q5_1, k_q5_2, n_q5_2, zq5_0, zq5_1, zq5_2, zq5_3, -⟩ := hq5
    have r_q5_1 := fr_tr r_q1_2_1 n_q5_1 rfl rfl rfl
    have f_q5_1_2 : ((-1) : Int) ≤ (q5.1.1 2).toInt ∧ (q5.1.1 2).toInt ≤ 2147483647 := by rw [n_q5_1.1 2 rfl]; exact f_q1_2_1_2
    have e_q5_1_0 : (q5.1.1 0).toInt = (q1.2.1.1 0).toInt := congrArg Int32.toInt (n_q5_1.1 0 rfl)
    have g_q5_1_0 : (0 : Int) ≤ (q5.1.1 0).toInt ∧ (q5.1.1 0).toInt ≤ 8 := k_q5_1.1 0
    have e_q5_1_1 : (q5.1.1 1).toInt = (q1.2.1.1 1).toInt := congrArg Int32.toInt (n_q5_1.1 1 rfl)
    have g_q5_1_1 : (0 : Int) ≤ (q5.1.1 1).toInt ∧ (q5.1.1 1).toInt ≤ 6 := k_q5_1.1 1
    have e_q5_1_2 : (q5.1.1 2).toInt = (q1.2.1.1 2).toInt := congrArg Int32.toInt (n_q5_1.1 2 rfl)
    have e_q5_1_3 : (q5.1.1 3).toInt = (q1.2.1.1 3).toInt := congrArg Int32.toInt (n_q5_1.1 3 rfl)
    have g_q5_1_3 : (0 : Int) ≤ (q5.1.1 3).toInt ∧ (q5.1.1 3).toInt ≤ 0 := k_q5_1.1 3
    have e_q5_1_4 : (q5.1.1 4).toInt = (q1.2.1.1 4).toInt := congrArg Int32.toInt (n_q5_1.1 4 rfl)
    have g_q5_1_4 : (0 : Int) ≤ (q5.1.1 4).toInt ∧ (q5.1.1 4).toInt ≤ 0 := k_q5_1.1 4
    have e_q5_1_5 : (q5.1.1 5).toInt = (q1.2.1.1 5).toInt := congrArg Int32.toInt (n_q5_1.1 5 rfl)
    have g_q5_1_5 : (0 : Int) ≤ (q5.1.1 5).toInt ∧ (q5.1.1 5).toInt ≤ 2147483647 := k_q5_1.1 5
    have e_q5_1_16 : (q5.1.1 16).toInt = (q1.2.1.1 16).toInt := congrArg Int32.toInt (n_q5_1.1 16 rfl)
    have g_q5_1_16 : (0 : Int) ≤ (q5.1.1 16).toInt ∧ (q5.1.1 16).toInt ≤ 0 := k_q5_1.1 16
    have e_q5_1_17 : (q5.1.1 17).toInt = (q1.2.1.1 17).toInt := congrArg Int32.toInt (n_q5_1.1 17 rfl)
    have g_q5_1_17 : (0 : Int) ≤ (q5.1.1 17).toInt ∧ (q5.1.1 17).toInt ≤ 0 := k_q5_1.1 17
    have e_q5_1_18 : (q5.1.1 18).toInt = (q1.2.1.1 18).toInt := congrArg Int32.toInt (n_q5_1.1 18 rfl)
    have g_q5_1_18 : (0 : Int) ≤ (q5.1.1 18).toInt ∧ (q5.1.1 18).toInt ≤ 0 := k_q5_1.1 18
    have e_q5_1_30 : (q5.1.1 30).toInt = (q1.2.1.1 30).toInt := congrArg Int32.toInt (n_q5_1.1 30 rfl)
    have g_q5_1_30 : (0 : Int) ≤ (q5.1.1 30).toInt ∧ (q5.1.1 30).toInt ≤ 0 := k_q5_1.1 30
    have r_q5_2 := fr_tr r_o7 n_q5_2 rfl rfl rfl
    have g_q5_2_0 : (0 : Int) ≤ (q5.2.1 0).toInt ∧ (q5.2.1 0).toInt ≤ 8 := k_q5_2.1 0
    have g_q5_2_1 : (0 : Int) ≤ (q5.2.1 1).toInt ∧ (q5.2.1 1).toInt ≤ 6 := k_q5_2.1 1
    have g_q5_2_2 : (0 : Int) ≤ (q5.2.1 2).toInt ∧ (q5.2.1 2).toInt ≤ 200 := k_q5_2.1 2
    have g_q5_2_3 : (0 : Int) ≤ (q5.2.1 3).toInt ∧ (q5.2.1 3).toInt ≤ 1 := k_q5_2.1 3
    have e_q5_2_4 : (q5.2.1 4).toInt = (o7.1 4).toInt := congrArg Int32.toInt (n_q5_2.1 4 rfl)
    have g_q5_2_4 : (0 : Int) ≤ (q5.2.1 4).toInt ∧ (q5.2.1 4).toInt ≤ 0 := k_q5_2.1 4
    have e_q5_2_5 : (q5.2.1 5).toInt = (o7.1 5).toInt := congrArg Int32.toInt (n_q5_2.1 5 rfl)
    have g_q5_2_5 : (0 : Int) ≤ (q5.2.1 5).toInt ∧ (q5.2.1 5).toInt ≤ 0 := k_q5_2.1 5
    have e_q5_2_16 : (q5.2.1 16).toInt = (o7.1 16).toInt := congrArg Int32.toInt (n_q5_2.1 16 rfl)
    have g_q5_2_16 : (0 : Int) ≤ (q5.2.1 16).toInt ∧ (q5.2.1 16).toInt ≤ 0 := k_q5_2.1 16
    have e_q5_2_17 : (q5.2.1 17).toInt = (o7.1 17).toInt := congrArg Int32.toInt (n_q5_2.1 17 rfl)
    have g_q5_2_17 : (0 : Int) ≤ (q5.2.1 17).toInt ∧ (q5.2.1 17).toInt ≤ 0 := k_q5_2.1 17
    have e_q5_2_18 : (q5.2.1 18).toInt = (o7.1 18).toInt := congrArg Int32.toInt (n_q5_2.1 18 rfl)
    have g_q5_2_18 : (0 : Int) ≤ (q5.2.1 18).toInt ∧ (q5.2.1 18).toInt ≤ 0 := k_q5_2.1 18
    have e_q5_2_30 : (q5.2.1 30).toInt = (o7.1 30).toInt := congrArg Int32.toInt (n_q5_2.1 30 rfl)
    have g_q5_2_30 : (0 : Int) ≤ (q5.2.1 30).toInt ∧ (q5.2.1 30).toInt ≤ 0 := k_q5_2.1 30
    have zq5_2 : (q5.2.1 0).toInt = (q5.1.1 0).toInt := zq5_2
    have zq5_3 : (q5.2.1 1).toInt = (q5.1.1 1).toInt := zq5_3
    have u6 : Rwo (q5.1.2.1 12) := by rw [n_q5_1.2.1 12 rfl]; exact zq1_0
    have u7 : Nks q1.1.toInt (q5.1.1 1).toInt (q5.1.1 0).toInt (q5.1.1 6).toInt (q5.1.2.1 8) (q5.1.2.1 13) (q5.1.2.1 14) := by rw [n_q5_1.1 0 rfl, n_q5_1.1 1 rfl, n_q5_1.1 6 rfl, n_q5_1.2.1 8 rfl, n_q5_1.2.1 13 rfl, n_q5_1.2.1 14 rfl]; exact zq1_1
    try unfold fF_read_35
    refine tt_if (fun c8 => ?_) (fun c8 => ?_)
    · have wc8 : (q5.2.1 3).toInt = (0 : Int) := c_eq c8
      have i9 : (0 : Int) ≤ (q5.2.1 3).toInt ∧ (q5.2.1 3).toInt ≤ 0 := nr_eql c8 (k_q5_2.1 3) (show (0 : Int) ≤ (0 : Int32).toInt ∧ (0 : Int32).toInt ≤ 0 by decide) (by decide) (by decide)
      try unfold fF_read_50
      refine tt_if (fun c10 => ?_) (fun c10 => ?_)
      · have wc10 : (1 : Int) = (0 : Int) := c_eq c10
        exact (dd_eq c10 (show (1 : Int) ≤ (1 : Int32).toInt ∧ (1 : Int32).toInt ≤ 1 by decide) (show (0 : Int) ≤ (0 : Int32).toInt ∧ (0 : Int32).toInt ≤ 0 by decide) (by decide)).elim
      · have wc10 : ¬ (1 : Int) = (0 : Int) := c_ne c10
        try unfold fF_read_53
        refine tt_b (sF_takeSpareNodes _ _ _ k_o0 k_o2 k_o3) (fun q11 hq11 => ?_)
        obtain ⟨k_q11_1, n_q11_1, f_q11_1_17, f_q11_1_18, f_q11_1_30, k_q11_2_1, n_q11_2_1, f_q11_2_1_0, k_q11_2_2, n_q11_2_2, f_q11_2_2_0, zq11_0, zq11_1, zq11_2, zq11_3, -⟩ := hq11
        have r_q11_1 := fr_tr r_o0 n_q11_1 rfl rfl rfl
        have e_q11_1_0 : (q11.1.1 0).toInt = (o0.1 0).toInt := congrArg Int32.toInt (n_q11_1.1 0 rfl)
        have g_q11_1_0 : (0 : Int) ≤ (q11.1.1 0).toInt ∧ (q11.1.1 0).toInt ≤ 0 := k_q11_1.1 0
        have e_q11_1_1 : (q11.1.1 1).toInt = (o0.1 1).toInt := congrArg Int32.toInt (n_q11_1.1 1 rfl)
        have g_q11_1_1 : (0 : Int) ≤ (q11.1.1 1).toInt ∧ (q11.1.1 1).toInt ≤ 0 := k_q11_1.1 1
        have e_q11_1_2 : (q11.1.1 2).toInt = (o0.1 2).toInt := congrArg Int32.toInt (n_q11_1.1 2 rfl)
        have g_q11_1_2 : (0 : Int) ≤ (q11.1.1 2).toInt ∧ (q11.1.1 2).toInt ≤ 0 := k_q11_1.1 2
        have e_q11_1_3 : (q11.1.1 3).toInt = (o0.1 3).toInt := congrArg Int32.toInt (n_q11_1.1 3 rfl)
        have g_q11_1_3 : (0 : Int) ≤ (q11.1.1 3).toInt ∧ (q11.1.1 3).toInt ≤ 0 := k_q11_1.1 3
        have e_q11_1_4 : (q11.1.1 4).toInt = (o0.1 4).toInt := congrArg Int32.toInt (n_q11_1.1 4 rfl)
        have g_q11_1_4 : (0 : Int) ≤ (q11.1.1 4).toInt ∧ (q11.1.1 4).toInt ≤ 0 := k_q11_1.1 4
        have e_q11_1_5 : (q11.1.1 5).toInt = (o0.1 5).toInt := congrArg Int32.toInt (n_q11_1.1 5 rfl)
        have g_q11_1_5 : (0 : Int) ≤ (q11.1.1 5).toInt ∧ (q11.1.1 5).toInt ≤ 0 := k_q11_1.1 5
        have e_q11_1_16 : (q11.1.1 16).toInt = (o0.1 16).toInt := congrArg Int32.toInt (n_q11_1.1 16 rfl)
        have g_q11_1_16 : (0 : Int) ≤ (q11.1.1 16).toInt ∧ (q11.1.1 16).toInt ≤ 1 := k_q11_1.1 16
        have r_q11_2_1 := fr_tr r_o2 n_q11_2_1 rfl rfl rfl
        have e_q11_2_1_1 : (q11.2.1.1 1).toInt = (o2.1 1).toInt := congrArg Int32.toInt (n_q11_2_1.1 1 rfl)
        have g_q11_2_1_1 : (0 : Int) ≤ (q11.2.1.1 1).toInt ∧ (q11.2.1.1 1).toInt ≤ 0 := k_q11_2_1.1 1
        have e_q11_2_1_2 : (q11.2.1.1 2).toInt = (o2.1 2).toInt := congrArg Int32.toInt (n_q11_2_1.1 2 rfl)
        have g_q11_2_1_2 : (0 : Int) ≤ (q11.2.1.1 2).toInt ∧ (q11.2.1.1 2).toInt ≤ 0 := k_q11_2_1.1 2
        have e_q11_2_1_3 : (q11.2.1.1 3).toInt = (o2.1 3).toInt := congrArg Int32.toInt (n_q11_2_1.1 3 rfl)
        have g_q11_2_1_3 : (0 : Int) ≤ (q11.2.1.1 3).toInt ∧ (q11.2.1.1 3).toInt ≤ 0 := k_q11_2_1.1 3
        have e_q11_2_1_4 : (q11.2.1.1 4).toInt = (o2.1 4).toInt := congrArg Int32.toInt (n_q11_2_1.1 4 rfl)
        have g_q11_2_1_4 : (0 : Int) ≤ (q11.2.1.1 4).toInt ∧ (q11.2.1.1 4).toInt ≤ 0 := k_q11_2_1.1 4
        have e_q11_2_1_5 : (q11.2.1.1 5).toInt = (o2.1 5).toInt := congrArg Int32.toInt (n_q11_2_1.1 5 rfl)
        have g_q11_2_1_5 : (0 : Int) ≤ (q11.2.1.1 5).toInt ∧ (q11.2.1.1 5).toInt ≤ 0 := k_q11_2_1.1 5
        have e_q11_2_1_16 : (q11.2.1.1 16).toInt = (o2.1 16).toInt := congrArg Int32.toInt (n_q11_2_1.1 16 rfl)
        have g_q11_2_1_16 : (0 : Int) ≤ (q11.2.1.1 16).toInt ∧ (q11.2.1.1 16).toInt ≤ 0 := k_q11_2_1.1 16
        have e_q11_2_1_17 : (q11.2.1.1 17).toInt = (o2.1 17).toInt := congrArg Int32.toInt (n_q11_2_1.1 17 rfl)
        have g_q11_2_1_17 : (0 : Int) ≤ (q11.2.1.1 17).toInt ∧ (q11.2.1.1 17).toInt ≤ 0 := k_q11_2_1.1 17
        have e_q11_2_1_18 : (q11.2.1.1 18).toInt = (o2.1 18).toInt := congrArg Int32.toInt (n_q11_2_1.1 18 rfl)
        have g_q11_2_1_18 : (0 : Int) ≤ (q11.2.1.1 18).toInt ∧ (q11.2.1.1 18).toInt ≤ 0 := k_q11_2_1.1 18
        have e_q11_2_1_30 : (q11.2.1.1 30).toInt = (o2.1 30).toInt := congrArg Int32.toInt (n_q11_2_1.1 30 rfl)
        have g_q11_2_1_30 : (0 : Int) ≤ (q11.2.1.1 30).toInt ∧ (q11.2.1.1 30).toInt ≤ 0 := k_q11_2_1.1 30
        have r_q11_2_2 := fr_tr r_o3 n_q11_2_2 rfl rfl rfl
        have e_q11_2_2_1 : (q11.2.2.1 1).toInt = (o3.1 1).toInt := congrArg Int32.toInt (n_q11_2_2.1 1 rfl)
        have g_q11_2_2_1 : (0 : Int) ≤ (q11.2.2.1 1).toInt ∧ (q11.2.2.1 1).toInt ≤ 0 := k_q11_2_2.1 1
        have e_q11_2_2_2 : (q11.2.2.1 2).toInt = (o3.1 2).toInt := congrArg Int32.toInt (n_q11_2_2.1 2 rfl)
        have g_q11_2_2_2 : (0 : Int) ≤ (q11.2.2.1 2).toInt ∧ (q11.2.2.1 2).toInt ≤ 0 := k_q11_2_2.1 2
        have e_q11_2_2_3 : (q11.2.2.1 3).toInt = (o3.1 3).toInt := congrArg Int32.toInt (n_q11_2_2.1 3 rfl)
        have g_q11_2_2_3 : (0 : Int) ≤ (q11.2.2.1 3).toInt ∧ (q11.2.2.1 3).toInt ≤ 62909 := k_q11_2_2.1 3
        have e_q11_2_2_4 : (q11.2.2.1 4).toInt = (o3.1 4).toInt := congrArg Int32.toInt (n_q11_2_2.1 4 rfl)
        have g_q11_2_2_4 : (1024 : Int) ≤ (q11.2.2.1 4).toInt ∧ (q11.2.2.1 4).toInt ≤ 131072 := k_q11_2_2.1 4
        have e_q11_2_2_5 : (q11.2.2.1 5).toInt = (o3.1 5).toInt := congrArg Int32.toInt (n_q11_2_2.1 5 rfl)
        have g_q11_2_2_5 : (1024 : Int) ≤ (q11.2.2.1 5).toInt ∧ (q11.2.2.1 5).toInt ≤ 131072 := k_q11_2_2.1 5
        have e_q11_2_2_16 : (q11.2.2.1 16).toInt = (o3.1 16).toInt := congrArg Int32.toInt (n_q11_2_2.1 16 rfl)
        have g_q11_2_2_16 : (0 : Int) ≤ (q11.2.2.1 16).toInt ∧ (q11.2.2.1 16).toInt ≤ 0 := k_q11_2_2.1 16
        have e_q11_2_2_17 : (q11.2.2.1 17).toInt = (o3.1 17).toInt := congrArg Int32.toInt (n_q11_2_2.1 17 rfl)
        have g_q11_2_2_17 : (0 : Int) ≤ (q11.2.2.1 17).toInt ∧ (q11.2.2.1 17).toInt ≤ 0 := k_q11_2_2.1 17
        have e_q11_2_2_18 : (q11.2.2.1 18).toInt = (o3.1 18).toInt := congrArg Int32.toInt (n_q11_2_2.1 18 rfl)
        have g_q11_2_2_18 : (0 : Int) ≤ (q11.2.2.1 18).toInt ∧ (q11.2.2.1 18).toInt ≤ 0 := k_q11_2_2.1 18
        have e_q11_2_2_30 : (q11.2.2.1 30).toInt = (o3.1 30).toInt := congrArg Int32.toInt (n_q11_2_2.1 30 rfl)
        have g_q11_2_2_30 : (0 : Int) ≤ (q11.2.2.1 30).toInt ∧ (q11.2.2.1 30).toInt ≤ 0 := k_q11_2_2.1 30
        have zq11_0 : (q11.1.1 17).toInt = 0 := zq11_0
        have zq11_1 : (q11.1.1 18).toInt = 0 := zq11_1
        have zq11_2 : (q11.2.2.1 0).toInt = 0 := zq11_2
        have zq11_3 : (q11.1.1 30).toInt = 0 := zq11_3
        refine tt_if (fun c12 => ?_) (fun c12 => ?_)
        · have wc12 : (q11.1.1 30).toInt = (0 : Int) := c_eq c12
          try unfold fF_read_75
          refine tt_ko ?_
          have k13 := ok_fp (k := 16) (v := 1) k_q11_1 (iv_w (a := 0) (b := 1) (by decide) (by decide) (show (1 : Int) ≤ (1 : Int32).toInt ∧ (1 : Int32).toInt ≤ 1 by decide))
          have r14 := fr_fp (k := 16) (v := 1) r_q11_1 rfl
          try unfold fF_read_80
          refine tt_ko ?_
          have k15 := ok_fp (k := 15) (v := (q1.2.1.1 2)) k13 f_q1_2_1_2
          have r16 := fr_fp (k := 15) (v := (q1.2.1.1 2)) r14 rfl
          have k17 := ok_fp (k := 30) (v := 0) k15 (iv_w (a := 0) (b := 4) (by decide) (by decide) (show (0 : Int) ≤ (0 : Int32).toInt ∧ (0 : Int32).toInt ≤ 0 by decide))
          have r18 := fr_fp (k := 30) (v := 0) r16 rfl
          have p19 : Gx ((q5.2.1 0).toInt + 1) (q5.2.1 2).toInt (sh ((q5.2.1 0).toInt + 1) (q5.2.2.1 4)) (sh ((q5.2.1 0).toInt + 1) (q5.2.2.1 5)) := by first | assumption | exact GI_x (by assumption)
          have p20 : Fqs (q11.2.2.1 0).toInt (q5.2.1 0).toInt (((q5.2.1 0).toInt + 1) + (q5.2.1 2).toInt) (q11.2.2.1 3).toInt (q11.2.2.2.1 2) (q11.2.2.2.1 1) (q11.2.2.2.2 4) := by first | assumption | exact Fqs_0 (by omega)
          have p21 : Rcf (q11.2.2.1 0).toInt (q11.2.2.1 3).toInt (q5.2.1 0).toInt (((q5.2.1 0).toInt + 1) + (q5.2.1 2).toInt) (q5.2.2.1 4) (q5.2.2.1 5) (q11.2.2.2.1 2) (q11.2.2.2.2 4) := by first | assumption | exact Or.inl (by omega)
          have p22 : ((q1.2.2.1 3) = (o1.1 3) ∧ (q1.2.2.2.1 0) = (o1.2.1 0)) := by exact ⟨n_q1_2_2.1 3 rfl, n_q1_2_2.2.1 0 rfl⟩
          exact tt_some ⟨(iv_w (a := 0) (b := 4) (by decide) (by decide) i3), k17, k_q1_2_2, k_q11_2_1, k_q11_2_2, k_q5_1, k_o4, k_q5_2, k_o6, p19, zq5_1, p20, p21, (show (q11.2.2.1 3).toInt ≤ (q11.2.2.1 4).toInt by omega), (show (q11.2.2.1 4).toInt = (q11.2.2.1 5).toInt by omega), u6, x_6, (show (q11.1.1 17).toInt = 0 ∨ (q11.1.1 17).toInt = (o0.1 17).toInt by omega), (show (q11.1.1 18).toInt = 0 ∨ (q11.1.1 18).toInt = (o0.1 18).toInt by omega), (show 0 = 0 ∨ 0 = 4 by omega), p22, trivial⟩
        · have wc12 : ¬ (q11.1.1 30).toInt = (0 : Int) := c_ne c12
          exact (dd_ne c12 f_q11_1_30 (show (0 : Int) ≤ (0 : Int32).toInt ∧ (0 : Int32).toInt ≤ 0 by decide)).elim
    · have wc8 : ¬ (q5.2.1 3).toInt = (0 : Int) := c_ne c8
      have i23 : (1 : Int) ≤ (q5.2.1 3).toInt ∧ (q5.2.1 3).toInt ≤ 1 := nr_nela c8 (k_q5_2.1 3) (show (0 : Int) ≤ (0 : Int32).toInt ∧ (0 : Int32).toInt ≤ 0 by decide) (by decide) (by decide)
      try unfold fF_read_50
      refine tt_if (fun c24 => ?_) (fun c24 => ?_)
      · have wc24 : (0 : Int) = (0 : Int) := c_eq c24
        have k25 := ok_fp (k := 30) (v := 4) k_o0 (iv_w (a := 0) (b := 4) (by decide) (by decide) (show (4 : Int) ≤ (4 : Int32).toInt ∧ (4 : Int32).toInt ≤ 4 by decide))
        have r26 := fr_fp (k := 30) (v := 4) r_o0 rfl
        have p27 : ((q1.2.2.1 3) = (o1.1 3) ∧ (q1.2.2.2.1 0) = (o1.2.1 0)) := by exact ⟨n_q1_2_2.1 3 rfl, n_q1_2_2.2.1 0 rfl⟩
        exact tt_some ⟨(iv_w (a := 0) (b := 4) (by decide) (by decide) (show (0 : Int) ≤ (0 : Int32).toInt ∧ (0 : Int32).toInt ≤ 0 by decide)), k25, k_q1_2_2, k_o2, k_o3, k_o4, k_q5_1, k_o6, k_q5_2, x_0, x_1, x_2, x_3, (show (o3.1 3).toInt ≤ (o3.1 4).toInt by omega), (show (o3.1 4).toInt = (o3.1 5).toInt by omega), x_6, u6, (show (o0.1 17).toInt = 0 ∨ (o0.1 17).toInt = (o0.1 17).toInt by omega), (show (o0.1 18).toInt = 0 ∨ (o0.1 18).toInt = (o0.1 18).toInt by omega), (show 4 = 0 ∨ 4 = 4 by omega), p27, trivial⟩
      · have wc24 : ¬ (0 : Int) = (0 : Int) := c_ne c24
        exact (dd_ne c24 (show (0 : Int) ≤ (0 : Int32).toInt ∧ (0 : Int32).toInt ≤ 0 by decide) (show (0 : Int) ≤ (0 : Int32).toInt ∧ (0 : Int32).toInt ≤ 0 by decide)).elim
  · have wc2 : ¬ q1.1.toInt = (0 : Int) := c_ne c2
    have i28 : (1 : Int) ≤ q1.1.toInt ∧ q1.1.toInt ≤ 4 := nr_nela c2 i_q1 (show (0 : Int) ≤ (0 : Int32).toInt ∧ (0 : Int32).toInt ≤ 0 by decide) (by decide) (by decide)
    try unfold fF_read_80
    refine tt_ko ?_
    have k29 := ok_fp (k := 15) (v := (q1.2.1.1 2)) k_o0 f_q1_2_1_2
    have r30 := fr_fp (k := 15) (v := (q1.2.1.1 2)) r_o0 rfl
    have k31 := ok_fp (k := 30) (v := 0) k29 (iv_w (a := 0) (b := 4) (by decide) (by decide) (show (0 : Int) ≤ (0 : Int32).toInt ∧ (0 : Int32).toInt ≤ 0 by decide))
    have r32 := fr_fp (k := 30) (v := 0) r30 rfl
    have p33 : ((q1.2.2.1 3) = (o1.1 3) ∧ (q1.2.2.2.1 0) = (o1.2.1 0)) := by exact ⟨n_q1_2_2.1 3 rfl, n_q1_2_2.2.1 0 rfl⟩
    exact tt_some ⟨(iv_w (a := 0) (b := 4) (by decide) (by decide) i28), k31, k_q1_2_2, k_o2, k_o3, k_o4, k_q1_2_1, k_o6, k_o7, x_0, x_1, x_2, x_3, (show (o3.1 3).toInt ≤ (o3.1 4).toInt by omega), (show (o3.1 4).toInt = (o3.1 5).toInt by omega), x_6, zq1_0, (show (o0.1 17).toInt = 0 ∨ (o0.1 17).toInt = (o0.1 17).toInt by omega), (show (o0.1 18).toInt = 0 ∨ (o0.1 18).toInt = (o0.1 18).toInt by omega), (show 0 = 0 ∨ 0 = 4 by omega), p33, trivial⟩
def QF_line (o0 : cf_O) (r : (Int32 × cf_O)) : Prop := (((-1) : Int) ≤ r.1.toInt ∧ r.1.toInt ≤ 2147483647) ∧ (okO I_F r.2) ∧ (Fr (fr_M [30] [] []) o0 r.2) ∧ ((0 : Int) ≤ (r.2.1 30).toInt ∧ (r.2.1 30).toInt ≤ 0) ∧ ((r.2.1 30).toInt = 0) ∧ True
set_option maxHeartbeats 4000000 in
set_option maxRecDepth 100000 in
theorem sF_line (o0 : cf_O) (k_o0 : okO I_F o0) : tt (fF_line o0) (QF_line o0) := by
  have r_o0 : Fr (fr_M [30] [] []) o0 o0 := fr_rfl
  unfold fF_line fF_line_0
  have g_o0_0 : (0 : Int) ≤ (o0.1 0).toInt ∧ (o0.1 0).toInt ≤ 0 := k_o0.1 0
  have g_o0_1 : (0 : Int) ≤ (o0.1 1).toInt ∧ (o0.1 1).toInt ≤ 0 := k_o0.1 1
  have g_o0_2 : (0 : Int) ≤ (o0.1 2).toInt ∧ (o0.1 2).toInt ≤ 0 := k_o0.1 2
  have g_o0_3 : (0 : Int) ≤ (o0.1 3).toInt ∧ (o0.1 3).toInt ≤ 0 := k_o0.1 3
  have g_o0_4 : (0 : Int) ≤ (o0.1 4).toInt ∧ (o0.1 4).toInt ≤ 0 := k_o0.1 4
  have g_o0_5 : (0 : Int) ≤ (o0.1 5).toInt ∧ (o0.1 5).toInt ≤ 0 := k_o0.1 5
  have g_o0_16 : (0 : Int) ≤ (o0.1 16).toInt ∧ (o0.1 16).toInt ≤ 1 := k_o0.1 16
  have g_o0_17 : (0 : Int) ≤ (o0.1 17).toInt ∧ (o0.1 17).toInt ≤ 1 := k_o0.1 17
  have g_o0_18 : (0 : Int) ≤ (o0.1 18).toInt ∧ (o0.1 18).toInt ≤ 1 := k_o0.1 18
  have g_o0_30 : (0 : Int) ≤ (o0.1 30).toInt ∧ (o0.1 30).toInt ≤ 4 := k_o0.1 30
  have k1 := ok_fp (k := 30) (v := 0) k_o0 (iv_w (a := 0) (b := 4) (by decide) (by decide) (show (0 : Int) ≤ (0 : Int32).toInt ∧ (0 : Int32).toInt ≤ 0 by decide))
  have r2 := fr_fp (k := 30) (v := 0) r_o0 rfl
  exact tt_some ⟨(k_o0.1 15), k1, r2, (show (0 : Int) ≤ (0 : Int32).toInt ∧ (0 : Int32).toInt ≤ 0 by decide), (show 0 = 0 by omega), trivial⟩
def QF_graph (v1 : Int32) (o0 : cf_O) (o1 : cf_O) (r : (Int32 × cf_O)) : Prop := ((0 : Int) ≤ r.1.toInt ∧ r.1.toInt ≤ 2147483647) ∧ (okO I_F r.2) ∧ (Fr (fr_M [30] [] []) o0 r.2) ∧ ((0 : Int) ≤ (r.2.1 30).toInt ∧ (r.2.1 30).toInt ≤ 2) ∧ ((r.2.1 30).toInt = 0 ∨ (r.2.1 30).toInt = 2 ∨ (r.2.1 30).toInt = 1) ∧ True
set_option maxHeartbeats 4000000 in
set_option maxRecDepth 100000 in
theorem sF_graph (v1 : Int32) (o0 : cf_O) (o1 : cf_O) (k_o0 : okO I_F o0) (k_o1 : okO I_Gr o1) (x_0 : Gx ((o1.1 0).toInt + 1) (o1.1 2).toInt (sh ((o1.1 0).toInt + 1) (o1.2.1 4)) (sh ((o1.1 0).toInt + 1) (o1.2.1 5))) (x_1 : No (o1.1 1).toInt (((o1.1 0).toInt + 1) + (o1.1 2).toInt) (o1.2.1 7)) : tt (fF_graph v1 o0 o1) (QF_graph v1 o0 o1) := by
  have r_o0 : Fr (fr_M [30] [] []) o0 o0 := fr_rfl
  have r_o1 : Fr (fr_M [] [] []) o1 o1 := fr_rfl
  unfold fF_graph fF_graph_0
  have i_v1 := iv_top v1
  have g_o0_0 : (0 : Int) ≤ (o0.1 0).toInt ∧ (o0.1 0).toInt ≤ 0 := k_o0.1 0
  have g_o0_1 : (0 : Int) ≤ (o0.1 1).toInt ∧ (o0.1 1).toInt ≤ 0 := k_o0.1 1
  have g_o0_2 : (0 : Int) ≤ (o0.1 2).toInt ∧ (o0.1 2).toInt ≤ 0 := k_o0.1 2
  have g_o0_3 : (0 : Int) ≤ (o0.1 3).toInt ∧ (o0.1 3).toInt ≤ 0 := k_o0.1 3
  have g_o0_4 : (0 : Int) ≤ (o0.1 4).toInt ∧ (o0.1 4).toInt ≤ 0 := k_o0.1 4
  have g_o0_5 : (0 : Int) ≤ (o0.1 5).toInt ∧ (o0.1 5).toInt ≤ 0 := k_o0.1 5
  have g_o0_16 : (0 : Int) ≤ (o0.1 16).toInt ∧ (o0.1 16).toInt ≤ 1 := k_o0.1 16
  have g_o0_17 : (0 : Int) ≤ (o0.1 17).toInt ∧ (o0.1 17).toInt ≤ 1 := k_o0.1 17
  have g_o0_18 : (0 : Int) ≤ (o0.1 18).toInt ∧ (o0.1 18).toInt ≤ 1 := k_o0.1 18
  have g_o0_30 : (0 : Int) ≤ (o0.1 30).toInt ∧ (o0.1 30).toInt ≤ 4 := k_o0.1 30
  have g_o1_0 : (0 : Int) ≤ (o1.1 0).toInt ∧ (o1.1 0).toInt ≤ 8 := k_o1.1 0
  have g_o1_1 : (0 : Int) ≤ (o1.1 1).toInt ∧ (o1.1 1).toInt ≤ 6 := k_o1.1 1
  have g_o1_2 : (0 : Int) ≤ (o1.1 2).toInt ∧ (o1.1 2).toInt ≤ 200 := k_o1.1 2
  have g_o1_3 : (0 : Int) ≤ (o1.1 3).toInt ∧ (o1.1 3).toInt ≤ 1 := k_o1.1 3
  have g_o1_4 : (0 : Int) ≤ (o1.1 4).toInt ∧ (o1.1 4).toInt ≤ 0 := k_o1.1 4
  have g_o1_5 : (0 : Int) ≤ (o1.1 5).toInt ∧ (o1.1 5).toInt ≤ 0 := k_o1.1 5
  have g_o1_16 : (0 : Int) ≤ (o1.1 16).toInt ∧ (o1.1 16).toInt ≤ 0 := k_o1.1 16
  have g_o1_17 : (0 : Int) ≤ (o1.1 17).toInt ∧ (o1.1 17).toInt ≤ 0 := k_o1.1 17
  have g_o1_18 : (0 : Int) ≤ (o1.1 18).toInt ∧ (o1.1 18).toInt ≤ 0 := k_o1.1 18
  have g_o1_30 : (0 : Int) ≤ (o1.1 30).toInt ∧ (o1.1 30).toInt ≤ 0 := k_o1.1 30
  refine tt_if (fun c1 => ?_) (fun c1 => ?_)
  · have wc1 : (o0.1 16).toInt = (0 : Int) := c_eq c1
    have i2 : (0 : Int) ≤ (o0.1 16).toInt ∧ (o0.1 16).toInt ≤ 0 := nr_eql c1 (k_o0.1 16) (show (0 : Int) ≤ (0 : Int32).toInt ∧ (0 : Int32).toInt ≤ 0 by decide) (by decide) (by decide)
    have k3 := ok_fp (k := 30) (v := 2) k_o0 (iv_w (a := 0) (b := 4) (by decide) (by decide) (show (2 : Int) ≤ (2 : Int32).toInt ∧ (2 : Int32).toInt ≤ 2 by decide))
    have r4 := fr_fp (k := 30) (v := 2) r_o0 rfl
    exact tt_some ⟨(iv_w (a := 0) (b := 2147483647) (by decide) (by decide) (show (0 : Int) ≤ (0 : Int32).toInt ∧ (0 : Int32).toInt ≤ 0 by decide)), k3, r4, (iv_w (a := 0) (b := 2) (by decide) (by decide) (show (2 : Int) ≤ (2 : Int32).toInt ∧ (2 : Int32).toInt ≤ 2 by decide)), (show 2 = 0 ∨ 2 = 2 ∨ 2 = 1 by omega), trivial⟩
  · have wc1 : ¬ (o0.1 16).toInt = (0 : Int) := c_ne c1
    have i5 : (1 : Int) ≤ (o0.1 16).toInt ∧ (o0.1 16).toInt ≤ 1 := nr_nela c1 (k_o0.1 16) (show (0 : Int) ≤ (0 : Int32).toInt ∧ (0 : Int32).toInt ≤ 0 by decide) (by decide) (by decide)
    try unfold fF_graph_7
    refine tt_if (fun c6 => ?_) (fun c6 => ?_)
    · have wc6 : v1.toInt = (0 : Int) := c_eq c6
      have i7 : (0 : Int) ≤ v1.toInt ∧ v1.toInt ≤ 0 := nr_eql c6 (iv_top v1) (show (0 : Int) ≤ (0 : Int32).toInt ∧ (0 : Int32).toInt ≤ 0 by decide) (by decide) (by decide)
      have k8 := ok_fp (k := 30) (v := 0) k_o0 (iv_w (a := 0) (b := 4) (by decide) (by decide) (show (0 : Int) ≤ (0 : Int32).toInt ∧ (0 : Int32).toInt ≤ 0 by decide))
      have r9 := fr_fp (k := 30) (v := 0) r_o0 rfl
      exact tt_some ⟨(iv_w (a := 0) (b := 2147483647) (by decide) (by decide) (k_o1.1 0)), k8, r9, (iv_w (a := 0) (b := 2) (by decide) (by decide) (show (0 : Int) ≤ (0 : Int32).toInt ∧ (0 : Int32).toInt ≤ 0 by decide)), (show 0 = 0 ∨ 0 = 2 ∨ 0 = 1 by omega), trivial⟩
    · have wc6 : ¬ v1.toInt = (0 : Int) := c_ne c6
      refine tt_if (fun c10 => ?_) (fun c10 => ?_)
      · have wc10 : v1.toInt = (1 : Int) := c_eq c10
        have i11 : (1 : Int) ≤ v1.toInt ∧ v1.toInt ≤ 1 := nr_eql c10 (iv_top v1) (show (1 : Int) ≤ (1 : Int32).toInt ∧ (1 : Int32).toInt ≤ 1 by decide) (by decide) (by decide)
        have k12 := ok_fp (k := 30) (v := 0) k_o0 (iv_w (a := 0) (b := 4) (by decide) (by decide) (show (0 : Int) ≤ (0 : Int32).toInt ∧ (0 : Int32).toInt ≤ 0 by decide))
        have r13 := fr_fp (k := 30) (v := 0) r_o0 rfl
        exact tt_some ⟨(iv_w (a := 0) (b := 2147483647) (by decide) (by decide) (k_o1.1 1)), k12, r13, (iv_w (a := 0) (b := 2) (by decide) (by decide) (show (0 : Int) ≤ (0 : Int32).toInt ∧ (0 : Int32).toInt ≤ 0 by decide)), (show 0 = 0 ∨ 0 = 2 ∨ 0 = 1 by omega), trivial⟩
      · have wc10 : ¬ v1.toInt = (1 : Int) := c_ne c10
        refine tt_if (fun c14 => ?_) (fun c14 => ?_)
        · have wc14 : v1.toInt = (2 : Int) := c_eq c14
          have i15 : (2 : Int) ≤ v1.toInt ∧ v1.toInt ≤ 2 := nr_eql c14 (iv_top v1) (show (2 : Int) ≤ (2 : Int32).toInt ∧ (2 : Int32).toInt ≤ 2 by decide) (by decide) (by decide)
          have k16 := ok_fp (k := 30) (v := 0) k_o0 (iv_w (a := 0) (b := 4) (by decide) (by decide) (show (0 : Int) ≤ (0 : Int32).toInt ∧ (0 : Int32).toInt ≤ 0 by decide))
          have r17 := fr_fp (k := 30) (v := 0) r_o0 rfl
          exact tt_some ⟨(iv_w (a := 0) (b := 2147483647) (by decide) (by decide) (k_o1.1 2)), k16, r17, (iv_w (a := 0) (b := 2) (by decide) (by decide) (show (0 : Int) ≤ (0 : Int32).toInt ∧ (0 : Int32).toInt ≤ 0 by decide)), (show 0 = 0 ∨ 0 = 2 ∨ 0 = 1 by omega), trivial⟩
        · have wc14 : ¬ v1.toInt = (2 : Int) := c_ne c14
          refine tt_if (fun c18 => ?_) (fun c18 => ?_)
          · have wc18 : v1.toInt = (3 : Int) := c_eq c18
            have i19 : (3 : Int) ≤ v1.toInt ∧ v1.toInt ≤ 3 := nr_eql c18 (iv_top v1) (show (3 : Int) ≤ (3 : Int32).toInt ∧ (3 : Int32).toInt ≤ 3 by decide) (by decide) (by decide)
            refine tt_b (sGr_greatestLevel _ k_o1) (fun q20 hq20 => ?_)
            obtain ⟨i_q20, -⟩ := hq20
            try unfold fF_graph_71
            have k21 := ok_fp (k := 30) (v := 0) k_o0 (iv_w (a := 0) (b := 4) (by decide) (by decide) (show (0 : Int) ≤ (0 : Int32).toInt ∧ (0 : Int32).toInt ≤ 0 by decide))
            have r22 := fr_fp (k := 30) (v := 0) r_o0 rfl
            exact tt_some ⟨i_q20, k21, r22, (iv_w (a := 0) (b := 2) (by decide) (by decide) (show (0 : Int) ≤ (0 : Int32).toInt ∧ (0 : Int32).toInt ≤ 0 by decide)), (show 0 = 0 ∨ 0 = 2 ∨ 0 = 1 by omega), trivial⟩
          · have wc18 : ¬ v1.toInt = (3 : Int) := c_ne c18
            have k23 := ok_fp (k := 30) (v := 1) k_o0 (iv_w (a := 0) (b := 4) (by decide) (by decide) (show (1 : Int) ≤ (1 : Int32).toInt ∧ (1 : Int32).toInt ≤ 1 by decide))
            have r24 := fr_fp (k := 30) (v := 1) r_o0 rfl
            exact tt_some ⟨(iv_w (a := 0) (b := 2147483647) (by decide) (by decide) (show (0 : Int) ≤ (0 : Int32).toInt ∧ (0 : Int32).toInt ≤ 0 by decide)), k23, r24, (iv_w (a := 0) (b := 2) (by decide) (by decide) (show (1 : Int) ≤ (1 : Int32).toInt ∧ (1 : Int32).toInt ≤ 1 by decide)), (show 1 = 0 ∨ 1 = 2 ∨ 1 = 1 by omega), trivial⟩
def QF_gate (v1 : Int32) (v2 : Int32) (o0 : cf_O) (o1 : cf_O) (r : (Int32 × cf_O)) : Prop := (okO I_F r.2) ∧ (Fr (fr_M [30] [] []) o0 r.2) ∧ ((0 : Int) ≤ (r.2.1 30).toInt ∧ (r.2.1 30).toInt ≤ 3) ∧ ((r.2.1 30).toInt = 0 ∨ (r.2.1 30).toInt = 2 ∨ (r.2.1 30).toInt = 3 ∨ (r.2.1 30).toInt = 1) ∧ True
set_option maxHeartbeats 4000000 in
set_option maxRecDepth 100000 in
theorem sF_gate (v1 : Int32) (v2 : Int32) (o0 : cf_O) (o1 : cf_O) (k_o0 : okO I_F o0) (k_o1 : okO I_Gr o1) (x_0 : Gx ((o1.1 0).toInt + 1) (o1.1 2).toInt (sh ((o1.1 0).toInt + 1) (o1.2.1 4)) (sh ((o1.1 0).toInt + 1) (o1.2.1 5))) (x_1 : No (o1.1 1).toInt (((o1.1 0).toInt + 1) + (o1.1 2).toInt) (o1.2.1 7)) : tt (fF_gate v1 v2 o0 o1) (QF_gate v1 v2 o0 o1) := by
  have r_o0 : Fr (fr_M [30] [] []) o0 o0 := fr_rfl
  have r_o1 : Fr (fr_M [] [] []) o1 o1 := fr_rfl
  unfold fF_gate fF_gate_0
  have i_v1 := iv_top v1
  have i_v2 := iv_top v2
  have g_o0_0 : (0 : Int) ≤ (o0.1 0).toInt ∧ (o0.1 0).toInt ≤ 0 := k_o0.1 0
  have g_o0_1 : (0 : Int) ≤ (o0.1 1).toInt ∧ (o0.1 1).toInt ≤ 0 := k_o0.1 1
  have g_o0_2 : (0 : Int) ≤ (o0.1 2).toInt ∧ (o0.1 2).toInt ≤ 0 := k_o0.1 2
  have g_o0_3 : (0 : Int) ≤ (o0.1 3).toInt ∧ (o0.1 3).toInt ≤ 0 := k_o0.1 3
  have g_o0_4 : (0 : Int) ≤ (o0.1 4).toInt ∧ (o0.1 4).toInt ≤ 0 := k_o0.1 4
  have g_o0_5 : (0 : Int) ≤ (o0.1 5).toInt ∧ (o0.1 5).toInt ≤ 0 := k_o0.1 5
  have g_o0_16 : (0 : Int) ≤ (o0.1 16).toInt ∧ (o0.1 16).toInt ≤ 1 := k_o0.1 16
  have g_o0_17 : (0 : Int) ≤ (o0.1 17).toInt ∧ (o0.1 17).toInt ≤ 1 := k_o0.1 17
  have g_o0_18 : (0 : Int) ≤ (o0.1 18).toInt ∧ (o0.1 18).toInt ≤ 1 := k_o0.1 18
  have g_o0_30 : (0 : Int) ≤ (o0.1 30).toInt ∧ (o0.1 30).toInt ≤ 4 := k_o0.1 30
  have g_o1_0 : (0 : Int) ≤ (o1.1 0).toInt ∧ (o1.1 0).toInt ≤ 8 := k_o1.1 0
  have g_o1_1 : (0 : Int) ≤ (o1.1 1).toInt ∧ (o1.1 1).toInt ≤ 6 := k_o1.1 1
  have g_o1_2 : (0 : Int) ≤ (o1.1 2).toInt ∧ (o1.1 2).toInt ≤ 200 := k_o1.1 2
  have g_o1_3 : (0 : Int) ≤ (o1.1 3).toInt ∧ (o1.1 3).toInt ≤ 1 := k_o1.1 3
  have g_o1_4 : (0 : Int) ≤ (o1.1 4).toInt ∧ (o1.1 4).toInt ≤ 0 := k_o1.1 4
  have g_o1_5 : (0 : Int) ≤ (o1.1 5).toInt ∧ (o1.1 5).toInt ≤ 0 := k_o1.1 5
  have g_o1_16 : (0 : Int) ≤ (o1.1 16).toInt ∧ (o1.1 16).toInt ≤ 0 := k_o1.1 16
  have g_o1_17 : (0 : Int) ≤ (o1.1 17).toInt ∧ (o1.1 17).toInt ≤ 0 := k_o1.1 17
  have g_o1_18 : (0 : Int) ≤ (o1.1 18).toInt ∧ (o1.1 18).toInt ≤ 0 := k_o1.1 18
  have g_o1_30 : (0 : Int) ≤ (o1.1 30).toInt ∧ (o1.1 30).toInt ≤ 0 := k_o1.1 30
  refine tt_if (fun c1 => ?_) (fun c1 => ?_)
  · have wc1 : (o0.1 16).toInt = (0 : Int) := c_eq c1
    have i2 : (0 : Int) ≤ (o0.1 16).toInt ∧ (o0.1 16).toInt ≤ 0 := nr_eql c1 (k_o0.1 16) (show (0 : Int) ≤ (0 : Int32).toInt ∧ (0 : Int32).toInt ≤ 0 by decide) (by decide) (by decide)
    have k3 := ok_fp (k := 30) (v := 2) k_o0 (iv_w (a := 0) (b := 4) (by decide) (by decide) (show (2 : Int) ≤ (2 : Int32).toInt ∧ (2 : Int32).toInt ≤ 2 by decide))
    have r4 := fr_fp (k := 30) (v := 2) r_o0 rfl
    exact tt_some ⟨k3, r4, (iv_w (a := 0) (b := 3) (by decide) (by decide) (show (2 : Int) ≤ (2 : Int32).toInt ∧ (2 : Int32).toInt ≤ 2 by decide)), (show 2 = 0 ∨ 2 = 2 ∨ 2 = 3 ∨ 2 = 1 by omega), trivial⟩
  · have wc1 : ¬ (o0.1 16).toInt = (0 : Int) := c_ne c1
    have i5 : (1 : Int) ≤ (o0.1 16).toInt ∧ (o0.1 16).toInt ≤ 1 := nr_nela c1 (k_o0.1 16) (show (0 : Int) ≤ (0 : Int32).toInt ∧ (0 : Int32).toInt ≤ 0 by decide) (by decide) (by decide)
    try unfold fF_gate_7
    refine tt_b (sGr_isGate _ _ k_o1) (fun q6 hq6 => ?_)
    obtain ⟨i_q6, zq6_0, zq6_1, -⟩ := hq6
    have zq6_0 : q6.toInt = 0 ∨ ((o1.1 0).toInt < v1.toInt ∧ v1.toInt < 1 + (o1.1 0).toInt + (o1.1 2).toInt) := zq6_0
    try unfold fF_gate_15
    refine tt_if (fun c7 => ?_) (fun c7 => ?_)
    · have wc7 : q6.toInt = (0 : Int) := c_eq c7
      have i8 : (0 : Int) ≤ q6.toInt ∧ q6.toInt ≤ 0 := nr_eql c7 i_q6 (show (0 : Int) ≤ (0 : Int32).toInt ∧ (0 : Int32).toInt ≤ 0 by decide) (by decide) (by decide)
      have k9 := ok_fp (k := 30) (v := 3) k_o0 (iv_w (a := 0) (b := 4) (by decide) (by decide) (show (3 : Int) ≤ (3 : Int32).toInt ∧ (3 : Int32).toInt ≤ 3 by decide))
      have r10 := fr_fp (k := 30) (v := 3) r_o0 rfl
      exact tt_some ⟨k9, r10, (iv_w (a := 0) (b := 3) (by decide) (by decide) (show (3 : Int) ≤ (3 : Int32).toInt ∧ (3 : Int32).toInt ≤ 3 by decide)), (show 3 = 0 ∨ 3 = 2 ∨ 3 = 3 ∨ 3 = 1 by omega), trivial⟩
    · have wc7 : ¬ q6.toInt = (0 : Int) := c_ne c7
      have i11 : (1 : Int) ≤ q6.toInt ∧ q6.toInt ≤ 1 := nr_nela c7 i_q6 (show (0 : Int) ≤ (0 : Int32).toInt ∧ (0 : Int32).toInt ≤ 0 by decide) (by decide) (by decide)
      try unfold fF_gate_18
      refine tt_if (fun c12 => ?_) (fun c12 => ?_)
      · have wc12 : v2.toInt = (0 : Int) := c_eq c12
        have i13 : (0 : Int) ≤ v2.toInt ∧ v2.toInt ≤ 0 := nr_eql c12 (iv_top v2) (show (0 : Int) ≤ (0 : Int32).toInt ∧ (0 : Int32).toInt ≤ 0 by decide) (by decide) (by decide)
        refine tt_n (ix_rel (by omega) (by omega)) ?_
        have i14 : (0 : Int) ≤ v1.toInt ∧ v1.toInt ≤ 208 := (by omega)
        refine tt_kv (P := fun z => ((0 : Int) ≤ z.toInt ∧ z.toInt ≤ 417) ∧ z.toInt = (o1.2.1 4 v1.toNatClampNeg).toInt) ⟨(k_o1.2 4 _), rfl⟩ (fun x15 qi16 => ?_)
        obtain ⟨i16, ei16⟩ := qi16
        have k17 := ok_fp (k := 30) (v := 0) k_o0 (iv_w (a := 0) (b := 4) (by decide) (by decide) (show (0 : Int) ≤ (0 : Int32).toInt ∧ (0 : Int32).toInt ≤ 0 by decide))
        have r18 := fr_fp (k := 30) (v := 0) r_o0 rfl
        exact tt_some ⟨k17, r18, (iv_w (a := 0) (b := 3) (by decide) (by decide) (show (0 : Int) ≤ (0 : Int32).toInt ∧ (0 : Int32).toInt ≤ 0 by decide)), (show 0 = 0 ∨ 0 = 2 ∨ 0 = 3 ∨ 0 = 1 by omega), trivial⟩
      · have wc12 : ¬ v2.toInt = (0 : Int) := c_ne c12
        refine tt_if (fun c19 => ?_) (fun c19 => ?_)
        · have wc19 : v2.toInt = (1 : Int) := c_eq c19
          have i20 : (1 : Int) ≤ v2.toInt ∧ v2.toInt ≤ 1 := nr_eql c19 (iv_top v2) (show (1 : Int) ≤ (1 : Int32).toInt ∧ (1 : Int32).toInt ≤ 1 by decide) (by decide) (by decide)
          refine tt_n (ix_rel (by omega) (by omega)) ?_
          have i21 : (0 : Int) ≤ v1.toInt ∧ v1.toInt ≤ 208 := (by omega)
          refine tt_kv (P := fun z => ((0 : Int) ≤ z.toInt ∧ z.toInt ≤ 417) ∧ z.toInt = (o1.2.1 5 v1.toNatClampNeg).toInt) ⟨(k_o1.2 5 _), rfl⟩ (fun x22 qi23 => ?_)
          obtain ⟨i23, ei23⟩ := qi23
          have k24 := ok_fp (k := 30) (v := 0) k_o0 (iv_w (a := 0) (b := 4) (by decide) (by decide) (show (0 : Int) ≤ (0 : Int32).toInt ∧ (0 : Int32).toInt ≤ 0 by decide))
          have r25 := fr_fp (k := 30) (v := 0) r_o0 rfl
          exact tt_some ⟨k24, r25, (iv_w (a := 0) (b := 3) (by decide) (by decide) (show (0 : Int) ≤ (0 : Int32).toInt ∧ (0 : Int32).toInt ≤ 0 by decide)), (show 0 = 0 ∨ 0 = 2 ∨ 0 = 3 ∨ 0 = 1 by omega), trivial⟩
        · have wc19 : ¬ v2.toInt = (1 : Int) := c_ne c19
          refine tt_if (fun c26 => ?_) (fun c26 => ?_)
          · have wc26 : v2.toInt = (2 : Int) := c_eq c26
            have i27 : (2 : Int) ≤ v2.toInt ∧ v2.toInt ≤ 2 := nr_eql c26 (iv_top v2) (show (2 : Int) ≤ (2 : Int32).toInt ∧ (2 : Int32).toInt ≤ 2 by decide) (by decide) (by decide)
            refine tt_n (ix_rel (by omega) (by omega)) ?_
            have i28 : (0 : Int) ≤ v1.toInt ∧ v1.toInt ≤ 208 := (by omega)
            refine tt_kv (P := fun z => (((-2147483648) : Int) ≤ z.toInt ∧ z.toInt ≤ 2147483647) ∧ z.toInt = (o1.2.1 6 v1.toNatClampNeg).toInt) ⟨(k_o1.2 6 _), rfl⟩ (fun x29 qi30 => ?_)
            obtain ⟨i30, ei30⟩ := qi30
            have k31 := ok_fp (k := 30) (v := 0) k_o0 (iv_w (a := 0) (b := 4) (by decide) (by decide) (show (0 : Int) ≤ (0 : Int32).toInt ∧ (0 : Int32).toInt ≤ 0 by decide))
            have r32 := fr_fp (k := 30) (v := 0) r_o0 rfl
            exact tt_some ⟨k31, r32, (iv_w (a := 0) (b := 3) (by decide) (by decide) (show (0 : Int) ≤ (0 : Int32).toInt ∧ (0 : Int32).toInt ≤ 0 by decide)), (show 0 = 0 ∨ 0 = 2 ∨ 0 = 3 ∨ 0 = 1 by omega), trivial⟩
          · have wc26 : ¬ v2.toInt = (2 : Int) := c_ne c26
            have k33 := ok_fp (k := 30) (v := 1) k_o0 (iv_w (a := 0) (b := 4) (by decide) (by decide) (show (1 : Int) ≤ (1 : Int32).toInt ∧ (1 : Int32).toInt ≤ 1 by decide))
            have r34 := fr_fp (k := 30) (v := 1) r_o0 rfl
            exact tt_some ⟨k33, r34, (iv_w (a := 0) (b := 3) (by decide) (by decide) (show (1 : Int) ≤ (1 : Int32).toInt ∧ (1 : Int32).toInt ≤ 1 by decide)), (show 1 = 0 ∨ 1 = 2 ∨ 1 = 3 ∨ 1 = 1 by omega), trivial⟩
def QF_output (v1 : Int32) (o0 : cf_O) (o1 : cf_O) (r : (Int32 × cf_O)) : Prop := ((0 : Int) ≤ r.1.toInt ∧ r.1.toInt ≤ 417) ∧ (okO I_F r.2) ∧ (Fr (fr_M [30] [] []) o0 r.2) ∧ ((0 : Int) ≤ (r.2.1 30).toInt ∧ (r.2.1 30).toInt ≤ 3) ∧ ((r.2.1 30).toInt = 0 ∨ (r.2.1 30).toInt = 2 ∨ (r.2.1 30).toInt = 3) ∧ True
set_option maxHeartbeats 4000000 in
set_option maxRecDepth 100000 in
theorem sF_output (v1 : Int32) (o0 : cf_O) (o1 : cf_O) (k_o0 : okO I_F o0) (k_o1 : okO I_Gr o1) (x_0 : Gx ((o1.1 0).toInt + 1) (o1.1 2).toInt (sh ((o1.1 0).toInt + 1) (o1.2.1 4)) (sh ((o1.1 0).toInt + 1) (o1.2.1 5))) (x_1 : No (o1.1 1).toInt (((o1.1 0).toInt + 1) + (o1.1 2).toInt) (o1.2.1 7)) : tt (fF_output v1 o0 o1) (QF_output v1 o0 o1) := by
  have r_o0 : Fr (fr_M [30] [] []) o0 o0 := fr_rfl
  have r_o1 : Fr (fr_M [] [] []) o1 o1 := fr_rfl
  unfold fF_output fF_output_0
  have i_v1 := iv_top v1
  have g_o0_0 : (0 : Int) ≤ (o0.1 0).toInt ∧ (o0.1 0).toInt ≤ 0 := k_o0.1 0
  have g_o0_1 : (0 : Int) ≤ (o0.1 1).toInt ∧ (o0.1 1).toInt ≤ 0 := k_o0.1 1
  have g_o0_2 : (0 : Int) ≤ (o0.1 2).toInt ∧ (o0.1 2).toInt ≤ 0 := k_o0.1 2
  have g_o0_3 : (0 : Int) ≤ (o0.1 3).toInt ∧ (o0.1 3).toInt ≤ 0 := k_o0.1 3
  have g_o0_4 : (0 : Int) ≤ (o0.1 4).toInt ∧ (o0.1 4).toInt ≤ 0 := k_o0.1 4
  have g_o0_5 : (0 : Int) ≤ (o0.1 5).toInt ∧ (o0.1 5).toInt ≤ 0 := k_o0.1 5
  have g_o0_16 : (0 : Int) ≤ (o0.1 16).toInt ∧ (o0.1 16).toInt ≤ 1 := k_o0.1 16
  have g_o0_17 : (0 : Int) ≤ (o0.1 17).toInt ∧ (o0.1 17).toInt ≤ 1 := k_o0.1 17
  have g_o0_18 : (0 : Int) ≤ (o0.1 18).toInt ∧ (o0.1 18).toInt ≤ 1 := k_o0.1 18
  have g_o0_30 : (0 : Int) ≤ (o0.1 30).toInt ∧ (o0.1 30).toInt ≤ 4 := k_o0.1 30
  have g_o1_0 : (0 : Int) ≤ (o1.1 0).toInt ∧ (o1.1 0).toInt ≤ 8 := k_o1.1 0
  have g_o1_1 : (0 : Int) ≤ (o1.1 1).toInt ∧ (o1.1 1).toInt ≤ 6 := k_o1.1 1
  have g_o1_2 : (0 : Int) ≤ (o1.1 2).toInt ∧ (o1.1 2).toInt ≤ 200 := k_o1.1 2
  have g_o1_3 : (0 : Int) ≤ (o1.1 3).toInt ∧ (o1.1 3).toInt ≤ 1 := k_o1.1 3
  have g_o1_4 : (0 : Int) ≤ (o1.1 4).toInt ∧ (o1.1 4).toInt ≤ 0 := k_o1.1 4
  have g_o1_5 : (0 : Int) ≤ (o1.1 5).toInt ∧ (o1.1 5).toInt ≤ 0 := k_o1.1 5
  have g_o1_16 : (0 : Int) ≤ (o1.1 16).toInt ∧ (o1.1 16).toInt ≤ 0 := k_o1.1 16
  have g_o1_17 : (0 : Int) ≤ (o1.1 17).toInt ∧ (o1.1 17).toInt ≤ 0 := k_o1.1 17
  have g_o1_18 : (0 : Int) ≤ (o1.1 18).toInt ∧ (o1.1 18).toInt ≤ 0 := k_o1.1 18
  have g_o1_30 : (0 : Int) ≤ (o1.1 30).toInt ∧ (o1.1 30).toInt ≤ 0 := k_o1.1 30
  refine tt_if (fun c1 => ?_) (fun c1 => ?_)
  · have wc1 : (o0.1 16).toInt = (0 : Int) := c_eq c1
    have i2 : (0 : Int) ≤ (o0.1 16).toInt ∧ (o0.1 16).toInt ≤ 0 := nr_eql c1 (k_o0.1 16) (show (0 : Int) ≤ (0 : Int32).toInt ∧ (0 : Int32).toInt ≤ 0 by decide) (by decide) (by decide)
    have k3 := ok_fp (k := 30) (v := 2) k_o0 (iv_w (a := 0) (b := 4) (by decide) (by decide) (show (2 : Int) ≤ (2 : Int32).toInt ∧ (2 : Int32).toInt ≤ 2 by decide))
    have r4 := fr_fp (k := 30) (v := 2) r_o0 rfl
    exact tt_some ⟨(iv_w (a := 0) (b := 417) (by decide) (by decide) (show (0 : Int) ≤ (0 : Int32).toInt ∧ (0 : Int32).toInt ≤ 0 by decide)), k3, r4, (iv_w (a := 0) (b := 3) (by decide) (by decide) (show (2 : Int) ≤ (2 : Int32).toInt ∧ (2 : Int32).toInt ≤ 2 by decide)), (show 2 = 0 ∨ 2 = 2 ∨ 2 = 3 by omega), trivial⟩
  · have wc1 : ¬ (o0.1 16).toInt = (0 : Int) := c_ne c1
    have i5 : (1 : Int) ≤ (o0.1 16).toInt ∧ (o0.1 16).toInt ≤ 1 := nr_nela c1 (k_o0.1 16) (show (0 : Int) ≤ (0 : Int32).toInt ∧ (0 : Int32).toInt ≤ 0 by decide) (by decide) (by decide)
    try unfold fF_output_7
    refine tt_if (fun c6 => ?_) (fun c6 => ?_)
    · have wc6 : v1.toInt < (0 : Int) := c_lt c6
      have i7 : ((-2147483648) : Int) ≤ v1.toInt ∧ v1.toInt ≤ (-1) := nr_ltl c6 (iv_top v1) (show (0 : Int) ≤ (0 : Int32).toInt ∧ (0 : Int32).toInt ≤ 0 by decide) (by decide) (by decide)
      try unfold fF_output_26
      try unfold fF_output_27
      refine tt_if (fun c8 => ?_) (fun c8 => ?_)
      · have wc8 : (0 : Int) = (0 : Int) := c_eq c8
        have k9 := ok_fp (k := 30) (v := 3) k_o0 (iv_w (a := 0) (b := 4) (by decide) (by decide) (show (3 : Int) ≤ (3 : Int32).toInt ∧ (3 : Int32).toInt ≤ 3 by decide))
        have r10 := fr_fp (k := 30) (v := 3) r_o0 rfl
        exact tt_some ⟨(iv_w (a := 0) (b := 417) (by decide) (by decide) (show (0 : Int) ≤ (0 : Int32).toInt ∧ (0 : Int32).toInt ≤ 0 by decide)), k9, r10, (iv_w (a := 0) (b := 3) (by decide) (by decide) (show (3 : Int) ≤ (3 : Int32).toInt ∧ (3 : Int32).toInt ≤ 3 by decide)), (show 3 = 0 ∨ 3 = 2 ∨ 3 = 3 by omega), trivial⟩
      · have wc8 : ¬ (0 : Int) = (0 : Int) := c_ne c8
        exact (dd_ne c8 (show (0 : Int) ≤ (0 : Int32).toInt ∧ (0 : Int32).toInt ≤ 0 by decide) (show (0 : Int) ≤ (0 : Int32).toInt ∧ (0 : Int32).toInt ≤ 0 by decide)).elim
    · have wc6 : (0 : Int) ≤ v1.toInt := c_nlt c6
      have i11 : (0 : Int) ≤ v1.toInt ∧ v1.toInt ≤ 2147483647 := nr_nltr c6 (show (0 : Int) ≤ (0 : Int32).toInt ∧ (0 : Int32).toInt ≤ 0 by decide) (iv_top v1) (by decide) (by decide)
      refine tt_if (fun c12 => ?_) (fun c12 => ?_)
      · have wc12 : (o1.1 1).toInt ≤ v1.toInt := c_le c12
        try unfold fF_output_26
        try unfold fF_output_27
        refine tt_if (fun c13 => ?_) (fun c13 => ?_)
        · have wc13 : (0 : Int) = (0 : Int) := c_eq c13
          have k14 := ok_fp (k := 30) (v := 3) k_o0 (iv_w (a := 0) (b := 4) (by decide) (by decide) (show (3 : Int) ≤ (3 : Int32).toInt ∧ (3 : Int32).toInt ≤ 3 by decide))
          have r15 := fr_fp (k := 30) (v := 3) r_o0 rfl
          exact tt_some ⟨(iv_w (a := 0) (b := 417) (by decide) (by decide) (show (0 : Int) ≤ (0 : Int32).toInt ∧ (0 : Int32).toInt ≤ 0 by decide)), k14, r15, (iv_w (a := 0) (b := 3) (by decide) (by decide) (show (3 : Int) ≤ (3 : Int32).toInt ∧ (3 : Int32).toInt ≤ 3 by decide)), (show 3 = 0 ∨ 3 = 2 ∨ 3 = 3 by omega), trivial⟩
        · have wc13 : ¬ (0 : Int) = (0 : Int) := c_ne c13
          exact (dd_ne c13 (show (0 : Int) ≤ (0 : Int32).toInt ∧ (0 : Int32).toInt ≤ 0 by decide) (show (0 : Int) ≤ (0 : Int32).toInt ∧ (0 : Int32).toInt ≤ 0 by decide)).elim
      · have wc12 : v1.toInt < (o1.1 1).toInt := c_nle c12
        have i16 : (0 : Int) ≤ v1.toInt ∧ v1.toInt ≤ 5 := nr_nlel c12 i11 (k_o1.1 1) (by decide) (by decide)
        have i17 : (1 : Int) ≤ (o1.1 1).toInt ∧ (o1.1 1).toInt ≤ 6 := nr_nler c12 i11 (k_o1.1 1) (by decide) (by decide)
        try unfold fF_output_27
        refine tt_if (fun c18 => ?_) (fun c18 => ?_)
        · have wc18 : (1 : Int) = (0 : Int) := c_eq c18
          exact (dd_eq c18 (show (1 : Int) ≤ (1 : Int32).toInt ∧ (1 : Int32).toInt ≤ 1 by decide) (show (0 : Int) ≤ (0 : Int32).toInt ∧ (0 : Int32).toInt ≤ 0 by decide) (by decide)).elim
        · have wc18 : ¬ (1 : Int) = (0 : Int) := c_ne c18
          try unfold fF_output_30
          refine tt_n (ix_ok i16 (by decide) (by decide)) ?_
          refine tt_kv (P := fun z => ((0 : Int) ≤ z.toInt ∧ z.toInt ≤ 417) ∧ z.toInt = (o1.2.1 7 v1.toNatClampNeg).toInt) ⟨(k_o1.2 7 _), rfl⟩ (fun x19 qi20 => ?_)
          obtain ⟨i20, ei20⟩ := qi20
          have k21 := ok_fp (k := 30) (v := 0) k_o0 (iv_w (a := 0) (b := 4) (by decide) (by decide) (show (0 : Int) ≤ (0 : Int32).toInt ∧ (0 : Int32).toInt ≤ 0 by decide))
          have r22 := fr_fp (k := 30) (v := 0) r_o0 rfl
          exact tt_some ⟨i20, k21, r22, (iv_w (a := 0) (b := 3) (by decide) (by decide) (show (0 : Int) ≤ (0 : Int32).toInt ∧ (0 : Int32).toInt ≤ 0 by decide)), (show 0 = 0 ∨ 0 = 2 ∨ 0 = 3 by omega), trivial⟩
def QF_value (v1 : Int32) (o0 : cf_O) (o1 : cf_O) (o2 : cf_O) (r : (Int32 × cf_O × cf_O)) : Prop := ((0 : Int) ≤ r.1.toInt ∧ r.1.toInt ≤ 127) ∧ (okO I_F r.2.1) ∧ (Fr (fr_M [30] [] []) o0 r.2.1) ∧ ((0 : Int) ≤ (r.2.1.1 30).toInt ∧ (r.2.1.1 30).toInt ≤ 2) ∧ (okO I_Fu r.2.2) ∧ (Fr (fr_M [0] [] [1]) o1 r.2.2) ∧ ((r.2.1.1 30).toInt = 0 ∨ (r.2.1.1 30).toInt = 2 ∨ (r.2.1.1 30).toInt = 1) ∧ True
def HF_value (yv1 : Int32) (yo0 : cf_O) (yo1 : cf_O) (yo2 : cf_O) (n : Nat) : Prop := (∀ (v1 : Int32) (v2 : Int32) (v3 : Int32) (o0 : cf_O) (o1 : cf_O) (o2 : cf_O), (okO I_F o0) → (Fr (fr_M [30] [] []) yo0 o0) → (okO I_Fu o1) → (Fr (fr_M [0] [] [1]) yo1 o1) → (okO I_Gr o2) → (Fr (fr_M [] [] []) yo2 o2) → ((0 : Int) ≤ v2.toInt ∧ v2.toInt ≤ 127) → ((0 : Int) ≤ v3.toInt ∧ v3.toInt ≤ 6) → ((1 : Int) ≤ (o0.1 16).toInt ∧ (o0.1 16).toInt ≤ 1) → ((1 : Int) ≤ (o1.1 0).toInt ∧ (o1.1 0).toInt ≤ 1) → (Gx ((o2.1 0).toInt + 1) (o2.1 2).toInt (sh ((o2.1 0).toInt + 1) (o2.2.1 4)) (sh ((o2.1 0).toInt + 1) (o2.2.1 5))) → (No (o2.1 1).toInt (((o2.1 0).toInt + 1) + (o2.1 2).toInt) (o2.2.1 7)) → (0 ≤ v1.toInt) → (v1.toInt ≤ 255) → 0 + (6 - v3.toInt) * 2 < (n : Int) → tt (gF_value n 0 v1 v2 v3 o0 o1 o2) (QF_value yv1 yo0 yo1 yo2))
set_option maxHeartbeats 4000000 in
set_option maxRecDepth 100000 in
theorem tF_value_42 {yv1 : Int32} {yo0 : cf_O} {yo1 : cf_O} {yo2 : cf_O} {n : Nat} (H : HF_value yv1 yo0 yo1 yo2 n) (v1 : Int32) (v2 : Int32) (v3 : Int32) (o0 : cf_O) (o1 : cf_O) (o2 : cf_O) (k_o0 : okO I_F o0) (r_o0 : Fr (fr_M [30] [] []) yo0 o0) (k_o1 : okO I_Fu o1) (r_o1 : Fr (fr_M [0] [] [1]) yo1 o1) (k_o2 : okO I_Gr o2) (r_o2 : Fr (fr_M [] [] []) yo2 o2) (i_v2 : (0 : Int) ≤ v2.toInt ∧ v2.toInt ≤ 127) (i_v3 : (0 : Int) ≤ v3.toInt ∧ v3.toInt ≤ 6) (f_o0_16 : (1 : Int) ≤ (o0.1 16).toInt ∧ (o0.1 16).toInt ≤ 1) (f_o1_0 : (1 : Int) ≤ (o1.1 0).toInt ∧ (o1.1 0).toInt ≤ 1) (x_0 : Gx ((o2.1 0).toInt + 1) (o2.1 2).toInt (sh ((o2.1 0).toInt + 1) (o2.2.1 4)) (sh ((o2.1 0).toInt + 1) (o2.2.1 5))) (x_1 : No (o2.1 1).toInt (((o2.1 0).toInt + 1) + (o2.1 2).toInt) (o2.2.1 7)) (x_2 : 0 ≤ v1.toInt) (x_3 : v1.toInt ≤ 255) (hm : 0 + (6 - v3.toInt) * 2 ≤ (n : Int)) : tt (fF_value_42 (gF_value n) v1 v2 v3 o0 o1 o2) (QF_value yv1 yo0 yo1 yo2) := by
  unfold fF_value_42
  have i_v1 := iv_top v1
  have g_o0_0 : (0 : Int) ≤ (o0.1 0).toInt ∧ (o0.1 0).toInt ≤ 0 := k_o0.1 0
  have ey_o0_0 : (o0.1 0).toInt = (yo0.1 0).toInt := congrArg Int32.toInt (r_o0.1 0 rfl)
  have g_o0_1 : (0 : Int) ≤ (o0.1 1).toInt ∧ (o0.1 1).toInt ≤ 0 := k_o0.1 1
  have ey_o0_1 : (o0.1 1).toInt = (yo0.1 1).toInt := congrArg Int32.toInt (r_o0.1 1 rfl)
  have g_o0_2 : (0 : Int) ≤ (o0.1 2).toInt ∧ (o0.1 2).toInt ≤ 0 := k_o0.1 2
  have ey_o0_2 : (o0.1 2).toInt = (yo0.1 2).toInt := congrArg Int32.toInt (r_o0.1 2 rfl)
  have g_o0_3 : (0 : Int) ≤ (o0.1 3).toInt ∧ (o0.1 3).toInt ≤ 0 := k_o0.1 3
  have ey_o0_3 : (o0.1 3).toInt = (yo0.1 3).toInt := congrArg Int32.toInt (r_o0.1 3 rfl)
  have g_o0_4 : (0 : Int) ≤ (o0.1 4).toInt ∧ (o0.1 4).toInt ≤ 0 := k_o0.1 4
  have ey_o0_4 : (o0.1 4).toInt = (yo0.1 4).toInt := congrArg Int32.toInt (r_o0.1 4 rfl)
  have g_o0_5 : (0 : Int) ≤ (o0.1 5).toInt ∧ (o0.1 5).toInt ≤ 0 := k_o0.1 5
  have ey_o0_5 : (o0.1 5).toInt = (yo0.1 5).toInt := congrArg Int32.toInt (r_o0.1 5 rfl)
  have ey_o0_16 : (o0.1 16).toInt = (yo0.1 16).toInt := congrArg Int32.toInt (r_o0.1 16 rfl)
  have g_o0_17 : (0 : Int) ≤ (o0.1 17).toInt ∧ (o0.1 17).toInt ≤ 1 := k_o0.1 17
  have ey_o0_17 : (o0.1 17).toInt = (yo0.1 17).toInt := congrArg Int32.toInt (r_o0.1 17 rfl)
  have g_o0_18 : (0 : Int) ≤ (o0.1 18).toInt ∧ (o0.1 18).toInt ≤ 1 := k_o0.1 18
  have ey_o0_18 : (o0.1 18).toInt = (yo0.1 18).toInt := congrArg Int32.toInt (r_o0.1 18 rfl)
  have g_o0_30 : (0 : Int) ≤ (o0.1 30).toInt ∧ (o0.1 30).toInt ≤ 4 := k_o0.1 30
  have g_o1_1 : (0 : Int) ≤ (o1.1 1).toInt ∧ (o1.1 1).toInt ≤ 0 := k_o1.1 1
  have ey_o1_1 : (o1.1 1).toInt = (yo1.1 1).toInt := congrArg Int32.toInt (r_o1.1 1 rfl)
  have g_o1_2 : (0 : Int) ≤ (o1.1 2).toInt ∧ (o1.1 2).toInt ≤ 0 := k_o1.1 2
  have ey_o1_2 : (o1.1 2).toInt = (yo1.1 2).toInt := congrArg Int32.toInt (r_o1.1 2 rfl)
  have g_o1_3 : (0 : Int) ≤ (o1.1 3).toInt ∧ (o1.1 3).toInt ≤ 0 := k_o1.1 3
  have ey_o1_3 : (o1.1 3).toInt = (yo1.1 3).toInt := congrArg Int32.toInt (r_o1.1 3 rfl)
  have g_o1_4 : (0 : Int) ≤ (o1.1 4).toInt ∧ (o1.1 4).toInt ≤ 0 := k_o1.1 4
  have ey_o1_4 : (o1.1 4).toInt = (yo1.1 4).toInt := congrArg Int32.toInt (r_o1.1 4 rfl)
  have g_o1_5 : (0 : Int) ≤ (o1.1 5).toInt ∧ (o1.1 5).toInt ≤ 0 := k_o1.1 5
  have ey_o1_5 : (o1.1 5).toInt = (yo1.1 5).toInt := congrArg Int32.toInt (r_o1.1 5 rfl)
  have g_o1_16 : (0 : Int) ≤ (o1.1 16).toInt ∧ (o1.1 16).toInt ≤ 0 := k_o1.1 16
  have ey_o1_16 : (o1.1 16).toInt = (yo1.1 16).toInt := congrArg Int32.toInt (r_o1.1 16 rfl)
  have g_o1_17 : (0 : Int) ≤ (o1.1 17).toInt ∧ (o1.1 17).toInt ≤ 0 := k_o1.1 17
  have ey_o1_17 : (o1.1 17).toInt = (yo1.1 17).toInt := congrArg Int32.toInt (r_o1.1 17 rfl)
  have g_o1_18 : (0 : Int) ≤ (o1.1 18).toInt ∧ (o1.1 18).toInt ≤ 0 := k_o1.1 18
  have ey_o1_18 : (o1.1 18).toInt = (yo1.1 18).toInt := congrArg Int32.toInt (r_o1.1 18 rfl)
  have g_o1_30 : (0 : Int) ≤ (o1.1 30).toInt ∧ (o1.1 30).toInt ≤ 0 := k_o1.1 30
  have ey_o1_30 : (o1.1 30).toInt = (yo1.1 30).toInt := congrArg Int32.toInt (r_o1.1 30 rfl)
  have g_o2_0 : (0 : Int) ≤ (o2.1 0).toInt ∧ (o2.1 0).toInt ≤ 8 := k_o2.1 0
  have ey_o2_0 : (o2.1 0).toInt = (yo2.1 0).toInt := congrArg Int32.toInt (r_o2.1 0 rfl)
  have g_o2_1 : (0 : Int) ≤ (o2.1 1).toInt ∧ (o2.1 1).toInt ≤ 6 := k_o2.1 1
  have ey_o2_1 : (o2.1 1).toInt = (yo2.1 1).toInt := congrArg Int32.toInt (r_o2.1 1 rfl)
  have g_o2_2 : (0 : Int) ≤ (o2.1 2).toInt ∧ (o2.1 2).toInt ≤ 200 := k_o2.1 2
  have ey_o2_2 : (o2.1 2).toInt = (yo2.1 2).toInt := congrArg Int32.toInt (r_o2.1 2 rfl)
  have g_o2_3 : (0 : Int) ≤ (o2.1 3).toInt ∧ (o2.1 3).toInt ≤ 1 := k_o2.1 3
  have ey_o2_3 : (o2.1 3).toInt = (yo2.1 3).toInt := congrArg Int32.toInt (r_o2.1 3 rfl)
  have g_o2_4 : (0 : Int) ≤ (o2.1 4).toInt ∧ (o2.1 4).toInt ≤ 0 := k_o2.1 4
  have ey_o2_4 : (o2.1 4).toInt = (yo2.1 4).toInt := congrArg Int32.toInt (r_o2.1 4 rfl)
  have g_o2_5 : (0 : Int) ≤ (o2.1 5).toInt ∧ (o2.1 5).toInt ≤ 0 := k_o2.1 5
  have ey_o2_5 : (o2.1 5).toInt = (yo2.1 5).toInt := congrArg Int32.toInt (r_o2.1 5 rfl)
  have g_o2_16 : (0 : Int) ≤ (o2.1 16).toInt ∧ (o2.1 16).toInt ≤ 0 := k_o2.1 16
  have ey_o2_16 : (o2.1 16).toInt = (yo2.1 16).toInt := congrArg Int32.toInt (r_o2.1 16 rfl)
  have g_o2_17 : (0 : Int) ≤ (o2.1 17).toInt ∧ (o2.1 17).toInt ≤ 0 := k_o2.1 17
  have ey_o2_17 : (o2.1 17).toInt = (yo2.1 17).toInt := congrArg Int32.toInt (r_o2.1 17 rfl)
  have g_o2_18 : (0 : Int) ≤ (o2.1 18).toInt ∧ (o2.1 18).toInt ≤ 0 := k_o2.1 18
  have ey_o2_18 : (o2.1 18).toInt = (yo2.1 18).toInt := congrArg Int32.toInt (r_o2.1 18 rfl)
  have g_o2_30 : (0 : Int) ≤ (o2.1 30).toInt ∧ (o2.1 30).toInt ≤ 0 := k_o2.1 30
  have ey_o2_30 : (o2.1 30).toInt = (yo2.1 30).toInt := congrArg Int32.toInt (r_o2.1 30 rfl)
  refine tt_if (fun c1 => ?_) (fun c1 => ?_)
  · have wc1 : (o2.1 1).toInt ≤ v3.toInt := c_le c1
    have k2 := ok_fp (k := 30) (v := 0) k_o0 (iv_w (a := 0) (b := 4) (by decide) (by decide) (show (0 : Int) ≤ (0 : Int32).toInt ∧ (0 : Int32).toInt ≤ 0 by decide))
    have r3 := fr_fp (k := 30) (v := 0) r_o0 rfl
    exact tt_some ⟨i_v2, k2, r3, (iv_w (a := 0) (b := 2) (by decide) (by decide) (show (0 : Int) ≤ (0 : Int32).toInt ∧ (0 : Int32).toInt ≤ 0 by decide)), k_o1, r_o1, (show 0 = 0 ∨ 0 = 2 ∨ 0 = 1 by omega), trivial⟩
  · have wc1 : v3.toInt < (o2.1 1).toInt := c_nle c1
    have i4 : (0 : Int) ≤ v3.toInt ∧ v3.toInt ≤ 5 := nr_nlel c1 i_v3 (k_o2.1 1) (by decide) (by decide)
    have i5 : (1 : Int) ≤ (o2.1 1).toInt ∧ (o2.1 1).toInt ≤ 6 := nr_nler c1 i_v3 (k_o2.1 1) (by decide) (by decide)
    refine tt_n (ix_ok i4 (by decide) (by decide)) ?_
    refine tt_kv (P := fun z => ((0 : Int) ≤ z.toInt ∧ z.toInt ≤ 417) ∧ z = (o2.2.1 7 v3.toNatClampNeg) ∧ z.toInt = (o2.2.1 7 v3.toNatClampNeg).toInt) ⟨(k_o2.2 7 _), rfl, rfl⟩ (fun x6 qi7 => ?_)
    obtain ⟨i7, ax6, ei7⟩ := qi7
    refine tt_b (sFu_bit _ _ _ k_o1 i7 (show (0 : Int) ≤ _ ∧ _ ≤ (255 : Int) by omega) f_o1_0) (fun q8 hq8 => ?_)
    obtain ⟨i_q8, -⟩ := hq8
    try unfold fF_value_71
    refine tt_kv (P := fun z => ((0 : Int) ≤ z.toInt ∧ z.toInt ≤ 32) ∧ z = (q8 <<< (v3 &&& 31))) ⟨iv_shl (p := 0) (q := 5) i_q8 i4 (by decide) (by decide) (by decide) (by decide) (by decide), rfl⟩ (fun x9 qi10 => ?_)
    obtain ⟨i10, ax9⟩ := qi10
    refine tt_kv (P := fun z => ((0 : Int) ≤ z.toInt ∧ z.toInt ≤ 127) ∧ z = (v2 ||| x9)) ⟨iv_or (w := 7) i_v2 i10 (by decide) (by decide) (by decide) (by decide) (by decide) (by decide) (by decide), rfl⟩ (fun x11 qi12 => ?_)
    obtain ⟨i12, ax11⟩ := qi12
    refine tt_kv (P := fun z => ((1 : Int) ≤ z.toInt ∧ z.toInt ≤ 6) ∧ z = (v3 + 1) ∧ z.toInt = v3.toInt + 1) ⟨iv_add i4 (show (1 : Int) ≤ (1 : Int32).toInt ∧ (1 : Int32).toInt ≤ 1 by decide) (by decide) (by decide) (by decide) (by decide), rfl, iq_add i4 (show (1 : Int) ≤ (1 : Int32).toInt ∧ (1 : Int32).toInt ≤ 1 by decide) (by decide) (by decide)⟩ (fun x13 qi14 => ?_)
    obtain ⟨i14, ax13, ei14⟩ := qi14
    exact H _ _ _ _ _ _ k_o0 r_o0 k_o1 r_o1 k_o2 r_o2 i12 (iv_w (a := 0) (b := 6) (by decide) (by decide) i14) f_o0_16 f_o1_0 x_0 x_1 (show 0 ≤ v1.toInt by omega) (show v1.toInt ≤ 255 by omega) (show 0 + (6 - x13.toInt) * 2 < (n : Int) by omega)
set_option maxHeartbeats 4000000 in
set_option maxRecDepth 100000 in
theorem hF_value (yv1 : Int32) (yo0 : cf_O) (yo1 : cf_O) (yo2 : cf_O) : ∀ n, HF_value yv1 yo0 yo1 yo2 n := by
  intro n
  induction n with
  | zero => exact (fun v1 v2 v3 o0 o1 o2 k_o0 r_o0 k_o1 r_o1 k_o2 r_o2 i_v2 i_v3 f_o0_16 f_o1_0 x_0 x_1 x_2 x_3 hm => by exact absurd (show 0 + (6 - v3.toInt) * 2 < (0 : Int) from hm) (by omega))
  | succ n ih => exact (fun v1 v2 v3 o0 o1 o2 k_o0 r_o0 k_o1 r_o1 k_o2 r_o2 i_v2 i_v3 f_o0_16 f_o1_0 x_0 x_1 x_2 x_3 hm => tF_value_42 ih v1 v2 v3 o0 o1 o2 k_o0 r_o0 k_o1 r_o1 k_o2 r_o2 i_v2 i_v3 f_o0_16 f_o1_0 x_0 x_1 x_2 x_3 (by omega))
set_option maxHeartbeats 4000000 in
set_option maxRecDepth 100000 in
theorem sF_value (v1 : Int32) (o0 : cf_O) (o1 : cf_O) (o2 : cf_O) (k_o0 : okO I_F o0) (k_o1 : okO I_Fu o1) (k_o2 : okO I_Gr o2) (x_0 : Gx ((o2.1 0).toInt + 1) (o2.1 2).toInt (sh ((o2.1 0).toInt + 1) (o2.2.1 4)) (sh ((o2.1 0).toInt + 1) (o2.2.1 5))) (x_1 : No (o2.1 1).toInt (((o2.1 0).toInt + 1) + (o2.1 2).toInt) (o2.2.1 7)) : tt (fF_value v1 o0 o1 o2) (QF_value v1 o0 o1 o2) := by
  have H := hF_value v1 o0 o1 o2 cfFU
  have hm : (15 : Int) ≤ (cfFU : Nat) := by decide
  have r_o0 : Fr (fr_M [30] [] []) o0 o0 := fr_rfl
  have r_o1 : Fr (fr_M [0] [] [1]) o1 o1 := fr_rfl
  have r_o2 : Fr (fr_M [] [] []) o2 o2 := fr_rfl
  unfold fF_value fF_value_0
  have i_v1 := iv_top v1
  have g_o0_0 : (0 : Int) ≤ (o0.1 0).toInt ∧ (o0.1 0).toInt ≤ 0 := k_o0.1 0
  have g_o0_1 : (0 : Int) ≤ (o0.1 1).toInt ∧ (o0.1 1).toInt ≤ 0 := k_o0.1 1
  have g_o0_2 : (0 : Int) ≤ (o0.1 2).toInt ∧ (o0.1 2).toInt ≤ 0 := k_o0.1 2
  have g_o0_3 : (0 : Int) ≤ (o0.1 3).toInt ∧ (o0.1 3).toInt ≤ 0 := k_o0.1 3
  have g_o0_4 : (0 : Int) ≤ (o0.1 4).toInt ∧ (o0.1 4).toInt ≤ 0 := k_o0.1 4
  have g_o0_5 : (0 : Int) ≤ (o0.1 5).toInt ∧ (o0.1 5).toInt ≤ 0 := k_o0.1 5
  have g_o0_16 : (0 : Int) ≤ (o0.1 16).toInt ∧ (o0.1 16).toInt ≤ 1 := k_o0.1 16
  have g_o0_17 : (0 : Int) ≤ (o0.1 17).toInt ∧ (o0.1 17).toInt ≤ 1 := k_o0.1 17
  have g_o0_18 : (0 : Int) ≤ (o0.1 18).toInt ∧ (o0.1 18).toInt ≤ 1 := k_o0.1 18
  have g_o0_30 : (0 : Int) ≤ (o0.1 30).toInt ∧ (o0.1 30).toInt ≤ 4 := k_o0.1 30
  have g_o1_0 : (0 : Int) ≤ (o1.1 0).toInt ∧ (o1.1 0).toInt ≤ 1 := k_o1.1 0
  have g_o1_1 : (0 : Int) ≤ (o1.1 1).toInt ∧ (o1.1 1).toInt ≤ 0 := k_o1.1 1
  have g_o1_2 : (0 : Int) ≤ (o1.1 2).toInt ∧ (o1.1 2).toInt ≤ 0 := k_o1.1 2
  have g_o1_3 : (0 : Int) ≤ (o1.1 3).toInt ∧ (o1.1 3).toInt ≤ 0 := k_o1.1 3
  have g_o1_4 : (0 : Int) ≤ (o1.1 4).toInt ∧ (o1.1 4).toInt ≤ 0 := k_o1.1 4
  have g_o1_5 : (0 : Int) ≤ (o1.1 5).toInt ∧ (o1.1 5).toInt ≤ 0 := k_o1.1 5
  have g_o1_16 : (0 : Int) ≤ (o1.1 16).toInt ∧ (o1.1 16).toInt ≤ 0 := k_o1.1 16
  have g_o1_17 : (0 : Int) ≤ (o1.1 17).toInt ∧ (o1.1 17).toInt ≤ 0 := k_o1.1 17
  have g_o1_18 : (0 : Int) ≤ (o1.1 18).toInt ∧ (o1.1 18).toInt ≤ 0 := k_o1.1 18
  have g_o1_30 : (0 : Int) ≤ (o1.1 30).toInt ∧ (o1.1 30).toInt ≤ 0 := k_o1.1 30
  have g_o2_0 : (0 : Int) ≤ (o2.1 0).toInt ∧ (o2.1 0).toInt ≤ 8 := k_o2.1 0
  have g_o2_1 : (0 : Int) ≤ (o2.1 1).toInt ∧ (o2.1 1).toInt ≤ 6 := k_o2.1 1
  have g_o2_2 : (0 : Int) ≤ (o2.1 2).toInt ∧ (o2.1 2).toInt ≤ 200 := k_o2.1 2
  have g_o2_3 : (0 : Int) ≤ (o2.1 3).toInt ∧ (o2.1 3).toInt ≤ 1 := k_o2.1 3
  have g_o2_4 : (0 : Int) ≤ (o2.1 4).toInt ∧ (o2.1 4).toInt ≤ 0 := k_o2.1 4
  have g_o2_5 : (0 : Int) ≤ (o2.1 5).toInt ∧ (o2.1 5).toInt ≤ 0 := k_o2.1 5
  have g_o2_16 : (0 : Int) ≤ (o2.1 16).toInt ∧ (o2.1 16).toInt ≤ 0 := k_o2.1 16
  have g_o2_17 : (0 : Int) ≤ (o2.1 17).toInt ∧ (o2.1 17).toInt ≤ 0 := k_o2.1 17
  have g_o2_18 : (0 : Int) ≤ (o2.1 18).toInt ∧ (o2.1 18).toInt ≤ 0 := k_o2.1 18
  have g_o2_30 : (0 : Int) ≤ (o2.1 30).toInt ∧ (o2.1 30).toInt ≤ 0 := k_o2.1 30
  refine tt_if (fun c1 => ?_) (fun c1 => ?_)
  · have wc1 : (o0.1 16).toInt = (0 : Int) := c_eq c1
    have i2 : (0 : Int) ≤ (o0.1 16).toInt ∧ (o0.1 16).toInt ≤ 0 := nr_eql c1 (k_o0.1 16) (show (0 : Int) ≤ (0 : Int32).toInt ∧ (0 : Int32).toInt ≤ 0 by decide) (by decide) (by decide)
    have k3 := ok_fp (k := 30) (v := 2) k_o0 (iv_w (a := 0) (b := 4) (by decide) (by decide) (show (2 : Int) ≤ (2 : Int32).toInt ∧ (2 : Int32).toInt ≤ 2 by decide))
    have r4 := fr_fp (k := 30) (v := 2) r_o0 rfl
    exact tt_some ⟨(iv_w (a := 0) (b := 127) (by decide) (by decide) (show (0 : Int) ≤ (0 : Int32).toInt ∧ (0 : Int32).toInt ≤ 0 by decide)), k3, r4, (iv_w (a := 0) (b := 2) (by decide) (by decide) (show (2 : Int) ≤ (2 : Int32).toInt ∧ (2 : Int32).toInt ≤ 2 by decide)), k_o1, r_o1, (show 2 = 0 ∨ 2 = 2 ∨ 2 = 1 by omega), trivial⟩
  · have wc1 : ¬ (o0.1 16).toInt = (0 : Int) := c_ne c1
    have i5 : (1 : Int) ≤ (o0.1 16).toInt ∧ (o0.1 16).toInt ≤ 1 := nr_nela c1 (k_o0.1 16) (show (0 : Int) ≤ (0 : Int32).toInt ∧ (0 : Int32).toInt ≤ 0 by decide) (by decide) (by decide)
    try unfold fF_value_7
    refine tt_kv (P := fun z => (((-2147483648) : Int) ≤ z.toInt ∧ z.toInt ≤ 2147483647) ∧ z = (v1.toUInt32 >>> ((o2.1 0).toUInt32 &&& (31 : Int32).toUInt32)).toInt32) ⟨iv_top _, rfl⟩ (fun x6 qi7 => ?_)
    obtain ⟨i7, ax6⟩ := qi7
    have t8 := val_b ax6 (by omega) (by omega)
    refine tt_if (fun c9 => ?_) (fun c9 => ?_)
    · have wc9 : x6.toInt = (0 : Int) := c_eq c9
      have i10 : (0 : Int) ≤ x6.toInt ∧ x6.toInt ≤ 0 := nr_eql c9 i7 (show (0 : Int) ≤ (0 : Int32).toInt ∧ (0 : Int32).toInt ≤ 0 by decide) (by decide) (by decide)
      refine tt_b (sFu_find _ _ k_o1 k_o2) (fun q11 hq11 => ?_)
      obtain ⟨k_q11, n_q11, f_q11_0, -⟩ := hq11
      have r_q11 := fr_tr r_o1 n_q11 rfl rfl rfl
      have e_q11_1 : (q11.1 1).toInt = (o1.1 1).toInt := congrArg Int32.toInt (n_q11.1 1 rfl)
      have g_q11_1 : (0 : Int) ≤ (q11.1 1).toInt ∧ (q11.1 1).toInt ≤ 0 := k_q11.1 1
      have e_q11_2 : (q11.1 2).toInt = (o1.1 2).toInt := congrArg Int32.toInt (n_q11.1 2 rfl)
      have g_q11_2 : (0 : Int) ≤ (q11.1 2).toInt ∧ (q11.1 2).toInt ≤ 0 := k_q11.1 2
      have e_q11_3 : (q11.1 3).toInt = (o1.1 3).toInt := congrArg Int32.toInt (n_q11.1 3 rfl)
      have g_q11_3 : (0 : Int) ≤ (q11.1 3).toInt ∧ (q11.1 3).toInt ≤ 0 := k_q11.1 3
      have e_q11_4 : (q11.1 4).toInt = (o1.1 4).toInt := congrArg Int32.toInt (n_q11.1 4 rfl)
      have g_q11_4 : (0 : Int) ≤ (q11.1 4).toInt ∧ (q11.1 4).toInt ≤ 0 := k_q11.1 4
      have e_q11_5 : (q11.1 5).toInt = (o1.1 5).toInt := congrArg Int32.toInt (n_q11.1 5 rfl)
      have g_q11_5 : (0 : Int) ≤ (q11.1 5).toInt ∧ (q11.1 5).toInt ≤ 0 := k_q11.1 5
      have e_q11_16 : (q11.1 16).toInt = (o1.1 16).toInt := congrArg Int32.toInt (n_q11.1 16 rfl)
      have g_q11_16 : (0 : Int) ≤ (q11.1 16).toInt ∧ (q11.1 16).toInt ≤ 0 := k_q11.1 16
      have e_q11_17 : (q11.1 17).toInt = (o1.1 17).toInt := congrArg Int32.toInt (n_q11.1 17 rfl)
      have g_q11_17 : (0 : Int) ≤ (q11.1 17).toInt ∧ (q11.1 17).toInt ≤ 0 := k_q11.1 17
      have e_q11_18 : (q11.1 18).toInt = (o1.1 18).toInt := congrArg Int32.toInt (n_q11.1 18 rfl)
      have g_q11_18 : (0 : Int) ≤ (q11.1 18).toInt ∧ (q11.1 18).toInt ≤ 0 := k_q11.1 18
      have e_q11_30 : (q11.1 30).toInt = (o1.1 30).toInt := congrArg Int32.toInt (n_q11.1 30 rfl)
      have g_q11_30 : (0 : Int) ≤ (q11.1 30).toInt ∧ (q11.1 30).toInt ≤ 0 := k_q11.1 30
      try unfold fF_value_38
      exact H _ _ _ _ _ _ k_o0 r_o0 k_q11 r_q11 k_o2 r_o2 (iv_w (a := 0) (b := 127) (by decide) (by decide) (show (0 : Int) ≤ (0 : Int32).toInt ∧ (0 : Int32).toInt ≤ 0 by decide)) (iv_w (a := 0) (b := 6) (by decide) (by decide) (show (0 : Int) ≤ (0 : Int32).toInt ∧ (0 : Int32).toInt ≤ 0 by decide)) i5 f_q11_0 x_0 x_1 (show 0 ≤ v1.toInt by omega) (show v1.toInt ≤ 255 by omega) (show 0 + (6 - 0) * 2 < ((cfFU : Nat) : Int) by omega)
    · have wc9 : ¬ x6.toInt = (0 : Int) := c_ne c9
      have k12 := ok_fp (k := 30) (v := 1) k_o0 (iv_w (a := 0) (b := 4) (by decide) (by decide) (show (1 : Int) ≤ (1 : Int32).toInt ∧ (1 : Int32).toInt ≤ 1 by decide))
      have r13 := fr_fp (k := 30) (v := 1) r_o0 rfl
      exact tt_some ⟨(iv_w (a := 0) (b := 127) (by decide) (by decide) (show (0 : Int) ≤ (0 : Int32).toInt ∧ (0 : Int32).toInt ≤ 0 by decide)), k12, r13, (iv_w (a := 0) (b := 2) (by decide) (by decide) (show (1 : Int) ≤ (1 : Int32).toInt ∧ (1 : Int32).toInt ≤ 1 by decide)), k_o1, r_o1, (show 1 = 0 ∨ 1 = 2 ∨ 1 = 1 by omega), trivial⟩
def QF_balance (o0 : cf_O) (o1 : cf_O) (o2 : cf_O) (o3 : cf_O) (o4 : cf_O) (o5 : cf_O) (r : (Int32 × cf_O × cf_O × cf_O × cf_O × cf_O × cf_O)) : Prop := ((0 : Int) ≤ r.1.toInt ∧ r.1.toInt ≤ 200) ∧ (okO I_F r.2.1) ∧ (okO I_Fu r.2.2.1) ∧ (okO I_Cu r.2.2.2.1) ∧ (okO I_Re r.2.2.2.2.1) ∧ (okO I_Gr r.2.2.2.2.2.1) ∧ (okO I_Gr r.2.2.2.2.2.2) ∧ (Gx ((r.2.2.2.2.2.1.1 0).toInt + 1) (r.2.2.2.2.2.1.1 2).toInt (sh ((r.2.2.2.2.2.1.1 0).toInt + 1) (r.2.2.2.2.2.1.2.1 4)) (sh ((r.2.2.2.2.2.1.1 0).toInt + 1) (r.2.2.2.2.2.1.2.1 5))) ∧ (No (r.2.2.2.2.2.1.1 1).toInt (((r.2.2.2.2.2.1.1 0).toInt + 1) + (r.2.2.2.2.2.1.1 2).toInt) (r.2.2.2.2.2.1.2.1 7)) ∧ (Fqs (r.2.2.2.1.1 0).toInt (r.2.2.2.2.2.1.1 0).toInt (((r.2.2.2.2.2.1.1 0).toInt + 1) + (r.2.2.2.2.2.1.1 2).toInt) (r.2.2.2.1.1 3).toInt (r.2.2.2.1.2.1 2) (r.2.2.2.1.2.1 1) (r.2.2.2.1.2.2 4)) ∧ (Rcf (r.2.2.2.1.1 0).toInt (r.2.2.2.1.1 3).toInt (r.2.2.2.2.2.1.1 0).toInt (((r.2.2.2.2.2.1.1 0).toInt + 1) + (r.2.2.2.2.2.1.1 2).toInt) (r.2.2.2.2.2.1.2.1 4) (r.2.2.2.2.2.1.2.1 5) (r.2.2.2.1.2.1 2) (r.2.2.2.1.2.2 4)) ∧ ((r.2.2.2.1.1 3).toInt ≤ (r.2.2.2.1.1 4).toInt) ∧ ((r.2.2.2.1.1 4).toInt = (r.2.2.2.1.1 5).toInt) ∧ ((r.2.1.1 17).toInt = 0 ∨ (r.2.1.1 17).toInt = (o0.1 17).toInt) ∧ ((r.2.1.1 18).toInt = 0 ∨ (r.2.1.1 18).toInt = (o0.1 18).toInt) ∧ ((r.2.1.1 30).toInt = 0 ∨ (r.2.1.1 30).toInt = 2 ∨ (r.2.1.1 30).toInt = 4) ∧ True
set_option maxHeartbeats 4000000 in
set_option maxRecDepth 100000 in
theorem sF_balance (o0 : cf_O) (o1 : cf_O) (o2 : cf_O) (o3 : cf_O) (o4 : cf_O) (o5 : cf_O) (k_o0 : okO I_F o0) (k_o1 : okO I_Fu o1) (k_o2 : okO I_Cu o2) (k_o3 : okO I_Re o3) (k_o4 : okO I_Gr o4) (k_o5 : okO I_Gr o5) (x_0 : Gx ((o4.1 0).toInt + 1) (o4.1 2).toInt (sh ((o4.1 0).toInt + 1) (o4.2.1 4)) (sh ((o4.1 0).toInt + 1) (o4.2.1 5))) (x_1 : No (o4.1 1).toInt (((o4.1 0).toInt + 1) + (o4.1 2).toInt) (o4.2.1 7)) (x_2 : Fqs (o2.1 0).toInt (o4.1 0).toInt (((o4.1 0).toInt + 1) + (o4.1 2).toInt) (o2.1 3).toInt (o2.2.1 2) (o2.2.1 1) (o2.2.2 4)) (x_3 : Rcf (o2.1 0).toInt (o2.1 3).toInt (o4.1 0).toInt (((o4.1 0).toInt + 1) + (o4.1 2).toInt) (o4.2.1 4) (o4.2.1 5) (o2.2.1 2) (o2.2.2 4)) (x_4 : (o2.1 3).toInt ≤ (o2.1 4).toInt) (x_5 : (o2.1 4).toInt = (o2.1 5).toInt) : tt (fF_balance o0 o1 o2 o3 o4 o5) (QF_balance o0 o1 o2 o3 o4 o5) := by
  have r_o0 : Fr (fr_M [17, 18, 30] [] []) o0 o0 := fr_rfl
  have r_o1 : Fr (fr_M [0] [] []) o1 o1 := fr_rfl
  have r_o2 : Fr (fr_M [0] [] []) o2 o2 := fr_rfl
  have r_o3 : Fr (fr_M [7] [0, 1, 3, 4, 5, 6] []) o3 o3 := fr_rfl
  have r_o4 : Fr (fr_M [] [] []) o4 o4 := fr_rfl
  have r_o5 : Fr (fr_M [0, 1, 2, 3] [4, 5, 6, 7, 8, 9] []) o5 o5 := fr_rfl
  unfold fF_balance fF_balance_0
  have g_o0_0 : (0 : Int) ≤ (o0.1 0).toInt ∧ (o0.1 0).toInt ≤ 0 := k_o0.1 0
  have g_o0_1 : (0 : Int) ≤ (o0.1 1).toInt ∧ (o0.1 1).toInt ≤ 0 := k_o0.1 1
  have g_o0_2 : (0 : Int) ≤ (o0.1 2).toInt ∧ (o0.1 2).toInt ≤ 0 := k_o0.1 2
  have g_o0_3 : (0 : Int) ≤ (o0.1 3).toInt ∧ (o0.1 3).toInt ≤ 0 := k_o0.1 3
  have g_o0_4 : (0 : Int) ≤ (o0.1 4).toInt ∧ (o0.1 4).toInt ≤ 0 := k_o0.1 4
  have g_o0_5 : (0 : Int) ≤ (o0.1 5).toInt ∧ (o0.1 5).toInt ≤ 0 := k_o0.1 5
  have g_o0_16 : (0 : Int) ≤ (o0.1 16).toInt ∧ (o0.1 16).toInt ≤ 1 := k_o0.1 16
  have g_o0_17 : (0 : Int) ≤ (o0.1 17).toInt ∧ (o0.1 17).toInt ≤ 1 := k_o0.1 17
  have g_o0_18 : (0 : Int) ≤ (o0.1 18).toInt ∧ (o0.1 18).toInt ≤ 1 := k_o0.1 18
  have g_o0_30 : (0 : Int) ≤ (o0.1 30).toInt ∧ (o0.1 30).toInt ≤ 4 := k_o0.1 30
  have g_o1_0 : (0 : Int) ≤ (o1.1 0).toInt ∧ (o1.1 0).toInt ≤ 1 := k_o1.1 0
  have g_o1_1 : (0 : Int) ≤ (o1.1 1).toInt ∧ (o1.1 1).toInt ≤ 0 := k_o1.1 1
  have g_o1_2 : (0 : Int) ≤ (o1.1 2).toInt ∧ (o1.1 2).toInt ≤ 0 := k_o1.1 2
  have g_o1_3 : (0 : Int) ≤ (o1.1 3).toInt ∧ (o1.1 3).toInt ≤ 0 := k_o1.1 3
  have g_o1_4 : (0 : Int) ≤ (o1.1 4).toInt ∧ (o1.1 4).toInt ≤ 0 := k_o1.1 4
  have g_o1_5 : (0 : Int) ≤ (o1.1 5).toInt ∧ (o1.1 5).toInt ≤ 0 := k_o1.1 5
  have g_o1_16 : (0 : Int) ≤ (o1.1 16).toInt ∧ (o1.1 16).toInt ≤ 0 := k_o1.1 16
  have g_o1_17 : (0 : Int) ≤ (o1.1 17).toInt ∧ (o1.1 17).toInt ≤ 0 := k_o1.1 17
  have g_o1_18 : (0 : Int) ≤ (o1.1 18).toInt ∧ (o1.1 18).toInt ≤ 0 := k_o1.1 18
  have g_o1_30 : (0 : Int) ≤ (o1.1 30).toInt ∧ (o1.1 30).toInt ≤ 0 := k_o1.1 30
  have g_o2_0 : ((-2147483648) : Int) ≤ (o2.1 0).toInt ∧ (o2.1 0).toInt ≤ 2147483647 := k_o2.1 0
  have g_o2_1 : (0 : Int) ≤ (o2.1 1).toInt ∧ (o2.1 1).toInt ≤ 0 := k_o2.1 1
  have g_o2_2 : (0 : Int) ≤ (o2.1 2).toInt ∧ (o2.1 2).toInt ≤ 0 := k_o2.1 2
  have g_o2_3 : (0 : Int) ≤ (o2.1 3).toInt ∧ (o2.1 3).toInt ≤ 62909 := k_o2.1 3
  have g_o2_4 : (1024 : Int) ≤ (o2.1 4).toInt ∧ (o2.1 4).toInt ≤ 131072 := k_o2.1 4
  have g_o2_5 : (1024 : Int) ≤ (o2.1 5).toInt ∧ (o2.1 5).toInt ≤ 131072 := k_o2.1 5
  have g_o2_16 : (0 : Int) ≤ (o2.1 16).toInt ∧ (o2.1 16).toInt ≤ 0 := k_o2.1 16
  have g_o2_17 : (0 : Int) ≤ (o2.1 17).toInt ∧ (o2.1 17).toInt ≤ 0 := k_o2.1 17
  have g_o2_18 : (0 : Int) ≤ (o2.1 18).toInt ∧ (o2.1 18).toInt ≤ 0 := k_o2.1 18
  have g_o2_30 : (0 : Int) ≤ (o2.1 30).toInt ∧ (o2.1 30).toInt ≤ 0 := k_o2.1 30
  have g_o3_0 : (0 : Int) ≤ (o3.1 0).toInt ∧ (o3.1 0).toInt ≤ 0 := k_o3.1 0
  have g_o3_1 : (0 : Int) ≤ (o3.1 1).toInt ∧ (o3.1 1).toInt ≤ 0 := k_o3.1 1
  have g_o3_2 : (0 : Int) ≤ (o3.1 2).toInt ∧ (o3.1 2).toInt ≤ 0 := k_o3.1 2
  have g_o3_3 : (0 : Int) ≤ (o3.1 3).toInt ∧ (o3.1 3).toInt ≤ 0 := k_o3.1 3
  have g_o3_4 : (0 : Int) ≤ (o3.1 4).toInt ∧ (o3.1 4).toInt ≤ 0 := k_o3.1 4
  have g_o3_5 : (0 : Int) ≤ (o3.1 5).toInt ∧ (o3.1 5).toInt ≤ 0 := k_o3.1 5
  have g_o3_16 : (0 : Int) ≤ (o3.1 16).toInt ∧ (o3.1 16).toInt ≤ 0 := k_o3.1 16
  have g_o3_17 : (0 : Int) ≤ (o3.1 17).toInt ∧ (o3.1 17).toInt ≤ 0 := k_o3.1 17
  have g_o3_18 : (0 : Int) ≤ (o3.1 18).toInt ∧ (o3.1 18).toInt ≤ 0 := k_o3.1 18
  have g_o3_30 : (0 : Int) ≤ (o3.1 30).toInt ∧ (o3.1 30).toInt ≤ 0 := k_o3.1 30
  have g_o4_0 : (0 : Int) ≤ (o4.1 0).toInt ∧ (o4.1 0).toInt ≤ 8 := k_o4.1 0
  have g_o4_1 : (0 : Int) ≤ (o4.1 1).toInt ∧ (o4.1 1).toInt ≤ 6 := k_o4.1 1
  have g_o4_2 : (0 : Int) ≤ (o4.1 2).toInt ∧ (o4.1 2).toInt ≤ 200 := k_o4.1 2
  have g_o4_3 : (0 : Int) ≤ (o4.1 3).toInt ∧ (o4.1 3).toInt ≤ 1 := k_o4.1 3
  have g_o4_4 : (0 : Int) ≤ (o4.1 4).toInt ∧ (o4.1 4).toInt ≤ 0 := k_o4.1 4
  have g_o4_5 : (0 : Int) ≤ (o4.1 5).toInt ∧ (o4.1 5).toInt ≤ 0 := k_o4.1 5
  have g_o4_16 : (0 : Int) ≤ (o4.1 16).toInt ∧ (o4.1 16).toInt ≤ 0 := k_o4.1 16
  have g_o4_17 : (0 : Int) ≤ (o4.1 17).toInt ∧ (o4.1 17).toInt ≤ 0 := k_o4.1 17
  have g_o4_18 : (0 : Int) ≤ (o4.1 18).toInt ∧ (o4.1 18).toInt ≤ 0 := k_o4.1 18
  have g_o4_30 : (0 : Int) ≤ (o4.1 30).toInt ∧ (o4.1 30).toInt ≤ 0 := k_o4.1 30
  have g_o5_0 : (0 : Int) ≤ (o5.1 0).toInt ∧ (o5.1 0).toInt ≤ 8 := k_o5.1 0
  have g_o5_1 : (0 : Int) ≤ (o5.1 1).toInt ∧ (o5.1 1).toInt ≤ 6 := k_o5.1 1
  have g_o5_2 : (0 : Int) ≤ (o5.1 2).toInt ∧ (o5.1 2).toInt ≤ 200 := k_o5.1 2
  have g_o5_3 : (0 : Int) ≤ (o5.1 3).toInt ∧ (o5.1 3).toInt ≤ 1 := k_o5.1 3
  have g_o5_4 : (0 : Int) ≤ (o5.1 4).toInt ∧ (o5.1 4).toInt ≤ 0 := k_o5.1 4
  have g_o5_5 : (0 : Int) ≤ (o5.1 5).toInt ∧ (o5.1 5).toInt ≤ 0 := k_o5.1 5
  have g_o5_16 : (0 : Int) ≤ (o5.1 16).toInt ∧ (o5.1 16).toInt ≤ 0 := k_o5.1 16
  have g_o5_17 : (0 : Int) ≤ (o5.1 17).toInt ∧ (o5.1 17).toInt ≤ 0 := k_o5.1 17
  have g_o5_18 : (0 : Int) ≤ (o5.1 18).toInt ∧ (o5.1 18).toInt ≤ 0 := k_o5.1 18
  have g_o5_30 : (0 : Int) ≤ (o5.1 30).toInt ∧ (o5.1 30).toInt ≤ 0 := k_o5.1 30
  refine tt_if (fun c1 => ?_) (fun c1 => ?_)
  · have wc1 : (o0.1 16).toInt = (0 : Int) := c_eq c1
    have i2 : (0 : Int) ≤ (o0.1 16).toInt ∧ (o0.1 16).toInt ≤ 0 := nr_eql c1 (k_o0.1 16) (show (0 : Int) ≤ (0 : Int32).toInt ∧ (0 : Int32).toInt ≤ 0 by decide) (by decide) (by decide)
    have k3 := ok_fp (k := 30) (v := 2) k_o0 (iv_w (a := 0) (b := 4) (by decide) (by decide) (show (2 : Int) ≤ (2 : Int32).toInt ∧ (2 : Int32).toInt ≤ 2 by decide))
    have r4 := fr_fp (k := 30) (v := 2) r_o0 rfl
    exact tt_some ⟨(iv_w (a := 0) (b := 200) (by decide) (by decide) (show (0 : Int) ≤ (0 : Int32).toInt ∧ (0 : Int32).toInt ≤ 0 by decide)), k3, k_o1, k_o2, k_o3, k_o4, k_o5, x_0, x_1, x_2, x_3, (show (o2.1 3).toInt ≤ (o2.1 4).toInt by omega), (show (o2.1 4).toInt = (o2.1 5).toInt by omega), (show (o0.1 17).toInt = 0 ∨ (o0.1 17).toInt = (o0.1 17).toInt by omega), (show (o0.1 18).toInt = 0 ∨ (o0.1 18).toInt = (o0.1 18).toInt by omega), (show 2 = 0 ∨ 2 = 2 ∨ 2 = 4 by omega), trivial⟩
  · have wc1 : ¬ (o0.1 16).toInt = (0 : Int) := c_ne c1
    have i5 : (1 : Int) ≤ (o0.1 16).toInt ∧ (o0.1 16).toInt ≤ 1 := nr_nela c1 (k_o0.1 16) (show (0 : Int) ≤ (0 : Int32).toInt ∧ (0 : Int32).toInt ≤ 0 by decide) (by decide) (by decide)
    try unfold fF_balance_7
    refine tt_b (sRe_makeBalanced _ _ _ k_o3 k_o4 k_o5 x_0 x_1) (fun q6 hq6 => ?_)
    obtain ⟨k_q6_1, n_q6_1, k_q6_2, n_q6_2, zq6_0, zq6_1, zq6_2, zq6_3, -⟩ := hq6
    have r_q6_1 := fr_tr r_o3 n_q6_1 rfl rfl rfl
    have e_q6_1_0 : (q6.1.1 0).toInt = (o3.1 0).toInt := congrArg Int32.toInt (n_q6_1.1 0 rfl)
    have g_q6_1_0 : (0 : Int) ≤ (q6.1.1 0).toInt ∧ (q6.1.1 0).toInt ≤ 0 := k_q6_1.1 0
    have e_q6_1_1 : (q6.1.1 1).toInt = (o3.1 1).toInt := congrArg Int32.toInt (n_q6_1.1 1 rfl)
    have g_q6_1_1 : (0 : Int) ≤ (q6.1.1 1).toInt ∧ (q6.1.1 1).toInt ≤ 0 := k_q6_1.1 1
    have e_q6_1_2 : (q6.1.1 2).toInt = (o3.1 2).toInt := congrArg Int32.toInt (n_q6_1.1 2 rfl)
    have g_q6_1_2 : (0 : Int) ≤ (q6.1.1 2).toInt ∧ (q6.1.1 2).toInt ≤ 0 := k_q6_1.1 2
    have e_q6_1_3 : (q6.1.1 3).toInt = (o3.1 3).toInt := congrArg Int32.toInt (n_q6_1.1 3 rfl)
    have g_q6_1_3 : (0 : Int) ≤ (q6.1.1 3).toInt ∧ (q6.1.1 3).toInt ≤ 0 := k_q6_1.1 3
    have e_q6_1_4 : (q6.1.1 4).toInt = (o3.1 4).toInt := congrArg Int32.toInt (n_q6_1.1 4 rfl)
    have g_q6_1_4 : (0 : Int) ≤ (q6.1.1 4).toInt ∧ (q6.1.1 4).toInt ≤ 0 := k_q6_1.1 4
    have e_q6_1_5 : (q6.1.1 5).toInt = (o3.1 5).toInt := congrArg Int32.toInt (n_q6_1.1 5 rfl)
    have g_q6_1_5 : (0 : Int) ≤ (q6.1.1 5).toInt ∧ (q6.1.1 5).toInt ≤ 0 := k_q6_1.1 5
    have e_q6_1_16 : (q6.1.1 16).toInt = (o3.1 16).toInt := congrArg Int32.toInt (n_q6_1.1 16 rfl)
    have g_q6_1_16 : (0 : Int) ≤ (q6.1.1 16).toInt ∧ (q6.1.1 16).toInt ≤ 0 := k_q6_1.1 16
    have e_q6_1_17 : (q6.1.1 17).toInt = (o3.1 17).toInt := congrArg Int32.toInt (n_q6_1.1 17 rfl)
    have g_q6_1_17 : (0 : Int) ≤ (q6.1.1 17).toInt ∧ (q6.1.1 17).toInt ≤ 0 := k_q6_1.1 17
    have e_q6_1_18 : (q6.1.1 18).toInt = (o3.1 18).toInt := congrArg Int32.toInt (n_q6_1.1 18 rfl)
    have g_q6_1_18 : (0 : Int) ≤ (q6.1.1 18).toInt ∧ (q6.1.1 18).toInt ≤ 0 := k_q6_1.1 18
    have e_q6_1_30 : (q6.1.1 30).toInt = (o3.1 30).toInt := congrArg Int32.toInt (n_q6_1.1 30 rfl)
    have g_q6_1_30 : (0 : Int) ≤ (q6.1.1 30).toInt ∧ (q6.1.1 30).toInt ≤ 0 := k_q6_1.1 30
    have r_q6_2 := fr_tr r_o5 n_q6_2 rfl rfl rfl
    have g_q6_2_0 : (0 : Int) ≤ (q6.2.1 0).toInt ∧ (q6.2.1 0).toInt ≤ 8 := k_q6_2.1 0
    have g_q6_2_1 : (0 : Int) ≤ (q6.2.1 1).toInt ∧ (q6.2.1 1).toInt ≤ 6 := k_q6_2.1 1
    have g_q6_2_2 : (0 : Int) ≤ (q6.2.1 2).toInt ∧ (q6.2.1 2).toInt ≤ 200 := k_q6_2.1 2
    have g_q6_2_3 : (0 : Int) ≤ (q6.2.1 3).toInt ∧ (q6.2.1 3).toInt ≤ 1 := k_q6_2.1 3
    have e_q6_2_4 : (q6.2.1 4).toInt = (o5.1 4).toInt := congrArg Int32.toInt (n_q6_2.1 4 rfl)
    have g_q6_2_4 : (0 : Int) ≤ (q6.2.1 4).toInt ∧ (q6.2.1 4).toInt ≤ 0 := k_q6_2.1 4
    have e_q6_2_5 : (q6.2.1 5).toInt = (o5.1 5).toInt := congrArg Int32.toInt (n_q6_2.1 5 rfl)
    have g_q6_2_5 : (0 : Int) ≤ (q6.2.1 5).toInt ∧ (q6.2.1 5).toInt ≤ 0 := k_q6_2.1 5
    have e_q6_2_16 : (q6.2.1 16).toInt = (o5.1 16).toInt := congrArg Int32.toInt (n_q6_2.1 16 rfl)
    have g_q6_2_16 : (0 : Int) ≤ (q6.2.1 16).toInt ∧ (q6.2.1 16).toInt ≤ 0 := k_q6_2.1 16
    have e_q6_2_17 : (q6.2.1 17).toInt = (o5.1 17).toInt := congrArg Int32.toInt (n_q6_2.1 17 rfl)
    have g_q6_2_17 : (0 : Int) ≤ (q6.2.1 17).toInt ∧ (q6.2.1 17).toInt ≤ 0 := k_q6_2.1 17
    have e_q6_2_18 : (q6.2.1 18).toInt = (o5.1 18).toInt := congrArg Int32.toInt (n_q6_2.1 18 rfl)
    have g_q6_2_18 : (0 : Int) ≤ (q6.2.1 18).toInt ∧ (q6.2.1 18).toInt ≤ 0 := k_q6_2.1 18
    have e_q6_2_30 : (q6.2.1 30).toInt = (o5.1 30).toInt := congrArg Int32.toInt (n_q6_2.1 30 rfl)
    have g_q6_2_30 : (0 : Int) ≤ (q6.2.1 30).toInt ∧ (q6.2.1 30).toInt ≤ 0 := k_q6_2.1 30
    have zq6_2 : (q6.2.1 0).toInt = (o4.1 0).toInt := zq6_2
    have zq6_3 : (q6.2.1 1).toInt = (o4.1 1).toInt := zq6_3
    try unfold fF_balance_22
    refine tt_if (fun c7 => ?_) (fun c7 => ?_)
    · have wc7 : (q6.2.1 3).toInt = (0 : Int) := c_eq c7
      have i8 : (0 : Int) ≤ (q6.2.1 3).toInt ∧ (q6.2.1 3).toInt ≤ 0 := nr_eql c7 (k_q6_2.1 3) (show (0 : Int) ≤ (0 : Int32).toInt ∧ (0 : Int32).toInt ≤ 0 by decide) (by decide) (by decide)
      try unfold fF_balance_37
      refine tt_if (fun c9 => ?_) (fun c9 => ?_)
      · have wc9 : (1 : Int) = (0 : Int) := c_eq c9
        exact (dd_eq c9 (show (1 : Int) ≤ (1 : Int32).toInt ∧ (1 : Int32).toInt ≤ 1 by decide) (show (0 : Int) ≤ (0 : Int32).toInt ∧ (0 : Int32).toInt ≤ 0 by decide) (by decide)).elim
      · have wc9 : ¬ (1 : Int) = (0 : Int) := c_ne c9
        try unfold fF_balance_40
        refine tt_b (sF_takeSpareNodes _ _ _ k_o0 k_o1 k_o2) (fun q10 hq10 => ?_)
        obtain ⟨k_q10_1, n_q10_1, f_q10_1_17, f_q10_1_18, f_q10_1_30, k_q10_2_1, n_q10_2_1, f_q10_2_1_0, k_q10_2_2, n_q10_2_2, f_q10_2_2_0, zq10_0, zq10_1, zq10_2, zq10_3, -⟩ := hq10
        have r_q10_1 := fr_tr r_o0 n_q10_1 rfl rfl rfl
        have f_q10_1_16 : (1 : Int) ≤ (q10.1.1 16).toInt ∧ (q10.1.1 16).toInt ≤ 1 := by rw [n_q10_1.1 16 rfl]; exact i5
        have e_q10_1_0 : (q10.1.1 0).toInt = (o0.1 0).toInt := congrArg Int32.toInt (n_q10_1.1 0 rfl)
        have g_q10_1_0 : (0 : Int) ≤ (q10.1.1 0).toInt ∧ (q10.1.1 0).toInt ≤ 0 := k_q10_1.1 0
        have e_q10_1_1 : (q10.1.1 1).toInt = (o0.1 1).toInt := congrArg Int32.toInt (n_q10_1.1 1 rfl)
        have g_q10_1_1 : (0 : Int) ≤ (q10.1.1 1).toInt ∧ (q10.1.1 1).toInt ≤ 0 := k_q10_1.1 1
        have e_q10_1_2 : (q10.1.1 2).toInt = (o0.1 2).toInt := congrArg Int32.toInt (n_q10_1.1 2 rfl)
        have g_q10_1_2 : (0 : Int) ≤ (q10.1.1 2).toInt ∧ (q10.1.1 2).toInt ≤ 0 := k_q10_1.1 2
        have e_q10_1_3 : (q10.1.1 3).toInt = (o0.1 3).toInt := congrArg Int32.toInt (n_q10_1.1 3 rfl)
        have g_q10_1_3 : (0 : Int) ≤ (q10.1.1 3).toInt ∧ (q10.1.1 3).toInt ≤ 0 := k_q10_1.1 3
        have e_q10_1_4 : (q10.1.1 4).toInt = (o0.1 4).toInt := congrArg Int32.toInt (n_q10_1.1 4 rfl)
        have g_q10_1_4 : (0 : Int) ≤ (q10.1.1 4).toInt ∧ (q10.1.1 4).toInt ≤ 0 := k_q10_1.1 4
        have e_q10_1_5 : (q10.1.1 5).toInt = (o0.1 5).toInt := congrArg Int32.toInt (n_q10_1.1 5 rfl)
        have g_q10_1_5 : (0 : Int) ≤ (q10.1.1 5).toInt ∧ (q10.1.1 5).toInt ≤ 0 := k_q10_1.1 5
        have e_q10_1_16 : (q10.1.1 16).toInt = (o0.1 16).toInt := congrArg Int32.toInt (n_q10_1.1 16 rfl)
        have r_q10_2_1 := fr_tr r_o1 n_q10_2_1 rfl rfl rfl
        have e_q10_2_1_1 : (q10.2.1.1 1).toInt = (o1.1 1).toInt := congrArg Int32.toInt (n_q10_2_1.1 1 rfl)
        have g_q10_2_1_1 : (0 : Int) ≤ (q10.2.1.1 1).toInt ∧ (q10.2.1.1 1).toInt ≤ 0 := k_q10_2_1.1 1
        have e_q10_2_1_2 : (q10.2.1.1 2).toInt = (o1.1 2).toInt := congrArg Int32.toInt (n_q10_2_1.1 2 rfl)
        have g_q10_2_1_2 : (0 : Int) ≤ (q10.2.1.1 2).toInt ∧ (q10.2.1.1 2).toInt ≤ 0 := k_q10_2_1.1 2
        have e_q10_2_1_3 : (q10.2.1.1 3).toInt = (o1.1 3).toInt := congrArg Int32.toInt (n_q10_2_1.1 3 rfl)
        have g_q10_2_1_3 : (0 : Int) ≤ (q10.2.1.1 3).toInt ∧ (q10.2.1.1 3).toInt ≤ 0 := k_q10_2_1.1 3
        have e_q10_2_1_4 : (q10.2.1.1 4).toInt = (o1.1 4).toInt := congrArg Int32.toInt (n_q10_2_1.1 4 rfl)
        have g_q10_2_1_4 : (0 : Int) ≤ (q10.2.1.1 4).toInt ∧ (q10.2.1.1 4).toInt ≤ 0 := k_q10_2_1.1 4
        have e_q10_2_1_5 : (q10.2.1.1 5).toInt = (o1.1 5).toInt := congrArg Int32.toInt (n_q10_2_1.1 5 rfl)
        have g_q10_2_1_5 : (0 : Int) ≤ (q10.2.1.1 5).toInt ∧ (q10.2.1.1 5).toInt ≤ 0 := k_q10_2_1.1 5
        have e_q10_2_1_16 : (q10.2.1.1 16).toInt = (o1.1 16).toInt := congrArg Int32.toInt (n_q10_2_1.1 16 rfl)
        have g_q10_2_1_16 : (0 : Int) ≤ (q10.2.1.1 16).toInt ∧ (q10.2.1.1 16).toInt ≤ 0 := k_q10_2_1.1 16
        have e_q10_2_1_17 : (q10.2.1.1 17).toInt = (o1.1 17).toInt := congrArg Int32.toInt (n_q10_2_1.1 17 rfl)
        have g_q10_2_1_17 : (0 : Int) ≤ (q10.2.1.1 17).toInt ∧ (q10.2.1.1 17).toInt ≤ 0 := k_q10_2_1.1 17
        have e_q10_2_1_18 : (q10.2.1.1 18).toInt = (o1.1 18).toInt := congrArg Int32.toInt (n_q10_2_1.1 18 rfl)
        have g_q10_2_1_18 : (0 : Int) ≤ (q10.2.1.1 18).toInt ∧ (q10.2.1.1 18).toInt ≤ 0 := k_q10_2_1.1 18
        have e_q10_2_1_30 : (q10.2.1.1 30).toInt = (o1.1 30).toInt := congrArg Int32.toInt (n_q10_2_1.1 30 rfl)
        have g_q10_2_1_30 : (0 : Int) ≤ (q10.2.1.1 30).toInt ∧ (q10.2.1.1 30).toInt ≤ 0 := k_q10_2_1.1 30
        have r_q10_2_2 := fr_tr r_o2 n_q10_2_2 rfl rfl rfl
        have e_q10_2_2_1 : (q10.2.2.1 1).toInt = (o2.1 1).toInt := congrArg Int32.toInt (n_q10_2_2.1 1 rfl)
        have g_q10_2_2_1 : (0 : Int) ≤ (q10.2.2.1 1).toInt ∧ (q10.2.2.1 1).toInt ≤ 0 := k_q10_2_2.1 1
        have e_q10_2_2_2 : (q10.2.2.1 2).toInt = (o2.1 2).toInt := congrArg Int32.toInt (n_q10_2_2.1 2 rfl)
        have g_q10_2_2_2 : (0 : Int) ≤ (q10.2.2.1 2).toInt ∧ (q10.2.2.1 2).toInt ≤ 0 := k_q10_2_2.1 2
        have e_q10_2_2_3 : (q10.2.2.1 3).toInt = (o2.1 3).toInt := congrArg Int32.toInt (n_q10_2_2.1 3 rfl)
        have g_q10_2_2_3 : (0 : Int) ≤ (q10.2.2.1 3).toInt ∧ (q10.2.2.1 3).toInt ≤ 62909 := k_q10_2_2.1 3
        have e_q10_2_2_4 : (q10.2.2.1 4).toInt = (o2.1 4).toInt := congrArg Int32.toInt (n_q10_2_2.1 4 rfl)
        have g_q10_2_2_4 : (1024 : Int) ≤ (q10.2.2.1 4).toInt ∧ (q10.2.2.1 4).toInt ≤ 131072 := k_q10_2_2.1 4
        have e_q10_2_2_5 : (q10.2.2.1 5).toInt = (o2.1 5).toInt := congrArg Int32.toInt (n_q10_2_2.1 5 rfl)
        have g_q10_2_2_5 : (1024 : Int) ≤ (q10.2.2.1 5).toInt ∧ (q10.2.2.1 5).toInt ≤ 131072 := k_q10_2_2.1 5
        have e_q10_2_2_16 : (q10.2.2.1 16).toInt = (o2.1 16).toInt := congrArg Int32.toInt (n_q10_2_2.1 16 rfl)
        have g_q10_2_2_16 : (0 : Int) ≤ (q10.2.2.1 16).toInt ∧ (q10.2.2.1 16).toInt ≤ 0 := k_q10_2_2.1 16
        have e_q10_2_2_17 : (q10.2.2.1 17).toInt = (o2.1 17).toInt := congrArg Int32.toInt (n_q10_2_2.1 17 rfl)
        have g_q10_2_2_17 : (0 : Int) ≤ (q10.2.2.1 17).toInt ∧ (q10.2.2.1 17).toInt ≤ 0 := k_q10_2_2.1 17
        have e_q10_2_2_18 : (q10.2.2.1 18).toInt = (o2.1 18).toInt := congrArg Int32.toInt (n_q10_2_2.1 18 rfl)
        have g_q10_2_2_18 : (0 : Int) ≤ (q10.2.2.1 18).toInt ∧ (q10.2.2.1 18).toInt ≤ 0 := k_q10_2_2.1 18
        have e_q10_2_2_30 : (q10.2.2.1 30).toInt = (o2.1 30).toInt := congrArg Int32.toInt (n_q10_2_2.1 30 rfl)
        have g_q10_2_2_30 : (0 : Int) ≤ (q10.2.2.1 30).toInt ∧ (q10.2.2.1 30).toInt ≤ 0 := k_q10_2_2.1 30
        have zq10_0 : (q10.1.1 17).toInt = 0 := zq10_0
        have zq10_1 : (q10.1.1 18).toInt = 0 := zq10_1
        have zq10_2 : (q10.2.2.1 0).toInt = 0 := zq10_2
        have zq10_3 : (q10.1.1 30).toInt = 0 := zq10_3
        refine tt_if (fun c11 => ?_) (fun c11 => ?_)
        · have wc11 : (q10.1.1 30).toInt = (0 : Int) := c_eq c11
          try unfold fF_balance_44
          have k12 := ok_fp (k := 30) (v := 0) k_q10_1 (iv_w (a := 0) (b := 4) (by decide) (by decide) (show (0 : Int) ≤ (0 : Int32).toInt ∧ (0 : Int32).toInt ≤ 0 by decide))
          have r13 := fr_fp (k := 30) (v := 0) r_q10_1 rfl
          have p14 : Gx ((q6.2.1 0).toInt + 1) (q6.2.1 2).toInt (sh ((q6.2.1 0).toInt + 1) (q6.2.2.1 4)) (sh ((q6.2.1 0).toInt + 1) (q6.2.2.1 5)) := by first | assumption | exact GI_x (by assumption)
          have p15 : No (q6.2.1 1).toInt (((q6.2.1 0).toInt + 1) + (q6.2.1 2).toInt) (q6.2.2.1 7) := by first | assumption | exact No_w x_1 (by omega) (by omega) | exact No_w zq6_1 (by omega) (by omega)
          have p16 : Fqs (q10.2.2.1 0).toInt (q6.2.1 0).toInt (((q6.2.1 0).toInt + 1) + (q6.2.1 2).toInt) (q10.2.2.1 3).toInt (q10.2.2.2.1 2) (q10.2.2.2.1 1) (q10.2.2.2.2 4) := by first | assumption | exact Fqs_0 (by omega)
          have p17 : Rcf (q10.2.2.1 0).toInt (q10.2.2.1 3).toInt (q6.2.1 0).toInt (((q6.2.1 0).toInt + 1) + (q6.2.1 2).toInt) (q6.2.2.1 4) (q6.2.2.1 5) (q10.2.2.2.1 2) (q10.2.2.2.2 4) := by first | assumption | exact Or.inl (by omega)
          exact tt_some ⟨(k_q6_2.1 2), k12, k_q10_2_1, k_q10_2_2, k_q6_1, k_q6_2, k_o4, p14, p15, p16, p17, (show (q10.2.2.1 3).toInt ≤ (q10.2.2.1 4).toInt by omega), (show (q10.2.2.1 4).toInt = (q10.2.2.1 5).toInt by omega), (show (q10.1.1 17).toInt = 0 ∨ (q10.1.1 17).toInt = (o0.1 17).toInt by omega), (show (q10.1.1 18).toInt = 0 ∨ (q10.1.1 18).toInt = (o0.1 18).toInt by omega), (show 0 = 0 ∨ 0 = 2 ∨ 0 = 4 by omega), trivial⟩
        · have wc11 : ¬ (q10.1.1 30).toInt = (0 : Int) := c_ne c11
          exact (dd_ne c11 f_q10_1_30 (show (0 : Int) ≤ (0 : Int32).toInt ∧ (0 : Int32).toInt ≤ 0 by decide)).elim
    · have wc7 : ¬ (q6.2.1 3).toInt = (0 : Int) := c_ne c7
      have i18 : (1 : Int) ≤ (q6.2.1 3).toInt ∧ (q6.2.1 3).toInt ≤ 1 := nr_nela c7 (k_q6_2.1 3) (show (0 : Int) ≤ (0 : Int32).toInt ∧ (0 : Int32).toInt ≤ 0 by decide) (by decide) (by decide)
      try unfold fF_balance_37
      refine tt_if (fun c19 => ?_) (fun c19 => ?_)
      · have wc19 : (0 : Int) = (0 : Int) := c_eq c19
        have k20 := ok_fp (k := 30) (v := 4) k_o0 (iv_w (a := 0) (b := 4) (by decide) (by decide) (show (4 : Int) ≤ (4 : Int32).toInt ∧ (4 : Int32).toInt ≤ 4 by decide))
        have r21 := fr_fp (k := 30) (v := 4) r_o0 rfl
        exact tt_some ⟨(iv_w (a := 0) (b := 200) (by decide) (by decide) (show (0 : Int) ≤ (0 : Int32).toInt ∧ (0 : Int32).toInt ≤ 0 by decide)), k20, k_o1, k_o2, k_q6_1, k_o4, k_q6_2, x_0, x_1, x_2, x_3, (show (o2.1 3).toInt ≤ (o2.1 4).toInt by omega), (show (o2.1 4).toInt = (o2.1 5).toInt by omega), (show (o0.1 17).toInt = 0 ∨ (o0.1 17).toInt = (o0.1 17).toInt by omega), (show (o0.1 18).toInt = 0 ∨ (o0.1 18).toInt = (o0.1 18).toInt by omega), (show 4 = 0 ∨ 4 = 2 ∨ 4 = 4 by omega), trivial⟩
      · have wc19 : ¬ (0 : Int) = (0 : Int) := c_ne c19
        exact (dd_ne c19 (show (0 : Int) ≤ (0 : Int32).toInt ∧ (0 : Int32).toInt ≤ 0 by decide) (show (0 : Int) ≤ (0 : Int32).toInt ∧ (0 : Int32).toInt ≤ 0 by decide)).elim
def QF_reduce (o0 : cf_O) (o1 : cf_O) (o2 : cf_O) (o3 : cf_O) (o4 : cf_O) (o5 : cf_O) (r : (Int32 × cf_O × cf_O × cf_O × cf_O × cf_O × cf_O)) : Prop := ((0 : Int) ≤ r.1.toInt ∧ r.1.toInt ≤ 200) ∧ (okO I_F r.2.1) ∧ (okO I_Fu r.2.2.1) ∧ (okO I_Cu r.2.2.2.1) ∧ (okO I_Re r.2.2.2.2.1) ∧ (okO I_Gr r.2.2.2.2.2.1) ∧ (okO I_Gr r.2.2.2.2.2.2) ∧ (Gx ((r.2.2.2.2.2.1.1 0).toInt + 1) (r.2.2.2.2.2.1.1 2).toInt (sh ((r.2.2.2.2.2.1.1 0).toInt + 1) (r.2.2.2.2.2.1.2.1 4)) (sh ((r.2.2.2.2.2.1.1 0).toInt + 1) (r.2.2.2.2.2.1.2.1 5))) ∧ (No (r.2.2.2.2.2.1.1 1).toInt (((r.2.2.2.2.2.1.1 0).toInt + 1) + (r.2.2.2.2.2.1.1 2).toInt) (r.2.2.2.2.2.1.2.1 7)) ∧ (Fqs (r.2.2.2.1.1 0).toInt (r.2.2.2.2.2.1.1 0).toInt (((r.2.2.2.2.2.1.1 0).toInt + 1) + (r.2.2.2.2.2.1.1 2).toInt) (r.2.2.2.1.1 3).toInt (r.2.2.2.1.2.1 2) (r.2.2.2.1.2.1 1) (r.2.2.2.1.2.2 4)) ∧ (Rcf (r.2.2.2.1.1 0).toInt (r.2.2.2.1.1 3).toInt (r.2.2.2.2.2.1.1 0).toInt (((r.2.2.2.2.2.1.1 0).toInt + 1) + (r.2.2.2.2.2.1.1 2).toInt) (r.2.2.2.2.2.1.2.1 4) (r.2.2.2.2.2.1.2.1 5) (r.2.2.2.1.2.1 2) (r.2.2.2.1.2.2 4)) ∧ ((r.2.2.2.1.1 3).toInt ≤ (r.2.2.2.1.1 4).toInt) ∧ ((r.2.2.2.1.1 4).toInt = (r.2.2.2.1.1 5).toInt) ∧ ((r.2.1.1 17).toInt = 0 ∨ (r.2.1.1 17).toInt = (o0.1 17).toInt) ∧ ((r.2.1.1 18).toInt = 0 ∨ (r.2.1.1 18).toInt = (o0.1 18).toInt) ∧ ((r.2.1.1 30).toInt = 0 ∨ (r.2.1.1 30).toInt = 2 ∨ (r.2.1.1 30).toInt = 4) ∧ True
set_option maxHeartbeats 4000000 in
set_option maxRecDepth 100000 in
theorem sF_reduce (o0 : cf_O) (o1 : cf_O) (o2 : cf_O) (o3 : cf_O) (o4 : cf_O) (o5 : cf_O) (k_o0 : okO I_F o0) (k_o1 : okO I_Fu o1) (k_o2 : okO I_Cu o2) (k_o3 : okO I_Re o3) (k_o4 : okO I_Gr o4) (k_o5 : okO I_Gr o5) (x_0 : Gx ((o4.1 0).toInt + 1) (o4.1 2).toInt (sh ((o4.1 0).toInt + 1) (o4.2.1 4)) (sh ((o4.1 0).toInt + 1) (o4.2.1 5))) (x_1 : No (o4.1 1).toInt (((o4.1 0).toInt + 1) + (o4.1 2).toInt) (o4.2.1 7)) (x_2 : Fqs (o2.1 0).toInt (o4.1 0).toInt (((o4.1 0).toInt + 1) + (o4.1 2).toInt) (o2.1 3).toInt (o2.2.1 2) (o2.2.1 1) (o2.2.2 4)) (x_3 : Rcf (o2.1 0).toInt (o2.1 3).toInt (o4.1 0).toInt (((o4.1 0).toInt + 1) + (o4.1 2).toInt) (o4.2.1 4) (o4.2.1 5) (o2.2.1 2) (o2.2.2 4)) (x_4 : (o2.1 3).toInt ≤ (o2.1 4).toInt) (x_5 : (o2.1 4).toInt = (o2.1 5).toInt) : tt (fF_reduce o0 o1 o2 o3 o4 o5) (QF_reduce o0 o1 o2 o3 o4 o5) := by
  have r_o0 : Fr (fr_M [17, 18, 30] [] []) o0 o0 := fr_rfl
  have r_o1 : Fr (fr_M [0] [] [1]) o1 o1 := fr_rfl
  have r_o2 : Fr (fr_M [0] [] []) o2 o2 := fr_rfl
  have r_o3 : Fr (fr_M [] [0, 1, 4] []) o3 o3 := fr_rfl
  have r_o4 : Fr (fr_M [] [] []) o4 o4 := fr_rfl
  have r_o5 : Fr (fr_M [0, 1, 2, 3] [4, 5, 6, 7, 8, 9] []) o5 o5 := fr_rfl
  unfold fF_reduce fF_reduce_0
  have g_o0_0 : (0 : Int) ≤ (o0.1 0).toInt ∧ (o0.1 0).toInt ≤ 0 := k_o0.1 0
  have g_o0_1 : (0 : Int) ≤ (o0.1 1).toInt ∧ (o0.1 1).toInt ≤ 0 := k_o0.1 1
  have g_o0_2 : (0 : Int) ≤ (o0.1 2).toInt ∧ (o0.1 2).toInt ≤ 0 := k_o0.1 2
  have g_o0_3 : (0 : Int) ≤ (o0.1 3).toInt ∧ (o0.1 3).toInt ≤ 0 := k_o0.1 3
  have g_o0_4 : (0 : Int) ≤ (o0.1 4).toInt ∧ (o0.1 4).toInt ≤ 0 := k_o0.1 4
  have g_o0_5 : (0 : Int) ≤ (o0.1 5).toInt ∧ (o0.1 5).toInt ≤ 0 := k_o0.1 5
  have g_o0_16 : (0 : Int) ≤ (o0.1 16).toInt ∧ (o0.1 16).toInt ≤ 1 := k_o0.1 16
  have g_o0_17 : (0 : Int) ≤ (o0.1 17).toInt ∧ (o0.1 17).toInt ≤ 1 := k_o0.1 17
  have g_o0_18 : (0 : Int) ≤ (o0.1 18).toInt ∧ (o0.1 18).toInt ≤ 1 := k_o0.1 18
  have g_o0_30 : (0 : Int) ≤ (o0.1 30).toInt ∧ (o0.1 30).toInt ≤ 4 := k_o0.1 30
  have g_o1_0 : (0 : Int) ≤ (o1.1 0).toInt ∧ (o1.1 0).toInt ≤ 1 := k_o1.1 0
  have g_o1_1 : (0 : Int) ≤ (o1.1 1).toInt ∧ (o1.1 1).toInt ≤ 0 := k_o1.1 1
  have g_o1_2 : (0 : Int) ≤ (o1.1 2).toInt ∧ (o1.1 2).toInt ≤ 0 := k_o1.1 2
  have g_o1_3 : (0 : Int) ≤ (o1.1 3).toInt ∧ (o1.1 3).toInt ≤ 0 := k_o1.1 3
  have g_o1_4 : (0 : Int) ≤ (o1.1 4).toInt ∧ (o1.1 4).toInt ≤ 0 := k_o1.1 4
  have g_o1_5 : (0 : Int) ≤ (o1.1 5).toInt ∧ (o1.1 5).toInt ≤ 0 := k_o1.1 5
  have g_o1_16 : (0 : Int) ≤ (o1.1 16).toInt ∧ (o1.1 16).toInt ≤ 0 := k_o1.1 16
  have g_o1_17 : (0 : Int) ≤ (o1.1 17).toInt ∧ (o1.1 17).toInt ≤ 0 := k_o1.1 17
  have g_o1_18 : (0 : Int) ≤ (o1.1 18).toInt ∧ (o1.1 18).toInt ≤ 0 := k_o1.1 18
  have g_o1_30 : (0 : Int) ≤ (o1.1 30).toInt ∧ (o1.1 30).toInt ≤ 0 := k_o1.1 30
  have g_o2_0 : ((-2147483648) : Int) ≤ (o2.1 0).toInt ∧ (o2.1 0).toInt ≤ 2147483647 := k_o2.1 0
  have g_o2_1 : (0 : Int) ≤ (o2.1 1).toInt ∧ (o2.1 1).toInt ≤ 0 := k_o2.1 1
  have g_o2_2 : (0 : Int) ≤ (o2.1 2).toInt ∧ (o2.1 2).toInt ≤ 0 := k_o2.1 2
  have g_o2_3 : (0 : Int) ≤ (o2.1 3).toInt ∧ (o2.1 3).toInt ≤ 62909 := k_o2.1 3
  have g_o2_4 : (1024 : Int) ≤ (o2.1 4).toInt ∧ (o2.1 4).toInt ≤ 131072 := k_o2.1 4
  have g_o2_5 : (1024 : Int) ≤ (o2.1 5).toInt ∧ (o2.1 5).toInt ≤ 131072 := k_o2.1 5
  have g_o2_16 : (0 : Int) ≤ (o2.1 16).toInt ∧ (o2.1 16).toInt ≤ 0 := k_o2.1 16
  have g_o2_17 : (0 : Int) ≤ (o2.1 17).toInt ∧ (o2.1 17).toInt ≤ 0 := k_o2.1 17
  have g_o2_18 : (0 : Int) ≤ (o2.1 18).toInt ∧ (o2.1 18).toInt ≤ 0 := k_o2.1 18
  have g_o2_30 : (0 : Int) ≤ (o2.1 30).toInt ∧ (o2.1 30).toInt ≤ 0 := k_o2.1 30
  have g_o3_0 : (0 : Int) ≤ (o3.1 0).toInt ∧ (o3.1 0).toInt ≤ 0 := k_o3.1 0
  have g_o3_1 : (0 : Int) ≤ (o3.1 1).toInt ∧ (o3.1 1).toInt ≤ 0 := k_o3.1 1
  have g_o3_2 : (0 : Int) ≤ (o3.1 2).toInt ∧ (o3.1 2).toInt ≤ 0 := k_o3.1 2
  have g_o3_3 : (0 : Int) ≤ (o3.1 3).toInt ∧ (o3.1 3).toInt ≤ 0 := k_o3.1 3
  have g_o3_4 : (0 : Int) ≤ (o3.1 4).toInt ∧ (o3.1 4).toInt ≤ 0 := k_o3.1 4
  have g_o3_5 : (0 : Int) ≤ (o3.1 5).toInt ∧ (o3.1 5).toInt ≤ 0 := k_o3.1 5
  have g_o3_16 : (0 : Int) ≤ (o3.1 16).toInt ∧ (o3.1 16).toInt ≤ 0 := k_o3.1 16
  have g_o3_17 : (0 : Int) ≤ (o3.1 17).toInt ∧ (o3.1 17).toInt ≤ 0 := k_o3.1 17
  have g_o3_18 : (0 : Int) ≤ (o3.1 18).toInt ∧ (o3.1 18).toInt ≤ 0 := k_o3.1 18
  have g_o3_30 : (0 : Int) ≤ (o3.1 30).toInt ∧ (o3.1 30).toInt ≤ 0 := k_o3.1 30
  have g_o4_0 : (0 : Int) ≤ (o4.1 0).toInt ∧ (o4.1 0).toInt ≤ 8 := k_o4.1 0
  have g_o4_1 : (0 : Int) ≤ (o4.1 1).toInt ∧ (o4.1 1).toInt ≤ 6 := k_o4.1 1
  have g_o4_2 : (0 : Int) ≤ (o4.1 2).toInt ∧ (o4.1 2).toInt ≤ 200 := k_o4.1 2
  have g_o4_3 : (0 : Int) ≤ (o4.1 3).toInt ∧ (o4.1 3).toInt ≤ 1 := k_o4.1 3
  have g_o4_4 : (0 : Int) ≤ (o4.1 4).toInt ∧ (o4.1 4).toInt ≤ 0 := k_o4.1 4
  have g_o4_5 : (0 : Int) ≤ (o4.1 5).toInt ∧ (o4.1 5).toInt ≤ 0 := k_o4.1 5
  have g_o4_16 : (0 : Int) ≤ (o4.1 16).toInt ∧ (o4.1 16).toInt ≤ 0 := k_o4.1 16
  have g_o4_17 : (0 : Int) ≤ (o4.1 17).toInt ∧ (o4.1 17).toInt ≤ 0 := k_o4.1 17
  have g_o4_18 : (0 : Int) ≤ (o4.1 18).toInt ∧ (o4.1 18).toInt ≤ 0 := k_o4.1 18
  have g_o4_30 : (0 : Int) ≤ (o4.1 30).toInt ∧ (o4.1 30).toInt ≤ 0 := k_o4.1 30
  have g_o5_0 : (0 : Int) ≤ (o5.1 0).toInt ∧ (o5.1 0).toInt ≤ 8 := k_o5.1 0
  have g_o5_1 : (0 : Int) ≤ (o5.1 1).toInt ∧ (o5.1 1).toInt ≤ 6 := k_o5.1 1
  have g_o5_2 : (0 : Int) ≤ (o5.1 2).toInt ∧ (o5.1 2).toInt ≤ 200 := k_o5.1 2
  have g_o5_3 : (0 : Int) ≤ (o5.1 3).toInt ∧ (o5.1 3).toInt ≤ 1 := k_o5.1 3
  have g_o5_4 : (0 : Int) ≤ (o5.1 4).toInt ∧ (o5.1 4).toInt ≤ 0 := k_o5.1 4
  have g_o5_5 : (0 : Int) ≤ (o5.1 5).toInt ∧ (o5.1 5).toInt ≤ 0 := k_o5.1 5
  have g_o5_16 : (0 : Int) ≤ (o5.1 16).toInt ∧ (o5.1 16).toInt ≤ 0 := k_o5.1 16
  have g_o5_17 : (0 : Int) ≤ (o5.1 17).toInt ∧ (o5.1 17).toInt ≤ 0 := k_o5.1 17
  have g_o5_18 : (0 : Int) ≤ (o5.1 18).toInt ∧ (o5.1 18).toInt ≤ 0 := k_o5.1 18
  have g_o5_30 : (0 : Int) ≤ (o5.1 30).toInt ∧ (o5.1 30).toInt ≤ 0 := k_o5.1 30
  refine tt_if (fun c1 => ?_) (fun c1 => ?_)
  · have wc1 : (o0.1 16).toInt = (0 : Int) := c_eq c1
    have i2 : (0 : Int) ≤ (o0.1 16).toInt ∧ (o0.1 16).toInt ≤ 0 := nr_eql c1 (k_o0.1 16) (show (0 : Int) ≤ (0 : Int32).toInt ∧ (0 : Int32).toInt ≤ 0 by decide) (by decide) (by decide)
    have k3 := ok_fp (k := 30) (v := 2) k_o0 (iv_w (a := 0) (b := 4) (by decide) (by decide) (show (2 : Int) ≤ (2 : Int32).toInt ∧ (2 : Int32).toInt ≤ 2 by decide))
    have r4 := fr_fp (k := 30) (v := 2) r_o0 rfl
    exact tt_some ⟨(iv_w (a := 0) (b := 200) (by decide) (by decide) (show (0 : Int) ≤ (0 : Int32).toInt ∧ (0 : Int32).toInt ≤ 0 by decide)), k3, k_o1, k_o2, k_o3, k_o4, k_o5, x_0, x_1, x_2, x_3, (show (o2.1 3).toInt ≤ (o2.1 4).toInt by omega), (show (o2.1 4).toInt = (o2.1 5).toInt by omega), (show (o0.1 17).toInt = 0 ∨ (o0.1 17).toInt = (o0.1 17).toInt by omega), (show (o0.1 18).toInt = 0 ∨ (o0.1 18).toInt = (o0.1 18).toInt by omega), (show 2 = 0 ∨ 2 = 2 ∨ 2 = 4 by omega), trivial⟩
  · have wc1 : ¬ (o0.1 16).toInt = (0 : Int) := c_ne c1
    have i5 : (1 : Int) ≤ (o0.1 16).toInt ∧ (o0.1 16).toInt ≤ 1 := nr_nela c1 (k_o0.1 16) (show (0 : Int) ≤ (0 : Int32).toInt ∧ (0 : Int32).toInt ≤ 0 by decide) (by decide) (by decide)
    try unfold fF_reduce_7
    refine tt_b (sFu_find _ _ k_o1 k_o4) (fun q6 hq6 => ?_)
    obtain ⟨k_q6, n_q6, f_q6_0, -⟩ := hq6
    have r_q6 := fr_tr r_o1 n_q6 rfl rfl rfl
    have e_q6_1 : (q6.1 1).toInt = (o1.1 1).toInt := congrArg Int32.toInt (n_q6.1 1 rfl)
    have g_q6_1 : (0 : Int) ≤ (q6.1 1).toInt ∧ (q6.1 1).toInt ≤ 0 := k_q6.1 1
    have e_q6_2 : (q6.1 2).toInt = (o1.1 2).toInt := congrArg Int32.toInt (n_q6.1 2 rfl)
    have g_q6_2 : (0 : Int) ≤ (q6.1 2).toInt ∧ (q6.1 2).toInt ≤ 0 := k_q6.1 2
    have e_q6_3 : (q6.1 3).toInt = (o1.1 3).toInt := congrArg Int32.toInt (n_q6.1 3 rfl)
    have g_q6_3 : (0 : Int) ≤ (q6.1 3).toInt ∧ (q6.1 3).toInt ≤ 0 := k_q6.1 3
    have e_q6_4 : (q6.1 4).toInt = (o1.1 4).toInt := congrArg Int32.toInt (n_q6.1 4 rfl)
    have g_q6_4 : (0 : Int) ≤ (q6.1 4).toInt ∧ (q6.1 4).toInt ≤ 0 := k_q6.1 4
    have e_q6_5 : (q6.1 5).toInt = (o1.1 5).toInt := congrArg Int32.toInt (n_q6.1 5 rfl)
    have g_q6_5 : (0 : Int) ≤ (q6.1 5).toInt ∧ (q6.1 5).toInt ≤ 0 := k_q6.1 5
    have e_q6_16 : (q6.1 16).toInt = (o1.1 16).toInt := congrArg Int32.toInt (n_q6.1 16 rfl)
    have g_q6_16 : (0 : Int) ≤ (q6.1 16).toInt ∧ (q6.1 16).toInt ≤ 0 := k_q6.1 16
    have e_q6_17 : (q6.1 17).toInt = (o1.1 17).toInt := congrArg Int32.toInt (n_q6.1 17 rfl)
    have g_q6_17 : (0 : Int) ≤ (q6.1 17).toInt ∧ (q6.1 17).toInt ≤ 0 := k_q6.1 17
    have e_q6_18 : (q6.1 18).toInt = (o1.1 18).toInt := congrArg Int32.toInt (n_q6.1 18 rfl)
    have g_q6_18 : (0 : Int) ≤ (q6.1 18).toInt ∧ (q6.1 18).toInt ≤ 0 := k_q6.1 18
    have e_q6_30 : (q6.1 30).toInt = (o1.1 30).toInt := congrArg Int32.toInt (n_q6.1 30 rfl)
    have g_q6_30 : (0 : Int) ≤ (q6.1 30).toInt ∧ (q6.1 30).toInt ≤ 0 := k_q6.1 30
    try unfold fF_reduce_18
    refine tt_b (sRe_makeReduced _ _ _ _ k_o3 k_o4 k_o5 k_q6 f_q6_0 x_0 x_1) (fun q7 hq7 => ?_)
    obtain ⟨k_q7_1, n_q7_1, k_q7_2, n_q7_2, zq7_0, zq7_1, zq7_2, zq7_3, -⟩ := hq7
    have r_q7_1 := fr_tr r_o3 n_q7_1 rfl rfl rfl
    have e_q7_1_0 : (q7.1.1 0).toInt = (o3.1 0).toInt := congrArg Int32.toInt (n_q7_1.1 0 rfl)
    have g_q7_1_0 : (0 : Int) ≤ (q7.1.1 0).toInt ∧ (q7.1.1 0).toInt ≤ 0 := k_q7_1.1 0
    have e_q7_1_1 : (q7.1.1 1).toInt = (o3.1 1).toInt := congrArg Int32.toInt (n_q7_1.1 1 rfl)
    have g_q7_1_1 : (0 : Int) ≤ (q7.1.1 1).toInt ∧ (q7.1.1 1).toInt ≤ 0 := k_q7_1.1 1
    have e_q7_1_2 : (q7.1.1 2).toInt = (o3.1 2).toInt := congrArg Int32.toInt (n_q7_1.1 2 rfl)
    have g_q7_1_2 : (0 : Int) ≤ (q7.1.1 2).toInt ∧ (q7.1.1 2).toInt ≤ 0 := k_q7_1.1 2
    have e_q7_1_3 : (q7.1.1 3).toInt = (o3.1 3).toInt := congrArg Int32.toInt (n_q7_1.1 3 rfl)
    have g_q7_1_3 : (0 : Int) ≤ (q7.1.1 3).toInt ∧ (q7.1.1 3).toInt ≤ 0 := k_q7_1.1 3
    have e_q7_1_4 : (q7.1.1 4).toInt = (o3.1 4).toInt := congrArg Int32.toInt (n_q7_1.1 4 rfl)
    have g_q7_1_4 : (0 : Int) ≤ (q7.1.1 4).toInt ∧ (q7.1.1 4).toInt ≤ 0 := k_q7_1.1 4
    have e_q7_1_5 : (q7.1.1 5).toInt = (o3.1 5).toInt := congrArg Int32.toInt (n_q7_1.1 5 rfl)
    have g_q7_1_5 : (0 : Int) ≤ (q7.1.1 5).toInt ∧ (q7.1.1 5).toInt ≤ 0 := k_q7_1.1 5
    have e_q7_1_16 : (q7.1.1 16).toInt = (o3.1 16).toInt := congrArg Int32.toInt (n_q7_1.1 16 rfl)
    have g_q7_1_16 : (0 : Int) ≤ (q7.1.1 16).toInt ∧ (q7.1.1 16).toInt ≤ 0 := k_q7_1.1 16
    have e_q7_1_17 : (q7.1.1 17).toInt = (o3.1 17).toInt := congrArg Int32.toInt (n_q7_1.1 17 rfl)
    have g_q7_1_17 : (0 : Int) ≤ (q7.1.1 17).toInt ∧ (q7.1.1 17).toInt ≤ 0 := k_q7_1.1 17
    have e_q7_1_18 : (q7.1.1 18).toInt = (o3.1 18).toInt := congrArg Int32.toInt (n_q7_1.1 18 rfl)
    have g_q7_1_18 : (0 : Int) ≤ (q7.1.1 18).toInt ∧ (q7.1.1 18).toInt ≤ 0 := k_q7_1.1 18
    have e_q7_1_30 : (q7.1.1 30).toInt = (o3.1 30).toInt := congrArg Int32.toInt (n_q7_1.1 30 rfl)
    have g_q7_1_30 : (0 : Int) ≤ (q7.1.1 30).toInt ∧ (q7.1.1 30).toInt ≤ 0 := k_q7_1.1 30
    have r_q7_2 := fr_tr r_o5 n_q7_2 rfl rfl rfl
    have g_q7_2_0 : (0 : Int) ≤ (q7.2.1 0).toInt ∧ (q7.2.1 0).toInt ≤ 8 := k_q7_2.1 0
    have g_q7_2_1 : (0 : Int) ≤ (q7.2.1 1).toInt ∧ (q7.2.1 1).toInt ≤ 6 := k_q7_2.1 1
    have g_q7_2_2 : (0 : Int) ≤ (q7.2.1 2).toInt ∧ (q7.2.1 2).toInt ≤ 200 := k_q7_2.1 2
    have g_q7_2_3 : (0 : Int) ≤ (q7.2.1 3).toInt ∧ (q7.2.1 3).toInt ≤ 1 := k_q7_2.1 3
    have e_q7_2_4 : (q7.2.1 4).toInt = (o5.1 4).toInt := congrArg Int32.toInt (n_q7_2.1 4 rfl)
    have g_q7_2_4 : (0 : Int) ≤ (q7.2.1 4).toInt ∧ (q7.2.1 4).toInt ≤ 0 := k_q7_2.1 4
    have e_q7_2_5 : (q7.2.1 5).toInt = (o5.1 5).toInt := congrArg Int32.toInt (n_q7_2.1 5 rfl)
    have g_q7_2_5 : (0 : Int) ≤ (q7.2.1 5).toInt ∧ (q7.2.1 5).toInt ≤ 0 := k_q7_2.1 5
    have e_q7_2_16 : (q7.2.1 16).toInt = (o5.1 16).toInt := congrArg Int32.toInt (n_q7_2.1 16 rfl)
    have g_q7_2_16 : (0 : Int) ≤ (q7.2.1 16).toInt ∧ (q7.2.1 16).toInt ≤ 0 := k_q7_2.1 16
    have e_q7_2_17 : (q7.2.1 17).toInt = (o5.1 17).toInt := congrArg Int32.toInt (n_q7_2.1 17 rfl)
    have g_q7_2_17 : (0 : Int) ≤ (q7.2.1 17).toInt ∧ (q7.2.1 17).toInt ≤ 0 := k_q7_2.1 17
    have e_q7_2_18 : (q7.2.1 18).toInt = (o5.1 18).toInt := congrArg Int32.toInt (n_q7_2.1 18 rfl)
    have g_q7_2_18 : (0 : Int) ≤ (q7.2.1 18).toInt ∧ (q7.2.1 18).toInt ≤ 0 := k_q7_2.1 18
    have e_q7_2_30 : (q7.2.1 30).toInt = (o5.1 30).toInt := congrArg Int32.toInt (n_q7_2.1 30 rfl)
    have g_q7_2_30 : (0 : Int) ≤ (q7.2.1 30).toInt ∧ (q7.2.1 30).toInt ≤ 0 := k_q7_2.1 30
    have zq7_2 : (q7.2.1 0).toInt = (o4.1 0).toInt := zq7_2
    have zq7_3 : (q7.2.1 1).toInt = (o4.1 1).toInt := zq7_3
    try unfold fF_reduce_37
    refine tt_if (fun c8 => ?_) (fun c8 => ?_)
    · have wc8 : (q7.2.1 3).toInt = (0 : Int) := c_eq c8
      have i9 : (0 : Int) ≤ (q7.2.1 3).toInt ∧ (q7.2.1 3).toInt ≤ 0 := nr_eql c8 (k_q7_2.1 3) (show (0 : Int) ≤ (0 : Int32).toInt ∧ (0 : Int32).toInt ≤ 0 by decide) (by decide) (by decide)
      try unfold fF_reduce_52
      refine tt_if (fun c10 => ?_) (fun c10 => ?_)
      · have wc10 : (1 : Int) = (0 : Int) := c_eq c10
        exact (dd_eq c10 (show (1 : Int) ≤ (1 : Int32).toInt ∧ (1 : Int32).toInt ≤ 1 by decide) (show (0 : Int) ≤ (0 : Int32).toInt ∧ (0 : Int32).toInt ≤ 0 by decide) (by decide)).elim
      · have wc10 : ¬ (1 : Int) = (0 : Int) := c_ne c10
        try unfold fF_reduce_55
        refine tt_b (sF_takeSpareNodes _ _ _ k_o0 k_q6 k_o2) (fun q11 hq11 => ?_)
        obtain ⟨k_q11_1, n_q11_1, f_q11_1_17, f_q11_1_18, f_q11_1_30, k_q11_2_1, n_q11_2_1, f_q11_2_1_0, k_q11_2_2, n_q11_2_2, f_q11_2_2_0, zq11_0, zq11_1, zq11_2, zq11_3, -⟩ := hq11
        have r_q11_1 := fr_tr r_o0 n_q11_1 rfl rfl rfl
        have f_q11_1_16 : (1 : Int) ≤ (q11.1.1 16).toInt ∧ (q11.1.1 16).toInt ≤ 1 := by rw [n_q11_1.1 16 rfl]; exact i5
        have e_q11_1_0 : (q11.1.1 0).toInt = (o0.1 0).toInt := congrArg Int32.toInt (n_q11_1.1 0 rfl)
        have g_q11_1_0 : (0 : Int) ≤ (q11.1.1 0).toInt ∧ (q11.1.1 0).toInt ≤ 0 := k_q11_1.1 0
        have e_q11_1_1 : (q11.1.1 1).toInt = (o0.1 1).toInt := congrArg Int32.toInt (n_q11_1.1 1 rfl)
        have g_q11_1_1 : (0 : Int) ≤ (q11.1.1 1).toInt ∧ (q11.1.1 1).toInt ≤ 0 := k_q11_1.1 1
        have e_q11_1_2 : (q11.1.1 2).toInt = (o0.1 2).toInt := congrArg Int32.toInt (n_q11_1.1 2 rfl)
        have g_q11_1_2 : (0 : Int) ≤ (q11.1.1 2).toInt ∧ (q11.1.1 2).toInt ≤ 0 := k_q11_1.1 2
        have e_q11_1_3 : (q11.1.1 3).toInt = (o0.1 3).toInt := congrArg Int32.toInt (n_q11_1.1 3 rfl)
        have g_q11_1_3 : (0 : Int) ≤ (q11.1.1 3).toInt ∧ (q11.1.1 3).toInt ≤ 0 := k_q11_1.1 3
        have e_q11_1_4 : (q11.1.1 4).toInt = (o0.1 4).toInt := congrArg Int32.toInt (n_q11_1.1 4 rfl)
        have g_q11_1_4 : (0 : Int) ≤ (q11.1.1 4).toInt ∧ (q11.1.1 4).toInt ≤ 0 := k_q11_1.1 4
        have e_q11_1_5 : (q11.1.1 5).toInt = (o0.1 5).toInt := congrArg Int32.toInt (n_q11_1.1 5 rfl)
        have g_q11_1_5 : (0 : Int) ≤ (q11.1.1 5).toInt ∧ (q11.1.1 5).toInt ≤ 0 := k_q11_1.1 5
        have e_q11_1_16 : (q11.1.1 16).toInt = (o0.1 16).toInt := congrArg Int32.toInt (n_q11_1.1 16 rfl)
        have r_q11_2_1 := fr_tr r_q6 n_q11_2_1 rfl rfl rfl
        have e_q11_2_1_1 : (q11.2.1.1 1).toInt = (q6.1 1).toInt := congrArg Int32.toInt (n_q11_2_1.1 1 rfl)
        have g_q11_2_1_1 : (0 : Int) ≤ (q11.2.1.1 1).toInt ∧ (q11.2.1.1 1).toInt ≤ 0 := k_q11_2_1.1 1
        have e_q11_2_1_2 : (q11.2.1.1 2).toInt = (q6.1 2).toInt := congrArg Int32.toInt (n_q11_2_1.1 2 rfl)
        have g_q11_2_1_2 : (0 : Int) ≤ (q11.2.1.1 2).toInt ∧ (q11.2.1.1 2).toInt ≤ 0 := k_q11_2_1.1 2
        have e_q11_2_1_3 : (q11.2.1.1 3).toInt = (q6.1 3).toInt := congrArg Int32.toInt (n_q11_2_1.1 3 rfl)
        have g_q11_2_1_3 : (0 : Int) ≤ (q11.2.1.1 3).toInt ∧ (q11.2.1.1 3).toInt ≤ 0 := k_q11_2_1.1 3
        have e_q11_2_1_4 : (q11.2.1.1 4).toInt = (q6.1 4).toInt := congrArg Int32.toInt (n_q11_2_1.1 4 rfl)
        have g_q11_2_1_4 : (0 : Int) ≤ (q11.2.1.1 4).toInt ∧ (q11.2.1.1 4).toInt ≤ 0 := k_q11_2_1.1 4
        have e_q11_2_1_5 : (q11.2.1.1 5).toInt = (q6.1 5).toInt := congrArg Int32.toInt (n_q11_2_1.1 5 rfl)
        have g_q11_2_1_5 : (0 : Int) ≤ (q11.2.1.1 5).toInt ∧ (q11.2.1.1 5).toInt ≤ 0 := k_q11_2_1.1 5
        have e_q11_2_1_16 : (q11.2.1.1 16).toInt = (q6.1 16).toInt := congrArg Int32.toInt (n_q11_2_1.1 16 rfl)
        have g_q11_2_1_16 : (0 : Int) ≤ (q11.2.1.1 16).toInt ∧ (q11.2.1.1 16).toInt ≤ 0 := k_q11_2_1.1 16
        have e_q11_2_1_17 : (q11.2.1.1 17).toInt = (q6.1 17).toInt := congrArg Int32.toInt (n_q11_2_1.1 17 rfl)
        have g_q11_2_1_17 : (0 : Int) ≤ (q11.2.1.1 17).toInt ∧ (q11.2.1.1 17).toInt ≤ 0 := k_q11_2_1.1 17
        have e_q11_2_1_18 : (q11.2.1.1 18).toInt = (q6.1 18).toInt := congrArg Int32.toInt (n_q11_2_1.1 18 rfl)
        have g_q11_2_1_18 : (0 : Int) ≤ (q11.2.1.1 18).toInt ∧ (q11.2.1.1 18).toInt ≤ 0 := k_q11_2_1.1 18
        have e_q11_2_1_30 : (q11.2.1.1 30).toInt = (q6.1 30).toInt := congrArg Int32.toInt (n_q11_2_1.1 30 rfl)
        have g_q11_2_1_30 : (0 : Int) ≤ (q11.2.1.1 30).toInt ∧ (q11.2.1.1 30).toInt ≤ 0 := k_q11_2_1.1 30
        have r_q11_2_2 := fr_tr r_o2 n_q11_2_2 rfl rfl rfl
        have e_q11_2_2_1 : (q11.2.2.1 1).toInt = (o2.1 1).toInt := congrArg Int32.toInt (n_q11_2_2.1 1 rfl)
        have g_q11_2_2_1 : (0 : Int) ≤ (q11.2.2.1 1).toInt ∧ (q11.2.2.1 1).toInt ≤ 0 := k_q11_2_2.1 1
        have e_q11_2_2_2 : (q11.2.2.1 2).toInt = (o2.1 2).toInt := congrArg Int32.toInt (n_q11_2_2.1 2 rfl)
        have g_q11_2_2_2 : (0 : Int) ≤ (q11.2.2.1 2).toInt ∧ (q11.2.2.1 2).toInt ≤ 0 := k_q11_2_2.1 2
        have e_q11_2_2_3 : (q11.2.2.1 3).toInt = (o2.1 3).toInt := congrArg Int32.toInt (n_q11_2_2.1 3 rfl)
        have g_q11_2_2_3 : (0 : Int) ≤ (q11.2.2.1 3).toInt ∧ (q11.2.2.1 3).toInt ≤ 62909 := k_q11_2_2.1 3
        have e_q11_2_2_4 : (q11.2.2.1 4).toInt = (o2.1 4).toInt := congrArg Int32.toInt (n_q11_2_2.1 4 rfl)
        have g_q11_2_2_4 : (1024 : Int) ≤ (q11.2.2.1 4).toInt ∧ (q11.2.2.1 4).toInt ≤ 131072 := k_q11_2_2.1 4
        have e_q11_2_2_5 : (q11.2.2.1 5).toInt = (o2.1 5).toInt := congrArg Int32.toInt (n_q11_2_2.1 5 rfl)
        have g_q11_2_2_5 : (1024 : Int) ≤ (q11.2.2.1 5).toInt ∧ (q11.2.2.1 5).toInt ≤ 131072 := k_q11_2_2.1 5
        have e_q11_2_2_16 : (q11.2.2.1 16).toInt = (o2.1 16).toInt := congrArg Int32.toInt (n_q11_2_2.1 16 rfl)
        have g_q11_2_2_16 : (0 : Int) ≤ (q11.2.2.1 16).toInt ∧ (q11.2.2.1 16).toInt ≤ 0 := k_q11_2_2.1 16
        have e_q11_2_2_17 : (q11.2.2.1 17).toInt = (o2.1 17).toInt := congrArg Int32.toInt (n_q11_2_2.1 17 rfl)
        have g_q11_2_2_17 : (0 : Int) ≤ (q11.2.2.1 17).toInt ∧ (q11.2.2.1 17).toInt ≤ 0 := k_q11_2_2.1 17
        have e_q11_2_2_18 : (q11.2.2.1 18).toInt = (o2.1 18).toInt := congrArg Int32.toInt (n_q11_2_2.1 18 rfl)
        have g_q11_2_2_18 : (0 : Int) ≤ (q11.2.2.1 18).toInt ∧ (q11.2.2.1 18).toInt ≤ 0 := k_q11_2_2.1 18
        have e_q11_2_2_30 : (q11.2.2.1 30).toInt = (o2.1 30).toInt := congrArg Int32.toInt (n_q11_2_2.1 30 rfl)
        have g_q11_2_2_30 : (0 : Int) ≤ (q11.2.2.1 30).toInt ∧ (q11.2.2.1 30).toInt ≤ 0 := k_q11_2_2.1 30
        have zq11_0 : (q11.1.1 17).toInt = 0 := zq11_0
        have zq11_1 : (q11.1.1 18).toInt = 0 := zq11_1
        have zq11_2 : (q11.2.2.1 0).toInt = 0 := zq11_2
        have zq11_3 : (q11.1.1 30).toInt = 0 := zq11_3
        refine tt_if (fun c12 => ?_) (fun c12 => ?_)
        · have wc12 : (q11.1.1 30).toInt = (0 : Int) := c_eq c12
          try unfold fF_reduce_59
          have k13 := ok_fp (k := 30) (v := 0) k_q11_1 (iv_w (a := 0) (b := 4) (by decide) (by decide) (show (0 : Int) ≤ (0 : Int32).toInt ∧ (0 : Int32).toInt ≤ 0 by decide))
          have r14 := fr_fp (k := 30) (v := 0) r_q11_1 rfl
          have p15 : Gx ((q7.2.1 0).toInt + 1) (q7.2.1 2).toInt (sh ((q7.2.1 0).toInt + 1) (q7.2.2.1 4)) (sh ((q7.2.1 0).toInt + 1) (q7.2.2.1 5)) := by first | assumption | exact GI_x (by assumption)
          have p16 : No (q7.2.1 1).toInt (((q7.2.1 0).toInt + 1) + (q7.2.1 2).toInt) (q7.2.2.1 7) := by first | assumption | exact No_w x_1 (by omega) (by omega) | exact No_w zq7_1 (by omega) (by omega)
          have p17 : Fqs (q11.2.2.1 0).toInt (q7.2.1 0).toInt (((q7.2.1 0).toInt + 1) + (q7.2.1 2).toInt) (q11.2.2.1 3).toInt (q11.2.2.2.1 2) (q11.2.2.2.1 1) (q11.2.2.2.2 4) := by first | assumption | exact Fqs_0 (by omega)
          have p18 : Rcf (q11.2.2.1 0).toInt (q11.2.2.1 3).toInt (q7.2.1 0).toInt (((q7.2.1 0).toInt + 1) + (q7.2.1 2).toInt) (q7.2.2.1 4) (q7.2.2.1 5) (q11.2.2.2.1 2) (q11.2.2.2.2 4) := by first | assumption | exact Or.inl (by omega)
          exact tt_some ⟨(k_q7_2.1 2), k13, k_q11_2_1, k_q11_2_2, k_q7_1, k_q7_2, k_o4, p15, p16, p17, p18, (show (q11.2.2.1 3).toInt ≤ (q11.2.2.1 4).toInt by omega), (show (q11.2.2.1 4).toInt = (q11.2.2.1 5).toInt by omega), (show (q11.1.1 17).toInt = 0 ∨ (q11.1.1 17).toInt = (o0.1 17).toInt by omega), (show (q11.1.1 18).toInt = 0 ∨ (q11.1.1 18).toInt = (o0.1 18).toInt by omega), (show 0 = 0 ∨ 0 = 2 ∨ 0 = 4 by omega), trivial⟩
        · have wc12 : ¬ (q11.1.1 30).toInt = (0 : Int) := c_ne c12
          exact (dd_ne c12 f_q11_1_30 (show (0 : Int) ≤ (0 : Int32).toInt ∧ (0 : Int32).toInt ≤ 0 by decide)).elim
    · have wc8 : ¬ (q7.2.1 3).toInt = (0 : Int) := c_ne c8
      have i19 : (1 : Int) ≤ (q7.2.1 3).toInt ∧ (q7.2.1 3).toInt ≤ 1 := nr_nela c8 (k_q7_2.1 3) (show (0 : Int) ≤ (0 : Int32).toInt ∧ (0 : Int32).toInt ≤ 0 by decide) (by decide) (by decide)
      try unfold fF_reduce_52
      refine tt_if (fun c20 => ?_) (fun c20 => ?_)
      · have wc20 : (0 : Int) = (0 : Int) := c_eq c20
        have k21 := ok_fp (k := 30) (v := 4) k_o0 (iv_w (a := 0) (b := 4) (by decide) (by decide) (show (4 : Int) ≤ (4 : Int32).toInt ∧ (4 : Int32).toInt ≤ 4 by decide))
        have r22 := fr_fp (k := 30) (v := 4) r_o0 rfl
        exact tt_some ⟨(iv_w (a := 0) (b := 200) (by decide) (by decide) (show (0 : Int) ≤ (0 : Int32).toInt ∧ (0 : Int32).toInt ≤ 0 by decide)), k21, k_q6, k_o2, k_q7_1, k_o4, k_q7_2, x_0, x_1, x_2, x_3, (show (o2.1 3).toInt ≤ (o2.1 4).toInt by omega), (show (o2.1 4).toInt = (o2.1 5).toInt by omega), (show (o0.1 17).toInt = 0 ∨ (o0.1 17).toInt = (o0.1 17).toInt by omega), (show (o0.1 18).toInt = 0 ∨ (o0.1 18).toInt = (o0.1 18).toInt by omega), (show 4 = 0 ∨ 4 = 2 ∨ 4 = 4 by omega), trivial⟩
      · have wc20 : ¬ (0 : Int) = (0 : Int) := c_ne c20
        exact (dd_ne c20 (show (0 : Int) ≤ (0 : Int32).toInt ∧ (0 : Int32).toInt ≤ 0 by decide) (show (0 : Int) ≤ (0 : Int32).toInt ∧ (0 : Int32).toInt ≤ 0 by decide)).elim
def QF_rewrite (o0 : cf_O) (o1 : cf_O) (o2 : cf_O) (o3 : cf_O) (o4 : cf_O) (o5 : cf_O) (o6 : cf_O) (r : (Int32 × cf_O × cf_O × cf_O × cf_O × cf_O × cf_O × cf_O)) : Prop := ((0 : Int) ≤ r.1.toInt ∧ r.1.toInt ≤ 200) ∧ (okO I_F r.2.1) ∧ (okO I_Fu r.2.2.1) ∧ (okO I_Cu r.2.2.2.1) ∧ (okO I_Co r.2.2.2.2.1) ∧ (okO I_Re r.2.2.2.2.2.1) ∧ (okO I_Gr r.2.2.2.2.2.2.1) ∧ (okO I_Gr r.2.2.2.2.2.2.2) ∧ (Gx ((r.2.2.2.2.2.2.1.1 0).toInt + 1) (r.2.2.2.2.2.2.1.1 2).toInt (sh ((r.2.2.2.2.2.2.1.1 0).toInt + 1) (r.2.2.2.2.2.2.1.2.1 4)) (sh ((r.2.2.2.2.2.2.1.1 0).toInt + 1) (r.2.2.2.2.2.2.1.2.1 5))) ∧ (No (r.2.2.2.2.2.2.1.1 1).toInt (((r.2.2.2.2.2.2.1.1 0).toInt + 1) + (r.2.2.2.2.2.2.1.1 2).toInt) (r.2.2.2.2.2.2.1.2.1 7)) ∧ (Fqs (r.2.2.2.1.1 0).toInt (r.2.2.2.2.2.2.1.1 0).toInt (((r.2.2.2.2.2.2.1.1 0).toInt + 1) + (r.2.2.2.2.2.2.1.1 2).toInt) (r.2.2.2.1.1 3).toInt (r.2.2.2.1.2.1 2) (r.2.2.2.1.2.1 1) (r.2.2.2.1.2.2 4)) ∧ (Rcf (r.2.2.2.1.1 0).toInt (r.2.2.2.1.1 3).toInt (r.2.2.2.2.2.2.1.1 0).toInt (((r.2.2.2.2.2.2.1.1 0).toInt + 1) + (r.2.2.2.2.2.2.1.1 2).toInt) (r.2.2.2.2.2.2.1.2.1 4) (r.2.2.2.2.2.2.1.2.1 5) (r.2.2.2.1.2.1 2) (r.2.2.2.1.2.2 4)) ∧ ((r.2.2.2.1.1 3).toInt ≤ (r.2.2.2.1.1 4).toInt) ∧ ((r.2.2.2.1.1 4).toInt = (r.2.2.2.1.1 5).toInt) ∧ ((r.2.1.1 17).toInt = 0 ∨ (r.2.1.1 17).toInt = (o0.1 17).toInt) ∧ ((r.2.1.1 18).toInt = 0 ∨ (r.2.1.1 18).toInt = (o0.1 18).toInt) ∧ ((r.2.1.1 30).toInt = 0 ∨ (r.2.1.1 30).toInt = 2 ∨ (r.2.1.1 30).toInt = 4) ∧ True
set_option maxHeartbeats 4000000 in
set_option maxRecDepth 100000 in
theorem sF_rewrite (o0 : cf_O) (o1 : cf_O) (o2 : cf_O) (o3 : cf_O) (o4 : cf_O) (o5 : cf_O) (o6 : cf_O) (k_o0 : okO I_F o0) (k_o1 : okO I_Fu o1) (k_o2 : okO I_Cu o2) (k_o3 : okO I_Co o3) (k_o4 : okO I_Re o4) (k_o5 : okO I_Gr o5) (k_o6 : okO I_Gr o6) (x_0 : Gx ((o5.1 0).toInt + 1) (o5.1 2).toInt (sh ((o5.1 0).toInt + 1) (o5.2.1 4)) (sh ((o5.1 0).toInt + 1) (o5.2.1 5))) (x_1 : No (o5.1 1).toInt (((o5.1 0).toInt + 1) + (o5.1 2).toInt) (o5.2.1 7)) (x_2 : Fqs (o2.1 0).toInt (o5.1 0).toInt (((o5.1 0).toInt + 1) + (o5.1 2).toInt) (o2.1 3).toInt (o2.2.1 2) (o2.2.1 1) (o2.2.2 4)) (x_3 : Rcf (o2.1 0).toInt (o2.1 3).toInt (o5.1 0).toInt (((o5.1 0).toInt + 1) + (o5.1 2).toInt) (o5.2.1 4) (o5.2.1 5) (o2.2.1 2) (o2.2.2 4)) (x_4 : (o2.1 3).toInt ≤ (o2.1 4).toInt) (x_5 : (o2.1 4).toInt = (o2.1 5).toInt) : tt (fF_rewrite o0 o1 o2 o3 o4 o5 o6) (QF_rewrite o0 o1 o2 o3 o4 o5 o6) := by
  have r_o0 : Fr (fr_M [17, 18, 30] [] []) o0 o0 := fr_rfl
  have r_o1 : Fr (fr_M [0] [] []) o1 o1 := fr_rfl
  have r_o2 : Fr (fr_M [0, 3, 4, 5] [1, 2] [4, 5]) o2 o2 := fr_rfl
  have r_o3 : Fr (fr_M [0, 1] [2, 3, 4] []) o3 o3 := fr_rfl
  have r_o4 : Fr (fr_M [11] [0, 1, 2, 4, 10] []) o4 o4 := fr_rfl
  have r_o5 : Fr (fr_M [] [] []) o5 o5 := fr_rfl
  have r_o6 : Fr (fr_M [0, 1, 2, 3] [4, 5, 6, 7, 8, 9] []) o6 o6 := fr_rfl
  unfold fF_rewrite fF_rewrite_0
  have g_o0_0 : (0 : Int) ≤ (o0.1 0).toInt ∧ (o0.1 0).toInt ≤ 0 := k_o0.1 0
  have g_o0_1 : (0 : Int) ≤ (o0.1 1).toInt ∧ (o0.1 1).toInt ≤ 0 := k_o0.1 1
  have g_o0_2 : (0 : Int) ≤ (o0.1 2).toInt ∧ (o0.1 2).toInt ≤ 0 := k_o0.1 2
  have g_o0_3 : (0 : Int) ≤ (o0.1 3).toInt ∧ (o0.1 3).toInt ≤ 0 := k_o0.1 3
  have g_o0_4 : (0 : Int) ≤ (o0.1 4).toInt ∧ (o0.1 4).toInt ≤ 0 := k_o0.1 4
  have g_o0_5 : (0 : Int) ≤ (o0.1 5).toInt ∧ (o0.1 5).toInt ≤ 0 := k_o0.1 5
  have g_o0_16 : (0 : Int) ≤ (o0.1 16).toInt ∧ (o0.1 16).toInt ≤ 1 := k_o0.1 16
  have g_o0_17 : (0 : Int) ≤ (o0.1 17).toInt ∧ (o0.1 17).toInt ≤ 1 := k_o0.1 17
  have g_o0_18 : (0 : Int) ≤ (o0.1 18).toInt ∧ (o0.1 18).toInt ≤ 1 := k_o0.1 18
  have g_o0_30 : (0 : Int) ≤ (o0.1 30).toInt ∧ (o0.1 30).toInt ≤ 4 := k_o0.1 30
  have g_o1_0 : (0 : Int) ≤ (o1.1 0).toInt ∧ (o1.1 0).toInt ≤ 1 := k_o1.1 0
  have g_o1_1 : (0 : Int) ≤ (o1.1 1).toInt ∧ (o1.1 1).toInt ≤ 0 := k_o1.1 1
  have g_o1_2 : (0 : Int) ≤ (o1.1 2).toInt ∧ (o1.1 2).toInt ≤ 0 := k_o1.1 2
  have g_o1_3 : (0 : Int) ≤ (o1.1 3).toInt ∧ (o1.1 3).toInt ≤ 0 := k_o1.1 3
  have g_o1_4 : (0 : Int) ≤ (o1.1 4).toInt ∧ (o1.1 4).toInt ≤ 0 := k_o1.1 4
  have g_o1_5 : (0 : Int) ≤ (o1.1 5).toInt ∧ (o1.1 5).toInt ≤ 0 := k_o1.1 5
  have g_o1_16 : (0 : Int) ≤ (o1.1 16).toInt ∧ (o1.1 16).toInt ≤ 0 := k_o1.1 16
  have g_o1_17 : (0 : Int) ≤ (o1.1 17).toInt ∧ (o1.1 17).toInt ≤ 0 := k_o1.1 17
  have g_o1_18 : (0 : Int) ≤ (o1.1 18).toInt ∧ (o1.1 18).toInt ≤ 0 := k_o1.1 18
  have g_o1_30 : (0 : Int) ≤ (o1.1 30).toInt ∧ (o1.1 30).toInt ≤ 0 := k_o1.1 30
  have g_o2_0 : ((-2147483648) : Int) ≤ (o2.1 0).toInt ∧ (o2.1 0).toInt ≤ 2147483647 := k_o2.1 0
  have g_o2_1 : (0 : Int) ≤ (o2.1 1).toInt ∧ (o2.1 1).toInt ≤ 0 := k_o2.1 1
  have g_o2_2 : (0 : Int) ≤ (o2.1 2).toInt ∧ (o2.1 2).toInt ≤ 0 := k_o2.1 2
  have g_o2_3 : (0 : Int) ≤ (o2.1 3).toInt ∧ (o2.1 3).toInt ≤ 62909 := k_o2.1 3
  have g_o2_4 : (1024 : Int) ≤ (o2.1 4).toInt ∧ (o2.1 4).toInt ≤ 131072 := k_o2.1 4
  have g_o2_5 : (1024 : Int) ≤ (o2.1 5).toInt ∧ (o2.1 5).toInt ≤ 131072 := k_o2.1 5
  have g_o2_16 : (0 : Int) ≤ (o2.1 16).toInt ∧ (o2.1 16).toInt ≤ 0 := k_o2.1 16
  have g_o2_17 : (0 : Int) ≤ (o2.1 17).toInt ∧ (o2.1 17).toInt ≤ 0 := k_o2.1 17
  have g_o2_18 : (0 : Int) ≤ (o2.1 18).toInt ∧ (o2.1 18).toInt ≤ 0 := k_o2.1 18
  have g_o2_30 : (0 : Int) ≤ (o2.1 30).toInt ∧ (o2.1 30).toInt ≤ 0 := k_o2.1 30
  have g_o3_0 : (0 : Int) ≤ (o3.1 0).toInt ∧ (o3.1 0).toInt ≤ 5 := k_o3.1 0
  have g_o3_1 : ((-2147483648) : Int) ≤ (o3.1 1).toInt ∧ (o3.1 1).toInt ≤ 2147483647 := k_o3.1 1
  have g_o3_2 : (0 : Int) ≤ (o3.1 2).toInt ∧ (o3.1 2).toInt ≤ 0 := k_o3.1 2
  have g_o3_3 : (0 : Int) ≤ (o3.1 3).toInt ∧ (o3.1 3).toInt ≤ 0 := k_o3.1 3
  have g_o3_4 : (0 : Int) ≤ (o3.1 4).toInt ∧ (o3.1 4).toInt ≤ 0 := k_o3.1 4
  have g_o3_5 : (0 : Int) ≤ (o3.1 5).toInt ∧ (o3.1 5).toInt ≤ 0 := k_o3.1 5
  have g_o3_16 : (0 : Int) ≤ (o3.1 16).toInt ∧ (o3.1 16).toInt ≤ 0 := k_o3.1 16
  have g_o3_17 : (0 : Int) ≤ (o3.1 17).toInt ∧ (o3.1 17).toInt ≤ 0 := k_o3.1 17
  have g_o3_18 : (0 : Int) ≤ (o3.1 18).toInt ∧ (o3.1 18).toInt ≤ 0 := k_o3.1 18
  have g_o3_30 : (0 : Int) ≤ (o3.1 30).toInt ∧ (o3.1 30).toInt ≤ 0 := k_o3.1 30
  have g_o4_0 : (0 : Int) ≤ (o4.1 0).toInt ∧ (o4.1 0).toInt ≤ 0 := k_o4.1 0
  have g_o4_1 : (0 : Int) ≤ (o4.1 1).toInt ∧ (o4.1 1).toInt ≤ 0 := k_o4.1 1
  have g_o4_2 : (0 : Int) ≤ (o4.1 2).toInt ∧ (o4.1 2).toInt ≤ 0 := k_o4.1 2
  have g_o4_3 : (0 : Int) ≤ (o4.1 3).toInt ∧ (o4.1 3).toInt ≤ 0 := k_o4.1 3
  have g_o4_4 : (0 : Int) ≤ (o4.1 4).toInt ∧ (o4.1 4).toInt ≤ 0 := k_o4.1 4
  have g_o4_5 : (0 : Int) ≤ (o4.1 5).toInt ∧ (o4.1 5).toInt ≤ 0 := k_o4.1 5
  have g_o4_16 : (0 : Int) ≤ (o4.1 16).toInt ∧ (o4.1 16).toInt ≤ 0 := k_o4.1 16
  have g_o4_17 : (0 : Int) ≤ (o4.1 17).toInt ∧ (o4.1 17).toInt ≤ 0 := k_o4.1 17
  have g_o4_18 : (0 : Int) ≤ (o4.1 18).toInt ∧ (o4.1 18).toInt ≤ 0 := k_o4.1 18
  have g_o4_30 : (0 : Int) ≤ (o4.1 30).toInt ∧ (o4.1 30).toInt ≤ 0 := k_o4.1 30
  have g_o5_0 : (0 : Int) ≤ (o5.1 0).toInt ∧ (o5.1 0).toInt ≤ 8 := k_o5.1 0
  have g_o5_1 : (0 : Int) ≤ (o5.1 1).toInt ∧ (o5.1 1).toInt ≤ 6 := k_o5.1 1
  have g_o5_2 : (0 : Int) ≤ (o5.1 2).toInt ∧ (o5.1 2).toInt ≤ 200 := k_o5.1 2
  have g_o5_3 : (0 : Int) ≤ (o5.1 3).toInt ∧ (o5.1 3).toInt ≤ 1 := k_o5.1 3
  have g_o5_4 : (0 : Int) ≤ (o5.1 4).toInt ∧ (o5.1 4).toInt ≤ 0 := k_o5.1 4
  have g_o5_5 : (0 : Int) ≤ (o5.1 5).toInt ∧ (o5.1 5).toInt ≤ 0 := k_o5.1 5
  have g_o5_16 : (0 : Int) ≤ (o5.1 16).toInt ∧ (o5.1 16).toInt ≤ 0 := k_o5.1 16
  have g_o5_17 : (0 : Int) ≤ (o5.1 17).toInt ∧ (o5.1 17).toInt ≤ 0 := k_o5.1 17
  have g_o5_18 : (0 : Int) ≤ (o5.1 18).toInt ∧ (o5.1 18).toInt ≤ 0 := k_o5.1 18
  have g_o5_30 : (0 : Int) ≤ (o5.1 30).toInt ∧ (o5.1 30).toInt ≤ 0 := k_o5.1 30
  have g_o6_0 : (0 : Int) ≤ (o6.1 0).toInt ∧ (o6.1 0).toInt ≤ 8 := k_o6.1 0
  have g_o6_1 : (0 : Int) ≤ (o6.1 1).toInt ∧ (o6.1 1).toInt ≤ 6 := k_o6.1 1
  have g_o6_2 : (0 : Int) ≤ (o6.1 2).toInt ∧ (o6.1 2).toInt ≤ 200 := k_o6.1 2
  have g_o6_3 : (0 : Int) ≤ (o6.1 3).toInt ∧ (o6.1 3).toInt ≤ 1 := k_o6.1 3
  have g_o6_4 : (0 : Int) ≤ (o6.1 4).toInt ∧ (o6.1 4).toInt ≤ 0 := k_o6.1 4
  have g_o6_5 : (0 : Int) ≤ (o6.1 5).toInt ∧ (o6.1 5).toInt ≤ 0 := k_o6.1 5
  have g_o6_16 : (0 : Int) ≤ (o6.1 16).toInt ∧ (o6.1 16).toInt ≤ 0 := k_o6.1 16
  have g_o6_17 : (0 : Int) ≤ (o6.1 17).toInt ∧ (o6.1 17).toInt ≤ 0 := k_o6.1 17
  have g_o6_18 : (0 : Int) ≤ (o6.1 18).toInt ∧ (o6.1 18).toInt ≤ 0 := k_o6.1 18
  have g_o6_30 : (0 : Int) ≤ (o6.1 30).toInt ∧ (o6.1 30).toInt ≤ 0 := k_o6.1 30
  refine tt_if (fun c1 => ?_) (fun c1 => ?_)
  · have wc1 : (o0.1 16).toInt = (0 : Int) := c_eq c1
    have i2 : (0 : Int) ≤ (o0.1 16).toInt ∧ (o0.1 16).toInt ≤ 0 := nr_eql c1 (k_o0.1 16) (show (0 : Int) ≤ (0 : Int32).toInt ∧ (0 : Int32).toInt ≤ 0 by decide) (by decide) (by decide)
    have k3 := ok_fp (k := 30) (v := 2) k_o0 (iv_w (a := 0) (b := 4) (by decide) (by decide) (show (2 : Int) ≤ (2 : Int32).toInt ∧ (2 : Int32).toInt ≤ 2 by decide))
    have r4 := fr_fp (k := 30) (v := 2) r_o0 rfl
    exact tt_some ⟨(iv_w (a := 0) (b := 200) (by decide) (by decide) (show (0 : Int) ≤ (0 : Int32).toInt ∧ (0 : Int32).toInt ≤ 0 by decide)), k3, k_o1, k_o2, k_o3, k_o4, k_o5, k_o6, x_0, x_1, x_2, x_3, (show (o2.1 3).toInt ≤ (o2.1 4).toInt by omega), (show (o2.1 4).toInt = (o2.1 5).toInt by omega), (show (o0.1 17).toInt = 0 ∨ (o0.1 17).toInt = (o0.1 17).toInt by omega), (show (o0.1 18).toInt = 0 ∨ (o0.1 18).toInt = (o0.1 18).toInt by omega), (show 2 = 0 ∨ 2 = 2 ∨ 2 = 4 by omega), trivial⟩
  · have wc1 : ¬ (o0.1 16).toInt = (0 : Int) := c_ne c1
    have i5 : (1 : Int) ≤ (o0.1 16).toInt ∧ (o0.1 16).toInt ≤ 1 := nr_nela c1 (k_o0.1 16) (show (0 : Int) ≤ (0 : Int32).toInt ∧ (0 : Int32).toInt ≤ 0 by decide) (by decide) (by decide)
    try unfold fF_rewrite_7
    refine tt_b (sCu_find _ _ _ k_o2 k_o5 (iv_w (a := 2) (b := 5) (by decide) (by decide) (show (4 : Int) ≤ (4 : Int32).toInt ∧ (4 : Int32).toInt ≤ 4 by decide)) x_0 x_2 (show (o2.1 3).toInt ≤ (o2.1 4).toInt by omega) (show (o2.1 4).toInt = (o2.1 5).toInt by omega) x_3) (fun q6 hq6 => ?_)
    obtain ⟨i_q6, k_q6_2, n_q6_2, f_q6_2_0, zq6_0, zq6_1, zq6_2, zq6_3, zq6_4, -⟩ := hq6
    have r_q6_2 := fr_tr r_o2 n_q6_2 rfl rfl rfl
    have e_q6_2_1 : (q6.2.1 1).toInt = (o2.1 1).toInt := congrArg Int32.toInt (n_q6_2.1 1 rfl)
    have g_q6_2_1 : (0 : Int) ≤ (q6.2.1 1).toInt ∧ (q6.2.1 1).toInt ≤ 0 := k_q6_2.1 1
    have e_q6_2_2 : (q6.2.1 2).toInt = (o2.1 2).toInt := congrArg Int32.toInt (n_q6_2.1 2 rfl)
    have g_q6_2_2 : (0 : Int) ≤ (q6.2.1 2).toInt ∧ (q6.2.1 2).toInt ≤ 0 := k_q6_2.1 2
    have g_q6_2_3 : (0 : Int) ≤ (q6.2.1 3).toInt ∧ (q6.2.1 3).toInt ≤ 62909 := k_q6_2.1 3
    have g_q6_2_4 : (1024 : Int) ≤ (q6.2.1 4).toInt ∧ (q6.2.1 4).toInt ≤ 131072 := k_q6_2.1 4
    have g_q6_2_5 : (1024 : Int) ≤ (q6.2.1 5).toInt ∧ (q6.2.1 5).toInt ≤ 131072 := k_q6_2.1 5
    have e_q6_2_16 : (q6.2.1 16).toInt = (o2.1 16).toInt := congrArg Int32.toInt (n_q6_2.1 16 rfl)
    have g_q6_2_16 : (0 : Int) ≤ (q6.2.1 16).toInt ∧ (q6.2.1 16).toInt ≤ 0 := k_q6_2.1 16
    have e_q6_2_17 : (q6.2.1 17).toInt = (o2.1 17).toInt := congrArg Int32.toInt (n_q6_2.1 17 rfl)
    have g_q6_2_17 : (0 : Int) ≤ (q6.2.1 17).toInt ∧ (q6.2.1 17).toInt ≤ 0 := k_q6_2.1 17
    have e_q6_2_18 : (q6.2.1 18).toInt = (o2.1 18).toInt := congrArg Int32.toInt (n_q6_2.1 18 rfl)
    have g_q6_2_18 : (0 : Int) ≤ (q6.2.1 18).toInt ∧ (q6.2.1 18).toInt ≤ 0 := k_q6_2.1 18
    have e_q6_2_30 : (q6.2.1 30).toInt = (o2.1 30).toInt := congrArg Int32.toInt (n_q6_2.1 30 rfl)
    have g_q6_2_30 : (0 : Int) ≤ (q6.2.1 30).toInt ∧ (q6.2.1 30).toInt ≤ 0 := k_q6_2.1 30
    have zq6_1 : (q6.2.1 3).toInt ≤ (q6.2.1 4).toInt := zq6_1
    have zq6_2 : (q6.2.1 4).toInt = (q6.2.1 5).toInt := zq6_2
    have zq6_3 : q6.1.toInt = 0 ∨ (q6.2.1 0).toInt = 4 := zq6_3
    try unfold fF_rewrite_19
    refine tt_if (fun c7 => ?_) (fun c7 => ?_)
    · have wc7 : q6.1.toInt = (0 : Int) := c_eq c7
      have i8 : (0 : Int) ≤ q6.1.toInt ∧ q6.1.toInt ≤ 0 := nr_eql c7 i_q6 (show (0 : Int) ≤ (0 : Int32).toInt ∧ (0 : Int32).toInt ≤ 0 by decide) (by decide) (by decide)
      have k9 := ok_fp (k := 30) (v := 4) k_o0 (iv_w (a := 0) (b := 4) (by decide) (by decide) (show (4 : Int) ≤ (4 : Int32).toInt ∧ (4 : Int32).toInt ≤ 4 by decide))
      have r10 := fr_fp (k := 30) (v := 4) r_o0 rfl
      exact tt_some ⟨(iv_w (a := 0) (b := 200) (by decide) (by decide) (show (0 : Int) ≤ (0 : Int32).toInt ∧ (0 : Int32).toInt ≤ 0 by decide)), k9, k_o1, k_q6_2, k_o3, k_o4, k_o5, k_o6, x_0, x_1, zq6_0, zq6_4, (show (q6.2.1 3).toInt ≤ (q6.2.1 4).toInt by omega), (show (q6.2.1 4).toInt = (q6.2.1 5).toInt by omega), (show (o0.1 17).toInt = 0 ∨ (o0.1 17).toInt = (o0.1 17).toInt by omega), (show (o0.1 18).toInt = 0 ∨ (o0.1 18).toInt = (o0.1 18).toInt by omega), (show 4 = 0 ∨ 4 = 2 ∨ 4 = 4 by omega), trivial⟩
    · have wc7 : ¬ q6.1.toInt = (0 : Int) := c_ne c7
      have i11 : (1 : Int) ≤ q6.1.toInt ∧ q6.1.toInt ≤ 1 := nr_nela c7 i_q6 (show (0 : Int) ≤ (0 : Int32).toInt ∧ (0 : Int32).toInt ≤ 0 by decide) (by decide) (by decide)
      try unfold fF_rewrite_22
      refine tt_b (sRe_makeRewritten _ _ _ _ _ k_o4 k_o5 k_o6 k_q6_2 k_o3 f_q6_2_0 x_0 x_1 zq6_0 zq6_4 (show (q6.2.1 0).toInt = 4 by omega) (show (q6.2.1 3).toInt ≤ (q6.2.1 4).toInt by omega)) (fun q12 hq12 => ?_)
      obtain ⟨k_q12_1, n_q12_1, k_q12_2_1, n_q12_2_1, k_q12_2_2, n_q12_2_2, zq12_0, zq12_1, zq12_2, zq12_3, -⟩ := hq12
      have r_q12_1 := fr_tr r_o4 n_q12_1 rfl rfl rfl
      have e_q12_1_0 : (q12.1.1 0).toInt = (o4.1 0).toInt := congrArg Int32.toInt (n_q12_1.1 0 rfl)
      have g_q12_1_0 : (0 : Int) ≤ (q12.1.1 0).toInt ∧ (q12.1.1 0).toInt ≤ 0 := k_q12_1.1 0
      have e_q12_1_1 : (q12.1.1 1).toInt = (o4.1 1).toInt := congrArg Int32.toInt (n_q12_1.1 1 rfl)
      have g_q12_1_1 : (0 : Int) ≤ (q12.1.1 1).toInt ∧ (q12.1.1 1).toInt ≤ 0 := k_q12_1.1 1
      have e_q12_1_2 : (q12.1.1 2).toInt = (o4.1 2).toInt := congrArg Int32.toInt (n_q12_1.1 2 rfl)
      have g_q12_1_2 : (0 : Int) ≤ (q12.1.1 2).toInt ∧ (q12.1.1 2).toInt ≤ 0 := k_q12_1.1 2
      have e_q12_1_3 : (q12.1.1 3).toInt = (o4.1 3).toInt := congrArg Int32.toInt (n_q12_1.1 3 rfl)
      have g_q12_1_3 : (0 : Int) ≤ (q12.1.1 3).toInt ∧ (q12.1.1 3).toInt ≤ 0 := k_q12_1.1 3
      have e_q12_1_4 : (q12.1.1 4).toInt = (o4.1 4).toInt := congrArg Int32.toInt (n_q12_1.1 4 rfl)
      have g_q12_1_4 : (0 : Int) ≤ (q12.1.1 4).toInt ∧ (q12.1.1 4).toInt ≤ 0 := k_q12_1.1 4
      have e_q12_1_5 : (q12.1.1 5).toInt = (o4.1 5).toInt := congrArg Int32.toInt (n_q12_1.1 5 rfl)
      have g_q12_1_5 : (0 : Int) ≤ (q12.1.1 5).toInt ∧ (q12.1.1 5).toInt ≤ 0 := k_q12_1.1 5
      have e_q12_1_16 : (q12.1.1 16).toInt = (o4.1 16).toInt := congrArg Int32.toInt (n_q12_1.1 16 rfl)
      have g_q12_1_16 : (0 : Int) ≤ (q12.1.1 16).toInt ∧ (q12.1.1 16).toInt ≤ 0 := k_q12_1.1 16
      have e_q12_1_17 : (q12.1.1 17).toInt = (o4.1 17).toInt := congrArg Int32.toInt (n_q12_1.1 17 rfl)
      have g_q12_1_17 : (0 : Int) ≤ (q12.1.1 17).toInt ∧ (q12.1.1 17).toInt ≤ 0 := k_q12_1.1 17
      have e_q12_1_18 : (q12.1.1 18).toInt = (o4.1 18).toInt := congrArg Int32.toInt (n_q12_1.1 18 rfl)
      have g_q12_1_18 : (0 : Int) ≤ (q12.1.1 18).toInt ∧ (q12.1.1 18).toInt ≤ 0 := k_q12_1.1 18
      have e_q12_1_30 : (q12.1.1 30).toInt = (o4.1 30).toInt := congrArg Int32.toInt (n_q12_1.1 30 rfl)
      have g_q12_1_30 : (0 : Int) ≤ (q12.1.1 30).toInt ∧ (q12.1.1 30).toInt ≤ 0 := k_q12_1.1 30
      have r_q12_2_1 := fr_tr r_o6 n_q12_2_1 rfl rfl rfl
      have g_q12_2_1_0 : (0 : Int) ≤ (q12.2.1.1 0).toInt ∧ (q12.2.1.1 0).toInt ≤ 8 := k_q12_2_1.1 0
      have g_q12_2_1_1 : (0 : Int) ≤ (q12.2.1.1 1).toInt ∧ (q12.2.1.1 1).toInt ≤ 6 := k_q12_2_1.1 1
      have g_q12_2_1_2 : (0 : Int) ≤ (q12.2.1.1 2).toInt ∧ (q12.2.1.1 2).toInt ≤ 200 := k_q12_2_1.1 2
      have g_q12_2_1_3 : (0 : Int) ≤ (q12.2.1.1 3).toInt ∧ (q12.2.1.1 3).toInt ≤ 1 := k_q12_2_1.1 3
      have e_q12_2_1_4 : (q12.2.1.1 4).toInt = (o6.1 4).toInt := congrArg Int32.toInt (n_q12_2_1.1 4 rfl)
      have g_q12_2_1_4 : (0 : Int) ≤ (q12.2.1.1 4).toInt ∧ (q12.2.1.1 4).toInt ≤ 0 := k_q12_2_1.1 4
      have e_q12_2_1_5 : (q12.2.1.1 5).toInt = (o6.1 5).toInt := congrArg Int32.toInt (n_q12_2_1.1 5 rfl)
      have g_q12_2_1_5 : (0 : Int) ≤ (q12.2.1.1 5).toInt ∧ (q12.2.1.1 5).toInt ≤ 0 := k_q12_2_1.1 5
      have e_q12_2_1_16 : (q12.2.1.1 16).toInt = (o6.1 16).toInt := congrArg Int32.toInt (n_q12_2_1.1 16 rfl)
      have g_q12_2_1_16 : (0 : Int) ≤ (q12.2.1.1 16).toInt ∧ (q12.2.1.1 16).toInt ≤ 0 := k_q12_2_1.1 16
      have e_q12_2_1_17 : (q12.2.1.1 17).toInt = (o6.1 17).toInt := congrArg Int32.toInt (n_q12_2_1.1 17 rfl)
      have g_q12_2_1_17 : (0 : Int) ≤ (q12.2.1.1 17).toInt ∧ (q12.2.1.1 17).toInt ≤ 0 := k_q12_2_1.1 17
      have e_q12_2_1_18 : (q12.2.1.1 18).toInt = (o6.1 18).toInt := congrArg Int32.toInt (n_q12_2_1.1 18 rfl)
      have g_q12_2_1_18 : (0 : Int) ≤ (q12.2.1.1 18).toInt ∧ (q12.2.1.1 18).toInt ≤ 0 := k_q12_2_1.1 18
      have e_q12_2_1_30 : (q12.2.1.1 30).toInt = (o6.1 30).toInt := congrArg Int32.toInt (n_q12_2_1.1 30 rfl)
      have g_q12_2_1_30 : (0 : Int) ≤ (q12.2.1.1 30).toInt ∧ (q12.2.1.1 30).toInt ≤ 0 := k_q12_2_1.1 30
      have r_q12_2_2 := fr_tr r_o3 n_q12_2_2 rfl rfl rfl
      have g_q12_2_2_0 : (0 : Int) ≤ (q12.2.2.1 0).toInt ∧ (q12.2.2.1 0).toInt ≤ 5 := k_q12_2_2.1 0
      have g_q12_2_2_1 : ((-2147483648) : Int) ≤ (q12.2.2.1 1).toInt ∧ (q12.2.2.1 1).toInt ≤ 2147483647 := k_q12_2_2.1 1
      have e_q12_2_2_2 : (q12.2.2.1 2).toInt = (o3.1 2).toInt := congrArg Int32.toInt (n_q12_2_2.1 2 rfl)
      have g_q12_2_2_2 : (0 : Int) ≤ (q12.2.2.1 2).toInt ∧ (q12.2.2.1 2).toInt ≤ 0 := k_q12_2_2.1 2
      have e_q12_2_2_3 : (q12.2.2.1 3).toInt = (o3.1 3).toInt := congrArg Int32.toInt (n_q12_2_2.1 3 rfl)
      have g_q12_2_2_3 : (0 : Int) ≤ (q12.2.2.1 3).toInt ∧ (q12.2.2.1 3).toInt ≤ 0 := k_q12_2_2.1 3
      have e_q12_2_2_4 : (q12.2.2.1 4).toInt = (o3.1 4).toInt := congrArg Int32.toInt (n_q12_2_2.1 4 rfl)
      have g_q12_2_2_4 : (0 : Int) ≤ (q12.2.2.1 4).toInt ∧ (q12.2.2.1 4).toInt ≤ 0 := k_q12_2_2.1 4
      have e_q12_2_2_5 : (q12.2.2.1 5).toInt = (o3.1 5).toInt := congrArg Int32.toInt (n_q12_2_2.1 5 rfl)
      have g_q12_2_2_5 : (0 : Int) ≤ (q12.2.2.1 5).toInt ∧ (q12.2.2.1 5).toInt ≤ 0 := k_q12_2_2.1 5
      have e_q12_2_2_16 : (q12.2.2.1 16).toInt = (o3.1 16).toInt := congrArg Int32.toInt (n_q12_2_2.1 16 rfl)
      have g_q12_2_2_16 : (0 : Int) ≤ (q12.2.2.1 16).toInt ∧ (q12.2.2.1 16).toInt ≤ 0 := k_q12_2_2.1 16
      have e_q12_2_2_17 : (q12.2.2.1 17).toInt = (o3.1 17).toInt := congrArg Int32.toInt (n_q12_2_2.1 17 rfl)
      have g_q12_2_2_17 : (0 : Int) ≤ (q12.2.2.1 17).toInt ∧ (q12.2.2.1 17).toInt ≤ 0 := k_q12_2_2.1 17
      have e_q12_2_2_18 : (q12.2.2.1 18).toInt = (o3.1 18).toInt := congrArg Int32.toInt (n_q12_2_2.1 18 rfl)
      have g_q12_2_2_18 : (0 : Int) ≤ (q12.2.2.1 18).toInt ∧ (q12.2.2.1 18).toInt ≤ 0 := k_q12_2_2.1 18
      have e_q12_2_2_30 : (q12.2.2.1 30).toInt = (o3.1 30).toInt := congrArg Int32.toInt (n_q12_2_2.1 30 rfl)
      have g_q12_2_2_30 : (0 : Int) ≤ (q12.2.2.1 30).toInt ∧ (q12.2.2.1 30).toInt ≤ 0 := k_q12_2_2.1 30
      have zq12_2 : (q12.2.1.1 0).toInt = (o5.1 0).toInt := zq12_2
      have zq12_3 : (q12.2.1.1 1).toInt = (o5.1 1).toInt := zq12_3
      try unfold fF_rewrite_45
      refine tt_if (fun c13 => ?_) (fun c13 => ?_)
      · have wc13 : (q12.2.1.1 3).toInt = (0 : Int) := c_eq c13
        have i14 : (0 : Int) ≤ (q12.2.1.1 3).toInt ∧ (q12.2.1.1 3).toInt ≤ 0 := nr_eql c13 (k_q12_2_1.1 3) (show (0 : Int) ≤ (0 : Int32).toInt ∧ (0 : Int32).toInt ≤ 0 by decide) (by decide) (by decide)
        try unfold fF_rewrite_60
        refine tt_if (fun c15 => ?_) (fun c15 => ?_)
        · have wc15 : (1 : Int) = (0 : Int) := c_eq c15
          exact (dd_eq c15 (show (1 : Int) ≤ (1 : Int32).toInt ∧ (1 : Int32).toInt ≤ 1 by decide) (show (0 : Int) ≤ (0 : Int32).toInt ∧ (0 : Int32).toInt ≤ 0 by decide) (by decide)).elim
        · have wc15 : ¬ (1 : Int) = (0 : Int) := c_ne c15
          try unfold fF_rewrite_63
          refine tt_b (sF_takeSpareNodes _ _ _ k_o0 k_o1 k_q6_2) (fun q16 hq16 => ?_)
          obtain ⟨k_q16_1, n_q16_1, f_q16_1_17, f_q16_1_18, f_q16_1_30, k_q16_2_1, n_q16_2_1, f_q16_2_1_0, k_q16_2_2, n_q16_2_2, f_q16_2_2_0, zq16_0, zq16_1, zq16_2, zq16_3, -⟩ := hq16
          have r_q16_1 := fr_tr r_o0 n_q16_1 rfl rfl rfl
          have f_q16_1_16 : (1 : Int) ≤ (q16.1.1 16).toInt ∧ (q16.1.1 16).toInt ≤ 1 := by rw [n_q16_1.1 16 rfl]; exact i5
          have e_q16_1_0 : (q16.1.1 0).toInt = (o0.1 0).toInt := congrArg Int32.toInt (n_q16_1.1 0 rfl)
          have g_q16_1_0 : (0 : Int) ≤ (q16.1.1 0).toInt ∧ (q16.1.1 0).toInt ≤ 0 := k_q16_1.1 0
          have e_q16_1_1 : (q16.1.1 1).toInt = (o0.1 1).toInt := congrArg Int32.toInt (n_q16_1.1 1 rfl)
          have g_q16_1_1 : (0 : Int) ≤ (q16.1.1 1).toInt ∧ (q16.1.1 1).toInt ≤ 0 := k_q16_1.1 1
          have e_q16_1_2 : (q16.1.1 2).toInt = (o0.1 2).toInt := congrArg Int32.toInt (n_q16_1.1 2 rfl)
          have g_q16_1_2 : (0 : Int) ≤ (q16.1.1 2).toInt ∧ (q16.1.1 2).toInt ≤ 0 := k_q16_1.1 2
          have e_q16_1_3 : (q16.1.1 3).toInt = (o0.1 3).toInt := congrArg Int32.toInt (n_q16_1.1 3 rfl)
          have g_q16_1_3 : (0 : Int) ≤ (q16.1.1 3).toInt ∧ (q16.1.1 3).toInt ≤ 0 := k_q16_1.1 3
          have e_q16_1_4 : (q16.1.1 4).toInt = (o0.1 4).toInt := congrArg Int32.toInt (n_q16_1.1 4 rfl)
          have g_q16_1_4 : (0 : Int) ≤ (q16.1.1 4).toInt ∧ (q16.1.1 4).toInt ≤ 0 := k_q16_1.1 4
          have e_q16_1_5 : (q16.1.1 5).toInt = (o0.1 5).toInt := congrArg Int32.toInt (n_q16_1.1 5 rfl)
          have g_q16_1_5 : (0 : Int) ≤ (q16.1.1 5).toInt ∧ (q16.1.1 5).toInt ≤ 0 := k_q16_1.1 5
          have e_q16_1_16 : (q16.1.1 16).toInt = (o0.1 16).toInt := congrArg Int32.toInt (n_q16_1.1 16 rfl)
          have r_q16_2_1 := fr_tr r_o1 n_q16_2_1 rfl rfl rfl
          have e_q16_2_1_1 : (q16.2.1.1 1).toInt = (o1.1 1).toInt := congrArg Int32.toInt (n_q16_2_1.1 1 rfl)
          have g_q16_2_1_1 : (0 : Int) ≤ (q16.2.1.1 1).toInt ∧ (q16.2.1.1 1).toInt ≤ 0 := k_q16_2_1.1 1
          have e_q16_2_1_2 : (q16.2.1.1 2).toInt = (o1.1 2).toInt := congrArg Int32.toInt (n_q16_2_1.1 2 rfl)
          have g_q16_2_1_2 : (0 : Int) ≤ (q16.2.1.1 2).toInt ∧ (q16.2.1.1 2).toInt ≤ 0 := k_q16_2_1.1 2
          have e_q16_2_1_3 : (q16.2.1.1 3).toInt = (o1.1 3).toInt := congrArg Int32.toInt (n_q16_2_1.1 3 rfl)
          have g_q16_2_1_3 : (0 : Int) ≤ (q16.2.1.1 3).toInt ∧ (q16.2.1.1 3).toInt ≤ 0 := k_q16_2_1.1 3
          have e_q16_2_1_4 : (q16.2.1.1 4).toInt = (o1.1 4).toInt := congrArg Int32.toInt (n_q16_2_1.1 4 rfl)
          have g_q16_2_1_4 : (0 : Int) ≤ (q16.2.1.1 4).toInt ∧ (q16.2.1.1 4).toInt ≤ 0 := k_q16_2_1.1 4
          have e_q16_2_1_5 : (q16.2.1.1 5).toInt = (o1.1 5).toInt := congrArg Int32.toInt (n_q16_2_1.1 5 rfl)
          have g_q16_2_1_5 : (0 : Int) ≤ (q16.2.1.1 5).toInt ∧ (q16.2.1.1 5).toInt ≤ 0 := k_q16_2_1.1 5
          have e_q16_2_1_16 : (q16.2.1.1 16).toInt = (o1.1 16).toInt := congrArg Int32.toInt (n_q16_2_1.1 16 rfl)
          have g_q16_2_1_16 : (0 : Int) ≤ (q16.2.1.1 16).toInt ∧ (q16.2.1.1 16).toInt ≤ 0 := k_q16_2_1.1 16
          have e_q16_2_1_17 : (q16.2.1.1 17).toInt = (o1.1 17).toInt := congrArg Int32.toInt (n_q16_2_1.1 17 rfl)
          have g_q16_2_1_17 : (0 : Int) ≤ (q16.2.1.1 17).toInt ∧ (q16.2.1.1 17).toInt ≤ 0 := k_q16_2_1.1 17
          have e_q16_2_1_18 : (q16.2.1.1 18).toInt = (o1.1 18).toInt := congrArg Int32.toInt (n_q16_2_1.1 18 rfl)
          have g_q16_2_1_18 : (0 : Int) ≤ (q16.2.1.1 18).toInt ∧ (q16.2.1.1 18).toInt ≤ 0 := k_q16_2_1.1 18
          have e_q16_2_1_30 : (q16.2.1.1 30).toInt = (o1.1 30).toInt := congrArg Int32.toInt (n_q16_2_1.1 30 rfl)
          have g_q16_2_1_30 : (0 : Int) ≤ (q16.2.1.1 30).toInt ∧ (q16.2.1.1 30).toInt ≤ 0 := k_q16_2_1.1 30
          have r_q16_2_2 := fr_tr r_q6_2 n_q16_2_2 rfl rfl rfl
          have e_q16_2_2_1 : (q16.2.2.1 1).toInt = (q6.2.1 1).toInt := congrArg Int32.toInt (n_q16_2_2.1 1 rfl)
          have g_q16_2_2_1 : (0 : Int) ≤ (q16.2.2.1 1).toInt ∧ (q16.2.2.1 1).toInt ≤ 0 := k_q16_2_2.1 1
          have e_q16_2_2_2 : (q16.2.2.1 2).toInt = (q6.2.1 2).toInt := congrArg Int32.toInt (n_q16_2_2.1 2 rfl)
          have g_q16_2_2_2 : (0 : Int) ≤ (q16.2.2.1 2).toInt ∧ (q16.2.2.1 2).toInt ≤ 0 := k_q16_2_2.1 2
          have e_q16_2_2_3 : (q16.2.2.1 3).toInt = (q6.2.1 3).toInt := congrArg Int32.toInt (n_q16_2_2.1 3 rfl)
          have g_q16_2_2_3 : (0 : Int) ≤ (q16.2.2.1 3).toInt ∧ (q16.2.2.1 3).toInt ≤ 62909 := k_q16_2_2.1 3
          have e_q16_2_2_4 : (q16.2.2.1 4).toInt = (q6.2.1 4).toInt := congrArg Int32.toInt (n_q16_2_2.1 4 rfl)
          have g_q16_2_2_4 : (1024 : Int) ≤ (q16.2.2.1 4).toInt ∧ (q16.2.2.1 4).toInt ≤ 131072 := k_q16_2_2.1 4
          have e_q16_2_2_5 : (q16.2.2.1 5).toInt = (q6.2.1 5).toInt := congrArg Int32.toInt (n_q16_2_2.1 5 rfl)
          have g_q16_2_2_5 : (1024 : Int) ≤ (q16.2.2.1 5).toInt ∧ (q16.2.2.1 5).toInt ≤ 131072 := k_q16_2_2.1 5
          have e_q16_2_2_16 : (q16.2.2.1 16).toInt = (q6.2.1 16).toInt := congrArg Int32.toInt (n_q16_2_2.1 16 rfl)
          have g_q16_2_2_16 : (0 : Int) ≤ (q16.2.2.1 16).toInt ∧ (q16.2.2.1 16).toInt ≤ 0 := k_q16_2_2.1 16
          have e_q16_2_2_17 : (q16.2.2.1 17).toInt = (q6.2.1 17).toInt := congrArg Int32.toInt (n_q16_2_2.1 17 rfl)
          have g_q16_2_2_17 : (0 : Int) ≤ (q16.2.2.1 17).toInt ∧ (q16.2.2.1 17).toInt ≤ 0 := k_q16_2_2.1 17
          have e_q16_2_2_18 : (q16.2.2.1 18).toInt = (q6.2.1 18).toInt := congrArg Int32.toInt (n_q16_2_2.1 18 rfl)
          have g_q16_2_2_18 : (0 : Int) ≤ (q16.2.2.1 18).toInt ∧ (q16.2.2.1 18).toInt ≤ 0 := k_q16_2_2.1 18
          have e_q16_2_2_30 : (q16.2.2.1 30).toInt = (q6.2.1 30).toInt := congrArg Int32.toInt (n_q16_2_2.1 30 rfl)
          have g_q16_2_2_30 : (0 : Int) ≤ (q16.2.2.1 30).toInt ∧ (q16.2.2.1 30).toInt ≤ 0 := k_q16_2_2.1 30
          have zq16_0 : (q16.1.1 17).toInt = 0 := zq16_0
          have zq16_1 : (q16.1.1 18).toInt = 0 := zq16_1
          have zq16_2 : (q16.2.2.1 0).toInt = 0 := zq16_2
          have zq16_3 : (q16.1.1 30).toInt = 0 := zq16_3
          refine tt_if (fun c17 => ?_) (fun c17 => ?_)
          · have wc17 : (q16.1.1 30).toInt = (0 : Int) := c_eq c17
            try unfold fF_rewrite_67
            have k18 := ok_fp (k := 30) (v := 0) k_q16_1 (iv_w (a := 0) (b := 4) (by decide) (by decide) (show (0 : Int) ≤ (0 : Int32).toInt ∧ (0 : Int32).toInt ≤ 0 by decide))
            have r19 := fr_fp (k := 30) (v := 0) r_q16_1 rfl
            have p20 : Gx ((q12.2.1.1 0).toInt + 1) (q12.2.1.1 2).toInt (sh ((q12.2.1.1 0).toInt + 1) (q12.2.1.2.1 4)) (sh ((q12.2.1.1 0).toInt + 1) (q12.2.1.2.1 5)) := by first | assumption | exact GI_x (by assumption)
            have p21 : No (q12.2.1.1 1).toInt (((q12.2.1.1 0).toInt + 1) + (q12.2.1.1 2).toInt) (q12.2.1.2.1 7) := by first | assumption | exact No_w x_1 (by omega) (by omega) | exact No_w zq12_1 (by omega) (by omega)
            have p22 : Fqs (q16.2.2.1 0).toInt (q12.2.1.1 0).toInt (((q12.2.1.1 0).toInt + 1) + (q12.2.1.1 2).toInt) (q16.2.2.1 3).toInt (q16.2.2.2.1 2) (q16.2.2.2.1 1) (q16.2.2.2.2 4) := by first | assumption | exact Fqs_0 (by omega)
            have p23 : Rcf (q16.2.2.1 0).toInt (q16.2.2.1 3).toInt (q12.2.1.1 0).toInt (((q12.2.1.1 0).toInt + 1) + (q12.2.1.1 2).toInt) (q12.2.1.2.1 4) (q12.2.1.2.1 5) (q16.2.2.2.1 2) (q16.2.2.2.2 4) := by first | assumption | exact Or.inl (by omega)
            exact tt_some ⟨(k_q12_2_1.1 2), k18, k_q16_2_1, k_q16_2_2, k_q12_2_2, k_q12_1, k_q12_2_1, k_o5, p20, p21, p22, p23, (show (q16.2.2.1 3).toInt ≤ (q16.2.2.1 4).toInt by omega), (show (q16.2.2.1 4).toInt = (q16.2.2.1 5).toInt by omega), (show (q16.1.1 17).toInt = 0 ∨ (q16.1.1 17).toInt = (o0.1 17).toInt by omega), (show (q16.1.1 18).toInt = 0 ∨ (q16.1.1 18).toInt = (o0.1 18).toInt by omega), (show 0 = 0 ∨ 0 = 2 ∨ 0 = 4 by omega), trivial⟩
          · have wc17 : ¬ (q16.1.1 30).toInt = (0 : Int) := c_ne c17
            exact (dd_ne c17 f_q16_1_30 (show (0 : Int) ≤ (0 : Int32).toInt ∧ (0 : Int32).toInt ≤ 0 by decide)).elim
      · have wc13 : ¬ (q12.2.1.1 3).toInt = (0 : Int) := c_ne c13
        have i24 : (1 : Int) ≤ (q12.2.1.1 3).toInt ∧ (q12.2.1.1 3).toInt ≤ 1 := nr_nela c13 (k_q12_2_1.1 3) (show (0 : Int) ≤ (0 : Int32).toInt ∧ (0 : Int32).toInt ≤ 0 by decide) (by decide) (by decide)
        try unfold fF_rewrite_60
        refine tt_if (fun c25 => ?_) (fun c25 => ?_)
        · have wc25 : (0 : Int) = (0 : Int) := c_eq c25
          have k26 := ok_fp (k := 30) (v := 4) k_o0 (iv_w (a := 0) (b := 4) (by decide) (by decide) (show (4 : Int) ≤ (4 : Int32).toInt ∧ (4 : Int32).toInt ≤ 4 by decide))
          have r27 := fr_fp (k := 30) (v := 4) r_o0 rfl
          exact tt_some ⟨(iv_w (a := 0) (b := 200) (by decide) (by decide) (show (0 : Int) ≤ (0 : Int32).toInt ∧ (0 : Int32).toInt ≤ 0 by decide)), k26, k_o1, k_q6_2, k_q12_2_2, k_q12_1, k_o5, k_q12_2_1, x_0, x_1, zq6_0, zq6_4, (show (q6.2.1 3).toInt ≤ (q6.2.1 4).toInt by omega), (show (q6.2.1 4).toInt = (q6.2.1 5).toInt by omega), (show (o0.1 17).toInt = 0 ∨ (o0.1 17).toInt = (o0.1 17).toInt by omega), (show (o0.1 18).toInt = 0 ∨ (o0.1 18).toInt = (o0.1 18).toInt by omega), (show 4 = 0 ∨ 4 = 2 ∨ 4 = 4 by omega), trivial⟩
        · have wc25 : ¬ (0 : Int) = (0 : Int) := c_ne c25
          exact (dd_ne c25 (show (0 : Int) ≤ (0 : Int32).toInt ∧ (0 : Int32).toInt ≤ 0 by decide) (show (0 : Int) ≤ (0 : Int32).toInt ∧ (0 : Int32).toInt ≤ 0 by decide)).elim
def QF_diagram (v1 : Int32) (v2 : Int32) (o0 : cf_O) (o1 : cf_O) (o2 : cf_O) (r : (Int32 × cf_O × cf_O)) : Prop := (okO I_F r.2.1) ∧ (Fr (fr_M [30] [] []) o0 r.2.1) ∧ ((0 : Int) ≤ (r.2.1.1 30).toInt ∧ (r.2.1.1 30).toInt ≤ 3) ∧ (okO I_Fu r.2.2) ∧ (Fr (fr_M [0] [2, 3, 4] [1]) o1 r.2.2) ∧ ((r.2.1.1 30).toInt = 0 ∨ (r.2.1.1 30).toInt = 2 ∨ (r.2.1.1 30).toInt = 3 ∨ (r.2.1.1 30).toInt = 1) ∧ True
set_option maxHeartbeats 4000000 in
set_option maxRecDepth 100000 in
theorem sF_diagram (v1 : Int32) (v2 : Int32) (o0 : cf_O) (o1 : cf_O) (o2 : cf_O) (k_o0 : okO I_F o0) (k_o1 : okO I_Fu o1) (k_o2 : okO I_Gr o2) (x_0 : Gx ((o2.1 0).toInt + 1) (o2.1 2).toInt (sh ((o2.1 0).toInt + 1) (o2.2.1 4)) (sh ((o2.1 0).toInt + 1) (o2.2.1 5))) (x_1 : No (o2.1 1).toInt (((o2.1 0).toInt + 1) + (o2.1 2).toInt) (o2.2.1 7)) : tt (fF_diagram v1 v2 o0 o1 o2) (QF_diagram v1 v2 o0 o1 o2) := by
  have r_o0 : Fr (fr_M [30] [] []) o0 o0 := fr_rfl
  have r_o1 : Fr (fr_M [0] [2, 3, 4] [1]) o1 o1 := fr_rfl
  have r_o2 : Fr (fr_M [] [] []) o2 o2 := fr_rfl
  unfold fF_diagram fF_diagram_0
  have i_v1 := iv_top v1
  have i_v2 := iv_top v2
  have g_o0_0 : (0 : Int) ≤ (o0.1 0).toInt ∧ (o0.1 0).toInt ≤ 0 := k_o0.1 0
  have g_o0_1 : (0 : Int) ≤ (o0.1 1).toInt ∧ (o0.1 1).toInt ≤ 0 := k_o0.1 1
  have g_o0_2 : (0 : Int) ≤ (o0.1 2).toInt ∧ (o0.1 2).toInt ≤ 0 := k_o0.1 2
  have g_o0_3 : (0 : Int) ≤ (o0.1 3).toInt ∧ (o0.1 3).toInt ≤ 0 := k_o0.1 3
  have g_o0_4 : (0 : Int) ≤ (o0.1 4).toInt ∧ (o0.1 4).toInt ≤ 0 := k_o0.1 4
  have g_o0_5 : (0 : Int) ≤ (o0.1 5).toInt ∧ (o0.1 5).toInt ≤ 0 := k_o0.1 5
  have g_o0_16 : (0 : Int) ≤ (o0.1 16).toInt ∧ (o0.1 16).toInt ≤ 1 := k_o0.1 16
  have g_o0_17 : (0 : Int) ≤ (o0.1 17).toInt ∧ (o0.1 17).toInt ≤ 1 := k_o0.1 17
  have g_o0_18 : (0 : Int) ≤ (o0.1 18).toInt ∧ (o0.1 18).toInt ≤ 1 := k_o0.1 18
  have g_o0_30 : (0 : Int) ≤ (o0.1 30).toInt ∧ (o0.1 30).toInt ≤ 4 := k_o0.1 30
  have g_o1_0 : (0 : Int) ≤ (o1.1 0).toInt ∧ (o1.1 0).toInt ≤ 1 := k_o1.1 0
  have g_o1_1 : (0 : Int) ≤ (o1.1 1).toInt ∧ (o1.1 1).toInt ≤ 0 := k_o1.1 1
  have g_o1_2 : (0 : Int) ≤ (o1.1 2).toInt ∧ (o1.1 2).toInt ≤ 0 := k_o1.1 2
  have g_o1_3 : (0 : Int) ≤ (o1.1 3).toInt ∧ (o1.1 3).toInt ≤ 0 := k_o1.1 3
  have g_o1_4 : (0 : Int) ≤ (o1.1 4).toInt ∧ (o1.1 4).toInt ≤ 0 := k_o1.1 4
  have g_o1_5 : (0 : Int) ≤ (o1.1 5).toInt ∧ (o1.1 5).toInt ≤ 0 := k_o1.1 5
  have g_o1_16 : (0 : Int) ≤ (o1.1 16).toInt ∧ (o1.1 16).toInt ≤ 0 := k_o1.1 16
  have g_o1_17 : (0 : Int) ≤ (o1.1 17).toInt ∧ (o1.1 17).toInt ≤ 0 := k_o1.1 17
  have g_o1_18 : (0 : Int) ≤ (o1.1 18).toInt ∧ (o1.1 18).toInt ≤ 0 := k_o1.1 18
  have g_o1_30 : (0 : Int) ≤ (o1.1 30).toInt ∧ (o1.1 30).toInt ≤ 0 := k_o1.1 30
  have g_o2_0 : (0 : Int) ≤ (o2.1 0).toInt ∧ (o2.1 0).toInt ≤ 8 := k_o2.1 0
  have g_o2_1 : (0 : Int) ≤ (o2.1 1).toInt ∧ (o2.1 1).toInt ≤ 6 := k_o2.1 1
  have g_o2_2 : (0 : Int) ≤ (o2.1 2).toInt ∧ (o2.1 2).toInt ≤ 200 := k_o2.1 2
  have g_o2_3 : (0 : Int) ≤ (o2.1 3).toInt ∧ (o2.1 3).toInt ≤ 1 := k_o2.1 3
  have g_o2_4 : (0 : Int) ≤ (o2.1 4).toInt ∧ (o2.1 4).toInt ≤ 0 := k_o2.1 4
  have g_o2_5 : (0 : Int) ≤ (o2.1 5).toInt ∧ (o2.1 5).toInt ≤ 0 := k_o2.1 5
  have g_o2_16 : (0 : Int) ≤ (o2.1 16).toInt ∧ (o2.1 16).toInt ≤ 0 := k_o2.1 16
  have g_o2_17 : (0 : Int) ≤ (o2.1 17).toInt ∧ (o2.1 17).toInt ≤ 0 := k_o2.1 17
  have g_o2_18 : (0 : Int) ≤ (o2.1 18).toInt ∧ (o2.1 18).toInt ≤ 0 := k_o2.1 18
  have g_o2_30 : (0 : Int) ≤ (o2.1 30).toInt ∧ (o2.1 30).toInt ≤ 0 := k_o2.1 30
  refine tt_if (fun c1 => ?_) (fun c1 => ?_)
  · have wc1 : (o0.1 16).toInt = (0 : Int) := c_eq c1
    have i2 : (0 : Int) ≤ (o0.1 16).toInt ∧ (o0.1 16).toInt ≤ 0 := nr_eql c1 (k_o0.1 16) (show (0 : Int) ≤ (0 : Int32).toInt ∧ (0 : Int32).toInt ≤ 0 by decide) (by decide) (by decide)
    have k3 := ok_fp (k := 30) (v := 2) k_o0 (iv_w (a := 0) (b := 4) (by decide) (by decide) (show (2 : Int) ≤ (2 : Int32).toInt ∧ (2 : Int32).toInt ≤ 2 by decide))
    have r4 := fr_fp (k := 30) (v := 2) r_o0 rfl
    exact tt_some ⟨k3, r4, (iv_w (a := 0) (b := 3) (by decide) (by decide) (show (2 : Int) ≤ (2 : Int32).toInt ∧ (2 : Int32).toInt ≤ 2 by decide)), k_o1, r_o1, (show 2 = 0 ∨ 2 = 2 ∨ 2 = 3 ∨ 2 = 1 by omega), trivial⟩
  · have wc1 : ¬ (o0.1 16).toInt = (0 : Int) := c_ne c1
    have i5 : (1 : Int) ≤ (o0.1 16).toInt ∧ (o0.1 16).toInt ≤ 1 := nr_nela c1 (k_o0.1 16) (show (0 : Int) ≤ (0 : Int32).toInt ∧ (0 : Int32).toInt ≤ 0 by decide) (by decide) (by decide)
    try unfold fF_diagram_7
    refine tt_if (fun c6 => ?_) (fun c6 => ?_)
    · have wc6 : v1.toInt < (0 : Int) := c_lt c6
      have i7 : ((-2147483648) : Int) ≤ v1.toInt ∧ v1.toInt ≤ (-1) := nr_ltl c6 (iv_top v1) (show (0 : Int) ≤ (0 : Int32).toInt ∧ (0 : Int32).toInt ≤ 0 by decide) (by decide) (by decide)
      try unfold fF_diagram_26
      try unfold fF_diagram_27
      refine tt_if (fun c8 => ?_) (fun c8 => ?_)
      · have wc8 : (0 : Int) = (0 : Int) := c_eq c8
        have k9 := ok_fp (k := 30) (v := 3) k_o0 (iv_w (a := 0) (b := 4) (by decide) (by decide) (show (3 : Int) ≤ (3 : Int32).toInt ∧ (3 : Int32).toInt ≤ 3 by decide))
        have r10 := fr_fp (k := 30) (v := 3) r_o0 rfl
        exact tt_some ⟨k9, r10, (iv_w (a := 0) (b := 3) (by decide) (by decide) (show (3 : Int) ≤ (3 : Int32).toInt ∧ (3 : Int32).toInt ≤ 3 by decide)), k_o1, r_o1, (show 3 = 0 ∨ 3 = 2 ∨ 3 = 3 ∨ 3 = 1 by omega), trivial⟩
      · have wc8 : ¬ (0 : Int) = (0 : Int) := c_ne c8
        exact (dd_ne c8 (show (0 : Int) ≤ (0 : Int32).toInt ∧ (0 : Int32).toInt ≤ 0 by decide) (show (0 : Int) ≤ (0 : Int32).toInt ∧ (0 : Int32).toInt ≤ 0 by decide)).elim
    · have wc6 : (0 : Int) ≤ v1.toInt := c_nlt c6
      have i11 : (0 : Int) ≤ v1.toInt ∧ v1.toInt ≤ 2147483647 := nr_nltr c6 (show (0 : Int) ≤ (0 : Int32).toInt ∧ (0 : Int32).toInt ≤ 0 by decide) (iv_top v1) (by decide) (by decide)
      refine tt_if (fun c12 => ?_) (fun c12 => ?_)
      · have wc12 : (o2.1 1).toInt ≤ v1.toInt := c_le c12
        try unfold fF_diagram_26
        try unfold fF_diagram_27
        refine tt_if (fun c13 => ?_) (fun c13 => ?_)
        · have wc13 : (0 : Int) = (0 : Int) := c_eq c13
          have k14 := ok_fp (k := 30) (v := 3) k_o0 (iv_w (a := 0) (b := 4) (by decide) (by decide) (show (3 : Int) ≤ (3 : Int32).toInt ∧ (3 : Int32).toInt ≤ 3 by decide))
          have r15 := fr_fp (k := 30) (v := 3) r_o0 rfl
          exact tt_some ⟨k14, r15, (iv_w (a := 0) (b := 3) (by decide) (by decide) (show (3 : Int) ≤ (3 : Int32).toInt ∧ (3 : Int32).toInt ≤ 3 by decide)), k_o1, r_o1, (show 3 = 0 ∨ 3 = 2 ∨ 3 = 3 ∨ 3 = 1 by omega), trivial⟩
        · have wc13 : ¬ (0 : Int) = (0 : Int) := c_ne c13
          exact (dd_ne c13 (show (0 : Int) ≤ (0 : Int32).toInt ∧ (0 : Int32).toInt ≤ 0 by decide) (show (0 : Int) ≤ (0 : Int32).toInt ∧ (0 : Int32).toInt ≤ 0 by decide)).elim
      · have wc12 : v1.toInt < (o2.1 1).toInt := c_nle c12
        have i16 : (0 : Int) ≤ v1.toInt ∧ v1.toInt ≤ 5 := nr_nlel c12 i11 (k_o2.1 1) (by decide) (by decide)
        have i17 : (1 : Int) ≤ (o2.1 1).toInt ∧ (o2.1 1).toInt ≤ 6 := nr_nler c12 i11 (k_o2.1 1) (by decide) (by decide)
        try unfold fF_diagram_27
        refine tt_if (fun c18 => ?_) (fun c18 => ?_)
        · have wc18 : (1 : Int) = (0 : Int) := c_eq c18
          exact (dd_eq c18 (show (1 : Int) ≤ (1 : Int32).toInt ∧ (1 : Int32).toInt ≤ 1 by decide) (show (0 : Int) ≤ (0 : Int32).toInt ∧ (0 : Int32).toInt ≤ 0 by decide) (by decide)).elim
        · have wc18 : ¬ (1 : Int) = (0 : Int) := c_ne c18
          try unfold fF_diagram_30
          refine tt_b (sFu_find _ _ k_o1 k_o2) (fun q19 hq19 => ?_)
          obtain ⟨k_q19, n_q19, f_q19_0, -⟩ := hq19
          have r_q19 := fr_tr r_o1 n_q19 rfl rfl rfl
          have e_q19_1 : (q19.1 1).toInt = (o1.1 1).toInt := congrArg Int32.toInt (n_q19.1 1 rfl)
          have g_q19_1 : (0 : Int) ≤ (q19.1 1).toInt ∧ (q19.1 1).toInt ≤ 0 := k_q19.1 1
          have e_q19_2 : (q19.1 2).toInt = (o1.1 2).toInt := congrArg Int32.toInt (n_q19.1 2 rfl)
          have g_q19_2 : (0 : Int) ≤ (q19.1 2).toInt ∧ (q19.1 2).toInt ≤ 0 := k_q19.1 2
          have e_q19_3 : (q19.1 3).toInt = (o1.1 3).toInt := congrArg Int32.toInt (n_q19.1 3 rfl)
          have g_q19_3 : (0 : Int) ≤ (q19.1 3).toInt ∧ (q19.1 3).toInt ≤ 0 := k_q19.1 3
          have e_q19_4 : (q19.1 4).toInt = (o1.1 4).toInt := congrArg Int32.toInt (n_q19.1 4 rfl)
          have g_q19_4 : (0 : Int) ≤ (q19.1 4).toInt ∧ (q19.1 4).toInt ≤ 0 := k_q19.1 4
          have e_q19_5 : (q19.1 5).toInt = (o1.1 5).toInt := congrArg Int32.toInt (n_q19.1 5 rfl)
          have g_q19_5 : (0 : Int) ≤ (q19.1 5).toInt ∧ (q19.1 5).toInt ≤ 0 := k_q19.1 5
          have e_q19_16 : (q19.1 16).toInt = (o1.1 16).toInt := congrArg Int32.toInt (n_q19.1 16 rfl)
          have g_q19_16 : (0 : Int) ≤ (q19.1 16).toInt ∧ (q19.1 16).toInt ≤ 0 := k_q19.1 16
          have e_q19_17 : (q19.1 17).toInt = (o1.1 17).toInt := congrArg Int32.toInt (n_q19.1 17 rfl)
          have g_q19_17 : (0 : Int) ≤ (q19.1 17).toInt ∧ (q19.1 17).toInt ≤ 0 := k_q19.1 17
          have e_q19_18 : (q19.1 18).toInt = (o1.1 18).toInt := congrArg Int32.toInt (n_q19.1 18 rfl)
          have g_q19_18 : (0 : Int) ≤ (q19.1 18).toInt ∧ (q19.1 18).toInt ≤ 0 := k_q19.1 18
          have e_q19_30 : (q19.1 30).toInt = (o1.1 30).toInt := congrArg Int32.toInt (n_q19.1 30 rfl)
          have g_q19_30 : (0 : Int) ≤ (q19.1 30).toInt ∧ (q19.1 30).toInt ≤ 0 := k_q19.1 30
          try unfold fF_diagram_41
          refine tt_n (ix_ok i16 (by decide) (by decide)) ?_
          refine tt_kv (P := fun z => ((0 : Int) ≤ z.toInt ∧ z.toInt ≤ 417) ∧ z.toInt = (o2.2.1 7 v1.toNatClampNeg).toInt) ⟨(k_o2.2 7 _), rfl⟩ (fun x20 qi21 => ?_)
          obtain ⟨i21, ei21⟩ := qi21
          refine tt_if (fun c22 => ?_) (fun c22 => ?_)
          · have wc22 : v2.toInt = (0 : Int) := c_eq c22
            have i23 : (0 : Int) ≤ v2.toInt ∧ v2.toInt ≤ 0 := nr_eql c22 (iv_top v2) (show (0 : Int) ≤ (0 : Int32).toInt ∧ (0 : Int32).toInt ≤ 0 by decide) (by decide) (by decide)
            refine tt_b (sFu_questions _ _ _ k_q19 i21 (k_o2.1 0) f_q19_0) (fun q24 hq24 => ?_)
            obtain ⟨k_q24_2, n_q24_2, -⟩ := hq24
            have r_q24_2 := fr_tr r_q19 n_q24_2 rfl rfl rfl
            have f_q24_2_0 : (1 : Int) ≤ (q24.2.1 0).toInt ∧ (q24.2.1 0).toInt ≤ 1 := by rw [n_q24_2.1 0 rfl]; exact f_q19_0
            have e_q24_2_0 : (q24.2.1 0).toInt = (q19.1 0).toInt := congrArg Int32.toInt (n_q24_2.1 0 rfl)
            have e_q24_2_1 : (q24.2.1 1).toInt = (q19.1 1).toInt := congrArg Int32.toInt (n_q24_2.1 1 rfl)
            have g_q24_2_1 : (0 : Int) ≤ (q24.2.1 1).toInt ∧ (q24.2.1 1).toInt ≤ 0 := k_q24_2.1 1
            have e_q24_2_2 : (q24.2.1 2).toInt = (q19.1 2).toInt := congrArg Int32.toInt (n_q24_2.1 2 rfl)
            have g_q24_2_2 : (0 : Int) ≤ (q24.2.1 2).toInt ∧ (q24.2.1 2).toInt ≤ 0 := k_q24_2.1 2
            have e_q24_2_3 : (q24.2.1 3).toInt = (q19.1 3).toInt := congrArg Int32.toInt (n_q24_2.1 3 rfl)
            have g_q24_2_3 : (0 : Int) ≤ (q24.2.1 3).toInt ∧ (q24.2.1 3).toInt ≤ 0 := k_q24_2.1 3
            have e_q24_2_4 : (q24.2.1 4).toInt = (q19.1 4).toInt := congrArg Int32.toInt (n_q24_2.1 4 rfl)
            have g_q24_2_4 : (0 : Int) ≤ (q24.2.1 4).toInt ∧ (q24.2.1 4).toInt ≤ 0 := k_q24_2.1 4
            have e_q24_2_5 : (q24.2.1 5).toInt = (q19.1 5).toInt := congrArg Int32.toInt (n_q24_2.1 5 rfl)
            have g_q24_2_5 : (0 : Int) ≤ (q24.2.1 5).toInt ∧ (q24.2.1 5).toInt ≤ 0 := k_q24_2.1 5
            have e_q24_2_16 : (q24.2.1 16).toInt = (q19.1 16).toInt := congrArg Int32.toInt (n_q24_2.1 16 rfl)
            have g_q24_2_16 : (0 : Int) ≤ (q24.2.1 16).toInt ∧ (q24.2.1 16).toInt ≤ 0 := k_q24_2.1 16
            have e_q24_2_17 : (q24.2.1 17).toInt = (q19.1 17).toInt := congrArg Int32.toInt (n_q24_2.1 17 rfl)
            have g_q24_2_17 : (0 : Int) ≤ (q24.2.1 17).toInt ∧ (q24.2.1 17).toInt ≤ 0 := k_q24_2.1 17
            have e_q24_2_18 : (q24.2.1 18).toInt = (q19.1 18).toInt := congrArg Int32.toInt (n_q24_2.1 18 rfl)
            have g_q24_2_18 : (0 : Int) ≤ (q24.2.1 18).toInt ∧ (q24.2.1 18).toInt ≤ 0 := k_q24_2.1 18
            have e_q24_2_30 : (q24.2.1 30).toInt = (q19.1 30).toInt := congrArg Int32.toInt (n_q24_2.1 30 rfl)
            have g_q24_2_30 : (0 : Int) ≤ (q24.2.1 30).toInt ∧ (q24.2.1 30).toInt ≤ 0 := k_q24_2.1 30
            have i_q24 := iv_top q24.1
            try unfold fF_diagram_99
            have k25 := ok_fp (k := 30) (v := 0) k_o0 (iv_w (a := 0) (b := 4) (by decide) (by decide) (show (0 : Int) ≤ (0 : Int32).toInt ∧ (0 : Int32).toInt ≤ 0 by decide))
            have r26 := fr_fp (k := 30) (v := 0) r_o0 rfl
            exact tt_some ⟨k25, r26, (iv_w (a := 0) (b := 3) (by decide) (by decide) (show (0 : Int) ≤ (0 : Int32).toInt ∧ (0 : Int32).toInt ≤ 0 by decide)), k_q24_2, r_q24_2, (show 0 = 0 ∨ 0 = 2 ∨ 0 = 3 ∨ 0 = 1 by omega), trivial⟩
          · have wc22 : ¬ v2.toInt = (0 : Int) := c_ne c22
            refine tt_if (fun c27 => ?_) (fun c27 => ?_)
            · have wc27 : v2.toInt = (1 : Int) := c_eq c27
              have i28 : (1 : Int) ≤ v2.toInt ∧ v2.toInt ≤ 1 := nr_eql c27 (iv_top v2) (show (1 : Int) ≤ (1 : Int32).toInt ∧ (1 : Int32).toInt ≤ 1 by decide) (by decide) (by decide)
              refine tt_b (sFu_ones _ _ _ k_q19 i21 (k_o2.1 0) f_q19_0) (fun q29 hq29 => ?_)
              have i_q29 := iv_top q29
              try unfold fF_diagram_115
              have k30 := ok_fp (k := 30) (v := 0) k_o0 (iv_w (a := 0) (b := 4) (by decide) (by decide) (show (0 : Int) ≤ (0 : Int32).toInt ∧ (0 : Int32).toInt ≤ 0 by decide))
              have r31 := fr_fp (k := 30) (v := 0) r_o0 rfl
              exact tt_some ⟨k30, r31, (iv_w (a := 0) (b := 3) (by decide) (by decide) (show (0 : Int) ≤ (0 : Int32).toInt ∧ (0 : Int32).toInt ≤ 0 by decide)), k_q19, r_q19, (show 0 = 0 ∨ 0 = 2 ∨ 0 = 3 ∨ 0 = 1 by omega), trivial⟩
            · have wc27 : ¬ v2.toInt = (1 : Int) := c_ne c27
              refine tt_if (fun c32 => ?_) (fun c32 => ?_)
              · have wc32 : v2.toInt = (2 : Int) := c_eq c32
                have i33 : (2 : Int) ≤ v2.toInt ∧ v2.toInt ≤ 2 := nr_eql c32 (iv_top v2) (show (2 : Int) ≤ (2 : Int32).toInt ∧ (2 : Int32).toInt ≤ 2 by decide) (by decide) (by decide)
                refine tt_b (sFu_leastUnlike _ _ _ k_q19 i21 (iv_w (a := 0) (b := 417) (by decide) (by decide) (show (0 : Int) ≤ (0 : Int32).toInt ∧ (0 : Int32).toInt ≤ 0 by decide)) f_q19_0) (fun q34 hq34 => ?_)
                obtain ⟨i_q34, -⟩ := hq34
                try unfold fF_diagram_125
                have k35 := ok_fp (k := 30) (v := 0) k_o0 (iv_w (a := 0) (b := 4) (by decide) (by decide) (show (0 : Int) ≤ (0 : Int32).toInt ∧ (0 : Int32).toInt ≤ 0 by decide))
                have r36 := fr_fp (k := 30) (v := 0) r_o0 rfl
                exact tt_some ⟨k35, r36, (iv_w (a := 0) (b := 3) (by decide) (by decide) (show (0 : Int) ≤ (0 : Int32).toInt ∧ (0 : Int32).toInt ≤ 0 by decide)), k_q19, r_q19, (show 0 = 0 ∨ 0 = 2 ∨ 0 = 3 ∨ 0 = 1 by omega), trivial⟩
              · have wc32 : ¬ v2.toInt = (2 : Int) := c_ne c32
                refine tt_if (fun c37 => ?_) (fun c37 => ?_)
                · have wc37 : v2.toInt = (3 : Int) := c_eq c37
                  have i38 : (3 : Int) ≤ v2.toInt ∧ v2.toInt ≤ 3 := nr_eql c37 (iv_top v2) (show (3 : Int) ≤ (3 : Int32).toInt ∧ (3 : Int32).toInt ≤ 3 by decide) (by decide) (by decide)
                  refine tt_b (sFu_firstAsked _ _ _ k_q19 i21 (k_o2.1 0) f_q19_0) (fun q39 hq39 => ?_)
                  obtain ⟨i_q39, -⟩ := hq39
                  try unfold fF_diagram_141
                  have k40 := ok_fp (k := 30) (v := 0) k_o0 (iv_w (a := 0) (b := 4) (by decide) (by decide) (show (0 : Int) ≤ (0 : Int32).toInt ∧ (0 : Int32).toInt ≤ 0 by decide))
                  have r41 := fr_fp (k := 30) (v := 0) r_o0 rfl
                  exact tt_some ⟨k40, r41, (iv_w (a := 0) (b := 3) (by decide) (by decide) (show (0 : Int) ≤ (0 : Int32).toInt ∧ (0 : Int32).toInt ≤ 0 by decide)), k_q19, r_q19, (show 0 = 0 ∨ 0 = 2 ∨ 0 = 3 ∨ 0 = 1 by omega), trivial⟩
                · have wc37 : ¬ v2.toInt = (3 : Int) := c_ne c37
                  have k42 := ok_fp (k := 30) (v := 1) k_o0 (iv_w (a := 0) (b := 4) (by decide) (by decide) (show (1 : Int) ≤ (1 : Int32).toInt ∧ (1 : Int32).toInt ≤ 1 by decide))
                  have r43 := fr_fp (k := 30) (v := 1) r_o0 rfl
                  exact tt_some ⟨k42, r43, (iv_w (a := 0) (b := 3) (by decide) (by decide) (show (1 : Int) ≤ (1 : Int32).toInt ∧ (1 : Int32).toInt ≤ 1 by decide)), k_q19, r_q19, (show 1 = 0 ∨ 1 = 2 ∨ 1 = 3 ∨ 1 = 1 by omega), trivial⟩
def QF_differ (v1 : Int32) (v2 : Int32) (o0 : cf_O) (o1 : cf_O) (o2 : cf_O) (r : (Int32 × cf_O × cf_O)) : Prop := (((-1) : Int) ≤ r.1.toInt ∧ r.1.toInt ≤ 256) ∧ (okO I_F r.2.1) ∧ (Fr (fr_M [30] [] []) o0 r.2.1) ∧ ((0 : Int) ≤ (r.2.1.1 30).toInt ∧ (r.2.1.1 30).toInt ≤ 3) ∧ (okO I_Fu r.2.2) ∧ (Fr (fr_M [0] [] [1]) o1 r.2.2) ∧ ((r.2.1.1 30).toInt = 0 ∨ (r.2.1.1 30).toInt = 2 ∨ (r.2.1.1 30).toInt = 3) ∧ True
set_option maxHeartbeats 4000000 in
set_option maxRecDepth 100000 in
theorem sF_differ (v1 : Int32) (v2 : Int32) (o0 : cf_O) (o1 : cf_O) (o2 : cf_O) (k_o0 : okO I_F o0) (k_o1 : okO I_Fu o1) (k_o2 : okO I_Gr o2) (x_0 : Gx ((o2.1 0).toInt + 1) (o2.1 2).toInt (sh ((o2.1 0).toInt + 1) (o2.2.1 4)) (sh ((o2.1 0).toInt + 1) (o2.2.1 5))) (x_1 : No (o2.1 1).toInt (((o2.1 0).toInt + 1) + (o2.1 2).toInt) (o2.2.1 7)) : tt (fF_differ v1 v2 o0 o1 o2) (QF_differ v1 v2 o0 o1 o2) := by
  have r_o0 : Fr (fr_M [30] [] []) o0 o0 := fr_rfl
  have r_o1 : Fr (fr_M [0] [] [1]) o1 o1 := fr_rfl
  have r_o2 : Fr (fr_M [] [] []) o2 o2 := fr_rfl
  unfold fF_differ fF_differ_0
  have i_v1 := iv_top v1
  have i_v2 := iv_top v2
  have g_o0_0 : (0 : Int) ≤ (o0.1 0).toInt ∧ (o0.1 0).toInt ≤ 0 := k_o0.1 0
  have g_o0_1 : (0 : Int) ≤ (o0.1 1).toInt ∧ (o0.1 1).toInt ≤ 0 := k_o0.1 1
  have g_o0_2 : (0 : Int) ≤ (o0.1 2).toInt ∧ (o0.1 2).toInt ≤ 0 := k_o0.1 2
  have g_o0_3 : (0 : Int) ≤ (o0.1 3).toInt ∧ (o0.1 3).toInt ≤ 0 := k_o0.1 3
  have g_o0_4 : (0 : Int) ≤ (o0.1 4).toInt ∧ (o0.1 4).toInt ≤ 0 := k_o0.1 4
  have g_o0_5 : (0 : Int) ≤ (o0.1 5).toInt ∧ (o0.1 5).toInt ≤ 0 := k_o0.1 5
  have g_o0_16 : (0 : Int) ≤ (o0.1 16).toInt ∧ (o0.1 16).toInt ≤ 1 := k_o0.1 16
  have g_o0_17 : (0 : Int) ≤ (o0.1 17).toInt ∧ (o0.1 17).toInt ≤ 1 := k_o0.1 17
  have g_o0_18 : (0 : Int) ≤ (o0.1 18).toInt ∧ (o0.1 18).toInt ≤ 1 := k_o0.1 18
  have g_o0_30 : (0 : Int) ≤ (o0.1 30).toInt ∧ (o0.1 30).toInt ≤ 4 := k_o0.1 30
  have g_o1_0 : (0 : Int) ≤ (o1.1 0).toInt ∧ (o1.1 0).toInt ≤ 1 := k_o1.1 0
  have g_o1_1 : (0 : Int) ≤ (o1.1 1).toInt ∧ (o1.1 1).toInt ≤ 0 := k_o1.1 1
  have g_o1_2 : (0 : Int) ≤ (o1.1 2).toInt ∧ (o1.1 2).toInt ≤ 0 := k_o1.1 2
  have g_o1_3 : (0 : Int) ≤ (o1.1 3).toInt ∧ (o1.1 3).toInt ≤ 0 := k_o1.1 3
  have g_o1_4 : (0 : Int) ≤ (o1.1 4).toInt ∧ (o1.1 4).toInt ≤ 0 := k_o1.1 4
  have g_o1_5 : (0 : Int) ≤ (o1.1 5).toInt ∧ (o1.1 5).toInt ≤ 0 := k_o1.1 5
  have g_o1_16 : (0 : Int) ≤ (o1.1 16).toInt ∧ (o1.1 16).toInt ≤ 0 := k_o1.1 16
  have g_o1_17 : (0 : Int) ≤ (o1.1 17).toInt ∧ (o1.1 17).toInt ≤ 0 := k_o1.1 17
  have g_o1_18 : (0 : Int) ≤ (o1.1 18).toInt ∧ (o1.1 18).toInt ≤ 0 := k_o1.1 18
  have g_o1_30 : (0 : Int) ≤ (o1.1 30).toInt ∧ (o1.1 30).toInt ≤ 0 := k_o1.1 30
  have g_o2_0 : (0 : Int) ≤ (o2.1 0).toInt ∧ (o2.1 0).toInt ≤ 8 := k_o2.1 0
  have g_o2_1 : (0 : Int) ≤ (o2.1 1).toInt ∧ (o2.1 1).toInt ≤ 6 := k_o2.1 1
  have g_o2_2 : (0 : Int) ≤ (o2.1 2).toInt ∧ (o2.1 2).toInt ≤ 200 := k_o2.1 2
  have g_o2_3 : (0 : Int) ≤ (o2.1 3).toInt ∧ (o2.1 3).toInt ≤ 1 := k_o2.1 3
  have g_o2_4 : (0 : Int) ≤ (o2.1 4).toInt ∧ (o2.1 4).toInt ≤ 0 := k_o2.1 4
  have g_o2_5 : (0 : Int) ≤ (o2.1 5).toInt ∧ (o2.1 5).toInt ≤ 0 := k_o2.1 5
  have g_o2_16 : (0 : Int) ≤ (o2.1 16).toInt ∧ (o2.1 16).toInt ≤ 0 := k_o2.1 16
  have g_o2_17 : (0 : Int) ≤ (o2.1 17).toInt ∧ (o2.1 17).toInt ≤ 0 := k_o2.1 17
  have g_o2_18 : (0 : Int) ≤ (o2.1 18).toInt ∧ (o2.1 18).toInt ≤ 0 := k_o2.1 18
  have g_o2_30 : (0 : Int) ≤ (o2.1 30).toInt ∧ (o2.1 30).toInt ≤ 0 := k_o2.1 30
  refine tt_if (fun c1 => ?_) (fun c1 => ?_)
  · have wc1 : (o0.1 16).toInt = (0 : Int) := c_eq c1
    have i2 : (0 : Int) ≤ (o0.1 16).toInt ∧ (o0.1 16).toInt ≤ 0 := nr_eql c1 (k_o0.1 16) (show (0 : Int) ≤ (0 : Int32).toInt ∧ (0 : Int32).toInt ≤ 0 by decide) (by decide) (by decide)
    have k3 := ok_fp (k := 30) (v := 2) k_o0 (iv_w (a := 0) (b := 4) (by decide) (by decide) (show (2 : Int) ≤ (2 : Int32).toInt ∧ (2 : Int32).toInt ≤ 2 by decide))
    have r4 := fr_fp (k := 30) (v := 2) r_o0 rfl
    exact tt_some ⟨(iv_w (a := (-1)) (b := 256) (by decide) (by decide) (show (0 : Int) ≤ (0 : Int32).toInt ∧ (0 : Int32).toInt ≤ 0 by decide)), k3, r4, (iv_w (a := 0) (b := 3) (by decide) (by decide) (show (2 : Int) ≤ (2 : Int32).toInt ∧ (2 : Int32).toInt ≤ 2 by decide)), k_o1, r_o1, (show 2 = 0 ∨ 2 = 2 ∨ 2 = 3 by omega), trivial⟩
  · have wc1 : ¬ (o0.1 16).toInt = (0 : Int) := c_ne c1
    have i5 : (1 : Int) ≤ (o0.1 16).toInt ∧ (o0.1 16).toInt ≤ 1 := nr_nela c1 (k_o0.1 16) (show (0 : Int) ≤ (0 : Int32).toInt ∧ (0 : Int32).toInt ≤ 0 by decide) (by decide) (by decide)
    try unfold fF_differ_7
    refine tt_if (fun c6 => ?_) (fun c6 => ?_)
    · have wc6 : v1.toInt < (0 : Int) := c_lt c6
      have i7 : ((-2147483648) : Int) ≤ v1.toInt ∧ v1.toInt ≤ (-1) := nr_ltl c6 (iv_top v1) (show (0 : Int) ≤ (0 : Int32).toInt ∧ (0 : Int32).toInt ≤ 0 by decide) (by decide) (by decide)
      try unfold fF_differ_41
      try unfold fF_differ_42
      refine tt_if (fun c8 => ?_) (fun c8 => ?_)
      · have wc8 : (0 : Int) = (0 : Int) := c_eq c8
        have k9 := ok_fp (k := 30) (v := 3) k_o0 (iv_w (a := 0) (b := 4) (by decide) (by decide) (show (3 : Int) ≤ (3 : Int32).toInt ∧ (3 : Int32).toInt ≤ 3 by decide))
        have r10 := fr_fp (k := 30) (v := 3) r_o0 rfl
        exact tt_some ⟨(iv_w (a := (-1)) (b := 256) (by decide) (by decide) (show (0 : Int) ≤ (0 : Int32).toInt ∧ (0 : Int32).toInt ≤ 0 by decide)), k9, r10, (iv_w (a := 0) (b := 3) (by decide) (by decide) (show (3 : Int) ≤ (3 : Int32).toInt ∧ (3 : Int32).toInt ≤ 3 by decide)), k_o1, r_o1, (show 3 = 0 ∨ 3 = 2 ∨ 3 = 3 by omega), trivial⟩
      · have wc8 : ¬ (0 : Int) = (0 : Int) := c_ne c8
        exact (dd_ne c8 (show (0 : Int) ≤ (0 : Int32).toInt ∧ (0 : Int32).toInt ≤ 0 by decide) (show (0 : Int) ≤ (0 : Int32).toInt ∧ (0 : Int32).toInt ≤ 0 by decide)).elim
    · have wc6 : (0 : Int) ≤ v1.toInt := c_nlt c6
      have i11 : (0 : Int) ≤ v1.toInt ∧ v1.toInt ≤ 2147483647 := nr_nltr c6 (show (0 : Int) ≤ (0 : Int32).toInt ∧ (0 : Int32).toInt ≤ 0 by decide) (iv_top v1) (by decide) (by decide)
      refine tt_if (fun c12 => ?_) (fun c12 => ?_)
      · have wc12 : (o2.1 1).toInt ≤ v1.toInt := c_le c12
        try unfold fF_differ_41
        try unfold fF_differ_42
        refine tt_if (fun c13 => ?_) (fun c13 => ?_)
        · have wc13 : (0 : Int) = (0 : Int) := c_eq c13
          have k14 := ok_fp (k := 30) (v := 3) k_o0 (iv_w (a := 0) (b := 4) (by decide) (by decide) (show (3 : Int) ≤ (3 : Int32).toInt ∧ (3 : Int32).toInt ≤ 3 by decide))
          have r15 := fr_fp (k := 30) (v := 3) r_o0 rfl
          exact tt_some ⟨(iv_w (a := (-1)) (b := 256) (by decide) (by decide) (show (0 : Int) ≤ (0 : Int32).toInt ∧ (0 : Int32).toInt ≤ 0 by decide)), k14, r15, (iv_w (a := 0) (b := 3) (by decide) (by decide) (show (3 : Int) ≤ (3 : Int32).toInt ∧ (3 : Int32).toInt ≤ 3 by decide)), k_o1, r_o1, (show 3 = 0 ∨ 3 = 2 ∨ 3 = 3 by omega), trivial⟩
        · have wc13 : ¬ (0 : Int) = (0 : Int) := c_ne c13
          exact (dd_ne c13 (show (0 : Int) ≤ (0 : Int32).toInt ∧ (0 : Int32).toInt ≤ 0 by decide) (show (0 : Int) ≤ (0 : Int32).toInt ∧ (0 : Int32).toInt ≤ 0 by decide)).elim
      · have wc12 : v1.toInt < (o2.1 1).toInt := c_nle c12
        have i16 : (0 : Int) ≤ v1.toInt ∧ v1.toInt ≤ 5 := nr_nlel c12 i11 (k_o2.1 1) (by decide) (by decide)
        have i17 : (1 : Int) ≤ (o2.1 1).toInt ∧ (o2.1 1).toInt ≤ 6 := nr_nler c12 i11 (k_o2.1 1) (by decide) (by decide)
        refine tt_if (fun c18 => ?_) (fun c18 => ?_)
        · have wc18 : v2.toInt < (0 : Int) := c_lt c18
          have i19 : ((-2147483648) : Int) ≤ v2.toInt ∧ v2.toInt ≤ (-1) := nr_ltl c18 (iv_top v2) (show (0 : Int) ≤ (0 : Int32).toInt ∧ (0 : Int32).toInt ≤ 0 by decide) (by decide) (by decide)
          try unfold fF_differ_41
          try unfold fF_differ_42
          refine tt_if (fun c20 => ?_) (fun c20 => ?_)
          · have wc20 : (0 : Int) = (0 : Int) := c_eq c20
            have k21 := ok_fp (k := 30) (v := 3) k_o0 (iv_w (a := 0) (b := 4) (by decide) (by decide) (show (3 : Int) ≤ (3 : Int32).toInt ∧ (3 : Int32).toInt ≤ 3 by decide))
            have r22 := fr_fp (k := 30) (v := 3) r_o0 rfl
            exact tt_some ⟨(iv_w (a := (-1)) (b := 256) (by decide) (by decide) (show (0 : Int) ≤ (0 : Int32).toInt ∧ (0 : Int32).toInt ≤ 0 by decide)), k21, r22, (iv_w (a := 0) (b := 3) (by decide) (by decide) (show (3 : Int) ≤ (3 : Int32).toInt ∧ (3 : Int32).toInt ≤ 3 by decide)), k_o1, r_o1, (show 3 = 0 ∨ 3 = 2 ∨ 3 = 3 by omega), trivial⟩
          · have wc20 : ¬ (0 : Int) = (0 : Int) := c_ne c20
            exact (dd_ne c20 (show (0 : Int) ≤ (0 : Int32).toInt ∧ (0 : Int32).toInt ≤ 0 by decide) (show (0 : Int) ≤ (0 : Int32).toInt ∧ (0 : Int32).toInt ≤ 0 by decide)).elim
        · have wc18 : (0 : Int) ≤ v2.toInt := c_nlt c18
          have i23 : (0 : Int) ≤ v2.toInt ∧ v2.toInt ≤ 2147483647 := nr_nltr c18 (show (0 : Int) ≤ (0 : Int32).toInt ∧ (0 : Int32).toInt ≤ 0 by decide) (iv_top v2) (by decide) (by decide)
          refine tt_if (fun c24 => ?_) (fun c24 => ?_)
          · have wc24 : (o2.1 1).toInt ≤ v2.toInt := c_le c24
            have i25 : (1 : Int) ≤ v2.toInt ∧ v2.toInt ≤ 2147483647 := nr_ler c24 i17 i23 (by decide) (by decide)
            try unfold fF_differ_41
            try unfold fF_differ_42
            refine tt_if (fun c26 => ?_) (fun c26 => ?_)
            · have wc26 : (0 : Int) = (0 : Int) := c_eq c26
              have k27 := ok_fp (k := 30) (v := 3) k_o0 (iv_w (a := 0) (b := 4) (by decide) (by decide) (show (3 : Int) ≤ (3 : Int32).toInt ∧ (3 : Int32).toInt ≤ 3 by decide))
              have r28 := fr_fp (k := 30) (v := 3) r_o0 rfl
              exact tt_some ⟨(iv_w (a := (-1)) (b := 256) (by decide) (by decide) (show (0 : Int) ≤ (0 : Int32).toInt ∧ (0 : Int32).toInt ≤ 0 by decide)), k27, r28, (iv_w (a := 0) (b := 3) (by decide) (by decide) (show (3 : Int) ≤ (3 : Int32).toInt ∧ (3 : Int32).toInt ≤ 3 by decide)), k_o1, r_o1, (show 3 = 0 ∨ 3 = 2 ∨ 3 = 3 by omega), trivial⟩
            · have wc26 : ¬ (0 : Int) = (0 : Int) := c_ne c26
              exact (dd_ne c26 (show (0 : Int) ≤ (0 : Int32).toInt ∧ (0 : Int32).toInt ≤ 0 by decide) (show (0 : Int) ≤ (0 : Int32).toInt ∧ (0 : Int32).toInt ≤ 0 by decide)).elim
          · have wc24 : v2.toInt < (o2.1 1).toInt := c_nle c24
            have i29 : (0 : Int) ≤ v2.toInt ∧ v2.toInt ≤ 5 := nr_nlel c24 i23 i17 (by decide) (by decide)
            try unfold fF_differ_42
            refine tt_if (fun c30 => ?_) (fun c30 => ?_)
            · have wc30 : (1 : Int) = (0 : Int) := c_eq c30
              exact (dd_eq c30 (show (1 : Int) ≤ (1 : Int32).toInt ∧ (1 : Int32).toInt ≤ 1 by decide) (show (0 : Int) ≤ (0 : Int32).toInt ∧ (0 : Int32).toInt ≤ 0 by decide) (by decide)).elim
            · have wc30 : ¬ (1 : Int) = (0 : Int) := c_ne c30
              try unfold fF_differ_45
              refine tt_b (sFu_find _ _ k_o1 k_o2) (fun q31 hq31 => ?_)
              obtain ⟨k_q31, n_q31, f_q31_0, -⟩ := hq31
              have r_q31 := fr_tr r_o1 n_q31 rfl rfl rfl
              have e_q31_1 : (q31.1 1).toInt = (o1.1 1).toInt := congrArg Int32.toInt (n_q31.1 1 rfl)
              have g_q31_1 : (0 : Int) ≤ (q31.1 1).toInt ∧ (q31.1 1).toInt ≤ 0 := k_q31.1 1
              have e_q31_2 : (q31.1 2).toInt = (o1.1 2).toInt := congrArg Int32.toInt (n_q31.1 2 rfl)
              have g_q31_2 : (0 : Int) ≤ (q31.1 2).toInt ∧ (q31.1 2).toInt ≤ 0 := k_q31.1 2
              have e_q31_3 : (q31.1 3).toInt = (o1.1 3).toInt := congrArg Int32.toInt (n_q31.1 3 rfl)
              have g_q31_3 : (0 : Int) ≤ (q31.1 3).toInt ∧ (q31.1 3).toInt ≤ 0 := k_q31.1 3
              have e_q31_4 : (q31.1 4).toInt = (o1.1 4).toInt := congrArg Int32.toInt (n_q31.1 4 rfl)
              have g_q31_4 : (0 : Int) ≤ (q31.1 4).toInt ∧ (q31.1 4).toInt ≤ 0 := k_q31.1 4
              have e_q31_5 : (q31.1 5).toInt = (o1.1 5).toInt := congrArg Int32.toInt (n_q31.1 5 rfl)
              have g_q31_5 : (0 : Int) ≤ (q31.1 5).toInt ∧ (q31.1 5).toInt ≤ 0 := k_q31.1 5
              have e_q31_16 : (q31.1 16).toInt = (o1.1 16).toInt := congrArg Int32.toInt (n_q31.1 16 rfl)
              have g_q31_16 : (0 : Int) ≤ (q31.1 16).toInt ∧ (q31.1 16).toInt ≤ 0 := k_q31.1 16
              have e_q31_17 : (q31.1 17).toInt = (o1.1 17).toInt := congrArg Int32.toInt (n_q31.1 17 rfl)
              have g_q31_17 : (0 : Int) ≤ (q31.1 17).toInt ∧ (q31.1 17).toInt ≤ 0 := k_q31.1 17
              have e_q31_18 : (q31.1 18).toInt = (o1.1 18).toInt := congrArg Int32.toInt (n_q31.1 18 rfl)
              have g_q31_18 : (0 : Int) ≤ (q31.1 18).toInt ∧ (q31.1 18).toInt ≤ 0 := k_q31.1 18
              have e_q31_30 : (q31.1 30).toInt = (o1.1 30).toInt := congrArg Int32.toInt (n_q31.1 30 rfl)
              have g_q31_30 : (0 : Int) ≤ (q31.1 30).toInt ∧ (q31.1 30).toInt ≤ 0 := k_q31.1 30
              try unfold fF_differ_56
              refine tt_n (ix_ok i16 (by decide) (by decide)) ?_
              refine tt_kv (P := fun z => ((0 : Int) ≤ z.toInt ∧ z.toInt ≤ 417) ∧ z.toInt = (o2.2.1 7 v1.toNatClampNeg).toInt) ⟨(k_o2.2 7 _), rfl⟩ (fun x32 qi33 => ?_)
              obtain ⟨i33, ei33⟩ := qi33
              refine tt_n (ix_ok i29 (by decide) (by decide)) ?_
              refine tt_kv (P := fun z => ((0 : Int) ≤ z.toInt ∧ z.toInt ≤ 417) ∧ z.toInt = (o2.2.1 7 v2.toNatClampNeg).toInt) ⟨(k_o2.2 7 _), rfl⟩ (fun x34 qi35 => ?_)
              obtain ⟨i35, ei35⟩ := qi35
              refine tt_b (sFu_leastUnlike _ _ _ k_q31 i33 i35 f_q31_0) (fun q36 hq36 => ?_)
              obtain ⟨i_q36, -⟩ := hq36
              try unfold fF_differ_81
              have k37 := ok_fp (k := 30) (v := 0) k_o0 (iv_w (a := 0) (b := 4) (by decide) (by decide) (show (0 : Int) ≤ (0 : Int32).toInt ∧ (0 : Int32).toInt ≤ 0 by decide))
              have r38 := fr_fp (k := 30) (v := 0) r_o0 rfl
              exact tt_some ⟨i_q36, k37, r38, (iv_w (a := 0) (b := 3) (by decide) (by decide) (show (0 : Int) ≤ (0 : Int32).toInt ∧ (0 : Int32).toInt ≤ 0 by decide)), k_q31, r_q31, (show 0 = 0 ∨ 0 = 2 ∨ 0 = 3 by omega), trivial⟩
def QF_coverBy (v1 : Int32) (v2 : Int32) (o0 : cf_O) (o1 : cf_O) (o2 : cf_O) (o3 : cf_O) (o4 : cf_O) (o5 : cf_O) (o6 : cf_O) (r : (Int32 × cf_O × cf_O × cf_O × cf_O × cf_O)) : Prop := ((0 : Int) ≤ r.1.toInt ∧ r.1.toInt ≤ 200) ∧ (okO I_F r.2.1) ∧ (Fr (fr_M [17, 30] [] []) o0 r.2.1) ∧ (okO I_Cu r.2.2.1) ∧ (Fr (fr_M [0, 3, 4, 5] [1, 2] [4, 5]) o1 r.2.2.1) ∧ (okO I_Co r.2.2.2.1) ∧ (Fr (fr_M [0, 1] [2, 3, 4] []) o2 r.2.2.2.1) ∧ (okO I_Cv r.2.2.2.2.1) ∧ (Fr (fr_M [0, 1] [2, 3, 4, 6] [5]) o3 r.2.2.2.2.1) ∧ (okO I_Sc r.2.2.2.2.2) ∧ (Fr (fr_M [0] [] []) o4 r.2.2.2.2.2) ∧ (Fqs (r.2.2.1.1 0).toInt (o5.1 0).toInt (((o5.1 0).toInt + 1) + (o5.1 2).toInt) (r.2.2.1.1 3).toInt (r.2.2.1.2.1 2) (r.2.2.1.2.1 1) (r.2.2.1.2.2 4)) ∧ (Rcf (r.2.2.1.1 0).toInt (r.2.2.1.1 3).toInt (o5.1 0).toInt (((o5.1 0).toInt + 1) + (o5.1 2).toInt) (o5.2.1 4) (o5.2.1 5) (r.2.2.1.2.1 2) (r.2.2.1.2.2 4)) ∧ ((r.2.2.1.1 3).toInt ≤ (r.2.2.1.1 4).toInt) ∧ ((r.2.2.1.1 4).toInt = (r.2.2.1.1 5).toInt) ∧ (Hct (r.2.1.1 17).toInt (r.2.2.2.2.1.1 0).toInt (r.2.2.2.2.1.2.1 2) (r.2.2.2.2.1.2.2 5)) ∧ ((r.2.1.1 30).toInt = 0 ∨ (r.2.1.1 30).toInt = 2 ∨ (r.2.1.1 30).toInt = 1 ∨ (r.2.1.1 30).toInt = 4) ∧ True
set_option maxHeartbeats 4000000 in
set_option maxRecDepth 100000 in
theorem sF_coverBy (v1 : Int32) (v2 : Int32) (o0 : cf_O) (o1 : cf_O) (o2 : cf_O) (o3 : cf_O) (o4 : cf_O) (o5 : cf_O) (o6 : cf_O) (k_o0 : okO I_F o0) (k_o1 : okO I_Cu o1) (k_o2 : okO I_Co o2) (k_o3 : okO I_Cv o3) (k_o4 : okO I_Sc o4) (k_o5 : okO I_Gr o5) (k_o6 : okO I_SB o6) (i_v2 : (0 : Int) ≤ v2.toInt ∧ v2.toInt ≤ 1) (x_0 : Gx ((o5.1 0).toInt + 1) (o5.1 2).toInt (sh ((o5.1 0).toInt + 1) (o5.2.1 4)) (sh ((o5.1 0).toInt + 1) (o5.2.1 5))) (x_1 : No (o5.1 1).toInt (((o5.1 0).toInt + 1) + (o5.1 2).toInt) (o5.2.1 7)) (x_2 : Fqs (o1.1 0).toInt (o5.1 0).toInt (((o5.1 0).toInt + 1) + (o5.1 2).toInt) (o1.1 3).toInt (o1.2.1 2) (o1.2.1 1) (o1.2.2 4)) (x_3 : Rcf (o1.1 0).toInt (o1.1 3).toInt (o5.1 0).toInt (((o5.1 0).toInt + 1) + (o5.1 2).toInt) (o5.2.1 4) (o5.2.1 5) (o1.2.1 2) (o1.2.2 4)) (x_4 : (o1.1 3).toInt ≤ (o1.1 4).toInt) (x_5 : (o1.1 4).toInt = (o1.1 5).toInt) (x_6 : Hct (o0.1 17).toInt (o3.1 0).toInt (o3.2.1 2) (o3.2.2 5)) (x_7 : (o6.1 3).toInt ≤ (o6.1 0).toInt) : tt (fF_coverBy v1 v2 o0 o1 o2 o3 o4 o5 o6) (QF_coverBy v1 v2 o0 o1 o2 o3 o4 o5 o6) := by
  have r_o0 : Fr (fr_M [17, 30] [] []) o0 o0 := fr_rfl
  have r_o1 : Fr (fr_M [0, 3, 4, 5] [1, 2] [4, 5]) o1 o1 := fr_rfl
  have r_o2 : Fr (fr_M [0, 1] [2, 3, 4] []) o2 o2 := fr_rfl
  have r_o3 : Fr (fr_M [0, 1] [2, 3, 4, 6] [5]) o3 o3 := fr_rfl
  have r_o4 : Fr (fr_M [0] [] []) o4 o4 := fr_rfl
  have r_o5 : Fr (fr_M [] [] []) o5 o5 := fr_rfl
  have r_o6 : Fr (fr_M [] [] []) o6 o6 := fr_rfl
  unfold fF_coverBy fF_coverBy_0
  have i_v1 := iv_top v1
  have g_o0_0 : (0 : Int) ≤ (o0.1 0).toInt ∧ (o0.1 0).toInt ≤ 0 := k_o0.1 0
  have g_o0_1 : (0 : Int) ≤ (o0.1 1).toInt ∧ (o0.1 1).toInt ≤ 0 := k_o0.1 1
  have g_o0_2 : (0 : Int) ≤ (o0.1 2).toInt ∧ (o0.1 2).toInt ≤ 0 := k_o0.1 2
  have g_o0_3 : (0 : Int) ≤ (o0.1 3).toInt ∧ (o0.1 3).toInt ≤ 0 := k_o0.1 3
  have g_o0_4 : (0 : Int) ≤ (o0.1 4).toInt ∧ (o0.1 4).toInt ≤ 0 := k_o0.1 4
  have g_o0_5 : (0 : Int) ≤ (o0.1 5).toInt ∧ (o0.1 5).toInt ≤ 0 := k_o0.1 5
  have g_o0_16 : (0 : Int) ≤ (o0.1 16).toInt ∧ (o0.1 16).toInt ≤ 1 := k_o0.1 16
  have g_o0_17 : (0 : Int) ≤ (o0.1 17).toInt ∧ (o0.1 17).toInt ≤ 1 := k_o0.1 17
  have g_o0_18 : (0 : Int) ≤ (o0.1 18).toInt ∧ (o0.1 18).toInt ≤ 1 := k_o0.1 18
  have g_o0_30 : (0 : Int) ≤ (o0.1 30).toInt ∧ (o0.1 30).toInt ≤ 4 := k_o0.1 30
  have g_o1_0 : ((-2147483648) : Int) ≤ (o1.1 0).toInt ∧ (o1.1 0).toInt ≤ 2147483647 := k_o1.1 0
  have g_o1_1 : (0 : Int) ≤ (o1.1 1).toInt ∧ (o1.1 1).toInt ≤ 0 := k_o1.1 1
  have g_o1_2 : (0 : Int) ≤ (o1.1 2).toInt ∧ (o1.1 2).toInt ≤ 0 := k_o1.1 2
  have g_o1_3 : (0 : Int) ≤ (o1.1 3).toInt ∧ (o1.1 3).toInt ≤ 62909 := k_o1.1 3
  have g_o1_4 : (1024 : Int) ≤ (o1.1 4).toInt ∧ (o1.1 4).toInt ≤ 131072 := k_o1.1 4
  have g_o1_5 : (1024 : Int) ≤ (o1.1 5).toInt ∧ (o1.1 5).toInt ≤ 131072 := k_o1.1 5
  have g_o1_16 : (0 : Int) ≤ (o1.1 16).toInt ∧ (o1.1 16).toInt ≤ 0 := k_o1.1 16
  have g_o1_17 : (0 : Int) ≤ (o1.1 17).toInt ∧ (o1.1 17).toInt ≤ 0 := k_o1.1 17
  have g_o1_18 : (0 : Int) ≤ (o1.1 18).toInt ∧ (o1.1 18).toInt ≤ 0 := k_o1.1 18
  have g_o1_30 : (0 : Int) ≤ (o1.1 30).toInt ∧ (o1.1 30).toInt ≤ 0 := k_o1.1 30
  have g_o2_0 : (0 : Int) ≤ (o2.1 0).toInt ∧ (o2.1 0).toInt ≤ 5 := k_o2.1 0
  have g_o2_1 : ((-2147483648) : Int) ≤ (o2.1 1).toInt ∧ (o2.1 1).toInt ≤ 2147483647 := k_o2.1 1
  have g_o2_2 : (0 : Int) ≤ (o2.1 2).toInt ∧ (o2.1 2).toInt ≤ 0 := k_o2.1 2
  have g_o2_3 : (0 : Int) ≤ (o2.1 3).toInt ∧ (o2.1 3).toInt ≤ 0 := k_o2.1 3
  have g_o2_4 : (0 : Int) ≤ (o2.1 4).toInt ∧ (o2.1 4).toInt ≤ 0 := k_o2.1 4
  have g_o2_5 : (0 : Int) ≤ (o2.1 5).toInt ∧ (o2.1 5).toInt ≤ 0 := k_o2.1 5
  have g_o2_16 : (0 : Int) ≤ (o2.1 16).toInt ∧ (o2.1 16).toInt ≤ 0 := k_o2.1 16
  have g_o2_17 : (0 : Int) ≤ (o2.1 17).toInt ∧ (o2.1 17).toInt ≤ 0 := k_o2.1 17
  have g_o2_18 : (0 : Int) ≤ (o2.1 18).toInt ∧ (o2.1 18).toInt ≤ 0 := k_o2.1 18
  have g_o2_30 : (0 : Int) ≤ (o2.1 30).toInt ∧ (o2.1 30).toInt ≤ 0 := k_o2.1 30
  have g_o3_0 : (0 : Int) ≤ (o3.1 0).toInt ∧ (o3.1 0).toInt ≤ 200 := k_o3.1 0
  have g_o3_1 : ((-2147483648) : Int) ≤ (o3.1 1).toInt ∧ (o3.1 1).toInt ≤ 2147483647 := k_o3.1 1
  have g_o3_2 : (0 : Int) ≤ (o3.1 2).toInt ∧ (o3.1 2).toInt ≤ 0 := k_o3.1 2
  have g_o3_3 : (0 : Int) ≤ (o3.1 3).toInt ∧ (o3.1 3).toInt ≤ 0 := k_o3.1 3
  have g_o3_4 : (0 : Int) ≤ (o3.1 4).toInt ∧ (o3.1 4).toInt ≤ 0 := k_o3.1 4
  have g_o3_5 : (0 : Int) ≤ (o3.1 5).toInt ∧ (o3.1 5).toInt ≤ 0 := k_o3.1 5
  have g_o3_16 : (0 : Int) ≤ (o3.1 16).toInt ∧ (o3.1 16).toInt ≤ 0 := k_o3.1 16
  have g_o3_17 : (0 : Int) ≤ (o3.1 17).toInt ∧ (o3.1 17).toInt ≤ 0 := k_o3.1 17
  have g_o3_18 : (0 : Int) ≤ (o3.1 18).toInt ∧ (o3.1 18).toInt ≤ 0 := k_o3.1 18
  have g_o3_30 : (0 : Int) ≤ (o3.1 30).toInt ∧ (o3.1 30).toInt ≤ 0 := k_o3.1 30
  have g_o4_0 : (0 : Int) ≤ (o4.1 0).toInt ∧ (o4.1 0).toInt ≤ 1 := k_o4.1 0
  have g_o4_1 : (0 : Int) ≤ (o4.1 1).toInt ∧ (o4.1 1).toInt ≤ 0 := k_o4.1 1
  have g_o4_2 : (0 : Int) ≤ (o4.1 2).toInt ∧ (o4.1 2).toInt ≤ 0 := k_o4.1 2
  have g_o4_3 : (0 : Int) ≤ (o4.1 3).toInt ∧ (o4.1 3).toInt ≤ 0 := k_o4.1 3
  have g_o4_4 : (0 : Int) ≤ (o4.1 4).toInt ∧ (o4.1 4).toInt ≤ 0 := k_o4.1 4
  have g_o4_5 : (0 : Int) ≤ (o4.1 5).toInt ∧ (o4.1 5).toInt ≤ 0 := k_o4.1 5
  have g_o4_16 : (0 : Int) ≤ (o4.1 16).toInt ∧ (o4.1 16).toInt ≤ 0 := k_o4.1 16
  have g_o4_17 : (0 : Int) ≤ (o4.1 17).toInt ∧ (o4.1 17).toInt ≤ 0 := k_o4.1 17
  have g_o4_18 : (0 : Int) ≤ (o4.1 18).toInt ∧ (o4.1 18).toInt ≤ 0 := k_o4.1 18
  have g_o4_30 : (0 : Int) ≤ (o4.1 30).toInt ∧ (o4.1 30).toInt ≤ 0 := k_o4.1 30
  have g_o5_0 : (0 : Int) ≤ (o5.1 0).toInt ∧ (o5.1 0).toInt ≤ 8 := k_o5.1 0
  have g_o5_1 : (0 : Int) ≤ (o5.1 1).toInt ∧ (o5.1 1).toInt ≤ 6 := k_o5.1 1
  have g_o5_2 : (0 : Int) ≤ (o5.1 2).toInt ∧ (o5.1 2).toInt ≤ 200 := k_o5.1 2
  have g_o5_3 : (0 : Int) ≤ (o5.1 3).toInt ∧ (o5.1 3).toInt ≤ 1 := k_o5.1 3
  have g_o5_4 : (0 : Int) ≤ (o5.1 4).toInt ∧ (o5.1 4).toInt ≤ 0 := k_o5.1 4
  have g_o5_5 : (0 : Int) ≤ (o5.1 5).toInt ∧ (o5.1 5).toInt ≤ 0 := k_o5.1 5
  have g_o5_16 : (0 : Int) ≤ (o5.1 16).toInt ∧ (o5.1 16).toInt ≤ 0 := k_o5.1 16
  have g_o5_17 : (0 : Int) ≤ (o5.1 17).toInt ∧ (o5.1 17).toInt ≤ 0 := k_o5.1 17
  have g_o5_18 : (0 : Int) ≤ (o5.1 18).toInt ∧ (o5.1 18).toInt ≤ 0 := k_o5.1 18
  have g_o5_30 : (0 : Int) ≤ (o5.1 30).toInt ∧ (o5.1 30).toInt ≤ 0 := k_o5.1 30
  have g_o6_0 : (16 : Int) ≤ (o6.1 0).toInt ∧ (o6.1 0).toInt ≤ 400000 := k_o6.1 0
  have g_o6_1 : (0 : Int) ≤ (o6.1 1).toInt ∧ (o6.1 1).toInt ≤ 0 := k_o6.1 1
  have g_o6_2 : (0 : Int) ≤ (o6.1 2).toInt ∧ (o6.1 2).toInt ≤ 1 := k_o6.1 2
  have g_o6_3 : (0 : Int) ≤ (o6.1 3).toInt ∧ (o6.1 3).toInt ≤ 90000 := k_o6.1 3
  have g_o6_4 : (0 : Int) ≤ (o6.1 4).toInt ∧ (o6.1 4).toInt ≤ 0 := k_o6.1 4
  have g_o6_5 : (0 : Int) ≤ (o6.1 5).toInt ∧ (o6.1 5).toInt ≤ 0 := k_o6.1 5
  have g_o6_16 : (0 : Int) ≤ (o6.1 16).toInt ∧ (o6.1 16).toInt ≤ 0 := k_o6.1 16
  have g_o6_17 : (0 : Int) ≤ (o6.1 17).toInt ∧ (o6.1 17).toInt ≤ 0 := k_o6.1 17
  have g_o6_18 : (0 : Int) ≤ (o6.1 18).toInt ∧ (o6.1 18).toInt ≤ 0 := k_o6.1 18
  have g_o6_30 : (0 : Int) ≤ (o6.1 30).toInt ∧ (o6.1 30).toInt ≤ 0 := k_o6.1 30
  refine tt_if (fun c1 => ?_) (fun c1 => ?_)
  · have wc1 : (o0.1 16).toInt = (0 : Int) := c_eq c1
    have i2 : (0 : Int) ≤ (o0.1 16).toInt ∧ (o0.1 16).toInt ≤ 0 := nr_eql c1 (k_o0.1 16) (show (0 : Int) ≤ (0 : Int32).toInt ∧ (0 : Int32).toInt ≤ 0 by decide) (by decide) (by decide)
    have k3 := ok_fp (k := 30) (v := 2) k_o0 (iv_w (a := 0) (b := 4) (by decide) (by decide) (show (2 : Int) ≤ (2 : Int32).toInt ∧ (2 : Int32).toInt ≤ 2 by decide))
    have r4 := fr_fp (k := 30) (v := 2) r_o0 rfl
    exact tt_some ⟨(iv_w (a := 0) (b := 200) (by decide) (by decide) (show (0 : Int) ≤ (0 : Int32).toInt ∧ (0 : Int32).toInt ≤ 0 by decide)), k3, r4, k_o1, r_o1, k_o2, r_o2, k_o3, r_o3, k_o4, r_o4, x_2, x_3, (show (o1.1 3).toInt ≤ (o1.1 4).toInt by omega), (show (o1.1 4).toInt = (o1.1 5).toInt by omega), x_6, (show 2 = 0 ∨ 2 = 2 ∨ 2 = 1 ∨ 2 = 4 by omega), trivial⟩
  · have wc1 : ¬ (o0.1 16).toInt = (0 : Int) := c_ne c1
    have i5 : (1 : Int) ≤ (o0.1 16).toInt ∧ (o0.1 16).toInt ≤ 1 := nr_nela c1 (k_o0.1 16) (show (0 : Int) ≤ (0 : Int32).toInt ∧ (0 : Int32).toInt ≤ 0 by decide) (by decide) (by decide)
    try unfold fF_coverBy_7
    refine tt_if (fun c6 => ?_) (fun c6 => ?_)
    · have wc6 : v1.toInt < (2 : Int) := c_lt c6
      have i7 : ((-2147483648) : Int) ≤ v1.toInt ∧ v1.toInt ≤ 1 := nr_ltl c6 (iv_top v1) (show (2 : Int) ≤ (2 : Int32).toInt ∧ (2 : Int32).toInt ≤ 2 by decide) (by decide) (by decide)
      try unfold fF_coverBy_17
      have k8 := ok_fp (k := 30) (v := 1) k_o0 (iv_w (a := 0) (b := 4) (by decide) (by decide) (show (1 : Int) ≤ (1 : Int32).toInt ∧ (1 : Int32).toInt ≤ 1 by decide))
      have r9 := fr_fp (k := 30) (v := 1) r_o0 rfl
      exact tt_some ⟨(iv_w (a := 0) (b := 200) (by decide) (by decide) (show (0 : Int) ≤ (0 : Int32).toInt ∧ (0 : Int32).toInt ≤ 0 by decide)), k8, r9, k_o1, r_o1, k_o2, r_o2, k_o3, r_o3, k_o4, r_o4, x_2, x_3, (show (o1.1 3).toInt ≤ (o1.1 4).toInt by omega), (show (o1.1 4).toInt = (o1.1 5).toInt by omega), x_6, (show 1 = 0 ∨ 1 = 2 ∨ 1 = 1 ∨ 1 = 4 by omega), trivial⟩
    · have wc6 : (2 : Int) ≤ v1.toInt := c_nlt c6
      have i10 : (2 : Int) ≤ v1.toInt ∧ v1.toInt ≤ 2147483647 := nr_nltr c6 (show (2 : Int) ≤ (2 : Int32).toInt ∧ (2 : Int32).toInt ≤ 2 by decide) (iv_top v1) (by decide) (by decide)
      refine tt_if (fun c11 => ?_) (fun c11 => ?_)
      · have wc11 : v1.toInt ≤ (5 : Int) := c_le c11
        have i12 : (2 : Int) ≤ v1.toInt ∧ v1.toInt ≤ 5 := nr_lel c11 i10 (show (5 : Int) ≤ (5 : Int32).toInt ∧ (5 : Int32).toInt ≤ 5 by decide) (by decide) (by decide)
        refine tt_b (sCu_find _ _ _ k_o1 k_o5 i12 x_0 x_2 (show (o1.1 3).toInt ≤ (o1.1 4).toInt by omega) (show (o1.1 4).toInt = (o1.1 5).toInt by omega) x_3) (fun q13 hq13 => ?_)
        obtain ⟨i_q13, k_q13_2, n_q13_2, f_q13_2_0, zq13_0, zq13_1, zq13_2, zq13_3, zq13_4, -⟩ := hq13
        have r_q13_2 := fr_tr r_o1 n_q13_2 rfl rfl rfl
        have e_q13_2_1 : (q13.2.1 1).toInt = (o1.1 1).toInt := congrArg Int32.toInt (n_q13_2.1 1 rfl)
        have g_q13_2_1 : (0 : Int) ≤ (q13.2.1 1).toInt ∧ (q13.2.1 1).toInt ≤ 0 := k_q13_2.1 1
        have e_q13_2_2 : (q13.2.1 2).toInt = (o1.1 2).toInt := congrArg Int32.toInt (n_q13_2.1 2 rfl)
        have g_q13_2_2 : (0 : Int) ≤ (q13.2.1 2).toInt ∧ (q13.2.1 2).toInt ≤ 0 := k_q13_2.1 2
        have g_q13_2_3 : (0 : Int) ≤ (q13.2.1 3).toInt ∧ (q13.2.1 3).toInt ≤ 62909 := k_q13_2.1 3
        have g_q13_2_4 : (1024 : Int) ≤ (q13.2.1 4).toInt ∧ (q13.2.1 4).toInt ≤ 131072 := k_q13_2.1 4
        have g_q13_2_5 : (1024 : Int) ≤ (q13.2.1 5).toInt ∧ (q13.2.1 5).toInt ≤ 131072 := k_q13_2.1 5
        have e_q13_2_16 : (q13.2.1 16).toInt = (o1.1 16).toInt := congrArg Int32.toInt (n_q13_2.1 16 rfl)
        have g_q13_2_16 : (0 : Int) ≤ (q13.2.1 16).toInt ∧ (q13.2.1 16).toInt ≤ 0 := k_q13_2.1 16
        have e_q13_2_17 : (q13.2.1 17).toInt = (o1.1 17).toInt := congrArg Int32.toInt (n_q13_2.1 17 rfl)
        have g_q13_2_17 : (0 : Int) ≤ (q13.2.1 17).toInt ∧ (q13.2.1 17).toInt ≤ 0 := k_q13_2.1 17
        have e_q13_2_18 : (q13.2.1 18).toInt = (o1.1 18).toInt := congrArg Int32.toInt (n_q13_2.1 18 rfl)
        have g_q13_2_18 : (0 : Int) ≤ (q13.2.1 18).toInt ∧ (q13.2.1 18).toInt ≤ 0 := k_q13_2.1 18
        have e_q13_2_30 : (q13.2.1 30).toInt = (o1.1 30).toInt := congrArg Int32.toInt (n_q13_2.1 30 rfl)
        have g_q13_2_30 : (0 : Int) ≤ (q13.2.1 30).toInt ∧ (q13.2.1 30).toInt ≤ 0 := k_q13_2.1 30
        have zq13_1 : (q13.2.1 3).toInt ≤ (q13.2.1 4).toInt := zq13_1
        have zq13_2 : (q13.2.1 4).toInt = (q13.2.1 5).toInt := zq13_2
        have zq13_3 : q13.1.toInt = 0 ∨ (q13.2.1 0).toInt = v1.toInt := zq13_3
        try unfold fF_coverBy_37
        refine tt_if (fun c14 => ?_) (fun c14 => ?_)
        · have wc14 : q13.1.toInt = (0 : Int) := c_eq c14
          have i15 : (0 : Int) ≤ q13.1.toInt ∧ q13.1.toInt ≤ 0 := nr_eql c14 i_q13 (show (0 : Int) ≤ (0 : Int32).toInt ∧ (0 : Int32).toInt ≤ 0 by decide) (by decide) (by decide)
          have k16 := ok_fp (k := 30) (v := 4) k_o0 (iv_w (a := 0) (b := 4) (by decide) (by decide) (show (4 : Int) ≤ (4 : Int32).toInt ∧ (4 : Int32).toInt ≤ 4 by decide))
          have r17 := fr_fp (k := 30) (v := 4) r_o0 rfl
          exact tt_some ⟨(iv_w (a := 0) (b := 200) (by decide) (by decide) (show (0 : Int) ≤ (0 : Int32).toInt ∧ (0 : Int32).toInt ≤ 0 by decide)), k16, r17, k_q13_2, r_q13_2, k_o2, r_o2, k_o3, r_o3, k_o4, r_o4, zq13_0, zq13_4, (show (q13.2.1 3).toInt ≤ (q13.2.1 4).toInt by omega), (show (q13.2.1 4).toInt = (q13.2.1 5).toInt by omega), x_6, (show 4 = 0 ∨ 4 = 2 ∨ 4 = 1 ∨ 4 = 4 by omega), trivial⟩
        · have wc14 : ¬ q13.1.toInt = (0 : Int) := c_ne c14
          have i18 : (1 : Int) ≤ q13.1.toInt ∧ q13.1.toInt ≤ 1 := nr_nela c14 i_q13 (show (0 : Int) ≤ (0 : Int32).toInt ∧ (0 : Int32).toInt ≤ 0 by decide) (by decide) (by decide)
          try unfold fF_coverBy_40
          have p19 : Fqr (q13.2.1 0).toInt (o5.1 0).toInt (((o5.1 0).toInt + 1) + (o5.1 2).toInt) (q13.2.1 3).toInt (q13.2.2.1 2) (q13.2.2.1 1) (q13.2.2.2 4) := by exact Fqs_r (by assumption)
          refine tt_b (sCv_choose _ _ _ _ _ k_o3 k_o5 k_q13_2 k_o2 i_v2 f_q13_2_0 p19 (show 1 ≤ (q13.2.1 0).toInt by omega) (show (q13.2.1 3).toInt ≤ (q13.2.1 4).toInt by omega)) (fun q20 hq20 => ?_)
          obtain ⟨k_q20_1, n_q20_1, f_q20_1_1, k_q20_2, n_q20_2, zq20_0, -⟩ := hq20
          have r_q20_1 := fr_tr r_o3 n_q20_1 rfl rfl rfl
          have g_q20_1_0 : (0 : Int) ≤ (q20.1.1 0).toInt ∧ (q20.1.1 0).toInt ≤ 200 := k_q20_1.1 0
          have e_q20_1_2 : (q20.1.1 2).toInt = (o3.1 2).toInt := congrArg Int32.toInt (n_q20_1.1 2 rfl)
          have g_q20_1_2 : (0 : Int) ≤ (q20.1.1 2).toInt ∧ (q20.1.1 2).toInt ≤ 0 := k_q20_1.1 2
          have e_q20_1_3 : (q20.1.1 3).toInt = (o3.1 3).toInt := congrArg Int32.toInt (n_q20_1.1 3 rfl)
          have g_q20_1_3 : (0 : Int) ≤ (q20.1.1 3).toInt ∧ (q20.1.1 3).toInt ≤ 0 := k_q20_1.1 3
          have e_q20_1_4 : (q20.1.1 4).toInt = (o3.1 4).toInt := congrArg Int32.toInt (n_q20_1.1 4 rfl)
          have g_q20_1_4 : (0 : Int) ≤ (q20.1.1 4).toInt ∧ (q20.1.1 4).toInt ≤ 0 := k_q20_1.1 4
          have e_q20_1_5 : (q20.1.1 5).toInt = (o3.1 5).toInt := congrArg Int32.toInt (n_q20_1.1 5 rfl)
          have g_q20_1_5 : (0 : Int) ≤ (q20.1.1 5).toInt ∧ (q20.1.1 5).toInt ≤ 0 := k_q20_1.1 5
          have e_q20_1_16 : (q20.1.1 16).toInt = (o3.1 16).toInt := congrArg Int32.toInt (n_q20_1.1 16 rfl)
          have g_q20_1_16 : (0 : Int) ≤ (q20.1.1 16).toInt ∧ (q20.1.1 16).toInt ≤ 0 := k_q20_1.1 16
          have e_q20_1_17 : (q20.1.1 17).toInt = (o3.1 17).toInt := congrArg Int32.toInt (n_q20_1.1 17 rfl)
          have g_q20_1_17 : (0 : Int) ≤ (q20.1.1 17).toInt ∧ (q20.1.1 17).toInt ≤ 0 := k_q20_1.1 17
          have e_q20_1_18 : (q20.1.1 18).toInt = (o3.1 18).toInt := congrArg Int32.toInt (n_q20_1.1 18 rfl)
          have g_q20_1_18 : (0 : Int) ≤ (q20.1.1 18).toInt ∧ (q20.1.1 18).toInt ≤ 0 := k_q20_1.1 18
          have e_q20_1_30 : (q20.1.1 30).toInt = (o3.1 30).toInt := congrArg Int32.toInt (n_q20_1.1 30 rfl)
          have g_q20_1_30 : (0 : Int) ≤ (q20.1.1 30).toInt ∧ (q20.1.1 30).toInt ≤ 0 := k_q20_1.1 30
          have r_q20_2 := fr_tr r_o2 n_q20_2 rfl rfl rfl
          have g_q20_2_0 : (0 : Int) ≤ (q20.2.1 0).toInt ∧ (q20.2.1 0).toInt ≤ 5 := k_q20_2.1 0
          have g_q20_2_1 : ((-2147483648) : Int) ≤ (q20.2.1 1).toInt ∧ (q20.2.1 1).toInt ≤ 2147483647 := k_q20_2.1 1
          have e_q20_2_2 : (q20.2.1 2).toInt = (o2.1 2).toInt := congrArg Int32.toInt (n_q20_2.1 2 rfl)
          have g_q20_2_2 : (0 : Int) ≤ (q20.2.1 2).toInt ∧ (q20.2.1 2).toInt ≤ 0 := k_q20_2.1 2
          have e_q20_2_3 : (q20.2.1 3).toInt = (o2.1 3).toInt := congrArg Int32.toInt (n_q20_2.1 3 rfl)
          have g_q20_2_3 : (0 : Int) ≤ (q20.2.1 3).toInt ∧ (q20.2.1 3).toInt ≤ 0 := k_q20_2.1 3
          have e_q20_2_4 : (q20.2.1 4).toInt = (o2.1 4).toInt := congrArg Int32.toInt (n_q20_2.1 4 rfl)
          have g_q20_2_4 : (0 : Int) ≤ (q20.2.1 4).toInt ∧ (q20.2.1 4).toInt ≤ 0 := k_q20_2.1 4
          have e_q20_2_5 : (q20.2.1 5).toInt = (o2.1 5).toInt := congrArg Int32.toInt (n_q20_2.1 5 rfl)
          have g_q20_2_5 : (0 : Int) ≤ (q20.2.1 5).toInt ∧ (q20.2.1 5).toInt ≤ 0 := k_q20_2.1 5
          have e_q20_2_16 : (q20.2.1 16).toInt = (o2.1 16).toInt := congrArg Int32.toInt (n_q20_2.1 16 rfl)
          have g_q20_2_16 : (0 : Int) ≤ (q20.2.1 16).toInt ∧ (q20.2.1 16).toInt ≤ 0 := k_q20_2.1 16
          have e_q20_2_17 : (q20.2.1 17).toInt = (o2.1 17).toInt := congrArg Int32.toInt (n_q20_2.1 17 rfl)
          have g_q20_2_17 : (0 : Int) ≤ (q20.2.1 17).toInt ∧ (q20.2.1 17).toInt ≤ 0 := k_q20_2.1 17
          have e_q20_2_18 : (q20.2.1 18).toInt = (o2.1 18).toInt := congrArg Int32.toInt (n_q20_2.1 18 rfl)
          have g_q20_2_18 : (0 : Int) ≤ (q20.2.1 18).toInt ∧ (q20.2.1 18).toInt ≤ 0 := k_q20_2.1 18
          have e_q20_2_30 : (q20.2.1 30).toInt = (o2.1 30).toInt := congrArg Int32.toInt (n_q20_2.1 30 rfl)
          have g_q20_2_30 : (0 : Int) ≤ (q20.2.1 30).toInt ∧ (q20.2.1 30).toInt ≤ 0 := k_q20_2.1 30
          try unfold fF_coverBy_60
          refine tt_ko ?_
          have k21 := ok_fp (k := 0) (v := 0) k_o4 (iv_w (a := 0) (b := 1) (by decide) (by decide) (show (0 : Int) ≤ (0 : Int32).toInt ∧ (0 : Int32).toInt ≤ 0 by decide))
          have r22 := fr_fp (k := 0) (v := 0) r_o4 rfl
          refine tt_ko ?_
          have k23 := ok_fp (k := 17) (v := 1) k_o0 (iv_w (a := 0) (b := 1) (by decide) (by decide) (show (1 : Int) ≤ (1 : Int32).toInt ∧ (1 : Int32).toInt ≤ 1 by decide))
          have r24 := fr_fp (k := 17) (v := 1) r_o0 rfl
          have k25 := ok_fp (k := 30) (v := 0) k23 (iv_w (a := 0) (b := 4) (by decide) (by decide) (show (0 : Int) ≤ (0 : Int32).toInt ∧ (0 : Int32).toInt ≤ 0 by decide))
          have r26 := fr_fp (k := 30) (v := 0) r24 rfl
          have p27 : Hct 1 (q20.1.1 0).toInt (q20.1.2.1 2) (q20.1.2.2 5) := by first | assumption | exact Or.inl (by omega) | exact Or.inr (by assumption)
          exact tt_some ⟨(k_q20_1.1 0), k25, r26, k_q13_2, r_q13_2, k_q20_2, r_q20_2, k_q20_1, r_q20_1, k21, r22, zq13_0, zq13_4, (show (q13.2.1 3).toInt ≤ (q13.2.1 4).toInt by omega), (show (q13.2.1 4).toInt = (q13.2.1 5).toInt by omega), p27, (show 0 = 0 ∨ 0 = 2 ∨ 0 = 1 ∨ 0 = 4 by omega), trivial⟩
      · have wc11 : (5 : Int) < v1.toInt := c_nle c11
        have i28 : (6 : Int) ≤ v1.toInt ∧ v1.toInt ≤ 2147483647 := nr_nler c11 (show (5 : Int) ≤ (5 : Int32).toInt ∧ (5 : Int32).toInt ≤ 5 by decide) i10 (by decide) (by decide)
        try unfold fF_coverBy_17
        have k29 := ok_fp (k := 30) (v := 1) k_o0 (iv_w (a := 0) (b := 4) (by decide) (by decide) (show (1 : Int) ≤ (1 : Int32).toInt ∧ (1 : Int32).toInt ≤ 1 by decide))
        have r30 := fr_fp (k := 30) (v := 1) r_o0 rfl
        exact tt_some ⟨(iv_w (a := 0) (b := 200) (by decide) (by decide) (show (0 : Int) ≤ (0 : Int32).toInt ∧ (0 : Int32).toInt ≤ 0 by decide)), k29, r30, k_o1, r_o1, k_o2, r_o2, k_o3, r_o3, k_o4, r_o4, x_2, x_3, (show (o1.1 3).toInt ≤ (o1.1 4).toInt by omega), (show (o1.1 4).toInt = (o1.1 5).toInt by omega), x_6, (show 1 = 0 ∨ 1 = 2 ∨ 1 = 1 ∨ 1 = 4 by omega), trivial⟩
def QF_coverFew (v1 : Int32) (o0 : cf_O) (o1 : cf_O) (o2 : cf_O) (o3 : cf_O) (o4 : cf_O) (o5 : cf_O) (o6 : cf_O) (r : (Int32 × cf_O × cf_O × cf_O × cf_O × cf_O)) : Prop := ((0 : Int) ≤ r.1.toInt ∧ r.1.toInt ≤ 200) ∧ (okO I_F r.2.1) ∧ (Fr (fr_M [17, 30] [] []) o0 r.2.1) ∧ (okO I_Cu r.2.2.1) ∧ (Fr (fr_M [0, 3, 4, 5] [1, 2] [4, 5]) o1 r.2.2.1) ∧ (okO I_Co r.2.2.2.1) ∧ (Fr (fr_M [0, 1] [2, 3, 4] []) o2 r.2.2.2.1) ∧ (okO I_Cv r.2.2.2.2.1) ∧ (Fr (fr_M [0, 1] [2, 3, 4, 6] [5]) o3 r.2.2.2.2.1) ∧ (okO I_Sc r.2.2.2.2.2) ∧ (Fr (fr_M [0] [] []) o4 r.2.2.2.2.2) ∧ (Fqs (r.2.2.1.1 0).toInt (o5.1 0).toInt (((o5.1 0).toInt + 1) + (o5.1 2).toInt) (r.2.2.1.1 3).toInt (r.2.2.1.2.1 2) (r.2.2.1.2.1 1) (r.2.2.1.2.2 4)) ∧ (Rcf (r.2.2.1.1 0).toInt (r.2.2.1.1 3).toInt (o5.1 0).toInt (((o5.1 0).toInt + 1) + (o5.1 2).toInt) (o5.2.1 4) (o5.2.1 5) (r.2.2.1.2.1 2) (r.2.2.1.2.2 4)) ∧ ((r.2.2.1.1 3).toInt ≤ (r.2.2.1.1 4).toInt) ∧ ((r.2.2.1.1 4).toInt = (r.2.2.1.1 5).toInt) ∧ (Hct (r.2.1.1 17).toInt (r.2.2.2.2.1.1 0).toInt (r.2.2.2.2.1.2.1 2) (r.2.2.2.2.1.2.2 5)) ∧ ((r.2.1.1 30).toInt = 0 ∨ (r.2.1.1 30).toInt = 2 ∨ (r.2.1.1 30).toInt = 1 ∨ (r.2.1.1 30).toInt = 4) ∧ True
set_option maxHeartbeats 4000000 in
set_option maxRecDepth 100000 in
theorem sF_coverFew (v1 : Int32) (o0 : cf_O) (o1 : cf_O) (o2 : cf_O) (o3 : cf_O) (o4 : cf_O) (o5 : cf_O) (o6 : cf_O) (k_o0 : okO I_F o0) (k_o1 : okO I_Cu o1) (k_o2 : okO I_Co o2) (k_o3 : okO I_Cv o3) (k_o4 : okO I_Sc o4) (k_o5 : okO I_Gr o5) (k_o6 : okO I_SB o6) (x_0 : Gx ((o5.1 0).toInt + 1) (o5.1 2).toInt (sh ((o5.1 0).toInt + 1) (o5.2.1 4)) (sh ((o5.1 0).toInt + 1) (o5.2.1 5))) (x_1 : No (o5.1 1).toInt (((o5.1 0).toInt + 1) + (o5.1 2).toInt) (o5.2.1 7)) (x_2 : Fqs (o1.1 0).toInt (o5.1 0).toInt (((o5.1 0).toInt + 1) + (o5.1 2).toInt) (o1.1 3).toInt (o1.2.1 2) (o1.2.1 1) (o1.2.2 4)) (x_3 : Rcf (o1.1 0).toInt (o1.1 3).toInt (o5.1 0).toInt (((o5.1 0).toInt + 1) + (o5.1 2).toInt) (o5.2.1 4) (o5.2.1 5) (o1.2.1 2) (o1.2.2 4)) (x_4 : (o1.1 3).toInt ≤ (o1.1 4).toInt) (x_5 : (o1.1 4).toInt = (o1.1 5).toInt) (x_6 : Hct (o0.1 17).toInt (o3.1 0).toInt (o3.2.1 2) (o3.2.2 5)) (x_7 : (o6.1 3).toInt ≤ (o6.1 0).toInt) : tt (fF_coverFew v1 o0 o1 o2 o3 o4 o5 o6) (QF_coverFew v1 o0 o1 o2 o3 o4 o5 o6) := by
  have r_o0 : Fr (fr_M [17, 30] [] []) o0 o0 := fr_rfl
  have r_o1 : Fr (fr_M [0, 3, 4, 5] [1, 2] [4, 5]) o1 o1 := fr_rfl
  have r_o2 : Fr (fr_M [0, 1] [2, 3, 4] []) o2 o2 := fr_rfl
  have r_o3 : Fr (fr_M [0, 1] [2, 3, 4, 6] [5]) o3 o3 := fr_rfl
  have r_o4 : Fr (fr_M [0] [] []) o4 o4 := fr_rfl
  have r_o5 : Fr (fr_M [] [] []) o5 o5 := fr_rfl
  have r_o6 : Fr (fr_M [] [] []) o6 o6 := fr_rfl
  unfold fF_coverFew fF_coverFew_0
  have i_v1 := iv_top v1
  have g_o0_0 : (0 : Int) ≤ (o0.1 0).toInt ∧ (o0.1 0).toInt ≤ 0 := k_o0.1 0
  have g_o0_1 : (0 : Int) ≤ (o0.1 1).toInt ∧ (o0.1 1).toInt ≤ 0 := k_o0.1 1
  have g_o0_2 : (0 : Int) ≤ (o0.1 2).toInt ∧ (o0.1 2).toInt ≤ 0 := k_o0.1 2
  have g_o0_3 : (0 : Int) ≤ (o0.1 3).toInt ∧ (o0.1 3).toInt ≤ 0 := k_o0.1 3
  have g_o0_4 : (0 : Int) ≤ (o0.1 4).toInt ∧ (o0.1 4).toInt ≤ 0 := k_o0.1 4
  have g_o0_5 : (0 : Int) ≤ (o0.1 5).toInt ∧ (o0.1 5).toInt ≤ 0 := k_o0.1 5
  have g_o0_16 : (0 : Int) ≤ (o0.1 16).toInt ∧ (o0.1 16).toInt ≤ 1 := k_o0.1 16
  have g_o0_17 : (0 : Int) ≤ (o0.1 17).toInt ∧ (o0.1 17).toInt ≤ 1 := k_o0.1 17
  have g_o0_18 : (0 : Int) ≤ (o0.1 18).toInt ∧ (o0.1 18).toInt ≤ 1 := k_o0.1 18
  have g_o0_30 : (0 : Int) ≤ (o0.1 30).toInt ∧ (o0.1 30).toInt ≤ 4 := k_o0.1 30
  have g_o1_0 : ((-2147483648) : Int) ≤ (o1.1 0).toInt ∧ (o1.1 0).toInt ≤ 2147483647 := k_o1.1 0
  have g_o1_1 : (0 : Int) ≤ (o1.1 1).toInt ∧ (o1.1 1).toInt ≤ 0 := k_o1.1 1
  have g_o1_2 : (0 : Int) ≤ (o1.1 2).toInt ∧ (o1.1 2).toInt ≤ 0 := k_o1.1 2
  have g_o1_3 : (0 : Int) ≤ (o1.1 3).toInt ∧ (o1.1 3).toInt ≤ 62909 := k_o1.1 3
  have g_o1_4 : (1024 : Int) ≤ (o1.1 4).toInt ∧ (o1.1 4).toInt ≤ 131072 := k_o1.1 4
  have g_o1_5 : (1024 : Int) ≤ (o1.1 5).toInt ∧ (o1.1 5).toInt ≤ 131072 := k_o1.1 5
  have g_o1_16 : (0 : Int) ≤ (o1.1 16).toInt ∧ (o1.1 16).toInt ≤ 0 := k_o1.1 16
  have g_o1_17 : (0 : Int) ≤ (o1.1 17).toInt ∧ (o1.1 17).toInt ≤ 0 := k_o1.1 17
  have g_o1_18 : (0 : Int) ≤ (o1.1 18).toInt ∧ (o1.1 18).toInt ≤ 0 := k_o1.1 18
  have g_o1_30 : (0 : Int) ≤ (o1.1 30).toInt ∧ (o1.1 30).toInt ≤ 0 := k_o1.1 30
  have g_o2_0 : (0 : Int) ≤ (o2.1 0).toInt ∧ (o2.1 0).toInt ≤ 5 := k_o2.1 0
  have g_o2_1 : ((-2147483648) : Int) ≤ (o2.1 1).toInt ∧ (o2.1 1).toInt ≤ 2147483647 := k_o2.1 1
  have g_o2_2 : (0 : Int) ≤ (o2.1 2).toInt ∧ (o2.1 2).toInt ≤ 0 := k_o2.1 2
  have g_o2_3 : (0 : Int) ≤ (o2.1 3).toInt ∧ (o2.1 3).toInt ≤ 0 := k_o2.1 3
  have g_o2_4 : (0 : Int) ≤ (o2.1 4).toInt ∧ (o2.1 4).toInt ≤ 0 := k_o2.1 4
  have g_o2_5 : (0 : Int) ≤ (o2.1 5).toInt ∧ (o2.1 5).toInt ≤ 0 := k_o2.1 5
  have g_o2_16 : (0 : Int) ≤ (o2.1 16).toInt ∧ (o2.1 16).toInt ≤ 0 := k_o2.1 16
  have g_o2_17 : (0 : Int) ≤ (o2.1 17).toInt ∧ (o2.1 17).toInt ≤ 0 := k_o2.1 17
  have g_o2_18 : (0 : Int) ≤ (o2.1 18).toInt ∧ (o2.1 18).toInt ≤ 0 := k_o2.1 18
  have g_o2_30 : (0 : Int) ≤ (o2.1 30).toInt ∧ (o2.1 30).toInt ≤ 0 := k_o2.1 30
  have g_o3_0 : (0 : Int) ≤ (o3.1 0).toInt ∧ (o3.1 0).toInt ≤ 200 := k_o3.1 0
  have g_o3_1 : ((-2147483648) : Int) ≤ (o3.1 1).toInt ∧ (o3.1 1).toInt ≤ 2147483647 := k_o3.1 1
  have g_o3_2 : (0 : Int) ≤ (o3.1 2).toInt ∧ (o3.1 2).toInt ≤ 0 := k_o3.1 2
  have g_o3_3 : (0 : Int) ≤ (o3.1 3).toInt ∧ (o3.1 3).toInt ≤ 0 := k_o3.1 3
  have g_o3_4 : (0 : Int) ≤ (o3.1 4).toInt ∧ (o3.1 4).toInt ≤ 0 := k_o3.1 4
  have g_o3_5 : (0 : Int) ≤ (o3.1 5).toInt ∧ (o3.1 5).toInt ≤ 0 := k_o3.1 5
  have g_o3_16 : (0 : Int) ≤ (o3.1 16).toInt ∧ (o3.1 16).toInt ≤ 0 := k_o3.1 16
  have g_o3_17 : (0 : Int) ≤ (o3.1 17).toInt ∧ (o3.1 17).toInt ≤ 0 := k_o3.1 17
  have g_o3_18 : (0 : Int) ≤ (o3.1 18).toInt ∧ (o3.1 18).toInt ≤ 0 := k_o3.1 18
  have g_o3_30 : (0 : Int) ≤ (o3.1 30).toInt ∧ (o3.1 30).toInt ≤ 0 := k_o3.1 30
  have g_o4_0 : (0 : Int) ≤ (o4.1 0).toInt ∧ (o4.1 0).toInt ≤ 1 := k_o4.1 0
  have g_o4_1 : (0 : Int) ≤ (o4.1 1).toInt ∧ (o4.1 1).toInt ≤ 0 := k_o4.1 1
  have g_o4_2 : (0 : Int) ≤ (o4.1 2).toInt ∧ (o4.1 2).toInt ≤ 0 := k_o4.1 2
  have g_o4_3 : (0 : Int) ≤ (o4.1 3).toInt ∧ (o4.1 3).toInt ≤ 0 := k_o4.1 3
  have g_o4_4 : (0 : Int) ≤ (o4.1 4).toInt ∧ (o4.1 4).toInt ≤ 0 := k_o4.1 4
  have g_o4_5 : (0 : Int) ≤ (o4.1 5).toInt ∧ (o4.1 5).toInt ≤ 0 := k_o4.1 5
  have g_o4_16 : (0 : Int) ≤ (o4.1 16).toInt ∧ (o4.1 16).toInt ≤ 0 := k_o4.1 16
  have g_o4_17 : (0 : Int) ≤ (o4.1 17).toInt ∧ (o4.1 17).toInt ≤ 0 := k_o4.1 17
  have g_o4_18 : (0 : Int) ≤ (o4.1 18).toInt ∧ (o4.1 18).toInt ≤ 0 := k_o4.1 18
  have g_o4_30 : (0 : Int) ≤ (o4.1 30).toInt ∧ (o4.1 30).toInt ≤ 0 := k_o4.1 30
  have g_o5_0 : (0 : Int) ≤ (o5.1 0).toInt ∧ (o5.1 0).toInt ≤ 8 := k_o5.1 0
  have g_o5_1 : (0 : Int) ≤ (o5.1 1).toInt ∧ (o5.1 1).toInt ≤ 6 := k_o5.1 1
  have g_o5_2 : (0 : Int) ≤ (o5.1 2).toInt ∧ (o5.1 2).toInt ≤ 200 := k_o5.1 2
  have g_o5_3 : (0 : Int) ≤ (o5.1 3).toInt ∧ (o5.1 3).toInt ≤ 1 := k_o5.1 3
  have g_o5_4 : (0 : Int) ≤ (o5.1 4).toInt ∧ (o5.1 4).toInt ≤ 0 := k_o5.1 4
  have g_o5_5 : (0 : Int) ≤ (o5.1 5).toInt ∧ (o5.1 5).toInt ≤ 0 := k_o5.1 5
  have g_o5_16 : (0 : Int) ≤ (o5.1 16).toInt ∧ (o5.1 16).toInt ≤ 0 := k_o5.1 16
  have g_o5_17 : (0 : Int) ≤ (o5.1 17).toInt ∧ (o5.1 17).toInt ≤ 0 := k_o5.1 17
  have g_o5_18 : (0 : Int) ≤ (o5.1 18).toInt ∧ (o5.1 18).toInt ≤ 0 := k_o5.1 18
  have g_o5_30 : (0 : Int) ≤ (o5.1 30).toInt ∧ (o5.1 30).toInt ≤ 0 := k_o5.1 30
  have g_o6_0 : (16 : Int) ≤ (o6.1 0).toInt ∧ (o6.1 0).toInt ≤ 400000 := k_o6.1 0
  have g_o6_1 : (0 : Int) ≤ (o6.1 1).toInt ∧ (o6.1 1).toInt ≤ 0 := k_o6.1 1
  have g_o6_2 : (0 : Int) ≤ (o6.1 2).toInt ∧ (o6.1 2).toInt ≤ 1 := k_o6.1 2
  have g_o6_3 : (0 : Int) ≤ (o6.1 3).toInt ∧ (o6.1 3).toInt ≤ 90000 := k_o6.1 3
  have g_o6_4 : (0 : Int) ≤ (o6.1 4).toInt ∧ (o6.1 4).toInt ≤ 0 := k_o6.1 4
  have g_o6_5 : (0 : Int) ≤ (o6.1 5).toInt ∧ (o6.1 5).toInt ≤ 0 := k_o6.1 5
  have g_o6_16 : (0 : Int) ≤ (o6.1 16).toInt ∧ (o6.1 16).toInt ≤ 0 := k_o6.1 16
  have g_o6_17 : (0 : Int) ≤ (o6.1 17).toInt ∧ (o6.1 17).toInt ≤ 0 := k_o6.1 17
  have g_o6_18 : (0 : Int) ≤ (o6.1 18).toInt ∧ (o6.1 18).toInt ≤ 0 := k_o6.1 18
  have g_o6_30 : (0 : Int) ≤ (o6.1 30).toInt ∧ (o6.1 30).toInt ≤ 0 := k_o6.1 30
  refine tt_b (sF_coverBy _ _ _ _ _ _ _ _ _ k_o0 k_o1 k_o2 k_o3 k_o4 k_o5 k_o6 (iv_w (a := 0) (b := 1) (by decide) (by decide) (show (1 : Int) ≤ (1 : Int32).toInt ∧ (1 : Int32).toInt ≤ 1 by decide)) x_0 x_1 x_2 x_3 (show (o1.1 3).toInt ≤ (o1.1 4).toInt by omega) (show (o1.1 4).toInt = (o1.1 5).toInt by omega) x_6 (show (o6.1 3).toInt ≤ (o6.1 0).toInt by omega)) (fun q1 hq1 => ?_)
  obtain ⟨i_q1, k_q1_2_1, n_q1_2_1, k_q1_2_2_1, n_q1_2_2_1, k_q1_2_2_2_1, n_q1_2_2_2_1, k_q1_2_2_2_2_1, n_q1_2_2_2_2_1, k_q1_2_2_2_2_2, n_q1_2_2_2_2_2, zq1_0, zq1_1, zq1_2, zq1_3, zq1_4, zq1_5, -⟩ := hq1
  have r_q1_2_1 := fr_tr r_o0 n_q1_2_1 rfl rfl rfl
  have e_q1_2_1_0 : (q1.2.1.1 0).toInt = (o0.1 0).toInt := congrArg Int32.toInt (n_q1_2_1.1 0 rfl)
  have g_q1_2_1_0 : (0 : Int) ≤ (q1.2.1.1 0).toInt ∧ (q1.2.1.1 0).toInt ≤ 0 := k_q1_2_1.1 0
  have e_q1_2_1_1 : (q1.2.1.1 1).toInt = (o0.1 1).toInt := congrArg Int32.toInt (n_q1_2_1.1 1 rfl)
  have g_q1_2_1_1 : (0 : Int) ≤ (q1.2.1.1 1).toInt ∧ (q1.2.1.1 1).toInt ≤ 0 := k_q1_2_1.1 1
  have e_q1_2_1_2 : (q1.2.1.1 2).toInt = (o0.1 2).toInt := congrArg Int32.toInt (n_q1_2_1.1 2 rfl)
  have g_q1_2_1_2 : (0 : Int) ≤ (q1.2.1.1 2).toInt ∧ (q1.2.1.1 2).toInt ≤ 0 := k_q1_2_1.1 2
  have e_q1_2_1_3 : (q1.2.1.1 3).toInt = (o0.1 3).toInt := congrArg Int32.toInt (n_q1_2_1.1 3 rfl)
  have g_q1_2_1_3 : (0 : Int) ≤ (q1.2.1.1 3).toInt ∧ (q1.2.1.1 3).toInt ≤ 0 := k_q1_2_1.1 3
  have e_q1_2_1_4 : (q1.2.1.1 4).toInt = (o0.1 4).toInt := congrArg Int32.toInt (n_q1_2_1.1 4 rfl)
  have g_q1_2_1_4 : (0 : Int) ≤ (q1.2.1.1 4).toInt ∧ (q1.2.1.1 4).toInt ≤ 0 := k_q1_2_1.1 4
  have e_q1_2_1_5 : (q1.2.1.1 5).toInt = (o0.1 5).toInt := congrArg Int32.toInt (n_q1_2_1.1 5 rfl)
  have g_q1_2_1_5 : (0 : Int) ≤ (q1.2.1.1 5).toInt ∧ (q1.2.1.1 5).toInt ≤ 0 := k_q1_2_1.1 5
  have e_q1_2_1_16 : (q1.2.1.1 16).toInt = (o0.1 16).toInt := congrArg Int32.toInt (n_q1_2_1.1 16 rfl)
  have g_q1_2_1_16 : (0 : Int) ≤ (q1.2.1.1 16).toInt ∧ (q1.2.1.1 16).toInt ≤ 1 := k_q1_2_1.1 16
  have g_q1_2_1_17 : (0 : Int) ≤ (q1.2.1.1 17).toInt ∧ (q1.2.1.1 17).toInt ≤ 1 := k_q1_2_1.1 17
  have e_q1_2_1_18 : (q1.2.1.1 18).toInt = (o0.1 18).toInt := congrArg Int32.toInt (n_q1_2_1.1 18 rfl)
  have g_q1_2_1_18 : (0 : Int) ≤ (q1.2.1.1 18).toInt ∧ (q1.2.1.1 18).toInt ≤ 1 := k_q1_2_1.1 18
  have g_q1_2_1_30 : (0 : Int) ≤ (q1.2.1.1 30).toInt ∧ (q1.2.1.1 30).toInt ≤ 4 := k_q1_2_1.1 30
  have r_q1_2_2_1 := fr_tr r_o1 n_q1_2_2_1 rfl rfl rfl
  have g_q1_2_2_1_0 : ((-2147483648) : Int) ≤ (q1.2.2.1.1 0).toInt ∧ (q1.2.2.1.1 0).toInt ≤ 2147483647 := k_q1_2_2_1.1 0
  have e_q1_2_2_1_1 : (q1.2.2.1.1 1).toInt = (o1.1 1).toInt := congrArg Int32.toInt (n_q1_2_2_1.1 1 rfl)
  have g_q1_2_2_1_1 : (0 : Int) ≤ (q1.2.2.1.1 1).toInt ∧ (q1.2.2.1.1 1).toInt ≤ 0 := k_q1_2_2_1.1 1
  have e_q1_2_2_1_2 : (q1.2.2.1.1 2).toInt = (o1.1 2).toInt := congrArg Int32.toInt (n_q1_2_2_1.1 2 rfl)
  have g_q1_2_2_1_2 : (0 : Int) ≤ (q1.2.2.1.1 2).toInt ∧ (q1.2.2.1.1 2).toInt ≤ 0 := k_q1_2_2_1.1 2
  have g_q1_2_2_1_3 : (0 : Int) ≤ (q1.2.2.1.1 3).toInt ∧ (q1.2.2.1.1 3).toInt ≤ 62909 := k_q1_2_2_1.1 3
  have g_q1_2_2_1_4 : (1024 : Int) ≤ (q1.2.2.1.1 4).toInt ∧ (q1.2.2.1.1 4).toInt ≤ 131072 := k_q1_2_2_1.1 4
  have g_q1_2_2_1_5 : (1024 : Int) ≤ (q1.2.2.1.1 5).toInt ∧ (q1.2.2.1.1 5).toInt ≤ 131072 := k_q1_2_2_1.1 5
  have e_q1_2_2_1_16 : (q1.2.2.1.1 16).toInt = (o1.1 16).toInt := congrArg Int32.toInt (n_q1_2_2_1.1 16 rfl)
  have g_q1_2_2_1_16 : (0 : Int) ≤ (q1.2.2.1.1 16).toInt ∧ (q1.2.2.1.1 16).toInt ≤ 0 := k_q1_2_2_1.1 16
  have e_q1_2_2_1_17 : (q1.2.2.1.1 17).toInt = (o1.1 17).toInt := congrArg Int32.toInt (n_q1_2_2_1.1 17 rfl)
  have g_q1_2_2_1_17 : (0 : Int) ≤ (q1.2.2.1.1 17).toInt ∧ (q1.2.2.1.1 17).toInt ≤ 0 := k_q1_2_2_1.1 17
  have e_q1_2_2_1_18 : (q1.2.2.1.1 18).toInt = (o1.1 18).toInt := congrArg Int32.toInt (n_q1_2_2_1.1 18 rfl)
  have g_q1_2_2_1_18 : (0 : Int) ≤ (q1.2.2.1.1 18).toInt ∧ (q1.2.2.1.1 18).toInt ≤ 0 := k_q1_2_2_1.1 18
  have e_q1_2_2_1_30 : (q1.2.2.1.1 30).toInt = (o1.1 30).toInt := congrArg Int32.toInt (n_q1_2_2_1.1 30 rfl)
  have g_q1_2_2_1_30 : (0 : Int) ≤ (q1.2.2.1.1 30).toInt ∧ (q1.2.2.1.1 30).toInt ≤ 0 := k_q1_2_2_1.1 30
  have r_q1_2_2_2_1 := fr_tr r_o2 n_q1_2_2_2_1 rfl rfl rfl
  have g_q1_2_2_2_1_0 : (0 : Int) ≤ (q1.2.2.2.1.1 0).toInt ∧ (q1.2.2.2.1.1 0).toInt ≤ 5 := k_q1_2_2_2_1.1 0
  have g_q1_2_2_2_1_1 : ((-2147483648) : Int) ≤ (q1.2.2.2.1.1 1).toInt ∧ (q1.2.2.2.1.1 1).toInt ≤ 2147483647 := k_q1_2_2_2_1.1 1
  have e_q1_2_2_2_1_2 : (q1.2.2.2.1.1 2).toInt = (o2.1 2).toInt := congrArg Int32.toInt (n_q1_2_2_2_1.1 2 rfl)
  have g_q1_2_2_2_1_2 : (0 : Int) ≤ (q1.2.2.2.1.1 2).toInt ∧ (q1.2.2.2.1.1 2).toInt ≤ 0 := k_q1_2_2_2_1.1 2
  have e_q1_2_2_2_1_3 : (q1.2.2.2.1.1 3).toInt = (o2.1 3).toInt := congrArg Int32.toInt (n_q1_2_2_2_1.1 3 rfl)
  have g_q1_2_2_2_1_3 : (0 : Int) ≤ (q1.2.2.2.1.1 3).toInt ∧ (q1.2.2.2.1.1 3).toInt ≤ 0 := k_q1_2_2_2_1.1 3
  have e_q1_2_2_2_1_4 : (q1.2.2.2.1.1 4).toInt = (o2.1 4).toInt := congrArg Int32.toInt (n_q1_2_2_2_1.1 4 rfl)
  have g_q1_2_2_2_1_4 : (0 : Int) ≤ (q1.2.2.2.1.1 4).toInt ∧ (q1.2.2.2.1.1 4).toInt ≤ 0 := k_q1_2_2_2_1.1 4
  have e_q1_2_2_2_1_5 : (q1.2.2.2.1.1 5).toInt = (o2.1 5).toInt := congrArg Int32.toInt (n_q1_2_2_2_1.1 5 rfl)
  have g_q1_2_2_2_1_5 : (0 : Int) ≤ (q1.2.2.2.1.1 5).toInt ∧ (q1.2.2.2.1.1 5).toInt ≤ 0 := k_q1_2_2_2_1.1 5
  have e_q1_2_2_2_1_16 : (q1.2.2.2.1.1 16).toInt = (o2.1 16).toInt := congrArg Int32.toInt (n_q1_2_2_2_1.1 16 rfl)
  have g_q1_2_2_2_1_16 : (0 : Int) ≤ (q1.2.2.2.1.1 16).toInt ∧ (q1.2.2.2.1.1 16).toInt ≤ 0 := k_q1_2_2_2_1.1 16
  have e_q1_2_2_2_1_17 : (q1.2.2.2.1.1 17).toInt = (o2.1 17).toInt := congrArg Int32.toInt (n_q1_2_2_2_1.1 17 rfl)
  have g_q1_2_2_2_1_17 : (0 : Int) ≤ (q1.2.2.2.1.1 17).toInt ∧ (q1.2.2.2.1.1 17).toInt ≤ 0 := k_q1_2_2_2_1.1 17
  have e_q1_2_2_2_1_18 : (q1.2.2.2.1.1 18).toInt = (o2.1 18).toInt := congrArg Int32.toInt (n_q1_2_2_2_1.1 18 rfl)
  have g_q1_2_2_2_1_18 : (0 : Int) ≤ (q1.2.2.2.1.1 18).toInt ∧ (q1.2.2.2.1.1 18).toInt ≤ 0 := k_q1_2_2_2_1.1 18
  have e_q1_2_2_2_1_30 : (q1.2.2.2.1.1 30).toInt = (o2.1 30).toInt := congrArg Int32.toInt (n_q1_2_2_2_1.1 30 rfl)
  have g_q1_2_2_2_1_30 : (0 : Int) ≤ (q1.2.2.2.1.1 30).toInt ∧ (q1.2.2.2.1.1 30).toInt ≤ 0 := k_q1_2_2_2_1.1 30
  have r_q1_2_2_2_2_1 := fr_tr r_o3 n_q1_2_2_2_2_1 rfl rfl rfl
  have g_q1_2_2_2_2_1_0 : (0 : Int) ≤ (q1.2.2.2.2.1.1 0).toInt ∧ (q1.2.2.2.2.1.1 0).toInt ≤ 200 := k_q1_2_2_2_2_1.1 0
  have g_q1_2_2_2_2_1_1 : ((-2147483648) : Int) ≤ (q1.2.2.2.2.1.1 1).toInt ∧ (q1.2.2.2.2.1.1 1).toInt ≤ 2147483647 := k_q1_2_2_2_2_1.1 1
  have e_q1_2_2_2_2_1_2 : (q1.2.2.2.2.1.1 2).toInt = (o3.1 2).toInt := congrArg Int32.toInt (n_q1_2_2_2_2_1.1 2 rfl)
  have g_q1_2_2_2_2_1_2 : (0 : Int) ≤ (q1.2.2.2.2.1.1 2).toInt ∧ (q1.2.2.2.2.1.1 2).toInt ≤ 0 := k_q1_2_2_2_2_1.1 2
  have e_q1_2_2_2_2_1_3 : (q1.2.2.2.2.1.1 3).toInt = (o3.1 3).toInt := congrArg Int32.toInt (n_q1_2_2_2_2_1.1 3 rfl)
  have g_q1_2_2_2_2_1_3 : (0 : Int) ≤ (q1.2.2.2.2.1.1 3).toInt ∧ (q1.2.2.2.2.1.1 3).toInt ≤ 0 := k_q1_2_2_2_2_1.1 3
  have e_q1_2_2_2_2_1_4 : (q1.2.2.2.2.1.1 4).toInt = (o3.1 4).toInt := congrArg Int32.toInt (n_q1_2_2_2_2_1.1 4 rfl)
  have g_q1_2_2_2_2_1_4 : (0 : Int) ≤ (q1.2.2.2.2.1.1 4).toInt ∧ (q1.2.2.2.2.1.1 4).toInt ≤ 0 := k_q1_2_2_2_2_1.1 4
  have e_q1_2_2_2_2_1_5 : (q1.2.2.2.2.1.1 5).toInt = (o3.1 5).toInt := congrArg Int32.toInt (n_q1_2_2_2_2_1.1 5 rfl)
  have g_q1_2_2_2_2_1_5 : (0 : Int) ≤ (q1.2.2.2.2.1.1 5).toInt ∧ (q1.2.2.2.2.1.1 5).toInt ≤ 0 := k_q1_2_2_2_2_1.1 5
  have e_q1_2_2_2_2_1_16 : (q1.2.2.2.2.1.1 16).toInt = (o3.1 16).toInt := congrArg Int32.toInt (n_q1_2_2_2_2_1.1 16 rfl)
  have g_q1_2_2_2_2_1_16 : (0 : Int) ≤ (q1.2.2.2.2.1.1 16).toInt ∧ (q1.2.2.2.2.1.1 16).toInt ≤ 0 := k_q1_2_2_2_2_1.1 16
  have e_q1_2_2_2_2_1_17 : (q1.2.2.2.2.1.1 17).toInt = (o3.1 17).toInt := congrArg Int32.toInt (n_q1_2_2_2_2_1.1 17 rfl)
  have g_q1_2_2_2_2_1_17 : (0 : Int) ≤ (q1.2.2.2.2.1.1 17).toInt ∧ (q1.2.2.2.2.1.1 17).toInt ≤ 0 := k_q1_2_2_2_2_1.1 17
  have e_q1_2_2_2_2_1_18 : (q1.2.2.2.2.1.1 18).toInt = (o3.1 18).toInt := congrArg Int32.toInt (n_q1_2_2_2_2_1.1 18 rfl)
  have g_q1_2_2_2_2_1_18 : (0 : Int) ≤ (q1.2.2.2.2.1.1 18).toInt ∧ (q1.2.2.2.2.1.1 18).toInt ≤ 0 := k_q1_2_2_2_2_1.1 18
  have e_q1_2_2_2_2_1_30 : (q1.2.2.2.2.1.1 30).toInt = (o3.1 30).toInt := congrArg Int32.toInt (n_q1_2_2_2_2_1.1 30 rfl)
  have g_q1_2_2_2_2_1_30 : (0 : Int) ≤ (q1.2.2.2.2.1.1 30).toInt ∧ (q1.2.2.2.2.1.1 30).toInt ≤ 0 := k_q1_2_2_2_2_1.1 30
  have r_q1_2_2_2_2_2 := fr_tr r_o4 n_q1_2_2_2_2_2 rfl rfl rfl
  have g_q1_2_2_2_2_2_0 : (0 : Int) ≤ (q1.2.2.2.2.2.1 0).toInt ∧ (q1.2.2.2.2.2.1 0).toInt ≤ 1 := k_q1_2_2_2_2_2.1 0
  have e_q1_2_2_2_2_2_1 : (q1.2.2.2.2.2.1 1).toInt = (o4.1 1).toInt := congrArg Int32.toInt (n_q1_2_2_2_2_2.1 1 rfl)
  have g_q1_2_2_2_2_2_1 : (0 : Int) ≤ (q1.2.2.2.2.2.1 1).toInt ∧ (q1.2.2.2.2.2.1 1).toInt ≤ 0 := k_q1_2_2_2_2_2.1 1
  have e_q1_2_2_2_2_2_2 : (q1.2.2.2.2.2.1 2).toInt = (o4.1 2).toInt := congrArg Int32.toInt (n_q1_2_2_2_2_2.1 2 rfl)
  have g_q1_2_2_2_2_2_2 : (0 : Int) ≤ (q1.2.2.2.2.2.1 2).toInt ∧ (q1.2.2.2.2.2.1 2).toInt ≤ 0 := k_q1_2_2_2_2_2.1 2
  have e_q1_2_2_2_2_2_3 : (q1.2.2.2.2.2.1 3).toInt = (o4.1 3).toInt := congrArg Int32.toInt (n_q1_2_2_2_2_2.1 3 rfl)
  have g_q1_2_2_2_2_2_3 : (0 : Int) ≤ (q1.2.2.2.2.2.1 3).toInt ∧ (q1.2.2.2.2.2.1 3).toInt ≤ 0 := k_q1_2_2_2_2_2.1 3
  have e_q1_2_2_2_2_2_4 : (q1.2.2.2.2.2.1 4).toInt = (o4.1 4).toInt := congrArg Int32.toInt (n_q1_2_2_2_2_2.1 4 rfl)
  have g_q1_2_2_2_2_2_4 : (0 : Int) ≤ (q1.2.2.2.2.2.1 4).toInt ∧ (q1.2.2.2.2.2.1 4).toInt ≤ 0 := k_q1_2_2_2_2_2.1 4
  have e_q1_2_2_2_2_2_5 : (q1.2.2.2.2.2.1 5).toInt = (o4.1 5).toInt := congrArg Int32.toInt (n_q1_2_2_2_2_2.1 5 rfl)
  have g_q1_2_2_2_2_2_5 : (0 : Int) ≤ (q1.2.2.2.2.2.1 5).toInt ∧ (q1.2.2.2.2.2.1 5).toInt ≤ 0 := k_q1_2_2_2_2_2.1 5
  have e_q1_2_2_2_2_2_16 : (q1.2.2.2.2.2.1 16).toInt = (o4.1 16).toInt := congrArg Int32.toInt (n_q1_2_2_2_2_2.1 16 rfl)
  have g_q1_2_2_2_2_2_16 : (0 : Int) ≤ (q1.2.2.2.2.2.1 16).toInt ∧ (q1.2.2.2.2.2.1 16).toInt ≤ 0 := k_q1_2_2_2_2_2.1 16
  have e_q1_2_2_2_2_2_17 : (q1.2.2.2.2.2.1 17).toInt = (o4.1 17).toInt := congrArg Int32.toInt (n_q1_2_2_2_2_2.1 17 rfl)
  have g_q1_2_2_2_2_2_17 : (0 : Int) ≤ (q1.2.2.2.2.2.1 17).toInt ∧ (q1.2.2.2.2.2.1 17).toInt ≤ 0 := k_q1_2_2_2_2_2.1 17
  have e_q1_2_2_2_2_2_18 : (q1.2.2.2.2.2.1 18).toInt = (o4.1 18).toInt := congrArg Int32.toInt (n_q1_2_2_2_2_2.1 18 rfl)
  have g_q1_2_2_2_2_2_18 : (0 : Int) ≤ (q1.2.2.2.2.2.1 18).toInt ∧ (q1.2.2.2.2.2.1 18).toInt ≤ 0 := k_q1_2_2_2_2_2.1 18
  have e_q1_2_2_2_2_2_30 : (q1.2.2.2.2.2.1 30).toInt = (o4.1 30).toInt := congrArg Int32.toInt (n_q1_2_2_2_2_2.1 30 rfl)
  have g_q1_2_2_2_2_2_30 : (0 : Int) ≤ (q1.2.2.2.2.2.1 30).toInt ∧ (q1.2.2.2.2.2.1 30).toInt ≤ 0 := k_q1_2_2_2_2_2.1 30
  have zq1_2 : (q1.2.2.1.1 3).toInt ≤ (q1.2.2.1.1 4).toInt := zq1_2
  have zq1_3 : (q1.2.2.1.1 4).toInt = (q1.2.2.1.1 5).toInt := zq1_3
  have zq1_5 : (q1.2.1.1 30).toInt = 0 ∨ (q1.2.1.1 30).toInt = 2 ∨ (q1.2.1.1 30).toInt = 1 ∨ (q1.2.1.1 30).toInt = 4 := zq1_5
  refine tt_if (fun c2 => ?_) (fun c2 => ?_)
  · have wc2 : (q1.2.1.1 30).toInt = (0 : Int) := c_eq c2
    have i3 : (0 : Int) ≤ (q1.2.1.1 30).toInt ∧ (q1.2.1.1 30).toInt ≤ 0 := nr_eql c2 (k_q1_2_1.1 30) (show (0 : Int) ≤ (0 : Int32).toInt ∧ (0 : Int32).toInt ≤ 0 by decide) (by decide) (by decide)
    try unfold fF_coverFew_6
    have k4 := ok_fp (k := 30) (v := 0) k_q1_2_1 (iv_w (a := 0) (b := 4) (by decide) (by decide) (show (0 : Int) ≤ (0 : Int32).toInt ∧ (0 : Int32).toInt ≤ 0 by decide))
    have r5 := fr_fp (k := 30) (v := 0) r_q1_2_1 rfl
    exact tt_some ⟨i_q1, k4, r5, k_q1_2_2_1, r_q1_2_2_1, k_q1_2_2_2_1, r_q1_2_2_2_1, k_q1_2_2_2_2_1, r_q1_2_2_2_2_1, k_q1_2_2_2_2_2, r_q1_2_2_2_2_2, zq1_0, zq1_1, (show (q1.2.2.1.1 3).toInt ≤ (q1.2.2.1.1 4).toInt by omega), (show (q1.2.2.1.1 4).toInt = (q1.2.2.1.1 5).toInt by omega), zq1_4, (show 0 = 0 ∨ 0 = 2 ∨ 0 = 1 ∨ 0 = 4 by omega), trivial⟩
  · have wc2 : ¬ (q1.2.1.1 30).toInt = (0 : Int) := c_ne c2
    have i6 : (1 : Int) ≤ (q1.2.1.1 30).toInt ∧ (q1.2.1.1 30).toInt ≤ 4 := nr_nela c2 (k_q1_2_1.1 30) (show (0 : Int) ≤ (0 : Int32).toInt ∧ (0 : Int32).toInt ≤ 0 by decide) (by decide) (by decide)
    exact tt_some ⟨(iv_w (a := 0) (b := 200) (by decide) (by decide) (show (0 : Int) ≤ (0 : Int32).toInt ∧ (0 : Int32).toInt ≤ 0 by decide)), k_q1_2_1, r_q1_2_1, k_q1_2_2_1, r_q1_2_2_1, k_q1_2_2_2_1, r_q1_2_2_2_1, k_q1_2_2_2_2_1, r_q1_2_2_2_2_1, k_q1_2_2_2_2_2, r_q1_2_2_2_2_2, zq1_0, zq1_1, (show (q1.2.2.1.1 3).toInt ≤ (q1.2.2.1.1 4).toInt by omega), (show (q1.2.2.1.1 4).toInt = (q1.2.2.1.1 5).toInt by omega), zq1_4, (show (q1.2.1.1 30).toInt = 0 ∨ (q1.2.1.1 30).toInt = 2 ∨ (q1.2.1.1 30).toInt = 1 ∨ (q1.2.1.1 30).toInt = 4 by omega), trivial⟩
def QF_cover (v1 : Int32) (o0 : cf_O) (o1 : cf_O) (o2 : cf_O) (o3 : cf_O) (o4 : cf_O) (o5 : cf_O) (o6 : cf_O) (r : (Int32 × cf_O × cf_O × cf_O × cf_O × cf_O)) : Prop := ((0 : Int) ≤ r.1.toInt ∧ r.1.toInt ≤ 200) ∧ (okO I_F r.2.1) ∧ (Fr (fr_M [17, 30] [] []) o0 r.2.1) ∧ (okO I_Cu r.2.2.1) ∧ (Fr (fr_M [0, 3, 4, 5] [1, 2] [4, 5]) o1 r.2.2.1) ∧ (okO I_Co r.2.2.2.1) ∧ (Fr (fr_M [0, 1] [2, 3, 4] []) o2 r.2.2.2.1) ∧ (okO I_Cv r.2.2.2.2.1) ∧ (Fr (fr_M [0, 1] [2, 3, 4, 6] [5]) o3 r.2.2.2.2.1) ∧ (okO I_Sc r.2.2.2.2.2) ∧ (Fr (fr_M [0] [] []) o4 r.2.2.2.2.2) ∧ (Fqs (r.2.2.1.1 0).toInt (o5.1 0).toInt (((o5.1 0).toInt + 1) + (o5.1 2).toInt) (r.2.2.1.1 3).toInt (r.2.2.1.2.1 2) (r.2.2.1.2.1 1) (r.2.2.1.2.2 4)) ∧ (Rcf (r.2.2.1.1 0).toInt (r.2.2.1.1 3).toInt (o5.1 0).toInt (((o5.1 0).toInt + 1) + (o5.1 2).toInt) (o5.2.1 4) (o5.2.1 5) (r.2.2.1.2.1 2) (r.2.2.1.2.2 4)) ∧ ((r.2.2.1.1 3).toInt ≤ (r.2.2.1.1 4).toInt) ∧ ((r.2.2.1.1 4).toInt = (r.2.2.1.1 5).toInt) ∧ (Hct (r.2.1.1 17).toInt (r.2.2.2.2.1.1 0).toInt (r.2.2.2.2.1.2.1 2) (r.2.2.2.2.1.2.2 5)) ∧ ((r.2.1.1 30).toInt = 0 ∨ (r.2.1.1 30).toInt = 2 ∨ (r.2.1.1 30).toInt = 1 ∨ (r.2.1.1 30).toInt = 4) ∧ True
set_option maxHeartbeats 4000000 in
set_option maxRecDepth 100000 in
theorem sF_cover (v1 : Int32) (o0 : cf_O) (o1 : cf_O) (o2 : cf_O) (o3 : cf_O) (o4 : cf_O) (o5 : cf_O) (o6 : cf_O) (k_o0 : okO I_F o0) (k_o1 : okO I_Cu o1) (k_o2 : okO I_Co o2) (k_o3 : okO I_Cv o3) (k_o4 : okO I_Sc o4) (k_o5 : okO I_Gr o5) (k_o6 : okO I_SB o6) (x_0 : Gx ((o5.1 0).toInt + 1) (o5.1 2).toInt (sh ((o5.1 0).toInt + 1) (o5.2.1 4)) (sh ((o5.1 0).toInt + 1) (o5.2.1 5))) (x_1 : No (o5.1 1).toInt (((o5.1 0).toInt + 1) + (o5.1 2).toInt) (o5.2.1 7)) (x_2 : Fqs (o1.1 0).toInt (o5.1 0).toInt (((o5.1 0).toInt + 1) + (o5.1 2).toInt) (o1.1 3).toInt (o1.2.1 2) (o1.2.1 1) (o1.2.2 4)) (x_3 : Rcf (o1.1 0).toInt (o1.1 3).toInt (o5.1 0).toInt (((o5.1 0).toInt + 1) + (o5.1 2).toInt) (o5.2.1 4) (o5.2.1 5) (o1.2.1 2) (o1.2.2 4)) (x_4 : (o1.1 3).toInt ≤ (o1.1 4).toInt) (x_5 : (o1.1 4).toInt = (o1.1 5).toInt) (x_6 : Hct (o0.1 17).toInt (o3.1 0).toInt (o3.2.1 2) (o3.2.2 5)) (x_7 : (o6.1 3).toInt ≤ (o6.1 0).toInt) : tt (fF_cover v1 o0 o1 o2 o3 o4 o5 o6) (QF_cover v1 o0 o1 o2 o3 o4 o5 o6) := by
  have r_o0 : Fr (fr_M [17, 30] [] []) o0 o0 := fr_rfl
  have r_o1 : Fr (fr_M [0, 3, 4, 5] [1, 2] [4, 5]) o1 o1 := fr_rfl
  have r_o2 : Fr (fr_M [0, 1] [2, 3, 4] []) o2 o2 := fr_rfl
  have r_o3 : Fr (fr_M [0, 1] [2, 3, 4, 6] [5]) o3 o3 := fr_rfl
  have r_o4 : Fr (fr_M [0] [] []) o4 o4 := fr_rfl
  have r_o5 : Fr (fr_M [] [] []) o5 o5 := fr_rfl
  have r_o6 : Fr (fr_M [] [] []) o6 o6 := fr_rfl
  unfold fF_cover fF_cover_0
  have i_v1 := iv_top v1
  have g_o0_0 : (0 : Int) ≤ (o0.1 0).toInt ∧ (o0.1 0).toInt ≤ 0 := k_o0.1 0
  have g_o0_1 : (0 : Int) ≤ (o0.1 1).toInt ∧ (o0.1 1).toInt ≤ 0 := k_o0.1 1
  have g_o0_2 : (0 : Int) ≤ (o0.1 2).toInt ∧ (o0.1 2).toInt ≤ 0 := k_o0.1 2
  have g_o0_3 : (0 : Int) ≤ (o0.1 3).toInt ∧ (o0.1 3).toInt ≤ 0 := k_o0.1 3
  have g_o0_4 : (0 : Int) ≤ (o0.1 4).toInt ∧ (o0.1 4).toInt ≤ 0 := k_o0.1 4
  have g_o0_5 : (0 : Int) ≤ (o0.1 5).toInt ∧ (o0.1 5).toInt ≤ 0 := k_o0.1 5
  have g_o0_16 : (0 : Int) ≤ (o0.1 16).toInt ∧ (o0.1 16).toInt ≤ 1 := k_o0.1 16
  have g_o0_17 : (0 : Int) ≤ (o0.1 17).toInt ∧ (o0.1 17).toInt ≤ 1 := k_o0.1 17
  have g_o0_18 : (0 : Int) ≤ (o0.1 18).toInt ∧ (o0.1 18).toInt ≤ 1 := k_o0.1 18
  have g_o0_30 : (0 : Int) ≤ (o0.1 30).toInt ∧ (o0.1 30).toInt ≤ 4 := k_o0.1 30
  have g_o1_0 : ((-2147483648) : Int) ≤ (o1.1 0).toInt ∧ (o1.1 0).toInt ≤ 2147483647 := k_o1.1 0
  have g_o1_1 : (0 : Int) ≤ (o1.1 1).toInt ∧ (o1.1 1).toInt ≤ 0 := k_o1.1 1
  have g_o1_2 : (0 : Int) ≤ (o1.1 2).toInt ∧ (o1.1 2).toInt ≤ 0 := k_o1.1 2
  have g_o1_3 : (0 : Int) ≤ (o1.1 3).toInt ∧ (o1.1 3).toInt ≤ 62909 := k_o1.1 3
  have g_o1_4 : (1024 : Int) ≤ (o1.1 4).toInt ∧ (o1.1 4).toInt ≤ 131072 := k_o1.1 4
  have g_o1_5 : (1024 : Int) ≤ (o1.1 5).toInt ∧ (o1.1 5).toInt ≤ 131072 := k_o1.1 5
  have g_o1_16 : (0 : Int) ≤ (o1.1 16).toInt ∧ (o1.1 16).toInt ≤ 0 := k_o1.1 16
  have g_o1_17 : (0 : Int) ≤ (o1.1 17).toInt ∧ (o1.1 17).toInt ≤ 0 := k_o1.1 17
  have g_o1_18 : (0 : Int) ≤ (o1.1 18).toInt ∧ (o1.1 18).toInt ≤ 0 := k_o1.1 18
  have g_o1_30 : (0 : Int) ≤ (o1.1 30).toInt ∧ (o1.1 30).toInt ≤ 0 := k_o1.1 30
  have g_o2_0 : (0 : Int) ≤ (o2.1 0).toInt ∧ (o2.1 0).toInt ≤ 5 := k_o2.1 0
  have g_o2_1 : ((-2147483648) : Int) ≤ (o2.1 1).toInt ∧ (o2.1 1).toInt ≤ 2147483647 := k_o2.1 1
  have g_o2_2 : (0 : Int) ≤ (o2.1 2).toInt ∧ (o2.1 2).toInt ≤ 0 := k_o2.1 2
  have g_o2_3 : (0 : Int) ≤ (o2.1 3).toInt ∧ (o2.1 3).toInt ≤ 0 := k_o2.1 3
  have g_o2_4 : (0 : Int) ≤ (o2.1 4).toInt ∧ (o2.1 4).toInt ≤ 0 := k_o2.1 4
  have g_o2_5 : (0 : Int) ≤ (o2.1 5).toInt ∧ (o2.1 5).toInt ≤ 0 := k_o2.1 5
  have g_o2_16 : (0 : Int) ≤ (o2.1 16).toInt ∧ (o2.1 16).toInt ≤ 0 := k_o2.1 16
  have g_o2_17 : (0 : Int) ≤ (o2.1 17).toInt ∧ (o2.1 17).toInt ≤ 0 := k_o2.1 17
  have g_o2_18 : (0 : Int) ≤ (o2.1 18).toInt ∧ (o2.1 18).toInt ≤ 0 := k_o2.1 18
  have g_o2_30 : (0 : Int) ≤ (o2.1 30).toInt ∧ (o2.1 30).toInt ≤ 0 := k_o2.1 30
  have g_o3_0 : (0 : Int) ≤ (o3.1 0).toInt ∧ (o3.1 0).toInt ≤ 200 := k_o3.1 0
  have g_o3_1 : ((-2147483648) : Int) ≤ (o3.1 1).toInt ∧ (o3.1 1).toInt ≤ 2147483647 := k_o3.1 1
  have g_o3_2 : (0 : Int) ≤ (o3.1 2).toInt ∧ (o3.1 2).toInt ≤ 0 := k_o3.1 2
  have g_o3_3 : (0 : Int) ≤ (o3.1 3).toInt ∧ (o3.1 3).toInt ≤ 0 := k_o3.1 3
  have g_o3_4 : (0 : Int) ≤ (o3.1 4).toInt ∧ (o3.1 4).toInt ≤ 0 := k_o3.1 4
  have g_o3_5 : (0 : Int) ≤ (o3.1 5).toInt ∧ (o3.1 5).toInt ≤ 0 := k_o3.1 5
  have g_o3_16 : (0 : Int) ≤ (o3.1 16).toInt ∧ (o3.1 16).toInt ≤ 0 := k_o3.1 16
  have g_o3_17 : (0 : Int) ≤ (o3.1 17).toInt ∧ (o3.1 17).toInt ≤ 0 := k_o3.1 17
  have g_o3_18 : (0 : Int) ≤ (o3.1 18).toInt ∧ (o3.1 18).toInt ≤ 0 := k_o3.1 18
  have g_o3_30 : (0 : Int) ≤ (o3.1 30).toInt ∧ (o3.1 30).toInt ≤ 0 := k_o3.1 30
  have g_o4_0 : (0 : Int) ≤ (o4.1 0).toInt ∧ (o4.1 0).toInt ≤ 1 := k_o4.1 0
  have g_o4_1 : (0 : Int) ≤ (o4.1 1).toInt ∧ (o4.1 1).toInt ≤ 0 := k_o4.1 1
  have g_o4_2 : (0 : Int) ≤ (o4.1 2).toInt ∧ (o4.1 2).toInt ≤ 0 := k_o4.1 2
  have g_o4_3 : (0 : Int) ≤ (o4.1 3).toInt ∧ (o4.1 3).toInt ≤ 0 := k_o4.1 3
  have g_o4_4 : (0 : Int) ≤ (o4.1 4).toInt ∧ (o4.1 4).toInt ≤ 0 := k_o4.1 4
  have g_o4_5 : (0 : Int) ≤ (o4.1 5).toInt ∧ (o4.1 5).toInt ≤ 0 := k_o4.1 5
  have g_o4_16 : (0 : Int) ≤ (o4.1 16).toInt ∧ (o4.1 16).toInt ≤ 0 := k_o4.1 16
  have g_o4_17 : (0 : Int) ≤ (o4.1 17).toInt ∧ (o4.1 17).toInt ≤ 0 := k_o4.1 17
  have g_o4_18 : (0 : Int) ≤ (o4.1 18).toInt ∧ (o4.1 18).toInt ≤ 0 := k_o4.1 18
  have g_o4_30 : (0 : Int) ≤ (o4.1 30).toInt ∧ (o4.1 30).toInt ≤ 0 := k_o4.1 30
  have g_o5_0 : (0 : Int) ≤ (o5.1 0).toInt ∧ (o5.1 0).toInt ≤ 8 := k_o5.1 0
  have g_o5_1 : (0 : Int) ≤ (o5.1 1).toInt ∧ (o5.1 1).toInt ≤ 6 := k_o5.1 1
  have g_o5_2 : (0 : Int) ≤ (o5.1 2).toInt ∧ (o5.1 2).toInt ≤ 200 := k_o5.1 2
  have g_o5_3 : (0 : Int) ≤ (o5.1 3).toInt ∧ (o5.1 3).toInt ≤ 1 := k_o5.1 3
  have g_o5_4 : (0 : Int) ≤ (o5.1 4).toInt ∧ (o5.1 4).toInt ≤ 0 := k_o5.1 4
  have g_o5_5 : (0 : Int) ≤ (o5.1 5).toInt ∧ (o5.1 5).toInt ≤ 0 := k_o5.1 5
  have g_o5_16 : (0 : Int) ≤ (o5.1 16).toInt ∧ (o5.1 16).toInt ≤ 0 := k_o5.1 16
  have g_o5_17 : (0 : Int) ≤ (o5.1 17).toInt ∧ (o5.1 17).toInt ≤ 0 := k_o5.1 17
  have g_o5_18 : (0 : Int) ≤ (o5.1 18).toInt ∧ (o5.1 18).toInt ≤ 0 := k_o5.1 18
  have g_o5_30 : (0 : Int) ≤ (o5.1 30).toInt ∧ (o5.1 30).toInt ≤ 0 := k_o5.1 30
  have g_o6_0 : (16 : Int) ≤ (o6.1 0).toInt ∧ (o6.1 0).toInt ≤ 400000 := k_o6.1 0
  have g_o6_1 : (0 : Int) ≤ (o6.1 1).toInt ∧ (o6.1 1).toInt ≤ 0 := k_o6.1 1
  have g_o6_2 : (0 : Int) ≤ (o6.1 2).toInt ∧ (o6.1 2).toInt ≤ 1 := k_o6.1 2
  have g_o6_3 : (0 : Int) ≤ (o6.1 3).toInt ∧ (o6.1 3).toInt ≤ 90000 := k_o6.1 3
  have g_o6_4 : (0 : Int) ≤ (o6.1 4).toInt ∧ (o6.1 4).toInt ≤ 0 := k_o6.1 4
  have g_o6_5 : (0 : Int) ≤ (o6.1 5).toInt ∧ (o6.1 5).toInt ≤ 0 := k_o6.1 5
  have g_o6_16 : (0 : Int) ≤ (o6.1 16).toInt ∧ (o6.1 16).toInt ≤ 0 := k_o6.1 16
  have g_o6_17 : (0 : Int) ≤ (o6.1 17).toInt ∧ (o6.1 17).toInt ≤ 0 := k_o6.1 17
  have g_o6_18 : (0 : Int) ≤ (o6.1 18).toInt ∧ (o6.1 18).toInt ≤ 0 := k_o6.1 18
  have g_o6_30 : (0 : Int) ≤ (o6.1 30).toInt ∧ (o6.1 30).toInt ≤ 0 := k_o6.1 30
  refine tt_b (sF_coverBy _ _ _ _ _ _ _ _ _ k_o0 k_o1 k_o2 k_o3 k_o4 k_o5 k_o6 (iv_w (a := 0) (b := 1) (by decide) (by decide) (show (0 : Int) ≤ (0 : Int32).toInt ∧ (0 : Int32).toInt ≤ 0 by decide)) x_0 x_1 x_2 x_3 (show (o1.1 3).toInt ≤ (o1.1 4).toInt by omega) (show (o1.1 4).toInt = (o1.1 5).toInt by omega) x_6 (show (o6.1 3).toInt ≤ (o6.1 0).toInt by omega)) (fun q1 hq1 => ?_)
  obtain ⟨i_q1, k_q1_2_1, n_q1_2_1, k_q1_2_2_1, n_q1_2_2_1, k_q1_2_2_2_1, n_q1_2_2_2_1, k_q1_2_2_2_2_1, n_q1_2_2_2_2_1, k_q1_2_2_2_2_2, n_q1_2_2_2_2_2, zq1_0, zq1_1, zq1_2, zq1_3, zq1_4, zq1_5, -⟩ := hq1
  have r_q1_2_1 := fr_tr r_o0 n_q1_2_1 rfl rfl rfl
  have e_q1_2_1_0 : (q1.2.1.1 0).toInt = (o0.1 0).toInt := congrArg Int32.toInt (n_q1_2_1.1 0 rfl)
  have g_q1_2_1_0 : (0 : Int) ≤ (q1.2.1.1 0).toInt ∧ (q1.2.1.1 0).toInt ≤ 0 := k_q1_2_1.1 0
  have e_q1_2_1_1 : (q1.2.1.1 1).toInt = (o0.1 1).toInt := congrArg Int32.toInt (n_q1_2_1.1 1 rfl)
  have g_q1_2_1_1 : (0 : Int) ≤ (q1.2.1.1 1).toInt ∧ (q1.2.1.1 1).toInt ≤ 0 := k_q1_2_1.1 1
  have e_q1_2_1_2 : (q1.2.1.1 2).toInt = (o0.1 2).toInt := congrArg Int32.toInt (n_q1_2_1.1 2 rfl)
  have g_q1_2_1_2 : (0 : Int) ≤ (q1.2.1.1 2).toInt ∧ (q1.2.1.1 2).toInt ≤ 0 := k_q1_2_1.1 2
  have e_q1_2_1_3 : (q1.2.1.1 3).toInt = (o0.1 3).toInt := congrArg Int32.toInt (n_q1_2_1.1 3 rfl)
  have g_q1_2_1_3 : (0 : Int) ≤ (q1.2.1.1 3).toInt ∧ (q1.2.1.1 3).toInt ≤ 0 := k_q1_2_1.1 3
  have e_q1_2_1_4 : (q1.2.1.1 4).toInt = (o0.1 4).toInt := congrArg Int32.toInt (n_q1_2_1.1 4 rfl)
  have g_q1_2_1_4 : (0 : Int) ≤ (q1.2.1.1 4).toInt ∧ (q1.2.1.1 4).toInt ≤ 0 := k_q1_2_1.1 4
  have e_q1_2_1_5 : (q1.2.1.1 5).toInt = (o0.1 5).toInt := congrArg Int32.toInt (n_q1_2_1.1 5 rfl)
  have g_q1_2_1_5 : (0 : Int) ≤ (q1.2.1.1 5).toInt ∧ (q1.2.1.1 5).toInt ≤ 0 := k_q1_2_1.1 5
  have e_q1_2_1_16 : (q1.2.1.1 16).toInt = (o0.1 16).toInt := congrArg Int32.toInt (n_q1_2_1.1 16 rfl)
  have g_q1_2_1_16 : (0 : Int) ≤ (q1.2.1.1 16).toInt ∧ (q1.2.1.1 16).toInt ≤ 1 := k_q1_2_1.1 16
  have g_q1_2_1_17 : (0 : Int) ≤ (q1.2.1.1 17).toInt ∧ (q1.2.1.1 17).toInt ≤ 1 := k_q1_2_1.1 17
  have e_q1_2_1_18 : (q1.2.1.1 18).toInt = (o0.1 18).toInt := congrArg Int32.toInt (n_q1_2_1.1 18 rfl)
  have g_q1_2_1_18 : (0 : Int) ≤ (q1.2.1.1 18).toInt ∧ (q1.2.1.1 18).toInt ≤ 1 := k_q1_2_1.1 18
  have g_q1_2_1_30 : (0 : Int) ≤ (q1.2.1.1 30).toInt ∧ (q1.2.1.1 30).toInt ≤ 4 := k_q1_2_1.1 30
  have r_q1_2_2_1 := fr_tr r_o1 n_q1_2_2_1 rfl rfl rfl
  have g_q1_2_2_1_0 : ((-2147483648) : Int) ≤ (q1.2.2.1.1 0).toInt ∧ (q1.2.2.1.1 0).toInt ≤ 2147483647 := k_q1_2_2_1.1 0
  have e_q1_2_2_1_1 : (q1.2.2.1.1 1).toInt = (o1.1 1).toInt := congrArg Int32.toInt (n_q1_2_2_1.1 1 rfl)
  have g_q1_2_2_1_1 : (0 : Int) ≤ (q1.2.2.1.1 1).toInt ∧ (q1.2.2.1.1 1).toInt ≤ 0 := k_q1_2_2_1.1 1
  have e_q1_2_2_1_2 : (q1.2.2.1.1 2).toInt = (o1.1 2).toInt := congrArg Int32.toInt (n_q1_2_2_1.1 2 rfl)
  have g_q1_2_2_1_2 : (0 : Int) ≤ (q1.2.2.1.1 2).toInt ∧ (q1.2.2.1.1 2).toInt ≤ 0 := k_q1_2_2_1.1 2
  have g_q1_2_2_1_3 : (0 : Int) ≤ (q1.2.2.1.1 3).toInt ∧ (q1.2.2.1.1 3).toInt ≤ 62909 := k_q1_2_2_1.1 3
  have g_q1_2_2_1_4 : (1024 : Int) ≤ (q1.2.2.1.1 4).toInt ∧ (q1.2.2.1.1 4).toInt ≤ 131072 := k_q1_2_2_1.1 4
  have g_q1_2_2_1_5 : (1024 : Int) ≤ (q1.2.2.1.1 5).toInt ∧ (q1.2.2.1.1 5).toInt ≤ 131072 := k_q1_2_2_1.1 5
  have e_q1_2_2_1_16 : (q1.2.2.1.1 16).toInt = (o1.1 16).toInt := congrArg Int32.toInt (n_q1_2_2_1.1 16 rfl)
  have g_q1_2_2_1_16 : (0 : Int) ≤ (q1.2.2.1.1 16).toInt ∧ (q1.2.2.1.1 16).toInt ≤ 0 := k_q1_2_2_1.1 16
  have e_q1_2_2_1_17 : (q1.2.2.1.1 17).toInt = (o1.1 17).toInt := congrArg Int32.toInt (n_q1_2_2_1.1 17 rfl)
  have g_q1_2_2_1_17 : (0 : Int) ≤ (q1.2.2.1.1 17).toInt ∧ (q1.2.2.1.1 17).toInt ≤ 0 := k_q1_2_2_1.1 17
  have e_q1_2_2_1_18 : (q1.2.2.1.1 18).toInt = (o1.1 18).toInt := congrArg Int32.toInt (n_q1_2_2_1.1 18 rfl)
  have g_q1_2_2_1_18 : (0 : Int) ≤ (q1.2.2.1.1 18).toInt ∧ (q1.2.2.1.1 18).toInt ≤ 0 := k_q1_2_2_1.1 18
  have e_q1_2_2_1_30 : (q1.2.2.1.1 30).toInt = (o1.1 30).toInt := congrArg Int32.toInt (n_q1_2_2_1.1 30 rfl)
  have g_q1_2_2_1_30 : (0 : Int) ≤ (q1.2.2.1.1 30).toInt ∧ (q1.2.2.1.1 30).toInt ≤ 0 := k_q1_2_2_1.1 30
  have r_q1_2_2_2_1 := fr_tr r_o2 n_q1_2_2_2_1 rfl rfl rfl
  have g_q1_2_2_2_1_0 : (0 : Int) ≤ (q1.2.2.2.1.1 0).toInt ∧ (q1.2.2.2.1.1 0).toInt ≤ 5 := k_q1_2_2_2_1.1 0
  have g_q1_2_2_2_1_1 : ((-2147483648) : Int) ≤ (q1.2.2.2.1.1 1).toInt ∧ (q1.2.2.2.1.1 1).toInt ≤ 2147483647 := k_q1_2_2_2_1.1 1
  have e_q1_2_2_2_1_2 : (q1.2.2.2.1.1 2).toInt = (o2.1 2).toInt := congrArg Int32.toInt (n_q1_2_2_2_1.1 2 rfl)
  have g_q1_2_2_2_1_2 : (0 : Int) ≤ (q1.2.2.2.1.1 2).toInt ∧ (q1.2.2.2.1.1 2).toInt ≤ 0 := k_q1_2_2_2_1.1 2
  have e_q1_2_2_2_1_3 : (q1.2.2.2.1.1 3).toInt = (o2.1 3).toInt := congrArg Int32.toInt (n_q1_2_2_2_1.1 3 rfl)
  have g_q1_2_2_2_1_3 : (0 : Int) ≤ (q1.2.2.2.1.1 3).toInt ∧ (q1.2.2.2.1.1 3).toInt ≤ 0 := k_q1_2_2_2_1.1 3
  have e_q1_2_2_2_1_4 : (q1.2.2.2.1.1 4).toInt = (o2.1 4).toInt := congrArg Int32.toInt (n_q1_2_2_2_1.1 4 rfl)
  have g_q1_2_2_2_1_4 : (0 : Int) ≤ (q1.2.2.2.1.1 4).toInt ∧ (q1.2.2.2.1.1 4).toInt ≤ 0 := k_q1_2_2_2_1.1 4
  have e_q1_2_2_2_1_5 : (q1.2.2.2.1.1 5).toInt = (o2.1 5).toInt := congrArg Int32.toInt (n_q1_2_2_2_1.1 5 rfl)
  have g_q1_2_2_2_1_5 : (0 : Int) ≤ (q1.2.2.2.1.1 5).toInt ∧ (q1.2.2.2.1.1 5).toInt ≤ 0 := k_q1_2_2_2_1.1 5
  have e_q1_2_2_2_1_16 : (q1.2.2.2.1.1 16).toInt = (o2.1 16).toInt := congrArg Int32.toInt (n_q1_2_2_2_1.1 16 rfl)
  have g_q1_2_2_2_1_16 : (0 : Int) ≤ (q1.2.2.2.1.1 16).toInt ∧ (q1.2.2.2.1.1 16).toInt ≤ 0 := k_q1_2_2_2_1.1 16
  have e_q1_2_2_2_1_17 : (q1.2.2.2.1.1 17).toInt = (o2.1 17).toInt := congrArg Int32.toInt (n_q1_2_2_2_1.1 17 rfl)
  have g_q1_2_2_2_1_17 : (0 : Int) ≤ (q1.2.2.2.1.1 17).toInt ∧ (q1.2.2.2.1.1 17).toInt ≤ 0 := k_q1_2_2_2_1.1 17
  have e_q1_2_2_2_1_18 : (q1.2.2.2.1.1 18).toInt = (o2.1 18).toInt := congrArg Int32.toInt (n_q1_2_2_2_1.1 18 rfl)
  have g_q1_2_2_2_1_18 : (0 : Int) ≤ (q1.2.2.2.1.1 18).toInt ∧ (q1.2.2.2.1.1 18).toInt ≤ 0 := k_q1_2_2_2_1.1 18
  have e_q1_2_2_2_1_30 : (q1.2.2.2.1.1 30).toInt = (o2.1 30).toInt := congrArg Int32.toInt (n_q1_2_2_2_1.1 30 rfl)
  have g_q1_2_2_2_1_30 : (0 : Int) ≤ (q1.2.2.2.1.1 30).toInt ∧ (q1.2.2.2.1.1 30).toInt ≤ 0 := k_q1_2_2_2_1.1 30
  have r_q1_2_2_2_2_1 := fr_tr r_o3 n_q1_2_2_2_2_1 rfl rfl rfl
  have g_q1_2_2_2_2_1_0 : (0 : Int) ≤ (q1.2.2.2.2.1.1 0).toInt ∧ (q1.2.2.2.2.1.1 0).toInt ≤ 200 := k_q1_2_2_2_2_1.1 0
  have g_q1_2_2_2_2_1_1 : ((-2147483648) : Int) ≤ (q1.2.2.2.2.1.1 1).toInt ∧ (q1.2.2.2.2.1.1 1).toInt ≤ 2147483647 := k_q1_2_2_2_2_1.1 1
  have e_q1_2_2_2_2_1_2 : (q1.2.2.2.2.1.1 2).toInt = (o3.1 2).toInt := congrArg Int32.toInt (n_q1_2_2_2_2_1.1 2 rfl)
  have g_q1_2_2_2_2_1_2 : (0 : Int) ≤ (q1.2.2.2.2.1.1 2).toInt ∧ (q1.2.2.2.2.1.1 2).toInt ≤ 0 := k_q1_2_2_2_2_1.1 2
  have e_q1_2_2_2_2_1_3 : (q1.2.2.2.2.1.1 3).toInt = (o3.1 3).toInt := congrArg Int32.toInt (n_q1_2_2_2_2_1.1 3 rfl)
  have g_q1_2_2_2_2_1_3 : (0 : Int) ≤ (q1.2.2.2.2.1.1 3).toInt ∧ (q1.2.2.2.2.1.1 3).toInt ≤ 0 := k_q1_2_2_2_2_1.1 3
  have e_q1_2_2_2_2_1_4 : (q1.2.2.2.2.1.1 4).toInt = (o3.1 4).toInt := congrArg Int32.toInt (n_q1_2_2_2_2_1.1 4 rfl)
  have g_q1_2_2_2_2_1_4 : (0 : Int) ≤ (q1.2.2.2.2.1.1 4).toInt ∧ (q1.2.2.2.2.1.1 4).toInt ≤ 0 := k_q1_2_2_2_2_1.1 4
  have e_q1_2_2_2_2_1_5 : (q1.2.2.2.2.1.1 5).toInt = (o3.1 5).toInt := congrArg Int32.toInt (n_q1_2_2_2_2_1.1 5 rfl)
  have g_q1_2_2_2_2_1_5 : (0 : Int) ≤ (q1.2.2.2.2.1.1 5).toInt ∧ (q1.2.2.2.2.1.1 5).toInt ≤ 0 := k_q1_2_2_2_2_1.1 5
  have e_q1_2_2_2_2_1_16 : (q1.2.2.2.2.1.1 16).toInt = (o3.1 16).toInt := congrArg Int32.toInt (n_q1_2_2_2_2_1.1 16 rfl)
  have g_q1_2_2_2_2_1_16 : (0 : Int) ≤ (q1.2.2.2.2.1.1 16).toInt ∧ (q1.2.2.2.2.1.1 16).toInt ≤ 0 := k_q1_2_2_2_2_1.1 16
  have e_q1_2_2_2_2_1_17 : (q1.2.2.2.2.1.1 17).toInt = (o3.1 17).toInt := congrArg Int32.toInt (n_q1_2_2_2_2_1.1 17 rfl)
  have g_q1_2_2_2_2_1_17 : (0 : Int) ≤ (q1.2.2.2.2.1.1 17).toInt ∧ (q1.2.2.2.2.1.1 17).toInt ≤ 0 := k_q1_2_2_2_2_1.1 17
  have e_q1_2_2_2_2_1_18 : (q1.2.2.2.2.1.1 18).toInt = (o3.1 18).toInt := congrArg Int32.toInt (n_q1_2_2_2_2_1.1 18 rfl)
  have g_q1_2_2_2_2_1_18 : (0 : Int) ≤ (q1.2.2.2.2.1.1 18).toInt ∧ (q1.2.2.2.2.1.1 18).toInt ≤ 0 := k_q1_2_2_2_2_1.1 18
  have e_q1_2_2_2_2_1_30 : (q1.2.2.2.2.1.1 30).toInt = (o3.1 30).toInt := congrArg Int32.toInt (n_q1_2_2_2_2_1.1 30 rfl)
  have g_q1_2_2_2_2_1_30 : (0 : Int) ≤ (q1.2.2.2.2.1.1 30).toInt ∧ (q1.2.2.2.2.1.1 30).toInt ≤ 0 := k_q1_2_2_2_2_1.1 30
  have r_q1_2_2_2_2_2 := fr_tr r_o4 n_q1_2_2_2_2_2 rfl rfl rfl
  have g_q1_2_2_2_2_2_0 : (0 : Int) ≤ (q1.2.2.2.2.2.1 0).toInt ∧ (q1.2.2.2.2.2.1 0).toInt ≤ 1 := k_q1_2_2_2_2_2.1 0
  have e_q1_2_2_2_2_2_1 : (q1.2.2.2.2.2.1 1).toInt = (o4.1 1).toInt := congrArg Int32.toInt (n_q1_2_2_2_2_2.1 1 rfl)
  have g_q1_2_2_2_2_2_1 : (0 : Int) ≤ (q1.2.2.2.2.2.1 1).toInt ∧ (q1.2.2.2.2.2.1 1).toInt ≤ 0 := k_q1_2_2_2_2_2.1 1
  have e_q1_2_2_2_2_2_2 : (q1.2.2.2.2.2.1 2).toInt = (o4.1 2).toInt := congrArg Int32.toInt (n_q1_2_2_2_2_2.1 2 rfl)
  have g_q1_2_2_2_2_2_2 : (0 : Int) ≤ (q1.2.2.2.2.2.1 2).toInt ∧ (q1.2.2.2.2.2.1 2).toInt ≤ 0 := k_q1_2_2_2_2_2.1 2
  have e_q1_2_2_2_2_2_3 : (q1.2.2.2.2.2.1 3).toInt = (o4.1 3).toInt := congrArg Int32.toInt (n_q1_2_2_2_2_2.1 3 rfl)
  have g_q1_2_2_2_2_2_3 : (0 : Int) ≤ (q1.2.2.2.2.2.1 3).toInt ∧ (q1.2.2.2.2.2.1 3).toInt ≤ 0 := k_q1_2_2_2_2_2.1 3
  have e_q1_2_2_2_2_2_4 : (q1.2.2.2.2.2.1 4).toInt = (o4.1 4).toInt := congrArg Int32.toInt (n_q1_2_2_2_2_2.1 4 rfl)
  have g_q1_2_2_2_2_2_4 : (0 : Int) ≤ (q1.2.2.2.2.2.1 4).toInt ∧ (q1.2.2.2.2.2.1 4).toInt ≤ 0 := k_q1_2_2_2_2_2.1 4
  have e_q1_2_2_2_2_2_5 : (q1.2.2.2.2.2.1 5).toInt = (o4.1 5).toInt := congrArg Int32.toInt (n_q1_2_2_2_2_2.1 5 rfl)
  have g_q1_2_2_2_2_2_5 : (0 : Int) ≤ (q1.2.2.2.2.2.1 5).toInt ∧ (q1.2.2.2.2.2.1 5).toInt ≤ 0 := k_q1_2_2_2_2_2.1 5
  have e_q1_2_2_2_2_2_16 : (q1.2.2.2.2.2.1 16).toInt = (o4.1 16).toInt := congrArg Int32.toInt (n_q1_2_2_2_2_2.1 16 rfl)
  have g_q1_2_2_2_2_2_16 : (0 : Int) ≤ (q1.2.2.2.2.2.1 16).toInt ∧ (q1.2.2.2.2.2.1 16).toInt ≤ 0 := k_q1_2_2_2_2_2.1 16
  have e_q1_2_2_2_2_2_17 : (q1.2.2.2.2.2.1 17).toInt = (o4.1 17).toInt := congrArg Int32.toInt (n_q1_2_2_2_2_2.1 17 rfl)
  have g_q1_2_2_2_2_2_17 : (0 : Int) ≤ (q1.2.2.2.2.2.1 17).toInt ∧ (q1.2.2.2.2.2.1 17).toInt ≤ 0 := k_q1_2_2_2_2_2.1 17
  have e_q1_2_2_2_2_2_18 : (q1.2.2.2.2.2.1 18).toInt = (o4.1 18).toInt := congrArg Int32.toInt (n_q1_2_2_2_2_2.1 18 rfl)
  have g_q1_2_2_2_2_2_18 : (0 : Int) ≤ (q1.2.2.2.2.2.1 18).toInt ∧ (q1.2.2.2.2.2.1 18).toInt ≤ 0 := k_q1_2_2_2_2_2.1 18
  have e_q1_2_2_2_2_2_30 : (q1.2.2.2.2.2.1 30).toInt = (o4.1 30).toInt := congrArg Int32.toInt (n_q1_2_2_2_2_2.1 30 rfl)
  have g_q1_2_2_2_2_2_30 : (0 : Int) ≤ (q1.2.2.2.2.2.1 30).toInt ∧ (q1.2.2.2.2.2.1 30).toInt ≤ 0 := k_q1_2_2_2_2_2.1 30
  have zq1_2 : (q1.2.2.1.1 3).toInt ≤ (q1.2.2.1.1 4).toInt := zq1_2
  have zq1_3 : (q1.2.2.1.1 4).toInt = (q1.2.2.1.1 5).toInt := zq1_3
  have zq1_5 : (q1.2.1.1 30).toInt = 0 ∨ (q1.2.1.1 30).toInt = 2 ∨ (q1.2.1.1 30).toInt = 1 ∨ (q1.2.1.1 30).toInt = 4 := zq1_5
  refine tt_if (fun c2 => ?_) (fun c2 => ?_)
  · have wc2 : (q1.2.1.1 30).toInt = (0 : Int) := c_eq c2
    have i3 : (0 : Int) ≤ (q1.2.1.1 30).toInt ∧ (q1.2.1.1 30).toInt ≤ 0 := nr_eql c2 (k_q1_2_1.1 30) (show (0 : Int) ≤ (0 : Int32).toInt ∧ (0 : Int32).toInt ≤ 0 by decide) (by decide) (by decide)
    try unfold fF_cover_6
    have k4 := ok_fp (k := 30) (v := 0) k_q1_2_1 (iv_w (a := 0) (b := 4) (by decide) (by decide) (show (0 : Int) ≤ (0 : Int32).toInt ∧ (0 : Int32).toInt ≤ 0 by decide))
    have r5 := fr_fp (k := 30) (v := 0) r_q1_2_1 rfl
    exact tt_some ⟨i_q1, k4, r5, k_q1_2_2_1, r_q1_2_2_1, k_q1_2_2_2_1, r_q1_2_2_2_1, k_q1_2_2_2_2_1, r_q1_2_2_2_2_1, k_q1_2_2_2_2_2, r_q1_2_2_2_2_2, zq1_0, zq1_1, (show (q1.2.2.1.1 3).toInt ≤ (q1.2.2.1.1 4).toInt by omega), (show (q1.2.2.1.1 4).toInt = (q1.2.2.1.1 5).toInt by omega), zq1_4, (show 0 = 0 ∨ 0 = 2 ∨ 0 = 1 ∨ 0 = 4 by omega), trivial⟩
  · have wc2 : ¬ (q1.2.1.1 30).toInt = (0 : Int) := c_ne c2
    have i6 : (1 : Int) ≤ (q1.2.1.1 30).toInt ∧ (q1.2.1.1 30).toInt ≤ 4 := nr_nela c2 (k_q1_2_1.1 30) (show (0 : Int) ≤ (0 : Int32).toInt ∧ (0 : Int32).toInt ≤ 0 by decide) (by decide) (by decide)
    exact tt_some ⟨(iv_w (a := 0) (b := 200) (by decide) (by decide) (show (0 : Int) ≤ (0 : Int32).toInt ∧ (0 : Int32).toInt ≤ 0 by decide)), k_q1_2_1, r_q1_2_1, k_q1_2_2_1, r_q1_2_2_1, k_q1_2_2_2_1, r_q1_2_2_2_1, k_q1_2_2_2_2_1, r_q1_2_2_2_2_1, k_q1_2_2_2_2_2, r_q1_2_2_2_2_2, zq1_0, zq1_1, (show (q1.2.2.1.1 3).toInt ≤ (q1.2.2.1.1 4).toInt by omega), (show (q1.2.2.1.1 4).toInt = (q1.2.2.1.1 5).toInt by omega), zq1_4, (show (q1.2.1.1 30).toInt = 0 ∨ (q1.2.1.1 30).toInt = 2 ∨ (q1.2.1.1 30).toInt = 1 ∨ (q1.2.1.1 30).toInt = 4 by omega), trivial⟩
def QF_depth (o0 : cf_O) (o1 : cf_O) (r : (Int32 × cf_O)) : Prop := (okO I_F r.2) ∧ (Fr (fr_M [30] [] []) o0 r.2) ∧ ((0 : Int) ≤ (r.2.1 30).toInt ∧ (r.2.1 30).toInt ≤ 2) ∧ (Hct (r.2.1 17).toInt (o1.1 0).toInt (o1.2.1 2) (o1.2.2 5)) ∧ ((r.2.1 30).toInt = 0 ∨ (r.2.1 30).toInt = 2) ∧ True
set_option maxHeartbeats 4000000 in
set_option maxRecDepth 100000 in
theorem sF_depth (o0 : cf_O) (o1 : cf_O) (k_o0 : okO I_F o0) (k_o1 : okO I_Cv o1) (x_0 : Hct (o0.1 17).toInt (o1.1 0).toInt (o1.2.1 2) (o1.2.2 5)) : tt (fF_depth o0 o1) (QF_depth o0 o1) := by
  have r_o0 : Fr (fr_M [30] [] []) o0 o0 := fr_rfl
  have r_o1 : Fr (fr_M [] [] []) o1 o1 := fr_rfl
  unfold fF_depth fF_depth_0
  have g_o0_0 : (0 : Int) ≤ (o0.1 0).toInt ∧ (o0.1 0).toInt ≤ 0 := k_o0.1 0
  have g_o0_1 : (0 : Int) ≤ (o0.1 1).toInt ∧ (o0.1 1).toInt ≤ 0 := k_o0.1 1
  have g_o0_2 : (0 : Int) ≤ (o0.1 2).toInt ∧ (o0.1 2).toInt ≤ 0 := k_o0.1 2
  have g_o0_3 : (0 : Int) ≤ (o0.1 3).toInt ∧ (o0.1 3).toInt ≤ 0 := k_o0.1 3
  have g_o0_4 : (0 : Int) ≤ (o0.1 4).toInt ∧ (o0.1 4).toInt ≤ 0 := k_o0.1 4
  have g_o0_5 : (0 : Int) ≤ (o0.1 5).toInt ∧ (o0.1 5).toInt ≤ 0 := k_o0.1 5
  have g_o0_16 : (0 : Int) ≤ (o0.1 16).toInt ∧ (o0.1 16).toInt ≤ 1 := k_o0.1 16
  have g_o0_17 : (0 : Int) ≤ (o0.1 17).toInt ∧ (o0.1 17).toInt ≤ 1 := k_o0.1 17
  have g_o0_18 : (0 : Int) ≤ (o0.1 18).toInt ∧ (o0.1 18).toInt ≤ 1 := k_o0.1 18
  have g_o0_30 : (0 : Int) ≤ (o0.1 30).toInt ∧ (o0.1 30).toInt ≤ 4 := k_o0.1 30
  have g_o1_0 : (0 : Int) ≤ (o1.1 0).toInt ∧ (o1.1 0).toInt ≤ 200 := k_o1.1 0
  have g_o1_1 : ((-2147483648) : Int) ≤ (o1.1 1).toInt ∧ (o1.1 1).toInt ≤ 2147483647 := k_o1.1 1
  have g_o1_2 : (0 : Int) ≤ (o1.1 2).toInt ∧ (o1.1 2).toInt ≤ 0 := k_o1.1 2
  have g_o1_3 : (0 : Int) ≤ (o1.1 3).toInt ∧ (o1.1 3).toInt ≤ 0 := k_o1.1 3
  have g_o1_4 : (0 : Int) ≤ (o1.1 4).toInt ∧ (o1.1 4).toInt ≤ 0 := k_o1.1 4
  have g_o1_5 : (0 : Int) ≤ (o1.1 5).toInt ∧ (o1.1 5).toInt ≤ 0 := k_o1.1 5
  have g_o1_16 : (0 : Int) ≤ (o1.1 16).toInt ∧ (o1.1 16).toInt ≤ 0 := k_o1.1 16
  have g_o1_17 : (0 : Int) ≤ (o1.1 17).toInt ∧ (o1.1 17).toInt ≤ 0 := k_o1.1 17
  have g_o1_18 : (0 : Int) ≤ (o1.1 18).toInt ∧ (o1.1 18).toInt ≤ 0 := k_o1.1 18
  have g_o1_30 : (0 : Int) ≤ (o1.1 30).toInt ∧ (o1.1 30).toInt ≤ 0 := k_o1.1 30
  refine tt_if (fun c1 => ?_) (fun c1 => ?_)
  · have wc1 : (o0.1 17).toInt = (0 : Int) := c_eq c1
    have i2 : (0 : Int) ≤ (o0.1 17).toInt ∧ (o0.1 17).toInt ≤ 0 := nr_eql c1 (k_o0.1 17) (show (0 : Int) ≤ (0 : Int32).toInt ∧ (0 : Int32).toInt ≤ 0 by decide) (by decide) (by decide)
    have k3 := ok_fp (k := 30) (v := 2) k_o0 (iv_w (a := 0) (b := 4) (by decide) (by decide) (show (2 : Int) ≤ (2 : Int32).toInt ∧ (2 : Int32).toInt ≤ 2 by decide))
    have r4 := fr_fp (k := 30) (v := 2) r_o0 rfl
    exact tt_some ⟨k3, r4, (iv_w (a := 0) (b := 2) (by decide) (by decide) (show (2 : Int) ≤ (2 : Int32).toInt ∧ (2 : Int32).toInt ≤ 2 by decide)), x_0, (show 2 = 0 ∨ 2 = 2 by omega), trivial⟩
  · have wc1 : ¬ (o0.1 17).toInt = (0 : Int) := c_ne c1
    have i5 : (1 : Int) ≤ (o0.1 17).toInt ∧ (o0.1 17).toInt ≤ 1 := nr_nela c1 (k_o0.1 17) (show (0 : Int) ≤ (0 : Int32).toInt ∧ (0 : Int32).toInt ≤ 0 by decide) (by decide) (by decide)
    try unfold fF_depth_7
    have k6 := ok_fp (k := 30) (v := 0) k_o0 (iv_w (a := 0) (b := 4) (by decide) (by decide) (show (0 : Int) ≤ (0 : Int32).toInt ∧ (0 : Int32).toInt ≤ 0 by decide))
    have r7 := fr_fp (k := 30) (v := 0) r_o0 rfl
    exact tt_some ⟨k6, r7, (iv_w (a := 0) (b := 2) (by decide) (by decide) (show (0 : Int) ≤ (0 : Int32).toInt ∧ (0 : Int32).toInt ≤ 0 by decide)), x_0, (show 0 = 0 ∨ 0 = 2 by omega), trivial⟩
def QF_cell (v1 : Int32) (v2 : Int32) (o0 : cf_O) (o1 : cf_O) (r : (Int32 × cf_O)) : Prop := (okO I_F r.2) ∧ (Fr (fr_M [30] [] []) o0 r.2) ∧ ((0 : Int) ≤ (r.2.1 30).toInt ∧ (r.2.1 30).toInt ≤ 3) ∧ (Hct (r.2.1 17).toInt (o1.1 0).toInt (o1.2.1 2) (o1.2.2 5)) ∧ ((r.2.1 30).toInt = 0 ∨ (r.2.1 30).toInt = 2 ∨ (r.2.1 30).toInt = 3 ∨ (r.2.1 30).toInt = 1) ∧ True
set_option maxHeartbeats 4000000 in
set_option maxRecDepth 100000 in
theorem sF_cell (v1 : Int32) (v2 : Int32) (o0 : cf_O) (o1 : cf_O) (k_o0 : okO I_F o0) (k_o1 : okO I_Cv o1) (x_0 : Hct (o0.1 17).toInt (o1.1 0).toInt (o1.2.1 2) (o1.2.2 5)) : tt (fF_cell v1 v2 o0 o1) (QF_cell v1 v2 o0 o1) := by
  have r_o0 : Fr (fr_M [30] [] []) o0 o0 := fr_rfl
  have r_o1 : Fr (fr_M [] [] []) o1 o1 := fr_rfl
  unfold fF_cell fF_cell_0
  have i_v1 := iv_top v1
  have i_v2 := iv_top v2
  have g_o0_0 : (0 : Int) ≤ (o0.1 0).toInt ∧ (o0.1 0).toInt ≤ 0 := k_o0.1 0
  have g_o0_1 : (0 : Int) ≤ (o0.1 1).toInt ∧ (o0.1 1).toInt ≤ 0 := k_o0.1 1
  have g_o0_2 : (0 : Int) ≤ (o0.1 2).toInt ∧ (o0.1 2).toInt ≤ 0 := k_o0.1 2
  have g_o0_3 : (0 : Int) ≤ (o0.1 3).toInt ∧ (o0.1 3).toInt ≤ 0 := k_o0.1 3
  have g_o0_4 : (0 : Int) ≤ (o0.1 4).toInt ∧ (o0.1 4).toInt ≤ 0 := k_o0.1 4
  have g_o0_5 : (0 : Int) ≤ (o0.1 5).toInt ∧ (o0.1 5).toInt ≤ 0 := k_o0.1 5
  have g_o0_16 : (0 : Int) ≤ (o0.1 16).toInt ∧ (o0.1 16).toInt ≤ 1 := k_o0.1 16
  have g_o0_17 : (0 : Int) ≤ (o0.1 17).toInt ∧ (o0.1 17).toInt ≤ 1 := k_o0.1 17
  have g_o0_18 : (0 : Int) ≤ (o0.1 18).toInt ∧ (o0.1 18).toInt ≤ 1 := k_o0.1 18
  have g_o0_30 : (0 : Int) ≤ (o0.1 30).toInt ∧ (o0.1 30).toInt ≤ 4 := k_o0.1 30
  have g_o1_0 : (0 : Int) ≤ (o1.1 0).toInt ∧ (o1.1 0).toInt ≤ 200 := k_o1.1 0
  have g_o1_1 : ((-2147483648) : Int) ≤ (o1.1 1).toInt ∧ (o1.1 1).toInt ≤ 2147483647 := k_o1.1 1
  have g_o1_2 : (0 : Int) ≤ (o1.1 2).toInt ∧ (o1.1 2).toInt ≤ 0 := k_o1.1 2
  have g_o1_3 : (0 : Int) ≤ (o1.1 3).toInt ∧ (o1.1 3).toInt ≤ 0 := k_o1.1 3
  have g_o1_4 : (0 : Int) ≤ (o1.1 4).toInt ∧ (o1.1 4).toInt ≤ 0 := k_o1.1 4
  have g_o1_5 : (0 : Int) ≤ (o1.1 5).toInt ∧ (o1.1 5).toInt ≤ 0 := k_o1.1 5
  have g_o1_16 : (0 : Int) ≤ (o1.1 16).toInt ∧ (o1.1 16).toInt ≤ 0 := k_o1.1 16
  have g_o1_17 : (0 : Int) ≤ (o1.1 17).toInt ∧ (o1.1 17).toInt ≤ 0 := k_o1.1 17
  have g_o1_18 : (0 : Int) ≤ (o1.1 18).toInt ∧ (o1.1 18).toInt ≤ 0 := k_o1.1 18
  have g_o1_30 : (0 : Int) ≤ (o1.1 30).toInt ∧ (o1.1 30).toInt ≤ 0 := k_o1.1 30
  refine tt_if (fun c1 => ?_) (fun c1 => ?_)
  · have wc1 : (o0.1 17).toInt = (0 : Int) := c_eq c1
    have i2 : (0 : Int) ≤ (o0.1 17).toInt ∧ (o0.1 17).toInt ≤ 0 := nr_eql c1 (k_o0.1 17) (show (0 : Int) ≤ (0 : Int32).toInt ∧ (0 : Int32).toInt ≤ 0 by decide) (by decide) (by decide)
    have k3 := ok_fp (k := 30) (v := 2) k_o0 (iv_w (a := 0) (b := 4) (by decide) (by decide) (show (2 : Int) ≤ (2 : Int32).toInt ∧ (2 : Int32).toInt ≤ 2 by decide))
    have r4 := fr_fp (k := 30) (v := 2) r_o0 rfl
    exact tt_some ⟨k3, r4, (iv_w (a := 0) (b := 3) (by decide) (by decide) (show (2 : Int) ≤ (2 : Int32).toInt ∧ (2 : Int32).toInt ≤ 2 by decide)), x_0, (show 2 = 0 ∨ 2 = 2 ∨ 2 = 3 ∨ 2 = 1 by omega), trivial⟩
  · have wc1 : ¬ (o0.1 17).toInt = (0 : Int) := c_ne c1
    have i5 : (1 : Int) ≤ (o0.1 17).toInt ∧ (o0.1 17).toInt ≤ 1 := nr_nela c1 (k_o0.1 17) (show (0 : Int) ≤ (0 : Int32).toInt ∧ (0 : Int32).toInt ≤ 0 by decide) (by decide) (by decide)
    try unfold fF_cell_7
    refine tt_if (fun c6 => ?_) (fun c6 => ?_)
    · have wc6 : v1.toInt < (0 : Int) := c_lt c6
      have i7 : ((-2147483648) : Int) ≤ v1.toInt ∧ v1.toInt ≤ (-1) := nr_ltl c6 (iv_top v1) (show (0 : Int) ≤ (0 : Int32).toInt ∧ (0 : Int32).toInt ≤ 0 by decide) (by decide) (by decide)
      try unfold fF_cell_26
      try unfold fF_cell_27
      refine tt_if (fun c8 => ?_) (fun c8 => ?_)
      · have wc8 : (0 : Int) = (0 : Int) := c_eq c8
        have k9 := ok_fp (k := 30) (v := 3) k_o0 (iv_w (a := 0) (b := 4) (by decide) (by decide) (show (3 : Int) ≤ (3 : Int32).toInt ∧ (3 : Int32).toInt ≤ 3 by decide))
        have r10 := fr_fp (k := 30) (v := 3) r_o0 rfl
        exact tt_some ⟨k9, r10, (iv_w (a := 0) (b := 3) (by decide) (by decide) (show (3 : Int) ≤ (3 : Int32).toInt ∧ (3 : Int32).toInt ≤ 3 by decide)), x_0, (show 3 = 0 ∨ 3 = 2 ∨ 3 = 3 ∨ 3 = 1 by omega), trivial⟩
      · have wc8 : ¬ (0 : Int) = (0 : Int) := c_ne c8
        exact (dd_ne c8 (show (0 : Int) ≤ (0 : Int32).toInt ∧ (0 : Int32).toInt ≤ 0 by decide) (show (0 : Int) ≤ (0 : Int32).toInt ∧ (0 : Int32).toInt ≤ 0 by decide)).elim
    · have wc6 : (0 : Int) ≤ v1.toInt := c_nlt c6
      have i11 : (0 : Int) ≤ v1.toInt ∧ v1.toInt ≤ 2147483647 := nr_nltr c6 (show (0 : Int) ≤ (0 : Int32).toInt ∧ (0 : Int32).toInt ≤ 0 by decide) (iv_top v1) (by decide) (by decide)
      refine tt_if (fun c12 => ?_) (fun c12 => ?_)
      · have wc12 : (o1.1 0).toInt ≤ v1.toInt := c_le c12
        try unfold fF_cell_26
        try unfold fF_cell_27
        refine tt_if (fun c13 => ?_) (fun c13 => ?_)
        · have wc13 : (0 : Int) = (0 : Int) := c_eq c13
          have k14 := ok_fp (k := 30) (v := 3) k_o0 (iv_w (a := 0) (b := 4) (by decide) (by decide) (show (3 : Int) ≤ (3 : Int32).toInt ∧ (3 : Int32).toInt ≤ 3 by decide))
          have r15 := fr_fp (k := 30) (v := 3) r_o0 rfl
          exact tt_some ⟨k14, r15, (iv_w (a := 0) (b := 3) (by decide) (by decide) (show (3 : Int) ≤ (3 : Int32).toInt ∧ (3 : Int32).toInt ≤ 3 by decide)), x_0, (show 3 = 0 ∨ 3 = 2 ∨ 3 = 3 ∨ 3 = 1 by omega), trivial⟩
        · have wc13 : ¬ (0 : Int) = (0 : Int) := c_ne c13
          exact (dd_ne c13 (show (0 : Int) ≤ (0 : Int32).toInt ∧ (0 : Int32).toInt ≤ 0 by decide) (show (0 : Int) ≤ (0 : Int32).toInt ∧ (0 : Int32).toInt ≤ 0 by decide)).elim
      · have wc12 : v1.toInt < (o1.1 0).toInt := c_nle c12
        have i16 : (0 : Int) ≤ v1.toInt ∧ v1.toInt ≤ 199 := nr_nlel c12 i11 (k_o1.1 0) (by decide) (by decide)
        have i17 : (1 : Int) ≤ (o1.1 0).toInt ∧ (o1.1 0).toInt ≤ 200 := nr_nler c12 i11 (k_o1.1 0) (by decide) (by decide)
        try unfold fF_cell_27
        refine tt_if (fun c18 => ?_) (fun c18 => ?_)
        · have wc18 : (1 : Int) = (0 : Int) := c_eq c18
          exact (dd_eq c18 (show (1 : Int) ≤ (1 : Int32).toInt ∧ (1 : Int32).toInt ≤ 1 by decide) (show (0 : Int) ≤ (0 : Int32).toInt ∧ (0 : Int32).toInt ≤ 0 by decide) (by decide)).elim
        · have wc18 : ¬ (1 : Int) = (0 : Int) := c_ne c18
          try unfold fF_cell_30
          refine tt_if (fun c19 => ?_) (fun c19 => ?_)
          · have wc19 : (0 : Int) ≤ v2.toInt := c_le c19
            have i20 : (0 : Int) ≤ v2.toInt ∧ v2.toInt ≤ 2147483647 := nr_ler c19 (show (0 : Int) ≤ (0 : Int32).toInt ∧ (0 : Int32).toInt ≤ 0 by decide) (iv_top v2) (by decide) (by decide)
            refine tt_b (sCv_cutOf _ _ k_o1 i16 i17) (fun q21 hq21 => ?_)
            obtain ⟨zq21_0, -⟩ := hq21
            try unfold fF_cell_50
            refine tt_if (fun c22 => ?_) (fun c22 => ?_)
            · have wc22 : v2.toInt = (0 : Int) := c_eq c22
              have i23 : (0 : Int) ≤ v2.toInt ∧ v2.toInt ≤ 0 := nr_eql c22 i20 (show (0 : Int) ≤ (0 : Int32).toInt ∧ (0 : Int32).toInt ≤ 0 by decide) (by decide) (by decide)
              refine tt_n (ix_ok i16 (by decide) (by decide)) ?_
              refine tt_kv (P := fun z => ((0 : Int) ≤ z.toInt ∧ z.toInt ≤ 208) ∧ z.toInt = (o1.2.1 2 v1.toNatClampNeg).toInt) ⟨(k_o1.2 2 _), rfl⟩ (fun x24 qi25 => ?_)
              obtain ⟨i25, ei25⟩ := qi25
              have k26 := ok_fp (k := 30) (v := 0) k_o0 (iv_w (a := 0) (b := 4) (by decide) (by decide) (show (0 : Int) ≤ (0 : Int32).toInt ∧ (0 : Int32).toInt ≤ 0 by decide))
              have r27 := fr_fp (k := 30) (v := 0) r_o0 rfl
              exact tt_some ⟨k26, r27, (iv_w (a := 0) (b := 3) (by decide) (by decide) (show (0 : Int) ≤ (0 : Int32).toInt ∧ (0 : Int32).toInt ≤ 0 by decide)), x_0, (show 0 = 0 ∨ 0 = 2 ∨ 0 = 3 ∨ 0 = 1 by omega), trivial⟩
            · have wc22 : ¬ v2.toInt = (0 : Int) := c_ne c22
              have i28 : (1 : Int) ≤ v2.toInt ∧ v2.toInt ≤ 2147483647 := nr_nela c22 i20 (show (0 : Int) ≤ (0 : Int32).toInt ∧ (0 : Int32).toInt ≤ 0 by decide) (by decide) (by decide)
              refine tt_if (fun c29 => ?_) (fun c29 => ?_)
              · have wc29 : v2.toInt = (1 : Int) := c_eq c29
                have i30 : (1 : Int) ≤ v2.toInt ∧ v2.toInt ≤ 1 := nr_eql c29 i28 (show (1 : Int) ≤ (1 : Int32).toInt ∧ (1 : Int32).toInt ≤ 1 by decide) (by decide) (by decide)
                refine tt_b (sCu_sizeOf _ ) (fun q31 hq31 => ?_)
                obtain ⟨i_q31, zq31_0, zq31_1, -⟩ := hq31
                try unfold fF_cell_98
                have k32 := ok_fp (k := 30) (v := 0) k_o0 (iv_w (a := 0) (b := 4) (by decide) (by decide) (show (0 : Int) ≤ (0 : Int32).toInt ∧ (0 : Int32).toInt ≤ 0 by decide))
                have r33 := fr_fp (k := 30) (v := 0) r_o0 rfl
                exact tt_some ⟨k32, r33, (iv_w (a := 0) (b := 3) (by decide) (by decide) (show (0 : Int) ≤ (0 : Int32).toInt ∧ (0 : Int32).toInt ≤ 0 by decide)), x_0, (show 0 = 0 ∨ 0 = 2 ∨ 0 = 3 ∨ 0 = 1 by omega), trivial⟩
              · have wc29 : ¬ v2.toInt = (1 : Int) := c_ne c29
                have i34 : (2 : Int) ≤ v2.toInt ∧ v2.toInt ≤ 2147483647 := nr_nela c29 i28 (show (1 : Int) ≤ (1 : Int32).toInt ∧ (1 : Int32).toInt ≤ 1 by decide) (by decide) (by decide)
                refine tt_if (fun c35 => ?_) (fun c35 => ?_)
                · have wc35 : v2.toInt = (2 : Int) := c_eq c35
                  have i36 : (2 : Int) ≤ v2.toInt ∧ v2.toInt ≤ 2 := nr_eql c35 i34 (show (2 : Int) ≤ (2 : Int32).toInt ∧ (2 : Int32).toInt ≤ 2 by decide) (by decide) (by decide)
                  refine tt_n (ix_ok i16 (by decide) (by decide)) ?_
                  refine tt_kv (P := fun z => (((-2147483648) : Int) ≤ z.toInt ∧ z.toInt ≤ 2147483647) ∧ z.toInt = (o1.2.1 3 v1.toNatClampNeg).toInt) ⟨(k_o1.2 3 _), rfl⟩ (fun x37 qi38 => ?_)
                  obtain ⟨i38, ei38⟩ := qi38
                  have k39 := ok_fp (k := 30) (v := 0) k_o0 (iv_w (a := 0) (b := 4) (by decide) (by decide) (show (0 : Int) ≤ (0 : Int32).toInt ∧ (0 : Int32).toInt ≤ 0 by decide))
                  have r40 := fr_fp (k := 30) (v := 0) r_o0 rfl
                  exact tt_some ⟨k39, r40, (iv_w (a := 0) (b := 3) (by decide) (by decide) (show (0 : Int) ≤ (0 : Int32).toInt ∧ (0 : Int32).toInt ≤ 0 by decide)), x_0, (show 0 = 0 ∨ 0 = 2 ∨ 0 = 3 ∨ 0 = 1 by omega), trivial⟩
                · have wc35 : ¬ v2.toInt = (2 : Int) := c_ne c35
                  have i41 : (3 : Int) ≤ v2.toInt ∧ v2.toInt ≤ 2147483647 := nr_nela c35 i34 (show (2 : Int) ≤ (2 : Int32).toInt ∧ (2 : Int32).toInt ≤ 2 by decide) (by decide) (by decide)
                  refine tt_if (fun c42 => ?_) (fun c42 => ?_)
                  · have wc42 : v2.toInt = (3 : Int) := c_eq c42
                    have i43 : (3 : Int) ≤ v2.toInt ∧ v2.toInt ≤ 3 := nr_eql c42 i41 (show (3 : Int) ≤ (3 : Int32).toInt ∧ (3 : Int32).toInt ≤ 3 by decide) (by decide) (by decide)
                    refine tt_n (ix_ok i16 (by decide) (by decide)) ?_
                    refine tt_kv (P := fun z => (((-2147483648) : Int) ≤ z.toInt ∧ z.toInt ≤ 2147483647) ∧ z.toInt = (o1.2.1 4 v1.toNatClampNeg).toInt) ⟨(k_o1.2 4 _), rfl⟩ (fun x44 qi45 => ?_)
                    obtain ⟨i45, ei45⟩ := qi45
                    have k46 := ok_fp (k := 30) (v := 0) k_o0 (iv_w (a := 0) (b := 4) (by decide) (by decide) (show (0 : Int) ≤ (0 : Int32).toInt ∧ (0 : Int32).toInt ≤ 0 by decide))
                    have r47 := fr_fp (k := 30) (v := 0) r_o0 rfl
                    exact tt_some ⟨k46, r47, (iv_w (a := 0) (b := 3) (by decide) (by decide) (show (0 : Int) ≤ (0 : Int32).toInt ∧ (0 : Int32).toInt ≤ 0 by decide)), x_0, (show 0 = 0 ∨ 0 = 2 ∨ 0 = 3 ∨ 0 = 1 by omega), trivial⟩
                  · have wc42 : ¬ v2.toInt = (3 : Int) := c_ne c42
                    have i48 : (4 : Int) ≤ v2.toInt ∧ v2.toInt ≤ 2147483647 := nr_nela c42 i41 (show (3 : Int) ≤ (3 : Int32).toInt ∧ (3 : Int32).toInt ≤ 3 by decide) (by decide) (by decide)
                    refine tt_kv (P := fun z => ((0 : Int) ≤ z.toInt ∧ z.toInt ≤ 2147483643) ∧ z.toInt = v2.toInt - 4) ⟨iv_sub i48 (show (4 : Int) ≤ (4 : Int32).toInt ∧ (4 : Int32).toInt ≤ 4 by decide) (by decide) (by decide) (by decide) (by decide), iq_sub i48 (show (4 : Int) ≤ (4 : Int32).toInt ∧ (4 : Int32).toInt ≤ 4 by decide) (by decide) (by decide)⟩ (fun x49 qi50 => ?_)
                    obtain ⟨i50, ei50⟩ := qi50
                    refine tt_b (sCu_sizeOf _ ) (fun q51 hq51 => ?_)
                    obtain ⟨i_q51, zq51_0, zq51_1, -⟩ := hq51
                    try unfold fF_cell_126
                    refine tt_if (fun c52 => ?_) (fun c52 => ?_)
                    · have wc52 : q51.toInt ≤ x49.toInt := c_le c52
                      try unfold fF_cell_134
                      refine tt_if (fun c53 => ?_) (fun c53 => ?_)
                      · have wc53 : (0 : Int) = (0 : Int) := c_eq c53
                        have k54 := ok_fp (k := 30) (v := 3) k_o0 (iv_w (a := 0) (b := 4) (by decide) (by decide) (show (3 : Int) ≤ (3 : Int32).toInt ∧ (3 : Int32).toInt ≤ 3 by decide))
                        have r55 := fr_fp (k := 30) (v := 3) r_o0 rfl
                        exact tt_some ⟨k54, r55, (iv_w (a := 0) (b := 3) (by decide) (by decide) (show (3 : Int) ≤ (3 : Int32).toInt ∧ (3 : Int32).toInt ≤ 3 by decide)), x_0, (show 3 = 0 ∨ 3 = 2 ∨ 3 = 3 ∨ 3 = 1 by omega), trivial⟩
                      · have wc53 : ¬ (0 : Int) = (0 : Int) := c_ne c53
                        exact (dd_ne c53 (show (0 : Int) ≤ (0 : Int32).toInt ∧ (0 : Int32).toInt ≤ 0 by decide) (show (0 : Int) ≤ (0 : Int32).toInt ∧ (0 : Int32).toInt ≤ 0 by decide)).elim
                    · have wc52 : x49.toInt < q51.toInt := c_nle c52
                      have i56 : (0 : Int) ≤ x49.toInt ∧ x49.toInt ≤ 7 := nr_nlel c52 i50 i_q51 (by decide) (by decide)
                      have i57 : (4 : Int) ≤ v2.toInt ∧ v2.toInt ≤ 11 := by omega
                      have i58 : (1 : Int) ≤ q51.toInt ∧ q51.toInt ≤ 8 := nr_nler c52 i50 i_q51 (by decide) (by decide)
                      try unfold fF_cell_134
                      refine tt_if (fun c59 => ?_) (fun c59 => ?_)
                      · have wc59 : (1 : Int) = (0 : Int) := c_eq c59
                        exact (dd_eq c59 (show (1 : Int) ≤ (1 : Int32).toInt ∧ (1 : Int32).toInt ≤ 1 by decide) (show (0 : Int) ≤ (0 : Int32).toInt ∧ (0 : Int32).toInt ≤ 0 by decide) (by decide)).elim
                      · have wc59 : ¬ (1 : Int) = (0 : Int) := c_ne c59
                        try unfold fF_cell_137
                        refine tt_kv (P := fun z => ((0 : Int) ≤ z.toInt ∧ z.toInt ≤ 7) ∧ z.toInt = v2.toInt - 4) ⟨iv_sub i57 (show (4 : Int) ≤ (4 : Int32).toInt ∧ (4 : Int32).toInt ≤ 4 by decide) (by decide) (by decide) (by decide) (by decide), iq_sub i57 (show (4 : Int) ≤ (4 : Int32).toInt ∧ (4 : Int32).toInt ≤ 4 by decide) (by decide) (by decide)⟩ (fun x60 qi61 => ?_)
                        obtain ⟨i61, ei61⟩ := qi61
                        refine tt_b (sCu_nodeAt _ _ i61) (fun q62 hq62 => ?_)
                        obtain ⟨i_q62, -⟩ := hq62
                        try unfold fF_cell_144
                        have k63 := ok_fp (k := 30) (v := 0) k_o0 (iv_w (a := 0) (b := 4) (by decide) (by decide) (show (0 : Int) ≤ (0 : Int32).toInt ∧ (0 : Int32).toInt ≤ 0 by decide))
                        have r64 := fr_fp (k := 30) (v := 0) r_o0 rfl
                        exact tt_some ⟨k63, r64, (iv_w (a := 0) (b := 3) (by decide) (by decide) (show (0 : Int) ≤ (0 : Int32).toInt ∧ (0 : Int32).toInt ≤ 0 by decide)), x_0, (show 0 = 0 ∨ 0 = 2 ∨ 0 = 3 ∨ 0 = 1 by omega), trivial⟩
          · have wc19 : v2.toInt < (0 : Int) := c_nle c19
            have i65 : ((-2147483648) : Int) ≤ v2.toInt ∧ v2.toInt ≤ (-1) := nr_nlel c19 (iv_top v2) (show (0 : Int) ≤ (0 : Int32).toInt ∧ (0 : Int32).toInt ≤ 0 by decide) (by decide) (by decide)
            have k66 := ok_fp (k := 30) (v := 1) k_o0 (iv_w (a := 0) (b := 4) (by decide) (by decide) (show (1 : Int) ≤ (1 : Int32).toInt ∧ (1 : Int32).toInt ≤ 1 by decide))
            have r67 := fr_fp (k := 30) (v := 1) r_o0 rfl
            exact tt_some ⟨k66, r67, (iv_w (a := 0) (b := 3) (by decide) (by decide) (show (1 : Int) ≤ (1 : Int32).toInt ∧ (1 : Int32).toInt ≤ 1 by decide)), x_0, (show 1 = 0 ∨ 1 = 2 ∨ 1 = 3 ∨ 1 = 1 by omega), trivial⟩
def QF_sign (v1 : Int32) (o0 : cf_O) (o1 : cf_O) (o2 : cf_O) (o3 : cf_O) (o4 : cf_O) (o5 : cf_O) (r : (Int32 × cf_O × cf_O × cf_O)) : Prop := (((-1) : Int) ≤ r.1.toInt ∧ r.1.toInt ≤ 255) ∧ (okO I_F r.2.1) ∧ (Fr (fr_M [30] [] []) o0 r.2.1) ∧ ((0 : Int) ≤ (r.2.1.1 30).toInt ∧ (r.2.1.1 30).toInt ≤ 3) ∧ (okO I_Sc r.2.2.1) ∧ (Fr (fr_M [0] [] []) o2 r.2.2.1) ∧ (okO I_SB r.2.2.2) ∧ (Fr (fr_M [0, 2, 3] [0] []) o5 r.2.2.2) ∧ (Hct (r.2.1.1 17).toInt (o1.1 0).toInt (o1.2.1 2) (o1.2.2 5)) ∧ ((r.2.2.2.1 3).toInt ≤ (r.2.2.2.1 0).toInt) ∧ ((r.2.1.1 30).toInt = 0 ∨ (r.2.1.1 30).toInt = 2 ∨ (r.2.1.1 30).toInt = 3) ∧ True
set_option maxHeartbeats 4000000 in
set_option maxRecDepth 100000 in
theorem sF_sign (v1 : Int32) (o0 : cf_O) (o1 : cf_O) (o2 : cf_O) (o3 : cf_O) (o4 : cf_O) (o5 : cf_O) (k_o0 : okO I_F o0) (k_o1 : okO I_Cv o1) (k_o2 : okO I_Sc o2) (k_o3 : okO I_Nl o3) (k_o4 : okO I_Gr o4) (k_o5 : okO I_SB o5) (x_0 : Gx ((o4.1 0).toInt + 1) (o4.1 2).toInt (sh ((o4.1 0).toInt + 1) (o4.2.1 4)) (sh ((o4.1 0).toInt + 1) (o4.2.1 5))) (x_1 : No (o4.1 1).toInt (((o4.1 0).toInt + 1) + (o4.1 2).toInt) (o4.2.1 7)) (x_2 : Hct (o0.1 17).toInt (o1.1 0).toInt (o1.2.1 2) (o1.2.2 5)) (x_3 : Rwo (o3.2.1 12)) (x_4 : (o5.1 3).toInt ≤ (o5.1 0).toInt) : tt (fF_sign v1 o0 o1 o2 o3 o4 o5) (QF_sign v1 o0 o1 o2 o3 o4 o5) := by
  have r_o0 : Fr (fr_M [30] [] []) o0 o0 := fr_rfl
  have r_o1 : Fr (fr_M [] [] []) o1 o1 := fr_rfl
  have r_o2 : Fr (fr_M [0] [] []) o2 o2 := fr_rfl
  have r_o3 : Fr (fr_M [] [] []) o3 o3 := fr_rfl
  have r_o4 : Fr (fr_M [] [] []) o4 o4 := fr_rfl
  have r_o5 : Fr (fr_M [0, 2, 3] [0] []) o5 o5 := fr_rfl
  unfold fF_sign fF_sign_0
  have i_v1 := iv_top v1
  have g_o0_0 : (0 : Int) ≤ (o0.1 0).toInt ∧ (o0.1 0).toInt ≤ 0 := k_o0.1 0
  have g_o0_1 : (0 : Int) ≤ (o0.1 1).toInt ∧ (o0.1 1).toInt ≤ 0 := k_o0.1 1
  have g_o0_2 : (0 : Int) ≤ (o0.1 2).toInt ∧ (o0.1 2).toInt ≤ 0 := k_o0.1 2
  have g_o0_3 : (0 : Int) ≤ (o0.1 3).toInt ∧ (o0.1 3).toInt ≤ 0 := k_o0.1 3
  have g_o0_4 : (0 : Int) ≤ (o0.1 4).toInt ∧ (o0.1 4).toInt ≤ 0 := k_o0.1 4
  have g_o0_5 : (0 : Int) ≤ (o0.1 5).toInt ∧ (o0.1 5).toInt ≤ 0 := k_o0.1 5
  have g_o0_16 : (0 : Int) ≤ (o0.1 16).toInt ∧ (o0.1 16).toInt ≤ 1 := k_o0.1 16
  have g_o0_17 : (0 : Int) ≤ (o0.1 17).toInt ∧ (o0.1 17).toInt ≤ 1 := k_o0.1 17
  have g_o0_18 : (0 : Int) ≤ (o0.1 18).toInt ∧ (o0.1 18).toInt ≤ 1 := k_o0.1 18
  have g_o0_30 : (0 : Int) ≤ (o0.1 30).toInt ∧ (o0.1 30).toInt ≤ 4 := k_o0.1 30
  have g_o1_0 : (0 : Int) ≤ (o1.1 0).toInt ∧ (o1.1 0).toInt ≤ 200 := k_o1.1 0
  have g_o1_1 : ((-2147483648) : Int) ≤ (o1.1 1).toInt ∧ (o1.1 1).toInt ≤ 2147483647 := k_o1.1 1
  have g_o1_2 : (0 : Int) ≤ (o1.1 2).toInt ∧ (o1.1 2).toInt ≤ 0 := k_o1.1 2
  have g_o1_3 : (0 : Int) ≤ (o1.1 3).toInt ∧ (o1.1 3).toInt ≤ 0 := k_o1.1 3
  have g_o1_4 : (0 : Int) ≤ (o1.1 4).toInt ∧ (o1.1 4).toInt ≤ 0 := k_o1.1 4
  have g_o1_5 : (0 : Int) ≤ (o1.1 5).toInt ∧ (o1.1 5).toInt ≤ 0 := k_o1.1 5
  have g_o1_16 : (0 : Int) ≤ (o1.1 16).toInt ∧ (o1.1 16).toInt ≤ 0 := k_o1.1 16
  have g_o1_17 : (0 : Int) ≤ (o1.1 17).toInt ∧ (o1.1 17).toInt ≤ 0 := k_o1.1 17
  have g_o1_18 : (0 : Int) ≤ (o1.1 18).toInt ∧ (o1.1 18).toInt ≤ 0 := k_o1.1 18
  have g_o1_30 : (0 : Int) ≤ (o1.1 30).toInt ∧ (o1.1 30).toInt ≤ 0 := k_o1.1 30
  have g_o2_0 : (0 : Int) ≤ (o2.1 0).toInt ∧ (o2.1 0).toInt ≤ 1 := k_o2.1 0
  have g_o2_1 : (0 : Int) ≤ (o2.1 1).toInt ∧ (o2.1 1).toInt ≤ 0 := k_o2.1 1
  have g_o2_2 : (0 : Int) ≤ (o2.1 2).toInt ∧ (o2.1 2).toInt ≤ 0 := k_o2.1 2
  have g_o2_3 : (0 : Int) ≤ (o2.1 3).toInt ∧ (o2.1 3).toInt ≤ 0 := k_o2.1 3
  have g_o2_4 : (0 : Int) ≤ (o2.1 4).toInt ∧ (o2.1 4).toInt ≤ 0 := k_o2.1 4
  have g_o2_5 : (0 : Int) ≤ (o2.1 5).toInt ∧ (o2.1 5).toInt ≤ 0 := k_o2.1 5
  have g_o2_16 : (0 : Int) ≤ (o2.1 16).toInt ∧ (o2.1 16).toInt ≤ 0 := k_o2.1 16
  have g_o2_17 : (0 : Int) ≤ (o2.1 17).toInt ∧ (o2.1 17).toInt ≤ 0 := k_o2.1 17
  have g_o2_18 : (0 : Int) ≤ (o2.1 18).toInt ∧ (o2.1 18).toInt ≤ 0 := k_o2.1 18
  have g_o2_30 : (0 : Int) ≤ (o2.1 30).toInt ∧ (o2.1 30).toInt ≤ 0 := k_o2.1 30
  have g_o3_0 : (0 : Int) ≤ (o3.1 0).toInt ∧ (o3.1 0).toInt ≤ 8 := k_o3.1 0
  have g_o3_1 : (0 : Int) ≤ (o3.1 1).toInt ∧ (o3.1 1).toInt ≤ 6 := k_o3.1 1
  have g_o3_2 : ((-2147483648) : Int) ≤ (o3.1 2).toInt ∧ (o3.1 2).toInt ≤ 2147483647 := k_o3.1 2
  have g_o3_3 : (0 : Int) ≤ (o3.1 3).toInt ∧ (o3.1 3).toInt ≤ 0 := k_o3.1 3
  have g_o3_4 : (0 : Int) ≤ (o3.1 4).toInt ∧ (o3.1 4).toInt ≤ 0 := k_o3.1 4
  have g_o3_5 : (0 : Int) ≤ (o3.1 5).toInt ∧ (o3.1 5).toInt ≤ 2147483647 := k_o3.1 5
  have g_o3_16 : (0 : Int) ≤ (o3.1 16).toInt ∧ (o3.1 16).toInt ≤ 0 := k_o3.1 16
  have g_o3_17 : (0 : Int) ≤ (o3.1 17).toInt ∧ (o3.1 17).toInt ≤ 0 := k_o3.1 17
  have g_o3_18 : (0 : Int) ≤ (o3.1 18).toInt ∧ (o3.1 18).toInt ≤ 0 := k_o3.1 18
  have g_o3_30 : (0 : Int) ≤ (o3.1 30).toInt ∧ (o3.1 30).toInt ≤ 0 := k_o3.1 30
  have g_o4_0 : (0 : Int) ≤ (o4.1 0).toInt ∧ (o4.1 0).toInt ≤ 8 := k_o4.1 0
  have g_o4_1 : (0 : Int) ≤ (o4.1 1).toInt ∧ (o4.1 1).toInt ≤ 6 := k_o4.1 1
  have g_o4_2 : (0 : Int) ≤ (o4.1 2).toInt ∧ (o4.1 2).toInt ≤ 200 := k_o4.1 2
  have g_o4_3 : (0 : Int) ≤ (o4.1 3).toInt ∧ (o4.1 3).toInt ≤ 1 := k_o4.1 3
  have g_o4_4 : (0 : Int) ≤ (o4.1 4).toInt ∧ (o4.1 4).toInt ≤ 0 := k_o4.1 4
  have g_o4_5 : (0 : Int) ≤ (o4.1 5).toInt ∧ (o4.1 5).toInt ≤ 0 := k_o4.1 5
  have g_o4_16 : (0 : Int) ≤ (o4.1 16).toInt ∧ (o4.1 16).toInt ≤ 0 := k_o4.1 16
  have g_o4_17 : (0 : Int) ≤ (o4.1 17).toInt ∧ (o4.1 17).toInt ≤ 0 := k_o4.1 17
  have g_o4_18 : (0 : Int) ≤ (o4.1 18).toInt ∧ (o4.1 18).toInt ≤ 0 := k_o4.1 18
  have g_o4_30 : (0 : Int) ≤ (o4.1 30).toInt ∧ (o4.1 30).toInt ≤ 0 := k_o4.1 30
  have g_o5_0 : (16 : Int) ≤ (o5.1 0).toInt ∧ (o5.1 0).toInt ≤ 400000 := k_o5.1 0
  have g_o5_1 : (0 : Int) ≤ (o5.1 1).toInt ∧ (o5.1 1).toInt ≤ 0 := k_o5.1 1
  have g_o5_2 : (0 : Int) ≤ (o5.1 2).toInt ∧ (o5.1 2).toInt ≤ 1 := k_o5.1 2
  have g_o5_3 : (0 : Int) ≤ (o5.1 3).toInt ∧ (o5.1 3).toInt ≤ 90000 := k_o5.1 3
  have g_o5_4 : (0 : Int) ≤ (o5.1 4).toInt ∧ (o5.1 4).toInt ≤ 0 := k_o5.1 4
  have g_o5_5 : (0 : Int) ≤ (o5.1 5).toInt ∧ (o5.1 5).toInt ≤ 0 := k_o5.1 5
  have g_o5_16 : (0 : Int) ≤ (o5.1 16).toInt ∧ (o5.1 16).toInt ≤ 0 := k_o5.1 16
  have g_o5_17 : (0 : Int) ≤ (o5.1 17).toInt ∧ (o5.1 17).toInt ≤ 0 := k_o5.1 17
  have g_o5_18 : (0 : Int) ≤ (o5.1 18).toInt ∧ (o5.1 18).toInt ≤ 0 := k_o5.1 18
  have g_o5_30 : (0 : Int) ≤ (o5.1 30).toInt ∧ (o5.1 30).toInt ≤ 0 := k_o5.1 30
  refine tt_if (fun c1 => ?_) (fun c1 => ?_)
  · have wc1 : (o0.1 17).toInt = (0 : Int) := c_eq c1
    have i2 : (0 : Int) ≤ (o0.1 17).toInt ∧ (o0.1 17).toInt ≤ 0 := nr_eql c1 (k_o0.1 17) (show (0 : Int) ≤ (0 : Int32).toInt ∧ (0 : Int32).toInt ≤ 0 by decide) (by decide) (by decide)
    have k3 := ok_fp (k := 30) (v := 2) k_o0 (iv_w (a := 0) (b := 4) (by decide) (by decide) (show (2 : Int) ≤ (2 : Int32).toInt ∧ (2 : Int32).toInt ≤ 2 by decide))
    have r4 := fr_fp (k := 30) (v := 2) r_o0 rfl
    exact tt_some ⟨(iv_w (a := (-1)) (b := 255) (by decide) (by decide) (show (0 : Int) ≤ (0 : Int32).toInt ∧ (0 : Int32).toInt ≤ 0 by decide)), k3, r4, (iv_w (a := 0) (b := 3) (by decide) (by decide) (show (2 : Int) ≤ (2 : Int32).toInt ∧ (2 : Int32).toInt ≤ 2 by decide)), k_o2, r_o2, k_o5, r_o5, x_2, (show (o5.1 3).toInt ≤ (o5.1 0).toInt by omega), (show 2 = 0 ∨ 2 = 2 ∨ 2 = 3 by omega), trivial⟩
  · have wc1 : ¬ (o0.1 17).toInt = (0 : Int) := c_ne c1
    have i5 : (1 : Int) ≤ (o0.1 17).toInt ∧ (o0.1 17).toInt ≤ 1 := nr_nela c1 (k_o0.1 17) (show (0 : Int) ≤ (0 : Int32).toInt ∧ (0 : Int32).toInt ≤ 0 by decide) (by decide) (by decide)
    try unfold fF_sign_7
    refine tt_if (fun c6 => ?_) (fun c6 => ?_)
    · have wc6 : v1.toInt < (0 : Int) := c_lt c6
      have i7 : ((-2147483648) : Int) ≤ v1.toInt ∧ v1.toInt ≤ (-1) := nr_ltl c6 (iv_top v1) (show (0 : Int) ≤ (0 : Int32).toInt ∧ (0 : Int32).toInt ≤ 0 by decide) (by decide) (by decide)
      try unfold fF_sign_16
      refine tt_if (fun c8 => ?_) (fun c8 => ?_)
      · have wc8 : (0 : Int) = (0 : Int) := c_eq c8
        have k9 := ok_fp (k := 30) (v := 3) k_o0 (iv_w (a := 0) (b := 4) (by decide) (by decide) (show (3 : Int) ≤ (3 : Int32).toInt ∧ (3 : Int32).toInt ≤ 3 by decide))
        have r10 := fr_fp (k := 30) (v := 3) r_o0 rfl
        exact tt_some ⟨(iv_w (a := (-1)) (b := 255) (by decide) (by decide) (show (0 : Int) ≤ (0 : Int32).toInt ∧ (0 : Int32).toInt ≤ 0 by decide)), k9, r10, (iv_w (a := 0) (b := 3) (by decide) (by decide) (show (3 : Int) ≤ (3 : Int32).toInt ∧ (3 : Int32).toInt ≤ 3 by decide)), k_o2, r_o2, k_o5, r_o5, x_2, (show (o5.1 3).toInt ≤ (o5.1 0).toInt by omega), (show 3 = 0 ∨ 3 = 2 ∨ 3 = 3 by omega), trivial⟩
      · have wc8 : ¬ (0 : Int) = (0 : Int) := c_ne c8
        exact (dd_ne c8 (show (0 : Int) ≤ (0 : Int32).toInt ∧ (0 : Int32).toInt ≤ 0 by decide) (show (0 : Int) ≤ (0 : Int32).toInt ∧ (0 : Int32).toInt ≤ 0 by decide)).elim
    · have wc6 : (0 : Int) ≤ v1.toInt := c_nlt c6
      have i11 : (0 : Int) ≤ v1.toInt ∧ v1.toInt ≤ 2147483647 := nr_nltr c6 (show (0 : Int) ≤ (0 : Int32).toInt ∧ (0 : Int32).toInt ≤ 0 by decide) (iv_top v1) (by decide) (by decide)
      try unfold fF_sign_16
      refine tt_if (fun c12 => ?_) (fun c12 => ?_)
      · have wc12 : (1 : Int) = (0 : Int) := c_eq c12
        exact (dd_eq c12 (show (1 : Int) ≤ (1 : Int32).toInt ∧ (1 : Int32).toInt ≤ 1 by decide) (show (0 : Int) ≤ (0 : Int32).toInt ∧ (0 : Int32).toInt ≤ 0 by decide) (by decide)).elim
      · have wc12 : ¬ (1 : Int) = (0 : Int) := c_ne c12
        try unfold fF_sign_19
        refine tt_if (fun c13 => ?_) (fun c13 => ?_)
        · have wc13 : (o2.1 0).toInt = (0 : Int) := c_eq c13
          have i14 : (0 : Int) ≤ (o2.1 0).toInt ∧ (o2.1 0).toInt ≤ 0 := nr_eql c13 (k_o2.1 0) (show (0 : Int) ≤ (0 : Int32).toInt ∧ (0 : Int32).toInt ≤ 0 by decide) (by decide) (by decide)
          have p15 : Ctk (o1.1 0).toInt (o1.2.1 2) (o1.2.2 5) := by exact Hct_k (by assumption) (by omega)
          refine tt_b (sCv_writeTo _ _ _ _ _ k_o1 k_o2 k_o3 k_o4 k_o5 i14 p15 (show (o5.1 3).toInt ≤ (o5.1 0).toInt by omega)) (fun q16 hq16 => ?_)
          obtain ⟨k_q16_1, n_q16_1, f_q16_1_0, k_q16_2, n_q16_2, f_q16_2_3, zq16_0, -⟩ := hq16
          have r_q16_1 := fr_tr r_o2 n_q16_1 rfl rfl rfl
          have e_q16_1_1 : (q16.1.1 1).toInt = (o2.1 1).toInt := congrArg Int32.toInt (n_q16_1.1 1 rfl)
          have g_q16_1_1 : (0 : Int) ≤ (q16.1.1 1).toInt ∧ (q16.1.1 1).toInt ≤ 0 := k_q16_1.1 1
          have e_q16_1_2 : (q16.1.1 2).toInt = (o2.1 2).toInt := congrArg Int32.toInt (n_q16_1.1 2 rfl)
          have g_q16_1_2 : (0 : Int) ≤ (q16.1.1 2).toInt ∧ (q16.1.1 2).toInt ≤ 0 := k_q16_1.1 2
          have e_q16_1_3 : (q16.1.1 3).toInt = (o2.1 3).toInt := congrArg Int32.toInt (n_q16_1.1 3 rfl)
          have g_q16_1_3 : (0 : Int) ≤ (q16.1.1 3).toInt ∧ (q16.1.1 3).toInt ≤ 0 := k_q16_1.1 3
          have e_q16_1_4 : (q16.1.1 4).toInt = (o2.1 4).toInt := congrArg Int32.toInt (n_q16_1.1 4 rfl)
          have g_q16_1_4 : (0 : Int) ≤ (q16.1.1 4).toInt ∧ (q16.1.1 4).toInt ≤ 0 := k_q16_1.1 4
          have e_q16_1_5 : (q16.1.1 5).toInt = (o2.1 5).toInt := congrArg Int32.toInt (n_q16_1.1 5 rfl)
          have g_q16_1_5 : (0 : Int) ≤ (q16.1.1 5).toInt ∧ (q16.1.1 5).toInt ≤ 0 := k_q16_1.1 5
          have e_q16_1_16 : (q16.1.1 16).toInt = (o2.1 16).toInt := congrArg Int32.toInt (n_q16_1.1 16 rfl)
          have g_q16_1_16 : (0 : Int) ≤ (q16.1.1 16).toInt ∧ (q16.1.1 16).toInt ≤ 0 := k_q16_1.1 16
          have e_q16_1_17 : (q16.1.1 17).toInt = (o2.1 17).toInt := congrArg Int32.toInt (n_q16_1.1 17 rfl)
          have g_q16_1_17 : (0 : Int) ≤ (q16.1.1 17).toInt ∧ (q16.1.1 17).toInt ≤ 0 := k_q16_1.1 17
          have e_q16_1_18 : (q16.1.1 18).toInt = (o2.1 18).toInt := congrArg Int32.toInt (n_q16_1.1 18 rfl)
          have g_q16_1_18 : (0 : Int) ≤ (q16.1.1 18).toInt ∧ (q16.1.1 18).toInt ≤ 0 := k_q16_1.1 18
          have e_q16_1_30 : (q16.1.1 30).toInt = (o2.1 30).toInt := congrArg Int32.toInt (n_q16_1.1 30 rfl)
          have g_q16_1_30 : (0 : Int) ≤ (q16.1.1 30).toInt ∧ (q16.1.1 30).toInt ≤ 0 := k_q16_1.1 30
          have r_q16_2 := fr_tr r_o5 n_q16_2 rfl rfl rfl
          have g_q16_2_0 : (16 : Int) ≤ (q16.2.1 0).toInt ∧ (q16.2.1 0).toInt ≤ 400000 := k_q16_2.1 0
          have e_q16_2_1 : (q16.2.1 1).toInt = (o5.1 1).toInt := congrArg Int32.toInt (n_q16_2.1 1 rfl)
          have g_q16_2_1 : (0 : Int) ≤ (q16.2.1 1).toInt ∧ (q16.2.1 1).toInt ≤ 0 := k_q16_2.1 1
          have g_q16_2_2 : (0 : Int) ≤ (q16.2.1 2).toInt ∧ (q16.2.1 2).toInt ≤ 1 := k_q16_2.1 2
          have e_q16_2_4 : (q16.2.1 4).toInt = (o5.1 4).toInt := congrArg Int32.toInt (n_q16_2.1 4 rfl)
          have g_q16_2_4 : (0 : Int) ≤ (q16.2.1 4).toInt ∧ (q16.2.1 4).toInt ≤ 0 := k_q16_2.1 4
          have e_q16_2_5 : (q16.2.1 5).toInt = (o5.1 5).toInt := congrArg Int32.toInt (n_q16_2.1 5 rfl)
          have g_q16_2_5 : (0 : Int) ≤ (q16.2.1 5).toInt ∧ (q16.2.1 5).toInt ≤ 0 := k_q16_2.1 5
          have e_q16_2_16 : (q16.2.1 16).toInt = (o5.1 16).toInt := congrArg Int32.toInt (n_q16_2.1 16 rfl)
          have g_q16_2_16 : (0 : Int) ≤ (q16.2.1 16).toInt ∧ (q16.2.1 16).toInt ≤ 0 := k_q16_2.1 16
          have e_q16_2_17 : (q16.2.1 17).toInt = (o5.1 17).toInt := congrArg Int32.toInt (n_q16_2.1 17 rfl)
          have g_q16_2_17 : (0 : Int) ≤ (q16.2.1 17).toInt ∧ (q16.2.1 17).toInt ≤ 0 := k_q16_2.1 17
          have e_q16_2_18 : (q16.2.1 18).toInt = (o5.1 18).toInt := congrArg Int32.toInt (n_q16_2.1 18 rfl)
          have g_q16_2_18 : (0 : Int) ≤ (q16.2.1 18).toInt ∧ (q16.2.1 18).toInt ≤ 0 := k_q16_2.1 18
          have e_q16_2_30 : (q16.2.1 30).toInt = (o5.1 30).toInt := congrArg Int32.toInt (n_q16_2.1 30 rfl)
          have g_q16_2_30 : (0 : Int) ≤ (q16.2.1 30).toInt ∧ (q16.2.1 30).toInt ≤ 0 := k_q16_2.1 30
          have zq16_0 : (q16.2.1 3).toInt ≤ (q16.2.1 0).toInt := zq16_0
          try unfold fF_sign_48
          refine tt_b (sSc_signAt _ _ _ k_q16_1 k_q16_2 i11 f_q16_1_0 (show (q16.2.1 3).toInt ≤ (q16.2.1 0).toInt by omega) (show 0 ≤ v1.toInt by omega)) (fun q17 hq17 => ?_)
          obtain ⟨i_q17, -⟩ := hq17
          try unfold fF_sign_56
          have k18 := ok_fp (k := 30) (v := 0) k_o0 (iv_w (a := 0) (b := 4) (by decide) (by decide) (show (0 : Int) ≤ (0 : Int32).toInt ∧ (0 : Int32).toInt ≤ 0 by decide))
          have r19 := fr_fp (k := 30) (v := 0) r_o0 rfl
          exact tt_some ⟨i_q17, k18, r19, (iv_w (a := 0) (b := 3) (by decide) (by decide) (show (0 : Int) ≤ (0 : Int32).toInt ∧ (0 : Int32).toInt ≤ 0 by decide)), k_q16_1, r_q16_1, k_q16_2, r_q16_2, x_2, (show (q16.2.1 3).toInt ≤ (q16.2.1 0).toInt by omega), (show 0 = 0 ∨ 0 = 2 ∨ 0 = 3 by omega), trivial⟩
        · have wc13 : ¬ (o2.1 0).toInt = (0 : Int) := c_ne c13
          have i20 : (1 : Int) ≤ (o2.1 0).toInt ∧ (o2.1 0).toInt ≤ 1 := nr_nela c13 (k_o2.1 0) (show (0 : Int) ≤ (0 : Int32).toInt ∧ (0 : Int32).toInt ≤ 0 by decide) (by decide) (by decide)
          try unfold fF_sign_48
          refine tt_b (sSc_signAt _ _ _ k_o2 k_o5 i11 i20 (show (o5.1 3).toInt ≤ (o5.1 0).toInt by omega) (show 0 ≤ v1.toInt by omega)) (fun q21 hq21 => ?_)
          obtain ⟨i_q21, -⟩ := hq21
          try unfold fF_sign_56
          have k22 := ok_fp (k := 30) (v := 0) k_o0 (iv_w (a := 0) (b := 4) (by decide) (by decide) (show (0 : Int) ≤ (0 : Int32).toInt ∧ (0 : Int32).toInt ≤ 0 by decide))
          have r23 := fr_fp (k := 30) (v := 0) r_o0 rfl
          exact tt_some ⟨i_q21, k22, r23, (iv_w (a := 0) (b := 3) (by decide) (by decide) (show (0 : Int) ≤ (0 : Int32).toInt ∧ (0 : Int32).toInt ≤ 0 by decide)), k_o2, r_o2, k_o5, r_o5, x_2, (show (o5.1 3).toInt ≤ (o5.1 0).toInt by omega), (show 0 = 0 ∨ 0 = 2 ∨ 0 = 3 by omega), trivial⟩
def QF_library (o0 : cf_O) (o1 : cf_O) (o2 : cf_O) (o3 : cf_O) (r : (Int32 × cf_O × cf_O × cf_O × cf_O)) : Prop := ((0 : Int) ≤ r.1.toInt ∧ r.1.toInt ≤ 2) ∧ (okO I_F r.2.1) ∧ (((-1) : Int) ≤ (r.2.1.1 15).toInt ∧ (r.2.1.1 15).toInt ≤ 1602) ∧ ((0 : Int) ≤ (r.2.1.1 30).toInt ∧ (r.2.1.1 30).toInt ≤ 0) ∧ (okO I_Tx r.2.2.1) ∧ (okO I_Li r.2.2.2.1) ∧ (okO I_Li r.2.2.2.2) ∧ (Hlb (r.2.2.2.1.1 0).toInt (r.2.2.2.1.1 7).toInt (r.2.2.2.1.1 1).toInt (r.2.2.2.1.2.1 8) (r.2.2.2.1.2.1 9) (r.2.2.2.1.2.1 10) (r.2.2.2.1.2.1 11) (r.2.2.2.1.2.1 5)) ∧ ((r.2.1.1 17).toInt = 0 ∨ (r.2.1.1 17).toInt = (o0.1 17).toInt) ∧ ((r.2.1.1 18).toInt = 0 ∨ (r.2.1.1 18).toInt = (o0.1 18).toInt) ∧ ((r.2.1.1 30).toInt = 0) ∧ (((r.2.2.1.1 3) = (o1.1 3) ∧ (r.2.2.1.2.1 0) = (o1.2.1 0))) ∧ True
set_option maxHeartbeats 4000000 in
set_option maxRecDepth 100000 in
theorem sF_library (o0 : cf_O) (o1 : cf_O) (o2 : cf_O) (o3 : cf_O) (k_o0 : okO I_F o0) (k_o1 : okO I_Tx o1) (k_o2 : okO I_Li o2) (k_o3 : okO I_Li o3) (x_0 : Hlb (o2.1 0).toInt (o2.1 7).toInt (o2.1 1).toInt (o2.2.1 8) (o2.2.1 9) (o2.2.1 10) (o2.2.1 11) (o2.2.1 5)) : tt (fF_library o0 o1 o2 o3) (QF_library o0 o1 o2 o3) := by
  have r_o0 : Fr (fr_M [15, 18, 30] [] []) o0 o0 := fr_rfl
  have r_o1 : Fr (fr_M [4, 5, 6] [1, 2] []) o1 o1 := fr_rfl
  have r_o2 : Fr (fr_M [] [] []) o2 o2 := fr_rfl
  have r_o3 : Fr (fr_M [0, 1, 7] [3, 4, 5, 6, 8, 9, 10, 11] [2]) o3 o3 := fr_rfl
  unfold fF_library fF_library_0
  have g_o0_0 : (0 : Int) ≤ (o0.1 0).toInt ∧ (o0.1 0).toInt ≤ 0 := k_o0.1 0
  have g_o0_1 : (0 : Int) ≤ (o0.1 1).toInt ∧ (o0.1 1).toInt ≤ 0 := k_o0.1 1
  have g_o0_2 : (0 : Int) ≤ (o0.1 2).toInt ∧ (o0.1 2).toInt ≤ 0 := k_o0.1 2
  have g_o0_3 : (0 : Int) ≤ (o0.1 3).toInt ∧ (o0.1 3).toInt ≤ 0 := k_o0.1 3
  have g_o0_4 : (0 : Int) ≤ (o0.1 4).toInt ∧ (o0.1 4).toInt ≤ 0 := k_o0.1 4
  have g_o0_5 : (0 : Int) ≤ (o0.1 5).toInt ∧ (o0.1 5).toInt ≤ 0 := k_o0.1 5
  have g_o0_16 : (0 : Int) ≤ (o0.1 16).toInt ∧ (o0.1 16).toInt ≤ 1 := k_o0.1 16
  have g_o0_17 : (0 : Int) ≤ (o0.1 17).toInt ∧ (o0.1 17).toInt ≤ 1 := k_o0.1 17
  have g_o0_18 : (0 : Int) ≤ (o0.1 18).toInt ∧ (o0.1 18).toInt ≤ 1 := k_o0.1 18
  have g_o0_30 : (0 : Int) ≤ (o0.1 30).toInt ∧ (o0.1 30).toInt ≤ 4 := k_o0.1 30
  have g_o1_0 : (0 : Int) ≤ (o1.1 0).toInt ∧ (o1.1 0).toInt ≤ 0 := k_o1.1 0
  have g_o1_1 : (0 : Int) ≤ (o1.1 1).toInt ∧ (o1.1 1).toInt ≤ 0 := k_o1.1 1
  have g_o1_2 : (0 : Int) ≤ (o1.1 2).toInt ∧ (o1.1 2).toInt ≤ 0 := k_o1.1 2
  have g_o1_3 : (0 : Int) ≤ (o1.1 3).toInt ∧ (o1.1 3).toInt ≤ 1600 := k_o1.1 3
  have g_o1_4 : ((-1) : Int) ≤ (o1.1 4).toInt ∧ (o1.1 4).toInt ≤ 1602 := k_o1.1 4
  have g_o1_5 : (0 : Int) ≤ (o1.1 5).toInt ∧ (o1.1 5).toInt ≤ 10 := k_o1.1 5
  have g_o1_16 : (0 : Int) ≤ (o1.1 16).toInt ∧ (o1.1 16).toInt ≤ 0 := k_o1.1 16
  have g_o1_17 : (0 : Int) ≤ (o1.1 17).toInt ∧ (o1.1 17).toInt ≤ 0 := k_o1.1 17
  have g_o1_18 : (0 : Int) ≤ (o1.1 18).toInt ∧ (o1.1 18).toInt ≤ 0 := k_o1.1 18
  have g_o1_30 : (0 : Int) ≤ (o1.1 30).toInt ∧ (o1.1 30).toInt ≤ 0 := k_o1.1 30
  have g_o2_0 : (0 : Int) ≤ (o2.1 0).toInt ∧ (o2.1 0).toInt ≤ 12 := k_o2.1 0
  have g_o2_1 : ((-1) : Int) ≤ (o2.1 1).toInt ∧ (o2.1 1).toInt ≤ 11 := k_o2.1 1
  have g_o2_2 : (0 : Int) ≤ (o2.1 2).toInt ∧ (o2.1 2).toInt ≤ 0 := k_o2.1 2
  have g_o2_3 : (0 : Int) ≤ (o2.1 3).toInt ∧ (o2.1 3).toInt ≤ 0 := k_o2.1 3
  have g_o2_4 : (0 : Int) ≤ (o2.1 4).toInt ∧ (o2.1 4).toInt ≤ 0 := k_o2.1 4
  have g_o2_5 : (0 : Int) ≤ (o2.1 5).toInt ∧ (o2.1 5).toInt ≤ 0 := k_o2.1 5
  have g_o2_16 : (0 : Int) ≤ (o2.1 16).toInt ∧ (o2.1 16).toInt ≤ 0 := k_o2.1 16
  have g_o2_17 : (0 : Int) ≤ (o2.1 17).toInt ∧ (o2.1 17).toInt ≤ 0 := k_o2.1 17
  have g_o2_18 : (0 : Int) ≤ (o2.1 18).toInt ∧ (o2.1 18).toInt ≤ 0 := k_o2.1 18
  have g_o2_30 : (0 : Int) ≤ (o2.1 30).toInt ∧ (o2.1 30).toInt ≤ 0 := k_o2.1 30
  have g_o3_0 : (0 : Int) ≤ (o3.1 0).toInt ∧ (o3.1 0).toInt ≤ 12 := k_o3.1 0
  have g_o3_1 : ((-1) : Int) ≤ (o3.1 1).toInt ∧ (o3.1 1).toInt ≤ 11 := k_o3.1 1
  have g_o3_2 : (0 : Int) ≤ (o3.1 2).toInt ∧ (o3.1 2).toInt ≤ 0 := k_o3.1 2
  have g_o3_3 : (0 : Int) ≤ (o3.1 3).toInt ∧ (o3.1 3).toInt ≤ 0 := k_o3.1 3
  have g_o3_4 : (0 : Int) ≤ (o3.1 4).toInt ∧ (o3.1 4).toInt ≤ 0 := k_o3.1 4
  have g_o3_5 : (0 : Int) ≤ (o3.1 5).toInt ∧ (o3.1 5).toInt ≤ 0 := k_o3.1 5
  have g_o3_16 : (0 : Int) ≤ (o3.1 16).toInt ∧ (o3.1 16).toInt ≤ 0 := k_o3.1 16
  have g_o3_17 : (0 : Int) ≤ (o3.1 17).toInt ∧ (o3.1 17).toInt ≤ 0 := k_o3.1 17
  have g_o3_18 : (0 : Int) ≤ (o3.1 18).toInt ∧ (o3.1 18).toInt ≤ 0 := k_o3.1 18
  have g_o3_30 : (0 : Int) ≤ (o3.1 30).toInt ∧ (o3.1 30).toInt ≤ 0 := k_o3.1 30
  refine tt_b (sLi_scan _ _ k_o3 k_o1) (fun q1 hq1 => ?_)
  obtain ⟨i_q1, k_q1_2_1, n_q1_2_1, k_q1_2_2, n_q1_2_2, zq1_0, -⟩ := hq1
  have r_q1_2_1 := fr_tr r_o3 n_q1_2_1 rfl rfl rfl
  have g_q1_2_1_0 : (0 : Int) ≤ (q1.2.1.1 0).toInt ∧ (q1.2.1.1 0).toInt ≤ 12 := k_q1_2_1.1 0
  have g_q1_2_1_1 : ((-1) : Int) ≤ (q1.2.1.1 1).toInt ∧ (q1.2.1.1 1).toInt ≤ 11 := k_q1_2_1.1 1
  have e_q1_2_1_2 : (q1.2.1.1 2).toInt = (o3.1 2).toInt := congrArg Int32.toInt (n_q1_2_1.1 2 rfl)
  have g_q1_2_1_2 : (0 : Int) ≤ (q1.2.1.1 2).toInt ∧ (q1.2.1.1 2).toInt ≤ 0 := k_q1_2_1.1 2
  have e_q1_2_1_3 : (q1.2.1.1 3).toInt = (o3.1 3).toInt := congrArg Int32.toInt (n_q1_2_1.1 3 rfl)
  have g_q1_2_1_3 : (0 : Int) ≤ (q1.2.1.1 3).toInt ∧ (q1.2.1.1 3).toInt ≤ 0 := k_q1_2_1.1 3
  have e_q1_2_1_4 : (q1.2.1.1 4).toInt = (o3.1 4).toInt := congrArg Int32.toInt (n_q1_2_1.1 4 rfl)
  have g_q1_2_1_4 : (0 : Int) ≤ (q1.2.1.1 4).toInt ∧ (q1.2.1.1 4).toInt ≤ 0 := k_q1_2_1.1 4
  have e_q1_2_1_5 : (q1.2.1.1 5).toInt = (o3.1 5).toInt := congrArg Int32.toInt (n_q1_2_1.1 5 rfl)
  have g_q1_2_1_5 : (0 : Int) ≤ (q1.2.1.1 5).toInt ∧ (q1.2.1.1 5).toInt ≤ 0 := k_q1_2_1.1 5
  have e_q1_2_1_16 : (q1.2.1.1 16).toInt = (o3.1 16).toInt := congrArg Int32.toInt (n_q1_2_1.1 16 rfl)
  have g_q1_2_1_16 : (0 : Int) ≤ (q1.2.1.1 16).toInt ∧ (q1.2.1.1 16).toInt ≤ 0 := k_q1_2_1.1 16
  have e_q1_2_1_17 : (q1.2.1.1 17).toInt = (o3.1 17).toInt := congrArg Int32.toInt (n_q1_2_1.1 17 rfl)
  have g_q1_2_1_17 : (0 : Int) ≤ (q1.2.1.1 17).toInt ∧ (q1.2.1.1 17).toInt ≤ 0 := k_q1_2_1.1 17
  have e_q1_2_1_18 : (q1.2.1.1 18).toInt = (o3.1 18).toInt := congrArg Int32.toInt (n_q1_2_1.1 18 rfl)
  have g_q1_2_1_18 : (0 : Int) ≤ (q1.2.1.1 18).toInt ∧ (q1.2.1.1 18).toInt ≤ 0 := k_q1_2_1.1 18
  have e_q1_2_1_30 : (q1.2.1.1 30).toInt = (o3.1 30).toInt := congrArg Int32.toInt (n_q1_2_1.1 30 rfl)
  have g_q1_2_1_30 : (0 : Int) ≤ (q1.2.1.1 30).toInt ∧ (q1.2.1.1 30).toInt ≤ 0 := k_q1_2_1.1 30
  have r_q1_2_2 := fr_tr r_o1 n_q1_2_2 rfl rfl rfl
  have e_q1_2_2_0 : (q1.2.2.1 0).toInt = (o1.1 0).toInt := congrArg Int32.toInt (n_q1_2_2.1 0 rfl)
  have g_q1_2_2_0 : (0 : Int) ≤ (q1.2.2.1 0).toInt ∧ (q1.2.2.1 0).toInt ≤ 0 := k_q1_2_2.1 0
  have e_q1_2_2_1 : (q1.2.2.1 1).toInt = (o1.1 1).toInt := congrArg Int32.toInt (n_q1_2_2.1 1 rfl)
  have g_q1_2_2_1 : (0 : Int) ≤ (q1.2.2.1 1).toInt ∧ (q1.2.2.1 1).toInt ≤ 0 := k_q1_2_2.1 1
  have e_q1_2_2_2 : (q1.2.2.1 2).toInt = (o1.1 2).toInt := congrArg Int32.toInt (n_q1_2_2.1 2 rfl)
  have g_q1_2_2_2 : (0 : Int) ≤ (q1.2.2.1 2).toInt ∧ (q1.2.2.1 2).toInt ≤ 0 := k_q1_2_2.1 2
  have e_q1_2_2_3 : (q1.2.2.1 3).toInt = (o1.1 3).toInt := congrArg Int32.toInt (n_q1_2_2.1 3 rfl)
  have g_q1_2_2_3 : (0 : Int) ≤ (q1.2.2.1 3).toInt ∧ (q1.2.2.1 3).toInt ≤ 1600 := k_q1_2_2.1 3
  have g_q1_2_2_4 : ((-1) : Int) ≤ (q1.2.2.1 4).toInt ∧ (q1.2.2.1 4).toInt ≤ 1602 := k_q1_2_2.1 4
  have g_q1_2_2_5 : (0 : Int) ≤ (q1.2.2.1 5).toInt ∧ (q1.2.2.1 5).toInt ≤ 10 := k_q1_2_2.1 5
  have e_q1_2_2_16 : (q1.2.2.1 16).toInt = (o1.1 16).toInt := congrArg Int32.toInt (n_q1_2_2.1 16 rfl)
  have g_q1_2_2_16 : (0 : Int) ≤ (q1.2.2.1 16).toInt ∧ (q1.2.2.1 16).toInt ≤ 0 := k_q1_2_2.1 16
  have e_q1_2_2_17 : (q1.2.2.1 17).toInt = (o1.1 17).toInt := congrArg Int32.toInt (n_q1_2_2.1 17 rfl)
  have g_q1_2_2_17 : (0 : Int) ≤ (q1.2.2.1 17).toInt ∧ (q1.2.2.1 17).toInt ≤ 0 := k_q1_2_2.1 17
  have e_q1_2_2_18 : (q1.2.2.1 18).toInt = (o1.1 18).toInt := congrArg Int32.toInt (n_q1_2_2.1 18 rfl)
  have g_q1_2_2_18 : (0 : Int) ≤ (q1.2.2.1 18).toInt ∧ (q1.2.2.1 18).toInt ≤ 0 := k_q1_2_2.1 18
  have e_q1_2_2_30 : (q1.2.2.1 30).toInt = (o1.1 30).toInt := congrArg Int32.toInt (n_q1_2_2.1 30 rfl)
  have g_q1_2_2_30 : (0 : Int) ≤ (q1.2.2.1 30).toInt ∧ (q1.2.2.1 30).toInt ≤ 0 := k_q1_2_2.1 30
  try unfold fF_library_11
  refine tt_if (fun c2 => ?_) (fun c2 => ?_)
  · have wc2 : q1.1.toInt = (0 : Int) := c_eq c2
    have i3 : (0 : Int) ≤ q1.1.toInt ∧ q1.1.toInt ≤ 0 := nr_eql c2 i_q1 (show (0 : Int) ≤ (0 : Int32).toInt ∧ (0 : Int32).toInt ≤ 0 by decide) (by decide) (by decide)
    refine tt_ko ?_
    have k4 := ok_fp (k := 18) (v := 0) k_o0 (iv_w (a := 0) (b := 1) (by decide) (by decide) (show (0 : Int) ≤ (0 : Int32).toInt ∧ (0 : Int32).toInt ≤ 0 by decide))
    have r5 := fr_fp (k := 18) (v := 0) r_o0 rfl
    refine tt_ko ?_
    have k6 := ok_fp (k := 15) (v := (-1)) k4 (iv_w (a := (-1)) (b := 2147483647) (by decide) (by decide) (show ((-1) : Int) ≤ ((-1) : Int32).toInt ∧ ((-1) : Int32).toInt ≤ (-1) by decide))
    have r7 := fr_fp (k := 15) (v := (-1)) r5 rfl
    try unfold fF_library_58
    have k8 := ok_fp (k := 30) (v := 0) k6 (iv_w (a := 0) (b := 4) (by decide) (by decide) (show (0 : Int) ≤ (0 : Int32).toInt ∧ (0 : Int32).toInt ≤ 0 by decide))
    have r9 := fr_fp (k := 30) (v := 0) r7 rfl
    have p10 : Hlb (q1.2.1.1 0).toInt (q1.2.1.1 7).toInt (q1.2.1.1 1).toInt (q1.2.1.2.1 8) (q1.2.1.2.1 9) (q1.2.1.2.1 10) (q1.2.1.2.1 11) (q1.2.1.2.1 5) := by first | assumption | exact Hlb_s (by assumption) (by omega)
    have p11 : ((q1.2.2.1 3) = (o1.1 3) ∧ (q1.2.2.2.1 0) = (o1.2.1 0)) := by exact ⟨n_q1_2_2.1 3 rfl, n_q1_2_2.2.1 0 rfl⟩
    exact tt_some ⟨(iv_w (a := 0) (b := 2) (by decide) (by decide) i3), k8, (iv_w (a := (-1)) (b := 1602) (by decide) (by decide) (show ((-1) : Int) ≤ ((-1) : Int32).toInt ∧ ((-1) : Int32).toInt ≤ (-1) by decide)), (show (0 : Int) ≤ (0 : Int32).toInt ∧ (0 : Int32).toInt ≤ 0 by decide), k_q1_2_2, k_q1_2_1, k_o2, p10, (show (o0.1 17).toInt = 0 ∨ (o0.1 17).toInt = (o0.1 17).toInt by omega), (show 0 = 0 ∨ 0 = (o0.1 18).toInt by omega), (show 0 = 0 by omega), p11, trivial⟩
  · have wc2 : ¬ q1.1.toInt = (0 : Int) := c_ne c2
    have i12 : (1 : Int) ≤ q1.1.toInt ∧ q1.1.toInt ≤ 2 := nr_nela c2 i_q1 (show (0 : Int) ≤ (0 : Int32).toInt ∧ (0 : Int32).toInt ≤ 0 by decide) (by decide) (by decide)
    refine tt_ko ?_
    have k13 := ok_fp (k := 15) (v := (q1.2.2.1 4)) k_o0 (iv_w (a := (-1)) (b := 2147483647) (by decide) (by decide) (k_q1_2_2.1 4))
    have r14 := fr_fp (k := 15) (v := (q1.2.2.1 4)) r_o0 rfl
    try unfold fF_library_58
    have k15 := ok_fp (k := 30) (v := 0) k13 (iv_w (a := 0) (b := 4) (by decide) (by decide) (show (0 : Int) ≤ (0 : Int32).toInt ∧ (0 : Int32).toInt ≤ 0 by decide))
    have r16 := fr_fp (k := 30) (v := 0) r14 rfl
    have p17 : ((q1.2.2.1 3) = (o1.1 3) ∧ (q1.2.2.2.1 0) = (o1.2.1 0)) := by exact ⟨n_q1_2_2.1 3 rfl, n_q1_2_2.2.1 0 rfl⟩
    exact tt_some ⟨(iv_w (a := 0) (b := 2) (by decide) (by decide) i12), k15, (k_q1_2_2.1 4), (show (0 : Int) ≤ (0 : Int32).toInt ∧ (0 : Int32).toInt ≤ 0 by decide), k_q1_2_2, k_o2, k_q1_2_1, x_0, (show (o0.1 17).toInt = 0 ∨ (o0.1 17).toInt = (o0.1 17).toInt by omega), (show (o0.1 18).toInt = 0 ∨ (o0.1 18).toInt = (o0.1 18).toInt by omega), (show 0 = 0 by omega), p17, trivial⟩
def QF_libraryCell (v1 : Int32) (v2 : Int32) (o0 : cf_O) (o1 : cf_O) (r : (Int32 × cf_O)) : Prop := (okO I_F r.2) ∧ (Fr (fr_M [30] [] []) o0 r.2) ∧ ((0 : Int) ≤ (r.2.1 30).toInt ∧ (r.2.1 30).toInt ≤ 3) ∧ ((r.2.1 30).toInt = 0 ∨ (r.2.1 30).toInt = 3 ∨ (r.2.1 30).toInt = 1) ∧ True
set_option maxHeartbeats 4000000 in
set_option maxRecDepth 100000 in
theorem sF_libraryCell (v1 : Int32) (v2 : Int32) (o0 : cf_O) (o1 : cf_O) (k_o0 : okO I_F o0) (k_o1 : okO I_Li o1) (x_0 : Hlb (o1.1 0).toInt (o1.1 7).toInt (o1.1 1).toInt (o1.2.1 8) (o1.2.1 9) (o1.2.1 10) (o1.2.1 11) (o1.2.1 5)) : tt (fF_libraryCell v1 v2 o0 o1) (QF_libraryCell v1 v2 o0 o1) := by
  have r_o0 : Fr (fr_M [30] [] []) o0 o0 := fr_rfl
  have r_o1 : Fr (fr_M [] [] []) o1 o1 := fr_rfl
  unfold fF_libraryCell fF_libraryCell_0
  have i_v1 := iv_top v1
  have i_v2 := iv_top v2
  have g_o0_0 : (0 : Int) ≤ (o0.1 0).toInt ∧ (o0.1 0).toInt ≤ 0 := k_o0.1 0
  have g_o0_1 : (0 : Int) ≤ (o0.1 1).toInt ∧ (o0.1 1).toInt ≤ 0 := k_o0.1 1
  have g_o0_2 : (0 : Int) ≤ (o0.1 2).toInt ∧ (o0.1 2).toInt ≤ 0 := k_o0.1 2
  have g_o0_3 : (0 : Int) ≤ (o0.1 3).toInt ∧ (o0.1 3).toInt ≤ 0 := k_o0.1 3
  have g_o0_4 : (0 : Int) ≤ (o0.1 4).toInt ∧ (o0.1 4).toInt ≤ 0 := k_o0.1 4
  have g_o0_5 : (0 : Int) ≤ (o0.1 5).toInt ∧ (o0.1 5).toInt ≤ 0 := k_o0.1 5
  have g_o0_16 : (0 : Int) ≤ (o0.1 16).toInt ∧ (o0.1 16).toInt ≤ 1 := k_o0.1 16
  have g_o0_17 : (0 : Int) ≤ (o0.1 17).toInt ∧ (o0.1 17).toInt ≤ 1 := k_o0.1 17
  have g_o0_18 : (0 : Int) ≤ (o0.1 18).toInt ∧ (o0.1 18).toInt ≤ 1 := k_o0.1 18
  have g_o0_30 : (0 : Int) ≤ (o0.1 30).toInt ∧ (o0.1 30).toInt ≤ 4 := k_o0.1 30
  have g_o1_0 : (0 : Int) ≤ (o1.1 0).toInt ∧ (o1.1 0).toInt ≤ 12 := k_o1.1 0
  have g_o1_1 : ((-1) : Int) ≤ (o1.1 1).toInt ∧ (o1.1 1).toInt ≤ 11 := k_o1.1 1
  have g_o1_2 : (0 : Int) ≤ (o1.1 2).toInt ∧ (o1.1 2).toInt ≤ 0 := k_o1.1 2
  have g_o1_3 : (0 : Int) ≤ (o1.1 3).toInt ∧ (o1.1 3).toInt ≤ 0 := k_o1.1 3
  have g_o1_4 : (0 : Int) ≤ (o1.1 4).toInt ∧ (o1.1 4).toInt ≤ 0 := k_o1.1 4
  have g_o1_5 : (0 : Int) ≤ (o1.1 5).toInt ∧ (o1.1 5).toInt ≤ 0 := k_o1.1 5
  have g_o1_16 : (0 : Int) ≤ (o1.1 16).toInt ∧ (o1.1 16).toInt ≤ 0 := k_o1.1 16
  have g_o1_17 : (0 : Int) ≤ (o1.1 17).toInt ∧ (o1.1 17).toInt ≤ 0 := k_o1.1 17
  have g_o1_18 : (0 : Int) ≤ (o1.1 18).toInt ∧ (o1.1 18).toInt ≤ 0 := k_o1.1 18
  have g_o1_30 : (0 : Int) ≤ (o1.1 30).toInt ∧ (o1.1 30).toInt ≤ 0 := k_o1.1 30
  refine tt_if (fun c1 => ?_) (fun c1 => ?_)
  · have wc1 : v1.toInt < (0 : Int) := c_lt c1
    have i2 : ((-2147483648) : Int) ≤ v1.toInt ∧ v1.toInt ≤ (-1) := nr_ltl c1 (iv_top v1) (show (0 : Int) ≤ (0 : Int32).toInt ∧ (0 : Int32).toInt ≤ 0 by decide) (by decide) (by decide)
    try unfold fF_libraryCell_19
    try unfold fF_libraryCell_20
    refine tt_if (fun c3 => ?_) (fun c3 => ?_)
    · have wc3 : (0 : Int) = (0 : Int) := c_eq c3
      have k4 := ok_fp (k := 30) (v := 3) k_o0 (iv_w (a := 0) (b := 4) (by decide) (by decide) (show (3 : Int) ≤ (3 : Int32).toInt ∧ (3 : Int32).toInt ≤ 3 by decide))
      have r5 := fr_fp (k := 30) (v := 3) r_o0 rfl
      exact tt_some ⟨k4, r5, (iv_w (a := 0) (b := 3) (by decide) (by decide) (show (3 : Int) ≤ (3 : Int32).toInt ∧ (3 : Int32).toInt ≤ 3 by decide)), (show 3 = 0 ∨ 3 = 3 ∨ 3 = 1 by omega), trivial⟩
    · have wc3 : ¬ (0 : Int) = (0 : Int) := c_ne c3
      exact (dd_ne c3 (show (0 : Int) ≤ (0 : Int32).toInt ∧ (0 : Int32).toInt ≤ 0 by decide) (show (0 : Int) ≤ (0 : Int32).toInt ∧ (0 : Int32).toInt ≤ 0 by decide)).elim
  · have wc1 : (0 : Int) ≤ v1.toInt := c_nlt c1
    have i6 : (0 : Int) ≤ v1.toInt ∧ v1.toInt ≤ 2147483647 := nr_nltr c1 (show (0 : Int) ≤ (0 : Int32).toInt ∧ (0 : Int32).toInt ≤ 0 by decide) (iv_top v1) (by decide) (by decide)
    refine tt_if (fun c7 => ?_) (fun c7 => ?_)
    · have wc7 : (o1.1 0).toInt ≤ v1.toInt := c_le c7
      try unfold fF_libraryCell_19
      try unfold fF_libraryCell_20
      refine tt_if (fun c8 => ?_) (fun c8 => ?_)
      · have wc8 : (0 : Int) = (0 : Int) := c_eq c8
        have k9 := ok_fp (k := 30) (v := 3) k_o0 (iv_w (a := 0) (b := 4) (by decide) (by decide) (show (3 : Int) ≤ (3 : Int32).toInt ∧ (3 : Int32).toInt ≤ 3 by decide))
        have r10 := fr_fp (k := 30) (v := 3) r_o0 rfl
        exact tt_some ⟨k9, r10, (iv_w (a := 0) (b := 3) (by decide) (by decide) (show (3 : Int) ≤ (3 : Int32).toInt ∧ (3 : Int32).toInt ≤ 3 by decide)), (show 3 = 0 ∨ 3 = 3 ∨ 3 = 1 by omega), trivial⟩
      · have wc8 : ¬ (0 : Int) = (0 : Int) := c_ne c8
        exact (dd_ne c8 (show (0 : Int) ≤ (0 : Int32).toInt ∧ (0 : Int32).toInt ≤ 0 by decide) (show (0 : Int) ≤ (0 : Int32).toInt ∧ (0 : Int32).toInt ≤ 0 by decide)).elim
    · have wc7 : v1.toInt < (o1.1 0).toInt := c_nle c7
      have i11 : (0 : Int) ≤ v1.toInt ∧ v1.toInt ≤ 11 := nr_nlel c7 i6 (k_o1.1 0) (by decide) (by decide)
      have i12 : (1 : Int) ≤ (o1.1 0).toInt ∧ (o1.1 0).toInt ≤ 12 := nr_nler c7 i6 (k_o1.1 0) (by decide) (by decide)
      try unfold fF_libraryCell_20
      refine tt_if (fun c13 => ?_) (fun c13 => ?_)
      · have wc13 : (1 : Int) = (0 : Int) := c_eq c13
        exact (dd_eq c13 (show (1 : Int) ≤ (1 : Int32).toInt ∧ (1 : Int32).toInt ≤ 1 by decide) (show (0 : Int) ≤ (0 : Int32).toInt ∧ (0 : Int32).toInt ≤ 0 by decide) (by decide)).elim
      · have wc13 : ¬ (1 : Int) = (0 : Int) := c_ne c13
        try unfold fF_libraryCell_23
        refine tt_if (fun c14 => ?_) (fun c14 => ?_)
        · have wc14 : v2.toInt = (0 : Int) := c_eq c14
          have i15 : (0 : Int) ≤ v2.toInt ∧ v2.toInt ≤ 0 := nr_eql c14 (iv_top v2) (show (0 : Int) ≤ (0 : Int32).toInt ∧ (0 : Int32).toInt ≤ 0 by decide) (by decide) (by decide)
          refine tt_n (ix_ok i11 (by decide) (by decide)) ?_
          refine tt_kv (P := fun z => (((-2147483648) : Int) ≤ z.toInt ∧ z.toInt ≤ 2147483647) ∧ z.toInt = (o1.2.1 3 v1.toNatClampNeg).toInt) ⟨(k_o1.2 3 _), rfl⟩ (fun x16 qi17 => ?_)
          obtain ⟨i17, ei17⟩ := qi17
          have k18 := ok_fp (k := 30) (v := 0) k_o0 (iv_w (a := 0) (b := 4) (by decide) (by decide) (show (0 : Int) ≤ (0 : Int32).toInt ∧ (0 : Int32).toInt ≤ 0 by decide))
          have r19 := fr_fp (k := 30) (v := 0) r_o0 rfl
          exact tt_some ⟨k18, r19, (iv_w (a := 0) (b := 3) (by decide) (by decide) (show (0 : Int) ≤ (0 : Int32).toInt ∧ (0 : Int32).toInt ≤ 0 by decide)), (show 0 = 0 ∨ 0 = 3 ∨ 0 = 1 by omega), trivial⟩
        · have wc14 : ¬ v2.toInt = (0 : Int) := c_ne c14
          refine tt_if (fun c20 => ?_) (fun c20 => ?_)
          · have wc20 : v2.toInt = (1 : Int) := c_eq c20
            have i21 : (1 : Int) ≤ v2.toInt ∧ v2.toInt ≤ 1 := nr_eql c20 (iv_top v2) (show (1 : Int) ≤ (1 : Int32).toInt ∧ (1 : Int32).toInt ≤ 1 by decide) (by decide) (by decide)
            refine tt_n (ix_ok i11 (by decide) (by decide)) ?_
            refine tt_kv (P := fun z => (((-2147483648) : Int) ≤ z.toInt ∧ z.toInt ≤ 2147483647) ∧ z.toInt = (o1.2.1 4 v1.toNatClampNeg).toInt) ⟨(k_o1.2 4 _), rfl⟩ (fun x22 qi23 => ?_)
            obtain ⟨i23, ei23⟩ := qi23
            have k24 := ok_fp (k := 30) (v := 0) k_o0 (iv_w (a := 0) (b := 4) (by decide) (by decide) (show (0 : Int) ≤ (0 : Int32).toInt ∧ (0 : Int32).toInt ≤ 0 by decide))
            have r25 := fr_fp (k := 30) (v := 0) r_o0 rfl
            exact tt_some ⟨k24, r25, (iv_w (a := 0) (b := 3) (by decide) (by decide) (show (0 : Int) ≤ (0 : Int32).toInt ∧ (0 : Int32).toInt ≤ 0 by decide)), (show 0 = 0 ∨ 0 = 3 ∨ 0 = 1 by omega), trivial⟩
          · have wc20 : ¬ v2.toInt = (1 : Int) := c_ne c20
            refine tt_if (fun c26 => ?_) (fun c26 => ?_)
            · have wc26 : v2.toInt = (2 : Int) := c_eq c26
              have i27 : (2 : Int) ≤ v2.toInt ∧ v2.toInt ≤ 2 := nr_eql c26 (iv_top v2) (show (2 : Int) ≤ (2 : Int32).toInt ∧ (2 : Int32).toInt ≤ 2 by decide) (by decide) (by decide)
              refine tt_n (ix_ok i11 (by decide) (by decide)) ?_
              refine tt_kv (P := fun z => ((0 : Int) ≤ z.toInt ∧ z.toInt ≤ 3) ∧ z.toInt = (o1.2.1 5 v1.toNatClampNeg).toInt) ⟨(k_o1.2 5 _), rfl⟩ (fun x28 qi29 => ?_)
              obtain ⟨i29, ei29⟩ := qi29
              have k30 := ok_fp (k := 30) (v := 0) k_o0 (iv_w (a := 0) (b := 4) (by decide) (by decide) (show (0 : Int) ≤ (0 : Int32).toInt ∧ (0 : Int32).toInt ≤ 0 by decide))
              have r31 := fr_fp (k := 30) (v := 0) r_o0 rfl
              exact tt_some ⟨k30, r31, (iv_w (a := 0) (b := 3) (by decide) (by decide) (show (0 : Int) ≤ (0 : Int32).toInt ∧ (0 : Int32).toInt ≤ 0 by decide)), (show 0 = 0 ∨ 0 = 3 ∨ 0 = 1 by omega), trivial⟩
            · have wc26 : ¬ v2.toInt = (2 : Int) := c_ne c26
              refine tt_if (fun c32 => ?_) (fun c32 => ?_)
              · have wc32 : v2.toInt = (3 : Int) := c_eq c32
                have i33 : (3 : Int) ≤ v2.toInt ∧ v2.toInt ≤ 3 := nr_eql c32 (iv_top v2) (show (3 : Int) ≤ (3 : Int32).toInt ∧ (3 : Int32).toInt ≤ 3 by decide) (by decide) (by decide)
                refine tt_n (ix_ok i11 (by decide) (by decide)) ?_
                refine tt_kv (P := fun z => (((-2147483648) : Int) ≤ z.toInt ∧ z.toInt ≤ 2147483647) ∧ z.toInt = (o1.2.1 6 v1.toNatClampNeg).toInt) ⟨(k_o1.2 6 _), rfl⟩ (fun x34 qi35 => ?_)
                obtain ⟨i35, ei35⟩ := qi35
                have k36 := ok_fp (k := 30) (v := 0) k_o0 (iv_w (a := 0) (b := 4) (by decide) (by decide) (show (0 : Int) ≤ (0 : Int32).toInt ∧ (0 : Int32).toInt ≤ 0 by decide))
                have r37 := fr_fp (k := 30) (v := 0) r_o0 rfl
                exact tt_some ⟨k36, r37, (iv_w (a := 0) (b := 3) (by decide) (by decide) (show (0 : Int) ≤ (0 : Int32).toInt ∧ (0 : Int32).toInt ≤ 0 by decide)), (show 0 = 0 ∨ 0 = 3 ∨ 0 = 1 by omega), trivial⟩
              · have wc32 : ¬ v2.toInt = (3 : Int) := c_ne c32
                have k38 := ok_fp (k := 30) (v := 1) k_o0 (iv_w (a := 0) (b := 4) (by decide) (by decide) (show (1 : Int) ≤ (1 : Int32).toInt ∧ (1 : Int32).toInt ≤ 1 by decide))
                have r39 := fr_fp (k := 30) (v := 1) r_o0 rfl
                exact tt_some ⟨k38, r39, (iv_w (a := 0) (b := 3) (by decide) (by decide) (show (1 : Int) ≤ (1 : Int32).toInt ∧ (1 : Int32).toInt ≤ 1 by decide)), (show 1 = 0 ∨ 1 = 3 ∨ 1 = 1 by omega), trivial⟩
