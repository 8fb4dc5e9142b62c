def QM_line (o0 : cf_O) (r : (Int32 × cf_O)) : Prop := (okO I_M r.2) ∧ (Fr (fr_M [0] [] []) o0 r.2) ∧ ((0 : Int) ≤ (r.2.1 0).toInt ∧ (r.2.1 0).toInt ≤ 0) ∧ True
set_option maxHeartbeats 4000000 in
set_option maxRecDepth 100000 in
theorem sM_line (o0 : cf_O) (k_o0 : okO I_M o0) (f_o0_95 : (0 : Int) ≤ (o0.1 95).toInt ∧ (o0.1 95).toInt ≤ 0) : tt (fM_line o0) (QM_line o0) := by
  have r_o0 : Fr (fr_M [0] [] []) o0 o0 := fr_rfl
  unfold fM_line fM_line_0
  refine tt_ko ?_
  have k1 := ok_fp (k := 0) (v := 0) k_o0 (iv_w (a := 0) (b := 3) (by decide) (by decide) (show (0 : Int) ≤ (0 : Int32).toInt ∧ (0 : Int32).toInt ≤ 0 by decide))
  have r2 := fr_fp (k := 0) (v := 0) r_o0 rfl
  exact tt_some ⟨k1, r2, (show (0 : Int) ≤ (0 : Int32).toInt ∧ (0 : Int32).toInt ≤ 0 by decide), trivial⟩
def QM_graph (v1 : Int32) (o0 : cf_O) (r : (Int32 × cf_O)) : Prop := (okO I_M r.2) ∧ (Fr (fr_M [0] [] []) o0 r.2) ∧ ((0 : Int) ≤ (r.2.1 0).toInt ∧ (r.2.1 0).toInt ≤ 2) ∧ True
def HM_graph (yv1 : Int32) (yo0 : cf_O) (n : Nat) : Prop := (∀ (v1 : Int32) (v2 : Int32) (v3 : Int32) (o0 : cf_O), (okO I_M o0) → (Fr (fr_M [0] [] []) yo0 o0) → ((0 : Int) ≤ v1.toInt ∧ v1.toInt ≤ 3) → ((0 : Int) ≤ v3.toInt ∧ v3.toInt ≤ 6) → ((0 : Int) ≤ (o0.1 0).toInt ∧ (o0.1 0).toInt ≤ 0) → ((1 : Int) ≤ (o0.1 38).toInt ∧ (o0.1 38).toInt ≤ 1) → ((0 : Int) ≤ (o0.1 95).toInt ∧ (o0.1 95).toInt ≤ 0) → 0 + (6 - v3.toInt) * 2 < (n : Int) → tt (gM_graph n 0 v1 v2 v3 o0) (QM_graph yv1 yo0))
set_option maxHeartbeats 4000000 in
set_option maxRecDepth 100000 in
theorem tM_graph_47 {yv1 : Int32} {yo0 : cf_O} {n : Nat} (H : HM_graph yv1 yo0 n) (v1 : Int32) (v2 : Int32) (v3 : Int32) (o0 : cf_O) (k_o0 : okO I_M o0) (r_o0 : Fr (fr_M [0] [] []) yo0 o0) (i_v1 : (0 : Int) ≤ v1.toInt ∧ v1.toInt ≤ 3) (i_v3 : (0 : Int) ≤ v3.toInt ∧ v3.toInt ≤ 6) (f_o0_0 : (0 : Int) ≤ (o0.1 0).toInt ∧ (o0.1 0).toInt ≤ 0) (f_o0_38 : (1 : Int) ≤ (o0.1 38).toInt ∧ (o0.1 38).toInt ≤ 1) (f_o0_95 : (0 : Int) ≤ (o0.1 95).toInt ∧ (o0.1 95).toInt ≤ 0) (hm : 0 + (6 - v3.toInt) * 2 ≤ (n : Int)) : tt (fM_graph_47 (gM_graph n) v1 v2 v3 o0) (QM_graph yv1 yo0) := by
  unfold fM_graph_47
  refine tt_if (fun c1 => ?_) (fun c1 => ?_)
  · refine tt_if (fun c2 => ?_) (fun c2 => ?_)
    · have i3 : (0 : Int) ≤ v1.toInt ∧ v1.toInt ≤ 0 := nr_eql c2 i_v1 (show (0 : Int) ≤ (0 : Int32).toInt ∧ (0 : Int32).toInt ≤ 0 by decide) (by decide) (by decide)
      try unfold fM_graph_132
      exact tt_some ⟨k_o0, r_o0, (iv_w (a := 0) (b := 2) (by decide) (by decide) f_o0_0), trivial⟩
    · have i4 : (1 : Int) ≤ v1.toInt ∧ v1.toInt ≤ 3 := nr_nela c2 i_v1 (show (0 : Int) ≤ (0 : Int32).toInt ∧ (0 : Int32).toInt ≤ 0 by decide) (by decide) (by decide)
      refine tt_if (fun c5 => ?_) (fun c5 => ?_)
      · have i6 : (1 : Int) ≤ v1.toInt ∧ v1.toInt ≤ 1 := nr_eql c5 i4 (show (1 : Int) ≤ (1 : Int32).toInt ∧ (1 : Int32).toInt ≤ 1 by decide) (by decide) (by decide)
        try unfold fM_graph_132
        exact tt_some ⟨k_o0, r_o0, (iv_w (a := 0) (b := 2) (by decide) (by decide) f_o0_0), trivial⟩
      · have i7 : (2 : Int) ≤ v1.toInt ∧ v1.toInt ≤ 3 := nr_nela c5 i4 (show (1 : Int) ≤ (1 : Int32).toInt ∧ (1 : Int32).toInt ≤ 1 by decide) (by decide) (by decide)
        refine tt_if (fun c8 => ?_) (fun c8 => ?_)
        · have i9 : (2 : Int) ≤ v1.toInt ∧ v1.toInt ≤ 2 := nr_eql c8 i7 (show (2 : Int) ≤ (2 : Int32).toInt ∧ (2 : Int32).toInt ≤ 2 by decide) (by decide) (by decide)
          try unfold fM_graph_132
          exact tt_some ⟨k_o0, r_o0, (iv_w (a := 0) (b := 2) (by decide) (by decide) f_o0_0), trivial⟩
        · have i10 : (3 : Int) ≤ v1.toInt ∧ v1.toInt ≤ 3 := nr_nela c8 i7 (show (2 : Int) ≤ (2 : Int32).toInt ∧ (2 : Int32).toInt ≤ 2 by decide) (by decide) (by decide)
          try unfold fM_graph_132
          exact tt_some ⟨k_o0, r_o0, (iv_w (a := 0) (b := 2) (by decide) (by decide) f_o0_0), trivial⟩
  · have i11 : (0 : Int) ≤ v3.toInt ∧ v3.toInt ≤ 5 := nr_nlel c1 i_v3 (k_o0.1 40) (by decide) (by decide)
    have i12 : (1 : Int) ≤ (o0.1 40).toInt ∧ (o0.1 40).toInt ≤ 6 := nr_nler c1 i_v3 (k_o0.1 40) (by decide) (by decide)
    refine tt_n (ix_ok i11 (by decide) (by decide)) ?_
    refine tt_kv (P := fun z => (0 : Int) ≤ z.toInt ∧ z.toInt ≤ 417) (k_o0.2 47 _) (fun x13 i14 => ?_)
    refine tt_kv (P := fun z => (0 : Int) ≤ z.toInt ∧ z.toInt ≤ 208) (iv_div (k := 2) i14 (show (2 : Int) ≤ (2 : Int32).toInt ∧ (2 : Int32).toInt ≤ 2 by decide) (by decide) (by decide) (by decide) (by decide)) (fun x15 i16 => ?_)
    refine tt_n (ix_ok i16 (by decide) (by decide)) ?_
    refine tt_kv (P := fun z => ((-2147483648) : Int) ≤ z.toInt ∧ z.toInt ≤ 2147483647) (k_o0.2 46 _) (fun x17 i18 => ?_)
    refine tt_if (fun c19 => ?_) (fun c19 => ?_)
    · try unfold fM_graph_89
      refine tt_kv (P := fun z => ((1 : Int) ≤ z.toInt ∧ z.toInt ≤ 6) ∧ z.toInt = v3.toInt + 1) ⟨iv_add i11 (show (1 : Int) ≤ (1 : Int32).toInt ∧ (1 : Int32).toInt ≤ 1 by decide) (by decide) (by decide) (by decide) (by decide), iq_add i11 (show (1 : Int) ≤ (1 : Int32).toInt ∧ (1 : Int32).toInt ≤ 1 by decide) (by decide) (by decide)⟩ (fun x20 qi21 => ?_)
      obtain ⟨i21, ei21⟩ := qi21
      exact H _ _ _ _ k_o0 r_o0 i_v1 (iv_w (a := 0) (b := 6) (by decide) (by decide) i21) f_o0_0 f_o0_38 f_o0_95 (show 0 + (6 - x20.toInt) * 2 < (n : Int) by omega)
    · have i22 : ((-2147483648) : Int) ≤ v2.toInt ∧ v2.toInt ≤ 2147483646 := nr_nlel c19 (iv_top v2) i18 (by decide) (by decide)
      have i23 : ((-2147483647) : Int) ≤ x17.toInt ∧ x17.toInt ≤ 2147483647 := nr_nler c19 (iv_top v2) i18 (by decide) (by decide)
      refine tt_n (ix_ok i11 (by decide) (by decide)) ?_
      refine tt_kv (P := fun z => (0 : Int) ≤ z.toInt ∧ z.toInt ≤ 417) (k_o0.2 47 _) (fun x24 i25 => ?_)
      refine tt_kv (P := fun z => (0 : Int) ≤ z.toInt ∧ z.toInt ≤ 208) (iv_div (k := 2) i25 (show (2 : Int) ≤ (2 : Int32).toInt ∧ (2 : Int32).toInt ≤ 2 by decide) (by decide) (by decide) (by decide) (by decide)) (fun x26 i27 => ?_)
      refine tt_n (ix_ok i27 (by decide) (by decide)) ?_
      refine tt_kv (P := fun z => ((-2147483648) : Int) ≤ z.toInt ∧ z.toInt ≤ 2147483647) (k_o0.2 46 _) (fun x28 i29 => ?_)
      try unfold fM_graph_89
      refine tt_kv (P := fun z => ((1 : Int) ≤ z.toInt ∧ z.toInt ≤ 6) ∧ z.toInt = v3.toInt + 1) ⟨iv_add i11 (show (1 : Int) ≤ (1 : Int32).toInt ∧ (1 : Int32).toInt ≤ 1 by decide) (by decide) (by decide) (by decide) (by decide), iq_add i11 (show (1 : Int) ≤ (1 : Int32).toInt ∧ (1 : Int32).toInt ≤ 1 by decide) (by decide) (by decide)⟩ (fun x30 qi31 => ?_)
      obtain ⟨i31, ei31⟩ := qi31
      exact H _ _ _ _ k_o0 r_o0 i_v1 (iv_w (a := 0) (b := 6) (by decide) (by decide) i31) f_o0_0 f_o0_38 f_o0_95 (show 0 + (6 - x30.toInt) * 2 < (n : Int) by omega)
set_option maxHeartbeats 4000000 in
set_option maxRecDepth 100000 in
theorem hM_graph (yv1 : Int32) (yo0 : cf_O) : ∀ n, HM_graph yv1 yo0 n := by
  intro n
  induction n with
  | zero => exact (fun v1 v2 v3 o0 k_o0 r_o0 i_v1 i_v3 f_o0_0 f_o0_38 f_o0_95 hm => by exact absurd (show 0 + (6 - v3.toInt) * 2 < (0 : Int) from hm) (by omega))
  | succ n ih => exact (fun v1 v2 v3 o0 k_o0 r_o0 i_v1 i_v3 f_o0_0 f_o0_38 f_o0_95 hm => tM_graph_47 ih v1 v2 v3 o0 k_o0 r_o0 i_v1 i_v3 f_o0_0 f_o0_38 f_o0_95 (by omega))
set_option maxHeartbeats 4000000 in
set_option maxRecDepth 100000 in
theorem sM_graph (v1 : Int32) (o0 : cf_O) (k_o0 : okO I_M o0) (f_o0_95 : (0 : Int) ≤ (o0.1 95).toInt ∧ (o0.1 95).toInt ≤ 0) : tt (fM_graph v1 o0) (QM_graph v1 o0) := by
  have H := hM_graph v1 o0 cfFU
  have hm : (15 : Int) ≤ (cfFU : Nat) := by decide
  have r_o0 : Fr (fr_M [0] [] []) o0 o0 := fr_rfl
  unfold fM_graph fM_graph_0
  refine tt_if (fun c1 => ?_) (fun c1 => ?_)
  · have i2 : (0 : Int) ≤ (o0.1 38).toInt ∧ (o0.1 38).toInt ≤ 0 := nr_eql c1 (k_o0.1 38) (show (0 : Int) ≤ (0 : Int32).toInt ∧ (0 : Int32).toInt ≤ 0 by decide) (by decide) (by decide)
    try unfold fM_graph_13
    refine tt_if (fun c3 => ?_) (fun c3 => ?_)
    · try unfold fM_graph_33
      try unfold fM_graph_34
      try unfold fM_refuse
      try unfold fM_refuse_0
      refine tt_bif (fun c4 => ?_) (fun c4 => ?_)
      · exact (dd_eq c4 (show (1 : Int) ≤ (1 : Int32).toInt ∧ (1 : Int32).toInt ≤ 1 by decide) (show (0 : Int) ≤ (0 : Int32).toInt ∧ (0 : Int32).toInt ≤ 0 by decide) (by decide)).elim
      · try unfold fM_refuse_26
        refine tt_bko ?_
        have k5 := ok_fp (k := 0) (v := 1) k_o0 (iv_w (a := 0) (b := 3) (by decide) (by decide) (show (1 : Int) ≤ (1 : Int32).toInt ∧ (1 : Int32).toInt ≤ 1 by decide))
        have r6 := fr_fp (k := 0) (v := 1) r_o0 rfl
        refine tt_bif (fun c7 => ?_) (fun c7 => ?_)
        · exact (dd_le c7 (show (1 : Int) ≤ (1 : Int32).toInt ∧ (1 : Int32).toInt ≤ 1 by decide) (show (0 : Int) ≤ (0 : Int32).toInt ∧ (0 : Int32).toInt ≤ 0 by decide) (by decide)).elim
        · try unfold fM_refuse_41
          refine tt_bw (iv_b (show (1 : Int) ≤ (1 : Int32).toInt ∧ (1 : Int32).toInt ≤ 1 by decide) (by decide) (by decide)) ?_
          refine tt_bs ?_
          refine tt_if (fun c8 => ?_) (fun c8 => ?_)
          · exact (dd_eq c8 (show (1 : Int) ≤ (1 : Int32).toInt ∧ (1 : Int32).toInt ≤ 1 by decide) (show (0 : Int) ≤ (0 : Int32).toInt ∧ (0 : Int32).toInt ≤ 0 by decide) (by decide)).elim
          · exact tt_some ⟨k5, r6, (iv_w (a := 0) (b := 2) (by decide) (by decide) (show (1 : Int) ≤ (1 : Int32).toInt ∧ (1 : Int32).toInt ≤ 1 by decide)), trivial⟩
    · exact (dd_ne c3 i2 (show (0 : Int) ≤ (0 : Int32).toInt ∧ (0 : Int32).toInt ≤ 0 by decide)).elim
  · have i9 : (1 : Int) ≤ (o0.1 38).toInt ∧ (o0.1 38).toInt ≤ 1 := nr_nela c1 (k_o0.1 38) (show (0 : Int) ≤ (0 : Int32).toInt ∧ (0 : Int32).toInt ≤ 0 by decide) (by decide) (by decide)
    try unfold fM_graph_13
    refine tt_if (fun c10 => ?_) (fun c10 => ?_)
    · exact (dd_eq c10 i9 (show (0 : Int) ≤ (0 : Int32).toInt ∧ (0 : Int32).toInt ≤ 0 by decide) (by decide)).elim
    · try unfold fM_in
      try unfold fM_in_0
      refine tt_bif (fun c11 => ?_) (fun c11 => ?_)
      · have i12 : ((-2147483648) : Int) ≤ v1.toInt ∧ v1.toInt ≤ (-1) := nr_ltl c11 (iv_top v1) (show (0 : Int) ≤ (0 : Int32).toInt ∧ (0 : Int32).toInt ≤ 0 by decide) (by decide) (by decide)
        try unfold fM_in_14
        try unfold fM_in_15
        refine tt_bw (iv_b (show (0 : Int) ≤ (0 : Int32).toInt ∧ (0 : Int32).toInt ≤ 0 by decide) (by decide) (by decide)) ?_
        refine tt_bs ?_
        refine tt_if (fun c13 => ?_) (fun c13 => ?_)
        · try unfold fM_graph_34
          try unfold fM_refuse
          try unfold fM_refuse_0
          refine tt_bif (fun c14 => ?_) (fun c14 => ?_)
          · refine tt_bif (fun c15 => ?_) (fun c15 => ?_)
            · exact (dd_eq c15 (show (1 : Int) ≤ (1 : Int32).toInt ∧ (1 : Int32).toInt ≤ 1 by decide) (show (0 : Int) ≤ (0 : Int32).toInt ∧ (0 : Int32).toInt ≤ 0 by decide) (by decide)).elim
            · try unfold fM_refuse_26
              refine tt_bko ?_
              have k16 := ok_fp (k := 0) (v := 2) k_o0 (iv_w (a := 0) (b := 3) (by decide) (by decide) (show (2 : Int) ≤ (2 : Int32).toInt ∧ (2 : Int32).toInt ≤ 2 by decide))
              have r17 := fr_fp (k := 0) (v := 2) r_o0 rfl
              refine tt_bif (fun c18 => ?_) (fun c18 => ?_)
              · exact (dd_le c18 (show (2 : Int) ≤ (2 : Int32).toInt ∧ (2 : Int32).toInt ≤ 2 by decide) (show (0 : Int) ≤ (0 : Int32).toInt ∧ (0 : Int32).toInt ≤ 0 by decide) (by decide)).elim
              · try unfold fM_refuse_41
                refine tt_bw (iv_b (show (1 : Int) ≤ (1 : Int32).toInt ∧ (1 : Int32).toInt ≤ 1 by decide) (by decide) (by decide)) ?_
                refine tt_bs ?_
                refine tt_if (fun c19 => ?_) (fun c19 => ?_)
                · exact (dd_eq c19 (show (1 : Int) ≤ (1 : Int32).toInt ∧ (1 : Int32).toInt ≤ 1 by decide) (show (0 : Int) ≤ (0 : Int32).toInt ∧ (0 : Int32).toInt ≤ 0 by decide) (by decide)).elim
                · exact tt_some ⟨k16, r17, (iv_w (a := 0) (b := 2) (by decide) (by decide) (show (2 : Int) ≤ (2 : Int32).toInt ∧ (2 : Int32).toInt ≤ 2 by decide)), trivial⟩
          · exact (dd_ne c14 (show (0 : Int) ≤ (0 : Int32).toInt ∧ (0 : Int32).toInt ≤ 0 by decide) (show (0 : Int) ≤ (0 : Int32).toInt ∧ (0 : Int32).toInt ≤ 0 by decide)).elim
        · exact (dd_ne c13 (show (0 : Int) ≤ (0 : Int32).toInt ∧ (0 : Int32).toInt ≤ 0 by decide) (show (0 : Int) ≤ (0 : Int32).toInt ∧ (0 : Int32).toInt ≤ 0 by decide)).elim
      · have i20 : (0 : Int) ≤ v1.toInt ∧ v1.toInt ≤ 2147483647 := nr_nltr c11 (show (0 : Int) ≤ (0 : Int32).toInt ∧ (0 : Int32).toInt ≤ 0 by decide) (iv_top v1) (by decide) (by decide)
        refine tt_bif (fun c21 => ?_) (fun c21 => ?_)
        · have i22 : (4 : Int) ≤ v1.toInt ∧ v1.toInt ≤ 2147483647 := nr_ltr c21 (show (3 : Int) ≤ (3 : Int32).toInt ∧ (3 : Int32).toInt ≤ 3 by decide) i20 (by decide) (by decide)
          try unfold fM_in_14
          try unfold fM_in_15
          refine tt_bw (iv_b (show (0 : Int) ≤ (0 : Int32).toInt ∧ (0 : Int32).toInt ≤ 0 by decide) (by decide) (by decide)) ?_
          refine tt_bs ?_
          refine tt_if (fun c23 => ?_) (fun c23 => ?_)
          · try unfold fM_graph_34
            try unfold fM_refuse
            try unfold fM_refuse_0
            refine tt_bif (fun c24 => ?_) (fun c24 => ?_)
            · refine tt_bif (fun c25 => ?_) (fun c25 => ?_)
              · exact (dd_eq c25 (show (1 : Int) ≤ (1 : Int32).toInt ∧ (1 : Int32).toInt ≤ 1 by decide) (show (0 : Int) ≤ (0 : Int32).toInt ∧ (0 : Int32).toInt ≤ 0 by decide) (by decide)).elim
              · try unfold fM_refuse_26
                refine tt_bko ?_
                have k26 := ok_fp (k := 0) (v := 2) k_o0 (iv_w (a := 0) (b := 3) (by decide) (by decide) (show (2 : Int) ≤ (2 : Int32).toInt ∧ (2 : Int32).toInt ≤ 2 by decide))
                have r27 := fr_fp (k := 0) (v := 2) r_o0 rfl
                refine tt_bif (fun c28 => ?_) (fun c28 => ?_)
                · exact (dd_le c28 (show (2 : Int) ≤ (2 : Int32).toInt ∧ (2 : Int32).toInt ≤ 2 by decide) (show (0 : Int) ≤ (0 : Int32).toInt ∧ (0 : Int32).toInt ≤ 0 by decide) (by decide)).elim
                · try unfold fM_refuse_41
                  refine tt_bw (iv_b (show (1 : Int) ≤ (1 : Int32).toInt ∧ (1 : Int32).toInt ≤ 1 by decide) (by decide) (by decide)) ?_
                  refine tt_bs ?_
                  refine tt_if (fun c29 => ?_) (fun c29 => ?_)
                  · exact (dd_eq c29 (show (1 : Int) ≤ (1 : Int32).toInt ∧ (1 : Int32).toInt ≤ 1 by decide) (show (0 : Int) ≤ (0 : Int32).toInt ∧ (0 : Int32).toInt ≤ 0 by decide) (by decide)).elim
                  · exact tt_some ⟨k26, r27, (iv_w (a := 0) (b := 2) (by decide) (by decide) (show (2 : Int) ≤ (2 : Int32).toInt ∧ (2 : Int32).toInt ≤ 2 by decide)), trivial⟩
            · exact (dd_ne c24 (show (0 : Int) ≤ (0 : Int32).toInt ∧ (0 : Int32).toInt ≤ 0 by decide) (show (0 : Int) ≤ (0 : Int32).toInt ∧ (0 : Int32).toInt ≤ 0 by decide)).elim
          · exact (dd_ne c23 (show (0 : Int) ≤ (0 : Int32).toInt ∧ (0 : Int32).toInt ≤ 0 by decide) (show (0 : Int) ≤ (0 : Int32).toInt ∧ (0 : Int32).toInt ≤ 0 by decide)).elim
        · have i30 : (0 : Int) ≤ v1.toInt ∧ v1.toInt ≤ 3 := nr_nltl c21 i20 (show (3 : Int) ≤ (3 : Int32).toInt ∧ (3 : Int32).toInt ≤ 3 by decide) (by decide) (by decide)
          try unfold fM_in_15
          refine tt_bw (iv_b (show (1 : Int) ≤ (1 : Int32).toInt ∧ (1 : Int32).toInt ≤ 1 by decide) (by decide) (by decide)) ?_
          refine tt_bs ?_
          refine tt_if (fun c31 => ?_) (fun c31 => ?_)
          · exact (dd_eq c31 (show (1 : Int) ≤ (1 : Int32).toInt ∧ (1 : Int32).toInt ≤ 1 by decide) (show (0 : Int) ≤ (0 : Int32).toInt ∧ (0 : Int32).toInt ≤ 0 by decide) (by decide)).elim
          · try unfold fM_graph_33
            try unfold fM_graph_34
            try unfold fM_refuse
            try unfold fM_refuse_0
            refine tt_bif (fun c32 => ?_) (fun c32 => ?_)
            · refine tt_bif (fun c33 => ?_) (fun c33 => ?_)
              · refine tt_bif (fun c34 => ?_) (fun c34 => ?_)
                · try unfold fM_refuse_26
                  refine tt_bko ?_
                  have k35 := ok_fp (k := 0) (v := 0) k_o0 (iv_w (a := 0) (b := 3) (by decide) (by decide) (show (0 : Int) ≤ (0 : Int32).toInt ∧ (0 : Int32).toInt ≤ 0 by decide))
                  have r36 := fr_fp (k := 0) (v := 0) r_o0 rfl
                  refine tt_bif (fun c37 => ?_) (fun c37 => ?_)
                  · try unfold fM_refuse_41
                    refine tt_bw (iv_b (show (0 : Int) ≤ (0 : Int32).toInt ∧ (0 : Int32).toInt ≤ 0 by decide) (by decide) (by decide)) ?_
                    refine tt_bs ?_
                    refine tt_if (fun c38 => ?_) (fun c38 => ?_)
                    · exact H _ _ _ _ k35 r36 i30 (iv_w (a := 0) (b := 6) (by decide) (by decide) (show (0 : Int) ≤ (0 : Int32).toInt ∧ (0 : Int32).toInt ≤ 0 by decide)) (show (0 : Int) ≤ (0 : Int32).toInt ∧ (0 : Int32).toInt ≤ 0 by decide) i9 f_o0_95 (show 0 + (6 - 0) * 2 < ((cfFU : Nat) : Int) by omega)
                    · exact (dd_ne c38 (show (0 : Int) ≤ (0 : Int32).toInt ∧ (0 : Int32).toInt ≤ 0 by decide) (show (0 : Int) ≤ (0 : Int32).toInt ∧ (0 : Int32).toInt ≤ 0 by decide)).elim
                  · exact (dd_nle c37 (show (0 : Int) ≤ (0 : Int32).toInt ∧ (0 : Int32).toInt ≤ 0 by decide) (show (0 : Int) ≤ (0 : Int32).toInt ∧ (0 : Int32).toInt ≤ 0 by decide) (by decide)).elim
                · exact (dd_ne c34 (show (0 : Int) ≤ (0 : Int32).toInt ∧ (0 : Int32).toInt ≤ 0 by decide) (show (0 : Int) ≤ (0 : Int32).toInt ∧ (0 : Int32).toInt ≤ 0 by decide)).elim
              · exact (dd_ne c33 (show (0 : Int) ≤ (0 : Int32).toInt ∧ (0 : Int32).toInt ≤ 0 by decide) (show (0 : Int) ≤ (0 : Int32).toInt ∧ (0 : Int32).toInt ≤ 0 by decide)).elim
            · exact (dd_ne c32 (show (0 : Int) ≤ (0 : Int32).toInt ∧ (0 : Int32).toInt ≤ 0 by decide) (show (0 : Int) ≤ (0 : Int32).toInt ∧ (0 : Int32).toInt ≤ 0 by decide)).elim
def QM_gate (v1 : Int32) (v2 : Int32) (o0 : cf_O) (r : (Int32 × cf_O)) : Prop := (okO I_M r.2) ∧ (Fr (fr_M [0] [] []) o0 r.2) ∧ True
set_option maxHeartbeats 4000000 in
set_option maxRecDepth 100000 in
theorem sM_gate (v1 : Int32) (v2 : Int32) (o0 : cf_O) (k_o0 : okO I_M o0) (f_o0_95 : (0 : Int) ≤ (o0.1 95).toInt ∧ (o0.1 95).toInt ≤ 0) : tt (fM_gate v1 v2 o0) (QM_gate v1 v2 o0) := by
  have r_o0 : Fr (fr_M [0] [] []) o0 o0 := fr_rfl
  unfold fM_gate fM_gate_0
  have i_v1 := iv_top v1
  have i_v2 := iv_top v2
  have g_o0_39 : (0 : Int) ≤ (o0.1 39).toInt ∧ (o0.1 39).toInt ≤ 8 := k_o0.1 39
  have g_o0_43 : (0 : Int) ≤ (o0.1 43).toInt ∧ (o0.1 43).toInt ≤ 200 := k_o0.1 43
  refine tt_if (fun c1 => ?_) (fun c1 => ?_)
  · have wc1 : (o0.1 38).toInt = (0 : Int) := c_eq c1
    have i2 : (0 : Int) ≤ (o0.1 38).toInt ∧ (o0.1 38).toInt ≤ 0 := nr_eql c1 (k_o0.1 38) (show (0 : Int) ≤ (0 : Int32).toInt ∧ (0 : Int32).toInt ≤ 0 by decide) (by decide) (by decide)
    try unfold fM_gate_19
    try unfold fM_gate_20
    refine tt_if (fun c3 => ?_) (fun c3 => ?_)
    · have wc3 : (o0.1 38).toInt = (0 : Int) := c_eq c3
      try unfold fM_gate_34
      refine tt_if (fun c4 => ?_) (fun c4 => ?_)
      · have wc4 : (o0.1 38).toInt = (0 : Int) := c_eq c4
        try unfold fM_gate_49
        try unfold fM_gate_50
        refine tt_if (fun c5 => ?_) (fun c5 => ?_)
        · have wc5 : (0 : Int) = (0 : Int) := c_eq c5
          try unfold fM_gate_67
          try unfold fM_gate_68
          try unfold fM_refuse
          try unfold fM_refuse_0
          refine tt_bif (fun c6 => ?_) (fun c6 => ?_)
          · have wc6 : (1 : Int) = (0 : Int) := c_eq c6
            exact (dd_eq c6 (show (1 : Int) ≤ (1 : Int32).toInt ∧ (1 : Int32).toInt ≤ 1 by decide) (show (0 : Int) ≤ (0 : Int32).toInt ∧ (0 : Int32).toInt ≤ 0 by decide) (by decide)).elim
          · have wc6 : ¬ (1 : Int) = (0 : Int) := c_ne c6
            try unfold fM_refuse_26
            refine tt_bko ?_
            have k7 := ok_fp (k := 0) (v := 1) k_o0 (iv_w (a := 0) (b := 3) (by decide) (by decide) (show (1 : Int) ≤ (1 : Int32).toInt ∧ (1 : Int32).toInt ≤ 1 by decide))
            have r8 := fr_fp (k := 0) (v := 1) r_o0 rfl
            refine tt_bif (fun c9 => ?_) (fun c9 => ?_)
            · have wc9 : (1 : Int) ≤ (0 : Int) := c_le c9
              exact (dd_le c9 (show (1 : Int) ≤ (1 : Int32).toInt ∧ (1 : Int32).toInt ≤ 1 by decide) (show (0 : Int) ≤ (0 : Int32).toInt ∧ (0 : Int32).toInt ≤ 0 by decide) (by decide)).elim
            · have wc9 : (0 : Int) < (1 : Int) := c_nle c9
              try unfold fM_refuse_41
              refine tt_bw (iv_b (show (1 : Int) ≤ (1 : Int32).toInt ∧ (1 : Int32).toInt ≤ 1 by decide) (by decide) (by decide)) ?_
              refine tt_bs ?_
              refine tt_if (fun c10 => ?_) (fun c10 => ?_)
              · have wc10 : (1 : Int) = (0 : Int) := c_eq c10
                exact (dd_eq c10 (show (1 : Int) ≤ (1 : Int32).toInt ∧ (1 : Int32).toInt ≤ 1 by decide) (show (0 : Int) ≤ (0 : Int32).toInt ∧ (0 : Int32).toInt ≤ 0 by decide) (by decide)).elim
              · have wc10 : ¬ (1 : Int) = (0 : Int) := c_ne c10
                exact tt_some ⟨k7, r8, trivial⟩
        · have wc5 : ¬ (0 : Int) = (0 : Int) := c_ne c5
          exact (dd_ne c5 (show (0 : Int) ≤ (0 : Int32).toInt ∧ (0 : Int32).toInt ≤ 0 by decide) (show (0 : Int) ≤ (0 : Int32).toInt ∧ (0 : Int32).toInt ≤ 0 by decide)).elim
      · have wc4 : ¬ (o0.1 38).toInt = (0 : Int) := c_ne c4
        exact (dd_ne c4 i2 (show (0 : Int) ≤ (0 : Int32).toInt ∧ (0 : Int32).toInt ≤ 0 by decide)).elim
    · have wc3 : ¬ (o0.1 38).toInt = (0 : Int) := c_ne c3
      exact (dd_ne c3 i2 (show (0 : Int) ≤ (0 : Int32).toInt ∧ (0 : Int32).toInt ≤ 0 by decide)).elim
  · have wc1 : ¬ (o0.1 38).toInt = (0 : Int) := c_ne c1
    have i11 : (1 : Int) ≤ (o0.1 38).toInt ∧ (o0.1 38).toInt ≤ 1 := nr_nela c1 (k_o0.1 38) (show (0 : Int) ≤ (0 : Int32).toInt ∧ (0 : Int32).toInt ≤ 0 by decide) (by decide) (by decide)
    try unfold fM_isGate
    try unfold fM_isGate_0
    refine tt_bb ?_
    try unfold fM_base
    try unfold fM_base_0
    refine tt_bkv (P := fun z => ((1 : Int) ≤ z.toInt ∧ z.toInt ≤ 9) ∧ z.toInt = (o0.1 39).toInt + 1) ⟨iv_add (k_o0.1 39) (show (1 : Int) ≤ (1 : Int32).toInt ∧ (1 : Int32).toInt ≤ 1 by decide) (by decide) (by decide) (by decide) (by decide), iq_add (k_o0.1 39) (show (1 : Int) ≤ (1 : Int32).toInt ∧ (1 : Int32).toInt ≤ 1 by decide) (by decide) (by decide)⟩ (fun x12 qi13 => ?_)
    obtain ⟨i13, ei13⟩ := qi13
    refine tt_bs ?_
    refine tt_bb ?_
    try unfold fM_base
    try unfold fM_base_0
    refine tt_bkv (P := fun z => ((1 : Int) ≤ z.toInt ∧ z.toInt ≤ 9) ∧ z.toInt = (o0.1 39).toInt + 1) ⟨iv_add (k_o0.1 39) (show (1 : Int) ≤ (1 : Int32).toInt ∧ (1 : Int32).toInt ≤ 1 by decide) (by decide) (by decide) (by decide) (by decide), iq_add (k_o0.1 39) (show (1 : Int) ≤ (1 : Int32).toInt ∧ (1 : Int32).toInt ≤ 1 by decide) (by decide) (by decide)⟩ (fun x14 qi15 => ?_)
    obtain ⟨i15, ei15⟩ := qi15
    refine tt_bs ?_
    refine tt_bkv (P := fun z => ((1 : Int) ≤ z.toInt ∧ z.toInt ≤ 209) ∧ z.toInt = x14.toInt + (o0.1 43).toInt) ⟨iv_add i15 (k_o0.1 43) (by decide) (by decide) (by decide) (by decide), iq_add i15 (k_o0.1 43) (by decide) (by decide)⟩ (fun x16 qi17 => ?_)
    obtain ⟨i17, ei17⟩ := qi17
    refine tt_bkv (P := fun z => ((0 : Int) ≤ z.toInt ∧ z.toInt ≤ 208) ∧ z.toInt = x16.toInt - 1) ⟨iv_sub i17 (show (1 : Int) ≤ (1 : Int32).toInt ∧ (1 : Int32).toInt ≤ 1 by decide) (by decide) (by decide) (by decide) (by decide), iq_sub i17 (show (1 : Int) ≤ (1 : Int32).toInt ∧ (1 : Int32).toInt ≤ 1 by decide) (by decide) (by decide)⟩ (fun x18 qi19 => ?_)
    obtain ⟨i19, ei19⟩ := qi19
    refine tt_bb ?_
    try unfold fM_in
    try unfold fM_in_0
    refine tt_bif (fun c20 => ?_) (fun c20 => ?_)
    · have wc20 : v1.toInt < x12.toInt := c_lt c20
      have i21 : ((-2147483648) : Int) ≤ v1.toInt ∧ v1.toInt ≤ 8 := nr_ltl c20 (iv_top v1) i13 (by decide) (by decide)
      try unfold fM_in_14
      try unfold fM_in_15
      refine tt_bw (iv_b (show (0 : Int) ≤ (0 : Int32).toInt ∧ (0 : Int32).toInt ≤ 0 by decide) (by decide) (by decide)) ?_
      refine tt_bs ?_
      refine tt_bw (iv_b (show (0 : Int) ≤ (0 : Int32).toInt ∧ (0 : Int32).toInt ≤ 0 by decide) (by decide) (by decide)) ?_
      refine tt_bs ?_
      refine tt_if (fun c22 => ?_) (fun c22 => ?_)
      · have wc22 : (0 : Int) = (0 : Int) := c_eq c22
        try unfold fM_gate_19
        try unfold fM_gate_20
        refine tt_if (fun c23 => ?_) (fun c23 => ?_)
        · have wc23 : (o0.1 38).toInt = (0 : Int) := c_eq c23
          exact (dd_eq c23 i11 (show (0 : Int) ≤ (0 : Int32).toInt ∧ (0 : Int32).toInt ≤ 0 by decide) (by decide)).elim
        · have wc23 : ¬ (o0.1 38).toInt = (0 : Int) := c_ne c23
          try unfold fM_gate_34
          refine tt_if (fun c24 => ?_) (fun c24 => ?_)
          · have wc24 : (o0.1 38).toInt = (0 : Int) := c_eq c24
            exact (dd_eq c24 i11 (show (0 : Int) ≤ (0 : Int32).toInt ∧ (0 : Int32).toInt ≤ 0 by decide) (by decide)).elim
          · have wc24 : ¬ (o0.1 38).toInt = (0 : Int) := c_ne c24
            refine tt_if (fun c25 => ?_) (fun c25 => ?_)
            · have wc25 : (0 : Int) = (0 : Int) := c_eq c25
              try unfold fM_gate_50
              refine tt_if (fun c26 => ?_) (fun c26 => ?_)
              · have wc26 : (0 : Int) = (0 : Int) := c_eq c26
                try unfold fM_gate_67
                try unfold fM_gate_68
                try unfold fM_refuse
                try unfold fM_refuse_0
                refine tt_bif (fun c27 => ?_) (fun c27 => ?_)
                · have wc27 : (0 : Int) = (0 : Int) := c_eq c27
                  refine tt_bif (fun c28 => ?_) (fun c28 => ?_)
                  · have wc28 : (1 : Int) = (0 : Int) := c_eq c28
                    exact (dd_eq c28 (show (1 : Int) ≤ (1 : Int32).toInt ∧ (1 : Int32).toInt ≤ 1 by decide) (show (0 : Int) ≤ (0 : Int32).toInt ∧ (0 : Int32).toInt ≤ 0 by decide) (by decide)).elim
                  · have wc28 : ¬ (1 : Int) = (0 : Int) := c_ne c28
                    try unfold fM_refuse_26
                    refine tt_bko ?_
                    have k29 := ok_fp (k := 0) (v := 2) k_o0 (iv_w (a := 0) (b := 3) (by decide) (by decide) (show (2 : Int) ≤ (2 : Int32).toInt ∧ (2 : Int32).toInt ≤ 2 by decide))
                    have r30 := fr_fp (k := 0) (v := 2) r_o0 rfl
                    refine tt_bif (fun c31 => ?_) (fun c31 => ?_)
                    · have wc31 : (2 : Int) ≤ (0 : Int) := c_le c31
                      exact (dd_le c31 (show (2 : Int) ≤ (2 : Int32).toInt ∧ (2 : Int32).toInt ≤ 2 by decide) (show (0 : Int) ≤ (0 : Int32).toInt ∧ (0 : Int32).toInt ≤ 0 by decide) (by decide)).elim
                    · have wc31 : (0 : Int) < (2 : Int) := c_nle c31
                      try unfold fM_refuse_41
                      refine tt_bw (iv_b (show (1 : Int) ≤ (1 : Int32).toInt ∧ (1 : Int32).toInt ≤ 1 by decide) (by decide) (by decide)) ?_
                      refine tt_bs ?_
                      refine tt_if (fun c32 => ?_) (fun c32 => ?_)
                      · have wc32 : (1 : Int) = (0 : Int) := c_eq c32
                        exact (dd_eq c32 (show (1 : Int) ≤ (1 : Int32).toInt ∧ (1 : Int32).toInt ≤ 1 by decide) (show (0 : Int) ≤ (0 : Int32).toInt ∧ (0 : Int32).toInt ≤ 0 by decide) (by decide)).elim
                      · have wc32 : ¬ (1 : Int) = (0 : Int) := c_ne c32
                        exact tt_some ⟨k29, r30, trivial⟩
                · have wc27 : ¬ (0 : Int) = (0 : Int) := c_ne c27
                  exact (dd_ne c27 (show (0 : Int) ≤ (0 : Int32).toInt ∧ (0 : Int32).toInt ≤ 0 by decide) (show (0 : Int) ≤ (0 : Int32).toInt ∧ (0 : Int32).toInt ≤ 0 by decide)).elim
              · have wc26 : ¬ (0 : Int) = (0 : Int) := c_ne c26
                exact (dd_ne c26 (show (0 : Int) ≤ (0 : Int32).toInt ∧ (0 : Int32).toInt ≤ 0 by decide) (show (0 : Int) ≤ (0 : Int32).toInt ∧ (0 : Int32).toInt ≤ 0 by decide)).elim
            · have wc25 : ¬ (0 : Int) = (0 : Int) := c_ne c25
              exact (dd_ne c25 (show (0 : Int) ≤ (0 : Int32).toInt ∧ (0 : Int32).toInt ≤ 0 by decide) (show (0 : Int) ≤ (0 : Int32).toInt ∧ (0 : Int32).toInt ≤ 0 by decide)).elim
      · have wc22 : ¬ (0 : Int) = (0 : Int) := c_ne c22
        exact (dd_ne c22 (show (0 : Int) ≤ (0 : Int32).toInt ∧ (0 : Int32).toInt ≤ 0 by decide) (show (0 : Int) ≤ (0 : Int32).toInt ∧ (0 : Int32).toInt ≤ 0 by decide)).elim
    · have wc20 : x12.toInt ≤ v1.toInt := c_nlt c20
      have i33 : (1 : Int) ≤ v1.toInt ∧ v1.toInt ≤ 2147483647 := nr_nltr c20 i13 (iv_top v1) (by decide) (by decide)
      refine tt_bif (fun c34 => ?_) (fun c34 => ?_)
      · have wc34 : x18.toInt < v1.toInt := c_lt c34
        try unfold fM_in_14
        try unfold fM_in_15
        refine tt_bw (iv_b (show (0 : Int) ≤ (0 : Int32).toInt ∧ (0 : Int32).toInt ≤ 0 by decide) (by decide) (by decide)) ?_
        refine tt_bs ?_
        refine tt_bw (iv_b (show (0 : Int) ≤ (0 : Int32).toInt ∧ (0 : Int32).toInt ≤ 0 by decide) (by decide) (by decide)) ?_
        refine tt_bs ?_
        refine tt_if (fun c35 => ?_) (fun c35 => ?_)
        · have wc35 : (0 : Int) = (0 : Int) := c_eq c35
          try unfold fM_gate_19
          try unfold fM_gate_20
          refine tt_if (fun c36 => ?_) (fun c36 => ?_)
          · have wc36 : (o0.1 38).toInt = (0 : Int) := c_eq c36
            exact (dd_eq c36 i11 (show (0 : Int) ≤ (0 : Int32).toInt ∧ (0 : Int32).toInt ≤ 0 by decide) (by decide)).elim
          · have wc36 : ¬ (o0.1 38).toInt = (0 : Int) := c_ne c36
            try unfold fM_gate_34
            refine tt_if (fun c37 => ?_) (fun c37 => ?_)
            · have wc37 : (o0.1 38).toInt = (0 : Int) := c_eq c37
              exact (dd_eq c37 i11 (show (0 : Int) ≤ (0 : Int32).toInt ∧ (0 : Int32).toInt ≤ 0 by decide) (by decide)).elim
            · have wc37 : ¬ (o0.1 38).toInt = (0 : Int) := c_ne c37
              refine tt_if (fun c38 => ?_) (fun c38 => ?_)
              · have wc38 : (0 : Int) = (0 : Int) := c_eq c38
                try unfold fM_gate_50
                refine tt_if (fun c39 => ?_) (fun c39 => ?_)
                · have wc39 : (0 : Int) = (0 : Int) := c_eq c39
                  try unfold fM_gate_67
                  try unfold fM_gate_68
                  try unfold fM_refuse
                  try unfold fM_refuse_0
                  refine tt_bif (fun c40 => ?_) (fun c40 => ?_)
                  · have wc40 : (0 : Int) = (0 : Int) := c_eq c40
                    refine tt_bif (fun c41 => ?_) (fun c41 => ?_)
                    · have wc41 : (1 : Int) = (0 : Int) := c_eq c41
                      exact (dd_eq c41 (show (1 : Int) ≤ (1 : Int32).toInt ∧ (1 : Int32).toInt ≤ 1 by decide) (show (0 : Int) ≤ (0 : Int32).toInt ∧ (0 : Int32).toInt ≤ 0 by decide) (by decide)).elim
                    · have wc41 : ¬ (1 : Int) = (0 : Int) := c_ne c41
                      try unfold fM_refuse_26
                      refine tt_bko ?_
                      have k42 := ok_fp (k := 0) (v := 2) k_o0 (iv_w (a := 0) (b := 3) (by decide) (by decide) (show (2 : Int) ≤ (2 : Int32).toInt ∧ (2 : Int32).toInt ≤ 2 by decide))
                      have r43 := fr_fp (k := 0) (v := 2) r_o0 rfl
                      refine tt_bif (fun c44 => ?_) (fun c44 => ?_)
                      · have wc44 : (2 : Int) ≤ (0 : Int) := c_le c44
                        exact (dd_le c44 (show (2 : Int) ≤ (2 : Int32).toInt ∧ (2 : Int32).toInt ≤ 2 by decide) (show (0 : Int) ≤ (0 : Int32).toInt ∧ (0 : Int32).toInt ≤ 0 by decide) (by decide)).elim
                      · have wc44 : (0 : Int) < (2 : Int) := c_nle c44
                        try unfold fM_refuse_41
                        refine tt_bw (iv_b (show (1 : Int) ≤ (1 : Int32).toInt ∧ (1 : Int32).toInt ≤ 1 by decide) (by decide) (by decide)) ?_
                        refine tt_bs ?_
                        refine tt_if (fun c45 => ?_) (fun c45 => ?_)
                        · have wc45 : (1 : Int) = (0 : Int) := c_eq c45
                          exact (dd_eq c45 (show (1 : Int) ≤ (1 : Int32).toInt ∧ (1 : Int32).toInt ≤ 1 by decide) (show (0 : Int) ≤ (0 : Int32).toInt ∧ (0 : Int32).toInt ≤ 0 by decide) (by decide)).elim
                        · have wc45 : ¬ (1 : Int) = (0 : Int) := c_ne c45
                          exact tt_some ⟨k42, r43, trivial⟩
                  · have wc40 : ¬ (0 : Int) = (0 : Int) := c_ne c40
                    exact (dd_ne c40 (show (0 : Int) ≤ (0 : Int32).toInt ∧ (0 : Int32).toInt ≤ 0 by decide) (show (0 : Int) ≤ (0 : Int32).toInt ∧ (0 : Int32).toInt ≤ 0 by decide)).elim
                · have wc39 : ¬ (0 : Int) = (0 : Int) := c_ne c39
                  exact (dd_ne c39 (show (0 : Int) ≤ (0 : Int32).toInt ∧ (0 : Int32).toInt ≤ 0 by decide) (show (0 : Int) ≤ (0 : Int32).toInt ∧ (0 : Int32).toInt ≤ 0 by decide)).elim
              · have wc38 : ¬ (0 : Int) = (0 : Int) := c_ne c38
                exact (dd_ne c38 (show (0 : Int) ≤ (0 : Int32).toInt ∧ (0 : Int32).toInt ≤ 0 by decide) (show (0 : Int) ≤ (0 : Int32).toInt ∧ (0 : Int32).toInt ≤ 0 by decide)).elim
        · have wc35 : ¬ (0 : Int) = (0 : Int) := c_ne c35
          exact (dd_ne c35 (show (0 : Int) ≤ (0 : Int32).toInt ∧ (0 : Int32).toInt ≤ 0 by decide) (show (0 : Int) ≤ (0 : Int32).toInt ∧ (0 : Int32).toInt ≤ 0 by decide)).elim
      · have wc34 : v1.toInt ≤ x18.toInt := c_nlt c34
        have i46 : (1 : Int) ≤ v1.toInt ∧ v1.toInt ≤ 208 := nr_nltl c34 i33 i19 (by decide) (by decide)
        have i47 : (1 : Int) ≤ x18.toInt ∧ x18.toInt ≤ 208 := nr_nltr c34 i33 i19 (by decide) (by decide)
        have i48 : (2 : Int) ≤ x16.toInt ∧ x16.toInt ≤ 209 := by omega
        try unfold fM_in_15
        refine tt_bw (iv_b (show (1 : Int) ≤ (1 : Int32).toInt ∧ (1 : Int32).toInt ≤ 1 by decide) (by decide) (by decide)) ?_
        refine tt_bs ?_
        refine tt_bw (iv_b (show (1 : Int) ≤ (1 : Int32).toInt ∧ (1 : Int32).toInt ≤ 1 by decide) (by decide) (by decide)) ?_
        refine tt_bs ?_
        refine tt_if (fun c49 => ?_) (fun c49 => ?_)
        · have wc49 : (1 : Int) = (0 : Int) := c_eq c49
          exact (dd_eq c49 (show (1 : Int) ≤ (1 : Int32).toInt ∧ (1 : Int32).toInt ≤ 1 by decide) (show (0 : Int) ≤ (0 : Int32).toInt ∧ (0 : Int32).toInt ≤ 0 by decide) (by decide)).elim
        · have wc49 : ¬ (1 : Int) = (0 : Int) := c_ne c49
          try unfold fM_gate_20
          refine tt_if (fun c50 => ?_) (fun c50 => ?_)
          · have wc50 : (o0.1 38).toInt = (0 : Int) := c_eq c50
            exact (dd_eq c50 i11 (show (0 : Int) ≤ (0 : Int32).toInt ∧ (0 : Int32).toInt ≤ 0 by decide) (by decide)).elim
          · have wc50 : ¬ (o0.1 38).toInt = (0 : Int) := c_ne c50
            try unfold fM_gate_34
            refine tt_if (fun c51 => ?_) (fun c51 => ?_)
            · have wc51 : (o0.1 38).toInt = (0 : Int) := c_eq c51
              exact (dd_eq c51 i11 (show (0 : Int) ≤ (0 : Int32).toInt ∧ (0 : Int32).toInt ≤ 0 by decide) (by decide)).elim
            · have wc51 : ¬ (o0.1 38).toInt = (0 : Int) := c_ne c51
              refine tt_if (fun c52 => ?_) (fun c52 => ?_)
              · have wc52 : (1 : Int) = (0 : Int) := c_eq c52
                exact (dd_eq c52 (show (1 : Int) ≤ (1 : Int32).toInt ∧ (1 : Int32).toInt ≤ 1 by decide) (show (0 : Int) ≤ (0 : Int32).toInt ∧ (0 : Int32).toInt ≤ 0 by decide) (by decide)).elim
              · have wc52 : ¬ (1 : Int) = (0 : Int) := c_ne c52
                try unfold fM_gate_49
                try unfold fM_gate_50
                refine tt_if (fun c53 => ?_) (fun c53 => ?_)
                · have wc53 : (1 : Int) = (0 : Int) := c_eq c53
                  exact (dd_eq c53 (show (1 : Int) ≤ (1 : Int32).toInt ∧ (1 : Int32).toInt ≤ 1 by decide) (show (0 : Int) ≤ (0 : Int32).toInt ∧ (0 : Int32).toInt ≤ 0 by decide) (by decide)).elim
                · have wc53 : ¬ (1 : Int) = (0 : Int) := c_ne c53
                  try unfold fM_in
                  try unfold fM_in_0
                  refine tt_bif (fun c54 => ?_) (fun c54 => ?_)
                  · have wc54 : v2.toInt < (0 : Int) := c_lt c54
                    have i55 : ((-2147483648) : Int) ≤ v2.toInt ∧ v2.toInt ≤ (-1) := nr_ltl c54 (iv_top v2) (show (0 : Int) ≤ (0 : Int32).toInt ∧ (0 : Int32).toInt ≤ 0 by decide) (by decide) (by decide)
                    try unfold fM_in_14
                    try unfold fM_in_15
                    refine tt_bw (iv_b (show (0 : Int) ≤ (0 : Int32).toInt ∧ (0 : Int32).toInt ≤ 0 by decide) (by decide) (by decide)) ?_
                    refine tt_bs ?_
                    refine tt_if (fun c56 => ?_) (fun c56 => ?_)
                    · have wc56 : (0 : Int) = (0 : Int) := c_eq c56
                      try unfold fM_gate_68
                      try unfold fM_refuse
                      try unfold fM_refuse_0
                      refine tt_bif (fun c57 => ?_) (fun c57 => ?_)
                      · have wc57 : (0 : Int) = (0 : Int) := c_eq c57
                        refine tt_bif (fun c58 => ?_) (fun c58 => ?_)
                        · have wc58 : (0 : Int) = (0 : Int) := c_eq c58
                          refine tt_bif (fun c59 => ?_) (fun c59 => ?_)
                          · have wc59 : (1 : Int) = (0 : Int) := c_eq c59
                            exact (dd_eq c59 (show (1 : Int) ≤ (1 : Int32).toInt ∧ (1 : Int32).toInt ≤ 1 by decide) (show (0 : Int) ≤ (0 : Int32).toInt ∧ (0 : Int32).toInt ≤ 0 by decide) (by decide)).elim
                          · have wc59 : ¬ (1 : Int) = (0 : Int) := c_ne c59
                            try unfold fM_refuse_26
                            refine tt_bko ?_
                            have k60 := ok_fp (k := 0) (v := 3) k_o0 (iv_w (a := 0) (b := 3) (by decide) (by decide) (show (3 : Int) ≤ (3 : Int32).toInt ∧ (3 : Int32).toInt ≤ 3 by decide))
                            have r61 := fr_fp (k := 0) (v := 3) r_o0 rfl
                            refine tt_bif (fun c62 => ?_) (fun c62 => ?_)
                            · have wc62 : (3 : Int) ≤ (0 : Int) := c_le c62
                              exact (dd_le c62 (show (3 : Int) ≤ (3 : Int32).toInt ∧ (3 : Int32).toInt ≤ 3 by decide) (show (0 : Int) ≤ (0 : Int32).toInt ∧ (0 : Int32).toInt ≤ 0 by decide) (by decide)).elim
                            · have wc62 : (0 : Int) < (3 : Int) := c_nle c62
                              try unfold fM_refuse_41
                              refine tt_bw (iv_b (show (1 : Int) ≤ (1 : Int32).toInt ∧ (1 : Int32).toInt ≤ 1 by decide) (by decide) (by decide)) ?_
                              refine tt_bs ?_
                              refine tt_if (fun c63 => ?_) (fun c63 => ?_)
                              · have wc63 : (1 : Int) = (0 : Int) := c_eq c63
                                exact (dd_eq c63 (show (1 : Int) ≤ (1 : Int32).toInt ∧ (1 : Int32).toInt ≤ 1 by decide) (show (0 : Int) ≤ (0 : Int32).toInt ∧ (0 : Int32).toInt ≤ 0 by decide) (by decide)).elim
                              · have wc63 : ¬ (1 : Int) = (0 : Int) := c_ne c63
                                exact tt_some ⟨k60, r61, trivial⟩
                        · have wc58 : ¬ (0 : Int) = (0 : Int) := c_ne c58
                          exact (dd_ne c58 (show (0 : Int) ≤ (0 : Int32).toInt ∧ (0 : Int32).toInt ≤ 0 by decide) (show (0 : Int) ≤ (0 : Int32).toInt ∧ (0 : Int32).toInt ≤ 0 by decide)).elim
                      · have wc57 : ¬ (0 : Int) = (0 : Int) := c_ne c57
                        exact (dd_ne c57 (show (0 : Int) ≤ (0 : Int32).toInt ∧ (0 : Int32).toInt ≤ 0 by decide) (show (0 : Int) ≤ (0 : Int32).toInt ∧ (0 : Int32).toInt ≤ 0 by decide)).elim
                    · have wc56 : ¬ (0 : Int) = (0 : Int) := c_ne c56
                      exact (dd_ne c56 (show (0 : Int) ≤ (0 : Int32).toInt ∧ (0 : Int32).toInt ≤ 0 by decide) (show (0 : Int) ≤ (0 : Int32).toInt ∧ (0 : Int32).toInt ≤ 0 by decide)).elim
                  · have wc54 : (0 : Int) ≤ v2.toInt := c_nlt c54
                    have i64 : (0 : Int) ≤ v2.toInt ∧ v2.toInt ≤ 2147483647 := nr_nltr c54 (show (0 : Int) ≤ (0 : Int32).toInt ∧ (0 : Int32).toInt ≤ 0 by decide) (iv_top v2) (by decide) (by decide)
                    refine tt_bif (fun c65 => ?_) (fun c65 => ?_)
                    · have wc65 : (2 : Int) < v2.toInt := c_lt c65
                      have i66 : (3 : Int) ≤ v2.toInt ∧ v2.toInt ≤ 2147483647 := nr_ltr c65 (show (2 : Int) ≤ (2 : Int32).toInt ∧ (2 : Int32).toInt ≤ 2 by decide) i64 (by decide) (by decide)
                      try unfold fM_in_14
                      try unfold fM_in_15
                      refine tt_bw (iv_b (show (0 : Int) ≤ (0 : Int32).toInt ∧ (0 : Int32).toInt ≤ 0 by decide) (by decide) (by decide)) ?_
                      refine tt_bs ?_
                      refine tt_if (fun c67 => ?_) (fun c67 => ?_)
                      · have wc67 : (0 : Int) = (0 : Int) := c_eq c67
                        try unfold fM_gate_68
                        try unfold fM_refuse
                        try unfold fM_refuse_0
                        refine tt_bif (fun c68 => ?_) (fun c68 => ?_)
                        · have wc68 : (0 : Int) = (0 : Int) := c_eq c68
                          refine tt_bif (fun c69 => ?_) (fun c69 => ?_)
                          · have wc69 : (0 : Int) = (0 : Int) := c_eq c69
                            refine tt_bif (fun c70 => ?_) (fun c70 => ?_)
                            · have wc70 : (1 : Int) = (0 : Int) := c_eq c70
                              exact (dd_eq c70 (show (1 : Int) ≤ (1 : Int32).toInt ∧ (1 : Int32).toInt ≤ 1 by decide) (show (0 : Int) ≤ (0 : Int32).toInt ∧ (0 : Int32).toInt ≤ 0 by decide) (by decide)).elim
                            · have wc70 : ¬ (1 : Int) = (0 : Int) := c_ne c70
                              try unfold fM_refuse_26
                              refine tt_bko ?_
                              have k71 := ok_fp (k := 0) (v := 3) k_o0 (iv_w (a := 0) (b := 3) (by decide) (by decide) (show (3 : Int) ≤ (3 : Int32).toInt ∧ (3 : Int32).toInt ≤ 3 by decide))
                              have r72 := fr_fp (k := 0) (v := 3) r_o0 rfl
                              refine tt_bif (fun c73 => ?_) (fun c73 => ?_)
                              · have wc73 : (3 : Int) ≤ (0 : Int) := c_le c73
                                exact (dd_le c73 (show (3 : Int) ≤ (3 : Int32).toInt ∧ (3 : Int32).toInt ≤ 3 by decide) (show (0 : Int) ≤ (0 : Int32).toInt ∧ (0 : Int32).toInt ≤ 0 by decide) (by decide)).elim
                              · have wc73 : (0 : Int) < (3 : Int) := c_nle c73
                                try unfold fM_refuse_41
                                refine tt_bw (iv_b (show (1 : Int) ≤ (1 : Int32).toInt ∧ (1 : Int32).toInt ≤ 1 by decide) (by decide) (by decide)) ?_
                                refine tt_bs ?_
                                refine tt_if (fun c74 => ?_) (fun c74 => ?_)
                                · have wc74 : (1 : Int) = (0 : Int) := c_eq c74
                                  exact (dd_eq c74 (show (1 : Int) ≤ (1 : Int32).toInt ∧ (1 : Int32).toInt ≤ 1 by decide) (show (0 : Int) ≤ (0 : Int32).toInt ∧ (0 : Int32).toInt ≤ 0 by decide) (by decide)).elim
                                · have wc74 : ¬ (1 : Int) = (0 : Int) := c_ne c74
                                  exact tt_some ⟨k71, r72, trivial⟩
                          · have wc69 : ¬ (0 : Int) = (0 : Int) := c_ne c69
                            exact (dd_ne c69 (show (0 : Int) ≤ (0 : Int32).toInt ∧ (0 : Int32).toInt ≤ 0 by decide) (show (0 : Int) ≤ (0 : Int32).toInt ∧ (0 : Int32).toInt ≤ 0 by decide)).elim
                        · have wc68 : ¬ (0 : Int) = (0 : Int) := c_ne c68
                          exact (dd_ne c68 (show (0 : Int) ≤ (0 : Int32).toInt ∧ (0 : Int32).toInt ≤ 0 by decide) (show (0 : Int) ≤ (0 : Int32).toInt ∧ (0 : Int32).toInt ≤ 0 by decide)).elim
                      · have wc67 : ¬ (0 : Int) = (0 : Int) := c_ne c67
                        exact (dd_ne c67 (show (0 : Int) ≤ (0 : Int32).toInt ∧ (0 : Int32).toInt ≤ 0 by decide) (show (0 : Int) ≤ (0 : Int32).toInt ∧ (0 : Int32).toInt ≤ 0 by decide)).elim
                    · have wc65 : v2.toInt ≤ (2 : Int) := c_nlt c65
                      have i75 : (0 : Int) ≤ v2.toInt ∧ v2.toInt ≤ 2 := nr_nltl c65 i64 (show (2 : Int) ≤ (2 : Int32).toInt ∧ (2 : Int32).toInt ≤ 2 by decide) (by decide) (by decide)
                      try unfold fM_in_15
                      refine tt_bw (iv_b (show (1 : Int) ≤ (1 : Int32).toInt ∧ (1 : Int32).toInt ≤ 1 by decide) (by decide) (by decide)) ?_
                      refine tt_bs ?_
                      refine tt_if (fun c76 => ?_) (fun c76 => ?_)
                      · have wc76 : (1 : Int) = (0 : Int) := c_eq c76
                        exact (dd_eq c76 (show (1 : Int) ≤ (1 : Int32).toInt ∧ (1 : Int32).toInt ≤ 1 by decide) (show (0 : Int) ≤ (0 : Int32).toInt ∧ (0 : Int32).toInt ≤ 0 by decide) (by decide)).elim
                      · have wc76 : ¬ (1 : Int) = (0 : Int) := c_ne c76
                        try unfold fM_gate_67
                        try unfold fM_gate_68
                        try unfold fM_refuse
                        try unfold fM_refuse_0
                        refine tt_bif (fun c77 => ?_) (fun c77 => ?_)
                        · have wc77 : (0 : Int) = (0 : Int) := c_eq c77
                          refine tt_bif (fun c78 => ?_) (fun c78 => ?_)
                          · have wc78 : (0 : Int) = (0 : Int) := c_eq c78
                            refine tt_bif (fun c79 => ?_) (fun c79 => ?_)
                            · have wc79 : (0 : Int) = (0 : Int) := c_eq c79
                              try unfold fM_refuse_26
                              refine tt_bko ?_
                              have k80 := ok_fp (k := 0) (v := 0) k_o0 (iv_w (a := 0) (b := 3) (by decide) (by decide) (show (0 : Int) ≤ (0 : Int32).toInt ∧ (0 : Int32).toInt ≤ 0 by decide))
                              have r81 := fr_fp (k := 0) (v := 0) r_o0 rfl
                              refine tt_bif (fun c82 => ?_) (fun c82 => ?_)
                              · have wc82 : (0 : Int) ≤ (0 : Int) := c_le c82
                                try unfold fM_refuse_41
                                refine tt_bw (iv_b (show (0 : Int) ≤ (0 : Int32).toInt ∧ (0 : Int32).toInt ≤ 0 by decide) (by decide) (by decide)) ?_
                                refine tt_bs ?_
                                refine tt_if (fun c83 => ?_) (fun c83 => ?_)
                                · have wc83 : (0 : Int) = (0 : Int) := c_eq c83
                                  refine tt_if (fun c84 => ?_) (fun c84 => ?_)
                                  · have wc84 : v2.toInt = (0 : Int) := c_eq c84
                                    have i85 : (0 : Int) ≤ v2.toInt ∧ v2.toInt ≤ 0 := nr_eql c84 i75 (show (0 : Int) ≤ (0 : Int32).toInt ∧ (0 : Int32).toInt ≤ 0 by decide) (by decide) (by decide)
                                    try unfold fM_base
                                    try unfold fM_base_0
                                    refine tt_bkv (P := fun z => ((1 : Int) ≤ z.toInt ∧ z.toInt ≤ 9) ∧ z.toInt = (o0.1 39).toInt + 1) ⟨iv_add (k_o0.1 39) (show (1 : Int) ≤ (1 : Int32).toInt ∧ (1 : Int32).toInt ≤ 1 by decide) (by decide) (by decide) (by decide) (by decide), iq_add (k_o0.1 39) (show (1 : Int) ≤ (1 : Int32).toInt ∧ (1 : Int32).toInt ≤ 1 by decide) (by decide) (by decide)⟩ (fun x86 qi87 => ?_)
                                    obtain ⟨i87, ei87⟩ := qi87
                                    refine tt_bs ?_
                                    refine tt_kv (P := fun z => (((-8) : Int) ≤ z.toInt ∧ z.toInt ≤ 207) ∧ z.toInt = v1.toInt - x86.toInt) ⟨iv_sub i46 i87 (by decide) (by decide) (by decide) (by decide), iq_sub i46 i87 (by decide) (by decide)⟩ (fun x88 qi89 => ?_)
                                    obtain ⟨i89, ei89⟩ := qi89
                                    refine tt_n (ix_rel (by omega) (by omega)) ?_
                                    have i90 : (0 : Int) ≤ x88.toInt ∧ x88.toInt ≤ 200 := (by omega)
                                    refine tt_kv (P := fun z => ((0 : Int) ≤ z.toInt ∧ z.toInt ≤ 417) ∧ z.toInt = (o0.2.1 44 x88.toNatClampNeg).toInt) ⟨(k80.2 44 _), rfl⟩ (fun x91 qi92 => ?_)
                                    obtain ⟨i92, ei92⟩ := qi92
                                    try unfold fM_gate_119
                                    exact tt_some ⟨k80, r81, trivial⟩
                                  · have wc84 : ¬ v2.toInt = (0 : Int) := c_ne c84
                                    have i93 : (1 : Int) ≤ v2.toInt ∧ v2.toInt ≤ 2 := nr_nela c84 i75 (show (0 : Int) ≤ (0 : Int32).toInt ∧ (0 : Int32).toInt ≤ 0 by decide) (by decide) (by decide)
                                    refine tt_if (fun c94 => ?_) (fun c94 => ?_)
                                    · have wc94 : v2.toInt = (1 : Int) := c_eq c94
                                      have i95 : (1 : Int) ≤ v2.toInt ∧ v2.toInt ≤ 1 := nr_eql c94 i93 (show (1 : Int) ≤ (1 : Int32).toInt ∧ (1 : Int32).toInt ≤ 1 by decide) (by decide) (by decide)
                                      try unfold fM_base
                                      try unfold fM_base_0
                                      refine tt_bkv (P := fun z => ((1 : Int) ≤ z.toInt ∧ z.toInt ≤ 9) ∧ z.toInt = (o0.1 39).toInt + 1) ⟨iv_add (k_o0.1 39) (show (1 : Int) ≤ (1 : Int32).toInt ∧ (1 : Int32).toInt ≤ 1 by decide) (by decide) (by decide) (by decide) (by decide), iq_add (k_o0.1 39) (show (1 : Int) ≤ (1 : Int32).toInt ∧ (1 : Int32).toInt ≤ 1 by decide) (by decide) (by decide)⟩ (fun x96 qi97 => ?_)
                                      obtain ⟨i97, ei97⟩ := qi97
                                      refine tt_bs ?_
                                      refine tt_kv (P := fun z => (((-8) : Int) ≤ z.toInt ∧ z.toInt ≤ 207) ∧ z.toInt = v1.toInt - x96.toInt) ⟨iv_sub i46 i97 (by decide) (by decide) (by decide) (by decide), iq_sub i46 i97 (by decide) (by decide)⟩ (fun x98 qi99 => ?_)
                                      obtain ⟨i99, ei99⟩ := qi99
                                      refine tt_n (ix_rel (by omega) (by omega)) ?_
                                      have i100 : (0 : Int) ≤ x98.toInt ∧ x98.toInt ≤ 200 := (by omega)
                                      refine tt_kv (P := fun z => ((0 : Int) ≤ z.toInt ∧ z.toInt ≤ 417) ∧ z.toInt = (o0.2.1 45 x98.toNatClampNeg).toInt) ⟨(k80.2 45 _), rfl⟩ (fun x101 qi102 => ?_)
                                      obtain ⟨i102, ei102⟩ := qi102
                                      try unfold fM_gate_119
                                      exact tt_some ⟨k80, r81, trivial⟩
                                    · have wc94 : ¬ v2.toInt = (1 : Int) := c_ne c94
                                      have i103 : (2 : Int) ≤ v2.toInt ∧ v2.toInt ≤ 2 := nr_nela c94 i93 (show (1 : Int) ≤ (1 : Int32).toInt ∧ (1 : Int32).toInt ≤ 1 by decide) (by decide) (by decide)
                                      refine tt_n (ix_ok i46 (by decide) (by decide)) ?_
                                      refine tt_kv (P := fun z => (((-2147483648) : Int) ≤ z.toInt ∧ z.toInt ≤ 2147483647) ∧ z.toInt = (o0.2.1 46 v1.toNatClampNeg).toInt) ⟨(k80.2 46 _), rfl⟩ (fun x104 qi105 => ?_)
                                      obtain ⟨i105, ei105⟩ := qi105
                                      try unfold fM_gate_119
                                      exact tt_some ⟨k80, r81, trivial⟩
                                · have wc83 : ¬ (0 : Int) = (0 : Int) := c_ne c83
                                  exact (dd_ne c83 (show (0 : Int) ≤ (0 : Int32).toInt ∧ (0 : Int32).toInt ≤ 0 by decide) (show (0 : Int) ≤ (0 : Int32).toInt ∧ (0 : Int32).toInt ≤ 0 by decide)).elim
                              · have wc82 : (0 : Int) < (0 : Int) := c_nle c82
                                exact (dd_nle c82 (show (0 : Int) ≤ (0 : Int32).toInt ∧ (0 : Int32).toInt ≤ 0 by decide) (show (0 : Int) ≤ (0 : Int32).toInt ∧ (0 : Int32).toInt ≤ 0 by decide) (by decide)).elim
                            · have wc79 : ¬ (0 : Int) = (0 : Int) := c_ne c79
                              exact (dd_ne c79 (show (0 : Int) ≤ (0 : Int32).toInt ∧ (0 : Int32).toInt ≤ 0 by decide) (show (0 : Int) ≤ (0 : Int32).toInt ∧ (0 : Int32).toInt ≤ 0 by decide)).elim
                          · have wc78 : ¬ (0 : Int) = (0 : Int) := c_ne c78
                            exact (dd_ne c78 (show (0 : Int) ≤ (0 : Int32).toInt ∧ (0 : Int32).toInt ≤ 0 by decide) (show (0 : Int) ≤ (0 : Int32).toInt ∧ (0 : Int32).toInt ≤ 0 by decide)).elim
                        · have wc77 : ¬ (0 : Int) = (0 : Int) := c_ne c77
                          exact (dd_ne c77 (show (0 : Int) ≤ (0 : Int32).toInt ∧ (0 : Int32).toInt ≤ 0 by decide) (show (0 : Int) ≤ (0 : Int32).toInt ∧ (0 : Int32).toInt ≤ 0 by decide)).elim
def QM_output (v1 : Int32) (o0 : cf_O) (r : (Int32 × cf_O)) : Prop := ((0 : Int) ≤ r.1.toInt ∧ r.1.toInt ≤ 417) ∧ (okO I_M r.2) ∧ (Fr (fr_M [0] [] []) o0 r.2) ∧ ((0 : Int) ≤ (r.2.1 0).toInt ∧ (r.2.1 0).toInt ≤ 2) ∧ True
set_option maxHeartbeats 4000000 in
set_option maxRecDepth 100000 in
theorem sM_output (v1 : Int32) (o0 : cf_O) (k_o0 : okO I_M o0) (f_o0_95 : (0 : Int) ≤ (o0.1 95).toInt ∧ (o0.1 95).toInt ≤ 0) : tt (fM_output v1 o0) (QM_output v1 o0) := by
  have r_o0 : Fr (fr_M [0] [] []) o0 o0 := fr_rfl
  unfold fM_output fM_output_0
  refine tt_if (fun c1 => ?_) (fun c1 => ?_)
  · have i2 : (0 : Int) ≤ (o0.1 38).toInt ∧ (o0.1 38).toInt ≤ 0 := nr_eql c1 (k_o0.1 38) (show (0 : Int) ≤ (0 : Int32).toInt ∧ (0 : Int32).toInt ≤ 0 by decide) (by decide) (by decide)
    try unfold fM_output_13
    refine tt_if (fun c3 => ?_) (fun c3 => ?_)
    · try unfold fM_output_38
      try unfold fM_output_39
      try unfold fM_refuse
      try unfold fM_refuse_0
      refine tt_bif (fun c4 => ?_) (fun c4 => ?_)
      · exact (dd_eq c4 (show (1 : Int) ≤ (1 : Int32).toInt ∧ (1 : Int32).toInt ≤ 1 by decide) (show (0 : Int) ≤ (0 : Int32).toInt ∧ (0 : Int32).toInt ≤ 0 by decide) (by decide)).elim
      · try unfold fM_refuse_26
        refine tt_bko ?_
        have k5 := ok_fp (k := 0) (v := 1) k_o0 (iv_w (a := 0) (b := 3) (by decide) (by decide) (show (1 : Int) ≤ (1 : Int32).toInt ∧ (1 : Int32).toInt ≤ 1 by decide))
        have r6 := fr_fp (k := 0) (v := 1) r_o0 rfl
        refine tt_bif (fun c7 => ?_) (fun c7 => ?_)
        · exact (dd_le c7 (show (1 : Int) ≤ (1 : Int32).toInt ∧ (1 : Int32).toInt ≤ 1 by decide) (show (0 : Int) ≤ (0 : Int32).toInt ∧ (0 : Int32).toInt ≤ 0 by decide) (by decide)).elim
        · try unfold fM_refuse_41
          refine tt_bw (iv_b (show (1 : Int) ≤ (1 : Int32).toInt ∧ (1 : Int32).toInt ≤ 1 by decide) (by decide) (by decide)) ?_
          refine tt_bs ?_
          refine tt_if (fun c8 => ?_) (fun c8 => ?_)
          · exact (dd_eq c8 (show (1 : Int) ≤ (1 : Int32).toInt ∧ (1 : Int32).toInt ≤ 1 by decide) (show (0 : Int) ≤ (0 : Int32).toInt ∧ (0 : Int32).toInt ≤ 0 by decide) (by decide)).elim
          · exact tt_some ⟨(iv_w (a := 0) (b := 417) (by decide) (by decide) (show (0 : Int) ≤ (0 : Int32).toInt ∧ (0 : Int32).toInt ≤ 0 by decide)), k5, r6, (iv_w (a := 0) (b := 2) (by decide) (by decide) (show (1 : Int) ≤ (1 : Int32).toInt ∧ (1 : Int32).toInt ≤ 1 by decide)), trivial⟩
    · exact (dd_ne c3 i2 (show (0 : Int) ≤ (0 : Int32).toInt ∧ (0 : Int32).toInt ≤ 0 by decide)).elim
  · have i9 : (1 : Int) ≤ (o0.1 38).toInt ∧ (o0.1 38).toInt ≤ 1 := nr_nela c1 (k_o0.1 38) (show (0 : Int) ≤ (0 : Int32).toInt ∧ (0 : Int32).toInt ≤ 0 by decide) (by decide) (by decide)
    try unfold fM_output_13
    refine tt_if (fun c10 => ?_) (fun c10 => ?_)
    · exact (dd_eq c10 i9 (show (0 : Int) ≤ (0 : Int32).toInt ∧ (0 : Int32).toInt ≤ 0 by decide) (by decide)).elim
    · refine tt_kv (P := fun z => (((-1) : Int) ≤ z.toInt ∧ z.toInt ≤ 5) ∧ z.toInt = (o0.1 40).toInt - 1) ⟨iv_sub (k_o0.1 40) (show (1 : Int) ≤ (1 : Int32).toInt ∧ (1 : Int32).toInt ≤ 1 by decide) (by decide) (by decide) (by decide) (by decide), iq_sub (k_o0.1 40) (show (1 : Int) ≤ (1 : Int32).toInt ∧ (1 : Int32).toInt ≤ 1 by decide) (by decide) (by decide)⟩ (fun x11 qi12 => ?_)
      obtain ⟨i12, ei12⟩ := qi12
      try unfold fM_in
      try unfold fM_in_0
      refine tt_bif (fun c13 => ?_) (fun c13 => ?_)
      · have i14 : ((-2147483648) : Int) ≤ v1.toInt ∧ v1.toInt ≤ (-1) := nr_ltl c13 (iv_top v1) (show (0 : Int) ≤ (0 : Int32).toInt ∧ (0 : Int32).toInt ≤ 0 by decide) (by decide) (by decide)
        try unfold fM_in_14
        try unfold fM_in_15
        refine tt_bw (iv_b (show (0 : Int) ≤ (0 : Int32).toInt ∧ (0 : Int32).toInt ≤ 0 by decide) (by decide) (by decide)) ?_
        refine tt_bs ?_
        refine tt_if (fun c15 => ?_) (fun c15 => ?_)
        · try unfold fM_output_39
          try unfold fM_refuse
          try unfold fM_refuse_0
          refine tt_bif (fun c16 => ?_) (fun c16 => ?_)
          · refine tt_bif (fun c17 => ?_) (fun c17 => ?_)
            · exact (dd_eq c17 (show (1 : Int) ≤ (1 : Int32).toInt ∧ (1 : Int32).toInt ≤ 1 by decide) (show (0 : Int) ≤ (0 : Int32).toInt ∧ (0 : Int32).toInt ≤ 0 by decide) (by decide)).elim
            · try unfold fM_refuse_26
              refine tt_bko ?_
              have k18 := ok_fp (k := 0) (v := 2) k_o0 (iv_w (a := 0) (b := 3) (by decide) (by decide) (show (2 : Int) ≤ (2 : Int32).toInt ∧ (2 : Int32).toInt ≤ 2 by decide))
              have r19 := fr_fp (k := 0) (v := 2) r_o0 rfl
              refine tt_bif (fun c20 => ?_) (fun c20 => ?_)
              · exact (dd_le c20 (show (2 : Int) ≤ (2 : Int32).toInt ∧ (2 : Int32).toInt ≤ 2 by decide) (show (0 : Int) ≤ (0 : Int32).toInt ∧ (0 : Int32).toInt ≤ 0 by decide) (by decide)).elim
              · try unfold fM_refuse_41
                refine tt_bw (iv_b (show (1 : Int) ≤ (1 : Int32).toInt ∧ (1 : Int32).toInt ≤ 1 by decide) (by decide) (by decide)) ?_
                refine tt_bs ?_
                refine tt_if (fun c21 => ?_) (fun c21 => ?_)
                · exact (dd_eq c21 (show (1 : Int) ≤ (1 : Int32).toInt ∧ (1 : Int32).toInt ≤ 1 by decide) (show (0 : Int) ≤ (0 : Int32).toInt ∧ (0 : Int32).toInt ≤ 0 by decide) (by decide)).elim
                · exact tt_some ⟨(iv_w (a := 0) (b := 417) (by decide) (by decide) (show (0 : Int) ≤ (0 : Int32).toInt ∧ (0 : Int32).toInt ≤ 0 by decide)), k18, r19, (iv_w (a := 0) (b := 2) (by decide) (by decide) (show (2 : Int) ≤ (2 : Int32).toInt ∧ (2 : Int32).toInt ≤ 2 by decide)), trivial⟩
          · exact (dd_ne c16 (show (0 : Int) ≤ (0 : Int32).toInt ∧ (0 : Int32).toInt ≤ 0 by decide) (show (0 : Int) ≤ (0 : Int32).toInt ∧ (0 : Int32).toInt ≤ 0 by decide)).elim
        · exact (dd_ne c15 (show (0 : Int) ≤ (0 : Int32).toInt ∧ (0 : Int32).toInt ≤ 0 by decide) (show (0 : Int) ≤ (0 : Int32).toInt ∧ (0 : Int32).toInt ≤ 0 by decide)).elim
      · have i22 : (0 : Int) ≤ v1.toInt ∧ v1.toInt ≤ 2147483647 := nr_nltr c13 (show (0 : Int) ≤ (0 : Int32).toInt ∧ (0 : Int32).toInt ≤ 0 by decide) (iv_top v1) (by decide) (by decide)
        refine tt_bif (fun c23 => ?_) (fun c23 => ?_)
        · try unfold fM_in_14
          try unfold fM_in_15
          refine tt_bw (iv_b (show (0 : Int) ≤ (0 : Int32).toInt ∧ (0 : Int32).toInt ≤ 0 by decide) (by decide) (by decide)) ?_
          refine tt_bs ?_
          refine tt_if (fun c24 => ?_) (fun c24 => ?_)
          · try unfold fM_output_39
            try unfold fM_refuse
            try unfold fM_refuse_0
            refine tt_bif (fun c25 => ?_) (fun c25 => ?_)
            · refine tt_bif (fun c26 => ?_) (fun c26 => ?_)
              · exact (dd_eq c26 (show (1 : Int) ≤ (1 : Int32).toInt ∧ (1 : Int32).toInt ≤ 1 by decide) (show (0 : Int) ≤ (0 : Int32).toInt ∧ (0 : Int32).toInt ≤ 0 by decide) (by decide)).elim
              · try unfold fM_refuse_26
                refine tt_bko ?_
                have k27 := ok_fp (k := 0) (v := 2) k_o0 (iv_w (a := 0) (b := 3) (by decide) (by decide) (show (2 : Int) ≤ (2 : Int32).toInt ∧ (2 : Int32).toInt ≤ 2 by decide))
                have r28 := fr_fp (k := 0) (v := 2) r_o0 rfl
                refine tt_bif (fun c29 => ?_) (fun c29 => ?_)
                · exact (dd_le c29 (show (2 : Int) ≤ (2 : Int32).toInt ∧ (2 : Int32).toInt ≤ 2 by decide) (show (0 : Int) ≤ (0 : Int32).toInt ∧ (0 : Int32).toInt ≤ 0 by decide) (by decide)).elim
                · try unfold fM_refuse_41
                  refine tt_bw (iv_b (show (1 : Int) ≤ (1 : Int32).toInt ∧ (1 : Int32).toInt ≤ 1 by decide) (by decide) (by decide)) ?_
                  refine tt_bs ?_
                  refine tt_if (fun c30 => ?_) (fun c30 => ?_)
                  · exact (dd_eq c30 (show (1 : Int) ≤ (1 : Int32).toInt ∧ (1 : Int32).toInt ≤ 1 by decide) (show (0 : Int) ≤ (0 : Int32).toInt ∧ (0 : Int32).toInt ≤ 0 by decide) (by decide)).elim
                  · exact tt_some ⟨(iv_w (a := 0) (b := 417) (by decide) (by decide) (show (0 : Int) ≤ (0 : Int32).toInt ∧ (0 : Int32).toInt ≤ 0 by decide)), k27, r28, (iv_w (a := 0) (b := 2) (by decide) (by decide) (show (2 : Int) ≤ (2 : Int32).toInt ∧ (2 : Int32).toInt ≤ 2 by decide)), trivial⟩
            · exact (dd_ne c25 (show (0 : Int) ≤ (0 : Int32).toInt ∧ (0 : Int32).toInt ≤ 0 by decide) (show (0 : Int) ≤ (0 : Int32).toInt ∧ (0 : Int32).toInt ≤ 0 by decide)).elim
          · exact (dd_ne c24 (show (0 : Int) ≤ (0 : Int32).toInt ∧ (0 : Int32).toInt ≤ 0 by decide) (show (0 : Int) ≤ (0 : Int32).toInt ∧ (0 : Int32).toInt ≤ 0 by decide)).elim
        · have i31 : (0 : Int) ≤ v1.toInt ∧ v1.toInt ≤ 5 := nr_nltl c23 i22 i12 (by decide) (by decide)
          have i32 : (0 : Int) ≤ x11.toInt ∧ x11.toInt ≤ 5 := nr_nltr c23 i22 i12 (by decide) (by decide)
          have i33 : (1 : Int) ≤ (o0.1 40).toInt ∧ (o0.1 40).toInt ≤ 6 := by omega
          try unfold fM_in_15
          refine tt_bw (iv_b (show (1 : Int) ≤ (1 : Int32).toInt ∧ (1 : Int32).toInt ≤ 1 by decide) (by decide) (by decide)) ?_
          refine tt_bs ?_
          refine tt_if (fun c34 => ?_) (fun c34 => ?_)
          · exact (dd_eq c34 (show (1 : Int) ≤ (1 : Int32).toInt ∧ (1 : Int32).toInt ≤ 1 by decide) (show (0 : Int) ≤ (0 : Int32).toInt ∧ (0 : Int32).toInt ≤ 0 by decide) (by decide)).elim
          · try unfold fM_output_38
            try unfold fM_output_39
            try unfold fM_refuse
            try unfold fM_refuse_0
            refine tt_bif (fun c35 => ?_) (fun c35 => ?_)
            · refine tt_bif (fun c36 => ?_) (fun c36 => ?_)
              · refine tt_bif (fun c37 => ?_) (fun c37 => ?_)
                · try unfold fM_refuse_26
                  refine tt_bko ?_
                  have k38 := ok_fp (k := 0) (v := 0) k_o0 (iv_w (a := 0) (b := 3) (by decide) (by decide) (show (0 : Int) ≤ (0 : Int32).toInt ∧ (0 : Int32).toInt ≤ 0 by decide))
                  have r39 := fr_fp (k := 0) (v := 0) r_o0 rfl
                  refine tt_bif (fun c40 => ?_) (fun c40 => ?_)
                  · try unfold fM_refuse_41
                    refine tt_bw (iv_b (show (0 : Int) ≤ (0 : Int32).toInt ∧ (0 : Int32).toInt ≤ 0 by decide) (by decide) (by decide)) ?_
                    refine tt_bs ?_
                    refine tt_if (fun c41 => ?_) (fun c41 => ?_)
                    · refine tt_n (ix_ok i31 (by decide) (by decide)) ?_
                      refine tt_kv (P := fun z => (0 : Int) ≤ z.toInt ∧ z.toInt ≤ 417) (k38.2 47 _) (fun x42 i43 => ?_)
                      exact tt_some ⟨i43, k38, r39, (iv_w (a := 0) (b := 2) (by decide) (by decide) (show (0 : Int) ≤ (0 : Int32).toInt ∧ (0 : Int32).toInt ≤ 0 by decide)), trivial⟩
                    · exact (dd_ne c41 (show (0 : Int) ≤ (0 : Int32).toInt ∧ (0 : Int32).toInt ≤ 0 by decide) (show (0 : Int) ≤ (0 : Int32).toInt ∧ (0 : Int32).toInt ≤ 0 by decide)).elim
                  · exact (dd_nle c40 (show (0 : Int) ≤ (0 : Int32).toInt ∧ (0 : Int32).toInt ≤ 0 by decide) (show (0 : Int) ≤ (0 : Int32).toInt ∧ (0 : Int32).toInt ≤ 0 by decide) (by decide)).elim
                · exact (dd_ne c37 (show (0 : Int) ≤ (0 : Int32).toInt ∧ (0 : Int32).toInt ≤ 0 by decide) (show (0 : Int) ≤ (0 : Int32).toInt ∧ (0 : Int32).toInt ≤ 0 by decide)).elim
              · exact (dd_ne c36 (show (0 : Int) ≤ (0 : Int32).toInt ∧ (0 : Int32).toInt ≤ 0 by decide) (show (0 : Int) ≤ (0 : Int32).toInt ∧ (0 : Int32).toInt ≤ 0 by decide)).elim
            · exact (dd_ne c35 (show (0 : Int) ≤ (0 : Int32).toInt ∧ (0 : Int32).toInt ≤ 0 by decide) (show (0 : Int) ≤ (0 : Int32).toInt ∧ (0 : Int32).toInt ≤ 0 by decide)).elim
def QM_is (v1 : Int32) (o0 : cf_O) (r : (Int32)) : Prop := ((0 : Int) ≤ r.toInt ∧ r.toInt ≤ 1) ∧ True
set_option maxHeartbeats 4000000 in
set_option maxRecDepth 100000 in
theorem sM_is (v1 : Int32) (o0 : cf_O) (k_o0 : okO I_M o0) (i_v1 : (0 : Int) ≤ v1.toInt ∧ v1.toInt ≤ 417) (f_o0_0 : (0 : Int) ≤ (o0.1 0).toInt ∧ (o0.1 0).toInt ≤ 0) (f_o0_95 : (0 : Int) ≤ (o0.1 95).toInt ∧ (o0.1 95).toInt ≤ 0) : tt (fM_is v1 o0) (QM_is v1 o0) := by
  have r_o0 : Fr (fr_M [] [] []) o0 o0 := fr_rfl
  unfold fM_is fM_is_0
  refine tt_kv (P := fun z => (0 : Int) ≤ z.toInt ∧ z.toInt ≤ 208) (iv_div (k := 2) i_v1 (show (2 : Int) ≤ (2 : Int32).toInt ∧ (2 : Int32).toInt ≤ 2 by decide) (by decide) (by decide) (by decide) (by decide)) (fun x1 i2 => ?_)
  refine tt_n (ix_ok i2 (by decide) (by decide)) ?_
  refine tt_kv (P := fun z => (0 : Int) ≤ z.toInt ∧ z.toInt ≤ 1) (k_o0.2 75 _) (fun x3 i4 => ?_)
  refine tt_kv (P := fun z => (0 : Int) ≤ z.toInt ∧ z.toInt ≤ 1) (iv_rem (k := 2) i_v1 (show (2 : Int) ≤ (2 : Int32).toInt ∧ (2 : Int32).toInt ≤ 2 by decide) (by decide) (by decide) (by decide) (by decide)) (fun x5 i6 => ?_)
  refine tt_if (fun c7 => ?_) (fun c7 => ?_)
  · have i8 : (1 : Int) ≤ x5.toInt ∧ x5.toInt ≤ 1 := nr_eql c7 i6 (show (1 : Int) ≤ (1 : Int32).toInt ∧ (1 : Int32).toInt ≤ 1 by decide) (by decide) (by decide)
    try unfold fM_is_20
    refine tt_if (fun c9 => ?_) (fun c9 => ?_)
    · have i10 : (1 : Int) ≤ x3.toInt ∧ x3.toInt ≤ 1 := nr_eql c9 i4 (show (1 : Int) ≤ (1 : Int32).toInt ∧ (1 : Int32).toInt ≤ 1 by decide) (by decide) (by decide)
      try unfold fM_is_28
      refine tt_w (iv_b (show (0 : Int) ≤ (0 : Int32).toInt ∧ (0 : Int32).toInt ≤ 0 by decide) (by decide) (by decide)) ?_
      exact tt_some ⟨(iv_w (a := 0) (b := 1) (by decide) (by decide) (show (0 : Int) ≤ (0 : Int32).toInt ∧ (0 : Int32).toInt ≤ 0 by decide)), trivial⟩
    · have i11 : (0 : Int) ≤ x3.toInt ∧ x3.toInt ≤ 0 := nr_nelb c9 i4 (show (1 : Int) ≤ (1 : Int32).toInt ∧ (1 : Int32).toInt ≤ 1 by decide) (by decide) (by decide)
      try unfold fM_is_28
      refine tt_w (iv_b (show (1 : Int) ≤ (1 : Int32).toInt ∧ (1 : Int32).toInt ≤ 1 by decide) (by decide) (by decide)) ?_
      exact tt_some ⟨(iv_w (a := 0) (b := 1) (by decide) (by decide) (show (1 : Int) ≤ (1 : Int32).toInt ∧ (1 : Int32).toInt ≤ 1 by decide)), trivial⟩
  · have i12 : (0 : Int) ≤ x5.toInt ∧ x5.toInt ≤ 0 := nr_nelb c7 i6 (show (1 : Int) ≤ (1 : Int32).toInt ∧ (1 : Int32).toInt ≤ 1 by decide) (by decide) (by decide)
    try unfold fM_is_20
    refine tt_if (fun c13 => ?_) (fun c13 => ?_)
    · have i14 : (0 : Int) ≤ x3.toInt ∧ x3.toInt ≤ 0 := nr_eql c13 i4 (show (0 : Int) ≤ (0 : Int32).toInt ∧ (0 : Int32).toInt ≤ 0 by decide) (by decide) (by decide)
      try unfold fM_is_28
      refine tt_w (iv_b (show (0 : Int) ≤ (0 : Int32).toInt ∧ (0 : Int32).toInt ≤ 0 by decide) (by decide) (by decide)) ?_
      exact tt_some ⟨(iv_w (a := 0) (b := 1) (by decide) (by decide) (show (0 : Int) ≤ (0 : Int32).toInt ∧ (0 : Int32).toInt ≤ 0 by decide)), trivial⟩
    · have i15 : (1 : Int) ≤ x3.toInt ∧ x3.toInt ≤ 1 := nr_nela c13 i4 (show (0 : Int) ≤ (0 : Int32).toInt ∧ (0 : Int32).toInt ≤ 0 by decide) (by decide) (by decide)
      try unfold fM_is_28
      refine tt_w (iv_b (show (1 : Int) ≤ (1 : Int32).toInt ∧ (1 : Int32).toInt ≤ 1 by decide) (by decide) (by decide)) ?_
      exact tt_some ⟨(iv_w (a := 0) (b := 1) (by decide) (by decide) (show (1 : Int) ≤ (1 : Int32).toInt ∧ (1 : Int32).toInt ≤ 1 by decide)), trivial⟩
def QM_value (v1 : Int32) (o0 : cf_O) (r : (Int32 × cf_O)) : Prop := ((0 : Int) ≤ r.1.toInt ∧ r.1.toInt ≤ 127) ∧ (okO I_M r.2) ∧ (Fr (fr_M [0] [75] []) o0 r.2) ∧ ((0 : Int) ≤ (r.2.1 0).toInt ∧ (r.2.1 0).toInt ≤ 2) ∧ True
def HM_value (yv1 : Int32) (yo0 : cf_O) (n : Nat) : Prop := (∀ (v1 : Int32) (v2 : Int32) (o0 : cf_O), (okO I_M o0) → (Fr (fr_M [0] [75] []) yo0 o0) → ((0 : Int) ≤ v1.toInt ∧ v1.toInt ≤ 255) → ((0 : Int) ≤ v2.toInt ∧ v2.toInt ≤ 8) → ((0 : Int) ≤ (o0.1 0).toInt ∧ (o0.1 0).toInt ≤ 0) → ((1 : Int) ≤ (o0.1 38).toInt ∧ (o0.1 38).toInt ≤ 1) → ((0 : Int) ≤ (o0.1 95).toInt ∧ (o0.1 95).toInt ≤ 0) → 416 + (8 - v2.toInt) * 2 < (n : Int) → tt (gM_value n 0 v1 v2 0 o0) (QM_value yv1 yo0)) ∧ (∀ (v2 : Int32) (o0 : cf_O), (okO I_M o0) → (Fr (fr_M [0] [75] []) yo0 o0) → ((0 : Int) ≤ v2.toInt ∧ v2.toInt ≤ 200) → ((0 : Int) ≤ (o0.1 0).toInt ∧ (o0.1 0).toInt ≤ 0) → ((1 : Int) ≤ (o0.1 38).toInt ∧ (o0.1 38).toInt ≤ 1) → ((0 : Int) ≤ (o0.1 95).toInt ∧ (o0.1 95).toInt ≤ 0) → 14 + (200 - v2.toInt) * 2 < (n : Int) → tt (gM_value n 1 0 v2 0 o0) (QM_value yv1 yo0)) ∧ (∀ (v2 : Int32) (v3 : Int32) (o0 : cf_O), (okO I_M o0) → (Fr (fr_M [0] [75] []) yo0 o0) → ((0 : Int) ≤ v2.toInt ∧ v2.toInt ≤ 127) → ((0 : Int) ≤ v3.toInt ∧ v3.toInt ≤ 6) → ((0 : Int) ≤ (o0.1 0).toInt ∧ (o0.1 0).toInt ≤ 0) → ((1 : Int) ≤ (o0.1 38).toInt ∧ (o0.1 38).toInt ≤ 1) → ((0 : Int) ≤ (o0.1 95).toInt ∧ (o0.1 95).toInt ≤ 0) → 0 + (6 - v3.toInt) * 2 < (n : Int) → tt (gM_value n 2 0 v2 v3 o0) (QM_value yv1 yo0))
set_option maxHeartbeats 4000000 in
set_option maxRecDepth 100000 in
theorem tM_value_157 {yv1 : Int32} {yo0 : cf_O} {n : Nat} (H : HM_value yv1 yo0 n) (v2 : Int32) (v3 : Int32) (o0 : cf_O) (k_o0 : okO I_M o0) (r_o0 : Fr (fr_M [0] [75] []) yo0 o0) (i_v2 : (0 : Int) ≤ v2.toInt ∧ v2.toInt ≤ 127) (i_v3 : (0 : Int) ≤ v3.toInt ∧ v3.toInt ≤ 6) (f_o0_0 : (0 : Int) ≤ (o0.1 0).toInt ∧ (o0.1 0).toInt ≤ 0) (f_o0_38 : (1 : Int) ≤ (o0.1 38).toInt ∧ (o0.1 38).toInt ≤ 1) (f_o0_95 : (0 : Int) ≤ (o0.1 95).toInt ∧ (o0.1 95).toInt ≤ 0) (hm : 0 + (6 - v3.toInt) * 2 ≤ (n : Int)) : tt (fM_value_157 (gM_value n) v2 v3 o0) (QM_value yv1 yo0) := by
  unfold fM_value_157
  refine tt_if (fun c1 => ?_) (fun c1 => ?_)
  · exact tt_some ⟨i_v2, k_o0, r_o0, (iv_w (a := 0) (b := 2) (by decide) (by decide) f_o0_0), trivial⟩
  · have i2 : (0 : Int) ≤ v3.toInt ∧ v3.toInt ≤ 5 := nr_nlel c1 i_v3 (k_o0.1 40) (by decide) (by decide)
    have i3 : (1 : Int) ≤ (o0.1 40).toInt ∧ (o0.1 40).toInt ≤ 6 := nr_nler c1 i_v3 (k_o0.1 40) (by decide) (by decide)
    refine tt_n (ix_ok i2 (by decide) (by decide)) ?_
    refine tt_kv (P := fun z => (0 : Int) ≤ z.toInt ∧ z.toInt ≤ 417) (k_o0.2 47 _) (fun x4 i5 => ?_)
    refine tt_b (sM_is _ _ k_o0 i5 f_o0_0 f_o0_95) (fun q6 hq6 => ?_)
    obtain ⟨i_q6, -⟩ := hq6
    refine tt_if (fun c7 => ?_) (fun c7 => ?_)
    · have i8 : (0 : Int) ≤ q6.toInt ∧ q6.toInt ≤ 0 := nr_eql c7 i_q6 (show (0 : Int) ≤ (0 : Int32).toInt ∧ (0 : Int32).toInt ≤ 0 by decide) (by decide) (by decide)
      try unfold fM_value_187
      refine tt_kv (P := fun z => ((1 : Int) ≤ z.toInt ∧ z.toInt ≤ 6) ∧ z.toInt = v3.toInt + 1) ⟨iv_add i2 (show (1 : Int) ≤ (1 : Int32).toInt ∧ (1 : Int32).toInt ≤ 1 by decide) (by decide) (by decide) (by decide) (by decide), iq_add i2 (show (1 : Int) ≤ (1 : Int32).toInt ∧ (1 : Int32).toInt ≤ 1 by decide) (by decide) (by decide)⟩ (fun x9 qi10 => ?_)
      obtain ⟨i10, ei10⟩ := qi10
      exact H.2.2 _ _ _ k_o0 r_o0 i_v2 (iv_w (a := 0) (b := 6) (by decide) (by decide) i10) f_o0_0 f_o0_38 f_o0_95 (show 0 + (6 - x9.toInt) * 2 < (n : Int) by omega)
    · have i11 : (1 : Int) ≤ q6.toInt ∧ q6.toInt ≤ 1 := nr_nela c7 i_q6 (show (0 : Int) ≤ (0 : Int32).toInt ∧ (0 : Int32).toInt ≤ 0 by decide) (by decide) (by decide)
      refine tt_kv (P := fun z => (1 : Int) ≤ z.toInt ∧ z.toInt ≤ 32) (iv_shl (p := 0) (q := 5) (show (1 : Int) ≤ (1 : Int32).toInt ∧ (1 : Int32).toInt ≤ 1 by decide) i2 (by decide) (by decide) (by decide) (by decide) (by decide)) (fun x12 i13 => ?_)
      refine tt_kv (P := fun z => (0 : Int) ≤ z.toInt ∧ z.toInt ≤ 127) (iv_or (w := 7) i_v2 i13 (by decide) (by decide) (by decide) (by decide) (by decide) (by decide) (by decide)) (fun x14 i15 => ?_)
      try unfold fM_value_187
      refine tt_kv (P := fun z => ((1 : Int) ≤ z.toInt ∧ z.toInt ≤ 6) ∧ z.toInt = v3.toInt + 1) ⟨iv_add i2 (show (1 : Int) ≤ (1 : Int32).toInt ∧ (1 : Int32).toInt ≤ 1 by decide) (by decide) (by decide) (by decide) (by decide), iq_add i2 (show (1 : Int) ≤ (1 : Int32).toInt ∧ (1 : Int32).toInt ≤ 1 by decide) (by decide) (by decide)⟩ (fun x16 qi17 => ?_)
      obtain ⟨i17, ei17⟩ := qi17
      exact H.2.2 _ _ _ k_o0 r_o0 i15 (iv_w (a := 0) (b := 6) (by decide) (by decide) i17) f_o0_0 f_o0_38 f_o0_95 (show 0 + (6 - x16.toInt) * 2 < (n : Int) by omega)
set_option maxHeartbeats 4000000 in
set_option maxRecDepth 100000 in
theorem tM_value_97 {yv1 : Int32} {yo0 : cf_O} {n : Nat} (H : HM_value yv1 yo0 n) (v2 : Int32) (o0 : cf_O) (k_o0 : okO I_M o0) (r_o0 : Fr (fr_M [0] [75] []) yo0 o0) (i_v2 : (0 : Int) ≤ v2.toInt ∧ v2.toInt ≤ 200) (f_o0_0 : (0 : Int) ≤ (o0.1 0).toInt ∧ (o0.1 0).toInt ≤ 0) (f_o0_38 : (1 : Int) ≤ (o0.1 38).toInt ∧ (o0.1 38).toInt ≤ 1) (f_o0_95 : (0 : Int) ≤ (o0.1 95).toInt ∧ (o0.1 95).toInt ≤ 0) (hm : 14 + (200 - v2.toInt) * 2 ≤ (n : Int)) : tt (fM_value_97 (gM_value n) v2 o0) (QM_value yv1 yo0) := by
  unfold fM_value_97
  refine tt_if (fun c1 => ?_) (fun c1 => ?_)
  · exact H.2.2 _ _ _ k_o0 r_o0 (iv_w (a := 0) (b := 127) (by decide) (by decide) (show (0 : Int) ≤ (0 : Int32).toInt ∧ (0 : Int32).toInt ≤ 0 by decide)) (iv_w (a := 0) (b := 6) (by decide) (by decide) (show (0 : Int) ≤ (0 : Int32).toInt ∧ (0 : Int32).toInt ≤ 0 by decide)) f_o0_0 f_o0_38 f_o0_95 (show 0 + (6 - 0) * 2 < (n : Int) by omega)
  · have i2 : (0 : Int) ≤ v2.toInt ∧ v2.toInt ≤ 199 := nr_nlel c1 i_v2 (k_o0.1 43) (by decide) (by decide)
    have i3 : (1 : Int) ≤ (o0.1 43).toInt ∧ (o0.1 43).toInt ≤ 200 := nr_nler c1 i_v2 (k_o0.1 43) (by decide) (by decide)
    try unfold fM_base
    try unfold fM_base_0
    refine tt_bkv (P := fun z => ((1 : Int) ≤ z.toInt ∧ z.toInt ≤ 9) ∧ z.toInt = (o0.1 39).toInt + 1) ⟨iv_add (k_o0.1 39) (show (1 : Int) ≤ (1 : Int32).toInt ∧ (1 : Int32).toInt ≤ 1 by decide) (by decide) (by decide) (by decide) (by decide), iq_add (k_o0.1 39) (show (1 : Int) ≤ (1 : Int32).toInt ∧ (1 : Int32).toInt ≤ 1 by decide) (by decide) (by decide)⟩ (fun x4 qi5 => ?_)
    obtain ⟨i5, ei5⟩ := qi5
    refine tt_bs ?_
    refine tt_kv (P := fun z => (1 : Int) ≤ z.toInt ∧ z.toInt ≤ 208) (iv_add i5 i2 (by decide) (by decide) (by decide) (by decide)) (fun x6 i7 => ?_)
    refine tt_n (ix_ok i2 (by decide) (by decide)) ?_
    refine tt_kv (P := fun z => (0 : Int) ≤ z.toInt ∧ z.toInt ≤ 417) (k_o0.2 44 _) (fun x8 i9 => ?_)
    refine tt_b (sM_is _ _ k_o0 i9 f_o0_0 f_o0_95) (fun q10 hq10 => ?_)
    obtain ⟨i_q10, -⟩ := hq10
    refine tt_if (fun c11 => ?_) (fun c11 => ?_)
    · have i12 : (0 : Int) ≤ q10.toInt ∧ q10.toInt ≤ 0 := nr_eql c11 i_q10 (show (0 : Int) ≤ (0 : Int32).toInt ∧ (0 : Int32).toInt ≤ 0 by decide) (by decide) (by decide)
      try unfold fM_value_145
      try unfold fM_value_146
      refine tt_n (ix_ok i7 (by decide) (by decide)) ?_
      refine tt_ko ?_
      have k13 := ok_xp (k := 75) (i := x6.toNatClampNeg) (v := (vp_nar .boolean 0)) k_o0 (iv_nz _)
      have r14 := fr_xp (k := 75) (i := x6.toNatClampNeg) (v := (vp_nar .boolean 0)) r_o0 rfl
      refine tt_kv (P := fun z => ((1 : Int) ≤ z.toInt ∧ z.toInt ≤ 200) ∧ z.toInt = v2.toInt + 1) ⟨iv_add i2 (show (1 : Int) ≤ (1 : Int32).toInt ∧ (1 : Int32).toInt ≤ 1 by decide) (by decide) (by decide) (by decide) (by decide), iq_add i2 (show (1 : Int) ≤ (1 : Int32).toInt ∧ (1 : Int32).toInt ≤ 1 by decide) (by decide) (by decide)⟩ (fun x15 qi16 => ?_)
      obtain ⟨i16, ei16⟩ := qi16
      exact H.2.1 _ _ k13 r14 (iv_w (a := 0) (b := 200) (by decide) (by decide) i16) f_o0_0 f_o0_38 f_o0_95 (show 14 + (200 - x15.toInt) * 2 < (n : Int) by omega)
    · have i17 : (1 : Int) ≤ q10.toInt ∧ q10.toInt ≤ 1 := nr_nela c11 i_q10 (show (0 : Int) ≤ (0 : Int32).toInt ∧ (0 : Int32).toInt ≤ 0 by decide) (by decide) (by decide)
      refine tt_n (ix_ok i2 (by decide) (by decide)) ?_
      refine tt_kv (P := fun z => (0 : Int) ≤ z.toInt ∧ z.toInt ≤ 417) (k_o0.2 45 _) (fun x18 i19 => ?_)
      refine tt_b (sM_is _ _ k_o0 i19 f_o0_0 f_o0_95) (fun q20 hq20 => ?_)
      obtain ⟨i_q20, -⟩ := hq20
      refine tt_if (fun c21 => ?_) (fun c21 => ?_)
      · have i22 : (0 : Int) ≤ q20.toInt ∧ q20.toInt ≤ 0 := nr_eql c21 i_q20 (show (0 : Int) ≤ (0 : Int32).toInt ∧ (0 : Int32).toInt ≤ 0 by decide) (by decide) (by decide)
        try unfold fM_value_145
        try unfold fM_value_146
        refine tt_n (ix_ok i7 (by decide) (by decide)) ?_
        refine tt_ko ?_
        have k23 := ok_xp (k := 75) (i := x6.toNatClampNeg) (v := (vp_nar .boolean 0)) k_o0 (iv_nz _)
        have r24 := fr_xp (k := 75) (i := x6.toNatClampNeg) (v := (vp_nar .boolean 0)) r_o0 rfl
        refine tt_kv (P := fun z => ((1 : Int) ≤ z.toInt ∧ z.toInt ≤ 200) ∧ z.toInt = v2.toInt + 1) ⟨iv_add i2 (show (1 : Int) ≤ (1 : Int32).toInt ∧ (1 : Int32).toInt ≤ 1 by decide) (by decide) (by decide) (by decide) (by decide), iq_add i2 (show (1 : Int) ≤ (1 : Int32).toInt ∧ (1 : Int32).toInt ≤ 1 by decide) (by decide) (by decide)⟩ (fun x25 qi26 => ?_)
        obtain ⟨i26, ei26⟩ := qi26
        exact H.2.1 _ _ k23 r24 (iv_w (a := 0) (b := 200) (by decide) (by decide) i26) f_o0_0 f_o0_38 f_o0_95 (show 14 + (200 - x25.toInt) * 2 < (n : Int) by omega)
      · have i27 : (1 : Int) ≤ q20.toInt ∧ q20.toInt ≤ 1 := nr_nela c21 i_q20 (show (0 : Int) ≤ (0 : Int32).toInt ∧ (0 : Int32).toInt ≤ 0 by decide) (by decide) (by decide)
        try unfold fM_value_146
        refine tt_n (ix_ok i7 (by decide) (by decide)) ?_
        refine tt_ko ?_
        have k28 := ok_xp (k := 75) (i := x6.toNatClampNeg) (v := (vp_nar .boolean 1)) k_o0 (iv_nz _)
        have r29 := fr_xp (k := 75) (i := x6.toNatClampNeg) (v := (vp_nar .boolean 1)) r_o0 rfl
        refine tt_kv (P := fun z => ((1 : Int) ≤ z.toInt ∧ z.toInt ≤ 200) ∧ z.toInt = v2.toInt + 1) ⟨iv_add i2 (show (1 : Int) ≤ (1 : Int32).toInt ∧ (1 : Int32).toInt ≤ 1 by decide) (by decide) (by decide) (by decide) (by decide), iq_add i2 (show (1 : Int) ≤ (1 : Int32).toInt ∧ (1 : Int32).toInt ≤ 1 by decide) (by decide) (by decide)⟩ (fun x30 qi31 => ?_)
        obtain ⟨i31, ei31⟩ := qi31
        exact H.2.1 _ _ k28 r29 (iv_w (a := 0) (b := 200) (by decide) (by decide) i31) f_o0_0 f_o0_38 f_o0_95 (show 14 + (200 - x30.toInt) * 2 < (n : Int) by omega)
set_option maxHeartbeats 4000000 in
set_option maxRecDepth 100000 in
theorem tM_value_59 {yv1 : Int32} {yo0 : cf_O} {n : Nat} (H : HM_value yv1 yo0 n) (v1 : Int32) (v2 : Int32) (o0 : cf_O) (k_o0 : okO I_M o0) (r_o0 : Fr (fr_M [0] [75] []) yo0 o0) (i_v1 : (0 : Int) ≤ v1.toInt ∧ v1.toInt ≤ 255) (i_v2 : (0 : Int) ≤ v2.toInt ∧ v2.toInt ≤ 8) (f_o0_0 : (0 : Int) ≤ (o0.1 0).toInt ∧ (o0.1 0).toInt ≤ 0) (f_o0_38 : (1 : Int) ≤ (o0.1 38).toInt ∧ (o0.1 38).toInt ≤ 1) (f_o0_95 : (0 : Int) ≤ (o0.1 95).toInt ∧ (o0.1 95).toInt ≤ 0) (hm : 416 + (8 - v2.toInt) * 2 ≤ (n : Int)) : tt (fM_value_59 (gM_value n) v1 v2 o0) (QM_value yv1 yo0) := by
  unfold fM_value_59
  refine tt_if (fun c1 => ?_) (fun c1 => ?_)
  · exact H.2.1 _ _ k_o0 r_o0 (iv_w (a := 0) (b := 200) (by decide) (by decide) (show (0 : Int) ≤ (0 : Int32).toInt ∧ (0 : Int32).toInt ≤ 0 by decide)) f_o0_0 f_o0_38 f_o0_95 (show 14 + (200 - 0) * 2 < (n : Int) by omega)
  · have i2 : (0 : Int) ≤ v2.toInt ∧ v2.toInt ≤ 7 := nr_nlel c1 i_v2 (k_o0.1 39) (by decide) (by decide)
    have i3 : (1 : Int) ≤ (o0.1 39).toInt ∧ (o0.1 39).toInt ≤ 8 := nr_nler c1 i_v2 (k_o0.1 39) (by decide) (by decide)
    refine tt_kv (P := fun z => ((1 : Int) ≤ z.toInt ∧ z.toInt ≤ 8) ∧ z.toInt = v2.toInt + 1) ⟨iv_add i2 (show (1 : Int) ≤ (1 : Int32).toInt ∧ (1 : Int32).toInt ≤ 1 by decide) (by decide) (by decide) (by decide) (by decide), iq_add i2 (show (1 : Int) ≤ (1 : Int32).toInt ∧ (1 : Int32).toInt ≤ 1 by decide) (by decide) (by decide)⟩ (fun x4 qi5 => ?_)
    obtain ⟨i5, ei5⟩ := qi5
    refine tt_kv (P := fun z => (0 : Int) ≤ z.toInt ∧ z.toInt ≤ 255) (iv_shr (p := 0) (q := 7) i_v1 i2 (by decide) (by decide) (by decide) (by decide)) (fun x6 i7 => ?_)
    refine tt_kv (P := fun z => (0 : Int) ≤ z.toInt ∧ z.toInt ≤ 1) (iv_and (show (1 : Int) ≤ (1 : Int32).toInt ∧ (1 : Int32).toInt ≤ 1 by decide) (by decide) (by decide) (by decide)) (fun x8 i9 => ?_)
    refine tt_if (fun c10 => ?_) (fun c10 => ?_)
    · have i11 : (1 : Int) ≤ x8.toInt ∧ x8.toInt ≤ 1 := nr_eql c10 i9 (show (1 : Int) ≤ (1 : Int32).toInt ∧ (1 : Int32).toInt ≤ 1 by decide) (by decide) (by decide)
      try unfold fM_value_88
      refine tt_n (ix_ok i5 (by decide) (by decide)) ?_
      refine tt_ko ?_
      have k12 := ok_xp (k := 75) (i := x4.toNatClampNeg) (v := (vp_nar .boolean 1)) k_o0 (iv_nz _)
      have r13 := fr_xp (k := 75) (i := x4.toNatClampNeg) (v := (vp_nar .boolean 1)) r_o0 rfl
      refine tt_kv (P := fun z => ((1 : Int) ≤ z.toInt ∧ z.toInt ≤ 8) ∧ z.toInt = v2.toInt + 1) ⟨iv_add i2 (show (1 : Int) ≤ (1 : Int32).toInt ∧ (1 : Int32).toInt ≤ 1 by decide) (by decide) (by decide) (by decide) (by decide), iq_add i2 (show (1 : Int) ≤ (1 : Int32).toInt ∧ (1 : Int32).toInt ≤ 1 by decide) (by decide) (by decide)⟩ (fun x14 qi15 => ?_)
      obtain ⟨i15, ei15⟩ := qi15
      exact H.1 _ _ _ k12 r13 i_v1 (iv_w (a := 0) (b := 8) (by decide) (by decide) i15) f_o0_0 f_o0_38 f_o0_95 (show 416 + (8 - x14.toInt) * 2 < (n : Int) by omega)
    · have i16 : (0 : Int) ≤ x8.toInt ∧ x8.toInt ≤ 0 := nr_nelb c10 i9 (show (1 : Int) ≤ (1 : Int32).toInt ∧ (1 : Int32).toInt ≤ 1 by decide) (by decide) (by decide)
      try unfold fM_value_88
      refine tt_n (ix_ok i5 (by decide) (by decide)) ?_
      refine tt_ko ?_
      have k17 := ok_xp (k := 75) (i := x4.toNatClampNeg) (v := (vp_nar .boolean 0)) k_o0 (iv_nz _)
      have r18 := fr_xp (k := 75) (i := x4.toNatClampNeg) (v := (vp_nar .boolean 0)) r_o0 rfl
      refine tt_kv (P := fun z => ((1 : Int) ≤ z.toInt ∧ z.toInt ≤ 8) ∧ z.toInt = v2.toInt + 1) ⟨iv_add i2 (show (1 : Int) ≤ (1 : Int32).toInt ∧ (1 : Int32).toInt ≤ 1 by decide) (by decide) (by decide) (by decide) (by decide), iq_add i2 (show (1 : Int) ≤ (1 : Int32).toInt ∧ (1 : Int32).toInt ≤ 1 by decide) (by decide) (by decide)⟩ (fun x19 qi20 => ?_)
      obtain ⟨i20, ei20⟩ := qi20
      exact H.1 _ _ _ k17 r18 i_v1 (iv_w (a := 0) (b := 8) (by decide) (by decide) i20) f_o0_0 f_o0_38 f_o0_95 (show 416 + (8 - x19.toInt) * 2 < (n : Int) by omega)
set_option maxHeartbeats 4000000 in
set_option maxRecDepth 100000 in
theorem hM_value (yv1 : Int32) (yo0 : cf_O) : ∀ n, HM_value yv1 yo0 n := by
  intro n
  induction n with
  | zero => exact ⟨(fun v1 v2 o0 k_o0 r_o0 i_v1 i_v2 f_o0_0 f_o0_38 f_o0_95 hm => by exact absurd (show 416 + (8 - v2.toInt) * 2 < (0 : Int) from hm) (by omega)), (fun v2 o0 k_o0 r_o0 i_v2 f_o0_0 f_o0_38 f_o0_95 hm => by exact absurd (show 14 + (200 - v2.toInt) * 2 < (0 : Int) from hm) (by omega)), (fun v2 v3 o0 k_o0 r_o0 i_v2 i_v3 f_o0_0 f_o0_38 f_o0_95 hm => by exact absurd (show 0 + (6 - v3.toInt) * 2 < (0 : Int) from hm) (by omega))⟩
  | succ n ih => exact ⟨(fun v1 v2 o0 k_o0 r_o0 i_v1 i_v2 f_o0_0 f_o0_38 f_o0_95 hm => tM_value_59 ih v1 v2 o0 k_o0 r_o0 i_v1 i_v2 f_o0_0 f_o0_38 f_o0_95 (by omega)), (fun v2 o0 k_o0 r_o0 i_v2 f_o0_0 f_o0_38 f_o0_95 hm => tM_value_97 ih v2 o0 k_o0 r_o0 i_v2 f_o0_0 f_o0_38 f_o0_95 (by omega)), (fun v2 v3 o0 k_o0 r_o0 i_v2 i_v3 f_o0_0 f_o0_38 f_o0_95 hm => tM_value_157 ih v2 v3 o0 k_o0 r_o0 i_v2 i_v3 f_o0_0 f_o0_38 f_o0_95 (by omega))⟩
set_option maxHeartbeats 4000000 in
set_option maxRecDepth 100000 in
theorem sM_value (v1 : Int32) (o0 : cf_O) (k_o0 : okO I_M o0) (f_o0_95 : (0 : Int) ≤ (o0.1 95).toInt ∧ (o0.1 95).toInt ≤ 0) : tt (fM_value v1 o0) (QM_value v1 o0) := by
  have H := hM_value v1 o0 cfFU
  have hm : (435 : Int) ≤ (cfFU : Nat) := by decide
  have r_o0 : Fr (fr_M [0] [75] []) o0 o0 := fr_rfl
  unfold fM_value fM_value_0
  refine tt_if (fun c1 => ?_) (fun c1 => ?_)
  · have i2 : (0 : Int) ≤ (o0.1 38).toInt ∧ (o0.1 38).toInt ≤ 0 := nr_eql c1 (k_o0.1 38) (show (0 : Int) ≤ (0 : Int32).toInt ∧ (0 : Int32).toInt ≤ 0 by decide) (by decide) (by decide)
    try unfold fM_value_13
    refine tt_if (fun c3 => ?_) (fun c3 => ?_)
    · try unfold fM_value_40
      try unfold fM_value_41
      try unfold fM_refuse
      try unfold fM_refuse_0
      refine tt_bif (fun c4 => ?_) (fun c4 => ?_)
      · exact (dd_eq c4 (show (1 : Int) ≤ (1 : Int32).toInt ∧ (1 : Int32).toInt ≤ 1 by decide) (show (0 : Int) ≤ (0 : Int32).toInt ∧ (0 : Int32).toInt ≤ 0 by decide) (by decide)).elim
      · try unfold fM_refuse_26
        refine tt_bko ?_
        have k5 := ok_fp (k := 0) (v := 1) k_o0 (iv_w (a := 0) (b := 3) (by decide) (by decide) (show (1 : Int) ≤ (1 : Int32).toInt ∧ (1 : Int32).toInt ≤ 1 by decide))
        have r6 := fr_fp (k := 0) (v := 1) r_o0 rfl
        refine tt_bif (fun c7 => ?_) (fun c7 => ?_)
        · exact (dd_le c7 (show (1 : Int) ≤ (1 : Int32).toInt ∧ (1 : Int32).toInt ≤ 1 by decide) (show (0 : Int) ≤ (0 : Int32).toInt ∧ (0 : Int32).toInt ≤ 0 by decide) (by decide)).elim
        · try unfold fM_refuse_41
          refine tt_bw (iv_b (show (1 : Int) ≤ (1 : Int32).toInt ∧ (1 : Int32).toInt ≤ 1 by decide) (by decide) (by decide)) ?_
          refine tt_bs ?_
          refine tt_if (fun c8 => ?_) (fun c8 => ?_)
          · exact (dd_eq c8 (show (1 : Int) ≤ (1 : Int32).toInt ∧ (1 : Int32).toInt ≤ 1 by decide) (show (0 : Int) ≤ (0 : Int32).toInt ∧ (0 : Int32).toInt ≤ 0 by decide) (by decide)).elim
          · exact tt_some ⟨(iv_w (a := 0) (b := 127) (by decide) (by decide) (show (0 : Int) ≤ (0 : Int32).toInt ∧ (0 : Int32).toInt ≤ 0 by decide)), k5, r6, (iv_w (a := 0) (b := 2) (by decide) (by decide) (show (1 : Int) ≤ (1 : Int32).toInt ∧ (1 : Int32).toInt ≤ 1 by decide)), trivial⟩
    · exact (dd_ne c3 i2 (show (0 : Int) ≤ (0 : Int32).toInt ∧ (0 : Int32).toInt ≤ 0 by decide)).elim
  · have i9 : (1 : Int) ≤ (o0.1 38).toInt ∧ (o0.1 38).toInt ≤ 1 := nr_nela c1 (k_o0.1 38) (show (0 : Int) ≤ (0 : Int32).toInt ∧ (0 : Int32).toInt ≤ 0 by decide) (by decide) (by decide)
    try unfold fM_value_13
    refine tt_if (fun c10 => ?_) (fun c10 => ?_)
    · exact (dd_eq c10 i9 (show (0 : Int) ≤ (0 : Int32).toInt ∧ (0 : Int32).toInt ≤ 0 by decide) (by decide)).elim
    · refine tt_kv (P := fun z => (1 : Int) ≤ z.toInt ∧ z.toInt ≤ 256) (iv_shl (p := 0) (q := 8) (show (1 : Int) ≤ (1 : Int32).toInt ∧ (1 : Int32).toInt ≤ 1 by decide) (k_o0.1 39) (by decide) (by decide) (by decide) (by decide) (by decide)) (fun x11 i12 => ?_)
      refine tt_kv (P := fun z => ((0 : Int) ≤ z.toInt ∧ z.toInt ≤ 255) ∧ z.toInt = x11.toInt - 1) ⟨iv_sub i12 (show (1 : Int) ≤ (1 : Int32).toInt ∧ (1 : Int32).toInt ≤ 1 by decide) (by decide) (by decide) (by decide) (by decide), iq_sub i12 (show (1 : Int) ≤ (1 : Int32).toInt ∧ (1 : Int32).toInt ≤ 1 by decide) (by decide) (by decide)⟩ (fun x13 qi14 => ?_)
      obtain ⟨i14, ei14⟩ := qi14
      try unfold fM_in
      try unfold fM_in_0
      refine tt_bif (fun c15 => ?_) (fun c15 => ?_)
      · have i16 : ((-2147483648) : Int) ≤ v1.toInt ∧ v1.toInt ≤ (-1) := nr_ltl c15 (iv_top v1) (show (0 : Int) ≤ (0 : Int32).toInt ∧ (0 : Int32).toInt ≤ 0 by decide) (by decide) (by decide)
        try unfold fM_in_14
        try unfold fM_in_15
        refine tt_bw (iv_b (show (0 : Int) ≤ (0 : Int32).toInt ∧ (0 : Int32).toInt ≤ 0 by decide) (by decide) (by decide)) ?_
        refine tt_bs ?_
        refine tt_if (fun c17 => ?_) (fun c17 => ?_)
        · try unfold fM_value_41
          try unfold fM_refuse
          try unfold fM_refuse_0
          refine tt_bif (fun c18 => ?_) (fun c18 => ?_)
          · refine tt_bif (fun c19 => ?_) (fun c19 => ?_)
            · exact (dd_eq c19 (show (1 : Int) ≤ (1 : Int32).toInt ∧ (1 : Int32).toInt ≤ 1 by decide) (show (0 : Int) ≤ (0 : Int32).toInt ∧ (0 : Int32).toInt ≤ 0 by decide) (by decide)).elim
            · try unfold fM_refuse_26
              refine tt_bko ?_
              have k20 := ok_fp (k := 0) (v := 2) k_o0 (iv_w (a := 0) (b := 3) (by decide) (by decide) (show (2 : Int) ≤ (2 : Int32).toInt ∧ (2 : Int32).toInt ≤ 2 by decide))
              have r21 := fr_fp (k := 0) (v := 2) r_o0 rfl
              refine tt_bif (fun c22 => ?_) (fun c22 => ?_)
              · exact (dd_le c22 (show (2 : Int) ≤ (2 : Int32).toInt ∧ (2 : Int32).toInt ≤ 2 by decide) (show (0 : Int) ≤ (0 : Int32).toInt ∧ (0 : Int32).toInt ≤ 0 by decide) (by decide)).elim
              · try unfold fM_refuse_41
                refine tt_bw (iv_b (show (1 : Int) ≤ (1 : Int32).toInt ∧ (1 : Int32).toInt ≤ 1 by decide) (by decide) (by decide)) ?_
                refine tt_bs ?_
                refine tt_if (fun c23 => ?_) (fun c23 => ?_)
                · exact (dd_eq c23 (show (1 : Int) ≤ (1 : Int32).toInt ∧ (1 : Int32).toInt ≤ 1 by decide) (show (0 : Int) ≤ (0 : Int32).toInt ∧ (0 : Int32).toInt ≤ 0 by decide) (by decide)).elim
                · exact tt_some ⟨(iv_w (a := 0) (b := 127) (by decide) (by decide) (show (0 : Int) ≤ (0 : Int32).toInt ∧ (0 : Int32).toInt ≤ 0 by decide)), k20, r21, (iv_w (a := 0) (b := 2) (by decide) (by decide) (show (2 : Int) ≤ (2 : Int32).toInt ∧ (2 : Int32).toInt ≤ 2 by decide)), trivial⟩
          · exact (dd_ne c18 (show (0 : Int) ≤ (0 : Int32).toInt ∧ (0 : Int32).toInt ≤ 0 by decide) (show (0 : Int) ≤ (0 : Int32).toInt ∧ (0 : Int32).toInt ≤ 0 by decide)).elim
        · exact (dd_ne c17 (show (0 : Int) ≤ (0 : Int32).toInt ∧ (0 : Int32).toInt ≤ 0 by decide) (show (0 : Int) ≤ (0 : Int32).toInt ∧ (0 : Int32).toInt ≤ 0 by decide)).elim
      · have i24 : (0 : Int) ≤ v1.toInt ∧ v1.toInt ≤ 2147483647 := nr_nltr c15 (show (0 : Int) ≤ (0 : Int32).toInt ∧ (0 : Int32).toInt ≤ 0 by decide) (iv_top v1) (by decide) (by decide)
        refine tt_bif (fun c25 => ?_) (fun c25 => ?_)
        · have i26 : (1 : Int) ≤ v1.toInt ∧ v1.toInt ≤ 2147483647 := nr_ltr c25 i14 i24 (by decide) (by decide)
          try unfold fM_in_14
          try unfold fM_in_15
          refine tt_bw (iv_b (show (0 : Int) ≤ (0 : Int32).toInt ∧ (0 : Int32).toInt ≤ 0 by decide) (by decide) (by decide)) ?_
          refine tt_bs ?_
          refine tt_if (fun c27 => ?_) (fun c27 => ?_)
          · try unfold fM_value_41
            try unfold fM_refuse
            try unfold fM_refuse_0
            refine tt_bif (fun c28 => ?_) (fun c28 => ?_)
            · refine tt_bif (fun c29 => ?_) (fun c29 => ?_)
              · exact (dd_eq c29 (show (1 : Int) ≤ (1 : Int32).toInt ∧ (1 : Int32).toInt ≤ 1 by decide) (show (0 : Int) ≤ (0 : Int32).toInt ∧ (0 : Int32).toInt ≤ 0 by decide) (by decide)).elim
              · try unfold fM_refuse_26
                refine tt_bko ?_
                have k30 := ok_fp (k := 0) (v := 2) k_o0 (iv_w (a := 0) (b := 3) (by decide) (by decide) (show (2 : Int) ≤ (2 : Int32).toInt ∧ (2 : Int32).toInt ≤ 2 by decide))
                have r31 := fr_fp (k := 0) (v := 2) r_o0 rfl
                refine tt_bif (fun c32 => ?_) (fun c32 => ?_)
                · exact (dd_le c32 (show (2 : Int) ≤ (2 : Int32).toInt ∧ (2 : Int32).toInt ≤ 2 by decide) (show (0 : Int) ≤ (0 : Int32).toInt ∧ (0 : Int32).toInt ≤ 0 by decide) (by decide)).elim
                · try unfold fM_refuse_41
                  refine tt_bw (iv_b (show (1 : Int) ≤ (1 : Int32).toInt ∧ (1 : Int32).toInt ≤ 1 by decide) (by decide) (by decide)) ?_
                  refine tt_bs ?_
                  refine tt_if (fun c33 => ?_) (fun c33 => ?_)
                  · exact (dd_eq c33 (show (1 : Int) ≤ (1 : Int32).toInt ∧ (1 : Int32).toInt ≤ 1 by decide) (show (0 : Int) ≤ (0 : Int32).toInt ∧ (0 : Int32).toInt ≤ 0 by decide) (by decide)).elim
                  · exact tt_some ⟨(iv_w (a := 0) (b := 127) (by decide) (by decide) (show (0 : Int) ≤ (0 : Int32).toInt ∧ (0 : Int32).toInt ≤ 0 by decide)), k30, r31, (iv_w (a := 0) (b := 2) (by decide) (by decide) (show (2 : Int) ≤ (2 : Int32).toInt ∧ (2 : Int32).toInt ≤ 2 by decide)), trivial⟩
            · exact (dd_ne c28 (show (0 : Int) ≤ (0 : Int32).toInt ∧ (0 : Int32).toInt ≤ 0 by decide) (show (0 : Int) ≤ (0 : Int32).toInt ∧ (0 : Int32).toInt ≤ 0 by decide)).elim
          · exact (dd_ne c27 (show (0 : Int) ≤ (0 : Int32).toInt ∧ (0 : Int32).toInt ≤ 0 by decide) (show (0 : Int) ≤ (0 : Int32).toInt ∧ (0 : Int32).toInt ≤ 0 by decide)).elim
        · have i34 : (0 : Int) ≤ v1.toInt ∧ v1.toInt ≤ 255 := nr_nltl c25 i24 i14 (by decide) (by decide)
          try unfold fM_in_15
          refine tt_bw (iv_b (show (1 : Int) ≤ (1 : Int32).toInt ∧ (1 : Int32).toInt ≤ 1 by decide) (by decide) (by decide)) ?_
          refine tt_bs ?_
          refine tt_if (fun c35 => ?_) (fun c35 => ?_)
          · exact (dd_eq c35 (show (1 : Int) ≤ (1 : Int32).toInt ∧ (1 : Int32).toInt ≤ 1 by decide) (show (0 : Int) ≤ (0 : Int32).toInt ∧ (0 : Int32).toInt ≤ 0 by decide) (by decide)).elim
          · try unfold fM_value_40
            try unfold fM_value_41
            try unfold fM_refuse
            try unfold fM_refuse_0
            refine tt_bif (fun c36 => ?_) (fun c36 => ?_)
            · refine tt_bif (fun c37 => ?_) (fun c37 => ?_)
              · refine tt_bif (fun c38 => ?_) (fun c38 => ?_)
                · try unfold fM_refuse_26
                  refine tt_bko ?_
                  have k39 := ok_fp (k := 0) (v := 0) k_o0 (iv_w (a := 0) (b := 3) (by decide) (by decide) (show (0 : Int) ≤ (0 : Int32).toInt ∧ (0 : Int32).toInt ≤ 0 by decide))
                  have r40 := fr_fp (k := 0) (v := 0) r_o0 rfl
                  refine tt_bif (fun c41 => ?_) (fun c41 => ?_)
                  · try unfold fM_refuse_41
                    refine tt_bw (iv_b (show (0 : Int) ≤ (0 : Int32).toInt ∧ (0 : Int32).toInt ≤ 0 by decide) (by decide) (by decide)) ?_
                    refine tt_bs ?_
                    refine tt_if (fun c42 => ?_) (fun c42 => ?_)
                    · refine tt_n (ix_ok (show (0 : Int) ≤ (0 : Int32).toInt ∧ (0 : Int32).toInt ≤ 0 by decide) (by decide) (by decide)) ?_
                      refine tt_ko ?_
                      have k43 := ok_xp (k := 75) (i := (0 : Int32).toNatClampNeg) (v := (vp_nar .boolean 0)) k39 (iv_nz _)
                      have r44 := fr_xp (k := 75) (i := (0 : Int32).toNatClampNeg) (v := (vp_nar .boolean 0)) r40 rfl
                      exact H.1 _ _ _ k43 r44 i34 (iv_w (a := 0) (b := 8) (by decide) (by decide) (show (0 : Int) ≤ (0 : Int32).toInt ∧ (0 : Int32).toInt ≤ 0 by decide)) (show (0 : Int) ≤ (0 : Int32).toInt ∧ (0 : Int32).toInt ≤ 0 by decide) i9 f_o0_95 (show 416 + (8 - 0) * 2 < ((cfFU : Nat) : Int) by omega)
                    · exact (dd_ne c42 (show (0 : Int) ≤ (0 : Int32).toInt ∧ (0 : Int32).toInt ≤ 0 by decide) (show (0 : Int) ≤ (0 : Int32).toInt ∧ (0 : Int32).toInt ≤ 0 by decide)).elim
                  · exact (dd_nle c41 (show (0 : Int) ≤ (0 : Int32).toInt ∧ (0 : Int32).toInt ≤ 0 by decide) (show (0 : Int) ≤ (0 : Int32).toInt ∧ (0 : Int32).toInt ≤ 0 by decide) (by decide)).elim
                · exact (dd_ne c38 (show (0 : Int) ≤ (0 : Int32).toInt ∧ (0 : Int32).toInt ≤ 0 by decide) (show (0 : Int) ≤ (0 : Int32).toInt ∧ (0 : Int32).toInt ≤ 0 by decide)).elim
              · exact (dd_ne c37 (show (0 : Int) ≤ (0 : Int32).toInt ∧ (0 : Int32).toInt ≤ 0 by decide) (show (0 : Int) ≤ (0 : Int32).toInt ∧ (0 : Int32).toInt ≤ 0 by decide)).elim
            · exact (dd_ne c36 (show (0 : Int) ≤ (0 : Int32).toInt ∧ (0 : Int32).toInt ≤ 0 by decide) (show (0 : Int) ≤ (0 : Int32).toInt ∧ (0 : Int32).toInt ≤ 0 by decide)).elim
def QM_goesApart (v1 : Int32) (o0 : cf_O) (r : (Int32)) : Prop := ((0 : Int) ≤ r.toInt ∧ r.toInt ≤ 1) ∧ (Ga r.toInt v1.toInt (o0.1 39).toInt (o0.2.1 48)) ∧ True
set_option maxHeartbeats 4000000 in
set_option maxRecDepth 100000 in
theorem sM_goesApart (v1 : Int32) (o0 : cf_O) (k_o0 : okO I_M o0) (i_v1 : (0 : Int) ≤ v1.toInt ∧ v1.toInt ≤ 417) (f_o0_0 : (0 : Int) ≤ (o0.1 0).toInt ∧ (o0.1 0).toInt ≤ 0) (f_o0_38 : (1 : Int) ≤ (o0.1 38).toInt ∧ (o0.1 38).toInt ≤ 1) (f_o0_43 : (1 : Int) ≤ (o0.1 43).toInt ∧ (o0.1 43).toInt ≤ 200) (f_o0_95 : (0 : Int) ≤ (o0.1 95).toInt ∧ (o0.1 95).toInt ≤ 0) : tt (fM_goesApart v1 o0) (QM_goesApart v1 o0) := by
  have r_o0 : Fr (fr_M [] [] []) o0 o0 := fr_rfl
  unfold fM_goesApart fM_goesApart_0
  have g_o0_39 : (0 : Int) ≤ (o0.1 39).toInt ∧ (o0.1 39).toInt ≤ 8 := k_o0.1 39
  refine tt_kv (P := fun z => ((0 : Int) ≤ z.toInt ∧ z.toInt ≤ 1) ∧ z = (v1 - ((v1 / 2) * 2)) ∧ z.toInt = v1.toInt % 2) ⟨iv_rem (k := 2) i_v1 (show (2 : Int) ≤ (2 : Int32).toInt ∧ (2 : Int32).toInt ≤ 2 by decide) (by decide) (by decide) (by decide) (by decide), rfl, i_rem (x := v1) (y := 2) (Int.le_trans (by decide) i_v1.1) (by decide)⟩ (fun x1 qi2 => ?_)
  obtain ⟨i2, ax1, ei2⟩ := qi2
  refine tt_if (fun c3 => ?_) (fun c3 => ?_)
  · have wc3 : x1.toInt = (0 : Int) := c_eq c3
    have i4 : (0 : Int) ≤ x1.toInt ∧ x1.toInt ≤ 0 := nr_eql c3 i2 (show (0 : Int) ≤ (0 : Int32).toInt ∧ (0 : Int32).toInt ≤ 0 by decide) (by decide) (by decide)
    refine tt_kv (P := fun z => ((0 : Int) ≤ z.toInt ∧ z.toInt ≤ 208) ∧ z = (v1 / 2) ∧ z.toInt = v1.toInt / 2) ⟨iv_div (k := 2) i_v1 (show (2 : Int) ≤ (2 : Int32).toInt ∧ (2 : Int32).toInt ≤ 2 by decide) (by decide) (by decide) (by decide) (by decide), rfl, i_dv (Int.le_trans (by decide) i_v1.1) (by decide)⟩ (fun x5 qi6 => ?_)
    obtain ⟨i6, ax5, ei6⟩ := qi6
    try unfold fM_base
    try unfold fM_base_0
    refine tt_bkv (P := fun z => ((1 : Int) ≤ z.toInt ∧ z.toInt ≤ 9) ∧ z = ((o0.1 39) + 1) ∧ z.toInt = (o0.1 39).toInt + 1) ⟨iv_add (k_o0.1 39) (show (1 : Int) ≤ (1 : Int32).toInt ∧ (1 : Int32).toInt ≤ 1 by decide) (by decide) (by decide) (by decide) (by decide), rfl, iq_add (k_o0.1 39) (show (1 : Int) ≤ (1 : Int32).toInt ∧ (1 : Int32).toInt ≤ 1 by decide) (by decide) (by decide)⟩ (fun x7 qi8 => ?_)
    obtain ⟨i8, ax7, ei8⟩ := qi8
    refine tt_bs ?_
    refine tt_if (fun c9 => ?_) (fun c9 => ?_)
    · have wc9 : x5.toInt < x7.toInt := c_lt c9
      have i10 : (0 : Int) ≤ x5.toInt ∧ x5.toInt ≤ 8 := nr_ltl c9 i6 i8 (by decide) (by decide)
      try unfold fM_goesApart_32
      try unfold fM_goesApart_33
      refine tt_w (iv_b (show (0 : Int) ≤ (0 : Int32).toInt ∧ (0 : Int32).toInt ≤ 0 by decide) (by decide) (by decide)) ?_
      have p11 : Ga 0 v1.toInt (o0.1 39).toInt (o0.2.1 48) := by first | exact Ga_f rfl (by omega) | exact Ga_t (by assumption) rfl (by omega) (by omega) (by omega) (by omega) (by omega) | exact Ga_g (by assumption) rfl (by omega) (by omega) (by omega)
      exact tt_some ⟨(iv_w (a := 0) (b := 1) (by decide) (by decide) (show (0 : Int) ≤ (0 : Int32).toInt ∧ (0 : Int32).toInt ≤ 0 by decide)), p11, trivial⟩
    · have wc9 : x7.toInt ≤ x5.toInt := c_nlt c9
      have i12 : (1 : Int) ≤ x5.toInt ∧ x5.toInt ≤ 208 := nr_nltr c9 i8 i6 (by decide) (by decide)
      refine tt_kv (P := fun z => x5 = z ∧ True) ⟨ax5, trivial⟩ (fun x13 hx13 => ?_)
      obtain ⟨rfl, -⟩ := hx13
      refine tt_n (ix_ok i12 (by decide) (by decide)) ?_
      refine tt_kv (P := fun z => ((0 : Int) ≤ z.toInt ∧ z.toInt ≤ 406) ∧ z = (o0.2.1 48 x5.toNatClampNeg) ∧ z.toInt = (o0.2.1 48 x5.toNatClampNeg).toInt) ⟨(k_o0.2 48 _), rfl, rfl⟩ (fun x14 qi15 => ?_)
      obtain ⟨i15, ax14, ei15⟩ := qi15
      refine tt_if (fun c16 => ?_) (fun c16 => ?_)
      · have wc16 : x14.toInt = (1 : Int) := c_eq c16
        have i17 : (1 : Int) ≤ x14.toInt ∧ x14.toInt ≤ 1 := nr_eql c16 i15 (show (1 : Int) ≤ (1 : Int32).toInt ∧ (1 : Int32).toInt ≤ 1 by decide) (by decide) (by decide)
        try unfold fM_goesApart_33
        refine tt_w (iv_b (show (1 : Int) ≤ (1 : Int32).toInt ∧ (1 : Int32).toInt ≤ 1 by decide) (by decide) (by decide)) ?_
        have p18 : Ga 1 v1.toInt (o0.1 39).toInt (o0.2.1 48) := by first | exact Ga_f rfl (by omega) | exact Ga_t (by assumption) rfl (by omega) (by omega) (by omega) (by omega) (by omega) | exact Ga_g (by assumption) rfl (by omega) (by omega) (by omega)
        exact tt_some ⟨(iv_w (a := 0) (b := 1) (by decide) (by decide) (show (1 : Int) ≤ (1 : Int32).toInt ∧ (1 : Int32).toInt ≤ 1 by decide)), p18, trivial⟩
      · have wc16 : ¬ x14.toInt = (1 : Int) := c_ne c16
        try unfold fM_goesApart_32
        try unfold fM_goesApart_33
        refine tt_w (iv_b (show (0 : Int) ≤ (0 : Int32).toInt ∧ (0 : Int32).toInt ≤ 0 by decide) (by decide) (by decide)) ?_
        have p19 : Ga 0 v1.toInt (o0.1 39).toInt (o0.2.1 48) := by first | exact Ga_f rfl (by omega) | exact Ga_t (by assumption) rfl (by omega) (by omega) (by omega) (by omega) (by omega) | exact Ga_g (by assumption) rfl (by omega) (by omega) (by omega)
        exact tt_some ⟨(iv_w (a := 0) (b := 1) (by decide) (by decide) (show (0 : Int) ≤ (0 : Int32).toInt ∧ (0 : Int32).toInt ≤ 0 by decide)), p19, trivial⟩
  · have wc3 : ¬ x1.toInt = (0 : Int) := c_ne c3
    have i20 : (1 : Int) ≤ x1.toInt ∧ x1.toInt ≤ 1 := nr_nela c3 i2 (show (0 : Int) ≤ (0 : Int32).toInt ∧ (0 : Int32).toInt ≤ 0 by decide) (by decide) (by decide)
    try unfold fM_goesApart_32
    try unfold fM_goesApart_33
    refine tt_w (iv_b (show (0 : Int) ≤ (0 : Int32).toInt ∧ (0 : Int32).toInt ≤ 0 by decide) (by decide) (by decide)) ?_
    have p21 : Ga 0 v1.toInt (o0.1 39).toInt (o0.2.1 48) := by first | exact Ga_f rfl (by omega) | exact Ga_t (by assumption) rfl (by omega) (by omega) (by omega) (by omega) (by omega) | exact Ga_g (by assumption) rfl (by omega) (by omega) (by omega)
    exact tt_some ⟨(iv_w (a := 0) (b := 1) (by decide) (by decide) (show (0 : Int) ≤ (0 : Int32).toInt ∧ (0 : Int32).toInt ≤ 0 by decide)), p21, trivial⟩
def QM_look (o0 : cf_O) (r : (cf_O)) : Prop := (okO I_M r) ∧ (Fr (fr_M [] [48, 49, 50] []) o0 r) ∧ (Lk (-1) ((r.1 39).toInt + 1) (r.1 43).toInt (r.1 40).toInt (r.2.1 47) (r.2.1 44) (r.2.1 45) (r.2.1 49) (r.2.1 48)) ∧ (Ap ((r.1 39).toInt + 1) (r.1 43).toInt (r.2.1 44) (r.2.1 45) (r.2.1 49) (r.2.1 48) (r.2.1 50)) ∧ True
def HM_look (yo0 : cf_O) (n : Nat) : Prop := (∀ (v1 : Int32) (o0 : cf_O), (okO I_M o0) → (Fr (fr_M [] [48, 49, 50] []) yo0 o0) → ((0 : Int) ≤ v1.toInt ∧ v1.toInt ≤ 210) → ((0 : Int) ≤ (o0.1 0).toInt ∧ (o0.1 0).toInt ≤ 0) → ((1 : Int) ≤ (o0.1 38).toInt ∧ (o0.1 38).toInt ≤ 1) → ((0 : Int) ≤ (o0.1 95).toInt ∧ (o0.1 95).toInt ≤ 0) → (Gx ((o0.1 39).toInt + 1) (o0.1 43).toInt (o0.2.1 44) (o0.2.1 45)) → (Fc v1.toInt (o0.2.1 49)) → (Fc v1.toInt (o0.2.1 48)) → (Fc v1.toInt (o0.2.1 50)) → 818 + (210 - v1.toInt) * 2 < (n : Int) → tt (gM_look n 0 v1 o0) (QM_look yo0)) ∧ (∀ (v1 : Int32) (o0 : cf_O), (okO I_M o0) → (Fr (fr_M [] [48, 49, 50] []) yo0 o0) → ((0 : Int) ≤ v1.toInt ∧ v1.toInt ≤ 6) → ((0 : Int) ≤ (o0.1 0).toInt ∧ (o0.1 0).toInt ≤ 0) → ((1 : Int) ≤ (o0.1 38).toInt ∧ (o0.1 38).toInt ≤ 1) → ((0 : Int) ≤ (o0.1 95).toInt ∧ (o0.1 95).toInt ≤ 0) → (Gx ((o0.1 39).toInt + 1) (o0.1 43).toInt (o0.2.1 44) (o0.2.1 45)) → (Fc 210 (o0.2.1 50)) → (Uo v1.toInt (o0.2.1 47) (o0.2.1 48)) → (Nk v1.toInt (o0.2.1 47) (o0.2.1 49)) → (v1.toInt ≤ (o0.1 40).toInt) → 804 + (6 - v1.toInt) * 2 < (n : Int) → tt (gM_look n 1 v1 o0) (QM_look yo0)) ∧ (∀ (v1 : Int32) (o0 : cf_O), (okO I_M o0) → (Fr (fr_M [] [48, 49, 50] []) yo0 o0) → (((-1) : Int) ≤ v1.toInt ∧ v1.toInt ≤ 199) → ((0 : Int) ≤ (o0.1 0).toInt ∧ (o0.1 0).toInt ≤ 0) → ((1 : Int) ≤ (o0.1 38).toInt ∧ (o0.1 38).toInt ≤ 1) → ((0 : Int) ≤ (o0.1 95).toInt ∧ (o0.1 95).toInt ≤ 0) → (Gx ((o0.1 39).toInt + 1) (o0.1 43).toInt (o0.2.1 44) (o0.2.1 45)) → (Fc 210 (o0.2.1 50)) → (Lk v1.toInt ((o0.1 39).toInt + 1) (o0.1 43).toInt (o0.1 40).toInt (o0.2.1 47) (o0.2.1 44) (o0.2.1 45) (o0.2.1 49) (o0.2.1 48)) → (v1.toInt < (o0.1 43).toInt) → 402 + (v1.toInt - (-1)) * 2 < (n : Int) → tt (gM_look n 2 v1 o0) (QM_look yo0)) ∧ (∀ (v1 : Int32) (o0 : cf_O), (okO I_M o0) → (Fr (fr_M [] [48, 49, 50] []) yo0 o0) → ((0 : Int) ≤ v1.toInt ∧ v1.toInt ≤ 200) → ((0 : Int) ≤ (o0.1 0).toInt ∧ (o0.1 0).toInt ≤ 0) → ((1 : Int) ≤ (o0.1 38).toInt ∧ (o0.1 38).toInt ≤ 1) → ((0 : Int) ≤ (o0.1 95).toInt ∧ (o0.1 95).toInt ≤ 0) → (Gx ((o0.1 39).toInt + 1) (o0.1 43).toInt (o0.2.1 44) (o0.2.1 45)) → (Lk (-1) ((o0.1 39).toInt + 1) (o0.1 43).toInt (o0.1 40).toInt (o0.2.1 47) (o0.2.1 44) (o0.2.1 45) (o0.2.1 49) (o0.2.1 48)) → (Ap ((o0.1 39).toInt + 1) (o0.1 43).toInt (o0.2.1 44) (o0.2.1 45) (o0.2.1 49) (o0.2.1 48) (o0.2.1 50)) → 0 + (200 - v1.toInt) * 2 < (n : Int) → tt (gM_look n 3 v1 o0) (QM_look yo0))
set_option maxHeartbeats 4000000 in
set_option maxRecDepth 100000 in
theorem tM_look_178 {yo0 : cf_O} {n : Nat} (H : HM_look yo0 n) (v1 : Int32) (o0 : cf_O) (k_o0 : okO I_M o0) (r_o0 : Fr (fr_M [] [48, 49, 50] []) yo0 o0) (i_v1 : (0 : Int) ≤ v1.toInt ∧ v1.toInt ≤ 200) (f_o0_0 : (0 : Int) ≤ (o0.1 0).toInt ∧ (o0.1 0).toInt ≤ 0) (f_o0_38 : (1 : Int) ≤ (o0.1 38).toInt ∧ (o0.1 38).toInt ≤ 1) (f_o0_95 : (0 : Int) ≤ (o0.1 95).toInt ∧ (o0.1 95).toInt ≤ 0) (x_0 : Gx ((o0.1 39).toInt + 1) (o0.1 43).toInt (o0.2.1 44) (o0.2.1 45)) (x_1 : Lk (-1) ((o0.1 39).toInt + 1) (o0.1 43).toInt (o0.1 40).toInt (o0.2.1 47) (o0.2.1 44) (o0.2.1 45) (o0.2.1 49) (o0.2.1 48)) (x_2 : Ap ((o0.1 39).toInt + 1) (o0.1 43).toInt (o0.2.1 44) (o0.2.1 45) (o0.2.1 49) (o0.2.1 48) (o0.2.1 50)) (hm : 0 + (200 - v1.toInt) * 2 ≤ (n : Int)) : tt (fM_look_178 (gM_look n) v1 o0) (QM_look yo0) := by
  unfold fM_look_178
  have g_o0_39 : (0 : Int) ≤ (o0.1 39).toInt ∧ (o0.1 39).toInt ≤ 8 := k_o0.1 39
  have ey_o0_39 : (o0.1 39).toInt = (yo0.1 39).toInt := congrArg Int32.toInt (r_o0.1 39 rfl)
  have g_o0_40 : (0 : Int) ≤ (o0.1 40).toInt ∧ (o0.1 40).toInt ≤ 6 := k_o0.1 40
  have ey_o0_40 : (o0.1 40).toInt = (yo0.1 40).toInt := congrArg Int32.toInt (r_o0.1 40 rfl)
  have g_o0_43 : (0 : Int) ≤ (o0.1 43).toInt ∧ (o0.1 43).toInt ≤ 200 := k_o0.1 43
  have ey_o0_43 : (o0.1 43).toInt = (yo0.1 43).toInt := congrArg Int32.toInt (r_o0.1 43 rfl)
  refine tt_if (fun c1 => ?_) (fun c1 => ?_)
  · have wc1 : (o0.1 43).toInt ≤ v1.toInt := c_le c1
    exact tt_some ⟨k_o0, r_o0, x_1, x_2, trivial⟩
  · have wc1 : v1.toInt < (o0.1 43).toInt := c_nle c1
    have i2 : (0 : Int) ≤ v1.toInt ∧ v1.toInt ≤ 199 := nr_nlel c1 i_v1 (k_o0.1 43) (by decide) (by decide)
    have i3 : (1 : Int) ≤ (o0.1 43).toInt ∧ (o0.1 43).toInt ≤ 200 := nr_nler c1 i_v1 (k_o0.1 43) (by decide) (by decide)
    try unfold fM_base
    try unfold fM_base_0
    refine tt_bkv (P := fun z => ((1 : Int) ≤ z.toInt ∧ z.toInt ≤ 9) ∧ z = ((o0.1 39) + 1) ∧ z.toInt = (o0.1 39).toInt + 1) ⟨iv_add (k_o0.1 39) (show (1 : Int) ≤ (1 : Int32).toInt ∧ (1 : Int32).toInt ≤ 1 by decide) (by decide) (by decide) (by decide) (by decide), rfl, iq_add (k_o0.1 39) (show (1 : Int) ≤ (1 : Int32).toInt ∧ (1 : Int32).toInt ≤ 1 by decide) (by decide) (by decide)⟩ (fun x4 qi5 => ?_)
    obtain ⟨i5, ax4, ei5⟩ := qi5
    refine tt_bs ?_
    refine tt_kv (P := fun z => ((1 : Int) ≤ z.toInt ∧ z.toInt ≤ 208) ∧ z = (x4 + v1) ∧ z.toInt = x4.toInt + v1.toInt) ⟨iv_add i5 i2 (by decide) (by decide) (by decide) (by decide), rfl, iq_add i5 i2 (by decide) (by decide)⟩ (fun x6 qi7 => ?_)
    obtain ⟨i7, ax6, ei7⟩ := qi7
    refine tt_n (ix_ok i7 (by decide) (by decide)) ?_
    refine tt_kv (P := fun z => ((0 : Int) ≤ z.toInt ∧ z.toInt ≤ 1) ∧ z = (o0.2.1 49 x6.toNatClampNeg) ∧ z.toInt = (o0.2.1 49 x6.toNatClampNeg).toInt) ⟨(k_o0.2 49 _), rfl, rfl⟩ (fun x8 qi9 => ?_)
    obtain ⟨i9, ax8, ei9⟩ := qi9
    refine tt_if (fun c10 => ?_) (fun c10 => ?_)
    · have wc10 : x8.toInt = (0 : Int) := c_eq c10
      have i11 : (0 : Int) ≤ x8.toInt ∧ x8.toInt ≤ 0 := nr_eql c10 i9 (show (0 : Int) ≤ (0 : Int32).toInt ∧ (0 : Int32).toInt ≤ 0 by decide) (by decide) (by decide)
      try unfold fM_look_294
      refine tt_kv (P := fun z => ((1 : Int) ≤ z.toInt ∧ z.toInt ≤ 200) ∧ z = (v1 + 1) ∧ z.toInt = v1.toInt + 1) ⟨iv_add i2 (show (1 : Int) ≤ (1 : Int32).toInt ∧ (1 : Int32).toInt ≤ 1 by decide) (by decide) (by decide) (by decide) (by decide), rfl, iq_add i2 (show (1 : Int) ≤ (1 : Int32).toInt ∧ (1 : Int32).toInt ≤ 1 by decide) (by decide) (by decide)⟩ (fun x12 qi13 => ?_)
      obtain ⟨i13, ax12, ei13⟩ := qi13
      exact H.2.2.2 _ _ k_o0 r_o0 (iv_w (a := 0) (b := 200) (by decide) (by decide) i13) f_o0_0 f_o0_38 f_o0_95 x_0 x_1 x_2 (show 0 + (200 - x12.toInt) * 2 < (n : Int) by omega)
    · have wc10 : ¬ x8.toInt = (0 : Int) := c_ne c10
      have i14 : (1 : Int) ≤ x8.toInt ∧ x8.toInt ≤ 1 := nr_nela c10 i9 (show (0 : Int) ≤ (0 : Int32).toInt ∧ (0 : Int32).toInt ≤ 0 by decide) (by decide) (by decide)
      refine tt_n (ix_ok i2 (by decide) (by decide)) ?_
      refine tt_kv (P := fun z => ((0 : Int) ≤ z.toInt ∧ z.toInt ≤ 417) ∧ z = (o0.2.1 44 v1.toNatClampNeg) ∧ z.toInt = (o0.2.1 44 v1.toNatClampNeg).toInt) ⟨(k_o0.2 44 _), rfl, rfl⟩ (fun x15 qi16 => ?_)
      obtain ⟨i16, ax15, ei16⟩ := qi16
      have t17 := tn_n v1
      have t18 := x_0 (v1.toNatClampNeg)
      refine tt_kv (P := fun z => ((0 : Int) ≤ z.toInt ∧ z.toInt ≤ 208) ∧ z = (x15 / 2) ∧ z.toInt = x15.toInt / 2) ⟨iv_div (k := 2) i16 (show (2 : Int) ≤ (2 : Int32).toInt ∧ (2 : Int32).toInt ≤ 2 by decide) (by decide) (by decide) (by decide) (by decide), rfl, i_dv (Int.le_trans (by decide) i16.1) (by decide)⟩ (fun x19 qi20 => ?_)
      obtain ⟨i20, ax19, ei20⟩ := qi20
      refine tt_n (ix_ok i2 (by decide) (by decide)) ?_
      refine tt_kv (P := fun z => x15 = z ∧ True) ⟨ax15, trivial⟩ (fun x21 hx21 => ?_)
      obtain ⟨rfl, -⟩ := hx21
      refine tt_kv (P := fun z => x19 = z ∧ True) ⟨ax19, trivial⟩ (fun x22 hx22 => ?_)
      obtain ⟨rfl, -⟩ := hx22
      refine tt_n (ix_ok i20 (by decide) (by decide)) ?_
      refine tt_kv (P := fun z => ((0 : Int) ≤ z.toInt ∧ z.toInt ≤ 1) ∧ z = (o0.2.1 50 x19.toNatClampNeg) ∧ z.toInt = (o0.2.1 50 x19.toNatClampNeg).toInt) ⟨(k_o0.2 50 _), rfl, rfl⟩ (fun x23 qi24 => ?_)
      obtain ⟨i24, ax23, ei24⟩ := qi24
      refine tt_if (fun c25 => ?_) (fun c25 => ?_)
      · have wc25 : x23.toInt = (0 : Int) := c_eq c25
        have i26 : (0 : Int) ≤ x23.toInt ∧ x23.toInt ≤ 0 := nr_eql c25 i24 (show (0 : Int) ≤ (0 : Int32).toInt ∧ (0 : Int32).toInt ≤ 0 by decide) (by decide) (by decide)
        refine tt_n (ix_ok i2 (by decide) (by decide)) ?_
        refine tt_kv (P := fun z => x15 = z ∧ True) ⟨ax15, trivial⟩ (fun x27 hx27 => ?_)
        obtain ⟨rfl, -⟩ := hx27
        refine tt_b (sM_goesApart _ _ k_o0 i16 f_o0_0 f_o0_38 i3 f_o0_95) (fun q28 hq28 => ?_)
        obtain ⟨i_q28, zq28_0, -⟩ := hq28
        refine tt_if (fun c29 => ?_) (fun c29 => ?_)
        · have wc29 : q28.toInt = (0 : Int) := c_eq c29
          have i30 : (0 : Int) ≤ q28.toInt ∧ q28.toInt ≤ 0 := nr_eql c29 i_q28 (show (0 : Int) ≤ (0 : Int32).toInt ∧ (0 : Int32).toInt ≤ 0 by decide) (by decide) (by decide)
          try unfold fM_look_246
          refine tt_n (ix_ok i20 (by decide) (by decide)) ?_
          refine tt_ko ?_
          have k31 := ok_xp (k := 50) (i := x19.toNatClampNeg) (v := (vp_nar .boolean 0)) k_o0 (iv_nz _)
          have r32 := fr_xp (k := 50) (i := x19.toNatClampNeg) (v := (vp_nar .boolean 0)) r_o0 rfl
          refine tt_n (ix_ok i2 (by decide) (by decide)) ?_
          refine tt_kv (P := fun z => ((0 : Int) ≤ z.toInt ∧ z.toInt ≤ 417) ∧ z = (o0.2.1 45 v1.toNatClampNeg) ∧ z.toInt = (o0.2.1 45 v1.toNatClampNeg).toInt) ⟨(k31.2 45 _), rfl, rfl⟩ (fun x33 qi34 => ?_)
          obtain ⟨i34, ax33, ei34⟩ := qi34
          have t35 := tn_n v1
          have t36 := x_0 (v1.toNatClampNeg)
          refine tt_kv (P := fun z => ((0 : Int) ≤ z.toInt ∧ z.toInt ≤ 208) ∧ z = (x33 / 2) ∧ z.toInt = x33.toInt / 2) ⟨iv_div (k := 2) i34 (show (2 : Int) ≤ (2 : Int32).toInt ∧ (2 : Int32).toInt ≤ 2 by decide) (by decide) (by decide) (by decide) (by decide), rfl, i_dv (Int.le_trans (by decide) i34.1) (by decide)⟩ (fun x37 qi38 => ?_)
          obtain ⟨i38, ax37, ei38⟩ := qi38
          refine tt_n (ix_ok i2 (by decide) (by decide)) ?_
          refine tt_kv (P := fun z => x33 = z ∧ True) ⟨ax33, trivial⟩ (fun x39 hx39 => ?_)
          obtain ⟨rfl, -⟩ := hx39
          refine tt_kv (P := fun z => x37 = z ∧ True) ⟨ax37, trivial⟩ (fun x40 hx40 => ?_)
          obtain ⟨rfl, -⟩ := hx40
          refine tt_n (ix_ok i38 (by decide) (by decide)) ?_
          refine tt_kv (P := fun z => ((0 : Int) ≤ z.toInt ∧ z.toInt ≤ 1) ∧ z = (upd (o0.2.1 50) (x19.toNatClampNeg) (vp_nar .boolean 0) x37.toNatClampNeg) ∧ z.toInt = (upd (o0.2.1 50) (x19.toNatClampNeg) (vp_nar .boolean 0) x37.toNatClampNeg).toInt) ⟨(k31.2 50 _), rfl, rfl⟩ (fun x41 qi42 => ?_)
          obtain ⟨i42, ax41, ei42⟩ := qi42
          refine tt_if (fun c43 => ?_) (fun c43 => ?_)
          · have wc43 : x41.toInt = (0 : Int) := c_eq c43
            have i44 : (0 : Int) ≤ x41.toInt ∧ x41.toInt ≤ 0 := nr_eql c43 i42 (show (0 : Int) ≤ (0 : Int32).toInt ∧ (0 : Int32).toInt ≤ 0 by decide) (by decide) (by decide)
            refine tt_n (ix_ok i2 (by decide) (by decide)) ?_
            refine tt_kv (P := fun z => x33 = z ∧ True) ⟨ax33, trivial⟩ (fun x45 hx45 => ?_)
            obtain ⟨rfl, -⟩ := hx45
            refine tt_b (sM_goesApart _ _ k31 i34 f_o0_0 f_o0_38 i3 f_o0_95) (fun q46 hq46 => ?_)
            obtain ⟨i_q46, zq46_0, -⟩ := hq46
            have zq46_0 : Ga q46.toInt x33.toInt (o0.1 39).toInt (o0.2.1 48) := zq46_0
            refine tt_if (fun c47 => ?_) (fun c47 => ?_)
            · have wc47 : q46.toInt = (0 : Int) := c_eq c47
              have i48 : (0 : Int) ≤ q46.toInt ∧ q46.toInt ≤ 0 := nr_eql c47 i_q46 (show (0 : Int) ≤ (0 : Int32).toInt ∧ (0 : Int32).toInt ≤ 0 by decide) (by decide) (by decide)
              try unfold fM_look_293
              refine tt_n (ix_ok i38 (by decide) (by decide)) ?_
              refine tt_ko ?_
              have k49 := ok_xp (k := 50) (i := x37.toNatClampNeg) (v := (vp_nar .boolean 0)) k31 (iv_nz _)
              have r50 := fr_xp (k := 50) (i := x37.toNatClampNeg) (v := (vp_nar .boolean 0)) r32 rfl
              try unfold fM_look_294
              refine tt_kv (P := fun z => ((1 : Int) ≤ z.toInt ∧ z.toInt ≤ 200) ∧ z = (v1 + 1) ∧ z.toInt = v1.toInt + 1) ⟨iv_add i2 (show (1 : Int) ≤ (1 : Int32).toInt ∧ (1 : Int32).toInt ≤ 1 by decide) (by decide) (by decide) (by decide) (by decide), rfl, iq_add i2 (show (1 : Int) ≤ (1 : Int32).toInt ∧ (1 : Int32).toInt ≤ 1 by decide) (by decide) (by decide)⟩ (fun x51 qi52 => ?_)
              obtain ⟨i52, ax51, ei52⟩ := qi52
              have p53 : Ap ((o0.1 39).toInt + 1) (o0.1 43).toInt (o0.2.1 44) (o0.2.1 45) (o0.2.1 49) (o0.2.1 48) (upd (upd (o0.2.1 50) (x19.toNatClampNeg) (vp_nar .boolean 0)) (x37.toNatClampNeg) (vp_nar .boolean 0)) := by first | assumption | exact Ap_u (g := v1.toNatClampNeg) (j := x6.toNatClampNeg) (l := x33) (Ap_u (g := v1.toNatClampNeg) (j := x6.toNatClampNeg) (l := x15) x_2 (Or.inl (by assumption)) (by rw [tn_n]; omega) (by rw [tn_n]; omega) (by rw [tn_n, tn_n]; omega) (by omega) (by first | exact Or.inl (by decide) | exact Or.inr (Or.inl ⟨_, by assumption, by assumption⟩) | exact Or.inr (Or.inr (Ga_e (by assumption) (by omega))))) (Or.inr (by assumption)) (by rw [tn_n]; omega) (by rw [tn_n]; omega) (by rw [tn_n, tn_n]; omega) (by omega) (by first | exact Or.inl (by decide) | exact Or.inr (Or.inl ⟨_, by assumption, by assumption⟩) | exact Or.inr (Or.inr (Ga_e (by assumption) (by omega))))
              exact H.2.2.2 _ _ k49 r50 (iv_w (a := 0) (b := 200) (by decide) (by decide) i52) f_o0_0 f_o0_38 f_o0_95 x_0 x_1 p53 (show 0 + (200 - x51.toInt) * 2 < (n : Int) by omega)
            · have wc47 : ¬ q46.toInt = (0 : Int) := c_ne c47
              have i54 : (1 : Int) ≤ q46.toInt ∧ q46.toInt ≤ 1 := nr_nela c47 i_q46 (show (0 : Int) ≤ (0 : Int32).toInt ∧ (0 : Int32).toInt ≤ 0 by decide) (by decide) (by decide)
              try unfold fM_look_288
              try unfold fM_look_293
              refine tt_n (ix_ok i38 (by decide) (by decide)) ?_
              refine tt_ko ?_
              have k55 := ok_xp (k := 50) (i := x37.toNatClampNeg) (v := (vp_nar .boolean 1)) k31 (iv_nz _)
              have r56 := fr_xp (k := 50) (i := x37.toNatClampNeg) (v := (vp_nar .boolean 1)) r32 rfl
              try unfold fM_look_294
              refine tt_kv (P := fun z => ((1 : Int) ≤ z.toInt ∧ z.toInt ≤ 200) ∧ z = (v1 + 1) ∧ z.toInt = v1.toInt + 1) ⟨iv_add i2 (show (1 : Int) ≤ (1 : Int32).toInt ∧ (1 : Int32).toInt ≤ 1 by decide) (by decide) (by decide) (by decide) (by decide), rfl, iq_add i2 (show (1 : Int) ≤ (1 : Int32).toInt ∧ (1 : Int32).toInt ≤ 1 by decide) (by decide) (by decide)⟩ (fun x57 qi58 => ?_)
              obtain ⟨i58, ax57, ei58⟩ := qi58
              have p59 : Ap ((o0.1 39).toInt + 1) (o0.1 43).toInt (o0.2.1 44) (o0.2.1 45) (o0.2.1 49) (o0.2.1 48) (upd (upd (o0.2.1 50) (x19.toNatClampNeg) (vp_nar .boolean 0)) (x37.toNatClampNeg) (vp_nar .boolean 1)) := by first | assumption | exact Ap_u (g := v1.toNatClampNeg) (j := x6.toNatClampNeg) (l := x33) (Ap_u (g := v1.toNatClampNeg) (j := x6.toNatClampNeg) (l := x15) x_2 (Or.inl (by assumption)) (by rw [tn_n]; omega) (by rw [tn_n]; omega) (by rw [tn_n, tn_n]; omega) (by omega) (by first | exact Or.inl (by decide) | exact Or.inr (Or.inl ⟨_, by assumption, by assumption⟩) | exact Or.inr (Or.inr (Ga_e (by assumption) (by omega))))) (Or.inr (by assumption)) (by rw [tn_n]; omega) (by rw [tn_n]; omega) (by rw [tn_n, tn_n]; omega) (by omega) (by first | exact Or.inl (by decide) | exact Or.inr (Or.inl ⟨_, by assumption, by assumption⟩) | exact Or.inr (Or.inr (Ga_e (by assumption) (by omega))))
              exact H.2.2.2 _ _ k55 r56 (iv_w (a := 0) (b := 200) (by decide) (by decide) i58) f_o0_0 f_o0_38 f_o0_95 x_0 x_1 p59 (show 0 + (200 - x57.toInt) * 2 < (n : Int) by omega)
          · have wc43 : ¬ x41.toInt = (0 : Int) := c_ne c43
            have i60 : (1 : Int) ≤ x41.toInt ∧ x41.toInt ≤ 1 := nr_nela c43 i42 (show (0 : Int) ≤ (0 : Int32).toInt ∧ (0 : Int32).toInt ≤ 0 by decide) (by decide) (by decide)
            try unfold fM_look_288
            try unfold fM_look_293
            refine tt_n (ix_ok i38 (by decide) (by decide)) ?_
            refine tt_ko ?_
            have k61 := ok_xp (k := 50) (i := x37.toNatClampNeg) (v := (vp_nar .boolean 1)) k31 (iv_nz _)
            have r62 := fr_xp (k := 50) (i := x37.toNatClampNeg) (v := (vp_nar .boolean 1)) r32 rfl
            try unfold fM_look_294
            refine tt_kv (P := fun z => ((1 : Int) ≤ z.toInt ∧ z.toInt ≤ 200) ∧ z = (v1 + 1) ∧ z.toInt = v1.toInt + 1) ⟨iv_add i2 (show (1 : Int) ≤ (1 : Int32).toInt ∧ (1 : Int32).toInt ≤ 1 by decide) (by decide) (by decide) (by decide) (by decide), rfl, iq_add i2 (show (1 : Int) ≤ (1 : Int32).toInt ∧ (1 : Int32).toInt ≤ 1 by decide) (by decide) (by decide)⟩ (fun x63 qi64 => ?_)
            obtain ⟨i64, ax63, ei64⟩ := qi64
            have p65 : Ap ((o0.1 39).toInt + 1) (o0.1 43).toInt (o0.2.1 44) (o0.2.1 45) (o0.2.1 49) (o0.2.1 48) (upd (upd (o0.2.1 50) (x19.toNatClampNeg) (vp_nar .boolean 0)) (x37.toNatClampNeg) (vp_nar .boolean 1)) := by first | assumption | exact Ap_u (g := v1.toNatClampNeg) (j := x6.toNatClampNeg) (l := x33) (Ap_u (g := v1.toNatClampNeg) (j := x6.toNatClampNeg) (l := x15) x_2 (Or.inl (by assumption)) (by rw [tn_n]; omega) (by rw [tn_n]; omega) (by rw [tn_n, tn_n]; omega) (by omega) (by first | exact Or.inl (by decide) | exact Or.inr (Or.inl ⟨_, by assumption, by assumption⟩) | exact Or.inr (Or.inr (Ga_e (by assumption) (by omega))))) (Or.inr (by assumption)) (by rw [tn_n]; omega) (by rw [tn_n]; omega) (by rw [tn_n, tn_n]; omega) (by omega) (by first | exact Or.inl (by decide) | exact Or.inr (Or.inl ⟨_, by assumption, by assumption⟩) | exact Or.inr (Or.inr (Ga_e (by assumption) (by omega))))
            exact H.2.2.2 _ _ k61 r62 (iv_w (a := 0) (b := 200) (by decide) (by decide) i64) f_o0_0 f_o0_38 f_o0_95 x_0 x_1 p65 (show 0 + (200 - x63.toInt) * 2 < (n : Int) by omega)
        · have wc29 : ¬ q28.toInt = (0 : Int) := c_ne c29
          have i66 : (1 : Int) ≤ q28.toInt ∧ q28.toInt ≤ 1 := nr_nela c29 i_q28 (show (0 : Int) ≤ (0 : Int32).toInt ∧ (0 : Int32).toInt ≤ 0 by decide) (by decide) (by decide)
          try unfold fM_look_241
          try unfold fM_look_246
          refine tt_n (ix_ok i20 (by decide) (by decide)) ?_
          refine tt_ko ?_
          have k67 := ok_xp (k := 50) (i := x19.toNatClampNeg) (v := (vp_nar .boolean 1)) k_o0 (iv_nz _)
          have r68 := fr_xp (k := 50) (i := x19.toNatClampNeg) (v := (vp_nar .boolean 1)) r_o0 rfl
          refine tt_n (ix_ok i2 (by decide) (by decide)) ?_
          refine tt_kv (P := fun z => ((0 : Int) ≤ z.toInt ∧ z.toInt ≤ 417) ∧ z = (o0.2.1 45 v1.toNatClampNeg) ∧ z.toInt = (o0.2.1 45 v1.toNatClampNeg).toInt) ⟨(k67.2 45 _), rfl, rfl⟩ (fun x69 qi70 => ?_)
          obtain ⟨i70, ax69, ei70⟩ := qi70
          have t71 := tn_n v1
          have t72 := x_0 (v1.toNatClampNeg)
          refine tt_kv (P := fun z => ((0 : Int) ≤ z.toInt ∧ z.toInt ≤ 208) ∧ z = (x69 / 2) ∧ z.toInt = x69.toInt / 2) ⟨iv_div (k := 2) i70 (show (2 : Int) ≤ (2 : Int32).toInt ∧ (2 : Int32).toInt ≤ 2 by decide) (by decide) (by decide) (by decide) (by decide), rfl, i_dv (Int.le_trans (by decide) i70.1) (by decide)⟩ (fun x73 qi74 => ?_)
          obtain ⟨i74, ax73, ei74⟩ := qi74
          refine tt_n (ix_ok i2 (by decide) (by decide)) ?_
          refine tt_kv (P := fun z => x69 = z ∧ True) ⟨ax69, trivial⟩ (fun x75 hx75 => ?_)
          obtain ⟨rfl, -⟩ := hx75
          refine tt_kv (P := fun z => x73 = z ∧ True) ⟨ax73, trivial⟩ (fun x76 hx76 => ?_)
          obtain ⟨rfl, -⟩ := hx76
          refine tt_n (ix_ok i74 (by decide) (by decide)) ?_
          refine tt_kv (P := fun z => ((0 : Int) ≤ z.toInt ∧ z.toInt ≤ 1) ∧ z = (upd (o0.2.1 50) (x19.toNatClampNeg) (vp_nar .boolean 1) x73.toNatClampNeg) ∧ z.toInt = (upd (o0.2.1 50) (x19.toNatClampNeg) (vp_nar .boolean 1) x73.toNatClampNeg).toInt) ⟨(k67.2 50 _), rfl, rfl⟩ (fun x77 qi78 => ?_)
          obtain ⟨i78, ax77, ei78⟩ := qi78
          refine tt_if (fun c79 => ?_) (fun c79 => ?_)
          · have wc79 : x77.toInt = (0 : Int) := c_eq c79
            have i80 : (0 : Int) ≤ x77.toInt ∧ x77.toInt ≤ 0 := nr_eql c79 i78 (show (0 : Int) ≤ (0 : Int32).toInt ∧ (0 : Int32).toInt ≤ 0 by decide) (by decide) (by decide)
            refine tt_n (ix_ok i2 (by decide) (by decide)) ?_
            refine tt_kv (P := fun z => x69 = z ∧ True) ⟨ax69, trivial⟩ (fun x81 hx81 => ?_)
            obtain ⟨rfl, -⟩ := hx81
            refine tt_b (sM_goesApart _ _ k67 i70 f_o0_0 f_o0_38 i3 f_o0_95) (fun q82 hq82 => ?_)
            obtain ⟨i_q82, zq82_0, -⟩ := hq82
            have zq82_0 : Ga q82.toInt x69.toInt (o0.1 39).toInt (o0.2.1 48) := zq82_0
            refine tt_if (fun c83 => ?_) (fun c83 => ?_)
            · have wc83 : q82.toInt = (0 : Int) := c_eq c83
              have i84 : (0 : Int) ≤ q82.toInt ∧ q82.toInt ≤ 0 := nr_eql c83 i_q82 (show (0 : Int) ≤ (0 : Int32).toInt ∧ (0 : Int32).toInt ≤ 0 by decide) (by decide) (by decide)
              try unfold fM_look_293
              refine tt_n (ix_ok i74 (by decide) (by decide)) ?_
              refine tt_ko ?_
              have k85 := ok_xp (k := 50) (i := x73.toNatClampNeg) (v := (vp_nar .boolean 0)) k67 (iv_nz _)
              have r86 := fr_xp (k := 50) (i := x73.toNatClampNeg) (v := (vp_nar .boolean 0)) r68 rfl
              try unfold fM_look_294
              refine tt_kv (P := fun z => ((1 : Int) ≤ z.toInt ∧ z.toInt ≤ 200) ∧ z = (v1 + 1) ∧ z.toInt = v1.toInt + 1) ⟨iv_add i2 (show (1 : Int) ≤ (1 : Int32).toInt ∧ (1 : Int32).toInt ≤ 1 by decide) (by decide) (by decide) (by decide) (by decide), rfl, iq_add i2 (show (1 : Int) ≤ (1 : Int32).toInt ∧ (1 : Int32).toInt ≤ 1 by decide) (by decide) (by decide)⟩ (fun x87 qi88 => ?_)
              obtain ⟨i88, ax87, ei88⟩ := qi88
              have p89 : Ap ((o0.1 39).toInt + 1) (o0.1 43).toInt (o0.2.1 44) (o0.2.1 45) (o0.2.1 49) (o0.2.1 48) (upd (upd (o0.2.1 50) (x19.toNatClampNeg) (vp_nar .boolean 1)) (x73.toNatClampNeg) (vp_nar .boolean 0)) := by first | assumption | exact Ap_u (g := v1.toNatClampNeg) (j := x6.toNatClampNeg) (l := x69) (Ap_u (g := v1.toNatClampNeg) (j := x6.toNatClampNeg) (l := x15) x_2 (Or.inl (by assumption)) (by rw [tn_n]; omega) (by rw [tn_n]; omega) (by rw [tn_n, tn_n]; omega) (by omega) (by first | exact Or.inl (by decide) | exact Or.inr (Or.inl ⟨_, by assumption, by assumption⟩) | exact Or.inr (Or.inr (Ga_e (by assumption) (by omega))))) (Or.inr (by assumption)) (by rw [tn_n]; omega) (by rw [tn_n]; omega) (by rw [tn_n, tn_n]; omega) (by omega) (by first | exact Or.inl (by decide) | exact Or.inr (Or.inl ⟨_, by assumption, by assumption⟩) | exact Or.inr (Or.inr (Ga_e (by assumption) (by omega))))
              exact H.2.2.2 _ _ k85 r86 (iv_w (a := 0) (b := 200) (by decide) (by decide) i88) f_o0_0 f_o0_38 f_o0_95 x_0 x_1 p89 (show 0 + (200 - x87.toInt) * 2 < (n : Int) by omega)
            · have wc83 : ¬ q82.toInt = (0 : Int) := c_ne c83
              have i90 : (1 : Int) ≤ q82.toInt ∧ q82.toInt ≤ 1 := nr_nela c83 i_q82 (show (0 : Int) ≤ (0 : Int32).toInt ∧ (0 : Int32).toInt ≤ 0 by decide) (by decide) (by decide)
              try unfold fM_look_288
              try unfold fM_look_293
              refine tt_n (ix_ok i74 (by decide) (by decide)) ?_
              refine tt_ko ?_
              have k91 := ok_xp (k := 50) (i := x73.toNatClampNeg) (v := (vp_nar .boolean 1)) k67 (iv_nz _)
              have r92 := fr_xp (k := 50) (i := x73.toNatClampNeg) (v := (vp_nar .boolean 1)) r68 rfl
              try unfold fM_look_294
              refine tt_kv (P := fun z => ((1 : Int) ≤ z.toInt ∧ z.toInt ≤ 200) ∧ z = (v1 + 1) ∧ z.toInt = v1.toInt + 1) ⟨iv_add i2 (show (1 : Int) ≤ (1 : Int32).toInt ∧ (1 : Int32).toInt ≤ 1 by decide) (by decide) (by decide) (by decide) (by decide), rfl, iq_add i2 (show (1 : Int) ≤ (1 : Int32).toInt ∧ (1 : Int32).toInt ≤ 1 by decide) (by decide) (by decide)⟩ (fun x93 qi94 => ?_)
              obtain ⟨i94, ax93, ei94⟩ := qi94
              have p95 : Ap ((o0.1 39).toInt + 1) (o0.1 43).toInt (o0.2.1 44) (o0.2.1 45) (o0.2.1 49) (o0.2.1 48) (upd (upd (o0.2.1 50) (x19.toNatClampNeg) (vp_nar .boolean 1)) (x73.toNatClampNeg) (vp_nar .boolean 1)) := by first | assumption | exact Ap_u (g := v1.toNatClampNeg) (j := x6.toNatClampNeg) (l := x69) (Ap_u (g := v1.toNatClampNeg) (j := x6.toNatClampNeg) (l := x15) x_2 (Or.inl (by assumption)) (by rw [tn_n]; omega) (by rw [tn_n]; omega) (by rw [tn_n, tn_n]; omega) (by omega) (by first | exact Or.inl (by decide) | exact Or.inr (Or.inl ⟨_, by assumption, by assumption⟩) | exact Or.inr (Or.inr (Ga_e (by assumption) (by omega))))) (Or.inr (by assumption)) (by rw [tn_n]; omega) (by rw [tn_n]; omega) (by rw [tn_n, tn_n]; omega) (by omega) (by first | exact Or.inl (by decide) | exact Or.inr (Or.inl ⟨_, by assumption, by assumption⟩) | exact Or.inr (Or.inr (Ga_e (by assumption) (by omega))))
              exact H.2.2.2 _ _ k91 r92 (iv_w (a := 0) (b := 200) (by decide) (by decide) i94) f_o0_0 f_o0_38 f_o0_95 x_0 x_1 p95 (show 0 + (200 - x93.toInt) * 2 < (n : Int) by omega)
          · have wc79 : ¬ x77.toInt = (0 : Int) := c_ne c79
            have i96 : (1 : Int) ≤ x77.toInt ∧ x77.toInt ≤ 1 := nr_nela c79 i78 (show (0 : Int) ≤ (0 : Int32).toInt ∧ (0 : Int32).toInt ≤ 0 by decide) (by decide) (by decide)
            try unfold fM_look_288
            try unfold fM_look_293
            refine tt_n (ix_ok i74 (by decide) (by decide)) ?_
            refine tt_ko ?_
            have k97 := ok_xp (k := 50) (i := x73.toNatClampNeg) (v := (vp_nar .boolean 1)) k67 (iv_nz _)
            have r98 := fr_xp (k := 50) (i := x73.toNatClampNeg) (v := (vp_nar .boolean 1)) r68 rfl
            try unfold fM_look_294
            refine tt_kv (P := fun z => ((1 : Int) ≤ z.toInt ∧ z.toInt ≤ 200) ∧ z = (v1 + 1) ∧ z.toInt = v1.toInt + 1) ⟨iv_add i2 (show (1 : Int) ≤ (1 : Int32).toInt ∧ (1 : Int32).toInt ≤ 1 by decide) (by decide) (by decide) (by decide) (by decide), rfl, iq_add i2 (show (1 : Int) ≤ (1 : Int32).toInt ∧ (1 : Int32).toInt ≤ 1 by decide) (by decide) (by decide)⟩ (fun x99 qi100 => ?_)
            obtain ⟨i100, ax99, ei100⟩ := qi100
            have p101 : Ap ((o0.1 39).toInt + 1) (o0.1 43).toInt (o0.2.1 44) (o0.2.1 45) (o0.2.1 49) (o0.2.1 48) (upd (upd (o0.2.1 50) (x19.toNatClampNeg) (vp_nar .boolean 1)) (x73.toNatClampNeg) (vp_nar .boolean 1)) := by first | assumption | exact Ap_u (g := v1.toNatClampNeg) (j := x6.toNatClampNeg) (l := x69) (Ap_u (g := v1.toNatClampNeg) (j := x6.toNatClampNeg) (l := x15) x_2 (Or.inl (by assumption)) (by rw [tn_n]; omega) (by rw [tn_n]; omega) (by rw [tn_n, tn_n]; omega) (by omega) (by first | exact Or.inl (by decide) | exact Or.inr (Or.inl ⟨_, by assumption, by assumption⟩) | exact Or.inr (Or.inr (Ga_e (by assumption) (by omega))))) (Or.inr (by assumption)) (by rw [tn_n]; omega) (by rw [tn_n]; omega) (by rw [tn_n, tn_n]; omega) (by omega) (by first | exact Or.inl (by decide) | exact Or.inr (Or.inl ⟨_, by assumption, by assumption⟩) | exact Or.inr (Or.inr (Ga_e (by assumption) (by omega))))
            exact H.2.2.2 _ _ k97 r98 (iv_w (a := 0) (b := 200) (by decide) (by decide) i100) f_o0_0 f_o0_38 f_o0_95 x_0 x_1 p101 (show 0 + (200 - x99.toInt) * 2 < (n : Int) by omega)
      · have wc25 : ¬ x23.toInt = (0 : Int) := c_ne c25
        have i102 : (1 : Int) ≤ x23.toInt ∧ x23.toInt ≤ 1 := nr_nela c25 i24 (show (0 : Int) ≤ (0 : Int32).toInt ∧ (0 : Int32).toInt ≤ 0 by decide) (by decide) (by decide)
        try unfold fM_look_241
        try unfold fM_look_246
        refine tt_n (ix_ok i20 (by decide) (by decide)) ?_
        refine tt_ko ?_
        have k103 := ok_xp (k := 50) (i := x19.toNatClampNeg) (v := (vp_nar .boolean 1)) k_o0 (iv_nz _)
        have r104 := fr_xp (k := 50) (i := x19.toNatClampNeg) (v := (vp_nar .boolean 1)) r_o0 rfl
        refine tt_n (ix_ok i2 (by decide) (by decide)) ?_
        refine tt_kv (P := fun z => ((0 : Int) ≤ z.toInt ∧ z.toInt ≤ 417) ∧ z = (o0.2.1 45 v1.toNatClampNeg) ∧ z.toInt = (o0.2.1 45 v1.toNatClampNeg).toInt) ⟨(k103.2 45 _), rfl, rfl⟩ (fun x105 qi106 => ?_)
        obtain ⟨i106, ax105, ei106⟩ := qi106
        have t107 := tn_n v1
        have t108 := x_0 (v1.toNatClampNeg)
        refine tt_kv (P := fun z => ((0 : Int) ≤ z.toInt ∧ z.toInt ≤ 208) ∧ z = (x105 / 2) ∧ z.toInt = x105.toInt / 2) ⟨iv_div (k := 2) i106 (show (2 : Int) ≤ (2 : Int32).toInt ∧ (2 : Int32).toInt ≤ 2 by decide) (by decide) (by decide) (by decide) (by decide), rfl, i_dv (Int.le_trans (by decide) i106.1) (by decide)⟩ (fun x109 qi110 => ?_)
        obtain ⟨i110, ax109, ei110⟩ := qi110
        refine tt_n (ix_ok i2 (by decide) (by decide)) ?_
        refine tt_kv (P := fun z => x105 = z ∧ True) ⟨ax105, trivial⟩ (fun x111 hx111 => ?_)
        obtain ⟨rfl, -⟩ := hx111
        refine tt_kv (P := fun z => x109 = z ∧ True) ⟨ax109, trivial⟩ (fun x112 hx112 => ?_)
        obtain ⟨rfl, -⟩ := hx112
        refine tt_n (ix_ok i110 (by decide) (by decide)) ?_
        refine tt_kv (P := fun z => ((0 : Int) ≤ z.toInt ∧ z.toInt ≤ 1) ∧ z = (upd (o0.2.1 50) (x19.toNatClampNeg) (vp_nar .boolean 1) x109.toNatClampNeg) ∧ z.toInt = (upd (o0.2.1 50) (x19.toNatClampNeg) (vp_nar .boolean 1) x109.toNatClampNeg).toInt) ⟨(k103.2 50 _), rfl, rfl⟩ (fun x113 qi114 => ?_)
        obtain ⟨i114, ax113, ei114⟩ := qi114
        refine tt_if (fun c115 => ?_) (fun c115 => ?_)
        · have wc115 : x113.toInt = (0 : Int) := c_eq c115
          have i116 : (0 : Int) ≤ x113.toInt ∧ x113.toInt ≤ 0 := nr_eql c115 i114 (show (0 : Int) ≤ (0 : Int32).toInt ∧ (0 : Int32).toInt ≤ 0 by decide) (by decide) (by decide)
          refine tt_n (ix_ok i2 (by decide) (by decide)) ?_
          refine tt_kv (P := fun z => x105 = z ∧ True) ⟨ax105, trivial⟩ (fun x117 hx117 => ?_)
          obtain ⟨rfl, -⟩ := hx117
          refine tt_b (sM_goesApart _ _ k103 i106 f_o0_0 f_o0_38 i3 f_o0_95) (fun q118 hq118 => ?_)
          obtain ⟨i_q118, zq118_0, -⟩ := hq118
          have zq118_0 : Ga q118.toInt x105.toInt (o0.1 39).toInt (o0.2.1 48) := zq118_0
          refine tt_if (fun c119 => ?_) (fun c119 => ?_)
          · have wc119 : q118.toInt = (0 : Int) := c_eq c119
            have i120 : (0 : Int) ≤ q118.toInt ∧ q118.toInt ≤ 0 := nr_eql c119 i_q118 (show (0 : Int) ≤ (0 : Int32).toInt ∧ (0 : Int32).toInt ≤ 0 by decide) (by decide) (by decide)
            try unfold fM_look_293
            refine tt_n (ix_ok i110 (by decide) (by decide)) ?_
            refine tt_ko ?_
            have k121 := ok_xp (k := 50) (i := x109.toNatClampNeg) (v := (vp_nar .boolean 0)) k103 (iv_nz _)
            have r122 := fr_xp (k := 50) (i := x109.toNatClampNeg) (v := (vp_nar .boolean 0)) r104 rfl
            try unfold fM_look_294
            refine tt_kv (P := fun z => ((1 : Int) ≤ z.toInt ∧ z.toInt ≤ 200) ∧ z = (v1 + 1) ∧ z.toInt = v1.toInt + 1) ⟨iv_add i2 (show (1 : Int) ≤ (1 : Int32).toInt ∧ (1 : Int32).toInt ≤ 1 by decide) (by decide) (by decide) (by decide) (by decide), rfl, iq_add i2 (show (1 : Int) ≤ (1 : Int32).toInt ∧ (1 : Int32).toInt ≤ 1 by decide) (by decide) (by decide)⟩ (fun x123 qi124 => ?_)
            obtain ⟨i124, ax123, ei124⟩ := qi124
            have p125 : Ap ((o0.1 39).toInt + 1) (o0.1 43).toInt (o0.2.1 44) (o0.2.1 45) (o0.2.1 49) (o0.2.1 48) (upd (upd (o0.2.1 50) (x19.toNatClampNeg) (vp_nar .boolean 1)) (x109.toNatClampNeg) (vp_nar .boolean 0)) := by first | assumption | exact Ap_u (g := v1.toNatClampNeg) (j := x6.toNatClampNeg) (l := x105) (Ap_u (g := v1.toNatClampNeg) (j := x6.toNatClampNeg) (l := x15) x_2 (Or.inl (by assumption)) (by rw [tn_n]; omega) (by rw [tn_n]; omega) (by rw [tn_n, tn_n]; omega) (by omega) (by first | exact Or.inl (by decide) | exact Or.inr (Or.inl ⟨_, by assumption, by assumption⟩) | exact Or.inr (Or.inr (Ga_e (by assumption) (by omega))))) (Or.inr (by assumption)) (by rw [tn_n]; omega) (by rw [tn_n]; omega) (by rw [tn_n, tn_n]; omega) (by omega) (by first | exact Or.inl (by decide) | exact Or.inr (Or.inl ⟨_, by assumption, by assumption⟩) | exact Or.inr (Or.inr (Ga_e (by assumption) (by omega))))
            exact H.2.2.2 _ _ k121 r122 (iv_w (a := 0) (b := 200) (by decide) (by decide) i124) f_o0_0 f_o0_38 f_o0_95 x_0 x_1 p125 (show 0 + (200 - x123.toInt) * 2 < (n : Int) by omega)
          · have wc119 : ¬ q118.toInt = (0 : Int) := c_ne c119
            have i126 : (1 : Int) ≤ q118.toInt ∧ q118.toInt ≤ 1 := nr_nela c119 i_q118 (show (0 : Int) ≤ (0 : Int32).toInt ∧ (0 : Int32).toInt ≤ 0 by decide) (by decide) (by decide)
            try unfold fM_look_288
            try unfold fM_look_293
            refine tt_n (ix_ok i110 (by decide) (by decide)) ?_
            refine tt_ko ?_
            have k127 := ok_xp (k := 50) (i := x109.toNatClampNeg) (v := (vp_nar .boolean 1)) k103 (iv_nz _)
            have r128 := fr_xp (k := 50) (i := x109.toNatClampNeg) (v := (vp_nar .boolean 1)) r104 rfl
            try unfold fM_look_294
            refine tt_kv (P := fun z => ((1 : Int) ≤ z.toInt ∧ z.toInt ≤ 200) ∧ z = (v1 + 1) ∧ z.toInt = v1.toInt + 1) ⟨iv_add i2 (show (1 : Int) ≤ (1 : Int32).toInt ∧ (1 : Int32).toInt ≤ 1 by decide) (by decide) (by decide) (by decide) (by decide), rfl, iq_add i2 (show (1 : Int) ≤ (1 : Int32).toInt ∧ (1 : Int32).toInt ≤ 1 by decide) (by decide) (by decide)⟩ (fun x129 qi130 => ?_)
            obtain ⟨i130, ax129, ei130⟩ := qi130
            have p131 : Ap ((o0.1 39).toInt + 1) (o0.1 43).toInt (o0.2.1 44) (o0.2.1 45) (o0.2.1 49) (o0.2.1 48) (upd (upd (o0.2.1 50) (x19.toNatClampNeg) (vp_nar .boolean 1)) (x109.toNatClampNeg) (vp_nar .boolean 1)) := by first | assumption | exact Ap_u (g := v1.toNatClampNeg) (j := x6.toNatClampNeg) (l := x105) (Ap_u (g := v1.toNatClampNeg) (j := x6.toNatClampNeg) (l := x15) x_2 (Or.inl (by assumption)) (by rw [tn_n]; omega) (by rw [tn_n]; omega) (by rw [tn_n, tn_n]; omega) (by omega) (by first | exact Or.inl (by decide) | exact Or.inr (Or.inl ⟨_, by assumption, by assumption⟩) | exact Or.inr (Or.inr (Ga_e (by assumption) (by omega))))) (Or.inr (by assumption)) (by rw [tn_n]; omega) (by rw [tn_n]; omega) (by rw [tn_n, tn_n]; omega) (by omega) (by first | exact Or.inl (by decide) | exact Or.inr (Or.inl ⟨_, by assumption, by assumption⟩) | exact Or.inr (Or.inr (Ga_e (by assumption) (by omega))))
            exact H.2.2.2 _ _ k127 r128 (iv_w (a := 0) (b := 200) (by decide) (by decide) i130) f_o0_0 f_o0_38 f_o0_95 x_0 x_1 p131 (show 0 + (200 - x129.toInt) * 2 < (n : Int) by omega)
        · have wc115 : ¬ x113.toInt = (0 : Int) := c_ne c115
          have i132 : (1 : Int) ≤ x113.toInt ∧ x113.toInt ≤ 1 := nr_nela c115 i114 (show (0 : Int) ≤ (0 : Int32).toInt ∧ (0 : Int32).toInt ≤ 0 by decide) (by decide) (by decide)
          try unfold fM_look_288
          try unfold fM_look_293
          refine tt_n (ix_ok i110 (by decide) (by decide)) ?_
          refine tt_ko ?_
          have k133 := ok_xp (k := 50) (i := x109.toNatClampNeg) (v := (vp_nar .boolean 1)) k103 (iv_nz _)
          have r134 := fr_xp (k := 50) (i := x109.toNatClampNeg) (v := (vp_nar .boolean 1)) r104 rfl
          try unfold fM_look_294
          refine tt_kv (P := fun z => ((1 : Int) ≤ z.toInt ∧ z.toInt ≤ 200) ∧ z = (v1 + 1) ∧ z.toInt = v1.toInt + 1) ⟨iv_add i2 (show (1 : Int) ≤ (1 : Int32).toInt ∧ (1 : Int32).toInt ≤ 1 by decide) (by decide) (by decide) (by decide) (by decide), rfl, iq_add i2 (show (1 : Int) ≤ (1 : Int32).toInt ∧ (1 : Int32).toInt ≤ 1 by decide) (by decide) (by decide)⟩ (fun x135 qi136 => ?_)
          obtain ⟨i136, ax135, ei136⟩ := qi136
          have p137 : Ap ((o0.1 39).toInt + 1) (o0.1 43).toInt (o0.2.1 44) (o0.2.1 45) (o0.2.1 49) (o0.2.1 48) (upd (upd (o0.2.1 50) (x19.toNatClampNeg) (vp_nar .boolean 1)) (x109.toNatClampNeg) (vp_nar .boolean 1)) := by first | assumption | exact Ap_u (g := v1.toNatClampNeg) (j := x6.toNatClampNeg) (l := x105) (Ap_u (g := v1.toNatClampNeg) (j := x6.toNatClampNeg) (l := x15) x_2 (Or.inl (by assumption)) (by rw [tn_n]; omega) (by rw [tn_n]; omega) (by rw [tn_n, tn_n]; omega) (by omega) (by first | exact Or.inl (by decide) | exact Or.inr (Or.inl ⟨_, by assumption, by assumption⟩) | exact Or.inr (Or.inr (Ga_e (by assumption) (by omega))))) (Or.inr (by assumption)) (by rw [tn_n]; omega) (by rw [tn_n]; omega) (by rw [tn_n, tn_n]; omega) (by omega) (by first | exact Or.inl (by decide) | exact Or.inr (Or.inl ⟨_, by assumption, by assumption⟩) | exact Or.inr (Or.inr (Ga_e (by assumption) (by omega))))
          exact H.2.2.2 _ _ k133 r134 (iv_w (a := 0) (b := 200) (by decide) (by decide) i136) f_o0_0 f_o0_38 f_o0_95 x_0 x_1 p137 (show 0 + (200 - x135.toInt) * 2 < (n : Int) by omega)
set_option maxHeartbeats 4000000 in
set_option maxRecDepth 100000 in
theorem tM_look_90 {yo0 : cf_O} {n : Nat} (H : HM_look yo0 n) (v1 : Int32) (o0 : cf_O) (k_o0 : okO I_M o0) (r_o0 : Fr (fr_M [] [48, 49, 50] []) yo0 o0) (i_v1 : ((-1) : Int) ≤ v1.toInt ∧ v1.toInt ≤ 199) (f_o0_0 : (0 : Int) ≤ (o0.1 0).toInt ∧ (o0.1 0).toInt ≤ 0) (f_o0_38 : (1 : Int) ≤ (o0.1 38).toInt ∧ (o0.1 38).toInt ≤ 1) (f_o0_95 : (0 : Int) ≤ (o0.1 95).toInt ∧ (o0.1 95).toInt ≤ 0) (x_0 : Gx ((o0.1 39).toInt + 1) (o0.1 43).toInt (o0.2.1 44) (o0.2.1 45)) (x_1 : Fc 210 (o0.2.1 50)) (x_2 : Lk v1.toInt ((o0.1 39).toInt + 1) (o0.1 43).toInt (o0.1 40).toInt (o0.2.1 47) (o0.2.1 44) (o0.2.1 45) (o0.2.1 49) (o0.2.1 48)) (x_3 : v1.toInt < (o0.1 43).toInt) (hm : 402 + (v1.toInt - (-1)) * 2 ≤ (n : Int)) : tt (fM_look_90 (gM_look n) v1 o0) (QM_look yo0) := by
  unfold fM_look_90
  have g_o0_39 : (0 : Int) ≤ (o0.1 39).toInt ∧ (o0.1 39).toInt ≤ 8 := k_o0.1 39
  have ey_o0_39 : (o0.1 39).toInt = (yo0.1 39).toInt := congrArg Int32.toInt (r_o0.1 39 rfl)
  have g_o0_40 : (0 : Int) ≤ (o0.1 40).toInt ∧ (o0.1 40).toInt ≤ 6 := k_o0.1 40
  have ey_o0_40 : (o0.1 40).toInt = (yo0.1 40).toInt := congrArg Int32.toInt (r_o0.1 40 rfl)
  have g_o0_43 : (0 : Int) ≤ (o0.1 43).toInt ∧ (o0.1 43).toInt ≤ 200 := k_o0.1 43
  have ey_o0_43 : (o0.1 43).toInt = (yo0.1 43).toInt := congrArg Int32.toInt (r_o0.1 43 rfl)
  refine tt_if (fun c1 => ?_) (fun c1 => ?_)
  · have wc1 : v1.toInt < (0 : Int) := c_lt c1
    have i2 : ((-1) : Int) ≤ v1.toInt ∧ v1.toInt ≤ (-1) := nr_ltl c1 i_v1 (show (0 : Int) ≤ (0 : Int32).toInt ∧ (0 : Int32).toInt ≤ 0 by decide) (by decide) (by decide)
    have p3 : Lk (-1) ((o0.1 39).toInt + 1) (o0.1 43).toInt (o0.1 40).toInt (o0.2.1 47) (o0.2.1 44) (o0.2.1 45) (o0.2.1 49) (o0.2.1 48) := by have e1 : v1.toInt = -1 := (by omega); rw [← e1]; exact x_2
    have p4 : Ap ((o0.1 39).toInt + 1) (o0.1 43).toInt (o0.2.1 44) (o0.2.1 45) (o0.2.1 49) (o0.2.1 48) (o0.2.1 50) := by exact Ap_0 x_1 (by decide)
    exact H.2.2.2 _ _ k_o0 r_o0 (iv_w (a := 0) (b := 200) (by decide) (by decide) (show (0 : Int) ≤ (0 : Int32).toInt ∧ (0 : Int32).toInt ≤ 0 by decide)) f_o0_0 f_o0_38 f_o0_95 x_0 p3 p4 (show 0 + (200 - 0) * 2 < (n : Int) by omega)
  · have wc1 : (0 : Int) ≤ v1.toInt := c_nlt c1
    have i5 : (0 : Int) ≤ v1.toInt ∧ v1.toInt ≤ 199 := nr_nltr c1 (show (0 : Int) ≤ (0 : Int32).toInt ∧ (0 : Int32).toInt ≤ 0 by decide) i_v1 (by decide) (by decide)
    try unfold fM_base
    try unfold fM_base_0
    refine tt_bkv (P := fun z => ((1 : Int) ≤ z.toInt ∧ z.toInt ≤ 9) ∧ z = ((o0.1 39) + 1) ∧ z.toInt = (o0.1 39).toInt + 1) ⟨iv_add (k_o0.1 39) (show (1 : Int) ≤ (1 : Int32).toInt ∧ (1 : Int32).toInt ≤ 1 by decide) (by decide) (by decide) (by decide) (by decide), rfl, iq_add (k_o0.1 39) (show (1 : Int) ≤ (1 : Int32).toInt ∧ (1 : Int32).toInt ≤ 1 by decide) (by decide) (by decide)⟩ (fun x6 qi7 => ?_)
    obtain ⟨i7, ax6, ei7⟩ := qi7
    refine tt_bs ?_
    refine tt_kv (P := fun z => ((1 : Int) ≤ z.toInt ∧ z.toInt ≤ 208) ∧ z = (x6 + v1) ∧ z.toInt = x6.toInt + v1.toInt) ⟨iv_add i7 i5 (by decide) (by decide) (by decide) (by decide), rfl, iq_add i7 i5 (by decide) (by decide)⟩ (fun x8 qi9 => ?_)
    obtain ⟨i9, ax8, ei9⟩ := qi9
    refine tt_n (ix_ok i9 (by decide) (by decide)) ?_
    refine tt_kv (P := fun z => ((0 : Int) ≤ z.toInt ∧ z.toInt ≤ 1) ∧ z = (o0.2.1 49 x8.toNatClampNeg) ∧ z.toInt = (o0.2.1 49 x8.toNatClampNeg).toInt) ⟨(k_o0.2 49 _), rfl, rfl⟩ (fun x10 qi11 => ?_)
    obtain ⟨i11, ax10, ei11⟩ := qi11
    refine tt_if (fun c12 => ?_) (fun c12 => ?_)
    · have wc12 : x10.toInt = (0 : Int) := c_eq c12
      have i13 : (0 : Int) ≤ x10.toInt ∧ x10.toInt ≤ 0 := nr_eql c12 i11 (show (0 : Int) ≤ (0 : Int32).toInt ∧ (0 : Int32).toInt ≤ 0 by decide) (by decide) (by decide)
      try unfold fM_look_170
      refine tt_kv (P := fun z => (((-1) : Int) ≤ z.toInt ∧ z.toInt ≤ 198) ∧ z = (v1 + (-1)) ∧ z.toInt = v1.toInt + (-1)) ⟨iv_add i5 (show ((-1) : Int) ≤ ((-1) : Int32).toInt ∧ ((-1) : Int32).toInt ≤ (-1) by decide) (by decide) (by decide) (by decide) (by decide), rfl, iq_add i5 (show ((-1) : Int) ≤ ((-1) : Int32).toInt ∧ ((-1) : Int32).toInt ≤ (-1) by decide) (by decide) (by decide)⟩ (fun x14 qi15 => ?_)
      obtain ⟨i15, ax14, ei15⟩ := qi15
      have p16 : Lk x14.toInt ((o0.1 39).toInt + 1) (o0.1 43).toInt (o0.1 40).toInt (o0.2.1 47) (o0.2.1 44) (o0.2.1 45) (o0.2.1 49) (o0.2.1 48) := by first | exact Lk_n (j := x8.toNatClampNeg) x_2 (by omega) (by omega) (by rw [tn_n]; omega) (by omega) (by omega) | exact Lk_s (g := v1.toNatClampNeg) (j := x8.toNatClampNeg) x_2 x_0 (by omega) (by omega) (by omega) (by rw [tn_n]; omega) (by rw [tn_n]; omega) (by rw [tn_n]; omega) (by rw [tn_n]; omega) (by omega) (by decide) (by decide) (by omega) (by omega) (by omega)
      exact H.2.2.1 _ _ k_o0 r_o0 (iv_w (a := (-1)) (b := 199) (by decide) (by decide) i15) f_o0_0 f_o0_38 f_o0_95 x_0 x_1 p16 (show x14.toInt < (o0.1 43).toInt by omega) (show 402 + (x14.toInt - (-1)) * 2 < (n : Int) by omega)
    · have wc12 : ¬ x10.toInt = (0 : Int) := c_ne c12
      have i17 : (1 : Int) ≤ x10.toInt ∧ x10.toInt ≤ 1 := nr_nela c12 i11 (show (0 : Int) ≤ (0 : Int32).toInt ∧ (0 : Int32).toInt ≤ 0 by decide) (by decide) (by decide)
      refine tt_n (ix_ok i5 (by decide) (by decide)) ?_
      refine tt_kv (P := fun z => ((0 : Int) ≤ z.toInt ∧ z.toInt ≤ 417) ∧ z = (o0.2.1 44 v1.toNatClampNeg) ∧ z.toInt = (o0.2.1 44 v1.toNatClampNeg).toInt) ⟨(k_o0.2 44 _), rfl, rfl⟩ (fun x18 qi19 => ?_)
      obtain ⟨i19, ax18, ei19⟩ := qi19
      have t20 := tn_n v1
      have t21 := x_0 (v1.toNatClampNeg)
      refine tt_kv (P := fun z => ((0 : Int) ≤ z.toInt ∧ z.toInt ≤ 208) ∧ z = (x18 / 2) ∧ z.toInt = x18.toInt / 2) ⟨iv_div (k := 2) i19 (show (2 : Int) ≤ (2 : Int32).toInt ∧ (2 : Int32).toInt ≤ 2 by decide) (by decide) (by decide) (by decide) (by decide), rfl, i_dv (Int.le_trans (by decide) i19.1) (by decide)⟩ (fun x22 qi23 => ?_)
      obtain ⟨i23, ax22, ei23⟩ := qi23
      refine tt_n (ix_ok i23 (by decide) (by decide)) ?_
      refine tt_ko ?_
      have k24 := ok_xp (k := 49) (i := x22.toNatClampNeg) (v := (vp_nar .boolean 1)) k_o0 (iv_nz _)
      have r25 := fr_xp (k := 49) (i := x22.toNatClampNeg) (v := (vp_nar .boolean 1)) r_o0 rfl
      refine tt_n (ix_ok i5 (by decide) (by decide)) ?_
      refine tt_kv (P := fun z => ((0 : Int) ≤ z.toInt ∧ z.toInt ≤ 417) ∧ z = (o0.2.1 45 v1.toNatClampNeg) ∧ z.toInt = (o0.2.1 45 v1.toNatClampNeg).toInt) ⟨(k24.2 45 _), rfl, rfl⟩ (fun x26 qi27 => ?_)
      obtain ⟨i27, ax26, ei27⟩ := qi27
      have t28 := tn_n v1
      have t29 := x_0 (v1.toNatClampNeg)
      refine tt_kv (P := fun z => ((0 : Int) ≤ z.toInt ∧ z.toInt ≤ 208) ∧ z = (x26 / 2) ∧ z.toInt = x26.toInt / 2) ⟨iv_div (k := 2) i27 (show (2 : Int) ≤ (2 : Int32).toInt ∧ (2 : Int32).toInt ≤ 2 by decide) (by decide) (by decide) (by decide) (by decide), rfl, i_dv (Int.le_trans (by decide) i27.1) (by decide)⟩ (fun x30 qi31 => ?_)
      obtain ⟨i31, ax30, ei31⟩ := qi31
      refine tt_n (ix_ok i31 (by decide) (by decide)) ?_
      refine tt_ko ?_
      have k32 := ok_xp (k := 49) (i := x30.toNatClampNeg) (v := (vp_nar .boolean 1)) k24 (iv_nz _)
      have r33 := fr_xp (k := 49) (i := x30.toNatClampNeg) (v := (vp_nar .boolean 1)) r25 rfl
      refine tt_n (ix_ok i5 (by decide) (by decide)) ?_
      refine tt_kv (P := fun z => x18 = z ∧ True) ⟨ax18, trivial⟩ (fun x34 hx34 => ?_)
      obtain ⟨rfl, -⟩ := hx34
      refine tt_kv (P := fun z => x22 = z ∧ True) ⟨ax22, trivial⟩ (fun x35 hx35 => ?_)
      obtain ⟨rfl, -⟩ := hx35
      refine tt_n (ix_ok i23 (by decide) (by decide)) ?_
      refine tt_kv (P := fun z => ((0 : Int) ≤ z.toInt ∧ z.toInt ≤ 406) ∧ z = (o0.2.1 48 x22.toNatClampNeg) ∧ z.toInt = (o0.2.1 48 x22.toNatClampNeg).toInt) ⟨(k32.2 48 _), rfl, rfl⟩ (fun x36 qi37 => ?_)
      obtain ⟨i37, ax36, ei37⟩ := qi37
      have t38 := tn_n x22
      have t39 := Lk_b x_2 (x22.toNatClampNeg)
      refine tt_kv (P := fun z => ((1 : Int) ≤ z.toInt ∧ z.toInt ≤ 407) ∧ z = (x36 + 1) ∧ z.toInt = x36.toInt + 1) ⟨iv_add i37 (show (1 : Int) ≤ (1 : Int32).toInt ∧ (1 : Int32).toInt ≤ 1 by decide) (by decide) (by decide) (by decide) (by decide), rfl, iq_add i37 (show (1 : Int) ≤ (1 : Int32).toInt ∧ (1 : Int32).toInt ≤ 1 by decide) (by decide) (by decide)⟩ (fun x40 qi41 => ?_)
      obtain ⟨i41, ax40, ei41⟩ := qi41
      refine tt_n (ix_ok i23 (by decide) (by decide)) ?_
      refine tt_ko ?_
      have k42 := ok_xp (k := 48) (i := x22.toNatClampNeg) (v := x40) k32 (show (0 : Int) ≤ _ ∧ _ ≤ (406 : Int) by omega)
      have r43 := fr_xp (k := 48) (i := x22.toNatClampNeg) (v := x40) r33 rfl
      refine tt_n (ix_ok i5 (by decide) (by decide)) ?_
      refine tt_kv (P := fun z => x26 = z ∧ True) ⟨ax26, trivial⟩ (fun x44 hx44 => ?_)
      obtain ⟨rfl, -⟩ := hx44
      refine tt_kv (P := fun z => x30 = z ∧ True) ⟨ax30, trivial⟩ (fun x45 hx45 => ?_)
      obtain ⟨rfl, -⟩ := hx45
      refine tt_n (ix_ok i31 (by decide) (by decide)) ?_
      refine tt_kv (P := fun z => ((0 : Int) ≤ z.toInt ∧ z.toInt ≤ 406) ∧ z = (upd (o0.2.1 48) (x22.toNatClampNeg) x40 x30.toNatClampNeg) ∧ z.toInt = (upd (o0.2.1 48) (x22.toNatClampNeg) x40 x30.toNatClampNeg).toInt) ⟨(k42.2 48 _), rfl, rfl⟩ (fun x46 qi47 => ?_)
      obtain ⟨i47, ax46, ei47⟩ := qi47
      have t48 : ¬ x30.toNatClampNeg = x22.toNatClampNeg → (upd (o0.2.1 48) (x22.toNatClampNeg) x40 x30.toNatClampNeg).toInt = (o0.2.1 48 x30.toNatClampNeg).toInt := fun q => congrArg Int32.toInt (up_o q)
      have t49 := Lk_b x_2 (x30.toNatClampNeg)
      have t50 := tn_n x30
      have t51 := tn_n x22
      have t52 := tn_n x30
      refine tt_kv (P := fun z => ((1 : Int) ≤ z.toInt ∧ z.toInt ≤ 407) ∧ z = (x46 + 1) ∧ z.toInt = x46.toInt + 1) ⟨iv_add i47 (show (1 : Int) ≤ (1 : Int32).toInt ∧ (1 : Int32).toInt ≤ 1 by decide) (by decide) (by decide) (by decide) (by decide), rfl, iq_add i47 (show (1 : Int) ≤ (1 : Int32).toInt ∧ (1 : Int32).toInt ≤ 1 by decide) (by decide) (by decide)⟩ (fun x53 qi54 => ?_)
      obtain ⟨i54, ax53, ei54⟩ := qi54
      refine tt_n (ix_ok i31 (by decide) (by decide)) ?_
      refine tt_ko ?_
      have k55 := ok_xp (k := 48) (i := x30.toNatClampNeg) (v := x53) k42 (show (0 : Int) ≤ _ ∧ _ ≤ (406 : Int) by omega)
      have r56 := fr_xp (k := 48) (i := x30.toNatClampNeg) (v := x53) r43 rfl
      try unfold fM_look_170
      refine tt_kv (P := fun z => (((-1) : Int) ≤ z.toInt ∧ z.toInt ≤ 198) ∧ z = (v1 + (-1)) ∧ z.toInt = v1.toInt + (-1)) ⟨iv_add i5 (show ((-1) : Int) ≤ ((-1) : Int32).toInt ∧ ((-1) : Int32).toInt ≤ (-1) by decide) (by decide) (by decide) (by decide) (by decide), rfl, iq_add i5 (show ((-1) : Int) ≤ ((-1) : Int32).toInt ∧ ((-1) : Int32).toInt ≤ (-1) by decide) (by decide) (by decide)⟩ (fun x57 qi58 => ?_)
      obtain ⟨i58, ax57, ei58⟩ := qi58
      have p59 : Lk x57.toInt ((o0.1 39).toInt + 1) (o0.1 43).toInt (o0.1 40).toInt (o0.2.1 47) (o0.2.1 44) (o0.2.1 45) (upd (upd (o0.2.1 49) (x22.toNatClampNeg) (vp_nar .boolean 1)) (x30.toNatClampNeg) (vp_nar .boolean 1)) (upd (upd (o0.2.1 48) (x22.toNatClampNeg) x40) (x30.toNatClampNeg) x53) := by first | exact Lk_n (j := x8.toNatClampNeg) x_2 (by omega) (by omega) (by rw [tn_n]; omega) (by omega) (by omega) | exact Lk_s (g := v1.toNatClampNeg) (j := x8.toNatClampNeg) x_2 x_0 (by omega) (by omega) (by omega) (by rw [tn_n]; omega) (by rw [tn_n]; omega) (by rw [tn_n]; omega) (by rw [tn_n]; omega) (by omega) (by decide) (by decide) (by omega) (by omega) (by omega)
      exact H.2.2.1 _ _ k55 r56 (iv_w (a := (-1)) (b := 199) (by decide) (by decide) i58) f_o0_0 f_o0_38 f_o0_95 x_0 x_1 p59 (show x57.toInt < (o0.1 43).toInt by omega) (show 402 + (x57.toInt - (-1)) * 2 < (n : Int) by omega)
set_option maxHeartbeats 4000000 in
set_option maxRecDepth 100000 in
theorem tM_look_38 {yo0 : cf_O} {n : Nat} (H : HM_look yo0 n) (v1 : Int32) (o0 : cf_O) (k_o0 : okO I_M o0) (r_o0 : Fr (fr_M [] [48, 49, 50] []) yo0 o0) (i_v1 : (0 : Int) ≤ v1.toInt ∧ v1.toInt ≤ 6) (f_o0_0 : (0 : Int) ≤ (o0.1 0).toInt ∧ (o0.1 0).toInt ≤ 0) (f_o0_38 : (1 : Int) ≤ (o0.1 38).toInt ∧ (o0.1 38).toInt ≤ 1) (f_o0_95 : (0 : Int) ≤ (o0.1 95).toInt ∧ (o0.1 95).toInt ≤ 0) (x_0 : Gx ((o0.1 39).toInt + 1) (o0.1 43).toInt (o0.2.1 44) (o0.2.1 45)) (x_1 : Fc 210 (o0.2.1 50)) (x_2 : Uo v1.toInt (o0.2.1 47) (o0.2.1 48)) (x_3 : Nk v1.toInt (o0.2.1 47) (o0.2.1 49)) (x_4 : v1.toInt ≤ (o0.1 40).toInt) (hm : 804 + (6 - v1.toInt) * 2 ≤ (n : Int)) : tt (fM_look_38 (gM_look n) v1 o0) (QM_look yo0) := by
  unfold fM_look_38
  have g_o0_39 : (0 : Int) ≤ (o0.1 39).toInt ∧ (o0.1 39).toInt ≤ 8 := k_o0.1 39
  have ey_o0_39 : (o0.1 39).toInt = (yo0.1 39).toInt := congrArg Int32.toInt (r_o0.1 39 rfl)
  have g_o0_40 : (0 : Int) ≤ (o0.1 40).toInt ∧ (o0.1 40).toInt ≤ 6 := k_o0.1 40
  have ey_o0_40 : (o0.1 40).toInt = (yo0.1 40).toInt := congrArg Int32.toInt (r_o0.1 40 rfl)
  have g_o0_43 : (0 : Int) ≤ (o0.1 43).toInt ∧ (o0.1 43).toInt ≤ 200 := k_o0.1 43
  have ey_o0_43 : (o0.1 43).toInt = (yo0.1 43).toInt := congrArg Int32.toInt (r_o0.1 43 rfl)
  refine tt_if (fun c1 => ?_) (fun c1 => ?_)
  · have wc1 : (o0.1 40).toInt ≤ v1.toInt := c_le c1
    refine tt_kv (P := fun z => (((-1) : Int) ≤ z.toInt ∧ z.toInt ≤ 199) ∧ z = ((o0.1 43) - 1) ∧ z.toInt = (o0.1 43).toInt - 1) ⟨iv_sub (k_o0.1 43) (show (1 : Int) ≤ (1 : Int32).toInt ∧ (1 : Int32).toInt ≤ 1 by decide) (by decide) (by decide) (by decide) (by decide), rfl, iq_sub (k_o0.1 43) (show (1 : Int) ≤ (1 : Int32).toInt ∧ (1 : Int32).toInt ≤ 1 by decide) (by decide) (by decide)⟩ (fun x2 qi3 => ?_)
    obtain ⟨i3, ax2, ei3⟩ := qi3
    have p4 : Lk x2.toInt ((o0.1 39).toInt + 1) (o0.1 43).toInt (o0.1 40).toInt (o0.2.1 47) (o0.2.1 44) (o0.2.1 45) (o0.2.1 49) (o0.2.1 48) := by exact Lk_0 x_2 x_3 (by omega) (by omega) (by omega)
    exact H.2.2.1 _ _ k_o0 r_o0 i3 f_o0_0 f_o0_38 f_o0_95 x_0 x_1 p4 (show x2.toInt < (o0.1 43).toInt by omega) (show 402 + (x2.toInt - (-1)) * 2 < (n : Int) by omega)
  · have wc1 : v1.toInt < (o0.1 40).toInt := c_nle c1
    have i5 : (0 : Int) ≤ v1.toInt ∧ v1.toInt ≤ 5 := nr_nlel c1 i_v1 (k_o0.1 40) (by decide) (by decide)
    have i6 : (1 : Int) ≤ (o0.1 40).toInt ∧ (o0.1 40).toInt ≤ 6 := nr_nler c1 i_v1 (k_o0.1 40) (by decide) (by decide)
    refine tt_n (ix_ok i5 (by decide) (by decide)) ?_
    refine tt_kv (P := fun z => ((0 : Int) ≤ z.toInt ∧ z.toInt ≤ 417) ∧ z = (o0.2.1 47 v1.toNatClampNeg) ∧ z.toInt = (o0.2.1 47 v1.toNatClampNeg).toInt) ⟨(k_o0.2 47 _), rfl, rfl⟩ (fun x7 qi8 => ?_)
    obtain ⟨i8, ax7, ei8⟩ := qi8
    refine tt_kv (P := fun z => ((0 : Int) ≤ z.toInt ∧ z.toInt ≤ 208) ∧ z = (x7 / 2) ∧ z.toInt = x7.toInt / 2) ⟨iv_div (k := 2) i8 (show (2 : Int) ≤ (2 : Int32).toInt ∧ (2 : Int32).toInt ≤ 2 by decide) (by decide) (by decide) (by decide) (by decide), rfl, i_dv (Int.le_trans (by decide) i8.1) (by decide)⟩ (fun x9 qi10 => ?_)
    obtain ⟨i10, ax9, ei10⟩ := qi10
    refine tt_n (ix_ok i10 (by decide) (by decide)) ?_
    refine tt_ko ?_
    have k11 := ok_xp (k := 49) (i := x9.toNatClampNeg) (v := (vp_nar .boolean 1)) k_o0 (iv_nz _)
    have r12 := fr_xp (k := 49) (i := x9.toNatClampNeg) (v := (vp_nar .boolean 1)) r_o0 rfl
    refine tt_n (ix_ok i5 (by decide) (by decide)) ?_
    refine tt_kv (P := fun z => x7 = z ∧ True) ⟨ax7, trivial⟩ (fun x13 hx13 => ?_)
    obtain ⟨rfl, -⟩ := hx13
    refine tt_kv (P := fun z => x9 = z ∧ True) ⟨ax9, trivial⟩ (fun x14 hx14 => ?_)
    obtain ⟨rfl, -⟩ := hx14
    refine tt_n (ix_ok i10 (by decide) (by decide)) ?_
    refine tt_kv (P := fun z => ((0 : Int) ≤ z.toInt ∧ z.toInt ≤ 406) ∧ z = (o0.2.1 48 x9.toNatClampNeg) ∧ z.toInt = (o0.2.1 48 x9.toNatClampNeg).toInt) ⟨(k11.2 48 _), rfl, rfl⟩ (fun x15 qi16 => ?_)
    obtain ⟨i16, ax15, ei16⟩ := qi16
    have t17 := tn_n x9
    have t18 := Uo_b x_2 (x9.toNatClampNeg)
    refine tt_kv (P := fun z => ((1 : Int) ≤ z.toInt ∧ z.toInt ≤ 407) ∧ z = (x15 + 1) ∧ z.toInt = x15.toInt + 1) ⟨iv_add i16 (show (1 : Int) ≤ (1 : Int32).toInt ∧ (1 : Int32).toInt ≤ 1 by decide) (by decide) (by decide) (by decide) (by decide), rfl, iq_add i16 (show (1 : Int) ≤ (1 : Int32).toInt ∧ (1 : Int32).toInt ≤ 1 by decide) (by decide) (by decide)⟩ (fun x19 qi20 => ?_)
    obtain ⟨i20, ax19, ei20⟩ := qi20
    refine tt_n (ix_ok i10 (by decide) (by decide)) ?_
    refine tt_ko ?_
    have k21 := ok_xp (k := 48) (i := x9.toNatClampNeg) (v := x19) k11 (show (0 : Int) ≤ _ ∧ _ ≤ (406 : Int) by omega)
    have r22 := fr_xp (k := 48) (i := x9.toNatClampNeg) (v := x19) r12 rfl
    refine tt_kv (P := fun z => ((1 : Int) ≤ z.toInt ∧ z.toInt ≤ 6) ∧ z = (v1 + 1) ∧ z.toInt = v1.toInt + 1) ⟨iv_add i5 (show (1 : Int) ≤ (1 : Int32).toInt ∧ (1 : Int32).toInt ≤ 1 by decide) (by decide) (by decide) (by decide) (by decide), rfl, iq_add i5 (show (1 : Int) ≤ (1 : Int32).toInt ∧ (1 : Int32).toInt ≤ 1 by decide) (by decide) (by decide)⟩ (fun x23 qi24 => ?_)
    obtain ⟨i24, ax23, ei24⟩ := qi24
    have p25 : Uo x23.toInt (o0.2.1 47) (upd (o0.2.1 48) (x9.toNatClampNeg) x19) := by exact Uo_s (k := v1.toNatClampNeg) x_2 (by omega) (by omega) (by rw [tn_n]; omega) (by rw [tn_n]; omega) (by omega)
    have p26 : Nk x23.toInt (o0.2.1 47) (upd (o0.2.1 49) (x9.toNatClampNeg) (vp_nar .boolean 1)) := by exact Nk_s (k := v1.toNatClampNeg) x_3 (by omega) (by rw [tn_n]; omega) (by rw [tn_n]; omega) (by decide)
    exact H.2.1 _ _ k21 r22 (iv_w (a := 0) (b := 6) (by decide) (by decide) i24) f_o0_0 f_o0_38 f_o0_95 x_0 x_1 p25 p26 (show x23.toInt ≤ (o0.1 40).toInt by omega) (show 804 + (6 - x23.toInt) * 2 < (n : Int) by omega)
set_option maxHeartbeats 4000000 in
set_option maxRecDepth 100000 in
theorem tM_look_2 {yo0 : cf_O} {n : Nat} (H : HM_look yo0 n) (v1 : Int32) (o0 : cf_O) (k_o0 : okO I_M o0) (r_o0 : Fr (fr_M [] [48, 49, 50] []) yo0 o0) (i_v1 : (0 : Int) ≤ v1.toInt ∧ v1.toInt ≤ 210) (f_o0_0 : (0 : Int) ≤ (o0.1 0).toInt ∧ (o0.1 0).toInt ≤ 0) (f_o0_38 : (1 : Int) ≤ (o0.1 38).toInt ∧ (o0.1 38).toInt ≤ 1) (f_o0_95 : (0 : Int) ≤ (o0.1 95).toInt ∧ (o0.1 95).toInt ≤ 0) (x_0 : Gx ((o0.1 39).toInt + 1) (o0.1 43).toInt (o0.2.1 44) (o0.2.1 45)) (x_1 : Fc v1.toInt (o0.2.1 49)) (x_2 : Fc v1.toInt (o0.2.1 48)) (x_3 : Fc v1.toInt (o0.2.1 50)) (hm : 818 + (210 - v1.toInt) * 2 ≤ (n : Int)) : tt (fM_look_2 (gM_look n) v1 o0) (QM_look yo0) := by
  unfold fM_look_2
  have g_o0_39 : (0 : Int) ≤ (o0.1 39).toInt ∧ (o0.1 39).toInt ≤ 8 := k_o0.1 39
  have ey_o0_39 : (o0.1 39).toInt = (yo0.1 39).toInt := congrArg Int32.toInt (r_o0.1 39 rfl)
  have g_o0_40 : (0 : Int) ≤ (o0.1 40).toInt ∧ (o0.1 40).toInt ≤ 6 := k_o0.1 40
  have ey_o0_40 : (o0.1 40).toInt = (yo0.1 40).toInt := congrArg Int32.toInt (r_o0.1 40 rfl)
  have g_o0_43 : (0 : Int) ≤ (o0.1 43).toInt ∧ (o0.1 43).toInt ≤ 200 := k_o0.1 43
  have ey_o0_43 : (o0.1 43).toInt = (yo0.1 43).toInt := congrArg Int32.toInt (r_o0.1 43 rfl)
  refine tt_if (fun c1 => ?_) (fun c1 => ?_)
  · have wc1 : (210 : Int) ≤ v1.toInt := c_le c1
    have i2 : (210 : Int) ≤ v1.toInt ∧ v1.toInt ≤ 210 := nr_ler c1 (show (210 : Int) ≤ (210 : Int32).toInt ∧ (210 : Int32).toInt ≤ 210 by decide) i_v1 (by decide) (by decide)
    have p3 : Fc 210 (o0.2.1 50) := by rw [show (210 : Int) = v1.toInt by omega]; assumption
    have p4 : Uo 0 (o0.2.1 47) (o0.2.1 48) := by exact Uo_0 (by assumption) (by omega)
    have p5 : Nk 0 (o0.2.1 47) (o0.2.1 49) := by exact Nk_0 _ _
    exact H.2.1 _ _ k_o0 r_o0 (iv_w (a := 0) (b := 6) (by decide) (by decide) (show (0 : Int) ≤ (0 : Int32).toInt ∧ (0 : Int32).toInt ≤ 0 by decide)) f_o0_0 f_o0_38 f_o0_95 x_0 p3 p4 p5 (show 0 ≤ (o0.1 40).toInt by omega) (show 804 + (6 - 0) * 2 < (n : Int) by omega)
  · have wc1 : v1.toInt < (210 : Int) := c_nle c1
    have i6 : (0 : Int) ≤ v1.toInt ∧ v1.toInt ≤ 209 := nr_nlel c1 i_v1 (show (210 : Int) ≤ (210 : Int32).toInt ∧ (210 : Int32).toInt ≤ 210 by decide) (by decide) (by decide)
    refine tt_n (ix_ok i6 (by decide) (by decide)) ?_
    refine tt_ko ?_
    have k7 := ok_xp (k := 49) (i := v1.toNatClampNeg) (v := (vp_nar .boolean 0)) k_o0 (iv_nz _)
    have r8 := fr_xp (k := 49) (i := v1.toNatClampNeg) (v := (vp_nar .boolean 0)) r_o0 rfl
    refine tt_n (ix_ok i6 (by decide) (by decide)) ?_
    refine tt_ko ?_
    have k9 := ok_xp (k := 48) (i := v1.toNatClampNeg) (v := 0) k7 (iv_w (a := 0) (b := 406) (by decide) (by decide) (show (0 : Int) ≤ (0 : Int32).toInt ∧ (0 : Int32).toInt ≤ 0 by decide))
    have r10 := fr_xp (k := 48) (i := v1.toNatClampNeg) (v := 0) r8 rfl
    refine tt_n (ix_ok i6 (by decide) (by decide)) ?_
    refine tt_ko ?_
    have k11 := ok_xp (k := 50) (i := v1.toNatClampNeg) (v := (vp_nar .boolean 0)) k9 (iv_nz _)
    have r12 := fr_xp (k := 50) (i := v1.toNatClampNeg) (v := (vp_nar .boolean 0)) r10 rfl
    refine tt_kv (P := fun z => ((1 : Int) ≤ z.toInt ∧ z.toInt ≤ 210) ∧ z = (v1 + 1) ∧ z.toInt = v1.toInt + 1) ⟨iv_add i6 (show (1 : Int) ≤ (1 : Int32).toInt ∧ (1 : Int32).toInt ≤ 1 by decide) (by decide) (by decide) (by decide) (by decide), rfl, iq_add i6 (show (1 : Int) ≤ (1 : Int32).toInt ∧ (1 : Int32).toInt ≤ 1 by decide) (by decide) (by decide)⟩ (fun x13 qi14 => ?_)
    obtain ⟨i14, ax13, ei14⟩ := qi14
    have p15 : Fc x13.toInt (upd (o0.2.1 49) (v1.toNatClampNeg) (vp_nar .boolean 0)) := by exact Fc_s (by assumption) (by omega) (by rw [tn_n]; omega) (by decide)
    have p16 : Fc x13.toInt (upd (o0.2.1 48) (v1.toNatClampNeg) 0) := by exact Fc_s (by assumption) (by omega) (by rw [tn_n]; omega) (by decide)
    have p17 : Fc x13.toInt (upd (o0.2.1 50) (v1.toNatClampNeg) (vp_nar .boolean 0)) := by exact Fc_s (by assumption) (by omega) (by rw [tn_n]; omega) (by decide)
    exact H.1 _ _ k11 r12 (iv_w (a := 0) (b := 210) (by decide) (by decide) i14) f_o0_0 f_o0_38 f_o0_95 x_0 p15 p16 p17 (show 818 + (210 - x13.toInt) * 2 < (n : Int) by omega)
set_option maxHeartbeats 4000000 in
set_option maxRecDepth 100000 in
theorem hM_look (yo0 : cf_O) : ∀ n, HM_look yo0 n := by
  intro n
  induction n with
  | zero => exact ⟨(fun v1 o0 k_o0 r_o0 i_v1 f_o0_0 f_o0_38 f_o0_95 x_0 x_1 x_2 x_3 hm => by exact absurd (show 818 + (210 - v1.toInt) * 2 < (0 : Int) from hm) (by omega)), (fun v1 o0 k_o0 r_o0 i_v1 f_o0_0 f_o0_38 f_o0_95 x_0 x_1 x_2 x_3 x_4 hm => by exact absurd (show 804 + (6 - v1.toInt) * 2 < (0 : Int) from hm) (by omega)), (fun v1 o0 k_o0 r_o0 i_v1 f_o0_0 f_o0_38 f_o0_95 x_0 x_1 x_2 x_3 hm => by exact absurd (show 402 + (v1.toInt - (-1)) * 2 < (0 : Int) from hm) (by omega)), (fun v1 o0 k_o0 r_o0 i_v1 f_o0_0 f_o0_38 f_o0_95 x_0 x_1 x_2 hm => by exact absurd (show 0 + (200 - v1.toInt) * 2 < (0 : Int) from hm) (by omega))⟩
  | succ n ih => exact ⟨(fun v1 o0 k_o0 r_o0 i_v1 f_o0_0 f_o0_38 f_o0_95 x_0 x_1 x_2 x_3 hm => tM_look_2 ih v1 o0 k_o0 r_o0 i_v1 f_o0_0 f_o0_38 f_o0_95 x_0 x_1 x_2 x_3 (by omega)), (fun v1 o0 k_o0 r_o0 i_v1 f_o0_0 f_o0_38 f_o0_95 x_0 x_1 x_2 x_3 x_4 hm => tM_look_38 ih v1 o0 k_o0 r_o0 i_v1 f_o0_0 f_o0_38 f_o0_95 x_0 x_1 x_2 x_3 x_4 (by omega)), (fun v1 o0 k_o0 r_o0 i_v1 f_o0_0 f_o0_38 f_o0_95 x_0 x_1 x_2 x_3 hm => tM_look_90 ih v1 o0 k_o0 r_o0 i_v1 f_o0_0 f_o0_38 f_o0_95 x_0 x_1 x_2 x_3 (by omega)), (fun v1 o0 k_o0 r_o0 i_v1 f_o0_0 f_o0_38 f_o0_95 x_0 x_1 x_2 hm => tM_look_178 ih v1 o0 k_o0 r_o0 i_v1 f_o0_0 f_o0_38 f_o0_95 x_0 x_1 x_2 (by omega))⟩
set_option maxHeartbeats 4000000 in
set_option maxRecDepth 100000 in
theorem sM_look (o0 : cf_O) (k_o0 : okO I_M o0) (f_o0_0 : (0 : Int) ≤ (o0.1 0).toInt ∧ (o0.1 0).toInt ≤ 0) (f_o0_38 : (1 : Int) ≤ (o0.1 38).toInt ∧ (o0.1 38).toInt ≤ 1) (f_o0_95 : (0 : Int) ≤ (o0.1 95).toInt ∧ (o0.1 95).toInt ≤ 0) (x_0 : Gx ((o0.1 39).toInt + 1) (o0.1 43).toInt (o0.2.1 44) (o0.2.1 45)) : tt (fM_look o0) (QM_look o0) := by
  have H := hM_look o0 cfFU
  have hm : (1241 : Int) ≤ (cfFU : Nat) := by decide
  have r_o0 : Fr (fr_M [] [48, 49, 50] []) o0 o0 := fr_rfl
  unfold fM_look fM_look_0
  have g_o0_39 : (0 : Int) ≤ (o0.1 39).toInt ∧ (o0.1 39).toInt ≤ 8 := k_o0.1 39
  have g_o0_40 : (0 : Int) ≤ (o0.1 40).toInt ∧ (o0.1 40).toInt ≤ 6 := k_o0.1 40
  have g_o0_43 : (0 : Int) ≤ (o0.1 43).toInt ∧ (o0.1 43).toInt ≤ 200 := k_o0.1 43
  have p1 : Fc 0 (o0.2.1 49) := by exact Fc_0 _
  have p2 : Fc 0 (o0.2.1 48) := by exact Fc_0 _
  have p3 : Fc 0 (o0.2.1 50) := by exact Fc_0 _
  exact H.1 _ _ k_o0 r_o0 (iv_w (a := 0) (b := 210) (by decide) (by decide) (show (0 : Int) ≤ (0 : Int32).toInt ∧ (0 : Int32).toInt ≤ 0 by decide)) f_o0_0 f_o0_38 f_o0_95 x_0 p1 p2 p3 (show 818 + (210 - 0) * 2 < ((cfFU : Nat) : Int) by omega)
def QM_leaves (v1 : Int32) (o0 : cf_O) (r : (cf_O)) : Prop := (okO I_M r) ∧ (Fr (fr_M [52, 54] [53, 55] []) o0 r) ∧ ((0 : Int) ≤ (r.1 54).toInt ∧ (r.1 54).toInt ≤ 0) ∧ (No (r.1 52).toInt ((r.1 37).toInt + (r.1 31).toInt) (r.2.1 53)) ∧ (2 ≤ (r.1 52).toInt) ∧ True
def HM_leaves (yv1 : Int32) (yo0 : cf_O) (n : Nat) : Prop := (∀ (o0 : cf_O), (okO I_M o0) → (Fr (fr_M [52, 54] [53, 55] []) yo0 o0) → ((0 : Int) ≤ (o0.1 0).toInt ∧ (o0.1 0).toInt ≤ 0) → ((1 : Int) ≤ (o0.1 37).toInt ∧ (o0.1 37).toInt ≤ 9) → ((1 : Int) ≤ (o0.1 38).toInt ∧ (o0.1 38).toInt ≤ 1) → ((1 : Int) ≤ (o0.1 43).toInt ∧ (o0.1 43).toInt ≤ 200) → ((0 : Int) ≤ (o0.1 95).toInt ∧ (o0.1 95).toInt ≤ 0) → (Gx ((o0.1 39).toInt + 1) (o0.1 43).toInt (o0.2.1 44) (o0.2.1 45)) → (Lk (-1) ((o0.1 39).toInt + 1) (o0.1 43).toInt (o0.1 40).toInt (o0.2.1 47) (o0.2.1 44) (o0.2.1 45) (o0.2.1 49) (o0.2.1 48)) → (Ap ((o0.1 39).toInt + 1) (o0.1 43).toInt (o0.2.1 44) (o0.2.1 45) (o0.2.1 49) (o0.2.1 48) (o0.2.1 50)) → (Rq ((o0.1 39).toInt + 1 + yv1.toInt) ((o0.1 39).toInt + 1) ((o0.1 37).toInt + (o0.1 31).toInt) (o0.2.1 49) (o0.2.1 50) (o0.2.1 51)) → (Lv (o0.1 54).toInt (o0.1 52).toInt ((o0.1 39).toInt + 1) (o0.1 43).toInt yv1.toNatClampNeg (o0.2.1 55) (o0.2.1 44) (o0.2.1 45) (o0.2.1 49)) → (No (o0.1 52).toInt ((o0.1 37).toInt + (o0.1 31).toInt) (o0.2.1 53)) → (0 ≤ (o0.1 54).toInt) → (0 ≤ (o0.1 52).toInt) → (0 ≤ yv1.toInt) → 402 - (o0.1 54).toInt - 2 * (o0.1 52).toInt < (n : Int) → tt (gM_leaves n 0 o0) (QM_leaves yv1 yo0))
set_option maxHeartbeats 4000000 in
set_option maxRecDepth 100000 in
theorem tM_leaves_34 {yv1 : Int32} {yo0 : cf_O} {n : Nat} (H : HM_leaves yv1 yo0 n) (o0 : cf_O) (k_o0 : okO I_M o0) (r_o0 : Fr (fr_M [52, 54] [53, 55] []) yo0 o0) (f_o0_0 : (0 : Int) ≤ (o0.1 0).toInt ∧ (o0.1 0).toInt ≤ 0) (f_o0_37 : (1 : Int) ≤ (o0.1 37).toInt ∧ (o0.1 37).toInt ≤ 9) (f_o0_38 : (1 : Int) ≤ (o0.1 38).toInt ∧ (o0.1 38).toInt ≤ 1) (f_o0_43 : (1 : Int) ≤ (o0.1 43).toInt ∧ (o0.1 43).toInt ≤ 200) (f_o0_95 : (0 : Int) ≤ (o0.1 95).toInt ∧ (o0.1 95).toInt ≤ 0) (x_0 : Gx ((o0.1 39).toInt + 1) (o0.1 43).toInt (o0.2.1 44) (o0.2.1 45)) (x_1 : Lk (-1) ((o0.1 39).toInt + 1) (o0.1 43).toInt (o0.1 40).toInt (o0.2.1 47) (o0.2.1 44) (o0.2.1 45) (o0.2.1 49) (o0.2.1 48)) (x_2 : Ap ((o0.1 39).toInt + 1) (o0.1 43).toInt (o0.2.1 44) (o0.2.1 45) (o0.2.1 49) (o0.2.1 48) (o0.2.1 50)) (x_3 : Rq ((o0.1 39).toInt + 1 + yv1.toInt) ((o0.1 39).toInt + 1) ((o0.1 37).toInt + (o0.1 31).toInt) (o0.2.1 49) (o0.2.1 50) (o0.2.1 51)) (x_4 : Lv (o0.1 54).toInt (o0.1 52).toInt ((o0.1 39).toInt + 1) (o0.1 43).toInt yv1.toNatClampNeg (o0.2.1 55) (o0.2.1 44) (o0.2.1 45) (o0.2.1 49)) (x_5 : No (o0.1 52).toInt ((o0.1 37).toInt + (o0.1 31).toInt) (o0.2.1 53)) (x_6 : 0 ≤ (o0.1 54).toInt) (x_7 : 0 ≤ (o0.1 52).toInt) (x_8 : 0 ≤ yv1.toInt) (hm : 402 - (o0.1 54).toInt - 2 * (o0.1 52).toInt ≤ (n : Int)) : tt (fM_leaves_34 (gM_leaves n) o0) (QM_leaves yv1 yo0) := by
  unfold fM_leaves_34
  have g_o0_31 : (0 : Int) ≤ (o0.1 31).toInt ∧ (o0.1 31).toInt ≤ 200 := k_o0.1 31
  have ey_o0_31 : (o0.1 31).toInt = (yo0.1 31).toInt := congrArg Int32.toInt (r_o0.1 31 rfl)
  have ey_o0_37 : (o0.1 37).toInt = (yo0.1 37).toInt := congrArg Int32.toInt (r_o0.1 37 rfl)
  have g_o0_39 : (0 : Int) ≤ (o0.1 39).toInt ∧ (o0.1 39).toInt ≤ 8 := k_o0.1 39
  have ey_o0_39 : (o0.1 39).toInt = (yo0.1 39).toInt := congrArg Int32.toInt (r_o0.1 39 rfl)
  have ey_o0_43 : (o0.1 43).toInt = (yo0.1 43).toInt := congrArg Int32.toInt (r_o0.1 43 rfl)
  have g_o0_52 : (0 : Int) ≤ (o0.1 52).toInt ∧ (o0.1 52).toInt ≤ 420 := k_o0.1 52
  have g_o0_54 : (0 : Int) ≤ (o0.1 54).toInt ∧ (o0.1 54).toInt ≤ 420 := k_o0.1 54
  have t1 := Lv_b x_4 (k_o0.1 43).1
  refine tt_if (fun c2 => ?_) (fun c2 => ?_)
  · have wc2 : (o0.1 54).toInt ≤ (0 : Int) := c_le c2
    have i3 : (0 : Int) ≤ (o0.1 54).toInt ∧ (o0.1 54).toInt ≤ 0 := nr_lel c2 (k_o0.1 54) (show (0 : Int) ≤ (0 : Int32).toInt ∧ (0 : Int32).toInt ≤ 0 by decide) (by decide) (by decide)
    exact tt_some ⟨k_o0, r_o0, i3, x_5, (show 2 ≤ (o0.1 52).toInt by omega), trivial⟩
  · have wc2 : (0 : Int) < (o0.1 54).toInt := c_nle c2
    have i4 : (1 : Int) ≤ (o0.1 54).toInt ∧ (o0.1 54).toInt ≤ 420 := nr_nler c2 (show (0 : Int) ≤ (0 : Int32).toInt ∧ (0 : Int32).toInt ≤ 0 by decide) (k_o0.1 54) (by decide) (by decide)
    refine tt_kv (P := fun z => ((0 : Int) ≤ z.toInt ∧ z.toInt ≤ 419) ∧ z = ((o0.1 54) - 1) ∧ z.toInt = (o0.1 54).toInt - 1) ⟨iv_sub i4 (show (1 : Int) ≤ (1 : Int32).toInt ∧ (1 : Int32).toInt ≤ 1 by decide) (by decide) (by decide) (by decide) (by decide), rfl, iq_sub i4 (show (1 : Int) ≤ (1 : Int32).toInt ∧ (1 : Int32).toInt ≤ 1 by decide) (by decide) (by decide)⟩ (fun x5 qi6 => ?_)
    obtain ⟨i6, ax5, ei6⟩ := qi6
    refine tt_ko ?_
    have k7 := ok_fp (k := 54) (v := x5) k_o0 (iv_w (a := 0) (b := 420) (by decide) (by decide) i6)
    have r8 := fr_fp (k := 54) (v := x5) r_o0 rfl
    refine tt_n (ix_ok i6 (by decide) (by decide)) ?_
    refine tt_kv (P := fun z => ((0 : Int) ≤ z.toInt ∧ z.toInt ≤ 417) ∧ z = (o0.2.1 55 x5.toNatClampNeg) ∧ z.toInt = (o0.2.1 55 x5.toNatClampNeg).toInt) ⟨(k7.2 55 _), rfl, rfl⟩ (fun x9 qi10 => ?_)
    obtain ⟨i10, ax9, ei10⟩ := qi10
    have t11 := Lv_n x_4 x_0 (i := x5.toNatClampNeg) (by rw [tn_n]; omega)
    refine tt_b (sM_goesApart _ _ k7 i10 f_o0_0 f_o0_38 f_o0_43 f_o0_95) (fun q12 hq12 => ?_)
    obtain ⟨i_q12, zq12_0, -⟩ := hq12
    have zq12_0 : Ga q12.toInt x9.toInt (o0.1 39).toInt (o0.2.1 48) := zq12_0
    refine tt_if (fun c13 => ?_) (fun c13 => ?_)
    · have wc13 : q12.toInt = (0 : Int) := c_eq c13
      have i14 : (0 : Int) ≤ q12.toInt ∧ q12.toInt ≤ 0 := nr_eql c13 i_q12 (show (0 : Int) ≤ (0 : Int32).toInt ∧ (0 : Int32).toInt ≤ 0 by decide) (by decide) (by decide)
      refine tt_kv (P := fun z => ((0 : Int) ≤ z.toInt ∧ z.toInt ≤ 208) ∧ z = (x9 / 2) ∧ z.toInt = x9.toInt / 2) ⟨iv_div (k := 2) i10 (show (2 : Int) ≤ (2 : Int32).toInt ∧ (2 : Int32).toInt ≤ 2 by decide) (by decide) (by decide) (by decide) (by decide), rfl, i_dv (Int.le_trans (by decide) i10.1) (by decide)⟩ (fun x15 qi16 => ?_)
      obtain ⟨i16, ax15, ei16⟩ := qi16
      refine tt_n (ix_ok i16 (by decide) (by decide)) ?_
      refine tt_kv (P := fun z => ((0 : Int) ≤ z.toInt ∧ z.toInt ≤ 417) ∧ z = (o0.2.1 51 x15.toNatClampNeg) ∧ z.toInt = (o0.2.1 51 x15.toNatClampNeg).toInt) ⟨(k7.2 51 _), rfl, rfl⟩ (fun x17 qi18 => ?_)
      obtain ⟨i18, ax17, ei18⟩ := qi18
      refine tt_kv (P := fun z => ((0 : Int) ≤ z.toInt ∧ z.toInt ≤ 1) ∧ z = (x9 &&& 1)) ⟨iv_and (show (1 : Int) ≤ (1 : Int32).toInt ∧ (1 : Int32).toInt ≤ 1 by decide) (by decide) (by decide) (by decide), rfl⟩ (fun x19 qi20 => ?_)
      obtain ⟨i20, ax19⟩ := qi20
      refine tt_kv (P := fun z => ((0 : Int) ≤ z.toInt ∧ z.toInt ≤ 417) ∧ z = (x17 ^^^ x19) ∧ z.toInt = x17.toInt - x17.toInt % 2 + (x17.toInt + x19.toInt) % 2) ⟨iv_x1 i18 i20 (by decide) (by decide) (by decide) (by decide) (by decide), rfl, i_xb (Int.le_trans (by decide) i18.1) (Int.le_trans (by decide) i20.1) (Int.le_trans i20.2 (by decide))⟩ (fun x21 qi22 => ?_)
      obtain ⟨i22, ax21, ei22⟩ := qi22
      refine tt_n (ix_rel (x := (o0.1 52)) (by omega) (by omega)) ?_
      have i23 : (0 : Int) ≤ (o0.1 52).toInt ∧ (o0.1 52).toInt ≤ 419 := (by omega)
      refine tt_ko ?_
      have k24 := ok_xp (k := 53) (i := (o0.1 52).toNatClampNeg) (v := x21) k7 i22
      have r25 := fr_xp (k := 53) (i := (o0.1 52).toNatClampNeg) (v := x21) r8 rfl
      refine tt_kv (P := fun z => ((1 : Int) ≤ z.toInt ∧ z.toInt ≤ 420) ∧ z = ((o0.1 52) + 1) ∧ z.toInt = (o0.1 52).toInt + 1) ⟨iv_add i23 (show (1 : Int) ≤ (1 : Int32).toInt ∧ (1 : Int32).toInt ≤ 1 by decide) (by decide) (by decide) (by decide) (by decide), rfl, iq_add i23 (show (1 : Int) ≤ (1 : Int32).toInt ∧ (1 : Int32).toInt ≤ 1 by decide) (by decide) (by decide)⟩ (fun x26 qi27 => ?_)
      obtain ⟨i27, ax26, ei27⟩ := qi27
      refine tt_ko ?_
      have k28 := ok_fp (k := 52) (v := x26) k24 (iv_w (a := 0) (b := 420) (by decide) (by decide) i27)
      have r29 := fr_fp (k := 52) (v := x26) r25 rfl
      try unfold fM_leaves_154
      have p30 : Lv x5.toInt x26.toInt ((o0.1 39).toInt + 1) (o0.1 43).toInt yv1.toNatClampNeg (o0.2.1 55) (o0.2.1 44) (o0.2.1 45) (o0.2.1 49) := by exact Lv_pop x_4 (by omega) (by omega) (by omega)
      have p31 : No x26.toInt ((o0.1 37).toInt + (o0.1 31).toInt) (upd (o0.2.1 53) ((o0.1 52).toNatClampNeg) x21) := by have lf := Lv_leaf (l := x9) (z := x17) (q := x15.toNatClampNeg) (i := ((o0.1 54).toInt - 1).toNat) (ga := 0) (inp := 0) x_4 x_0 x_1 x_2 (Rq_n x_3 (by rw [tn_n]; omega)) (Ga_no (show Ga _ x9.toInt _ _ by assumption) (by omega) (by rw [tn_n]; omega) rfl) (by omega) (by omega) (ix_e (show x9.toInt = (o0.2.1 55 _).toInt by assumption) (by rw [← Int.ofNat_inj, tn_n]; omega)) (by rw [tn_n]; omega) (by assumption) (by omega) (by omega); exact No_s x_5 (by omega) (by rw [tn_n]; omega) (by omega)
      exact H _ k28 r29 f_o0_0 f_o0_37 f_o0_38 f_o0_43 f_o0_95 x_0 x_1 x_2 x_3 p30 p31 (show 0 ≤ x5.toInt by omega) (show 0 ≤ x26.toInt by omega) (show 0 ≤ yv1.toInt by omega) (show 402 - x5.toInt - 2 * x26.toInt < (n : Int) by omega)
    · have wc13 : ¬ q12.toInt = (0 : Int) := c_ne c13
      have i32 : (1 : Int) ≤ q12.toInt ∧ q12.toInt ≤ 1 := nr_nela c13 i_q12 (show (0 : Int) ≤ (0 : Int32).toInt ∧ (0 : Int32).toInt ≤ 0 by decide) (by decide) (by decide)
      have t33 := Ga_e (show Ga q12.toInt _ (o0.1 39).toInt _ by assumption) (by omega)
      refine tt_kv (P := fun z => ((0 : Int) ≤ z.toInt ∧ z.toInt ≤ 208) ∧ z = (x9 / 2) ∧ z.toInt = x9.toInt / 2) ⟨iv_div (k := 2) i10 (show (2 : Int) ≤ (2 : Int32).toInt ∧ (2 : Int32).toInt ≤ 2 by decide) (by decide) (by decide) (by decide) (by decide), rfl, i_dv (Int.le_trans (by decide) i10.1) (by decide)⟩ (fun x34 qi35 => ?_)
      obtain ⟨i35, ax34, ei35⟩ := qi35
      try unfold fM_base
      try unfold fM_base_0
      refine tt_bkv (P := fun z => ((1 : Int) ≤ z.toInt ∧ z.toInt ≤ 9) ∧ z = ((o0.1 39) + 1) ∧ z.toInt = (o0.1 39).toInt + 1) ⟨iv_add (k_o0.1 39) (show (1 : Int) ≤ (1 : Int32).toInt ∧ (1 : Int32).toInt ≤ 1 by decide) (by decide) (by decide) (by decide) (by decide), rfl, iq_add (k_o0.1 39) (show (1 : Int) ≤ (1 : Int32).toInt ∧ (1 : Int32).toInt ≤ 1 by decide) (by decide) (by decide)⟩ (fun x36 qi37 => ?_)
      obtain ⟨i37, ax36, ei37⟩ := qi37
      refine tt_bs ?_
      refine tt_kv (P := fun z => (((-9) : Int) ≤ z.toInt ∧ z.toInt ≤ 207) ∧ z = (x34 - x36) ∧ z.toInt = x34.toInt - x36.toInt) ⟨iv_sub i35 i37 (by decide) (by decide) (by decide) (by decide), rfl, iq_sub i35 i37 (by decide) (by decide)⟩ (fun x38 qi39 => ?_)
      obtain ⟨i39, ax38, ei39⟩ := qi39
      refine tt_n (ix_rel (by omega) (by omega)) ?_
      have i40 : (0 : Int) ≤ x38.toInt ∧ x38.toInt ≤ 200 := (by omega)
      refine tt_kv (P := fun z => ((0 : Int) ≤ z.toInt ∧ z.toInt ≤ 417) ∧ z = (o0.2.1 45 x38.toNatClampNeg) ∧ z.toInt = (o0.2.1 45 x38.toNatClampNeg).toInt) ⟨(k7.2 45 _), rfl, rfl⟩ (fun x41 qi42 => ?_)
      obtain ⟨i42, ax41, ei42⟩ := qi42
      refine tt_n (ix_ok i6 (by decide) (by decide)) ?_
      refine tt_ko ?_
      have k43 := ok_xp (k := 55) (i := x5.toNatClampNeg) (v := x41) k7 i42
      have r44 := fr_xp (k := 55) (i := x5.toNatClampNeg) (v := x41) r8 rfl
      refine tt_kv (P := fun z => ((1 : Int) ≤ z.toInt ∧ z.toInt ≤ 420) ∧ z = (x5 + 1) ∧ z.toInt = x5.toInt + 1) ⟨iv_add i6 (show (1 : Int) ≤ (1 : Int32).toInt ∧ (1 : Int32).toInt ≤ 1 by decide) (by decide) (by decide) (by decide) (by decide), rfl, iq_add i6 (show (1 : Int) ≤ (1 : Int32).toInt ∧ (1 : Int32).toInt ≤ 1 by decide) (by decide) (by decide)⟩ (fun x45 qi46 => ?_)
      obtain ⟨i46, ax45, ei46⟩ := qi46
      refine tt_n (ix_ok i40 (by decide) (by decide)) ?_
      refine tt_kv (P := fun z => ((0 : Int) ≤ z.toInt ∧ z.toInt ≤ 417) ∧ z = (o0.2.1 44 x38.toNatClampNeg) ∧ z.toInt = (o0.2.1 44 x38.toNatClampNeg).toInt) ⟨(k43.2 44 _), rfl, rfl⟩ (fun x47 qi48 => ?_)
      obtain ⟨i48, ax47, ei48⟩ := qi48
      refine tt_n (ix_rel (by omega) (by omega)) ?_
      have i49 : (1 : Int) ≤ x45.toInt ∧ x45.toInt ≤ 419 := (by omega)
      have i50 : (0 : Int) ≤ x5.toInt ∧ x5.toInt ≤ 418 := by omega
      have i51 : (1 : Int) ≤ (o0.1 54).toInt ∧ (o0.1 54).toInt ≤ 419 := by omega
      refine tt_ko ?_
      have k52 := ok_xp (k := 55) (i := x45.toNatClampNeg) (v := x47) k43 i48
      have r53 := fr_xp (k := 55) (i := x45.toNatClampNeg) (v := x47) r44 rfl
      refine tt_kv (P := fun z => ((2 : Int) ≤ z.toInt ∧ z.toInt ≤ 420) ∧ z = (x5 + 2) ∧ z.toInt = x5.toInt + 2) ⟨iv_add i50 (show (2 : Int) ≤ (2 : Int32).toInt ∧ (2 : Int32).toInt ≤ 2 by decide) (by decide) (by decide) (by decide) (by decide), rfl, iq_add i50 (show (2 : Int) ≤ (2 : Int32).toInt ∧ (2 : Int32).toInt ≤ 2 by decide) (by decide) (by decide)⟩ (fun x54 qi55 => ?_)
      obtain ⟨i55, ax54, ei55⟩ := qi55
      refine tt_ko ?_
      have k56 := ok_fp (k := 54) (v := x54) k52 (iv_w (a := 0) (b := 420) (by decide) (by decide) i55)
      have r57 := fr_fp (k := 54) (v := x54) r53 rfl
      try unfold fM_leaves_154
      have p58 : Lv x54.toInt (o0.1 52).toInt ((o0.1 39).toInt + 1) (o0.1 43).toInt yv1.toNatClampNeg (upd (upd (o0.2.1 55) (x5.toNatClampNeg) x41) (x45.toNatClampNeg) x47) (o0.2.1 44) (o0.2.1 45) (o0.2.1 49) := by have ga := Ga_e (show Ga _ x9.toInt _ _ by assumption) (by omega); exact Lv_put (m := x38.toNatClampNeg) (l := x9) x_4 x_0 x_1 (by omega) (by omega) (by rw [tn_n]; omega) (by rw [tn_n]; omega) (by assumption) (by rw [tn_n]; omega) (by rw [show ((o0.1 39).toInt + 1 + ((x38.toNatClampNeg : Nat) : Int)).toNat = (x9.toInt / 2).toNat by rw [tn_n]; omega]; exact ga.2.2) (by omega) (by omega) (by assumption) (by assumption)
      exact H _ k56 r57 f_o0_0 f_o0_37 f_o0_38 f_o0_43 f_o0_95 x_0 x_1 x_2 x_3 p58 x_5 (show 0 ≤ x54.toInt by omega) (show 0 ≤ (o0.1 52).toInt by omega) (show 0 ≤ yv1.toInt by omega) (show 402 - x54.toInt - 2 * (o0.1 52).toInt < (n : Int) by omega)
set_option maxHeartbeats 4000000 in
set_option maxRecDepth 100000 in
theorem hM_leaves (yv1 : Int32) (yo0 : cf_O) : ∀ n, HM_leaves yv1 yo0 n := by
  intro n
  induction n with
  | zero => exact (fun o0 k_o0 r_o0 f_o0_0 f_o0_37 f_o0_38 f_o0_43 f_o0_95 x_0 x_1 x_2 x_3 x_4 x_5 x_6 x_7 x_8 hm => by have z_o0_52 : (0 : Int) ≤ (o0.1 52).toInt ∧ (o0.1 52).toInt ≤ 420 := k_o0.1 52; have z_o0_54 : (0 : Int) ≤ (o0.1 54).toInt ∧ (o0.1 54).toInt ≤ 420 := k_o0.1 54; exact absurd (show 402 - (o0.1 54).toInt - 2 * (o0.1 52).toInt < (0 : Int) from hm) (by have zz := Lv_b x_4 (k_o0.1 43).1; omega))
  | succ n ih => exact (fun o0 k_o0 r_o0 f_o0_0 f_o0_37 f_o0_38 f_o0_43 f_o0_95 x_0 x_1 x_2 x_3 x_4 x_5 x_6 x_7 x_8 hm => tM_leaves_34 ih o0 k_o0 r_o0 f_o0_0 f_o0_37 f_o0_38 f_o0_43 f_o0_95 x_0 x_1 x_2 x_3 x_4 x_5 x_6 x_7 x_8 (by omega))
set_option maxHeartbeats 4000000 in
set_option maxRecDepth 100000 in
theorem sM_leaves (v1 : Int32) (o0 : cf_O) (k_o0 : okO I_M o0) (i_v1 : (0 : Int) ≤ v1.toInt ∧ v1.toInt ≤ 199) (f_o0_0 : (0 : Int) ≤ (o0.1 0).toInt ∧ (o0.1 0).toInt ≤ 0) (f_o0_37 : (1 : Int) ≤ (o0.1 37).toInt ∧ (o0.1 37).toInt ≤ 9) (f_o0_38 : (1 : Int) ≤ (o0.1 38).toInt ∧ (o0.1 38).toInt ≤ 1) (f_o0_43 : (1 : Int) ≤ (o0.1 43).toInt ∧ (o0.1 43).toInt ≤ 200) (f_o0_95 : (0 : Int) ≤ (o0.1 95).toInt ∧ (o0.1 95).toInt ≤ 0) (x_0 : Gx ((o0.1 39).toInt + 1) (o0.1 43).toInt (o0.2.1 44) (o0.2.1 45)) (x_1 : Lk (-1) ((o0.1 39).toInt + 1) (o0.1 43).toInt (o0.1 40).toInt (o0.2.1 47) (o0.2.1 44) (o0.2.1 45) (o0.2.1 49) (o0.2.1 48)) (x_2 : Ap ((o0.1 39).toInt + 1) (o0.1 43).toInt (o0.2.1 44) (o0.2.1 45) (o0.2.1 49) (o0.2.1 48) (o0.2.1 50)) (x_3 : Rq ((o0.1 39).toInt + 1 + v1.toInt) ((o0.1 39).toInt + 1) ((o0.1 37).toInt + (o0.1 31).toInt) (o0.2.1 49) (o0.2.1 50) (o0.2.1 51)) (x_4 : v1.toInt < (o0.1 43).toInt) (x_5 : (¬ ((o0.2.1 49) ((o0.1 39).toInt + 1 + v1.toInt).toNat).toInt = 0)) : tt (fM_leaves v1 o0) (QM_leaves v1 o0) := by
  have H := hM_leaves v1 o0 cfFU
  have hm : (500 : Int) ≤ (cfFU : Nat) := by decide
  have r_o0 : Fr (fr_M [52, 54] [53, 55] []) o0 o0 := fr_rfl
  unfold fM_leaves fM_leaves_0
  have g_o0_31 : (0 : Int) ≤ (o0.1 31).toInt ∧ (o0.1 31).toInt ≤ 200 := k_o0.1 31
  have g_o0_39 : (0 : Int) ≤ (o0.1 39).toInt ∧ (o0.1 39).toInt ≤ 8 := k_o0.1 39
  have g_o0_52 : (0 : Int) ≤ (o0.1 52).toInt ∧ (o0.1 52).toInt ≤ 420 := k_o0.1 52
  have g_o0_54 : (0 : Int) ≤ (o0.1 54).toInt ∧ (o0.1 54).toInt ≤ 420 := k_o0.1 54
  refine tt_ko ?_
  have k1 := ok_fp (k := 52) (v := 0) k_o0 (iv_w (a := 0) (b := 420) (by decide) (by decide) (show (0 : Int) ≤ (0 : Int32).toInt ∧ (0 : Int32).toInt ≤ 0 by decide))
  have r2 := fr_fp (k := 52) (v := 0) r_o0 rfl
  refine tt_ko ?_
  have k3 := ok_fp (k := 54) (v := 2) k1 (iv_w (a := 0) (b := 420) (by decide) (by decide) (show (2 : Int) ≤ (2 : Int32).toInt ∧ (2 : Int32).toInt ≤ 2 by decide))
  have r4 := fr_fp (k := 54) (v := 2) r2 rfl
  refine tt_n (ix_ok i_v1 (by decide) (by decide)) ?_
  refine tt_kv (P := fun z => ((0 : Int) ≤ z.toInt ∧ z.toInt ≤ 417) ∧ z = (o0.2.1 45 v1.toNatClampNeg) ∧ z.toInt = (o0.2.1 45 v1.toNatClampNeg).toInt) ⟨(k3.2 45 _), rfl, rfl⟩ (fun x5 qi6 => ?_)
  obtain ⟨i6, ax5, ei6⟩ := qi6
  refine tt_n (ix_ok (show (0 : Int) ≤ (0 : Int32).toInt ∧ (0 : Int32).toInt ≤ 0 by decide) (by decide) (by decide)) ?_
  refine tt_ko ?_
  have k7 := ok_xp (k := 55) (i := (0 : Int32).toNatClampNeg) (v := x5) k3 i6
  have r8 := fr_xp (k := 55) (i := (0 : Int32).toNatClampNeg) (v := x5) r4 rfl
  refine tt_n (ix_ok i_v1 (by decide) (by decide)) ?_
  refine tt_kv (P := fun z => ((0 : Int) ≤ z.toInt ∧ z.toInt ≤ 417) ∧ z = (o0.2.1 44 v1.toNatClampNeg) ∧ z.toInt = (o0.2.1 44 v1.toNatClampNeg).toInt) ⟨(k7.2 44 _), rfl, rfl⟩ (fun x9 qi10 => ?_)
  obtain ⟨i10, ax9, ei10⟩ := qi10
  refine tt_n (ix_ok (show (1 : Int) ≤ (1 : Int32).toInt ∧ (1 : Int32).toInt ≤ 1 by decide) (by decide) (by decide)) ?_
  refine tt_ko ?_
  have k11 := ok_xp (k := 55) (i := (1 : Int32).toNatClampNeg) (v := x9) k7 i10
  have r12 := fr_xp (k := 55) (i := (1 : Int32).toNatClampNeg) (v := x9) r8 rfl
  have p13 : Lv 2 0 ((o0.1 39).toInt + 1) (o0.1 43).toInt v1.toNatClampNeg (upd (upd (o0.2.1 55) ((0 : Int32).toNatClampNeg) x5) ((1 : Int32).toNatClampNeg) x9) (o0.2.1 44) (o0.2.1 45) (o0.2.1 49) := by exact Lv_0 rfl rfl (by rw [tn_n]; omega) (j := ((o0.1 39).toInt + 1 + v1.toInt).toNat) (by rw [tn_n]; omega) (by omega) x_5 (by assumption) (by assumption) (by decide) (by decide)
  have p14 : No 0 ((o0.1 37).toInt + (o0.1 31).toInt) (o0.2.1 53) := by exact No_z (by decide)
  exact H _ k11 r12 f_o0_0 f_o0_37 f_o0_38 f_o0_43 f_o0_95 x_0 x_1 x_2 x_3 p13 p14 (show 0 ≤ 2 by omega) (show 0 ≤ 0 by omega) (show 0 ≤ v1.toInt by omega) (show 402 - 2 - 2 * 0 < ((cfFU : Nat) : Int) by omega)
def QM_takeLeast (o0 : cf_O) (r : (Int32 × cf_O)) : Prop := ((0 : Int) ≤ r.1.toInt ∧ r.1.toInt ≤ 417) ∧ (okO I_M r.2) ∧ (Fr (fr_M [52] [53] []) o0 r.2) ∧ ((0 : Int) ≤ (r.2.1 52).toInt ∧ (r.2.1 52).toInt ≤ 419) ∧ ((r.2.1 52).toInt = (o0.1 52).toInt - 1) ∧ (No (r.2.1 52).toInt ((r.2.1 37).toInt + (r.2.1 31).toInt) (r.2.2.1 53)) ∧ (r.1.toInt < 2 * ((o0.1 37).toInt + (o0.1 31).toInt)) ∧ True
def HM_takeLeast (yo0 : cf_O) (n : Nat) : Prop := (∀ (v1 : Int32) (v2 : Int32) (o0 : cf_O), (okO I_M o0) → (Fr (fr_M [52] [53] []) yo0 o0) → ((0 : Int) ≤ v1.toInt ∧ v1.toInt ≤ 419) → ((1 : Int) ≤ v2.toInt ∧ v2.toInt ≤ 420) → ((0 : Int) ≤ (o0.1 0).toInt ∧ (o0.1 0).toInt ≤ 0) → ((1 : Int) ≤ (o0.1 37).toInt ∧ (o0.1 37).toInt ≤ 9) → ((1 : Int) ≤ (o0.1 38).toInt ∧ (o0.1 38).toInt ≤ 1) → ((1 : Int) ≤ (o0.1 43).toInt ∧ (o0.1 43).toInt ≤ 200) → ((0 : Int) ≤ (o0.1 54).toInt ∧ (o0.1 54).toInt ≤ 0) → ((0 : Int) ≤ (o0.1 95).toInt ∧ (o0.1 95).toInt ≤ 0) → (1 ≤ (o0.1 52).toInt) → ((o0.1 52).toInt = (yo0.1 52).toInt) → (No (o0.1 52).toInt ((o0.1 37).toInt + (o0.1 31).toInt) (o0.2.1 53)) → (v1.toInt < (o0.1 52).toInt) → (0 ≤ v1.toInt) → (0 ≤ v2.toInt) → ((o0.1 37).toInt = (yo0.1 37).toInt) → ((o0.1 31).toInt = (yo0.1 31).toInt) → 840 + (420 - v2.toInt) * 2 < (n : Int) → tt (gM_takeLeast n 0 v1 v2 0 o0) (QM_takeLeast yo0)) ∧ (∀ (v2 : Int32) (v3 : Int32) (o0 : cf_O), (okO I_M o0) → (Fr (fr_M [52] [53] []) yo0 o0) → ((0 : Int) ≤ v2.toInt ∧ v2.toInt ≤ 417) → ((0 : Int) ≤ v3.toInt ∧ v3.toInt ≤ 419) → ((0 : Int) ≤ (o0.1 0).toInt ∧ (o0.1 0).toInt ≤ 0) → ((1 : Int) ≤ (o0.1 37).toInt ∧ (o0.1 37).toInt ≤ 9) → ((1 : Int) ≤ (o0.1 38).toInt ∧ (o0.1 38).toInt ≤ 1) → ((1 : Int) ≤ (o0.1 43).toInt ∧ (o0.1 43).toInt ≤ 200) → ((0 : Int) ≤ (o0.1 52).toInt ∧ (o0.1 52).toInt ≤ 419) → ((0 : Int) ≤ (o0.1 54).toInt ∧ (o0.1 54).toInt ≤ 0) → ((0 : Int) ≤ (o0.1 95).toInt ∧ (o0.1 95).toInt ≤ 0) → ((o0.1 52).toInt = (yo0.1 52).toInt - 1) → (No ((o0.1 52).toInt + 1) ((o0.1 37).toInt + (o0.1 31).toInt) (o0.2.1 53)) → (v2.toInt < 2 * ((o0.1 37).toInt + (o0.1 31).toInt)) → (0 ≤ v3.toInt) → ((o0.1 37).toInt = (yo0.1 37).toInt) → ((o0.1 31).toInt = (yo0.1 31).toInt) → 0 + (419 - v3.toInt) * 2 < (n : Int) → tt (gM_takeLeast n 1 0 v2 v3 o0) (QM_takeLeast yo0))
set_option maxHeartbeats 4000000 in
set_option maxRecDepth 100000 in
theorem tM_takeLeast_72 {yo0 : cf_O} {n : Nat} (H : HM_takeLeast yo0 n) (v2 : Int32) (v3 : Int32) (o0 : cf_O) (k_o0 : okO I_M o0) (r_o0 : Fr (fr_M [52] [53] []) yo0 o0) (i_v2 : (0 : Int) ≤ v2.toInt ∧ v2.toInt ≤ 417) (i_v3 : (0 : Int) ≤ v3.toInt ∧ v3.toInt ≤ 419) (f_o0_0 : (0 : Int) ≤ (o0.1 0).toInt ∧ (o0.1 0).toInt ≤ 0) (f_o0_37 : (1 : Int) ≤ (o0.1 37).toInt ∧ (o0.1 37).toInt ≤ 9) (f_o0_38 : (1 : Int) ≤ (o0.1 38).toInt ∧ (o0.1 38).toInt ≤ 1) (f_o0_43 : (1 : Int) ≤ (o0.1 43).toInt ∧ (o0.1 43).toInt ≤ 200) (f_o0_52 : (0 : Int) ≤ (o0.1 52).toInt ∧ (o0.1 52).toInt ≤ 419) (f_o0_54 : (0 : Int) ≤ (o0.1 54).toInt ∧ (o0.1 54).toInt ≤ 0) (f_o0_95 : (0 : Int) ≤ (o0.1 95).toInt ∧ (o0.1 95).toInt ≤ 0) (x_0 : (o0.1 52).toInt = (yo0.1 52).toInt - 1) (x_1 : No ((o0.1 52).toInt + 1) ((o0.1 37).toInt + (o0.1 31).toInt) (o0.2.1 53)) (x_2 : v2.toInt < 2 * ((o0.1 37).toInt + (o0.1 31).toInt)) (x_3 : 0 ≤ v3.toInt) (x_4 : (o0.1 37).toInt = (yo0.1 37).toInt) (x_5 : (o0.1 31).toInt = (yo0.1 31).toInt) (hm : 0 + (419 - v3.toInt) * 2 ≤ (n : Int)) : tt (fM_takeLeast_72 (gM_takeLeast n) v2 v3 o0) (QM_takeLeast yo0) := by
  unfold fM_takeLeast_72
  have g_o0_31 : (0 : Int) ≤ (o0.1 31).toInt ∧ (o0.1 31).toInt ≤ 200 := k_o0.1 31
  have ey_o0_31 : (o0.1 31).toInt = (yo0.1 31).toInt := congrArg Int32.toInt (r_o0.1 31 rfl)
  have ey_o0_37 : (o0.1 37).toInt = (yo0.1 37).toInt := congrArg Int32.toInt (r_o0.1 37 rfl)
  refine tt_if (fun c1 => ?_) (fun c1 => ?_)
  · have wc1 : (o0.1 52).toInt ≤ v3.toInt := c_le c1
    have p2 : No (o0.1 52).toInt ((o0.1 37).toInt + (o0.1 31).toInt) (o0.2.1 53) := by exact No_w x_1 (by omega) (Int.le_refl _)
    exact tt_some ⟨i_v2, k_o0, r_o0, f_o0_52, (show (o0.1 52).toInt = (yo0.1 52).toInt - 1 by omega), p2, (show v2.toInt < 2 * ((yo0.1 37).toInt + (yo0.1 31).toInt) by omega), trivial⟩
  · have wc1 : v3.toInt < (o0.1 52).toInt := c_nle c1
    have i3 : (0 : Int) ≤ v3.toInt ∧ v3.toInt ≤ 418 := nr_nlel c1 i_v3 f_o0_52 (by decide) (by decide)
    have i4 : (1 : Int) ≤ (o0.1 52).toInt ∧ (o0.1 52).toInt ≤ 419 := nr_nler c1 i_v3 f_o0_52 (by decide) (by decide)
    refine tt_kv (P := fun z => ((1 : Int) ≤ z.toInt ∧ z.toInt ≤ 419) ∧ z.toInt = v3.toInt + 1) ⟨iv_add i3 (show (1 : Int) ≤ (1 : Int32).toInt ∧ (1 : Int32).toInt ≤ 1 by decide) (by decide) (by decide) (by decide) (by decide), iq_add i3 (show (1 : Int) ≤ (1 : Int32).toInt ∧ (1 : Int32).toInt ≤ 1 by decide) (by decide) (by decide)⟩ (fun x5 qi6 => ?_)
    obtain ⟨i6, ei6⟩ := qi6
    refine tt_n (ix_ok i6 (by decide) (by decide)) ?_
    refine tt_kv (P := fun z => ((0 : Int) ≤ z.toInt ∧ z.toInt ≤ 417) ∧ z.toInt = (o0.2.1 53 x5.toNatClampNeg).toInt) ⟨(k_o0.2 53 _), rfl⟩ (fun x7 qi8 => ?_)
    obtain ⟨i8, ei8⟩ := qi8
    have t9 := tn_n x5
    have t10 := x_1 (x5.toNatClampNeg)
    refine tt_n (ix_ok i3 (by decide) (by decide)) ?_
    refine tt_ko ?_
    have k11 := ok_xp (k := 53) (i := v3.toNatClampNeg) (v := x7) k_o0 i8
    have r12 := fr_xp (k := 53) (i := v3.toNatClampNeg) (v := x7) r_o0 rfl
    refine tt_kv (P := fun z => ((1 : Int) ≤ z.toInt ∧ z.toInt ≤ 419) ∧ z.toInt = v3.toInt + 1) ⟨iv_add i3 (show (1 : Int) ≤ (1 : Int32).toInt ∧ (1 : Int32).toInt ≤ 1 by decide) (by decide) (by decide) (by decide) (by decide), iq_add i3 (show (1 : Int) ≤ (1 : Int32).toInt ∧ (1 : Int32).toInt ≤ 1 by decide) (by decide) (by decide)⟩ (fun x13 qi14 => ?_)
    obtain ⟨i14, ei14⟩ := qi14
    have p15 : No ((o0.1 52).toInt + 1) ((o0.1 37).toInt + (o0.1 31).toInt) (upd (o0.2.1 53) (v3.toNatClampNeg) x7) := by exact No_u x_1 (by omega)
    exact H.2 _ _ _ k11 r12 i_v2 (iv_w (a := 0) (b := 419) (by decide) (by decide) i14) f_o0_0 f_o0_37 f_o0_38 f_o0_43 (iv_w (a := 0) (b := 419) (by decide) (by decide) i4) f_o0_54 f_o0_95 (show (o0.1 52).toInt = (yo0.1 52).toInt - 1 by omega) p15 (show v2.toInt < 2 * ((o0.1 37).toInt + (o0.1 31).toInt) by omega) (show 0 ≤ x13.toInt by omega) (show (o0.1 37).toInt = (yo0.1 37).toInt by omega) (show (o0.1 31).toInt = (yo0.1 31).toInt by omega) (show 0 + (419 - x13.toInt) * 2 < (n : Int) by omega)
set_option maxHeartbeats 4000000 in
set_option maxRecDepth 100000 in
theorem tM_takeLeast_4 {yo0 : cf_O} {n : Nat} (H : HM_takeLeast yo0 n) (v1 : Int32) (v2 : Int32) (o0 : cf_O) (k_o0 : okO I_M o0) (r_o0 : Fr (fr_M [52] [53] []) yo0 o0) (i_v1 : (0 : Int) ≤ v1.toInt ∧ v1.toInt ≤ 419) (i_v2 : (1 : Int) ≤ v2.toInt ∧ v2.toInt ≤ 420) (f_o0_0 : (0 : Int) ≤ (o0.1 0).toInt ∧ (o0.1 0).toInt ≤ 0) (f_o0_37 : (1 : Int) ≤ (o0.1 37).toInt ∧ (o0.1 37).toInt ≤ 9) (f_o0_38 : (1 : Int) ≤ (o0.1 38).toInt ∧ (o0.1 38).toInt ≤ 1) (f_o0_43 : (1 : Int) ≤ (o0.1 43).toInt ∧ (o0.1 43).toInt ≤ 200) (f_o0_54 : (0 : Int) ≤ (o0.1 54).toInt ∧ (o0.1 54).toInt ≤ 0) (f_o0_95 : (0 : Int) ≤ (o0.1 95).toInt ∧ (o0.1 95).toInt ≤ 0) (x_0 : 1 ≤ (o0.1 52).toInt) (x_1 : (o0.1 52).toInt = (yo0.1 52).toInt) (x_2 : No (o0.1 52).toInt ((o0.1 37).toInt + (o0.1 31).toInt) (o0.2.1 53)) (x_3 : v1.toInt < (o0.1 52).toInt) (x_4 : 0 ≤ v1.toInt) (x_5 : 0 ≤ v2.toInt) (x_6 : (o0.1 37).toInt = (yo0.1 37).toInt) (x_7 : (o0.1 31).toInt = (yo0.1 31).toInt) (hm : 840 + (420 - v2.toInt) * 2 ≤ (n : Int)) : tt (fM_takeLeast_4 (gM_takeLeast n) v1 v2 o0) (QM_takeLeast yo0) := by
  unfold fM_takeLeast_4
  have g_o0_31 : (0 : Int) ≤ (o0.1 31).toInt ∧ (o0.1 31).toInt ≤ 200 := k_o0.1 31
  have ey_o0_31 : (o0.1 31).toInt = (yo0.1 31).toInt := congrArg Int32.toInt (r_o0.1 31 rfl)
  have ey_o0_37 : (o0.1 37).toInt = (yo0.1 37).toInt := congrArg Int32.toInt (r_o0.1 37 rfl)
  have g_o0_52 : (0 : Int) ≤ (o0.1 52).toInt ∧ (o0.1 52).toInt ≤ 420 := k_o0.1 52
  refine tt_if (fun c1 => ?_) (fun c1 => ?_)
  · have wc1 : (o0.1 52).toInt ≤ v2.toInt := c_le c1
    refine tt_n (ix_ok i_v1 (by decide) (by decide)) ?_
    refine tt_kv (P := fun z => ((0 : Int) ≤ z.toInt ∧ z.toInt ≤ 417) ∧ z.toInt = (o0.2.1 53 v1.toNatClampNeg).toInt) ⟨(k_o0.2 53 _), rfl⟩ (fun x2 qi3 => ?_)
    obtain ⟨i3, ei3⟩ := qi3
    have t4 := tn_n v1
    have t5 := x_2 (v1.toNatClampNeg)
    refine tt_kv (P := fun z => (((-1) : Int) ≤ z.toInt ∧ z.toInt ≤ 419) ∧ z.toInt = (o0.1 52).toInt - 1) ⟨iv_sub (k_o0.1 52) (show (1 : Int) ≤ (1 : Int32).toInt ∧ (1 : Int32).toInt ≤ 1 by decide) (by decide) (by decide) (by decide) (by decide), iq_sub (k_o0.1 52) (show (1 : Int) ≤ (1 : Int32).toInt ∧ (1 : Int32).toInt ≤ 1 by decide) (by decide) (by decide)⟩ (fun x6 qi7 => ?_)
    obtain ⟨i7, ei7⟩ := qi7
    refine tt_ko ?_
    have k8 := ok_fp (k := 52) (v := x6) k_o0 (show (0 : Int) ≤ _ ∧ _ ≤ (420 : Int) by omega)
    have i9 : (0 : Int) ≤ x6.toInt ∧ x6.toInt ≤ 419 := (by omega)
    have i10 : (1 : Int) ≤ (o0.1 52).toInt ∧ (o0.1 52).toInt ≤ 420 := by omega
    have r11 := fr_fp (k := 52) (v := x6) r_o0 rfl
    have p12 : No (x6.toInt + 1) ((o0.1 37).toInt + (o0.1 31).toInt) (o0.2.1 53) := by exact No_w x_2 (by omega) (Int.le_refl _)
    exact H.2 _ _ _ k8 r11 i3 i_v1 f_o0_0 f_o0_37 f_o0_38 f_o0_43 i9 f_o0_54 f_o0_95 (show x6.toInt = (yo0.1 52).toInt - 1 by omega) p12 (show x2.toInt < 2 * ((o0.1 37).toInt + (o0.1 31).toInt) by omega) (show 0 ≤ v1.toInt by omega) (show (o0.1 37).toInt = (yo0.1 37).toInt by omega) (show (o0.1 31).toInt = (yo0.1 31).toInt by omega) (show 0 + (419 - v1.toInt) * 2 < (n : Int) by omega)
  · have wc1 : v2.toInt < (o0.1 52).toInt := c_nle c1
    have i13 : (1 : Int) ≤ v2.toInt ∧ v2.toInt ≤ 419 := nr_nlel c1 i_v2 (k_o0.1 52) (by decide) (by decide)
    have i14 : (2 : Int) ≤ (o0.1 52).toInt ∧ (o0.1 52).toInt ≤ 420 := nr_nler c1 i_v2 (k_o0.1 52) (by decide) (by decide)
    refine tt_n (ix_ok i13 (by decide) (by decide)) ?_
    refine tt_kv (P := fun z => ((0 : Int) ≤ z.toInt ∧ z.toInt ≤ 417) ∧ z.toInt = (o0.2.1 53 v2.toNatClampNeg).toInt) ⟨(k_o0.2 53 _), rfl⟩ (fun x15 qi16 => ?_)
    obtain ⟨i16, ei16⟩ := qi16
    have t17 := tn_n v2
    have t18 := x_2 (v2.toNatClampNeg)
    refine tt_kv (P := fun z => ((0 : Int) ≤ z.toInt ∧ z.toInt ≤ 208) ∧ z.toInt = x15.toInt / 2) ⟨iv_div (k := 2) i16 (show (2 : Int) ≤ (2 : Int32).toInt ∧ (2 : Int32).toInt ≤ 2 by decide) (by decide) (by decide) (by decide) (by decide), i_dv (Int.le_trans (by decide) i16.1) (by decide)⟩ (fun x19 qi20 => ?_)
    obtain ⟨i20, ei20⟩ := qi20
    refine tt_n (ix_ok i20 (by decide) (by decide)) ?_
    refine tt_kv (P := fun z => (((-2147483648) : Int) ≤ z.toInt ∧ z.toInt ≤ 2147483647) ∧ z.toInt = (o0.2.1 34 x19.toNatClampNeg).toInt) ⟨(k_o0.2 34 _), rfl⟩ (fun x21 qi22 => ?_)
    obtain ⟨i22, ei22⟩ := qi22
    refine tt_n (ix_ok i_v1 (by decide) (by decide)) ?_
    refine tt_kv (P := fun z => ((0 : Int) ≤ z.toInt ∧ z.toInt ≤ 417) ∧ z.toInt = (o0.2.1 53 v1.toNatClampNeg).toInt) ⟨(k_o0.2 53 _), rfl⟩ (fun x23 qi24 => ?_)
    obtain ⟨i24, ei24⟩ := qi24
    have t25 := tn_n v1
    have t26 := x_2 (v1.toNatClampNeg)
    refine tt_kv (P := fun z => ((0 : Int) ≤ z.toInt ∧ z.toInt ≤ 208) ∧ z.toInt = x23.toInt / 2) ⟨iv_div (k := 2) i24 (show (2 : Int) ≤ (2 : Int32).toInt ∧ (2 : Int32).toInt ≤ 2 by decide) (by decide) (by decide) (by decide) (by decide), i_dv (Int.le_trans (by decide) i24.1) (by decide)⟩ (fun x27 qi28 => ?_)
    obtain ⟨i28, ei28⟩ := qi28
    refine tt_n (ix_ok i28 (by decide) (by decide)) ?_
    refine tt_kv (P := fun z => (((-2147483648) : Int) ≤ z.toInt ∧ z.toInt ≤ 2147483647) ∧ z.toInt = (o0.2.1 34 x27.toNatClampNeg).toInt) ⟨(k_o0.2 34 _), rfl⟩ (fun x29 qi30 => ?_)
    obtain ⟨i30, ei30⟩ := qi30
    refine tt_if (fun c31 => ?_) (fun c31 => ?_)
    · have wc31 : x29.toInt ≤ x21.toInt := c_le c31
      try unfold fM_takeLeast_46
      refine tt_kv (P := fun z => ((2 : Int) ≤ z.toInt ∧ z.toInt ≤ 420) ∧ z.toInt = v2.toInt + 1) ⟨iv_add i13 (show (1 : Int) ≤ (1 : Int32).toInt ∧ (1 : Int32).toInt ≤ 1 by decide) (by decide) (by decide) (by decide) (by decide), iq_add i13 (show (1 : Int) ≤ (1 : Int32).toInt ∧ (1 : Int32).toInt ≤ 1 by decide) (by decide) (by decide)⟩ (fun x32 qi33 => ?_)
      obtain ⟨i33, ei33⟩ := qi33
      exact H.1 _ _ _ k_o0 r_o0 i_v1 (iv_w (a := 1) (b := 420) (by decide) (by decide) i33) f_o0_0 f_o0_37 f_o0_38 f_o0_43 f_o0_54 f_o0_95 (show 1 ≤ (o0.1 52).toInt by omega) (show (o0.1 52).toInt = (yo0.1 52).toInt by omega) x_2 (show v1.toInt < (o0.1 52).toInt by omega) (show 0 ≤ v1.toInt by omega) (show 0 ≤ x32.toInt by omega) (show (o0.1 37).toInt = (yo0.1 37).toInt by omega) (show (o0.1 31).toInt = (yo0.1 31).toInt by omega) (show 840 + (420 - x32.toInt) * 2 < (n : Int) by omega)
    · have wc31 : x21.toInt < x29.toInt := c_nle c31
      have i34 : ((-2147483648) : Int) ≤ x21.toInt ∧ x21.toInt ≤ 2147483646 := nr_nlel c31 i22 i30 (by decide) (by decide)
      have i35 : ((-2147483647) : Int) ≤ x29.toInt ∧ x29.toInt ≤ 2147483647 := nr_nler c31 i22 i30 (by decide) (by decide)
      try unfold fM_takeLeast_46
      refine tt_kv (P := fun z => ((2 : Int) ≤ z.toInt ∧ z.toInt ≤ 420) ∧ z.toInt = v2.toInt + 1) ⟨iv_add i13 (show (1 : Int) ≤ (1 : Int32).toInt ∧ (1 : Int32).toInt ≤ 1 by decide) (by decide) (by decide) (by decide) (by decide), iq_add i13 (show (1 : Int) ≤ (1 : Int32).toInt ∧ (1 : Int32).toInt ≤ 1 by decide) (by decide) (by decide)⟩ (fun x36 qi37 => ?_)
      obtain ⟨i37, ei37⟩ := qi37
      exact H.1 _ _ _ k_o0 r_o0 (iv_w (a := 0) (b := 419) (by decide) (by decide) i13) (iv_w (a := 1) (b := 420) (by decide) (by decide) i37) f_o0_0 f_o0_37 f_o0_38 f_o0_43 f_o0_54 f_o0_95 (show 1 ≤ (o0.1 52).toInt by omega) (show (o0.1 52).toInt = (yo0.1 52).toInt by omega) x_2 (show v2.toInt < (o0.1 52).toInt by omega) (show 0 ≤ v2.toInt by omega) (show 0 ≤ x36.toInt by omega) (show (o0.1 37).toInt = (yo0.1 37).toInt by omega) (show (o0.1 31).toInt = (yo0.1 31).toInt by omega) (show 840 + (420 - x36.toInt) * 2 < (n : Int) by omega)
set_option maxHeartbeats 4000000 in
set_option maxRecDepth 100000 in
theorem hM_takeLeast (yo0 : cf_O) : ∀ n, HM_takeLeast yo0 n := by
  intro n
  induction n with
  | zero => exact ⟨(fun v1 v2 o0 k_o0 r_o0 i_v1 i_v2 f_o0_0 f_o0_37 f_o0_38 f_o0_43 f_o0_54 f_o0_95 x_0 x_1 x_2 x_3 x_4 x_5 x_6 x_7 hm => by exact absurd (show 840 + (420 - v2.toInt) * 2 < (0 : Int) from hm) (by omega)), (fun v2 v3 o0 k_o0 r_o0 i_v2 i_v3 f_o0_0 f_o0_37 f_o0_38 f_o0_43 f_o0_52 f_o0_54 f_o0_95 x_0 x_1 x_2 x_3 x_4 x_5 hm => by exact absurd (show 0 + (419 - v3.toInt) * 2 < (0 : Int) from hm) (by omega))⟩
  | succ n ih => exact ⟨(fun v1 v2 o0 k_o0 r_o0 i_v1 i_v2 f_o0_0 f_o0_37 f_o0_38 f_o0_43 f_o0_54 f_o0_95 x_0 x_1 x_2 x_3 x_4 x_5 x_6 x_7 hm => tM_takeLeast_4 ih v1 v2 o0 k_o0 r_o0 i_v1 i_v2 f_o0_0 f_o0_37 f_o0_38 f_o0_43 f_o0_54 f_o0_95 x_0 x_1 x_2 x_3 x_4 x_5 x_6 x_7 (by omega)), (fun v2 v3 o0 k_o0 r_o0 i_v2 i_v3 f_o0_0 f_o0_37 f_o0_38 f_o0_43 f_o0_52 f_o0_54 f_o0_95 x_0 x_1 x_2 x_3 x_4 x_5 hm => tM_takeLeast_72 ih v2 v3 o0 k_o0 r_o0 i_v2 i_v3 f_o0_0 f_o0_37 f_o0_38 f_o0_43 f_o0_52 f_o0_54 f_o0_95 x_0 x_1 x_2 x_3 x_4 x_5 (by omega))⟩
set_option maxHeartbeats 4000000 in
set_option maxRecDepth 100000 in
theorem sM_takeLeast (o0 : cf_O) (k_o0 : okO I_M o0) (f_o0_0 : (0 : Int) ≤ (o0.1 0).toInt ∧ (o0.1 0).toInt ≤ 0) (f_o0_37 : (1 : Int) ≤ (o0.1 37).toInt ∧ (o0.1 37).toInt ≤ 9) (f_o0_38 : (1 : Int) ≤ (o0.1 38).toInt ∧ (o0.1 38).toInt ≤ 1) (f_o0_43 : (1 : Int) ≤ (o0.1 43).toInt ∧ (o0.1 43).toInt ≤ 200) (f_o0_54 : (0 : Int) ≤ (o0.1 54).toInt ∧ (o0.1 54).toInt ≤ 0) (f_o0_95 : (0 : Int) ≤ (o0.1 95).toInt ∧ (o0.1 95).toInt ≤ 0) (x_0 : 1 ≤ (o0.1 52).toInt) (x_1 : No (o0.1 52).toInt ((o0.1 37).toInt + (o0.1 31).toInt) (o0.2.1 53)) : tt (fM_takeLeast o0) (QM_takeLeast o0) := by
  have H := hM_takeLeast o0 cfFU
  have hm : (1681 : Int) ≤ (cfFU : Nat) := by decide
  have r_o0 : Fr (fr_M [52] [53] []) o0 o0 := fr_rfl
  unfold fM_takeLeast fM_takeLeast_0
  have g_o0_31 : (0 : Int) ≤ (o0.1 31).toInt ∧ (o0.1 31).toInt ≤ 200 := k_o0.1 31
  have g_o0_52 : (0 : Int) ≤ (o0.1 52).toInt ∧ (o0.1 52).toInt ≤ 420 := k_o0.1 52
  exact H.1 _ _ _ k_o0 r_o0 (iv_w (a := 0) (b := 419) (by decide) (by decide) (show (0 : Int) ≤ (0 : Int32).toInt ∧ (0 : Int32).toInt ≤ 0 by decide)) (iv_w (a := 1) (b := 420) (by decide) (by decide) (show (1 : Int) ≤ (1 : Int32).toInt ∧ (1 : Int32).toInt ≤ 1 by decide)) f_o0_0 f_o0_37 f_o0_38 f_o0_43 f_o0_54 f_o0_95 (show 1 ≤ (o0.1 52).toInt by omega) (show (o0.1 52).toInt = (o0.1 52).toInt by omega) x_1 (show 0 < (o0.1 52).toInt by omega) (show 0 ≤ 0 by omega) (show 0 ≤ 1 by omega) (show (o0.1 37).toInt = (o0.1 37).toInt by omega) (show (o0.1 31).toInt = (o0.1 31).toInt by omega) (show 840 + (420 - 1) * 2 < ((cfFU : Nat) : Int) by omega)
def QM_old (o0 : cf_O) (r : (cf_O)) : Prop := (okO I_M r) ∧ (Fr (fr_M [] [51] []) o0 r) ∧ (Od ((r.1 39).toInt + 1) (r.2.1 51)) ∧ True
def HM_old (yo0 : cf_O) (n : Nat) : Prop := (∀ (v1 : Int32) (o0 : cf_O), (okO I_M o0) → (Fr (fr_M [] [51] []) yo0 o0) → ((0 : Int) ≤ v1.toInt ∧ v1.toInt ≤ 9) → ((0 : Int) ≤ (o0.1 0).toInt ∧ (o0.1 0).toInt ≤ 2) → ((0 : Int) ≤ (o0.1 31).toInt ∧ (o0.1 31).toInt ≤ 0) → ((0 : Int) ≤ (o0.1 36).toInt ∧ (o0.1 36).toInt ≤ 0) → ((1 : Int) ≤ (o0.1 37).toInt ∧ (o0.1 37).toInt ≤ 9) → ((1 : Int) ≤ (o0.1 38).toInt ∧ (o0.1 38).toInt ≤ 1) → ((0 : Int) ≤ (o0.1 95).toInt ∧ (o0.1 95).toInt ≤ 0) → (Od v1.toInt (o0.2.1 51)) → 0 + (9 - v1.toInt) * 2 < (n : Int) → tt (gM_old n 0 v1 o0) (QM_old yo0))
set_option maxHeartbeats 4000000 in
set_option maxRecDepth 100000 in
theorem tM_old_2 {yo0 : cf_O} {n : Nat} (H : HM_old yo0 n) (v1 : Int32) (o0 : cf_O) (k_o0 : okO I_M o0) (r_o0 : Fr (fr_M [] [51] []) yo0 o0) (i_v1 : (0 : Int) ≤ v1.toInt ∧ v1.toInt ≤ 9) (f_o0_0 : (0 : Int) ≤ (o0.1 0).toInt ∧ (o0.1 0).toInt ≤ 2) (f_o0_31 : (0 : Int) ≤ (o0.1 31).toInt ∧ (o0.1 31).toInt ≤ 0) (f_o0_36 : (0 : Int) ≤ (o0.1 36).toInt ∧ (o0.1 36).toInt ≤ 0) (f_o0_37 : (1 : Int) ≤ (o0.1 37).toInt ∧ (o0.1 37).toInt ≤ 9) (f_o0_38 : (1 : Int) ≤ (o0.1 38).toInt ∧ (o0.1 38).toInt ≤ 1) (f_o0_95 : (0 : Int) ≤ (o0.1 95).toInt ∧ (o0.1 95).toInt ≤ 0) (x_0 : Od v1.toInt (o0.2.1 51)) (hm : 0 + (9 - v1.toInt) * 2 ≤ (n : Int)) : tt (fM_old_2 (gM_old n) v1 o0) (QM_old yo0) := by
  unfold fM_old_2
  have g_o0_39 : (0 : Int) ≤ (o0.1 39).toInt ∧ (o0.1 39).toInt ≤ 8 := k_o0.1 39
  have ey_o0_39 : (o0.1 39).toInt = (yo0.1 39).toInt := congrArg Int32.toInt (r_o0.1 39 rfl)
  try unfold fM_base
  try unfold fM_base_0
  refine tt_bkv (P := fun z => ((1 : Int) ≤ z.toInt ∧ z.toInt ≤ 9) ∧ z.toInt = (o0.1 39).toInt + 1) ⟨iv_add (k_o0.1 39) (show (1 : Int) ≤ (1 : Int32).toInt ∧ (1 : Int32).toInt ≤ 1 by decide) (by decide) (by decide) (by decide) (by decide), iq_add (k_o0.1 39) (show (1 : Int) ≤ (1 : Int32).toInt ∧ (1 : Int32).toInt ≤ 1 by decide) (by decide) (by decide)⟩ (fun x1 qi2 => ?_)
  obtain ⟨i2, ei2⟩ := qi2
  refine tt_bs ?_
  refine tt_if (fun c3 => ?_) (fun c3 => ?_)
  · have wc3 : x1.toInt ≤ v1.toInt := c_le c3
    have i4 : (1 : Int) ≤ v1.toInt ∧ v1.toInt ≤ 9 := nr_ler c3 i2 i_v1 (by decide) (by decide)
    have p5 : Od ((o0.1 39).toInt + 1) (o0.2.1 51) := by exact Od_w x_0 (by omega)
    exact tt_some ⟨k_o0, r_o0, p5, trivial⟩
  · have wc3 : v1.toInt < x1.toInt := c_nle c3
    have i6 : (0 : Int) ≤ v1.toInt ∧ v1.toInt ≤ 8 := nr_nlel c3 i_v1 i2 (by decide) (by decide)
    refine tt_kv (P := fun z => ((0 : Int) ≤ z.toInt ∧ z.toInt ≤ 16) ∧ z.toInt = 2 * v1.toInt) ⟨iv_mul (show (2 : Int) ≤ (2 : Int32).toInt ∧ (2 : Int32).toInt ≤ 2 by decide) i6 (by decide) (by decide) (by decide) (by decide) (by decide), iq_mul (show (2 : Int) ≤ (2 : Int32).toInt ∧ (2 : Int32).toInt ≤ 2 by decide) i6 (by decide) (by decide) (by decide) (by decide)⟩ (fun x7 qi8 => ?_)
    obtain ⟨i8, ei8⟩ := qi8
    refine tt_n (ix_ok i6 (by decide) (by decide)) ?_
    refine tt_ko ?_
    have k9 := ok_xp (k := 51) (i := v1.toNatClampNeg) (v := x7) k_o0 (iv_w (a := 0) (b := 417) (by decide) (by decide) i8)
    have r10 := fr_xp (k := 51) (i := v1.toNatClampNeg) (v := x7) r_o0 rfl
    refine tt_kv (P := fun z => ((1 : Int) ≤ z.toInt ∧ z.toInt ≤ 9) ∧ z.toInt = v1.toInt + 1) ⟨iv_add i6 (show (1 : Int) ≤ (1 : Int32).toInt ∧ (1 : Int32).toInt ≤ 1 by decide) (by decide) (by decide) (by decide) (by decide), iq_add i6 (show (1 : Int) ≤ (1 : Int32).toInt ∧ (1 : Int32).toInt ≤ 1 by decide) (by decide) (by decide)⟩ (fun x11 qi12 => ?_)
    obtain ⟨i12, ei12⟩ := qi12
    have p13 : Od x11.toInt (upd (o0.2.1 51) (v1.toNatClampNeg) x7) := by exact Od_s x_0 (by omega) (by rw [tn_n]; omega) (by omega)
    exact H _ _ k9 r10 (iv_w (a := 0) (b := 9) (by decide) (by decide) i12) f_o0_0 f_o0_31 f_o0_36 f_o0_37 f_o0_38 f_o0_95 p13 (show 0 + (9 - x11.toInt) * 2 < (n : Int) by omega)
set_option maxHeartbeats 4000000 in
set_option maxRecDepth 100000 in
theorem hM_old (yo0 : cf_O) : ∀ n, HM_old yo0 n := by
  intro n
  induction n with
  | zero => exact (fun v1 o0 k_o0 r_o0 i_v1 f_o0_0 f_o0_31 f_o0_36 f_o0_37 f_o0_38 f_o0_95 x_0 hm => by exact absurd (show 0 + (9 - v1.toInt) * 2 < (0 : Int) from hm) (by omega))
  | succ n ih => exact (fun v1 o0 k_o0 r_o0 i_v1 f_o0_0 f_o0_31 f_o0_36 f_o0_37 f_o0_38 f_o0_95 x_0 hm => tM_old_2 ih v1 o0 k_o0 r_o0 i_v1 f_o0_0 f_o0_31 f_o0_36 f_o0_37 f_o0_38 f_o0_95 x_0 (by omega))
set_option maxHeartbeats 4000000 in
set_option maxRecDepth 100000 in
theorem sM_old (o0 : cf_O) (k_o0 : okO I_M o0) (f_o0_0 : (0 : Int) ≤ (o0.1 0).toInt ∧ (o0.1 0).toInt ≤ 2) (f_o0_31 : (0 : Int) ≤ (o0.1 31).toInt ∧ (o0.1 31).toInt ≤ 0) (f_o0_36 : (0 : Int) ≤ (o0.1 36).toInt ∧ (o0.1 36).toInt ≤ 0) (f_o0_37 : (1 : Int) ≤ (o0.1 37).toInt ∧ (o0.1 37).toInt ≤ 9) (f_o0_38 : (1 : Int) ≤ (o0.1 38).toInt ∧ (o0.1 38).toInt ≤ 1) (f_o0_95 : (0 : Int) ≤ (o0.1 95).toInt ∧ (o0.1 95).toInt ≤ 0) : tt (fM_old o0) (QM_old o0) := by
  have H := hM_old o0 cfFU
  have hm : (21 : Int) ≤ (cfFU : Nat) := by decide
  have r_o0 : Fr (fr_M [] [51] []) o0 o0 := fr_rfl
  unfold fM_old fM_old_0
  have g_o0_39 : (0 : Int) ≤ (o0.1 39).toInt ∧ (o0.1 39).toInt ≤ 8 := k_o0.1 39
  have p1 : Od 0 (o0.2.1 51) := by exact Od_0 _
  exact H _ _ k_o0 r_o0 (iv_w (a := 0) (b := 9) (by decide) (by decide) (show (0 : Int) ≤ (0 : Int32).toInt ∧ (0 : Int32).toInt ≤ 0 by decide)) f_o0_0 f_o0_31 f_o0_36 f_o0_37 f_o0_38 f_o0_95 p1 (show 0 + (9 - 0) * 2 < ((cfFU : Nat) : Int) by omega)
def QM_finish (o0 : cf_O) (r : (Int32 × cf_O)) : Prop := ((0 : Int) ≤ r.1.toInt ∧ r.1.toInt ≤ 200) ∧ (okO I_M r.2) ∧ (Fr (fr_M [0, 43, 64, 85] [35, 44, 45, 46, 47] []) o0 r.2) ∧ ((0 : Int) ≤ (r.2.1 0).toInt ∧ (r.2.1 0).toInt ≤ 2) ∧ (Ch (r.2.1 64) (r.2.1 73) (r.2.1 39) (r.2.1 43) (r.2.2.1 74)) ∧ (Lmd (r.2.1 64).toInt (r.2.1 65).toInt) ∧ (Gx ((r.2.1 39).toInt + 1) (r.2.1 43).toInt (r.2.2.1 44) (r.2.2.1 45)) ∧ (No (r.2.1 40).toInt ((r.2.1 39).toInt + 1 + (r.2.1 43).toInt) (r.2.2.1 47)) ∧ (Hc (r.2.1 64).toInt ((r.2.1 39).toInt + 1) (r.2.1 43).toInt (r.2.1 65).toInt (r.2.2.1 44) (r.2.2.1 45)) ∧ True
def HM_finish (yo0 : cf_O) (n : Nat) : Prop := (∀ (v1 : Int32) (o0 : cf_O), (okO I_M o0) → (Fr (fr_M [0, 43, 64, 85] [35, 44, 45, 46, 47] []) yo0 o0) → ((0 : Int) ≤ v1.toInt ∧ v1.toInt ≤ 6) → ((0 : Int) ≤ (o0.1 0).toInt ∧ (o0.1 0).toInt ≤ 2) → ((1 : Int) ≤ (o0.1 37).toInt ∧ (o0.1 37).toInt ≤ 9) → ((1 : Int) ≤ (o0.1 38).toInt ∧ (o0.1 38).toInt ≤ 1) → ((0 : Int) ≤ (o0.1 95).toInt ∧ (o0.1 95).toInt ≤ 0) → (Ch (o0.1 64) (o0.1 73) (o0.1 39) (o0.1 43) (o0.2.1 74)) → (Lmd (o0.1 64).toInt (o0.1 65).toInt) → (Gx (o0.1 37).toInt (o0.1 31).toInt (o0.2.1 32) (o0.2.1 33)) → (Gx ((o0.1 39).toInt + 1) (o0.1 43).toInt (o0.2.1 44) (o0.2.1 45)) → (No (o0.1 40).toInt ((o0.1 39).toInt + 1 + (o0.1 43).toInt) (o0.2.1 47)) → (Fn (o0.1 40).toInt ((o0.1 37).toInt + (o0.1 31).toInt) (o0.2.1 47) (o0.2.1 51)) → ((o0.1 37).toInt = (o0.1 39).toInt + 1) → (No v1.toInt ((o0.1 37).toInt + (o0.1 31).toInt) (o0.2.1 35)) → (Hc (o0.1 64).toInt ((o0.1 39).toInt + 1) (o0.1 43).toInt (o0.1 65).toInt (o0.2.1 44) (o0.2.1 45)) → 0 + (6 - v1.toInt) * 2 < (n : Int) → tt (gM_finish n 0 v1 o0) (QM_finish yo0))
set_option maxHeartbeats 4000000 in
set_option maxRecDepth 100000 in
theorem tM_finish_2 {yo0 : cf_O} {n : Nat} (H : HM_finish yo0 n) (v1 : Int32) (o0 : cf_O) (k_o0 : okO I_M o0) (r_o0 : Fr (fr_M [0, 43, 64, 85] [35, 44, 45, 46, 47] []) yo0 o0) (i_v1 : (0 : Int) ≤ v1.toInt ∧ v1.toInt ≤ 6) (f_o0_0 : (0 : Int) ≤ (o0.1 0).toInt ∧ (o0.1 0).toInt ≤ 2) (f_o0_37 : (1 : Int) ≤ (o0.1 37).toInt ∧ (o0.1 37).toInt ≤ 9) (f_o0_38 : (1 : Int) ≤ (o0.1 38).toInt ∧ (o0.1 38).toInt ≤ 1) (f_o0_95 : (0 : Int) ≤ (o0.1 95).toInt ∧ (o0.1 95).toInt ≤ 0) (x_0 : Ch (o0.1 64) (o0.1 73) (o0.1 39) (o0.1 43) (o0.2.1 74)) (x_1 : Lmd (o0.1 64).toInt (o0.1 65).toInt) (x_2 : Gx (o0.1 37).toInt (o0.1 31).toInt (o0.2.1 32) (o0.2.1 33)) (x_3 : Gx ((o0.1 39).toInt + 1) (o0.1 43).toInt (o0.2.1 44) (o0.2.1 45)) (x_4 : No (o0.1 40).toInt ((o0.1 39).toInt + 1 + (o0.1 43).toInt) (o0.2.1 47)) (x_5 : Fn (o0.1 40).toInt ((o0.1 37).toInt + (o0.1 31).toInt) (o0.2.1 47) (o0.2.1 51)) (x_6 : (o0.1 37).toInt = (o0.1 39).toInt + 1) (x_7 : No v1.toInt ((o0.1 37).toInt + (o0.1 31).toInt) (o0.2.1 35)) (x_8 : Hc (o0.1 64).toInt ((o0.1 39).toInt + 1) (o0.1 43).toInt (o0.1 65).toInt (o0.2.1 44) (o0.2.1 45)) (hm : 0 + (6 - v1.toInt) * 2 ≤ (n : Int)) : tt (fM_finish_2 (gM_finish n) v1 o0) (QM_finish yo0) := by
  unfold fM_finish_2
  have g_o0_31 : (0 : Int) ≤ (o0.1 31).toInt ∧ (o0.1 31).toInt ≤ 200 := k_o0.1 31
  have ey_o0_31 : (o0.1 31).toInt = (yo0.1 31).toInt := congrArg Int32.toInt (r_o0.1 31 rfl)
  have ey_o0_37 : (o0.1 37).toInt = (yo0.1 37).toInt := congrArg Int32.toInt (r_o0.1 37 rfl)
  have g_o0_39 : (0 : Int) ≤ (o0.1 39).toInt ∧ (o0.1 39).toInt ≤ 8 := k_o0.1 39
  have ey_o0_39 : (o0.1 39).toInt = (yo0.1 39).toInt := congrArg Int32.toInt (r_o0.1 39 rfl)
  have g_o0_40 : (0 : Int) ≤ (o0.1 40).toInt ∧ (o0.1 40).toInt ≤ 6 := k_o0.1 40
  have ey_o0_40 : (o0.1 40).toInt = (yo0.1 40).toInt := congrArg Int32.toInt (r_o0.1 40 rfl)
  have g_o0_43 : (0 : Int) ≤ (o0.1 43).toInt ∧ (o0.1 43).toInt ≤ 200 := k_o0.1 43
  have g_o0_64 : (0 : Int) ≤ (o0.1 64).toInt ∧ (o0.1 64).toInt ≤ 1 := k_o0.1 64
  have g_o0_65 : (0 : Int) ≤ (o0.1 65).toInt ∧ (o0.1 65).toInt ≤ 5 := k_o0.1 65
  have ey_o0_65 : (o0.1 65).toInt = (yo0.1 65).toInt := congrArg Int32.toInt (r_o0.1 65 rfl)
  have t1 := tn_n v1
  refine tt_if (fun c2 => ?_) (fun c2 => ?_)
  · have wc2 : (o0.1 40).toInt ≤ v1.toInt := c_le c2
    refine tt_if (fun c3 => ?_) (fun c3 => ?_)
    · have wc3 : (o0.1 38).toInt = (0 : Int) := c_eq c3
      exact (dd_eq c3 f_o0_38 (show (0 : Int) ≤ (0 : Int32).toInt ∧ (0 : Int32).toInt ≤ 0 by decide) (by decide)).elim
    · have wc3 : ¬ (o0.1 38).toInt = (0 : Int) := c_ne c3
      try unfold fM_finish_57
      try unfold fM_refuse
      try unfold fM_refuse_0
      refine tt_bif (fun c4 => ?_) (fun c4 => ?_)
      · have wc4 : (0 : Int) = (0 : Int) := c_eq c4
        refine tt_bif (fun c5 => ?_) (fun c5 => ?_)
        · have wc5 : (o0.1 36).toInt = (0 : Int) := c_eq c5
          have i6 : (0 : Int) ≤ (o0.1 36).toInt ∧ (o0.1 36).toInt ≤ 0 := nr_eql c5 (k_o0.1 36) (show (0 : Int) ≤ (0 : Int32).toInt ∧ (0 : Int32).toInt ≤ 0 by decide) (by decide) (by decide)
          refine tt_bif (fun c7 => ?_) (fun c7 => ?_)
          · have wc7 : (0 : Int) = (0 : Int) := c_eq c7
            try unfold fM_refuse_26
            refine tt_bko ?_
            have k8 := ok_fp (k := 0) (v := 0) k_o0 (iv_w (a := 0) (b := 3) (by decide) (by decide) (show (0 : Int) ≤ (0 : Int32).toInt ∧ (0 : Int32).toInt ≤ 0 by decide))
            have r9 := fr_fp (k := 0) (v := 0) r_o0 rfl
            refine tt_bif (fun c10 => ?_) (fun c10 => ?_)
            · have wc10 : (0 : Int) ≤ (0 : Int) := c_le c10
              try unfold fM_refuse_41
              refine tt_bw (iv_b (show (0 : Int) ≤ (0 : Int32).toInt ∧ (0 : Int32).toInt ≤ 0 by decide) (by decide) (by decide)) ?_
              refine tt_bs ?_
              refine tt_if (fun c11 => ?_) (fun c11 => ?_)
              · have wc11 : (0 : Int) = (0 : Int) := c_eq c11
                have p12 : No (o0.1 40).toInt ((o0.1 37).toInt + (o0.1 31).toInt) (o0.2.1 35) := by exact No_w (by assumption) (by omega) (by omega)
                refine tt_b (sM_take _ k8 (show (0 : Int) ≤ (0 : Int32).toInt ∧ (0 : Int32).toInt ≤ 0 by decide) i6 f_o0_37 f_o0_38 f_o0_95 x_2 p12) (fun q13 hq13 => ?_)
                obtain ⟨k_q13, n_q13, f_q13_64, f_q13_85, zq13_0, zq13_1, zq13_2, -⟩ := hq13
                have r_q13 := fr_tr r9 n_q13 rfl rfl rfl
                have f_q13_0 : (0 : Int) ≤ (q13.1 0).toInt ∧ (q13.1 0).toInt ≤ 0 := by rw [n_q13.1 0 rfl]; exact (show (0 : Int) ≤ (0 : Int32).toInt ∧ (0 : Int32).toInt ≤ 0 by decide)
                have f_q13_36 : (0 : Int) ≤ (q13.1 36).toInt ∧ (q13.1 36).toInt ≤ 0 := by rw [n_q13.1 36 rfl]; exact i6
                have f_q13_37 : (1 : Int) ≤ (q13.1 37).toInt ∧ (q13.1 37).toInt ≤ 9 := by rw [n_q13.1 37 rfl]; exact f_o0_37
                have f_q13_38 : (1 : Int) ≤ (q13.1 38).toInt ∧ (q13.1 38).toInt ≤ 1 := by rw [n_q13.1 38 rfl]; exact f_o0_38
                have f_q13_95 : (0 : Int) ≤ (q13.1 95).toInt ∧ (q13.1 95).toInt ≤ 0 := by rw [n_q13.1 95 rfl]; exact f_o0_95
                have e_q13_31 : (q13.1 31).toInt = (o0.1 31).toInt := congrArg Int32.toInt (n_q13.1 31 rfl)
                have g_q13_31 : (0 : Int) ≤ (q13.1 31).toInt ∧ (q13.1 31).toInt ≤ 200 := k_q13.1 31
                have e_q13_37 : (q13.1 37).toInt = (o0.1 37).toInt := congrArg Int32.toInt (n_q13.1 37 rfl)
                have e_q13_39 : (q13.1 39).toInt = (o0.1 39).toInt := congrArg Int32.toInt (n_q13.1 39 rfl)
                have g_q13_39 : (0 : Int) ≤ (q13.1 39).toInt ∧ (q13.1 39).toInt ≤ 8 := k_q13.1 39
                have e_q13_40 : (q13.1 40).toInt = (o0.1 40).toInt := congrArg Int32.toInt (n_q13.1 40 rfl)
                have g_q13_40 : (0 : Int) ≤ (q13.1 40).toInt ∧ (q13.1 40).toInt ≤ 6 := k_q13.1 40
                have g_q13_43 : (0 : Int) ≤ (q13.1 43).toInt ∧ (q13.1 43).toInt ≤ 200 := k_q13.1 43
                have e_q13_65 : (q13.1 65).toInt = (o0.1 65).toInt := congrArg Int32.toInt (n_q13.1 65 rfl)
                have g_q13_65 : (0 : Int) ≤ (q13.1 65).toInt ∧ (q13.1 65).toInt ≤ 5 := k_q13.1 65
                have zq13_0 : (q13.1 64).toInt = 0 := zq13_0
                have zq13_1 : Gx (q13.1 37).toInt (q13.1 43).toInt (q13.2.1 44) (q13.2.1 45) := zq13_1
                have zq13_2 : No (q13.1 40).toInt ((q13.1 37).toInt + (q13.1 43).toInt) (q13.2.1 47) := zq13_2
                have u14 : Gx (q13.1 37).toInt (q13.1 31).toInt (q13.2.1 32) (q13.2.1 33) := by rw [n_q13.1 31 rfl, n_q13.1 37 rfl, n_q13.2.1 32 rfl, n_q13.2.1 33 rfl]; exact x_2
                have u15 : No v1.toInt ((q13.1 37).toInt + (q13.1 31).toInt) (q13.2.1 35) := by rw [n_q13.1 31 rfl, n_q13.1 37 rfl, n_q13.2.1 35 rfl]; exact x_7
                have p16 : Ch (q13.1 64) (q13.1 73) (q13.1 39) (q13.1 43) (q13.2.1 74) := by exact fun hz => absurd hz (by omega)
                have p17 : Lmd (q13.1 64).toInt (q13.1 65).toInt := by first | assumption | exact lmd_i (by omega)
                have p18 : Gx ((q13.1 39).toInt + 1) (q13.1 43).toInt (q13.2.1 44) (q13.2.1 45) := by exact Gx_b (by assumption) (by omega)
                have p19 : No (q13.1 40).toInt ((q13.1 39).toInt + 1 + (q13.1 43).toInt) (q13.2.1 47) := by exact No_w (by assumption) (by omega) (by omega)
                have p20 : Hc (q13.1 64).toInt ((q13.1 39).toInt + 1) (q13.1 43).toInt (q13.1 65).toInt (q13.2.1 44) (q13.2.1 45) := by first | assumption | exact hc_0 (by omega)
                exact tt_some ⟨(k_q13.1 43), k_q13, r_q13, (iv_w (a := 0) (b := 2) (by decide) (by decide) f_q13_0), p16, p17, p18, p19, p20, trivial⟩
              · have wc11 : ¬ (0 : Int) = (0 : Int) := c_ne c11
                exact (dd_ne c11 (show (0 : Int) ≤ (0 : Int32).toInt ∧ (0 : Int32).toInt ≤ 0 by decide) (show (0 : Int) ≤ (0 : Int32).toInt ∧ (0 : Int32).toInt ≤ 0 by decide)).elim
            · have wc10 : (0 : Int) < (0 : Int) := c_nle c10
              exact (dd_nle c10 (show (0 : Int) ≤ (0 : Int32).toInt ∧ (0 : Int32).toInt ≤ 0 by decide) (show (0 : Int) ≤ (0 : Int32).toInt ∧ (0 : Int32).toInt ≤ 0 by decide) (by decide)).elim
          · have wc7 : ¬ (0 : Int) = (0 : Int) := c_ne c7
            exact (dd_ne c7 (show (0 : Int) ≤ (0 : Int32).toInt ∧ (0 : Int32).toInt ≤ 0 by decide) (show (0 : Int) ≤ (0 : Int32).toInt ∧ (0 : Int32).toInt ≤ 0 by decide)).elim
        · have wc5 : ¬ (o0.1 36).toInt = (0 : Int) := c_ne c5
          have i21 : (1 : Int) ≤ (o0.1 36).toInt ∧ (o0.1 36).toInt ≤ 1 := nr_nela c5 (k_o0.1 36) (show (0 : Int) ≤ (0 : Int32).toInt ∧ (0 : Int32).toInt ≤ 0 by decide) (by decide) (by decide)
          try unfold fM_refuse_26
          refine tt_bko ?_
          have k22 := ok_fp (k := 0) (v := 2) k_o0 (iv_w (a := 0) (b := 3) (by decide) (by decide) (show (2 : Int) ≤ (2 : Int32).toInt ∧ (2 : Int32).toInt ≤ 2 by decide))
          have r23 := fr_fp (k := 0) (v := 2) r_o0 rfl
          refine tt_bif (fun c24 => ?_) (fun c24 => ?_)
          · have wc24 : (2 : Int) ≤ (0 : Int) := c_le c24
            exact (dd_le c24 (show (2 : Int) ≤ (2 : Int32).toInt ∧ (2 : Int32).toInt ≤ 2 by decide) (show (0 : Int) ≤ (0 : Int32).toInt ∧ (0 : Int32).toInt ≤ 0 by decide) (by decide)).elim
          · have wc24 : (0 : Int) < (2 : Int) := c_nle c24
            try unfold fM_refuse_41
            refine tt_bw (iv_b (show (1 : Int) ≤ (1 : Int32).toInt ∧ (1 : Int32).toInt ≤ 1 by decide) (by decide) (by decide)) ?_
            refine tt_bs ?_
            refine tt_if (fun c25 => ?_) (fun c25 => ?_)
            · have wc25 : (1 : Int) = (0 : Int) := c_eq c25
              exact (dd_eq c25 (show (1 : Int) ≤ (1 : Int32).toInt ∧ (1 : Int32).toInt ≤ 1 by decide) (show (0 : Int) ≤ (0 : Int32).toInt ∧ (0 : Int32).toInt ≤ 0 by decide) (by decide)).elim
            · have wc25 : ¬ (1 : Int) = (0 : Int) := c_ne c25
              exact tt_some ⟨(iv_w (a := 0) (b := 200) (by decide) (by decide) (show (0 : Int) ≤ (0 : Int32).toInt ∧ (0 : Int32).toInt ≤ 0 by decide)), k22, r23, (iv_w (a := 0) (b := 2) (by decide) (by decide) (show (2 : Int) ≤ (2 : Int32).toInt ∧ (2 : Int32).toInt ≤ 2 by decide)), x_0, x_1, x_3, x_4, x_8, trivial⟩
      · have wc4 : ¬ (0 : Int) = (0 : Int) := c_ne c4
        exact (dd_ne c4 (show (0 : Int) ≤ (0 : Int32).toInt ∧ (0 : Int32).toInt ≤ 0 by decide) (show (0 : Int) ≤ (0 : Int32).toInt ∧ (0 : Int32).toInt ≤ 0 by decide)).elim
  · have wc2 : v1.toInt < (o0.1 40).toInt := c_nle c2
    have i26 : (0 : Int) ≤ v1.toInt ∧ v1.toInt ≤ 5 := nr_nlel c2 i_v1 (k_o0.1 40) (by decide) (by decide)
    have i27 : (1 : Int) ≤ (o0.1 40).toInt ∧ (o0.1 40).toInt ≤ 6 := nr_nler c2 i_v1 (k_o0.1 40) (by decide) (by decide)
    refine tt_n (ix_ok i26 (by decide) (by decide)) ?_
    refine tt_kv (P := fun z => ((0 : Int) ≤ z.toInt ∧ z.toInt ≤ 417) ∧ z.toInt = (o0.2.1 47 v1.toNatClampNeg).toInt) ⟨(k_o0.2 47 _), rfl⟩ (fun x28 qi29 => ?_)
    obtain ⟨i29, ei29⟩ := qi29
    refine tt_kv (P := fun z => ((0 : Int) ≤ z.toInt ∧ z.toInt ≤ 208) ∧ z.toInt = x28.toInt / 2) ⟨iv_div (k := 2) i29 (show (2 : Int) ≤ (2 : Int32).toInt ∧ (2 : Int32).toInt ≤ 2 by decide) (by decide) (by decide) (by decide) (by decide), i_dv (Int.le_trans (by decide) i29.1) (by decide)⟩ (fun x30 qi31 => ?_)
    obtain ⟨i31, ei31⟩ := qi31
    refine tt_n (ix_ok i31 (by decide) (by decide)) ?_
    refine tt_kv (P := fun z => ((0 : Int) ≤ z.toInt ∧ z.toInt ≤ 417) ∧ z.toInt = (o0.2.1 51 x30.toNatClampNeg).toInt) ⟨(k_o0.2 51 _), rfl⟩ (fun x32 qi33 => ?_)
    obtain ⟨i33, ei33⟩ := qi33
    have t34 := tn_n x30
    have t35 := Fn_at x_5 v1.toNatClampNeg (x30.toNatClampNeg)
    refine tt_n (ix_ok i26 (by decide) (by decide)) ?_
    refine tt_kv (P := fun z => x28 = z ∧ True) ⟨(i_eq ei29), trivial⟩ (fun x36 hx36 => ?_)
    obtain ⟨rfl, -⟩ := hx36
    refine tt_kv (P := fun z => (0 : Int) ≤ z.toInt ∧ z.toInt ≤ 1) (iv_and (show (1 : Int) ≤ (1 : Int32).toInt ∧ (1 : Int32).toInt ≤ 1 by decide) (by decide) (by decide) (by decide)) (fun x37 i38 => ?_)
    refine tt_kv (P := fun z => ((0 : Int) ≤ z.toInt ∧ z.toInt ≤ 417) ∧ z.toInt = x32.toInt - x32.toInt % 2 + (x32.toInt + x37.toInt) % 2) ⟨iv_x1 i33 i38 (by decide) (by decide) (by decide) (by decide) (by decide), i_xb (Int.le_trans (by decide) i33.1) (Int.le_trans (by decide) i38.1) (Int.le_trans i38.2 (by decide))⟩ (fun x39 qi40 => ?_)
    obtain ⟨i40, ei40⟩ := qi40
    refine tt_n (ix_ok i26 (by decide) (by decide)) ?_
    refine tt_ko ?_
    have k41 := ok_xp (k := 35) (i := v1.toNatClampNeg) (v := x39) k_o0 i40
    have r42 := fr_xp (k := 35) (i := v1.toNatClampNeg) (v := x39) r_o0 rfl
    refine tt_kv (P := fun z => ((1 : Int) ≤ z.toInt ∧ z.toInt ≤ 6) ∧ z.toInt = v1.toInt + 1) ⟨iv_add i26 (show (1 : Int) ≤ (1 : Int32).toInt ∧ (1 : Int32).toInt ≤ 1 by decide) (by decide) (by decide) (by decide) (by decide), iq_add i26 (show (1 : Int) ≤ (1 : Int32).toInt ∧ (1 : Int32).toInt ≤ 1 by decide) (by decide) (by decide)⟩ (fun x43 qi44 => ?_)
    obtain ⟨i44, ei44⟩ := qi44
    have p45 : No x43.toInt ((o0.1 37).toInt + (o0.1 31).toInt) (upd (o0.2.1 35) (v1.toNatClampNeg) x39) := by exact No_s (by assumption) (by omega) (by rw [tn_n]; omega) (by omega)
    exact H _ _ k41 r42 (iv_w (a := 0) (b := 6) (by decide) (by decide) i44) f_o0_0 f_o0_37 f_o0_38 f_o0_95 x_0 x_1 x_2 x_3 x_4 x_5 (show (o0.1 37).toInt = (o0.1 39).toInt + 1 by omega) p45 x_8 (show 0 + (6 - x43.toInt) * 2 < (n : Int) by omega)
set_option maxHeartbeats 4000000 in
set_option maxRecDepth 100000 in
theorem hM_finish (yo0 : cf_O) : ∀ n, HM_finish yo0 n := by
  intro n
  induction n with
  | zero => exact (fun v1 o0 k_o0 r_o0 i_v1 f_o0_0 f_o0_37 f_o0_38 f_o0_95 x_0 x_1 x_2 x_3 x_4 x_5 x_6 x_7 x_8 hm => by exact absurd (show 0 + (6 - v1.toInt) * 2 < (0 : Int) from hm) (by omega))
  | succ n ih => exact (fun v1 o0 k_o0 r_o0 i_v1 f_o0_0 f_o0_37 f_o0_38 f_o0_95 x_0 x_1 x_2 x_3 x_4 x_5 x_6 x_7 x_8 hm => tM_finish_2 ih v1 o0 k_o0 r_o0 i_v1 f_o0_0 f_o0_37 f_o0_38 f_o0_95 x_0 x_1 x_2 x_3 x_4 x_5 x_6 x_7 x_8 (by omega))
set_option maxHeartbeats 4000000 in
set_option maxRecDepth 100000 in
theorem sM_finish (o0 : cf_O) (k_o0 : okO I_M o0) (f_o0_0 : (0 : Int) ≤ (o0.1 0).toInt ∧ (o0.1 0).toInt ≤ 2) (f_o0_37 : (1 : Int) ≤ (o0.1 37).toInt ∧ (o0.1 37).toInt ≤ 9) (f_o0_38 : (1 : Int) ≤ (o0.1 38).toInt ∧ (o0.1 38).toInt ≤ 1) (f_o0_95 : (0 : Int) ≤ (o0.1 95).toInt ∧ (o0.1 95).toInt ≤ 0) (x_0 : Ch (o0.1 64) (o0.1 73) (o0.1 39) (o0.1 43) (o0.2.1 74)) (x_1 : Lmd (o0.1 64).toInt (o0.1 65).toInt) (x_2 : Gx (o0.1 37).toInt (o0.1 31).toInt (o0.2.1 32) (o0.2.1 33)) (x_3 : Gx ((o0.1 39).toInt + 1) (o0.1 43).toInt (o0.2.1 44) (o0.2.1 45)) (x_4 : No (o0.1 40).toInt ((o0.1 39).toInt + 1 + (o0.1 43).toInt) (o0.2.1 47)) (x_5 : Fn (o0.1 40).toInt ((o0.1 37).toInt + (o0.1 31).toInt) (o0.2.1 47) (o0.2.1 51)) (x_6 : (o0.1 37).toInt = (o0.1 39).toInt + 1) (x_7 : Hc (o0.1 64).toInt ((o0.1 39).toInt + 1) (o0.1 43).toInt (o0.1 65).toInt (o0.2.1 44) (o0.2.1 45)) : tt (fM_finish o0) (QM_finish o0) := by
  have H := hM_finish o0 cfFU
  have hm : (15 : Int) ≤ (cfFU : Nat) := by decide
  have r_o0 : Fr (fr_M [0, 43, 64, 85] [35, 44, 45, 46, 47] []) o0 o0 := fr_rfl
  unfold fM_finish fM_finish_0
  have g_o0_31 : (0 : Int) ≤ (o0.1 31).toInt ∧ (o0.1 31).toInt ≤ 200 := k_o0.1 31
  have g_o0_39 : (0 : Int) ≤ (o0.1 39).toInt ∧ (o0.1 39).toInt ≤ 8 := k_o0.1 39
  have g_o0_40 : (0 : Int) ≤ (o0.1 40).toInt ∧ (o0.1 40).toInt ≤ 6 := k_o0.1 40
  have g_o0_43 : (0 : Int) ≤ (o0.1 43).toInt ∧ (o0.1 43).toInt ≤ 200 := k_o0.1 43
  have g_o0_64 : (0 : Int) ≤ (o0.1 64).toInt ∧ (o0.1 64).toInt ≤ 1 := k_o0.1 64
  have g_o0_65 : (0 : Int) ≤ (o0.1 65).toInt ∧ (o0.1 65).toInt ≤ 5 := k_o0.1 65
  have p1 : No 0 ((o0.1 37).toInt + (o0.1 31).toInt) (o0.2.1 35) := by exact No_z (by decide)
  exact H _ _ k_o0 r_o0 (iv_w (a := 0) (b := 6) (by decide) (by decide) (show (0 : Int) ≤ (0 : Int32).toInt ∧ (0 : Int32).toInt ≤ 0 by decide)) f_o0_0 f_o0_37 f_o0_38 f_o0_95 x_0 x_1 x_2 x_3 x_4 x_5 (show (o0.1 37).toInt = (o0.1 39).toInt + 1 by omega) p1 x_7 (show 0 + (6 - 0) * 2 < ((cfFU : Nat) : Int) by omega)
def QM_balance (o0 : cf_O) (r : (Int32 × cf_O)) : Prop := ((0 : Int) ≤ r.1.toInt ∧ r.1.toInt ≤ 200) ∧ (okO I_M r.2) ∧ (Fr (fr_M [0, 31, 36, 37, 43, 52, 54, 64, 85] [32, 33, 34, 35, 44, 45, 46, 47, 48, 49, 50, 51, 53, 55] []) o0 r.2) ∧ ((0 : Int) ≤ (r.2.1 0).toInt ∧ (r.2.1 0).toInt ≤ 2) ∧ (Ch (r.2.1 64) (r.2.1 73) (r.2.1 39) (r.2.1 43) (r.2.2.1 74)) ∧ (Lmd (r.2.1 64).toInt (r.2.1 65).toInt) ∧ (Gx ((r.2.1 39).toInt + 1) (r.2.1 43).toInt (r.2.2.1 44) (r.2.2.1 45)) ∧ (No (r.2.1 40).toInt ((r.2.1 39).toInt + 1 + (r.2.1 43).toInt) (r.2.2.1 47)) ∧ (Hc (r.2.1 64).toInt ((r.2.1 39).toInt + 1) (r.2.1 43).toInt (r.2.1 65).toInt (r.2.2.1 44) (r.2.2.1 45)) ∧ True
def HM_balance (yo0 : cf_O) (n : Nat) : Prop := (∀ (v1 : Int32) (o0 : cf_O), (okO I_M o0) → (Fr (fr_M [0, 31, 36, 37, 43, 52, 54, 64, 85] [32, 33, 34, 35, 44, 45, 46, 47, 48, 49, 50, 51, 53, 55] []) yo0 o0) → ((0 : Int) ≤ v1.toInt ∧ v1.toInt ≤ 200) → ((0 : Int) ≤ (o0.1 0).toInt ∧ (o0.1 0).toInt ≤ 0) → ((1 : Int) ≤ (o0.1 37).toInt ∧ (o0.1 37).toInt ≤ 9) → ((1 : Int) ≤ (o0.1 38).toInt ∧ (o0.1 38).toInt ≤ 1) → ((0 : Int) ≤ (o0.1 95).toInt ∧ (o0.1 95).toInt ≤ 0) → (Ch (o0.1 64) (o0.1 73) (o0.1 39) (o0.1 43) (o0.2.1 74)) → (Lmd (o0.1 64).toInt (o0.1 65).toInt) → (Gx ((o0.1 39).toInt + 1) (o0.1 43).toInt (o0.2.1 44) (o0.2.1 45)) → (No (o0.1 40).toInt ((o0.1 39).toInt + 1 + (o0.1 43).toInt) (o0.2.1 47)) → (Hc (o0.1 64).toInt ((o0.1 39).toInt + 1) (o0.1 43).toInt (o0.1 65).toInt (o0.2.1 44) (o0.2.1 45)) → (Gx (o0.1 37).toInt (o0.1 31).toInt (o0.2.1 32) (o0.2.1 33)) → (Lk (-1) ((o0.1 39).toInt + 1) (o0.1 43).toInt (o0.1 40).toInt (o0.2.1 47) (o0.2.1 44) (o0.2.1 45) (o0.2.1 49) (o0.2.1 48)) → (Ap ((o0.1 39).toInt + 1) (o0.1 43).toInt (o0.2.1 44) (o0.2.1 45) (o0.2.1 49) (o0.2.1 48) (o0.2.1 50)) → (Rq ((o0.1 39).toInt + 1 + v1.toInt) ((o0.1 39).toInt + 1) ((o0.1 37).toInt + (o0.1 31).toInt) (o0.2.1 49) (o0.2.1 50) (o0.2.1 51)) → ((o0.1 37).toInt = (o0.1 39).toInt + 1) → (v1.toInt ≤ (o0.1 43).toInt) → (200 - v1.toInt) * 1000 < (n : Int) → tt (gM_balance n 0 v1 o0) (QM_balance yo0)) ∧ (∀ (v1 : Int32) (o0 : cf_O), (okO I_M o0) → (Fr (fr_M [0, 31, 36, 37, 43, 52, 54, 64, 85] [32, 33, 34, 35, 44, 45, 46, 47, 48, 49, 50, 51, 53, 55] []) yo0 o0) → ((0 : Int) ≤ v1.toInt ∧ v1.toInt ≤ 199) → ((0 : Int) ≤ (o0.1 0).toInt ∧ (o0.1 0).toInt ≤ 0) → ((1 : Int) ≤ (o0.1 37).toInt ∧ (o0.1 37).toInt ≤ 9) → ((1 : Int) ≤ (o0.1 38).toInt ∧ (o0.1 38).toInt ≤ 1) → ((1 : Int) ≤ (o0.1 43).toInt ∧ (o0.1 43).toInt ≤ 200) → ((0 : Int) ≤ (o0.1 54).toInt ∧ (o0.1 54).toInt ≤ 0) → ((0 : Int) ≤ (o0.1 95).toInt ∧ (o0.1 95).toInt ≤ 0) → (Ch (o0.1 64) (o0.1 73) (o0.1 39) (o0.1 43) (o0.2.1 74)) → (Lmd (o0.1 64).toInt (o0.1 65).toInt) → (Gx ((o0.1 39).toInt + 1) (o0.1 43).toInt (o0.2.1 44) (o0.2.1 45)) → (No (o0.1 40).toInt ((o0.1 39).toInt + 1 + (o0.1 43).toInt) (o0.2.1 47)) → (Hc (o0.1 64).toInt ((o0.1 39).toInt + 1) (o0.1 43).toInt (o0.1 65).toInt (o0.2.1 44) (o0.2.1 45)) → (Gx (o0.1 37).toInt (o0.1 31).toInt (o0.2.1 32) (o0.2.1 33)) → (Lk (-1) ((o0.1 39).toInt + 1) (o0.1 43).toInt (o0.1 40).toInt (o0.2.1 47) (o0.2.1 44) (o0.2.1 45) (o0.2.1 49) (o0.2.1 48)) → (Ap ((o0.1 39).toInt + 1) (o0.1 43).toInt (o0.2.1 44) (o0.2.1 45) (o0.2.1 49) (o0.2.1 48) (o0.2.1 50)) → (Rq ((o0.1 39).toInt + 1 + v1.toInt) ((o0.1 39).toInt + 1) ((o0.1 37).toInt + (o0.1 31).toInt) (o0.2.1 49) (o0.2.1 50) (o0.2.1 51)) → ((o0.1 37).toInt = (o0.1 39).toInt + 1) → (No (o0.1 52).toInt ((o0.1 37).toInt + (o0.1 31).toInt) (o0.2.1 53)) → (1 ≤ (o0.1 52).toInt) → (v1.toInt < (o0.1 43).toInt) → (200 - v1.toInt - 1) * 1000 + 1 + (o0.1 52).toInt < (n : Int) → tt (gM_balance n 1 v1 o0) (QM_balance yo0))
set_option maxHeartbeats 4000000 in
set_option maxRecDepth 100000 in
theorem tM_balance_85 {yo0 : cf_O} {n : Nat} (H : HM_balance yo0 n) (v1 : Int32) (o0 : cf_O) (k_o0 : okO I_M o0) (r_o0 : Fr (fr_M [0, 31, 36, 37, 43, 52, 54, 64, 85] [32, 33, 34, 35, 44, 45, 46, 47, 48, 49, 50, 51, 53, 55] []) yo0 o0) (i_v1 : (0 : Int) ≤ v1.toInt ∧ v1.toInt ≤ 199) (f_o0_0 : (0 : Int) ≤ (o0.1 0).toInt ∧ (o0.1 0).toInt ≤ 0) (f_o0_37 : (1 : Int) ≤ (o0.1 37).toInt ∧ (o0.1 37).toInt ≤ 9) (f_o0_38 : (1 : Int) ≤ (o0.1 38).toInt ∧ (o0.1 38).toInt ≤ 1) (f_o0_43 : (1 : Int) ≤ (o0.1 43).toInt ∧ (o0.1 43).toInt ≤ 200) (f_o0_54 : (0 : Int) ≤ (o0.1 54).toInt ∧ (o0.1 54).toInt ≤ 0) (f_o0_95 : (0 : Int) ≤ (o0.1 95).toInt ∧ (o0.1 95).toInt ≤ 0) (x_0 : Ch (o0.1 64) (o0.1 73) (o0.1 39) (o0.1 43) (o0.2.1 74)) (x_1 : Lmd (o0.1 64).toInt (o0.1 65).toInt) (x_2 : Gx ((o0.1 39).toInt + 1) (o0.1 43).toInt (o0.2.1 44) (o0.2.1 45)) (x_3 : No (o0.1 40).toInt ((o0.1 39).toInt + 1 + (o0.1 43).toInt) (o0.2.1 47)) (x_4 : Hc (o0.1 64).toInt ((o0.1 39).toInt + 1) (o0.1 43).toInt (o0.1 65).toInt (o0.2.1 44) (o0.2.1 45)) (x_5 : Gx (o0.1 37).toInt (o0.1 31).toInt (o0.2.1 32) (o0.2.1 33)) (x_6 : Lk (-1) ((o0.1 39).toInt + 1) (o0.1 43).toInt (o0.1 40).toInt (o0.2.1 47) (o0.2.1 44) (o0.2.1 45) (o0.2.1 49) (o0.2.1 48)) (x_7 : Ap ((o0.1 39).toInt + 1) (o0.1 43).toInt (o0.2.1 44) (o0.2.1 45) (o0.2.1 49) (o0.2.1 48) (o0.2.1 50)) (x_8 : Rq ((o0.1 39).toInt + 1 + v1.toInt) ((o0.1 39).toInt + 1) ((o0.1 37).toInt + (o0.1 31).toInt) (o0.2.1 49) (o0.2.1 50) (o0.2.1 51)) (x_9 : (o0.1 37).toInt = (o0.1 39).toInt + 1) (x_10 : No (o0.1 52).toInt ((o0.1 37).toInt + (o0.1 31).toInt) (o0.2.1 53)) (x_11 : 1 ≤ (o0.1 52).toInt) (x_12 : v1.toInt < (o0.1 43).toInt) (hm : (200 - v1.toInt - 1) * 1000 + 1 + (o0.1 52).toInt ≤ (n : Int)) : tt (fM_balance_85 (gM_balance n) v1 o0) (QM_balance yo0) := by
  unfold fM_balance_85
  have g_o0_31 : (0 : Int) ≤ (o0.1 31).toInt ∧ (o0.1 31).toInt ≤ 200 := k_o0.1 31
  have g_o0_39 : (0 : Int) ≤ (o0.1 39).toInt ∧ (o0.1 39).toInt ≤ 8 := k_o0.1 39
  have ey_o0_39 : (o0.1 39).toInt = (yo0.1 39).toInt := congrArg Int32.toInt (r_o0.1 39 rfl)
  have g_o0_52 : (0 : Int) ≤ (o0.1 52).toInt ∧ (o0.1 52).toInt ≤ 420 := k_o0.1 52
  refine tt_if (fun c1 => ?_) (fun c1 => ?_)
  · have wc1 : (o0.1 52).toInt ≤ (1 : Int) := c_le c1
    have i2 : (0 : Int) ≤ (o0.1 52).toInt ∧ (o0.1 52).toInt ≤ 1 := nr_lel c1 (k_o0.1 52) (show (1 : Int) ≤ (1 : Int32).toInt ∧ (1 : Int32).toInt ≤ 1 by decide) (by decide) (by decide)
    try unfold fM_base
    try unfold fM_base_0
    refine tt_bkv (P := fun z => ((1 : Int) ≤ z.toInt ∧ z.toInt ≤ 9) ∧ z = ((o0.1 39) + 1) ∧ z.toInt = (o0.1 39).toInt + 1) ⟨iv_add (k_o0.1 39) (show (1 : Int) ≤ (1 : Int32).toInt ∧ (1 : Int32).toInt ≤ 1 by decide) (by decide) (by decide) (by decide) (by decide), rfl, iq_add (k_o0.1 39) (show (1 : Int) ≤ (1 : Int32).toInt ∧ (1 : Int32).toInt ≤ 1 by decide) (by decide) (by decide)⟩ (fun x3 qi4 => ?_)
    obtain ⟨i4, ax3, ei4⟩ := qi4
    refine tt_bs ?_
    refine tt_kv (P := fun z => ((1 : Int) ≤ z.toInt ∧ z.toInt ≤ 208) ∧ z = (x3 + v1) ∧ z.toInt = x3.toInt + v1.toInt) ⟨iv_add i4 i_v1 (by decide) (by decide) (by decide) (by decide), rfl, iq_add i4 i_v1 (by decide) (by decide)⟩ (fun x5 qi6 => ?_)
    obtain ⟨i6, ax5, ei6⟩ := qi6
    refine tt_n (ix_ok (show (0 : Int) ≤ (0 : Int32).toInt ∧ (0 : Int32).toInt ≤ 0 by decide) (by decide) (by decide)) ?_
    refine tt_kv (P := fun z => ((0 : Int) ≤ z.toInt ∧ z.toInt ≤ 417) ∧ z = (o0.2.1 53 (0 : Int32).toNatClampNeg) ∧ z.toInt = (o0.2.1 53 (0 : Int32).toNatClampNeg).toInt) ⟨(k_o0.2 53 _), rfl, rfl⟩ (fun x7 qi8 => ?_)
    obtain ⟨i8, ax7, ei8⟩ := qi8
    have t9 : (0 : Int32).toNatClampNeg = 0 := by decide
    have t10 := x_10 ((0 : Int32).toNatClampNeg)
    refine tt_n (ix_ok i6 (by decide) (by decide)) ?_
    refine tt_ko ?_
    have k11 := ok_xp (k := 51) (i := x5.toNatClampNeg) (v := x7) k_o0 i8
    have r12 := fr_xp (k := 51) (i := x5.toNatClampNeg) (v := x7) r_o0 rfl
    try unfold fM_balance_148
    refine tt_kv (P := fun z => ((1 : Int) ≤ z.toInt ∧ z.toInt ≤ 200) ∧ z = (v1 + 1) ∧ z.toInt = v1.toInt + 1) ⟨iv_add i_v1 (show (1 : Int) ≤ (1 : Int32).toInt ∧ (1 : Int32).toInt ≤ 1 by decide) (by decide) (by decide) (by decide) (by decide), rfl, iq_add i_v1 (show (1 : Int) ≤ (1 : Int32).toInt ∧ (1 : Int32).toInt ≤ 1 by decide) (by decide) (by decide)⟩ (fun x13 qi14 => ?_)
    obtain ⟨i14, ax13, ei14⟩ := qi14
    have p15 : Rq ((o0.1 39).toInt + 1 + x13.toInt) ((o0.1 39).toInt + 1) ((o0.1 37).toInt + (o0.1 31).toInt) (o0.2.1 49) (o0.2.1 50) (upd (o0.2.1 51) (x5.toNatClampNeg) x7) := by exact Rq_s x_8 (by omega) (by rw [tn_n]; omega) (by omega)
    exact H.1 _ _ k11 r12 (iv_w (a := 0) (b := 200) (by decide) (by decide) i14) f_o0_0 f_o0_37 f_o0_38 f_o0_95 x_0 x_1 x_2 x_3 x_4 x_5 x_6 x_7 p15 (show (o0.1 37).toInt = (o0.1 39).toInt + 1 by omega) (show x13.toInt ≤ (o0.1 43).toInt by omega) (show (200 - x13.toInt) * 1000 < (n : Int) by omega)
  · have wc1 : (1 : Int) < (o0.1 52).toInt := c_nle c1
    have i16 : (2 : Int) ≤ (o0.1 52).toInt ∧ (o0.1 52).toInt ≤ 420 := nr_nler c1 (show (1 : Int) ≤ (1 : Int32).toInt ∧ (1 : Int32).toInt ≤ 1 by decide) (k_o0.1 52) (by decide) (by decide)
    refine tt_b (sM_takeLeast _ k_o0 f_o0_0 f_o0_37 f_o0_38 f_o0_43 f_o0_54 f_o0_95 (show 1 ≤ (o0.1 52).toInt by omega) x_10) (fun q17 hq17 => ?_)
    obtain ⟨i_q17, k_q17_2, n_q17_2, f_q17_2_52, zq17_0, zq17_1, zq17_2, -⟩ := hq17
    have r_q17_2 := fr_tr r_o0 n_q17_2 rfl rfl rfl
    have f_q17_2_0 : (0 : Int) ≤ (q17.2.1 0).toInt ∧ (q17.2.1 0).toInt ≤ 0 := by rw [n_q17_2.1 0 rfl]; exact f_o0_0
    have f_q17_2_37 : (1 : Int) ≤ (q17.2.1 37).toInt ∧ (q17.2.1 37).toInt ≤ 9 := by rw [n_q17_2.1 37 rfl]; exact f_o0_37
    have f_q17_2_38 : (1 : Int) ≤ (q17.2.1 38).toInt ∧ (q17.2.1 38).toInt ≤ 1 := by rw [n_q17_2.1 38 rfl]; exact f_o0_38
    have f_q17_2_54 : (0 : Int) ≤ (q17.2.1 54).toInt ∧ (q17.2.1 54).toInt ≤ 0 := by rw [n_q17_2.1 54 rfl]; exact f_o0_54
    have f_q17_2_43 : (1 : Int) ≤ (q17.2.1 43).toInt ∧ (q17.2.1 43).toInt ≤ 200 := by rw [n_q17_2.1 43 rfl]; exact f_o0_43
    have f_q17_2_95 : (0 : Int) ≤ (q17.2.1 95).toInt ∧ (q17.2.1 95).toInt ≤ 0 := by rw [n_q17_2.1 95 rfl]; exact f_o0_95
    have e_q17_2_31 : (q17.2.1 31).toInt = (o0.1 31).toInt := congrArg Int32.toInt (n_q17_2.1 31 rfl)
    have g_q17_2_31 : (0 : Int) ≤ (q17.2.1 31).toInt ∧ (q17.2.1 31).toInt ≤ 200 := k_q17_2.1 31
    have e_q17_2_37 : (q17.2.1 37).toInt = (o0.1 37).toInt := congrArg Int32.toInt (n_q17_2.1 37 rfl)
    have e_q17_2_39 : (q17.2.1 39).toInt = (o0.1 39).toInt := congrArg Int32.toInt (n_q17_2.1 39 rfl)
    have g_q17_2_39 : (0 : Int) ≤ (q17.2.1 39).toInt ∧ (q17.2.1 39).toInt ≤ 8 := k_q17_2.1 39
    have e_q17_2_43 : (q17.2.1 43).toInt = (o0.1 43).toInt := congrArg Int32.toInt (n_q17_2.1 43 rfl)
    have zq17_0 : (q17.2.1 52).toInt = (o0.1 52).toInt - 1 := zq17_0
    have zq17_2 : q17.1.toInt < 2 * ((o0.1 37).toInt + (o0.1 31).toInt) := zq17_2
    have u18 : Ch (q17.2.1 64) (q17.2.1 73) (q17.2.1 39) (q17.2.1 43) (q17.2.2.1 74) := by rw [n_q17_2.1 39 rfl, n_q17_2.1 43 rfl, n_q17_2.1 64 rfl, n_q17_2.1 73 rfl, n_q17_2.2.1 74 rfl]; exact x_0
    have u19 : Lmd (q17.2.1 64).toInt (q17.2.1 65).toInt := by rw [n_q17_2.1 64 rfl, n_q17_2.1 65 rfl]; exact x_1
    have u20 : Gx ((q17.2.1 39).toInt + 1) (q17.2.1 43).toInt (q17.2.2.1 44) (q17.2.2.1 45) := by rw [n_q17_2.1 39 rfl, n_q17_2.1 43 rfl, n_q17_2.2.1 44 rfl, n_q17_2.2.1 45 rfl]; exact x_2
    have u21 : No (q17.2.1 40).toInt ((q17.2.1 39).toInt + 1 + (q17.2.1 43).toInt) (q17.2.2.1 47) := by rw [n_q17_2.1 39 rfl, n_q17_2.1 40 rfl, n_q17_2.1 43 rfl, n_q17_2.2.1 47 rfl]; exact x_3
    have u22 : Hc (q17.2.1 64).toInt ((q17.2.1 39).toInt + 1) (q17.2.1 43).toInt (q17.2.1 65).toInt (q17.2.2.1 44) (q17.2.2.1 45) := by rw [n_q17_2.1 39 rfl, n_q17_2.1 43 rfl, n_q17_2.1 64 rfl, n_q17_2.1 65 rfl, n_q17_2.2.1 44 rfl, n_q17_2.2.1 45 rfl]; exact x_4
    have u23 : Gx (q17.2.1 37).toInt (q17.2.1 31).toInt (q17.2.2.1 32) (q17.2.2.1 33) := by rw [n_q17_2.1 31 rfl, n_q17_2.1 37 rfl, n_q17_2.2.1 32 rfl, n_q17_2.2.1 33 rfl]; exact x_5
    have u24 : Lk (-1) ((q17.2.1 39).toInt + 1) (q17.2.1 43).toInt (q17.2.1 40).toInt (q17.2.2.1 47) (q17.2.2.1 44) (q17.2.2.1 45) (q17.2.2.1 49) (q17.2.2.1 48) := by rw [n_q17_2.1 39 rfl, n_q17_2.1 40 rfl, n_q17_2.1 43 rfl, n_q17_2.2.1 44 rfl, n_q17_2.2.1 45 rfl, n_q17_2.2.1 47 rfl, n_q17_2.2.1 48 rfl, n_q17_2.2.1 49 rfl]; exact x_6
    have u25 : Ap ((q17.2.1 39).toInt + 1) (q17.2.1 43).toInt (q17.2.2.1 44) (q17.2.2.1 45) (q17.2.2.1 49) (q17.2.2.1 48) (q17.2.2.1 50) := by rw [n_q17_2.1 39 rfl, n_q17_2.1 43 rfl, n_q17_2.2.1 44 rfl, n_q17_2.2.1 45 rfl, n_q17_2.2.1 48 rfl, n_q17_2.2.1 49 rfl, n_q17_2.2.1 50 rfl]; exact x_7
    have u26 : Rq ((q17.2.1 39).toInt + 1 + v1.toInt) ((q17.2.1 39).toInt + 1) ((q17.2.1 37).toInt + (q17.2.1 31).toInt) (q17.2.2.1 49) (q17.2.2.1 50) (q17.2.2.1 51) := by rw [n_q17_2.1 31 rfl, n_q17_2.1 37 rfl, n_q17_2.1 39 rfl, n_q17_2.2.1 49 rfl, n_q17_2.2.1 50 rfl, n_q17_2.2.1 51 rfl]; exact x_8
    refine tt_b (sM_takeLeast _ k_q17_2 f_q17_2_0 f_q17_2_37 f_q17_2_38 f_q17_2_43 f_q17_2_54 f_q17_2_95 (show 1 ≤ (q17.2.1 52).toInt by omega) zq17_1) (fun q27 hq27 => ?_)
    obtain ⟨i_q27, k_q27_2, n_q27_2, f_q27_2_52, zq27_0, zq27_1, zq27_2, -⟩ := hq27
    have r_q27_2 := fr_tr r_q17_2 n_q27_2 rfl rfl rfl
    have f_q27_2_0 : (0 : Int) ≤ (q27.2.1 0).toInt ∧ (q27.2.1 0).toInt ≤ 0 := by rw [n_q27_2.1 0 rfl]; exact f_q17_2_0
    have f_q27_2_37 : (1 : Int) ≤ (q27.2.1 37).toInt ∧ (q27.2.1 37).toInt ≤ 9 := by rw [n_q27_2.1 37 rfl]; exact f_q17_2_37
    have f_q27_2_38 : (1 : Int) ≤ (q27.2.1 38).toInt ∧ (q27.2.1 38).toInt ≤ 1 := by rw [n_q27_2.1 38 rfl]; exact f_q17_2_38
    have f_q27_2_54 : (0 : Int) ≤ (q27.2.1 54).toInt ∧ (q27.2.1 54).toInt ≤ 0 := by rw [n_q27_2.1 54 rfl]; exact f_q17_2_54
    have f_q27_2_43 : (1 : Int) ≤ (q27.2.1 43).toInt ∧ (q27.2.1 43).toInt ≤ 200 := by rw [n_q27_2.1 43 rfl]; exact f_q17_2_43
    have f_q27_2_95 : (0 : Int) ≤ (q27.2.1 95).toInt ∧ (q27.2.1 95).toInt ≤ 0 := by rw [n_q27_2.1 95 rfl]; exact f_q17_2_95
    have e_q27_2_31 : (q27.2.1 31).toInt = (q17.2.1 31).toInt := congrArg Int32.toInt (n_q27_2.1 31 rfl)
    have g_q27_2_31 : (0 : Int) ≤ (q27.2.1 31).toInt ∧ (q27.2.1 31).toInt ≤ 200 := k_q27_2.1 31
    have e_q27_2_37 : (q27.2.1 37).toInt = (q17.2.1 37).toInt := congrArg Int32.toInt (n_q27_2.1 37 rfl)
    have e_q27_2_39 : (q27.2.1 39).toInt = (q17.2.1 39).toInt := congrArg Int32.toInt (n_q27_2.1 39 rfl)
    have g_q27_2_39 : (0 : Int) ≤ (q27.2.1 39).toInt ∧ (q27.2.1 39).toInt ≤ 8 := k_q27_2.1 39
    have e_q27_2_43 : (q27.2.1 43).toInt = (q17.2.1 43).toInt := congrArg Int32.toInt (n_q27_2.1 43 rfl)
    have zq27_0 : (q27.2.1 52).toInt = (q17.2.1 52).toInt - 1 := zq27_0
    have zq27_2 : q27.1.toInt < 2 * ((q17.2.1 37).toInt + (q17.2.1 31).toInt) := zq27_2
    have u28 : Ch (q27.2.1 64) (q27.2.1 73) (q27.2.1 39) (q27.2.1 43) (q27.2.2.1 74) := by rw [n_q27_2.1 39 rfl, n_q27_2.1 43 rfl, n_q27_2.1 64 rfl, n_q27_2.1 73 rfl, n_q27_2.2.1 74 rfl]; exact u18
    have u29 : Lmd (q27.2.1 64).toInt (q27.2.1 65).toInt := by rw [n_q27_2.1 64 rfl, n_q27_2.1 65 rfl]; exact u19
    have u30 : Gx ((q27.2.1 39).toInt + 1) (q27.2.1 43).toInt (q27.2.2.1 44) (q27.2.2.1 45) := by rw [n_q27_2.1 39 rfl, n_q27_2.1 43 rfl, n_q27_2.2.1 44 rfl, n_q27_2.2.1 45 rfl]; exact u20
    have u31 : No (q27.2.1 40).toInt ((q27.2.1 39).toInt + 1 + (q27.2.1 43).toInt) (q27.2.2.1 47) := by rw [n_q27_2.1 39 rfl, n_q27_2.1 40 rfl, n_q27_2.1 43 rfl, n_q27_2.2.1 47 rfl]; exact u21
    have u32 : Hc (q27.2.1 64).toInt ((q27.2.1 39).toInt + 1) (q27.2.1 43).toInt (q27.2.1 65).toInt (q27.2.2.1 44) (q27.2.2.1 45) := by rw [n_q27_2.1 39 rfl, n_q27_2.1 43 rfl, n_q27_2.1 64 rfl, n_q27_2.1 65 rfl, n_q27_2.2.1 44 rfl, n_q27_2.2.1 45 rfl]; exact u22
    have u33 : Gx (q27.2.1 37).toInt (q27.2.1 31).toInt (q27.2.2.1 32) (q27.2.2.1 33) := by rw [n_q27_2.1 31 rfl, n_q27_2.1 37 rfl, n_q27_2.2.1 32 rfl, n_q27_2.2.1 33 rfl]; exact u23
    have u34 : Lk (-1) ((q27.2.1 39).toInt + 1) (q27.2.1 43).toInt (q27.2.1 40).toInt (q27.2.2.1 47) (q27.2.2.1 44) (q27.2.2.1 45) (q27.2.2.1 49) (q27.2.2.1 48) := by rw [n_q27_2.1 39 rfl, n_q27_2.1 40 rfl, n_q27_2.1 43 rfl, n_q27_2.2.1 44 rfl, n_q27_2.2.1 45 rfl, n_q27_2.2.1 47 rfl, n_q27_2.2.1 48 rfl, n_q27_2.2.1 49 rfl]; exact u24
    have u35 : Ap ((q27.2.1 39).toInt + 1) (q27.2.1 43).toInt (q27.2.2.1 44) (q27.2.2.1 45) (q27.2.2.1 49) (q27.2.2.1 48) (q27.2.2.1 50) := by rw [n_q27_2.1 39 rfl, n_q27_2.1 43 rfl, n_q27_2.2.1 44 rfl, n_q27_2.2.1 45 rfl, n_q27_2.2.1 48 rfl, n_q27_2.2.1 49 rfl, n_q27_2.2.1 50 rfl]; exact u25
    have u36 : Rq ((q27.2.1 39).toInt + 1 + v1.toInt) ((q27.2.1 39).toInt + 1) ((q27.2.1 37).toInt + (q27.2.1 31).toInt) (q27.2.2.1 49) (q27.2.2.1 50) (q27.2.2.1 51) := by rw [n_q27_2.1 31 rfl, n_q27_2.1 37 rfl, n_q27_2.1 39 rfl, n_q27_2.2.1 49 rfl, n_q27_2.2.1 50 rfl, n_q27_2.2.1 51 rfl]; exact u26
    refine tt_b (sM_and _ _ _ k_q27_2 i_q17 i_q27 (iv_w (a := 0) (b := 2) (by decide) (by decide) f_q27_2_0) f_q27_2_37 f_q27_2_95 u33 (show q17.1.toInt < 2 * ((q27.2.1 37).toInt + (q27.2.1 31).toInt) by omega) (show q27.1.toInt < 2 * ((q27.2.1 37).toInt + (q27.2.1 31).toInt) by omega)) (fun q37 hq37 => ?_)
    obtain ⟨i_q37, k_q37_2, n_q37_2, zq37_0, zq37_1, zq37_2, -⟩ := hq37
    have r_q37_2 := fr_tr r_q27_2 n_q37_2 rfl rfl rfl
    have f_q37_2_0 : (0 : Int) ≤ (q37.2.1 0).toInt ∧ (q37.2.1 0).toInt ≤ 0 := by rw [n_q37_2.1 0 rfl]; exact f_q27_2_0
    have f_q37_2_52 : (0 : Int) ≤ (q37.2.1 52).toInt ∧ (q37.2.1 52).toInt ≤ 419 := by rw [n_q37_2.1 52 rfl]; exact f_q27_2_52
    have f_q37_2_37 : (1 : Int) ≤ (q37.2.1 37).toInt ∧ (q37.2.1 37).toInt ≤ 9 := by rw [n_q37_2.1 37 rfl]; exact f_q27_2_37
    have f_q37_2_38 : (1 : Int) ≤ (q37.2.1 38).toInt ∧ (q37.2.1 38).toInt ≤ 1 := by rw [n_q37_2.1 38 rfl]; exact f_q27_2_38
    have f_q37_2_54 : (0 : Int) ≤ (q37.2.1 54).toInt ∧ (q37.2.1 54).toInt ≤ 0 := by rw [n_q37_2.1 54 rfl]; exact f_q27_2_54
    have f_q37_2_43 : (1 : Int) ≤ (q37.2.1 43).toInt ∧ (q37.2.1 43).toInt ≤ 200 := by rw [n_q37_2.1 43 rfl]; exact f_q27_2_43
    have f_q37_2_95 : (0 : Int) ≤ (q37.2.1 95).toInt ∧ (q37.2.1 95).toInt ≤ 0 := by rw [n_q37_2.1 95 rfl]; exact f_q27_2_95
    have g_q37_2_31 : (0 : Int) ≤ (q37.2.1 31).toInt ∧ (q37.2.1 31).toInt ≤ 200 := k_q37_2.1 31
    have e_q37_2_37 : (q37.2.1 37).toInt = (q27.2.1 37).toInt := congrArg Int32.toInt (n_q37_2.1 37 rfl)
    have e_q37_2_39 : (q37.2.1 39).toInt = (q27.2.1 39).toInt := congrArg Int32.toInt (n_q37_2.1 39 rfl)
    have g_q37_2_39 : (0 : Int) ≤ (q37.2.1 39).toInt ∧ (q37.2.1 39).toInt ≤ 8 := k_q37_2.1 39
    have e_q37_2_43 : (q37.2.1 43).toInt = (q27.2.1 43).toInt := congrArg Int32.toInt (n_q37_2.1 43 rfl)
    have e_q37_2_52 : (q37.2.1 52).toInt = (q27.2.1 52).toInt := congrArg Int32.toInt (n_q37_2.1 52 rfl)
    have zq37_1 : q37.1.toInt < 2 * ((q37.2.1 37).toInt + (q37.2.1 31).toInt) := zq37_1
    have zq37_2 : (q27.2.1 31).toInt ≤ (q37.2.1 31).toInt := zq37_2
    have u38 : Ch (q37.2.1 64) (q37.2.1 73) (q37.2.1 39) (q37.2.1 43) (q37.2.2.1 74) := by rw [n_q37_2.1 39 rfl, n_q37_2.1 43 rfl, n_q37_2.1 64 rfl, n_q37_2.1 73 rfl, n_q37_2.2.1 74 rfl]; exact u28
    have u39 : Lmd (q37.2.1 64).toInt (q37.2.1 65).toInt := by rw [n_q37_2.1 64 rfl, n_q37_2.1 65 rfl]; exact u29
    have u40 : Gx ((q37.2.1 39).toInt + 1) (q37.2.1 43).toInt (q37.2.2.1 44) (q37.2.2.1 45) := by rw [n_q37_2.1 39 rfl, n_q37_2.1 43 rfl, n_q37_2.2.1 44 rfl, n_q37_2.2.1 45 rfl]; exact u30
    have u41 : No (q37.2.1 40).toInt ((q37.2.1 39).toInt + 1 + (q37.2.1 43).toInt) (q37.2.2.1 47) := by rw [n_q37_2.1 39 rfl, n_q37_2.1 40 rfl, n_q37_2.1 43 rfl, n_q37_2.2.1 47 rfl]; exact u31
    have u42 : Hc (q37.2.1 64).toInt ((q37.2.1 39).toInt + 1) (q37.2.1 43).toInt (q37.2.1 65).toInt (q37.2.2.1 44) (q37.2.2.1 45) := by rw [n_q37_2.1 39 rfl, n_q37_2.1 43 rfl, n_q37_2.1 64 rfl, n_q37_2.1 65 rfl, n_q37_2.2.1 44 rfl, n_q37_2.2.1 45 rfl]; exact u32
    have u43 : Lk (-1) ((q37.2.1 39).toInt + 1) (q37.2.1 43).toInt (q37.2.1 40).toInt (q37.2.2.1 47) (q37.2.2.1 44) (q37.2.2.1 45) (q37.2.2.1 49) (q37.2.2.1 48) := by rw [n_q37_2.1 39 rfl, n_q37_2.1 40 rfl, n_q37_2.1 43 rfl, n_q37_2.2.1 44 rfl, n_q37_2.2.1 45 rfl, n_q37_2.2.1 47 rfl, n_q37_2.2.1 48 rfl, n_q37_2.2.1 49 rfl]; exact u34
    have u44 : Ap ((q37.2.1 39).toInt + 1) (q37.2.1 43).toInt (q37.2.2.1 44) (q37.2.2.1 45) (q37.2.2.1 49) (q37.2.2.1 48) (q37.2.2.1 50) := by rw [n_q37_2.1 39 rfl, n_q37_2.1 43 rfl, n_q37_2.2.1 44 rfl, n_q37_2.2.1 45 rfl, n_q37_2.2.1 48 rfl, n_q37_2.2.1 49 rfl, n_q37_2.2.1 50 rfl]; exact u35
    refine tt_n (ix_ok f_q27_2_52 (by decide) (by decide)) ?_
    refine tt_ko ?_
    have k45 := ok_xp (k := 53) (i := (q27.2.1 52).toNatClampNeg) (v := q37.1) k_q37_2 i_q37
    have r46 := fr_xp (k := 53) (i := (q27.2.1 52).toNatClampNeg) (v := q37.1) r_q37_2 rfl
    refine tt_kv (P := fun z => ((1 : Int) ≤ z.toInt ∧ z.toInt ≤ 420) ∧ z = ((q37.2.1 52) + 1) ∧ z.toInt = (q37.2.1 52).toInt + 1) ⟨iv_add f_q37_2_52 (show (1 : Int) ≤ (1 : Int32).toInt ∧ (1 : Int32).toInt ≤ 1 by decide) (by decide) (by decide) (by decide) (by decide), rfl, iq_add f_q37_2_52 (show (1 : Int) ≤ (1 : Int32).toInt ∧ (1 : Int32).toInt ≤ 1 by decide) (by decide) (by decide)⟩ (fun x47 qi48 => ?_)
    obtain ⟨i48, ax47, ei48⟩ := qi48
    refine tt_ko ?_
    have k49 := ok_fp (k := 52) (v := x47) k45 (iv_w (a := 0) (b := 420) (by decide) (by decide) i48)
    have r50 := fr_fp (k := 52) (v := x47) r46 rfl
    have p51 : Rq ((q37.2.1 39).toInt + 1 + v1.toInt) ((q37.2.1 39).toInt + 1) ((q37.2.1 37).toInt + (q37.2.1 31).toInt) (q37.2.2.1 49) (q37.2.2.1 50) (q37.2.2.1 51) := by rw [n_q37_2.2.1 49 rfl, n_q37_2.2.1 50 rfl, n_q37_2.2.1 51 rfl, n_q37_2.1 39 rfl]; exact Rq_w u36 (le_nb e_q37_2_37 zq37_2)
    have p52 : No x47.toInt ((q37.2.1 37).toInt + (q37.2.1 31).toInt) (upd (q37.2.2.1 53) ((q27.2.1 52).toNatClampNeg) q37.1) := by rw [n_q37_2.2.1 53 rfl]; exact No_s (No_w zq27_1 (Int.le_refl _) (le_nb e_q37_2_37 zq37_2)) (by omega) (by rw [tn_n]; omega) (by omega)
    exact H.2 _ _ k49 r50 i_v1 f_q37_2_0 f_q37_2_37 f_q37_2_38 f_q37_2_43 f_q37_2_54 f_q37_2_95 u38 u39 u40 u41 u42 zq37_0 u43 u44 p51 (show (q37.2.1 37).toInt = (q37.2.1 39).toInt + 1 by omega) p52 (show 1 ≤ x47.toInt by omega) (show v1.toInt < (q37.2.1 43).toInt by omega) (show (200 - v1.toInt - 1) * 1000 + 1 + x47.toInt < (n : Int) by omega)
set_option maxHeartbeats 4000000 in
set_option maxRecDepth 100000 in
theorem tM_balance_41 {yo0 : cf_O} {n : Nat} (H : HM_balance yo0 n) (v1 : Int32) (o0 : cf_O) (k_o0 : okO I_M o0) (r_o0 : Fr (fr_M [0, 31, 36, 37, 43, 52, 54, 64, 85] [32, 33, 34, 35, 44, 45, 46, 47, 48, 49, 50, 51, 53, 55] []) yo0 o0) (i_v1 : (0 : Int) ≤ v1.toInt ∧ v1.toInt ≤ 200) (f_o0_0 : (0 : Int) ≤ (o0.1 0).toInt ∧ (o0.1 0).toInt ≤ 0) (f_o0_37 : (1 : Int) ≤ (o0.1 37).toInt ∧ (o0.1 37).toInt ≤ 9) (f_o0_38 : (1 : Int) ≤ (o0.1 38).toInt ∧ (o0.1 38).toInt ≤ 1) (f_o0_95 : (0 : Int) ≤ (o0.1 95).toInt ∧ (o0.1 95).toInt ≤ 0) (x_0 : Ch (o0.1 64) (o0.1 73) (o0.1 39) (o0.1 43) (o0.2.1 74)) (x_1 : Lmd (o0.1 64).toInt (o0.1 65).toInt) (x_2 : Gx ((o0.1 39).toInt + 1) (o0.1 43).toInt (o0.2.1 44) (o0.2.1 45)) (x_3 : No (o0.1 40).toInt ((o0.1 39).toInt + 1 + (o0.1 43).toInt) (o0.2.1 47)) (x_4 : Hc (o0.1 64).toInt ((o0.1 39).toInt + 1) (o0.1 43).toInt (o0.1 65).toInt (o0.2.1 44) (o0.2.1 45)) (x_5 : Gx (o0.1 37).toInt (o0.1 31).toInt (o0.2.1 32) (o0.2.1 33)) (x_6 : Lk (-1) ((o0.1 39).toInt + 1) (o0.1 43).toInt (o0.1 40).toInt (o0.2.1 47) (o0.2.1 44) (o0.2.1 45) (o0.2.1 49) (o0.2.1 48)) (x_7 : Ap ((o0.1 39).toInt + 1) (o0.1 43).toInt (o0.2.1 44) (o0.2.1 45) (o0.2.1 49) (o0.2.1 48) (o0.2.1 50)) (x_8 : Rq ((o0.1 39).toInt + 1 + v1.toInt) ((o0.1 39).toInt + 1) ((o0.1 37).toInt + (o0.1 31).toInt) (o0.2.1 49) (o0.2.1 50) (o0.2.1 51)) (x_9 : (o0.1 37).toInt = (o0.1 39).toInt + 1) (x_10 : v1.toInt ≤ (o0.1 43).toInt) (hm : (200 - v1.toInt) * 1000 ≤ (n : Int)) : tt (fM_balance_41 (gM_balance n) v1 o0) (QM_balance yo0) := by
  unfold fM_balance_41
  have g_o0_31 : (0 : Int) ≤ (o0.1 31).toInt ∧ (o0.1 31).toInt ≤ 200 := k_o0.1 31
  have g_o0_39 : (0 : Int) ≤ (o0.1 39).toInt ∧ (o0.1 39).toInt ≤ 8 := k_o0.1 39
  have ey_o0_39 : (o0.1 39).toInt = (yo0.1 39).toInt := congrArg Int32.toInt (r_o0.1 39 rfl)
  have g_o0_43 : (0 : Int) ≤ (o0.1 43).toInt ∧ (o0.1 43).toInt ≤ 200 := k_o0.1 43
  have g_o0_52 : (0 : Int) ≤ (o0.1 52).toInt ∧ (o0.1 52).toInt ≤ 420 := k_o0.1 52
  refine tt_if (fun c1 => ?_) (fun c1 => ?_)
  · have wc1 : (o0.1 43).toInt ≤ v1.toInt := c_le c1
    have p2 : Fn (o0.1 40).toInt ((o0.1 37).toInt + (o0.1 31).toInt) (o0.2.1 47) (o0.2.1 51) := by exact Fn_b x_6 (show Gx ((o0.1 39).toInt + 1) (o0.1 43).toInt _ _ by assumption) x_7 (show Rq ((o0.1 39).toInt + 1 + (o0.1 43).toInt) _ _ _ _ _ by rw [show (o0.1 43).toInt = v1.toInt by omega]; assumption) (by assumption) (fun k => (k_o0.2 47 k).1) (by omega) (by omega)
    refine tt_b (sM_finish _ k_o0 (iv_w (a := 0) (b := 2) (by decide) (by decide) f_o0_0) f_o0_37 f_o0_38 f_o0_95 x_0 x_1 x_5 x_2 x_3 p2 (show (o0.1 37).toInt = (o0.1 39).toInt + 1 by omega) x_4) (fun q3 hq3 => ?_)
    obtain ⟨i_q3, k_q3_2, n_q3_2, f_q3_2_0, zq3_0, zq3_1, zq3_2, zq3_3, zq3_4, -⟩ := hq3
    have r_q3_2 := fr_tr r_o0 n_q3_2 rfl rfl rfl
    have f_q3_2_37 : (1 : Int) ≤ (q3.2.1 37).toInt ∧ (q3.2.1 37).toInt ≤ 9 := by rw [n_q3_2.1 37 rfl]; exact f_o0_37
    have f_q3_2_38 : (1 : Int) ≤ (q3.2.1 38).toInt ∧ (q3.2.1 38).toInt ≤ 1 := by rw [n_q3_2.1 38 rfl]; exact f_o0_38
    have f_q3_2_95 : (0 : Int) ≤ (q3.2.1 95).toInt ∧ (q3.2.1 95).toInt ≤ 0 := by rw [n_q3_2.1 95 rfl]; exact f_o0_95
    have e_q3_2_31 : (q3.2.1 31).toInt = (o0.1 31).toInt := congrArg Int32.toInt (n_q3_2.1 31 rfl)
    have g_q3_2_31 : (0 : Int) ≤ (q3.2.1 31).toInt ∧ (q3.2.1 31).toInt ≤ 200 := k_q3_2.1 31
    have e_q3_2_37 : (q3.2.1 37).toInt = (o0.1 37).toInt := congrArg Int32.toInt (n_q3_2.1 37 rfl)
    have e_q3_2_39 : (q3.2.1 39).toInt = (o0.1 39).toInt := congrArg Int32.toInt (n_q3_2.1 39 rfl)
    have g_q3_2_39 : (0 : Int) ≤ (q3.2.1 39).toInt ∧ (q3.2.1 39).toInt ≤ 8 := k_q3_2.1 39
    have g_q3_2_43 : (0 : Int) ≤ (q3.2.1 43).toInt ∧ (q3.2.1 43).toInt ≤ 200 := k_q3_2.1 43
    have e_q3_2_52 : (q3.2.1 52).toInt = (o0.1 52).toInt := congrArg Int32.toInt (n_q3_2.1 52 rfl)
    have g_q3_2_52 : (0 : Int) ≤ (q3.2.1 52).toInt ∧ (q3.2.1 52).toInt ≤ 420 := k_q3_2.1 52
    have u4 : Gx (q3.2.1 37).toInt (q3.2.1 31).toInt (q3.2.2.1 32) (q3.2.2.1 33) := by rw [n_q3_2.1 31 rfl, n_q3_2.1 37 rfl, n_q3_2.2.1 32 rfl, n_q3_2.2.1 33 rfl]; exact x_5
    have u5 : Rq ((q3.2.1 39).toInt + 1 + v1.toInt) ((q3.2.1 39).toInt + 1) ((q3.2.1 37).toInt + (q3.2.1 31).toInt) (q3.2.2.1 49) (q3.2.2.1 50) (q3.2.2.1 51) := by rw [n_q3_2.1 31 rfl, n_q3_2.1 37 rfl, n_q3_2.1 39 rfl, n_q3_2.2.1 49 rfl, n_q3_2.2.1 50 rfl, n_q3_2.2.1 51 rfl]; exact x_8
    exact tt_some ⟨i_q3, k_q3_2, r_q3_2, f_q3_2_0, zq3_0, zq3_1, zq3_2, zq3_3, zq3_4, trivial⟩
  · have wc1 : v1.toInt < (o0.1 43).toInt := c_nle c1
    have i6 : (0 : Int) ≤ v1.toInt ∧ v1.toInt ≤ 199 := nr_nlel c1 i_v1 (k_o0.1 43) (by decide) (by decide)
    have i7 : (1 : Int) ≤ (o0.1 43).toInt ∧ (o0.1 43).toInt ≤ 200 := nr_nler c1 i_v1 (k_o0.1 43) (by decide) (by decide)
    try unfold fM_base
    try unfold fM_base_0
    refine tt_bkv (P := fun z => ((1 : Int) ≤ z.toInt ∧ z.toInt ≤ 9) ∧ z = ((o0.1 39) + 1) ∧ z.toInt = (o0.1 39).toInt + 1) ⟨iv_add (k_o0.1 39) (show (1 : Int) ≤ (1 : Int32).toInt ∧ (1 : Int32).toInt ≤ 1 by decide) (by decide) (by decide) (by decide) (by decide), rfl, iq_add (k_o0.1 39) (show (1 : Int) ≤ (1 : Int32).toInt ∧ (1 : Int32).toInt ≤ 1 by decide) (by decide) (by decide)⟩ (fun x8 qi9 => ?_)
    obtain ⟨i9, ax8, ei9⟩ := qi9
    refine tt_bs ?_
    refine tt_kv (P := fun z => ((1 : Int) ≤ z.toInt ∧ z.toInt ≤ 208) ∧ z = (x8 + v1) ∧ z.toInt = x8.toInt + v1.toInt) ⟨iv_add i9 i6 (by decide) (by decide) (by decide) (by decide), rfl, iq_add i9 i6 (by decide) (by decide)⟩ (fun x10 qi11 => ?_)
    obtain ⟨i11, ax10, ei11⟩ := qi11
    refine tt_n (ix_ok i11 (by decide) (by decide)) ?_
    refine tt_kv (P := fun z => ((0 : Int) ≤ z.toInt ∧ z.toInt ≤ 1) ∧ z = (o0.2.1 49 x10.toNatClampNeg) ∧ z.toInt = (o0.2.1 49 x10.toNatClampNeg).toInt) ⟨(k_o0.2 49 _), rfl, rfl⟩ (fun x12 qi13 => ?_)
    obtain ⟨i13, ax12, ei13⟩ := qi13
    refine tt_if (fun c14 => ?_) (fun c14 => ?_)
    · have wc14 : x12.toInt = (0 : Int) := c_eq c14
      have i15 : (0 : Int) ≤ x12.toInt ∧ x12.toInt ≤ 0 := nr_eql c14 i13 (show (0 : Int) ≤ (0 : Int32).toInt ∧ (0 : Int32).toInt ≤ 0 by decide) (by decide) (by decide)
      try unfold fM_balance_148
      refine tt_kv (P := fun z => ((1 : Int) ≤ z.toInt ∧ z.toInt ≤ 200) ∧ z = (v1 + 1) ∧ z.toInt = v1.toInt + 1) ⟨iv_add i6 (show (1 : Int) ≤ (1 : Int32).toInt ∧ (1 : Int32).toInt ≤ 1 by decide) (by decide) (by decide) (by decide) (by decide), rfl, iq_add i6 (show (1 : Int) ≤ (1 : Int32).toInt ∧ (1 : Int32).toInt ≤ 1 by decide) (by decide) (by decide)⟩ (fun x16 qi17 => ?_)
      obtain ⟨i17, ax16, ei17⟩ := qi17
      have p18 : Rq ((o0.1 39).toInt + 1 + x16.toInt) ((o0.1 39).toInt + 1) ((o0.1 37).toInt + (o0.1 31).toInt) (o0.2.1 49) (o0.2.1 50) (o0.2.1 51) := by first | exact Rq_k x_8 (by omega) (by rw [tn_n]; omega) (by omega) (Or.inl (show (o0.2.1 49 x10.toNatClampNeg).toInt = 0 by omega)) | exact Rq_k x_8 (by omega) (by rw [tn_n]; omega) (by omega) (Or.inr (show ¬ (o0.2.1 50 none.toNatClampNeg).toInt = 0 by omega))
      exact H.1 _ _ k_o0 r_o0 (iv_w (a := 0) (b := 200) (by decide) (by decide) i17) f_o0_0 f_o0_37 f_o0_38 f_o0_95 x_0 x_1 x_2 x_3 x_4 x_5 x_6 x_7 p18 (show (o0.1 37).toInt = (o0.1 39).toInt + 1 by omega) (show x16.toInt ≤ (o0.1 43).toInt by omega) (show (200 - x16.toInt) * 1000 < (n : Int) by omega)
    · have wc14 : ¬ x12.toInt = (0 : Int) := c_ne c14
      have i19 : (1 : Int) ≤ x12.toInt ∧ x12.toInt ≤ 1 := nr_nela c14 i13 (show (0 : Int) ≤ (0 : Int32).toInt ∧ (0 : Int32).toInt ≤ 0 by decide) (by decide) (by decide)
      try unfold fM_base
      try unfold fM_base_0
      refine tt_bkv (P := fun z => x8 = z ∧ True) ⟨ax8, trivial⟩ (fun x20 hx20 => ?_)
      obtain ⟨rfl, -⟩ := hx20
      refine tt_bs ?_
      refine tt_kv (P := fun z => x10 = z ∧ True) ⟨ax10, trivial⟩ (fun x21 hx21 => ?_)
      obtain ⟨rfl, -⟩ := hx21
      refine tt_n (ix_ok i11 (by decide) (by decide)) ?_
      refine tt_kv (P := fun z => ((0 : Int) ≤ z.toInt ∧ z.toInt ≤ 1) ∧ z = (o0.2.1 50 x10.toNatClampNeg) ∧ z.toInt = (o0.2.1 50 x10.toNatClampNeg).toInt) ⟨(k_o0.2 50 _), rfl, rfl⟩ (fun x22 qi23 => ?_)
      obtain ⟨i23, ax22, ei23⟩ := qi23
      refine tt_if (fun c24 => ?_) (fun c24 => ?_)
      · have wc24 : x22.toInt = (0 : Int) := c_eq c24
        have i25 : (0 : Int) ≤ x22.toInt ∧ x22.toInt ≤ 0 := nr_eql c24 i23 (show (0 : Int) ≤ (0 : Int32).toInt ∧ (0 : Int32).toInt ≤ 0 by decide) (by decide) (by decide)
        have p26 : (¬ ((o0.2.1 49) ((o0.1 39).toInt + 1 + v1.toInt).toNat).toInt = 0) := by rw [show ((o0.1 39).toInt + 1 + v1.toInt).toNat = x10.toNatClampNeg by have := tn_n x10; omega]; omega
        refine tt_b (sM_leaves _ _ k_o0 i6 f_o0_0 f_o0_37 f_o0_38 i7 f_o0_95 x_2 x_6 x_7 x_8 (show v1.toInt < (o0.1 43).toInt by omega) p26) (fun q27 hq27 => ?_)
        obtain ⟨k_q27, n_q27, f_q27_54, zq27_0, zq27_1, -⟩ := hq27
        have r_q27 := fr_tr r_o0 n_q27 rfl rfl rfl
        have f_q27_0 : (0 : Int) ≤ (q27.1 0).toInt ∧ (q27.1 0).toInt ≤ 0 := by rw [n_q27.1 0 rfl]; exact f_o0_0
        have f_q27_37 : (1 : Int) ≤ (q27.1 37).toInt ∧ (q27.1 37).toInt ≤ 9 := by rw [n_q27.1 37 rfl]; exact f_o0_37
        have f_q27_38 : (1 : Int) ≤ (q27.1 38).toInt ∧ (q27.1 38).toInt ≤ 1 := by rw [n_q27.1 38 rfl]; exact f_o0_38
        have f_q27_43 : (1 : Int) ≤ (q27.1 43).toInt ∧ (q27.1 43).toInt ≤ 200 := by rw [n_q27.1 43 rfl]; exact i7
        have f_q27_95 : (0 : Int) ≤ (q27.1 95).toInt ∧ (q27.1 95).toInt ≤ 0 := by rw [n_q27.1 95 rfl]; exact f_o0_95
        have e_q27_31 : (q27.1 31).toInt = (o0.1 31).toInt := congrArg Int32.toInt (n_q27.1 31 rfl)
        have g_q27_31 : (0 : Int) ≤ (q27.1 31).toInt ∧ (q27.1 31).toInt ≤ 200 := k_q27.1 31
        have e_q27_37 : (q27.1 37).toInt = (o0.1 37).toInt := congrArg Int32.toInt (n_q27.1 37 rfl)
        have e_q27_39 : (q27.1 39).toInt = (o0.1 39).toInt := congrArg Int32.toInt (n_q27.1 39 rfl)
        have g_q27_39 : (0 : Int) ≤ (q27.1 39).toInt ∧ (q27.1 39).toInt ≤ 8 := k_q27.1 39
        have e_q27_43 : (q27.1 43).toInt = (o0.1 43).toInt := congrArg Int32.toInt (n_q27.1 43 rfl)
        have g_q27_52 : (0 : Int) ≤ (q27.1 52).toInt ∧ (q27.1 52).toInt ≤ 420 := k_q27.1 52
        have zq27_1 : 2 ≤ (q27.1 52).toInt := zq27_1
        have u28 : Ch (q27.1 64) (q27.1 73) (q27.1 39) (q27.1 43) (q27.2.1 74) := by rw [n_q27.1 39 rfl, n_q27.1 43 rfl, n_q27.1 64 rfl, n_q27.1 73 rfl, n_q27.2.1 74 rfl]; exact x_0
        have u29 : Lmd (q27.1 64).toInt (q27.1 65).toInt := by rw [n_q27.1 64 rfl, n_q27.1 65 rfl]; exact x_1
        have u30 : Gx ((q27.1 39).toInt + 1) (q27.1 43).toInt (q27.2.1 44) (q27.2.1 45) := by rw [n_q27.1 39 rfl, n_q27.1 43 rfl, n_q27.2.1 44 rfl, n_q27.2.1 45 rfl]; exact x_2
        have u31 : No (q27.1 40).toInt ((q27.1 39).toInt + 1 + (q27.1 43).toInt) (q27.2.1 47) := by rw [n_q27.1 39 rfl, n_q27.1 40 rfl, n_q27.1 43 rfl, n_q27.2.1 47 rfl]; exact x_3
        have u32 : Hc (q27.1 64).toInt ((q27.1 39).toInt + 1) (q27.1 43).toInt (q27.1 65).toInt (q27.2.1 44) (q27.2.1 45) := by rw [n_q27.1 39 rfl, n_q27.1 43 rfl, n_q27.1 64 rfl, n_q27.1 65 rfl, n_q27.2.1 44 rfl, n_q27.2.1 45 rfl]; exact x_4
        have u33 : Gx (q27.1 37).toInt (q27.1 31).toInt (q27.2.1 32) (q27.2.1 33) := by rw [n_q27.1 31 rfl, n_q27.1 37 rfl, n_q27.2.1 32 rfl, n_q27.2.1 33 rfl]; exact x_5
        have u34 : Lk (-1) ((q27.1 39).toInt + 1) (q27.1 43).toInt (q27.1 40).toInt (q27.2.1 47) (q27.2.1 44) (q27.2.1 45) (q27.2.1 49) (q27.2.1 48) := by rw [n_q27.1 39 rfl, n_q27.1 40 rfl, n_q27.1 43 rfl, n_q27.2.1 44 rfl, n_q27.2.1 45 rfl, n_q27.2.1 47 rfl, n_q27.2.1 48 rfl, n_q27.2.1 49 rfl]; exact x_6
        have u35 : Ap ((q27.1 39).toInt + 1) (q27.1 43).toInt (q27.2.1 44) (q27.2.1 45) (q27.2.1 49) (q27.2.1 48) (q27.2.1 50) := by rw [n_q27.1 39 rfl, n_q27.1 43 rfl, n_q27.2.1 44 rfl, n_q27.2.1 45 rfl, n_q27.2.1 48 rfl, n_q27.2.1 49 rfl, n_q27.2.1 50 rfl]; exact x_7
        have u36 : Rq ((q27.1 39).toInt + 1 + v1.toInt) ((q27.1 39).toInt + 1) ((q27.1 37).toInt + (q27.1 31).toInt) (q27.2.1 49) (q27.2.1 50) (q27.2.1 51) := by rw [n_q27.1 31 rfl, n_q27.1 37 rfl, n_q27.1 39 rfl, n_q27.2.1 49 rfl, n_q27.2.1 50 rfl, n_q27.2.1 51 rfl]; exact x_8
        exact H.2 _ _ k_q27 r_q27 i6 f_q27_0 f_q27_37 f_q27_38 f_q27_43 f_q27_54 f_q27_95 u28 u29 u30 u31 u32 u33 u34 u35 u36 (show (q27.1 37).toInt = (q27.1 39).toInt + 1 by omega) zq27_0 (show 1 ≤ (q27.1 52).toInt by omega) (show v1.toInt < (q27.1 43).toInt by omega) (show (200 - v1.toInt - 1) * 1000 + 1 + (q27.1 52).toInt < (n : Int) by omega)
      · have wc24 : ¬ x22.toInt = (0 : Int) := c_ne c24
        have i37 : (1 : Int) ≤ x22.toInt ∧ x22.toInt ≤ 1 := nr_nela c24 i23 (show (0 : Int) ≤ (0 : Int32).toInt ∧ (0 : Int32).toInt ≤ 0 by decide) (by decide) (by decide)
        try unfold fM_balance_148
        refine tt_kv (P := fun z => ((1 : Int) ≤ z.toInt ∧ z.toInt ≤ 200) ∧ z = (v1 + 1) ∧ z.toInt = v1.toInt + 1) ⟨iv_add i6 (show (1 : Int) ≤ (1 : Int32).toInt ∧ (1 : Int32).toInt ≤ 1 by decide) (by decide) (by decide) (by decide) (by decide), rfl, iq_add i6 (show (1 : Int) ≤ (1 : Int32).toInt ∧ (1 : Int32).toInt ≤ 1 by decide) (by decide) (by decide)⟩ (fun x38 qi39 => ?_)
        obtain ⟨i39, ax38, ei39⟩ := qi39
        have p40 : Rq ((o0.1 39).toInt + 1 + x38.toInt) ((o0.1 39).toInt + 1) ((o0.1 37).toInt + (o0.1 31).toInt) (o0.2.1 49) (o0.2.1 50) (o0.2.1 51) := by first | exact Rq_k x_8 (by omega) (by rw [tn_n]; omega) (by omega) (Or.inl (show (o0.2.1 49 x10.toNatClampNeg).toInt = 0 by omega)) | exact Rq_k x_8 (by omega) (by rw [tn_n]; omega) (by omega) (Or.inr (show ¬ (o0.2.1 50 x10.toNatClampNeg).toInt = 0 by omega))
        exact H.1 _ _ k_o0 r_o0 (iv_w (a := 0) (b := 200) (by decide) (by decide) i39) f_o0_0 f_o0_37 f_o0_38 f_o0_95 x_0 x_1 x_2 x_3 x_4 x_5 x_6 x_7 p40 (show (o0.1 37).toInt = (o0.1 39).toInt + 1 by omega) (show x38.toInt ≤ (o0.1 43).toInt by omega) (show (200 - x38.toInt) * 1000 < (n : Int) by omega)
set_option maxHeartbeats 4000000 in
set_option maxRecDepth 100000 in
theorem hM_balance (yo0 : cf_O) : ∀ n, HM_balance yo0 n := by
  intro n
  induction n with
  | zero => exact ⟨(fun v1 o0 k_o0 r_o0 i_v1 f_o0_0 f_o0_37 f_o0_38 f_o0_95 x_0 x_1 x_2 x_3 x_4 x_5 x_6 x_7 x_8 x_9 x_10 hm => by exact absurd (show (200 - v1.toInt) * 1000 < (0 : Int) from hm) (by omega)), (fun v1 o0 k_o0 r_o0 i_v1 f_o0_0 f_o0_37 f_o0_38 f_o0_43 f_o0_54 f_o0_95 x_0 x_1 x_2 x_3 x_4 x_5 x_6 x_7 x_8 x_9 x_10 x_11 x_12 hm => by have z_o0_52 : (0 : Int) ≤ (o0.1 52).toInt ∧ (o0.1 52).toInt ≤ 420 := k_o0.1 52; exact absurd (show (200 - v1.toInt - 1) * 1000 + 1 + (o0.1 52).toInt < (0 : Int) from hm) (by omega))⟩
  | succ n ih => exact ⟨(fun v1 o0 k_o0 r_o0 i_v1 f_o0_0 f_o0_37 f_o0_38 f_o0_95 x_0 x_1 x_2 x_3 x_4 x_5 x_6 x_7 x_8 x_9 x_10 hm => tM_balance_41 ih v1 o0 k_o0 r_o0 i_v1 f_o0_0 f_o0_37 f_o0_38 f_o0_95 x_0 x_1 x_2 x_3 x_4 x_5 x_6 x_7 x_8 x_9 x_10 (by omega)), (fun v1 o0 k_o0 r_o0 i_v1 f_o0_0 f_o0_37 f_o0_38 f_o0_43 f_o0_54 f_o0_95 x_0 x_1 x_2 x_3 x_4 x_5 x_6 x_7 x_8 x_9 x_10 x_11 x_12 hm => tM_balance_85 ih v1 o0 k_o0 r_o0 i_v1 f_o0_0 f_o0_37 f_o0_38 f_o0_43 f_o0_54 f_o0_95 x_0 x_1 x_2 x_3 x_4 x_5 x_6 x_7 x_8 x_9 x_10 x_11 x_12 (by omega))⟩
set_option maxHeartbeats 4000000 in
set_option maxRecDepth 100000 in
theorem sM_balance (o0 : cf_O) (k_o0 : okO I_M o0) (f_o0_95 : (0 : Int) ≤ (o0.1 95).toInt ∧ (o0.1 95).toInt ≤ 0) (x_0 : Ch (o0.1 64) (o0.1 73) (o0.1 39) (o0.1 43) (o0.2.1 74)) (x_1 : Lmd (o0.1 64).toInt (o0.1 65).toInt) (x_2 : Gx ((o0.1 39).toInt + 1) (o0.1 43).toInt (o0.2.1 44) (o0.2.1 45)) (x_3 : No (o0.1 40).toInt ((o0.1 39).toInt + 1 + (o0.1 43).toInt) (o0.2.1 47)) (x_4 : Hc (o0.1 64).toInt ((o0.1 39).toInt + 1) (o0.1 43).toInt (o0.1 65).toInt (o0.2.1 44) (o0.2.1 45)) : tt (fM_balance o0) (QM_balance o0) := by
  have H := hM_balance o0 cfFU
  have hm : (300000 : Int) ≤ (cfFU : Nat) := by decide
  have r_o0 : Fr (fr_M [0, 31, 36, 37, 43, 52, 54, 64, 85] [32, 33, 34, 35, 44, 45, 46, 47, 48, 49, 50, 51, 53, 55] []) o0 o0 := fr_rfl
  unfold fM_balance fM_balance_0
  have g_o0_31 : (0 : Int) ≤ (o0.1 31).toInt ∧ (o0.1 31).toInt ≤ 200 := k_o0.1 31
  have g_o0_37 : (0 : Int) ≤ (o0.1 37).toInt ∧ (o0.1 37).toInt ≤ 9 := k_o0.1 37
  have g_o0_39 : (0 : Int) ≤ (o0.1 39).toInt ∧ (o0.1 39).toInt ≤ 8 := k_o0.1 39
  have g_o0_43 : (0 : Int) ≤ (o0.1 43).toInt ∧ (o0.1 43).toInt ≤ 200 := k_o0.1 43
  have g_o0_52 : (0 : Int) ≤ (o0.1 52).toInt ∧ (o0.1 52).toInt ≤ 420 := k_o0.1 52
  refine tt_if (fun c1 => ?_) (fun c1 => ?_)
  · have wc1 : (o0.1 38).toInt = (0 : Int) := c_eq c1
    have i2 : (0 : Int) ≤ (o0.1 38).toInt ∧ (o0.1 38).toInt ≤ 0 := nr_eql c1 (k_o0.1 38) (show (0 : Int) ≤ (0 : Int32).toInt ∧ (0 : Int32).toInt ≤ 0 by decide) (by decide) (by decide)
    try unfold fM_balance_13
    try unfold fM_refuse
    try unfold fM_refuse_0
    refine tt_bif (fun c3 => ?_) (fun c3 => ?_)
    · have wc3 : (1 : Int) = (0 : Int) := c_eq c3
      exact (dd_eq c3 (show (1 : Int) ≤ (1 : Int32).toInt ∧ (1 : Int32).toInt ≤ 1 by decide) (show (0 : Int) ≤ (0 : Int32).toInt ∧ (0 : Int32).toInt ≤ 0 by decide) (by decide)).elim
    · have wc3 : ¬ (1 : Int) = (0 : Int) := c_ne c3
      try unfold fM_refuse_26
      refine tt_bko ?_
      have k4 := ok_fp (k := 0) (v := 1) k_o0 (iv_w (a := 0) (b := 3) (by decide) (by decide) (show (1 : Int) ≤ (1 : Int32).toInt ∧ (1 : Int32).toInt ≤ 1 by decide))
      have r5 := fr_fp (k := 0) (v := 1) r_o0 rfl
      refine tt_bif (fun c6 => ?_) (fun c6 => ?_)
      · have wc6 : (1 : Int) ≤ (0 : Int) := c_le c6
        exact (dd_le c6 (show (1 : Int) ≤ (1 : Int32).toInt ∧ (1 : Int32).toInt ≤ 1 by decide) (show (0 : Int) ≤ (0 : Int32).toInt ∧ (0 : Int32).toInt ≤ 0 by decide) (by decide)).elim
      · have wc6 : (0 : Int) < (1 : Int) := c_nle c6
        try unfold fM_refuse_41
        refine tt_bw (iv_b (show (1 : Int) ≤ (1 : Int32).toInt ∧ (1 : Int32).toInt ≤ 1 by decide) (by decide) (by decide)) ?_
        refine tt_bs ?_
        refine tt_if (fun c7 => ?_) (fun c7 => ?_)
        · have wc7 : (1 : Int) = (0 : Int) := c_eq c7
          exact (dd_eq c7 (show (1 : Int) ≤ (1 : Int32).toInt ∧ (1 : Int32).toInt ≤ 1 by decide) (show (0 : Int) ≤ (0 : Int32).toInt ∧ (0 : Int32).toInt ≤ 0 by decide) (by decide)).elim
        · have wc7 : ¬ (1 : Int) = (0 : Int) := c_ne c7
          exact tt_some ⟨(iv_w (a := 0) (b := 200) (by decide) (by decide) (show (0 : Int) ≤ (0 : Int32).toInt ∧ (0 : Int32).toInt ≤ 0 by decide)), k4, r5, (iv_w (a := 0) (b := 2) (by decide) (by decide) (show (1 : Int) ≤ (1 : Int32).toInt ∧ (1 : Int32).toInt ≤ 1 by decide)), x_0, x_1, x_2, x_3, x_4, trivial⟩
  · have wc1 : ¬ (o0.1 38).toInt = (0 : Int) := c_ne c1
    have i8 : (1 : Int) ≤ (o0.1 38).toInt ∧ (o0.1 38).toInt ≤ 1 := nr_nela c1 (k_o0.1 38) (show (0 : Int) ≤ (0 : Int32).toInt ∧ (0 : Int32).toInt ≤ 0 by decide) (by decide) (by decide)
    try unfold fM_balance_13
    try unfold fM_refuse
    try unfold fM_refuse_0
    refine tt_bif (fun c9 => ?_) (fun c9 => ?_)
    · have wc9 : (0 : Int) = (0 : Int) := c_eq c9
      refine tt_bif (fun c10 => ?_) (fun c10 => ?_)
      · have wc10 : (0 : Int) = (0 : Int) := c_eq c10
        refine tt_bif (fun c11 => ?_) (fun c11 => ?_)
        · have wc11 : (0 : Int) = (0 : Int) := c_eq c11
          try unfold fM_refuse_26
          refine tt_bko ?_
          have k12 := ok_fp (k := 0) (v := 0) k_o0 (iv_w (a := 0) (b := 3) (by decide) (by decide) (show (0 : Int) ≤ (0 : Int32).toInt ∧ (0 : Int32).toInt ≤ 0 by decide))
          have r13 := fr_fp (k := 0) (v := 0) r_o0 rfl
          refine tt_bif (fun c14 => ?_) (fun c14 => ?_)
          · have wc14 : (0 : Int) ≤ (0 : Int) := c_le c14
            try unfold fM_refuse_41
            refine tt_bw (iv_b (show (0 : Int) ≤ (0 : Int32).toInt ∧ (0 : Int32).toInt ≤ 0 by decide) (by decide) (by decide)) ?_
            refine tt_bs ?_
            refine tt_if (fun c15 => ?_) (fun c15 => ?_)
            · have wc15 : (0 : Int) = (0 : Int) := c_eq c15
              refine tt_b (sM_look _ k12 (show (0 : Int) ≤ (0 : Int32).toInt ∧ (0 : Int32).toInt ≤ 0 by decide) i8 f_o0_95 x_2) (fun q16 hq16 => ?_)
              obtain ⟨k_q16, n_q16, zq16_0, zq16_1, -⟩ := hq16
              have r_q16 := fr_tr r13 n_q16 rfl rfl rfl
              have f_q16_0 : (0 : Int) ≤ (q16.1 0).toInt ∧ (q16.1 0).toInt ≤ 0 := by rw [n_q16.1 0 rfl]; exact (show (0 : Int) ≤ (0 : Int32).toInt ∧ (0 : Int32).toInt ≤ 0 by decide)
              have f_q16_38 : (1 : Int) ≤ (q16.1 38).toInt ∧ (q16.1 38).toInt ≤ 1 := by rw [n_q16.1 38 rfl]; exact i8
              have f_q16_95 : (0 : Int) ≤ (q16.1 95).toInt ∧ (q16.1 95).toInt ≤ 0 := by rw [n_q16.1 95 rfl]; exact f_o0_95
              have e_q16_31 : (q16.1 31).toInt = (o0.1 31).toInt := congrArg Int32.toInt (n_q16.1 31 rfl)
              have g_q16_31 : (0 : Int) ≤ (q16.1 31).toInt ∧ (q16.1 31).toInt ≤ 200 := k_q16.1 31
              have e_q16_37 : (q16.1 37).toInt = (o0.1 37).toInt := congrArg Int32.toInt (n_q16.1 37 rfl)
              have g_q16_37 : (0 : Int) ≤ (q16.1 37).toInt ∧ (q16.1 37).toInt ≤ 9 := k_q16.1 37
              have e_q16_39 : (q16.1 39).toInt = (o0.1 39).toInt := congrArg Int32.toInt (n_q16.1 39 rfl)
              have g_q16_39 : (0 : Int) ≤ (q16.1 39).toInt ∧ (q16.1 39).toInt ≤ 8 := k_q16.1 39
              have e_q16_43 : (q16.1 43).toInt = (o0.1 43).toInt := congrArg Int32.toInt (n_q16.1 43 rfl)
              have g_q16_43 : (0 : Int) ≤ (q16.1 43).toInt ∧ (q16.1 43).toInt ≤ 200 := k_q16.1 43
              have e_q16_52 : (q16.1 52).toInt = (o0.1 52).toInt := congrArg Int32.toInt (n_q16.1 52 rfl)
              have g_q16_52 : (0 : Int) ≤ (q16.1 52).toInt ∧ (q16.1 52).toInt ≤ 420 := k_q16.1 52
              have zq16_0 : Lk (-1) ((q16.1 39).toInt + 1) (q16.1 43).toInt (q16.1 40).toInt (q16.2.1 47) (q16.2.1 44) (q16.2.1 45) (q16.2.1 49) (q16.2.1 48) := zq16_0
              have zq16_1 : Ap ((q16.1 39).toInt + 1) (q16.1 43).toInt (q16.2.1 44) (q16.2.1 45) (q16.2.1 49) (q16.2.1 48) (q16.2.1 50) := zq16_1
              have u17 : Ch (q16.1 64) (q16.1 73) (q16.1 39) (q16.1 43) (q16.2.1 74) := by rw [n_q16.1 39 rfl, n_q16.1 43 rfl, n_q16.1 64 rfl, n_q16.1 73 rfl, n_q16.2.1 74 rfl]; exact x_0
              have u18 : Lmd (q16.1 64).toInt (q16.1 65).toInt := by rw [n_q16.1 64 rfl, n_q16.1 65 rfl]; exact x_1
              have u19 : Gx ((q16.1 39).toInt + 1) (q16.1 43).toInt (q16.2.1 44) (q16.2.1 45) := by rw [n_q16.1 39 rfl, n_q16.1 43 rfl, n_q16.2.1 44 rfl, n_q16.2.1 45 rfl]; exact x_2
              have u20 : No (q16.1 40).toInt ((q16.1 39).toInt + 1 + (q16.1 43).toInt) (q16.2.1 47) := by rw [n_q16.1 39 rfl, n_q16.1 40 rfl, n_q16.1 43 rfl, n_q16.2.1 47 rfl]; exact x_3
              have u21 : Hc (q16.1 64).toInt ((q16.1 39).toInt + 1) (q16.1 43).toInt (q16.1 65).toInt (q16.2.1 44) (q16.2.1 45) := by rw [n_q16.1 39 rfl, n_q16.1 43 rfl, n_q16.1 64 rfl, n_q16.1 65 rfl, n_q16.2.1 44 rfl, n_q16.2.1 45 rfl]; exact x_4
              try unfold fM_base
              try unfold fM_base_0
              refine tt_bkv (P := fun z => ((1 : Int) ≤ z.toInt ∧ z.toInt ≤ 9) ∧ z = ((q16.1 39) + 1) ∧ z.toInt = (q16.1 39).toInt + 1) ⟨iv_add (k_q16.1 39) (show (1 : Int) ≤ (1 : Int32).toInt ∧ (1 : Int32).toInt ≤ 1 by decide) (by decide) (by decide) (by decide) (by decide), rfl, iq_add (k_q16.1 39) (show (1 : Int) ≤ (1 : Int32).toInt ∧ (1 : Int32).toInt ≤ 1 by decide) (by decide) (by decide)⟩ (fun x22 qi23 => ?_)
              obtain ⟨i23, ax22, ei23⟩ := qi23
              refine tt_bs ?_
              refine tt_b (sM_begin _ _ k_q16 i23 (iv_w (a := 0) (b := 2) (by decide) (by decide) f_q16_0) f_q16_95) (fun q24 hq24 => ?_)
              obtain ⟨k_q24, n_q24, f_q24_31, f_q24_36, f_q24_37, zq24_0, zq24_1, -⟩ := hq24
              have r_q24 := fr_tr r_q16 n_q24 rfl rfl rfl
              have f_q24_0 : (0 : Int) ≤ (q24.1 0).toInt ∧ (q24.1 0).toInt ≤ 0 := by rw [n_q24.1 0 rfl]; exact f_q16_0
              have f_q24_38 : (1 : Int) ≤ (q24.1 38).toInt ∧ (q24.1 38).toInt ≤ 1 := by rw [n_q24.1 38 rfl]; exact f_q16_38
              have f_q24_95 : (0 : Int) ≤ (q24.1 95).toInt ∧ (q24.1 95).toInt ≤ 0 := by rw [n_q24.1 95 rfl]; exact f_q16_95
              have e_q24_39 : (q24.1 39).toInt = (q16.1 39).toInt := congrArg Int32.toInt (n_q24.1 39 rfl)
              have g_q24_39 : (0 : Int) ≤ (q24.1 39).toInt ∧ (q24.1 39).toInt ≤ 8 := k_q24.1 39
              have e_q24_43 : (q24.1 43).toInt = (q16.1 43).toInt := congrArg Int32.toInt (n_q24.1 43 rfl)
              have g_q24_43 : (0 : Int) ≤ (q24.1 43).toInt ∧ (q24.1 43).toInt ≤ 200 := k_q24.1 43
              have e_q24_52 : (q24.1 52).toInt = (q16.1 52).toInt := congrArg Int32.toInt (n_q24.1 52 rfl)
              have g_q24_52 : (0 : Int) ≤ (q24.1 52).toInt ∧ (q24.1 52).toInt ≤ 420 := k_q24.1 52
              have zq24_0 : (q24.1 31).toInt = 0 := zq24_0
              have zq24_1 : (q24.1 37).toInt = x22.toInt := zq24_1
              have u25 : Lk (-1) ((q24.1 39).toInt + 1) (q24.1 43).toInt (q24.1 40).toInt (q24.2.1 47) (q24.2.1 44) (q24.2.1 45) (q24.2.1 49) (q24.2.1 48) := by rw [n_q24.1 39 rfl, n_q24.1 40 rfl, n_q24.1 43 rfl, n_q24.2.1 44 rfl, n_q24.2.1 45 rfl, n_q24.2.1 47 rfl, n_q24.2.1 48 rfl, n_q24.2.1 49 rfl]; exact zq16_0
              have u26 : Ap ((q24.1 39).toInt + 1) (q24.1 43).toInt (q24.2.1 44) (q24.2.1 45) (q24.2.1 49) (q24.2.1 48) (q24.2.1 50) := by rw [n_q24.1 39 rfl, n_q24.1 43 rfl, n_q24.2.1 44 rfl, n_q24.2.1 45 rfl, n_q24.2.1 48 rfl, n_q24.2.1 49 rfl, n_q24.2.1 50 rfl]; exact zq16_1
              have u27 : Ch (q24.1 64) (q24.1 73) (q24.1 39) (q24.1 43) (q24.2.1 74) := by rw [n_q24.1 39 rfl, n_q24.1 43 rfl, n_q24.1 64 rfl, n_q24.1 73 rfl, n_q24.2.1 74 rfl]; exact u17
              have u28 : Lmd (q24.1 64).toInt (q24.1 65).toInt := by rw [n_q24.1 64 rfl, n_q24.1 65 rfl]; exact u18
              have u29 : Gx ((q24.1 39).toInt + 1) (q24.1 43).toInt (q24.2.1 44) (q24.2.1 45) := by rw [n_q24.1 39 rfl, n_q24.1 43 rfl, n_q24.2.1 44 rfl, n_q24.2.1 45 rfl]; exact u19
              have u30 : No (q24.1 40).toInt ((q24.1 39).toInt + 1 + (q24.1 43).toInt) (q24.2.1 47) := by rw [n_q24.1 39 rfl, n_q24.1 40 rfl, n_q24.1 43 rfl, n_q24.2.1 47 rfl]; exact u20
              have u31 : Hc (q24.1 64).toInt ((q24.1 39).toInt + 1) (q24.1 43).toInt (q24.1 65).toInt (q24.2.1 44) (q24.2.1 45) := by rw [n_q24.1 39 rfl, n_q24.1 43 rfl, n_q24.1 64 rfl, n_q24.1 65 rfl, n_q24.2.1 44 rfl, n_q24.2.1 45 rfl]; exact u21
              refine tt_b (sM_old _ k_q24 (iv_w (a := 0) (b := 2) (by decide) (by decide) f_q24_0) f_q24_31 f_q24_36 f_q24_37 f_q24_38 f_q24_95) (fun q32 hq32 => ?_)
              obtain ⟨k_q32, n_q32, zq32_0, -⟩ := hq32
              have r_q32 := fr_tr r_q24 n_q32 rfl rfl rfl
              have f_q32_0 : (0 : Int) ≤ (q32.1 0).toInt ∧ (q32.1 0).toInt ≤ 0 := by rw [n_q32.1 0 rfl]; exact f_q24_0
              have f_q32_36 : (0 : Int) ≤ (q32.1 36).toInt ∧ (q32.1 36).toInt ≤ 0 := by rw [n_q32.1 36 rfl]; exact f_q24_36
              have f_q32_37 : (1 : Int) ≤ (q32.1 37).toInt ∧ (q32.1 37).toInt ≤ 9 := by rw [n_q32.1 37 rfl]; exact f_q24_37
              have f_q32_38 : (1 : Int) ≤ (q32.1 38).toInt ∧ (q32.1 38).toInt ≤ 1 := by rw [n_q32.1 38 rfl]; exact f_q24_38
              have f_q32_95 : (0 : Int) ≤ (q32.1 95).toInt ∧ (q32.1 95).toInt ≤ 0 := by rw [n_q32.1 95 rfl]; exact f_q24_95
              have f_q32_31 : (0 : Int) ≤ (q32.1 31).toInt ∧ (q32.1 31).toInt ≤ 0 := by rw [n_q32.1 31 rfl]; exact f_q24_31
              have e_q32_31 : (q32.1 31).toInt = (q24.1 31).toInt := congrArg Int32.toInt (n_q32.1 31 rfl)
              have e_q32_37 : (q32.1 37).toInt = (q24.1 37).toInt := congrArg Int32.toInt (n_q32.1 37 rfl)
              have e_q32_39 : (q32.1 39).toInt = (q24.1 39).toInt := congrArg Int32.toInt (n_q32.1 39 rfl)
              have g_q32_39 : (0 : Int) ≤ (q32.1 39).toInt ∧ (q32.1 39).toInt ≤ 8 := k_q32.1 39
              have e_q32_43 : (q32.1 43).toInt = (q24.1 43).toInt := congrArg Int32.toInt (n_q32.1 43 rfl)
              have g_q32_43 : (0 : Int) ≤ (q32.1 43).toInt ∧ (q32.1 43).toInt ≤ 200 := k_q32.1 43
              have e_q32_52 : (q32.1 52).toInt = (q24.1 52).toInt := congrArg Int32.toInt (n_q32.1 52 rfl)
              have g_q32_52 : (0 : Int) ≤ (q32.1 52).toInt ∧ (q32.1 52).toInt ≤ 420 := k_q32.1 52
              have u33 : Lk (-1) ((q32.1 39).toInt + 1) (q32.1 43).toInt (q32.1 40).toInt (q32.2.1 47) (q32.2.1 44) (q32.2.1 45) (q32.2.1 49) (q32.2.1 48) := by rw [n_q32.1 39 rfl, n_q32.1 40 rfl, n_q32.1 43 rfl, n_q32.2.1 44 rfl, n_q32.2.1 45 rfl, n_q32.2.1 47 rfl, n_q32.2.1 48 rfl, n_q32.2.1 49 rfl]; exact u25
              have u34 : Ap ((q32.1 39).toInt + 1) (q32.1 43).toInt (q32.2.1 44) (q32.2.1 45) (q32.2.1 49) (q32.2.1 48) (q32.2.1 50) := by rw [n_q32.1 39 rfl, n_q32.1 43 rfl, n_q32.2.1 44 rfl, n_q32.2.1 45 rfl, n_q32.2.1 48 rfl, n_q32.2.1 49 rfl, n_q32.2.1 50 rfl]; exact u26
              have u35 : Ch (q32.1 64) (q32.1 73) (q32.1 39) (q32.1 43) (q32.2.1 74) := by rw [n_q32.1 39 rfl, n_q32.1 43 rfl, n_q32.1 64 rfl, n_q32.1 73 rfl, n_q32.2.1 74 rfl]; exact u27
              have u36 : Lmd (q32.1 64).toInt (q32.1 65).toInt := by rw [n_q32.1 64 rfl, n_q32.1 65 rfl]; exact u28
              have u37 : Gx ((q32.1 39).toInt + 1) (q32.1 43).toInt (q32.2.1 44) (q32.2.1 45) := by rw [n_q32.1 39 rfl, n_q32.1 43 rfl, n_q32.2.1 44 rfl, n_q32.2.1 45 rfl]; exact u29
              have u38 : No (q32.1 40).toInt ((q32.1 39).toInt + 1 + (q32.1 43).toInt) (q32.2.1 47) := by rw [n_q32.1 39 rfl, n_q32.1 40 rfl, n_q32.1 43 rfl, n_q32.2.1 47 rfl]; exact u30
              have u39 : Hc (q32.1 64).toInt ((q32.1 39).toInt + 1) (q32.1 43).toInt (q32.1 65).toInt (q32.2.1 44) (q32.2.1 45) := by rw [n_q32.1 39 rfl, n_q32.1 43 rfl, n_q32.1 64 rfl, n_q32.1 65 rfl, n_q32.2.1 44 rfl, n_q32.2.1 45 rfl]; exact u31
              have p40 : Gx (q32.1 37).toInt (q32.1 31).toInt (q32.2.1 32) (q32.2.1 33) := by exact Gx_z (by omega)
              have p41 : Rq ((q32.1 39).toInt + 1 + 0) ((q32.1 39).toInt + 1) ((q32.1 37).toInt + (q32.1 31).toInt) (q32.2.1 49) (q32.2.1 50) (q32.2.1 51) := by exact Rq_0 (by assumption) (by omega) (by omega)
              exact H.1 _ _ k_q32 r_q32 (iv_w (a := 0) (b := 200) (by decide) (by decide) (show (0 : Int) ≤ (0 : Int32).toInt ∧ (0 : Int32).toInt ≤ 0 by decide)) f_q32_0 f_q32_37 f_q32_38 f_q32_95 u35 u36 u37 u38 u39 p40 u33 u34 p41 (show (q32.1 37).toInt = (q32.1 39).toInt + 1 by omega) (show 0 ≤ (q32.1 43).toInt by omega) (show (200 - 0) * 1000 < ((cfFU : Nat) : Int) by omega)
            · have wc15 : ¬ (0 : Int) = (0 : Int) := c_ne c15
              exact (dd_ne c15 (show (0 : Int) ≤ (0 : Int32).toInt ∧ (0 : Int32).toInt ≤ 0 by decide) (show (0 : Int) ≤ (0 : Int32).toInt ∧ (0 : Int32).toInt ≤ 0 by decide)).elim
          · have wc14 : (0 : Int) < (0 : Int) := c_nle c14
            exact (dd_nle c14 (show (0 : Int) ≤ (0 : Int32).toInt ∧ (0 : Int32).toInt ≤ 0 by decide) (show (0 : Int) ≤ (0 : Int32).toInt ∧ (0 : Int32).toInt ≤ 0 by decide) (by decide)).elim
        · have wc11 : ¬ (0 : Int) = (0 : Int) := c_ne c11
          exact (dd_ne c11 (show (0 : Int) ≤ (0 : Int32).toInt ∧ (0 : Int32).toInt ≤ 0 by decide) (show (0 : Int) ≤ (0 : Int32).toInt ∧ (0 : Int32).toInt ≤ 0 by decide)).elim
      · have wc10 : ¬ (0 : Int) = (0 : Int) := c_ne c10
        exact (dd_ne c10 (show (0 : Int) ≤ (0 : Int32).toInt ∧ (0 : Int32).toInt ≤ 0 by decide) (show (0 : Int) ≤ (0 : Int32).toInt ∧ (0 : Int32).toInt ≤ 0 by decide)).elim
    · have wc9 : ¬ (0 : Int) = (0 : Int) := c_ne c9
      exact (dd_ne c9 (show (0 : Int) ≤ (0 : Int32).toInt ∧ (0 : Int32).toInt ≤ 0 by decide) (show (0 : Int) ≤ (0 : Int32).toInt ∧ (0 : Int32).toInt ≤ 0 by decide)).elim
def QM_reckon (o0 : cf_O) (r : (cf_O)) : Prop := (okO I_M r) ∧ (Fr (fr_M [0] [75] [56]) o0 r) ∧ ((0 : Int) ≤ (r.1 0).toInt ∧ (r.1 0).toInt ≤ 2) ∧ True
def HM_reckon (yo0 : cf_O) (n : Nat) : Prop := (∀ (v1 : Int32) (v2 : Int32) (o0 : cf_O), (okO I_M o0) → (Fr (fr_M [0] [75] [56]) yo0 o0) → ((1 : Int) ≤ v1.toInt ∧ v1.toInt ≤ 256) → ((0 : Int) ≤ v2.toInt ∧ v2.toInt ≤ 840) → ((0 : Int) ≤ (o0.1 0).toInt ∧ (o0.1 0).toInt ≤ 0) → ((1 : Int) ≤ (o0.1 38).toInt ∧ (o0.1 38).toInt ≤ 1) → ((0 : Int) ≤ (o0.1 95).toInt ∧ (o0.1 95).toInt ≤ 0) → 108034 + (840 - v2.toInt) * 2 < (n : Int) → tt (gM_reckon n 0 v1 v2 0 o0) (QM_reckon yo0)) ∧ (∀ (v1 : Int32) (v2 : Int32) (o0 : cf_O), (okO I_M o0) → (Fr (fr_M [0] [75] [56]) yo0 o0) → ((1 : Int) ≤ v1.toInt ∧ v1.toInt ≤ 256) → ((0 : Int) ≤ v2.toInt ∧ v2.toInt ≤ 256) → ((0 : Int) ≤ (o0.1 0).toInt ∧ (o0.1 0).toInt ≤ 2) → ((1 : Int) ≤ (o0.1 38).toInt ∧ (o0.1 38).toInt ≤ 1) → ((0 : Int) ≤ (o0.1 95).toInt ∧ (o0.1 95).toInt ≤ 0) → 0 + (256 - v2.toInt) * 422 < (n : Int) → tt (gM_reckon n 1 v1 v2 0 o0) (QM_reckon yo0)) ∧ (∀ (v1 : Int32) (v2 : Int32) (v3 : Int32) (o0 : cf_O), (okO I_M o0) → (Fr (fr_M [0] [75] [56]) yo0 o0) → ((1 : Int) ≤ v1.toInt ∧ v1.toInt ≤ 256) → ((0 : Int) ≤ v2.toInt ∧ v2.toInt ≤ 255) → ((0 : Int) ≤ v3.toInt ∧ v3.toInt ≤ 209) → ((0 : Int) ≤ (o0.1 0).toInt ∧ (o0.1 0).toInt ≤ 2) → ((1 : Int) ≤ (o0.1 38).toInt ∧ (o0.1 38).toInt ≤ 1) → ((0 : Int) ≤ (o0.1 95).toInt ∧ (o0.1 95).toInt ≤ 0) → 0 + (256 - v2.toInt - 1) * 422 + 1 + (209 - v3.toInt) * 2 < (n : Int) → tt (gM_reckon n 2 v1 v2 v3 o0) (QM_reckon yo0))
set_option maxHeartbeats 4000000 in
set_option maxRecDepth 100000 in
theorem tM_reckon_44 {yo0 : cf_O} {n : Nat} (H : HM_reckon yo0 n) (v1 : Int32) (v2 : Int32) (v3 : Int32) (o0 : cf_O) (k_o0 : okO I_M o0) (r_o0 : Fr (fr_M [0] [75] [56]) yo0 o0) (i_v1 : (1 : Int) ≤ v1.toInt ∧ v1.toInt ≤ 256) (i_v2 : (0 : Int) ≤ v2.toInt ∧ v2.toInt ≤ 255) (i_v3 : (0 : Int) ≤ v3.toInt ∧ v3.toInt ≤ 209) (f_o0_0 : (0 : Int) ≤ (o0.1 0).toInt ∧ (o0.1 0).toInt ≤ 2) (f_o0_38 : (1 : Int) ≤ (o0.1 38).toInt ∧ (o0.1 38).toInt ≤ 1) (f_o0_95 : (0 : Int) ≤ (o0.1 95).toInt ∧ (o0.1 95).toInt ≤ 0) (hm : 0 + (256 - v2.toInt - 1) * 422 + 1 + (209 - v3.toInt) * 2 ≤ (n : Int)) : tt (fM_reckon_44 (gM_reckon n) v1 v2 v3 o0) (QM_reckon yo0) := by
  unfold fM_reckon_44
  try unfold fM_base
  try unfold fM_base_0
  refine tt_bkv (P := fun z => ((1 : Int) ≤ z.toInt ∧ z.toInt ≤ 9) ∧ z.toInt = (o0.1 39).toInt + 1) ⟨iv_add (k_o0.1 39) (show (1 : Int) ≤ (1 : Int32).toInt ∧ (1 : Int32).toInt ≤ 1 by decide) (by decide) (by decide) (by decide) (by decide), iq_add (k_o0.1 39) (show (1 : Int) ≤ (1 : Int32).toInt ∧ (1 : Int32).toInt ≤ 1 by decide) (by decide) (by decide)⟩ (fun x1 qi2 => ?_)
  obtain ⟨i2, ei2⟩ := qi2
  refine tt_bs ?_
  refine tt_kv (P := fun z => (1 : Int) ≤ z.toInt ∧ z.toInt ≤ 209) (iv_add i2 (k_o0.1 43) (by decide) (by decide) (by decide) (by decide)) (fun x3 i4 => ?_)
  refine tt_if (fun c5 => ?_) (fun c5 => ?_)
  · have i6 : (1 : Int) ≤ v3.toInt ∧ v3.toInt ≤ 209 := nr_ler c5 i4 i_v3 (by decide) (by decide)
    refine tt_kv (P := fun z => ((1 : Int) ≤ z.toInt ∧ z.toInt ≤ 256) ∧ z.toInt = v2.toInt + 1) ⟨iv_add i_v2 (show (1 : Int) ≤ (1 : Int32).toInt ∧ (1 : Int32).toInt ≤ 1 by decide) (by decide) (by decide) (by decide) (by decide), iq_add i_v2 (show (1 : Int) ≤ (1 : Int32).toInt ∧ (1 : Int32).toInt ≤ 1 by decide) (by decide) (by decide)⟩ (fun x7 qi8 => ?_)
    obtain ⟨i8, ei8⟩ := qi8
    exact H.2.1 _ _ _ k_o0 r_o0 i_v1 (iv_w (a := 0) (b := 256) (by decide) (by decide) i8) f_o0_0 f_o0_38 f_o0_95 (show 0 + (256 - x7.toInt) * 422 < (n : Int) by omega)
  · have i9 : (0 : Int) ≤ v3.toInt ∧ v3.toInt ≤ 208 := nr_nlel c5 i_v3 i4 (by decide) (by decide)
    refine tt_kv (P := fun z => (0 : Int) ≤ z.toInt ∧ z.toInt ≤ 832) (iv_mul (show (4 : Int) ≤ (4 : Int32).toInt ∧ (4 : Int32).toInt ≤ 4 by decide) i9 (by decide) (by decide) (by decide) (by decide) (by decide)) (fun x10 i11 => ?_)
    refine tt_kv (P := fun z => (0 : Int) ≤ z.toInt ∧ z.toInt ≤ 3) (iv_div (k := 64) i_v2 (show (64 : Int) ≤ (64 : Int32).toInt ∧ (64 : Int32).toInt ≤ 64 by decide) (by decide) (by decide) (by decide) (by decide)) (fun x12 i13 => ?_)
    refine tt_kv (P := fun z => (0 : Int) ≤ z.toInt ∧ z.toInt ≤ 835) (iv_add i11 i13 (by decide) (by decide) (by decide) (by decide)) (fun x14 i15 => ?_)
    refine tt_n (ix_ok i9 (by decide) (by decide)) ?_
    refine tt_kv (P := fun z => (0 : Int) ≤ z.toInt ∧ z.toInt ≤ 1) (k_o0.2 75 _) (fun x16 i17 => ?_)
    refine tt_if (fun c18 => ?_) (fun c18 => ?_)
    · have i19 : (0 : Int) ≤ x16.toInt ∧ x16.toInt ≤ 0 := nr_eql c18 i17 (show (0 : Int) ≤ (0 : Int32).toInt ∧ (0 : Int32).toInt ≤ 0 by decide) (by decide) (by decide)
      refine tt_kv (P := fun z => (0 : Int) ≤ z.toInt ∧ z.toInt ≤ 832) (iv_mul (show (4 : Int) ≤ (4 : Int32).toInt ∧ (4 : Int32).toInt ≤ 4 by decide) i9 (by decide) (by decide) (by decide) (by decide) (by decide)) (fun x20 i21 => ?_)
      refine tt_kv (P := fun z => (0 : Int) ≤ z.toInt ∧ z.toInt ≤ 3) (iv_div (k := 64) i_v2 (show (64 : Int) ≤ (64 : Int32).toInt ∧ (64 : Int32).toInt ≤ 64 by decide) (by decide) (by decide) (by decide) (by decide)) (fun x22 i23 => ?_)
      refine tt_kv (P := fun z => (0 : Int) ≤ z.toInt ∧ z.toInt ≤ 835) (iv_add i21 i23 (by decide) (by decide) (by decide) (by decide)) (fun x24 i25 => ?_)
      refine tt_n (ix_ok i25 (by decide) (by decide)) ?_
      refine tt_kl (fun x26 => ?_)
      try unfold fM_reckon_114
      refine tt_n (ix_ok i15 (by decide) (by decide)) ?_
      refine tt_ko ?_
      have k27 := ok_yp (k := 56) (i := x14.toNatClampNeg) (v := x26) k_o0
      have r28 := fr_yp (k := 56) (i := x14.toNatClampNeg) (v := x26) r_o0 rfl
      refine tt_kv (P := fun z => ((1 : Int) ≤ z.toInt ∧ z.toInt ≤ 209) ∧ z.toInt = v3.toInt + 1) ⟨iv_add i9 (show (1 : Int) ≤ (1 : Int32).toInt ∧ (1 : Int32).toInt ≤ 1 by decide) (by decide) (by decide) (by decide) (by decide), iq_add i9 (show (1 : Int) ≤ (1 : Int32).toInt ∧ (1 : Int32).toInt ≤ 1 by decide) (by decide) (by decide)⟩ (fun x29 qi30 => ?_)
      obtain ⟨i30, ei30⟩ := qi30
      exact H.2.2 _ _ _ _ k27 r28 i_v1 i_v2 (iv_w (a := 0) (b := 209) (by decide) (by decide) i30) f_o0_0 f_o0_38 f_o0_95 (show 0 + (256 - v2.toInt - 1) * 422 + 1 + (209 - x29.toInt) * 2 < (n : Int) by omega)
    · have i31 : (1 : Int) ≤ x16.toInt ∧ x16.toInt ≤ 1 := nr_nela c18 i17 (show (0 : Int) ≤ (0 : Int32).toInt ∧ (0 : Int32).toInt ≤ 0 by decide) (by decide) (by decide)
      refine tt_kv (P := fun z => (0 : Int) ≤ z.toInt ∧ z.toInt ≤ 832) (iv_mul (show (4 : Int) ≤ (4 : Int32).toInt ∧ (4 : Int32).toInt ≤ 4 by decide) i9 (by decide) (by decide) (by decide) (by decide) (by decide)) (fun x32 i33 => ?_)
      refine tt_kv (P := fun z => (0 : Int) ≤ z.toInt ∧ z.toInt ≤ 3) (iv_div (k := 64) i_v2 (show (64 : Int) ≤ (64 : Int32).toInt ∧ (64 : Int32).toInt ≤ 64 by decide) (by decide) (by decide) (by decide) (by decide)) (fun x34 i35 => ?_)
      refine tt_kv (P := fun z => (0 : Int) ≤ z.toInt ∧ z.toInt ≤ 835) (iv_add i33 i35 (by decide) (by decide) (by decide) (by decide)) (fun x36 i37 => ?_)
      refine tt_n (ix_ok i37 (by decide) (by decide)) ?_
      refine tt_kl (fun x38 => ?_)
      refine tt_kv (P := fun z => (0 : Int) ≤ z.toInt ∧ z.toInt ≤ 63) (iv_rem (k := 64) i_v2 (show (64 : Int) ≤ (64 : Int32).toInt ∧ (64 : Int32).toInt ≤ 64 by decide) (by decide) (by decide) (by decide) (by decide)) (fun x39 i40 => ?_)
      refine tt_kl (fun x41 => ?_)
      refine tt_kl (fun x42 => ?_)
      try unfold fM_reckon_114
      refine tt_n (ix_ok i15 (by decide) (by decide)) ?_
      refine tt_ko ?_
      have k43 := ok_yp (k := 56) (i := x14.toNatClampNeg) (v := x42) k_o0
      have r44 := fr_yp (k := 56) (i := x14.toNatClampNeg) (v := x42) r_o0 rfl
      refine tt_kv (P := fun z => ((1 : Int) ≤ z.toInt ∧ z.toInt ≤ 209) ∧ z.toInt = v3.toInt + 1) ⟨iv_add i9 (show (1 : Int) ≤ (1 : Int32).toInt ∧ (1 : Int32).toInt ≤ 1 by decide) (by decide) (by decide) (by decide) (by decide), iq_add i9 (show (1 : Int) ≤ (1 : Int32).toInt ∧ (1 : Int32).toInt ≤ 1 by decide) (by decide) (by decide)⟩ (fun x45 qi46 => ?_)
      obtain ⟨i46, ei46⟩ := qi46
      exact H.2.2 _ _ _ _ k43 r44 i_v1 i_v2 (iv_w (a := 0) (b := 209) (by decide) (by decide) i46) f_o0_0 f_o0_38 f_o0_95 (show 0 + (256 - v2.toInt - 1) * 422 + 1 + (209 - x45.toInt) * 2 < (n : Int) by omega)
set_option maxHeartbeats 4000000 in
set_option maxRecDepth 100000 in
theorem tM_reckon_31 {yo0 : cf_O} {n : Nat} (H : HM_reckon yo0 n) (v1 : Int32) (v2 : Int32) (o0 : cf_O) (k_o0 : okO I_M o0) (r_o0 : Fr (fr_M [0] [75] [56]) yo0 o0) (i_v1 : (1 : Int) ≤ v1.toInt ∧ v1.toInt ≤ 256) (i_v2 : (0 : Int) ≤ v2.toInt ∧ v2.toInt ≤ 256) (f_o0_0 : (0 : Int) ≤ (o0.1 0).toInt ∧ (o0.1 0).toInt ≤ 2) (f_o0_38 : (1 : Int) ≤ (o0.1 38).toInt ∧ (o0.1 38).toInt ≤ 1) (f_o0_95 : (0 : Int) ≤ (o0.1 95).toInt ∧ (o0.1 95).toInt ≤ 0) (hm : 0 + (256 - v2.toInt) * 422 ≤ (n : Int)) : tt (fM_reckon_31 (gM_reckon n) v1 v2 o0) (QM_reckon yo0) := by
  unfold fM_reckon_31
  refine tt_if (fun c1 => ?_) (fun c1 => ?_)
  · have i2 : (1 : Int) ≤ v2.toInt ∧ v2.toInt ≤ 256 := nr_ler c1 i_v1 i_v2 (by decide) (by decide)
    exact tt_some ⟨k_o0, r_o0, f_o0_0, trivial⟩
  · have i3 : (0 : Int) ≤ v2.toInt ∧ v2.toInt ≤ 255 := nr_nlel c1 i_v2 i_v1 (by decide) (by decide)
    refine tt_b (sM_value _ _ k_o0 f_o0_95) (fun q4 hq4 => ?_)
    obtain ⟨i_q4, k_q4_2, n_q4_2, f_q4_2_0, -⟩ := hq4
    have r_q4_2 := fr_tr r_o0 n_q4_2 rfl rfl rfl
    have f_q4_2_38 : (1 : Int) ≤ (q4.2.1 38).toInt ∧ (q4.2.1 38).toInt ≤ 1 := by rw [n_q4_2.1 38 rfl]; exact f_o0_38
    have f_q4_2_95 : (0 : Int) ≤ (q4.2.1 95).toInt ∧ (q4.2.1 95).toInt ≤ 0 := by rw [n_q4_2.1 95 rfl]; exact f_o0_95
    exact H.2.2 _ _ _ _ k_q4_2 r_q4_2 i_v1 i3 (iv_w (a := 0) (b := 209) (by decide) (by decide) (show (0 : Int) ≤ (0 : Int32).toInt ∧ (0 : Int32).toInt ≤ 0 by decide)) f_q4_2_0 f_q4_2_38 f_q4_2_95 (show 0 + (256 - v2.toInt - 1) * 422 + 1 + (209 - 0) * 2 < (n : Int) by omega)
set_option maxHeartbeats 4000000 in
set_option maxRecDepth 100000 in
theorem tM_reckon_9 {yo0 : cf_O} {n : Nat} (H : HM_reckon yo0 n) (v1 : Int32) (v2 : Int32) (o0 : cf_O) (k_o0 : okO I_M o0) (r_o0 : Fr (fr_M [0] [75] [56]) yo0 o0) (i_v1 : (1 : Int) ≤ v1.toInt ∧ v1.toInt ≤ 256) (i_v2 : (0 : Int) ≤ v2.toInt ∧ v2.toInt ≤ 840) (f_o0_0 : (0 : Int) ≤ (o0.1 0).toInt ∧ (o0.1 0).toInt ≤ 0) (f_o0_38 : (1 : Int) ≤ (o0.1 38).toInt ∧ (o0.1 38).toInt ≤ 1) (f_o0_95 : (0 : Int) ≤ (o0.1 95).toInt ∧ (o0.1 95).toInt ≤ 0) (hm : 108034 + (840 - v2.toInt) * 2 ≤ (n : Int)) : tt (fM_reckon_9 (gM_reckon n) v1 v2 o0) (QM_reckon yo0) := by
  unfold fM_reckon_9
  refine tt_if (fun c1 => ?_) (fun c1 => ?_)
  · have i2 : (840 : Int) ≤ v2.toInt ∧ v2.toInt ≤ 840 := nr_ler c1 (show (840 : Int) ≤ (840 : Int32).toInt ∧ (840 : Int32).toInt ≤ 840 by decide) i_v2 (by decide) (by decide)
    exact H.2.1 _ _ _ k_o0 r_o0 i_v1 (iv_w (a := 0) (b := 256) (by decide) (by decide) (show (0 : Int) ≤ (0 : Int32).toInt ∧ (0 : Int32).toInt ≤ 0 by decide)) (iv_w (a := 0) (b := 2) (by decide) (by decide) f_o0_0) f_o0_38 f_o0_95 (show 0 + (256 - 0) * 422 < (n : Int) by omega)
  · have i3 : (0 : Int) ≤ v2.toInt ∧ v2.toInt ≤ 839 := nr_nlel c1 i_v2 (show (840 : Int) ≤ (840 : Int32).toInt ∧ (840 : Int32).toInt ≤ 840 by decide) (by decide) (by decide)
    refine tt_n (ix_ok i3 (by decide) (by decide)) ?_
    refine tt_ko ?_
    have k4 := ok_yp (k := 56) (i := v2.toNatClampNeg) (v := 0) k_o0
    have r5 := fr_yp (k := 56) (i := v2.toNatClampNeg) (v := 0) r_o0 rfl
    refine tt_kv (P := fun z => ((1 : Int) ≤ z.toInt ∧ z.toInt ≤ 840) ∧ z.toInt = v2.toInt + 1) ⟨iv_add i3 (show (1 : Int) ≤ (1 : Int32).toInt ∧ (1 : Int32).toInt ≤ 1 by decide) (by decide) (by decide) (by decide) (by decide), iq_add i3 (show (1 : Int) ≤ (1 : Int32).toInt ∧ (1 : Int32).toInt ≤ 1 by decide) (by decide) (by decide)⟩ (fun x6 qi7 => ?_)
    obtain ⟨i7, ei7⟩ := qi7
    exact H.1 _ _ _ k4 r5 i_v1 (iv_w (a := 0) (b := 840) (by decide) (by decide) i7) f_o0_0 f_o0_38 f_o0_95 (show 108034 + (840 - x6.toInt) * 2 < (n : Int) by omega)
set_option maxHeartbeats 4000000 in
set_option maxRecDepth 100000 in
theorem hM_reckon (yo0 : cf_O) : ∀ n, HM_reckon yo0 n := by
  intro n
  induction n with
  | zero => exact ⟨(fun v1 v2 o0 k_o0 r_o0 i_v1 i_v2 f_o0_0 f_o0_38 f_o0_95 hm => by exact absurd (show 108034 + (840 - v2.toInt) * 2 < (0 : Int) from hm) (by omega)), (fun v1 v2 o0 k_o0 r_o0 i_v1 i_v2 f_o0_0 f_o0_38 f_o0_95 hm => by exact absurd (show 0 + (256 - v2.toInt) * 422 < (0 : Int) from hm) (by omega)), (fun v1 v2 v3 o0 k_o0 r_o0 i_v1 i_v2 i_v3 f_o0_0 f_o0_38 f_o0_95 hm => by exact absurd (show 0 + (256 - v2.toInt - 1) * 422 + 1 + (209 - v3.toInt) * 2 < (0 : Int) from hm) (by omega))⟩
  | succ n ih => exact ⟨(fun v1 v2 o0 k_o0 r_o0 i_v1 i_v2 f_o0_0 f_o0_38 f_o0_95 hm => tM_reckon_9 ih v1 v2 o0 k_o0 r_o0 i_v1 i_v2 f_o0_0 f_o0_38 f_o0_95 (by omega)), (fun v1 v2 o0 k_o0 r_o0 i_v1 i_v2 f_o0_0 f_o0_38 f_o0_95 hm => tM_reckon_31 ih v1 v2 o0 k_o0 r_o0 i_v1 i_v2 f_o0_0 f_o0_38 f_o0_95 (by omega)), (fun v1 v2 v3 o0 k_o0 r_o0 i_v1 i_v2 i_v3 f_o0_0 f_o0_38 f_o0_95 hm => tM_reckon_44 ih v1 v2 v3 o0 k_o0 r_o0 i_v1 i_v2 i_v3 f_o0_0 f_o0_38 f_o0_95 (by omega))⟩
set_option maxHeartbeats 4000000 in
set_option maxRecDepth 100000 in
theorem sM_reckon (o0 : cf_O) (k_o0 : okO I_M o0) (f_o0_0 : (0 : Int) ≤ (o0.1 0).toInt ∧ (o0.1 0).toInt ≤ 0) (f_o0_38 : (1 : Int) ≤ (o0.1 38).toInt ∧ (o0.1 38).toInt ≤ 1) (f_o0_95 : (0 : Int) ≤ (o0.1 95).toInt ∧ (o0.1 95).toInt ≤ 0) : tt (fM_reckon o0) (QM_reckon o0) := by
  have H := hM_reckon o0 cfFU
  have hm : (109717 : Int) ≤ (cfFU : Nat) := by decide
  have r_o0 : Fr (fr_M [0] [75] [56]) o0 o0 := fr_rfl
  unfold fM_reckon fM_reckon_0
  refine tt_kv (P := fun z => (1 : Int) ≤ z.toInt ∧ z.toInt ≤ 256) (iv_shl (p := 0) (q := 8) (show (1 : Int) ≤ (1 : Int32).toInt ∧ (1 : Int32).toInt ≤ 1 by decide) (k_o0.1 39) (by decide) (by decide) (by decide) (by decide) (by decide)) (fun x1 i2 => ?_)
  exact H.1 _ _ _ k_o0 r_o0 i2 (iv_w (a := 0) (b := 840) (by decide) (by decide) (show (0 : Int) ≤ (0 : Int32).toInt ∧ (0 : Int32).toInt ≤ 0 by decide)) f_o0_0 f_o0_38 f_o0_95 (show 108034 + (840 - 0) * 2 < ((cfFU : Nat) : Int) by omega)
def QM_agree (v1 : Int32) (v2 : Int32) (v3 : Int32) (o0 : cf_O) (r : (Int32)) : Prop := ((0 : Int) ≤ r.toInt ∧ r.toInt ≤ 1) ∧ True
def HM_agree (yv1 : Int32) (yv2 : Int32) (yv3 : Int32) (yo0 : cf_O) (n : Nat) : Prop := (∀ (v1 : Int32) (v2 : Int32) (v3 : Int32) (v4 : Int32) (v5 : Int32) (v6 : Int32) (o0 : cf_O), (okO I_M o0) → (Fr (fr_M [] [] []) yo0 o0) → ((0 : Int) ≤ v1.toInt ∧ v1.toInt ≤ 208) → ((1 : Int) ≤ v2.toInt ∧ v2.toInt ≤ 208) → ((0 : Int) ≤ v3.toInt ∧ v3.toInt ≤ 1) → ((0 : Int) ≤ v4.toInt ∧ v4.toInt ≤ 1) → ((1 : Int) ≤ v5.toInt ∧ v5.toInt ≤ 256) → ((0 : Int) ≤ v6.toInt ∧ v6.toInt ≤ 4) → ((0 : Int) ≤ (o0.1 0).toInt ∧ (o0.1 0).toInt ≤ 2) → ((1 : Int) ≤ (o0.1 37).toInt ∧ (o0.1 37).toInt ≤ 9) → ((1 : Int) ≤ (o0.1 38).toInt ∧ (o0.1 38).toInt ≤ 1) → ((1 : Int) ≤ (o0.1 43).toInt ∧ (o0.1 43).toInt ≤ 200) → ((0 : Int) ≤ (o0.1 95).toInt ∧ (o0.1 95).toInt ≤ 0) → 0 + (4 - v6.toInt) * 2 < (n : Int) → tt (gM_agree n 0 v1 v2 v3 v4 v5 v6 o0) (QM_agree yv1 yv2 yv3 yo0))
set_option maxHeartbeats 4000000 in
set_option maxRecDepth 100000 in
theorem tM_agree_14 {yv1 : Int32} {yv2 : Int32} {yv3 : Int32} {yo0 : cf_O} {n : Nat} (H : HM_agree yv1 yv2 yv3 yo0 n) (v1 : Int32) (v2 : Int32) (v3 : Int32) (v4 : Int32) (v5 : Int32) (v6 : Int32) (o0 : cf_O) (k_o0 : okO I_M o0) (r_o0 : Fr (fr_M [] [] []) yo0 o0) (i_v1 : (0 : Int) ≤ v1.toInt ∧ v1.toInt ≤ 208) (i_v2 : (1 : Int) ≤ v2.toInt ∧ v2.toInt ≤ 208) (i_v3 : (0 : Int) ≤ v3.toInt ∧ v3.toInt ≤ 1) (i_v4 : (0 : Int) ≤ v4.toInt ∧ v4.toInt ≤ 1) (i_v5 : (1 : Int) ≤ v5.toInt ∧ v5.toInt ≤ 256) (i_v6 : (0 : Int) ≤ v6.toInt ∧ v6.toInt ≤ 4) (f_o0_0 : (0 : Int) ≤ (o0.1 0).toInt ∧ (o0.1 0).toInt ≤ 2) (f_o0_37 : (1 : Int) ≤ (o0.1 37).toInt ∧ (o0.1 37).toInt ≤ 9) (f_o0_38 : (1 : Int) ≤ (o0.1 38).toInt ∧ (o0.1 38).toInt ≤ 1) (f_o0_43 : (1 : Int) ≤ (o0.1 43).toInt ∧ (o0.1 43).toInt ≤ 200) (f_o0_95 : (0 : Int) ≤ (o0.1 95).toInt ∧ (o0.1 95).toInt ≤ 0) (hm : 0 + (4 - v6.toInt) * 2 ≤ (n : Int)) : tt (fM_agree_14 (gM_agree n) v1 v2 v3 v4 v5 v6 o0) (QM_agree yv1 yv2 yv3 yo0) := by
  unfold fM_agree_14
  refine tt_if (fun c1 => ?_) (fun c1 => ?_)
  · have i2 : (4 : Int) ≤ v6.toInt ∧ v6.toInt ≤ 4 := nr_ler c1 (show (4 : Int) ≤ (4 : Int32).toInt ∧ (4 : Int32).toInt ≤ 4 by decide) i_v6 (by decide) (by decide)
    refine tt_w (iv_b i_v4 (by decide) (by decide)) ?_
    exact tt_some ⟨i_v4, trivial⟩
  · have i3 : (0 : Int) ≤ v6.toInt ∧ v6.toInt ≤ 3 := nr_nlel c1 i_v6 (show (4 : Int) ≤ (4 : Int32).toInt ∧ (4 : Int32).toInt ≤ 4 by decide) (by decide) (by decide)
    refine tt_kv (P := fun z => ((1 : Int) ≤ z.toInt ∧ z.toInt ≤ 4) ∧ z.toInt = v6.toInt + 1) ⟨iv_add i3 (show (1 : Int) ≤ (1 : Int32).toInt ∧ (1 : Int32).toInt ≤ 1 by decide) (by decide) (by decide) (by decide) (by decide), iq_add i3 (show (1 : Int) ≤ (1 : Int32).toInt ∧ (1 : Int32).toInt ≤ 1 by decide) (by decide) (by decide)⟩ (fun x4 qi5 => ?_)
    obtain ⟨i5, ei5⟩ := qi5
    refine tt_kv (P := fun z => (64 : Int) ≤ z.toInt ∧ z.toInt ≤ 256) (iv_mul (show (64 : Int) ≤ (64 : Int32).toInt ∧ (64 : Int32).toInt ≤ 64 by decide) i5 (by decide) (by decide) (by decide) (by decide) (by decide)) (fun x6 i7 => ?_)
    refine tt_if (fun c8 => ?_) (fun c8 => ?_)
    · have i9 : (1 : Int) ≤ v5.toInt ∧ v5.toInt ≤ 255 := nr_ltl c8 i_v5 i7 (by decide) (by decide)
      refine tt_kv (P := fun z => (0 : Int) ≤ z.toInt ∧ z.toInt ≤ 192) (iv_mul (show (64 : Int) ≤ (64 : Int32).toInt ∧ (64 : Int32).toInt ≤ 64 by decide) i3 (by decide) (by decide) (by decide) (by decide) (by decide)) (fun x10 i11 => ?_)
      refine tt_if (fun c12 => ?_) (fun c12 => ?_)
      · have i13 : (1 : Int) ≤ v5.toInt ∧ v5.toInt ≤ 192 := nr_lel c12 i9 i11 (by decide) (by decide)
        have i14 : (1 : Int) ≤ x10.toInt ∧ x10.toInt ≤ 192 := nr_ler c12 i9 i11 (by decide) (by decide)
        try unfold fM_agree_64
        refine tt_if (fun c15 => ?_) (fun c15 => ?_)
        · have i16 : (0 : Int) ≤ v4.toInt ∧ v4.toInt ≤ 0 := nr_eql c15 i_v4 (show (0 : Int) ≤ (0 : Int32).toInt ∧ (0 : Int32).toInt ≤ 0 by decide) (by decide) (by decide)
          try unfold fM_agree_112
          try unfold fM_agree_113
          refine tt_kv (P := fun z => ((1 : Int) ≤ z.toInt ∧ z.toInt ≤ 4) ∧ z.toInt = v6.toInt + 1) ⟨iv_add i3 (show (1 : Int) ≤ (1 : Int32).toInt ∧ (1 : Int32).toInt ≤ 1 by decide) (by decide) (by decide) (by decide) (by decide), iq_add i3 (show (1 : Int) ≤ (1 : Int32).toInt ∧ (1 : Int32).toInt ≤ 1 by decide) (by decide) (by decide)⟩ (fun x17 qi18 => ?_)
          obtain ⟨i18, ei18⟩ := qi18
          exact H _ _ _ _ _ _ _ k_o0 r_o0 i_v1 i_v2 i_v3 (iv_w (a := 0) (b := 1) (by decide) (by decide) (show (0 : Int) ≤ (0 : Int32).toInt ∧ (0 : Int32).toInt ≤ 0 by decide)) (iv_w (a := 1) (b := 256) (by decide) (by decide) i13) (iv_w (a := 0) (b := 4) (by decide) (by decide) i18) f_o0_0 f_o0_37 f_o0_38 f_o0_43 f_o0_95 (show 0 + (4 - x17.toInt) * 2 < (n : Int) by omega)
        · have i19 : (1 : Int) ≤ v4.toInt ∧ v4.toInt ≤ 1 := nr_nela c15 i_v4 (show (0 : Int) ≤ (0 : Int32).toInt ∧ (0 : Int32).toInt ≤ 0 by decide) (by decide) (by decide)
          refine tt_kv (P := fun z => (0 : Int) ≤ z.toInt ∧ z.toInt ≤ 832) (iv_mul (show (4 : Int) ≤ (4 : Int32).toInt ∧ (4 : Int32).toInt ≤ 4 by decide) i_v1 (by decide) (by decide) (by decide) (by decide) (by decide)) (fun x20 i21 => ?_)
          refine tt_kv (P := fun z => (0 : Int) ≤ z.toInt ∧ z.toInt ≤ 835) (iv_add i21 i3 (by decide) (by decide) (by decide) (by decide)) (fun x22 i23 => ?_)
          refine tt_n (ix_ok i23 (by decide) (by decide)) ?_
          refine tt_kl (fun x24 => ?_)
          refine tt_kv (P := fun z => (4 : Int) ≤ z.toInt ∧ z.toInt ≤ 832) (iv_mul (show (4 : Int) ≤ (4 : Int32).toInt ∧ (4 : Int32).toInt ≤ 4 by decide) i_v2 (by decide) (by decide) (by decide) (by decide) (by decide)) (fun x25 i26 => ?_)
          refine tt_kv (P := fun z => (4 : Int) ≤ z.toInt ∧ z.toInt ≤ 835) (iv_add i26 i3 (by decide) (by decide) (by decide) (by decide)) (fun x27 i28 => ?_)
          refine tt_n (ix_ok i28 (by decide) (by decide)) ?_
          refine tt_kl (fun x29 => ?_)
          refine tt_kl (fun x30 => ?_)
          refine tt_if (fun c31 => ?_) (fun c31 => ?_)
          · have i32 : (0 : Int) ≤ v3.toInt ∧ v3.toInt ≤ 0 := nr_eql c31 i_v3 (show (0 : Int) ≤ (0 : Int32).toInt ∧ (0 : Int32).toInt ≤ 0 by decide) (by decide) (by decide)
            try unfold fM_agree_104
            refine tt_kv (P := fun z => ((-2147483648) : Int) ≤ z.toInt ∧ z.toInt ≤ 2147483647) (iv_top _) (fun x33 i34 => ?_)
            refine tt_if (fun c35 => ?_) (fun c35 => ?_)
            · have i36 : (0 : Int) ≤ x33.toInt ∧ x33.toInt ≤ 0 := nr_eql c35 i34 (show (0 : Int) ≤ (0 : Int32).toInt ∧ (0 : Int32).toInt ≤ 0 by decide) (by decide) (by decide)
              try unfold fM_agree_113
              refine tt_kv (P := fun z => ((1 : Int) ≤ z.toInt ∧ z.toInt ≤ 4) ∧ z.toInt = v6.toInt + 1) ⟨iv_add i3 (show (1 : Int) ≤ (1 : Int32).toInt ∧ (1 : Int32).toInt ≤ 1 by decide) (by decide) (by decide) (by decide) (by decide), iq_add i3 (show (1 : Int) ≤ (1 : Int32).toInt ∧ (1 : Int32).toInt ≤ 1 by decide) (by decide) (by decide)⟩ (fun x37 qi38 => ?_)
              obtain ⟨i38, ei38⟩ := qi38
              exact H _ _ _ _ _ _ _ k_o0 r_o0 i_v1 i_v2 (iv_w (a := 0) (b := 1) (by decide) (by decide) i32) (iv_w (a := 0) (b := 1) (by decide) (by decide) (show (1 : Int) ≤ (1 : Int32).toInt ∧ (1 : Int32).toInt ≤ 1 by decide)) (iv_w (a := 1) (b := 256) (by decide) (by decide) i13) (iv_w (a := 0) (b := 4) (by decide) (by decide) i38) f_o0_0 f_o0_37 f_o0_38 f_o0_43 f_o0_95 (show 0 + (4 - x37.toInt) * 2 < (n : Int) by omega)
            · try unfold fM_agree_112
              try unfold fM_agree_113
              refine tt_kv (P := fun z => ((1 : Int) ≤ z.toInt ∧ z.toInt ≤ 4) ∧ z.toInt = v6.toInt + 1) ⟨iv_add i3 (show (1 : Int) ≤ (1 : Int32).toInt ∧ (1 : Int32).toInt ≤ 1 by decide) (by decide) (by decide) (by decide) (by decide), iq_add i3 (show (1 : Int) ≤ (1 : Int32).toInt ∧ (1 : Int32).toInt ≤ 1 by decide) (by decide) (by decide)⟩ (fun x39 qi40 => ?_)
              obtain ⟨i40, ei40⟩ := qi40
              exact H _ _ _ _ _ _ _ k_o0 r_o0 i_v1 i_v2 (iv_w (a := 0) (b := 1) (by decide) (by decide) i32) (iv_w (a := 0) (b := 1) (by decide) (by decide) (show (0 : Int) ≤ (0 : Int32).toInt ∧ (0 : Int32).toInt ≤ 0 by decide)) (iv_w (a := 1) (b := 256) (by decide) (by decide) i13) (iv_w (a := 0) (b := 4) (by decide) (by decide) i40) f_o0_0 f_o0_37 f_o0_38 f_o0_43 f_o0_95 (show 0 + (4 - x39.toInt) * 2 < (n : Int) by omega)
          · have i41 : (1 : Int) ≤ v3.toInt ∧ v3.toInt ≤ 1 := nr_nela c31 i_v3 (show (0 : Int) ≤ (0 : Int32).toInt ∧ (0 : Int32).toInt ≤ 0 by decide) (by decide) (by decide)
            try unfold fM_agree_104
            refine tt_kv (P := fun z => ((-2147483648) : Int) ≤ z.toInt ∧ z.toInt ≤ 2147483647) (iv_top _) (fun x42 i43 => ?_)
            refine tt_if (fun c44 => ?_) (fun c44 => ?_)
            · have i45 : (0 : Int) ≤ x42.toInt ∧ x42.toInt ≤ 0 := nr_eql c44 i43 (show (0 : Int) ≤ (0 : Int32).toInt ∧ (0 : Int32).toInt ≤ 0 by decide) (by decide) (by decide)
              try unfold fM_agree_113
              refine tt_kv (P := fun z => ((1 : Int) ≤ z.toInt ∧ z.toInt ≤ 4) ∧ z.toInt = v6.toInt + 1) ⟨iv_add i3 (show (1 : Int) ≤ (1 : Int32).toInt ∧ (1 : Int32).toInt ≤ 1 by decide) (by decide) (by decide) (by decide) (by decide), iq_add i3 (show (1 : Int) ≤ (1 : Int32).toInt ∧ (1 : Int32).toInt ≤ 1 by decide) (by decide) (by decide)⟩ (fun x46 qi47 => ?_)
              obtain ⟨i47, ei47⟩ := qi47
              exact H _ _ _ _ _ _ _ k_o0 r_o0 i_v1 i_v2 (iv_w (a := 0) (b := 1) (by decide) (by decide) i41) (iv_w (a := 0) (b := 1) (by decide) (by decide) (show (1 : Int) ≤ (1 : Int32).toInt ∧ (1 : Int32).toInt ≤ 1 by decide)) (iv_w (a := 1) (b := 256) (by decide) (by decide) i13) (iv_w (a := 0) (b := 4) (by decide) (by decide) i47) f_o0_0 f_o0_37 f_o0_38 f_o0_43 f_o0_95 (show 0 + (4 - x46.toInt) * 2 < (n : Int) by omega)
            · try unfold fM_agree_112
              try unfold fM_agree_113
              refine tt_kv (P := fun z => ((1 : Int) ≤ z.toInt ∧ z.toInt ≤ 4) ∧ z.toInt = v6.toInt + 1) ⟨iv_add i3 (show (1 : Int) ≤ (1 : Int32).toInt ∧ (1 : Int32).toInt ≤ 1 by decide) (by decide) (by decide) (by decide) (by decide), iq_add i3 (show (1 : Int) ≤ (1 : Int32).toInt ∧ (1 : Int32).toInt ≤ 1 by decide) (by decide) (by decide)⟩ (fun x48 qi49 => ?_)
              obtain ⟨i49, ei49⟩ := qi49
              exact H _ _ _ _ _ _ _ k_o0 r_o0 i_v1 i_v2 (iv_w (a := 0) (b := 1) (by decide) (by decide) i41) (iv_w (a := 0) (b := 1) (by decide) (by decide) (show (0 : Int) ≤ (0 : Int32).toInt ∧ (0 : Int32).toInt ≤ 0 by decide)) (iv_w (a := 1) (b := 256) (by decide) (by decide) i13) (iv_w (a := 0) (b := 4) (by decide) (by decide) i49) f_o0_0 f_o0_37 f_o0_38 f_o0_43 f_o0_95 (show 0 + (4 - x48.toInt) * 2 < (n : Int) by omega)
      · refine tt_kv (P := fun z => (0 : Int) ≤ z.toInt ∧ z.toInt ≤ 192) (iv_mul (show (64 : Int) ≤ (64 : Int32).toInt ∧ (64 : Int32).toInt ≤ 64 by decide) i3 (by decide) (by decide) (by decide) (by decide) (by decide)) (fun x50 i51 => ?_)
        refine tt_kv (P := fun z => ((-191) : Int) ≤ z.toInt ∧ z.toInt ≤ 255) (iv_sub i9 i51 (by decide) (by decide) (by decide) (by decide)) (fun x52 i53 => ?_)
        refine tt_kl (fun x54 => ?_)
        refine tt_kl (fun x55 => ?_)
        try unfold fM_agree_64
        refine tt_if (fun c56 => ?_) (fun c56 => ?_)
        · have i57 : (0 : Int) ≤ v4.toInt ∧ v4.toInt ≤ 0 := nr_eql c56 i_v4 (show (0 : Int) ≤ (0 : Int32).toInt ∧ (0 : Int32).toInt ≤ 0 by decide) (by decide) (by decide)
          try unfold fM_agree_112
          try unfold fM_agree_113
          refine tt_kv (P := fun z => ((1 : Int) ≤ z.toInt ∧ z.toInt ≤ 4) ∧ z.toInt = v6.toInt + 1) ⟨iv_add i3 (show (1 : Int) ≤ (1 : Int32).toInt ∧ (1 : Int32).toInt ≤ 1 by decide) (by decide) (by decide) (by decide) (by decide), iq_add i3 (show (1 : Int) ≤ (1 : Int32).toInt ∧ (1 : Int32).toInt ≤ 1 by decide) (by decide) (by decide)⟩ (fun x58 qi59 => ?_)
          obtain ⟨i59, ei59⟩ := qi59
          exact H _ _ _ _ _ _ _ k_o0 r_o0 i_v1 i_v2 i_v3 (iv_w (a := 0) (b := 1) (by decide) (by decide) (show (0 : Int) ≤ (0 : Int32).toInt ∧ (0 : Int32).toInt ≤ 0 by decide)) (iv_w (a := 1) (b := 256) (by decide) (by decide) i9) (iv_w (a := 0) (b := 4) (by decide) (by decide) i59) f_o0_0 f_o0_37 f_o0_38 f_o0_43 f_o0_95 (show 0 + (4 - x58.toInt) * 2 < (n : Int) by omega)
        · have i60 : (1 : Int) ≤ v4.toInt ∧ v4.toInt ≤ 1 := nr_nela c56 i_v4 (show (0 : Int) ≤ (0 : Int32).toInt ∧ (0 : Int32).toInt ≤ 0 by decide) (by decide) (by decide)
          refine tt_kv (P := fun z => (0 : Int) ≤ z.toInt ∧ z.toInt ≤ 832) (iv_mul (show (4 : Int) ≤ (4 : Int32).toInt ∧ (4 : Int32).toInt ≤ 4 by decide) i_v1 (by decide) (by decide) (by decide) (by decide) (by decide)) (fun x61 i62 => ?_)
          refine tt_kv (P := fun z => (0 : Int) ≤ z.toInt ∧ z.toInt ≤ 835) (iv_add i62 i3 (by decide) (by decide) (by decide) (by decide)) (fun x63 i64 => ?_)
          refine tt_n (ix_ok i64 (by decide) (by decide)) ?_
          refine tt_kl (fun x65 => ?_)
          refine tt_kv (P := fun z => (4 : Int) ≤ z.toInt ∧ z.toInt ≤ 832) (iv_mul (show (4 : Int) ≤ (4 : Int32).toInt ∧ (4 : Int32).toInt ≤ 4 by decide) i_v2 (by decide) (by decide) (by decide) (by decide) (by decide)) (fun x66 i67 => ?_)
          refine tt_kv (P := fun z => (4 : Int) ≤ z.toInt ∧ z.toInt ≤ 835) (iv_add i67 i3 (by decide) (by decide) (by decide) (by decide)) (fun x68 i69 => ?_)
          refine tt_n (ix_ok i69 (by decide) (by decide)) ?_
          refine tt_kl (fun x70 => ?_)
          refine tt_kl (fun x71 => ?_)
          refine tt_if (fun c72 => ?_) (fun c72 => ?_)
          · have i73 : (0 : Int) ≤ v3.toInt ∧ v3.toInt ≤ 0 := nr_eql c72 i_v3 (show (0 : Int) ≤ (0 : Int32).toInt ∧ (0 : Int32).toInt ≤ 0 by decide) (by decide) (by decide)
            try unfold fM_agree_104
            refine tt_kv (P := fun z => ((-2147483648) : Int) ≤ z.toInt ∧ z.toInt ≤ 2147483647) (iv_top _) (fun x74 i75 => ?_)
            refine tt_if (fun c76 => ?_) (fun c76 => ?_)
            · have i77 : (0 : Int) ≤ x74.toInt ∧ x74.toInt ≤ 0 := nr_eql c76 i75 (show (0 : Int) ≤ (0 : Int32).toInt ∧ (0 : Int32).toInt ≤ 0 by decide) (by decide) (by decide)
              try unfold fM_agree_113
              refine tt_kv (P := fun z => ((1 : Int) ≤ z.toInt ∧ z.toInt ≤ 4) ∧ z.toInt = v6.toInt + 1) ⟨iv_add i3 (show (1 : Int) ≤ (1 : Int32).toInt ∧ (1 : Int32).toInt ≤ 1 by decide) (by decide) (by decide) (by decide) (by decide), iq_add i3 (show (1 : Int) ≤ (1 : Int32).toInt ∧ (1 : Int32).toInt ≤ 1 by decide) (by decide) (by decide)⟩ (fun x78 qi79 => ?_)
              obtain ⟨i79, ei79⟩ := qi79
              exact H _ _ _ _ _ _ _ k_o0 r_o0 i_v1 i_v2 (iv_w (a := 0) (b := 1) (by decide) (by decide) i73) (iv_w (a := 0) (b := 1) (by decide) (by decide) (show (1 : Int) ≤ (1 : Int32).toInt ∧ (1 : Int32).toInt ≤ 1 by decide)) (iv_w (a := 1) (b := 256) (by decide) (by decide) i9) (iv_w (a := 0) (b := 4) (by decide) (by decide) i79) f_o0_0 f_o0_37 f_o0_38 f_o0_43 f_o0_95 (show 0 + (4 - x78.toInt) * 2 < (n : Int) by omega)
            · try unfold fM_agree_112
              try unfold fM_agree_113
              refine tt_kv (P := fun z => ((1 : Int) ≤ z.toInt ∧ z.toInt ≤ 4) ∧ z.toInt = v6.toInt + 1) ⟨iv_add i3 (show (1 : Int) ≤ (1 : Int32).toInt ∧ (1 : Int32).toInt ≤ 1 by decide) (by decide) (by decide) (by decide) (by decide), iq_add i3 (show (1 : Int) ≤ (1 : Int32).toInt ∧ (1 : Int32).toInt ≤ 1 by decide) (by decide) (by decide)⟩ (fun x80 qi81 => ?_)
              obtain ⟨i81, ei81⟩ := qi81
              exact H _ _ _ _ _ _ _ k_o0 r_o0 i_v1 i_v2 (iv_w (a := 0) (b := 1) (by decide) (by decide) i73) (iv_w (a := 0) (b := 1) (by decide) (by decide) (show (0 : Int) ≤ (0 : Int32).toInt ∧ (0 : Int32).toInt ≤ 0 by decide)) (iv_w (a := 1) (b := 256) (by decide) (by decide) i9) (iv_w (a := 0) (b := 4) (by decide) (by decide) i81) f_o0_0 f_o0_37 f_o0_38 f_o0_43 f_o0_95 (show 0 + (4 - x80.toInt) * 2 < (n : Int) by omega)
          · have i82 : (1 : Int) ≤ v3.toInt ∧ v3.toInt ≤ 1 := nr_nela c72 i_v3 (show (0 : Int) ≤ (0 : Int32).toInt ∧ (0 : Int32).toInt ≤ 0 by decide) (by decide) (by decide)
            try unfold fM_agree_104
            refine tt_kv (P := fun z => ((-2147483648) : Int) ≤ z.toInt ∧ z.toInt ≤ 2147483647) (iv_top _) (fun x83 i84 => ?_)
            refine tt_if (fun c85 => ?_) (fun c85 => ?_)
            · have i86 : (0 : Int) ≤ x83.toInt ∧ x83.toInt ≤ 0 := nr_eql c85 i84 (show (0 : Int) ≤ (0 : Int32).toInt ∧ (0 : Int32).toInt ≤ 0 by decide) (by decide) (by decide)
              try unfold fM_agree_113
              refine tt_kv (P := fun z => ((1 : Int) ≤ z.toInt ∧ z.toInt ≤ 4) ∧ z.toInt = v6.toInt + 1) ⟨iv_add i3 (show (1 : Int) ≤ (1 : Int32).toInt ∧ (1 : Int32).toInt ≤ 1 by decide) (by decide) (by decide) (by decide) (by decide), iq_add i3 (show (1 : Int) ≤ (1 : Int32).toInt ∧ (1 : Int32).toInt ≤ 1 by decide) (by decide) (by decide)⟩ (fun x87 qi88 => ?_)
              obtain ⟨i88, ei88⟩ := qi88
              exact H _ _ _ _ _ _ _ k_o0 r_o0 i_v1 i_v2 (iv_w (a := 0) (b := 1) (by decide) (by decide) i82) (iv_w (a := 0) (b := 1) (by decide) (by decide) (show (1 : Int) ≤ (1 : Int32).toInt ∧ (1 : Int32).toInt ≤ 1 by decide)) (iv_w (a := 1) (b := 256) (by decide) (by decide) i9) (iv_w (a := 0) (b := 4) (by decide) (by decide) i88) f_o0_0 f_o0_37 f_o0_38 f_o0_43 f_o0_95 (show 0 + (4 - x87.toInt) * 2 < (n : Int) by omega)
            · try unfold fM_agree_112
              try unfold fM_agree_113
              refine tt_kv (P := fun z => ((1 : Int) ≤ z.toInt ∧ z.toInt ≤ 4) ∧ z.toInt = v6.toInt + 1) ⟨iv_add i3 (show (1 : Int) ≤ (1 : Int32).toInt ∧ (1 : Int32).toInt ≤ 1 by decide) (by decide) (by decide) (by decide) (by decide), iq_add i3 (show (1 : Int) ≤ (1 : Int32).toInt ∧ (1 : Int32).toInt ≤ 1 by decide) (by decide) (by decide)⟩ (fun x89 qi90 => ?_)
              obtain ⟨i90, ei90⟩ := qi90
              exact H _ _ _ _ _ _ _ k_o0 r_o0 i_v1 i_v2 (iv_w (a := 0) (b := 1) (by decide) (by decide) i82) (iv_w (a := 0) (b := 1) (by decide) (by decide) (show (0 : Int) ≤ (0 : Int32).toInt ∧ (0 : Int32).toInt ≤ 0 by decide)) (iv_w (a := 1) (b := 256) (by decide) (by decide) i9) (iv_w (a := 0) (b := 4) (by decide) (by decide) i90) f_o0_0 f_o0_37 f_o0_38 f_o0_43 f_o0_95 (show 0 + (4 - x89.toInt) * 2 < (n : Int) by omega)
    · have i91 : (64 : Int) ≤ v5.toInt ∧ v5.toInt ≤ 256 := nr_nltr c8 i7 i_v5 (by decide) (by decide)
      try unfold fM_agree_64
      refine tt_if (fun c92 => ?_) (fun c92 => ?_)
      · have i93 : (0 : Int) ≤ v4.toInt ∧ v4.toInt ≤ 0 := nr_eql c92 i_v4 (show (0 : Int) ≤ (0 : Int32).toInt ∧ (0 : Int32).toInt ≤ 0 by decide) (by decide) (by decide)
        try unfold fM_agree_112
        try unfold fM_agree_113
        refine tt_kv (P := fun z => ((1 : Int) ≤ z.toInt ∧ z.toInt ≤ 4) ∧ z.toInt = v6.toInt + 1) ⟨iv_add i3 (show (1 : Int) ≤ (1 : Int32).toInt ∧ (1 : Int32).toInt ≤ 1 by decide) (by decide) (by decide) (by decide) (by decide), iq_add i3 (show (1 : Int) ≤ (1 : Int32).toInt ∧ (1 : Int32).toInt ≤ 1 by decide) (by decide) (by decide)⟩ (fun x94 qi95 => ?_)
        obtain ⟨i95, ei95⟩ := qi95
        exact H _ _ _ _ _ _ _ k_o0 r_o0 i_v1 i_v2 i_v3 (iv_w (a := 0) (b := 1) (by decide) (by decide) (show (0 : Int) ≤ (0 : Int32).toInt ∧ (0 : Int32).toInt ≤ 0 by decide)) (iv_w (a := 1) (b := 256) (by decide) (by decide) i91) (iv_w (a := 0) (b := 4) (by decide) (by decide) i95) f_o0_0 f_o0_37 f_o0_38 f_o0_43 f_o0_95 (show 0 + (4 - x94.toInt) * 2 < (n : Int) by omega)
      · have i96 : (1 : Int) ≤ v4.toInt ∧ v4.toInt ≤ 1 := nr_nela c92 i_v4 (show (0 : Int) ≤ (0 : Int32).toInt ∧ (0 : Int32).toInt ≤ 0 by decide) (by decide) (by decide)
        refine tt_kv (P := fun z => (0 : Int) ≤ z.toInt ∧ z.toInt ≤ 832) (iv_mul (show (4 : Int) ≤ (4 : Int32).toInt ∧ (4 : Int32).toInt ≤ 4 by decide) i_v1 (by decide) (by decide) (by decide) (by decide) (by decide)) (fun x97 i98 => ?_)
        refine tt_kv (P := fun z => (0 : Int) ≤ z.toInt ∧ z.toInt ≤ 835) (iv_add i98 i3 (by decide) (by decide) (by decide) (by decide)) (fun x99 i100 => ?_)
        refine tt_n (ix_ok i100 (by decide) (by decide)) ?_
        refine tt_kl (fun x101 => ?_)
        refine tt_kv (P := fun z => (4 : Int) ≤ z.toInt ∧ z.toInt ≤ 832) (iv_mul (show (4 : Int) ≤ (4 : Int32).toInt ∧ (4 : Int32).toInt ≤ 4 by decide) i_v2 (by decide) (by decide) (by decide) (by decide) (by decide)) (fun x102 i103 => ?_)
        refine tt_kv (P := fun z => (4 : Int) ≤ z.toInt ∧ z.toInt ≤ 835) (iv_add i103 i3 (by decide) (by decide) (by decide) (by decide)) (fun x104 i105 => ?_)
        refine tt_n (ix_ok i105 (by decide) (by decide)) ?_
        refine tt_kl (fun x106 => ?_)
        refine tt_kl (fun x107 => ?_)
        refine tt_if (fun c108 => ?_) (fun c108 => ?_)
        · have i109 : (0 : Int) ≤ v3.toInt ∧ v3.toInt ≤ 0 := nr_eql c108 i_v3 (show (0 : Int) ≤ (0 : Int32).toInt ∧ (0 : Int32).toInt ≤ 0 by decide) (by decide) (by decide)
          try unfold fM_agree_104
          refine tt_kv (P := fun z => ((-2147483648) : Int) ≤ z.toInt ∧ z.toInt ≤ 2147483647) (iv_top _) (fun x110 i111 => ?_)
          refine tt_if (fun c112 => ?_) (fun c112 => ?_)
          · have i113 : (0 : Int) ≤ x110.toInt ∧ x110.toInt ≤ 0 := nr_eql c112 i111 (show (0 : Int) ≤ (0 : Int32).toInt ∧ (0 : Int32).toInt ≤ 0 by decide) (by decide) (by decide)
            try unfold fM_agree_113
            refine tt_kv (P := fun z => ((1 : Int) ≤ z.toInt ∧ z.toInt ≤ 4) ∧ z.toInt = v6.toInt + 1) ⟨iv_add i3 (show (1 : Int) ≤ (1 : Int32).toInt ∧ (1 : Int32).toInt ≤ 1 by decide) (by decide) (by decide) (by decide) (by decide), iq_add i3 (show (1 : Int) ≤ (1 : Int32).toInt ∧ (1 : Int32).toInt ≤ 1 by decide) (by decide) (by decide)⟩ (fun x114 qi115 => ?_)
            obtain ⟨i115, ei115⟩ := qi115
            exact H _ _ _ _ _ _ _ k_o0 r_o0 i_v1 i_v2 (iv_w (a := 0) (b := 1) (by decide) (by decide) i109) (iv_w (a := 0) (b := 1) (by decide) (by decide) (show (1 : Int) ≤ (1 : Int32).toInt ∧ (1 : Int32).toInt ≤ 1 by decide)) (iv_w (a := 1) (b := 256) (by decide) (by decide) i91) (iv_w (a := 0) (b := 4) (by decide) (by decide) i115) f_o0_0 f_o0_37 f_o0_38 f_o0_43 f_o0_95 (show 0 + (4 - x114.toInt) * 2 < (n : Int) by omega)
          · try unfold fM_agree_112
            try unfold fM_agree_113
            refine tt_kv (P := fun z => ((1 : Int) ≤ z.toInt ∧ z.toInt ≤ 4) ∧ z.toInt = v6.toInt + 1) ⟨iv_add i3 (show (1 : Int) ≤ (1 : Int32).toInt ∧ (1 : Int32).toInt ≤ 1 by decide) (by decide) (by decide) (by decide) (by decide), iq_add i3 (show (1 : Int) ≤ (1 : Int32).toInt ∧ (1 : Int32).toInt ≤ 1 by decide) (by decide) (by decide)⟩ (fun x116 qi117 => ?_)
            obtain ⟨i117, ei117⟩ := qi117
            exact H _ _ _ _ _ _ _ k_o0 r_o0 i_v1 i_v2 (iv_w (a := 0) (b := 1) (by decide) (by decide) i109) (iv_w (a := 0) (b := 1) (by decide) (by decide) (show (0 : Int) ≤ (0 : Int32).toInt ∧ (0 : Int32).toInt ≤ 0 by decide)) (iv_w (a := 1) (b := 256) (by decide) (by decide) i91) (iv_w (a := 0) (b := 4) (by decide) (by decide) i117) f_o0_0 f_o0_37 f_o0_38 f_o0_43 f_o0_95 (show 0 + (4 - x116.toInt) * 2 < (n : Int) by omega)
        · have i118 : (1 : Int) ≤ v3.toInt ∧ v3.toInt ≤ 1 := nr_nela c108 i_v3 (show (0 : Int) ≤ (0 : Int32).toInt ∧ (0 : Int32).toInt ≤ 0 by decide) (by decide) (by decide)
          try unfold fM_agree_104
          refine tt_kv (P := fun z => ((-2147483648) : Int) ≤ z.toInt ∧ z.toInt ≤ 2147483647) (iv_top _) (fun x119 i120 => ?_)
          refine tt_if (fun c121 => ?_) (fun c121 => ?_)
          · have i122 : (0 : Int) ≤ x119.toInt ∧ x119.toInt ≤ 0 := nr_eql c121 i120 (show (0 : Int) ≤ (0 : Int32).toInt ∧ (0 : Int32).toInt ≤ 0 by decide) (by decide) (by decide)
            try unfold fM_agree_113
            refine tt_kv (P := fun z => ((1 : Int) ≤ z.toInt ∧ z.toInt ≤ 4) ∧ z.toInt = v6.toInt + 1) ⟨iv_add i3 (show (1 : Int) ≤ (1 : Int32).toInt ∧ (1 : Int32).toInt ≤ 1 by decide) (by decide) (by decide) (by decide) (by decide), iq_add i3 (show (1 : Int) ≤ (1 : Int32).toInt ∧ (1 : Int32).toInt ≤ 1 by decide) (by decide) (by decide)⟩ (fun x123 qi124 => ?_)
            obtain ⟨i124, ei124⟩ := qi124
            exact H _ _ _ _ _ _ _ k_o0 r_o0 i_v1 i_v2 (iv_w (a := 0) (b := 1) (by decide) (by decide) i118) (iv_w (a := 0) (b := 1) (by decide) (by decide) (show (1 : Int) ≤ (1 : Int32).toInt ∧ (1 : Int32).toInt ≤ 1 by decide)) (iv_w (a := 1) (b := 256) (by decide) (by decide) i91) (iv_w (a := 0) (b := 4) (by decide) (by decide) i124) f_o0_0 f_o0_37 f_o0_38 f_o0_43 f_o0_95 (show 0 + (4 - x123.toInt) * 2 < (n : Int) by omega)
          · try unfold fM_agree_112
            try unfold fM_agree_113
            refine tt_kv (P := fun z => ((1 : Int) ≤ z.toInt ∧ z.toInt ≤ 4) ∧ z.toInt = v6.toInt + 1) ⟨iv_add i3 (show (1 : Int) ≤ (1 : Int32).toInt ∧ (1 : Int32).toInt ≤ 1 by decide) (by decide) (by decide) (by decide) (by decide), iq_add i3 (show (1 : Int) ≤ (1 : Int32).toInt ∧ (1 : Int32).toInt ≤ 1 by decide) (by decide) (by decide)⟩ (fun x125 qi126 => ?_)
            obtain ⟨i126, ei126⟩ := qi126
            exact H _ _ _ _ _ _ _ k_o0 r_o0 i_v1 i_v2 (iv_w (a := 0) (b := 1) (by decide) (by decide) i118) (iv_w (a := 0) (b := 1) (by decide) (by decide) (show (0 : Int) ≤ (0 : Int32).toInt ∧ (0 : Int32).toInt ≤ 0 by decide)) (iv_w (a := 1) (b := 256) (by decide) (by decide) i91) (iv_w (a := 0) (b := 4) (by decide) (by decide) i126) f_o0_0 f_o0_37 f_o0_38 f_o0_43 f_o0_95 (show 0 + (4 - x125.toInt) * 2 < (n : Int) by omega)
set_option maxHeartbeats 4000000 in
set_option maxRecDepth 100000 in
theorem hM_agree (yv1 : Int32) (yv2 : Int32) (yv3 : Int32) (yo0 : cf_O) : ∀ n, HM_agree yv1 yv2 yv3 yo0 n := by
  intro n
  induction n with
  | zero => exact (fun v1 v2 v3 v4 v5 v6 o0 k_o0 r_o0 i_v1 i_v2 i_v3 i_v4 i_v5 i_v6 f_o0_0 f_o0_37 f_o0_38 f_o0_43 f_o0_95 hm => by exact absurd (show 0 + (4 - v6.toInt) * 2 < (0 : Int) from hm) (by omega))
  | succ n ih => exact (fun v1 v2 v3 v4 v5 v6 o0 k_o0 r_o0 i_v1 i_v2 i_v3 i_v4 i_v5 i_v6 f_o0_0 f_o0_37 f_o0_38 f_o0_43 f_o0_95 hm => tM_agree_14 ih v1 v2 v3 v4 v5 v6 o0 k_o0 r_o0 i_v1 i_v2 i_v3 i_v4 i_v5 i_v6 f_o0_0 f_o0_37 f_o0_38 f_o0_43 f_o0_95 (by omega))
set_option maxHeartbeats 4000000 in
set_option maxRecDepth 100000 in
theorem sM_agree (v1 : Int32) (v2 : Int32) (v3 : Int32) (o0 : cf_O) (k_o0 : okO I_M o0) (i_v1 : (0 : Int) ≤ v1.toInt ∧ v1.toInt ≤ 208) (i_v2 : (1 : Int) ≤ v2.toInt ∧ v2.toInt ≤ 208) (i_v3 : (0 : Int) ≤ v3.toInt ∧ v3.toInt ≤ 1) (f_o0_0 : (0 : Int) ≤ (o0.1 0).toInt ∧ (o0.1 0).toInt ≤ 2) (f_o0_37 : (1 : Int) ≤ (o0.1 37).toInt ∧ (o0.1 37).toInt ≤ 9) (f_o0_38 : (1 : Int) ≤ (o0.1 38).toInt ∧ (o0.1 38).toInt ≤ 1) (f_o0_43 : (1 : Int) ≤ (o0.1 43).toInt ∧ (o0.1 43).toInt ≤ 200) (f_o0_95 : (0 : Int) ≤ (o0.1 95).toInt ∧ (o0.1 95).toInt ≤ 0) : tt (fM_agree v1 v2 v3 o0) (QM_agree v1 v2 v3 o0) := by
  have H := hM_agree v1 v2 v3 o0 cfFU
  have hm : (11 : Int) ≤ (cfFU : Nat) := by decide
  have r_o0 : Fr (fr_M [] [] []) o0 o0 := fr_rfl
  unfold fM_agree fM_agree_0
  refine tt_kv (P := fun z => (1 : Int) ≤ z.toInt ∧ z.toInt ≤ 256) (iv_shl (p := 0) (q := 8) (show (1 : Int) ≤ (1 : Int32).toInt ∧ (1 : Int32).toInt ≤ 1 by decide) (k_o0.1 39) (by decide) (by decide) (by decide) (by decide) (by decide)) (fun x1 i2 => ?_)
  exact H _ _ _ _ _ _ _ k_o0 r_o0 i_v1 i_v2 i_v3 (iv_w (a := 0) (b := 1) (by decide) (by decide) (show (1 : Int) ≤ (1 : Int32).toInt ∧ (1 : Int32).toInt ≤ 1 by decide)) i2 (iv_w (a := 0) (b := 4) (by decide) (by decide) (show (0 : Int) ≤ (0 : Int32).toInt ∧ (0 : Int32).toInt ≤ 0 by decide)) f_o0_0 f_o0_37 f_o0_38 f_o0_43 f_o0_95 (show 0 + (4 - 0) * 2 < ((cfFU : Nat) : Int) by omega)
def QM_reduce (o0 : cf_O) (r : (Int32 × cf_O)) : Prop := ((0 : Int) ≤ r.1.toInt ∧ r.1.toInt ≤ 200) ∧ (okO I_M r.2) ∧ (Fr (fr_M [0, 31, 36, 37, 43, 64, 85] [32, 33, 34, 35, 44, 45, 46, 47, 48, 49, 50, 51, 75] [56]) o0 r.2) ∧ ((0 : Int) ≤ (r.2.1 0).toInt ∧ (r.2.1 0).toInt ≤ 2) ∧ (Ch (r.2.1 64) (r.2.1 73) (r.2.1 39) (r.2.1 43) (r.2.2.1 74)) ∧ (Lmd (r.2.1 64).toInt (r.2.1 65).toInt) ∧ (Gx ((r.2.1 39).toInt + 1) (r.2.1 43).toInt (r.2.2.1 44) (r.2.2.1 45)) ∧ (No (r.2.1 40).toInt ((r.2.1 39).toInt + 1 + (r.2.1 43).toInt) (r.2.2.1 47)) ∧ (Hc (r.2.1 64).toInt ((r.2.1 39).toInt + 1) (r.2.1 43).toInt (r.2.1 65).toInt (r.2.2.1 44) (r.2.2.1 45)) ∧ True
def HM_reduce (yo0 : cf_O) (n : Nat) : Prop := (∀ (v1 : Int32) (o0 : cf_O), (okO I_M o0) → (Fr (fr_M [0, 31, 36, 37, 43, 64, 85] [32, 33, 34, 35, 44, 45, 46, 47, 48, 49, 50, 51, 75] [56]) yo0 o0) → ((0 : Int) ≤ v1.toInt ∧ v1.toInt ≤ 200) → ((0 : Int) ≤ (o0.1 0).toInt ∧ (o0.1 0).toInt ≤ 2) → ((1 : Int) ≤ (o0.1 37).toInt ∧ (o0.1 37).toInt ≤ 9) → ((1 : Int) ≤ (o0.1 38).toInt ∧ (o0.1 38).toInt ≤ 1) → ((0 : Int) ≤ (o0.1 95).toInt ∧ (o0.1 95).toInt ≤ 0) → (Ch (o0.1 64) (o0.1 73) (o0.1 39) (o0.1 43) (o0.2.1 74)) → (Lmd (o0.1 64).toInt (o0.1 65).toInt) → (Gx ((o0.1 39).toInt + 1) (o0.1 43).toInt (o0.2.1 44) (o0.2.1 45)) → (No (o0.1 40).toInt ((o0.1 39).toInt + 1 + (o0.1 43).toInt) (o0.2.1 47)) → (Gx (o0.1 37).toInt (o0.1 31).toInt (o0.2.1 32) (o0.2.1 33)) → (Lk (-1) ((o0.1 39).toInt + 1) (o0.1 43).toInt (o0.1 40).toInt (o0.2.1 47) (o0.2.1 44) (o0.2.1 45) (o0.2.1 49) (o0.2.1 48)) → (Rn ((o0.1 39).toInt + 1 + v1.toInt) ((o0.1 39).toInt + 1) ((o0.1 37).toInt + (o0.1 31).toInt) (o0.2.1 49) (o0.2.1 51)) → ((o0.1 37).toInt = (o0.1 39).toInt + 1) → (v1.toInt ≤ (o0.1 43).toInt) → (Hc (o0.1 64).toInt ((o0.1 39).toInt + 1) (o0.1 43).toInt (o0.1 65).toInt (o0.2.1 44) (o0.2.1 45)) → 0 + (200 - v1.toInt) * 420 < (n : Int) → tt (gM_reduce n 0 v1 0 0 0 o0) (QM_reduce yo0)) ∧ (∀ (v1 : Int32) (v2 : Int32) (v3 : Int32) (v4 : Int32) (o0 : cf_O), (okO I_M o0) → (Fr (fr_M [0, 31, 36, 37, 43, 64, 85] [32, 33, 34, 35, 44, 45, 46, 47, 48, 49, 50, 51, 75] [56]) yo0 o0) → ((0 : Int) ≤ v1.toInt ∧ v1.toInt ≤ 199) → ((1 : Int) ≤ v2.toInt ∧ v2.toInt ≤ 208) → (((-1) : Int) ≤ v3.toInt ∧ v3.toInt ≤ 208) → (((-1) : Int) ≤ v4.toInt ∧ v4.toInt ≤ 207) → ((0 : Int) ≤ (o0.1 0).toInt ∧ (o0.1 0).toInt ≤ 2) → ((1 : Int) ≤ (o0.1 37).toInt ∧ (o0.1 37).toInt ≤ 9) → ((1 : Int) ≤ (o0.1 38).toInt ∧ (o0.1 38).toInt ≤ 1) → ((1 : Int) ≤ (o0.1 43).toInt ∧ (o0.1 43).toInt ≤ 200) → ((0 : Int) ≤ (o0.1 95).toInt ∧ (o0.1 95).toInt ≤ 0) → (Ch (o0.1 64) (o0.1 73) (o0.1 39) (o0.1 43) (o0.2.1 74)) → (Lmd (o0.1 64).toInt (o0.1 65).toInt) → (Gx ((o0.1 39).toInt + 1) (o0.1 43).toInt (o0.2.1 44) (o0.2.1 45)) → (No (o0.1 40).toInt ((o0.1 39).toInt + 1 + (o0.1 43).toInt) (o0.2.1 47)) → (Gx (o0.1 37).toInt (o0.1 31).toInt (o0.2.1 32) (o0.2.1 33)) → (Lk (-1) ((o0.1 39).toInt + 1) (o0.1 43).toInt (o0.1 40).toInt (o0.2.1 47) (o0.2.1 44) (o0.2.1 45) (o0.2.1 49) (o0.2.1 48)) → (Rn ((o0.1 39).toInt + 1 + v1.toInt) ((o0.1 39).toInt + 1) ((o0.1 37).toInt + (o0.1 31).toInt) (o0.2.1 49) (o0.2.1 51)) → ((o0.1 37).toInt = (o0.1 39).toInt + 1) → (Lr v3.toInt v2.toInt (o0.1 39).toInt (o0.2.1 49)) → (v2.toInt = (o0.1 39).toInt + 1 + v1.toInt) → (v4.toInt < v2.toInt) → (v1.toInt < (o0.1 43).toInt) → (Hc (o0.1 64).toInt ((o0.1 39).toInt + 1) (o0.1 43).toInt (o0.1 65).toInt (o0.2.1 44) (o0.2.1 45)) → 0 + (200 - v1.toInt - 1) * 420 + 1 + (v4.toInt - (-1)) * 2 < (n : Int) → tt (gM_reduce n 1 v1 v2 v3 v4 o0) (QM_reduce yo0))
set_option maxHeartbeats 4000000 in
set_option maxRecDepth 100000 in
theorem tM_reduce_67 {yo0 : cf_O} {n : Nat} (H : HM_reduce yo0 n) (v1 : Int32) (v2 : Int32) (v3 : Int32) (v4 : Int32) (o0 : cf_O) (k_o0 : okO I_M o0) (r_o0 : Fr (fr_M [0, 31, 36, 37, 43, 64, 85] [32, 33, 34, 35, 44, 45, 46, 47, 48, 49, 50, 51, 75] [56]) yo0 o0) (i_v1 : (0 : Int) ≤ v1.toInt ∧ v1.toInt ≤ 199) (i_v2 : (1 : Int) ≤ v2.toInt ∧ v2.toInt ≤ 208) (i_v3 : ((-1) : Int) ≤ v3.toInt ∧ v3.toInt ≤ 208) (i_v4 : ((-1) : Int) ≤ v4.toInt ∧ v4.toInt ≤ 207) (f_o0_0 : (0 : Int) ≤ (o0.1 0).toInt ∧ (o0.1 0).toInt ≤ 2) (f_o0_37 : (1 : Int) ≤ (o0.1 37).toInt ∧ (o0.1 37).toInt ≤ 9) (f_o0_38 : (1 : Int) ≤ (o0.1 38).toInt ∧ (o0.1 38).toInt ≤ 1) (f_o0_43 : (1 : Int) ≤ (o0.1 43).toInt ∧ (o0.1 43).toInt ≤ 200) (f_o0_95 : (0 : Int) ≤ (o0.1 95).toInt ∧ (o0.1 95).toInt ≤ 0) (x_0 : Ch (o0.1 64) (o0.1 73) (o0.1 39) (o0.1 43) (o0.2.1 74)) (x_1 : Lmd (o0.1 64).toInt (o0.1 65).toInt) (x_2 : Gx ((o0.1 39).toInt + 1) (o0.1 43).toInt (o0.2.1 44) (o0.2.1 45)) (x_3 : No (o0.1 40).toInt ((o0.1 39).toInt + 1 + (o0.1 43).toInt) (o0.2.1 47)) (x_4 : Gx (o0.1 37).toInt (o0.1 31).toInt (o0.2.1 32) (o0.2.1 33)) (x_5 : Lk (-1) ((o0.1 39).toInt + 1) (o0.1 43).toInt (o0.1 40).toInt (o0.2.1 47) (o0.2.1 44) (o0.2.1 45) (o0.2.1 49) (o0.2.1 48)) (x_6 : Rn ((o0.1 39).toInt + 1 + v1.toInt) ((o0.1 39).toInt + 1) ((o0.1 37).toInt + (o0.1 31).toInt) (o0.2.1 49) (o0.2.1 51)) (x_7 : (o0.1 37).toInt = (o0.1 39).toInt + 1) (x_8 : Lr v3.toInt v2.toInt (o0.1 39).toInt (o0.2.1 49)) (x_9 : v2.toInt = (o0.1 39).toInt + 1 + v1.toInt) (x_10 : v4.toInt < v2.toInt) (x_11 : v1.toInt < (o0.1 43).toInt) (x_12 : Hc (o0.1 64).toInt ((o0.1 39).toInt + 1) (o0.1 43).toInt (o0.1 65).toInt (o0.2.1 44) (o0.2.1 45)) (hm : 0 + (200 - v1.toInt - 1) * 420 + 1 + (v4.toInt - (-1)) * 2 ≤ (n : Int)) : tt (fM_reduce_67 (gM_reduce n) v1 v2 v3 v4 o0) (QM_reduce yo0) := by
  unfold fM_reduce_67
  have g_o0_31 : (0 : Int) ≤ (o0.1 31).toInt ∧ (o0.1 31).toInt ≤ 200 := k_o0.1 31
  have ey_o0_38 : (o0.1 38).toInt = (yo0.1 38).toInt := congrArg Int32.toInt (r_o0.1 38 rfl)
  have g_o0_39 : (0 : Int) ≤ (o0.1 39).toInt ∧ (o0.1 39).toInt ≤ 8 := k_o0.1 39
  have ey_o0_39 : (o0.1 39).toInt = (yo0.1 39).toInt := congrArg Int32.toInt (r_o0.1 39 rfl)
  have g_o0_40 : (0 : Int) ≤ (o0.1 40).toInt ∧ (o0.1 40).toInt ≤ 6 := k_o0.1 40
  have ey_o0_40 : (o0.1 40).toInt = (yo0.1 40).toInt := congrArg Int32.toInt (r_o0.1 40 rfl)
  have g_o0_64 : (0 : Int) ≤ (o0.1 64).toInt ∧ (o0.1 64).toInt ≤ 1 := k_o0.1 64
  have g_o0_65 : (0 : Int) ≤ (o0.1 65).toInt ∧ (o0.1 65).toInt ≤ 5 := k_o0.1 65
  have ey_o0_65 : (o0.1 65).toInt = (yo0.1 65).toInt := congrArg Int32.toInt (r_o0.1 65 rfl)
  refine tt_if (fun c1 => ?_) (fun c1 => ?_)
  · have wc1 : v4.toInt < (0 : Int) := c_lt c1
    have i2 : ((-1) : Int) ≤ v4.toInt ∧ v4.toInt ≤ (-1) := nr_ltl c1 i_v4 (show (0 : Int) ≤ (0 : Int32).toInt ∧ (0 : Int32).toInt ≤ 0 by decide) (by decide) (by decide)
    try unfold fM_reduce_147
    refine tt_if (fun c3 => ?_) (fun c3 => ?_)
    · have wc3 : v3.toInt < (0 : Int) := c_lt c3
      have i4 : ((-1) : Int) ≤ v3.toInt ∧ v3.toInt ≤ (-1) := nr_ltl c3 i_v3 (show (0 : Int) ≤ (0 : Int32).toInt ∧ (0 : Int32).toInt ≤ 0 by decide) (by decide) (by decide)
      refine tt_n (ix_ok i_v2 (by decide) (by decide)) ?_
      refine tt_kv (P := fun z => ((0 : Int) ≤ z.toInt ∧ z.toInt ≤ 1) ∧ z = (o0.2.1 49 v2.toNatClampNeg) ∧ z.toInt = (o0.2.1 49 v2.toNatClampNeg).toInt) ⟨(k_o0.2 49 _), rfl, rfl⟩ (fun x5 qi6 => ?_)
      obtain ⟨i6, ax5, ei6⟩ := qi6
      refine tt_if (fun c7 => ?_) (fun c7 => ?_)
      · have wc7 : x5.toInt = (0 : Int) := c_eq c7
        have i8 : (0 : Int) ≤ x5.toInt ∧ x5.toInt ≤ 0 := nr_eql c7 i6 (show (0 : Int) ≤ (0 : Int32).toInt ∧ (0 : Int32).toInt ≤ 0 by decide) (by decide) (by decide)
        try unfold fM_reduce_245
        refine tt_kv (P := fun z => ((1 : Int) ≤ z.toInt ∧ z.toInt ≤ 200) ∧ z = (v1 + 1) ∧ z.toInt = v1.toInt + 1) ⟨iv_add i_v1 (show (1 : Int) ≤ (1 : Int32).toInt ∧ (1 : Int32).toInt ≤ 1 by decide) (by decide) (by decide) (by decide) (by decide), rfl, iq_add i_v1 (show (1 : Int) ≤ (1 : Int32).toInt ∧ (1 : Int32).toInt ≤ 1 by decide) (by decide) (by decide)⟩ (fun x9 qi10 => ?_)
        obtain ⟨i10, ax9, ei10⟩ := qi10
        have p11 : Rn ((o0.1 39).toInt + 1 + x9.toInt) ((o0.1 39).toInt + 1) ((o0.1 37).toInt + (o0.1 31).toInt) (o0.2.1 49) (o0.2.1 51) := by first | exact Rn_k (by assumption) (by omega) (by rw [tn_n]; omega) (by omega) (show (o0.2.1 49 v2.toNatClampNeg).toInt = 0 by omega) | exact Rn_s (by assumption) (by omega) (by rw [tn_n]; omega) (by omega) | (have e49 := (show Fr (fr_M [31, 36] [32, 33, 34] []) _ _ by assumption).2.1 49 rfl; have e51 := (show Fr (fr_M [31, 36] [32, 33, 34] []) _ _ by assumption).2.1 51 rfl; have e39 := (show Fr (fr_M [31, 36] [32, 33, 34] []) _ _ by assumption).1 39 rfl; rw [e49, e39]; refine Rn_s (L := (o0.1 39).toInt + 1 + v1.toInt) (by rw [e51]; exact Rn_w x_6 (by omega)) (by omega) (by rw [tn_n]; omega) (by omega))
        exact H.1 _ _ k_o0 r_o0 (iv_w (a := 0) (b := 200) (by decide) (by decide) i10) f_o0_0 f_o0_37 f_o0_38 f_o0_95 x_0 x_1 x_2 x_3 x_4 x_5 p11 (show (o0.1 37).toInt = (o0.1 39).toInt + 1 by omega) (show x9.toInt ≤ (o0.1 43).toInt by omega) x_12 (show 0 + (200 - x9.toInt) * 420 < (n : Int) by omega)
      · have wc7 : ¬ x5.toInt = (0 : Int) := c_ne c7
        have i12 : (1 : Int) ≤ x5.toInt ∧ x5.toInt ≤ 1 := nr_nela c7 i6 (show (0 : Int) ≤ (0 : Int32).toInt ∧ (0 : Int32).toInt ≤ 0 by decide) (by decide) (by decide)
        refine tt_n (ix_ok i_v1 (by decide) (by decide)) ?_
        refine tt_kv (P := fun z => ((0 : Int) ≤ z.toInt ∧ z.toInt ≤ 417) ∧ z = (o0.2.1 44 v1.toNatClampNeg) ∧ z.toInt = (o0.2.1 44 v1.toNatClampNeg).toInt) ⟨(k_o0.2 44 _), rfl, rfl⟩ (fun x13 qi14 => ?_)
        obtain ⟨i14, ax13, ei14⟩ := qi14
        refine tt_kv (P := fun z => ((0 : Int) ≤ z.toInt ∧ z.toInt ≤ 208) ∧ z = (x13 / 2) ∧ z.toInt = x13.toInt / 2) ⟨iv_div (k := 2) i14 (show (2 : Int) ≤ (2 : Int32).toInt ∧ (2 : Int32).toInt ≤ 2 by decide) (by decide) (by decide) (by decide) (by decide), rfl, i_dv (Int.le_trans (by decide) i14.1) (by decide)⟩ (fun x15 qi16 => ?_)
        obtain ⟨i16, ax15, ei16⟩ := qi16
        refine tt_n (ix_ok i16 (by decide) (by decide)) ?_
        refine tt_kv (P := fun z => ((0 : Int) ≤ z.toInt ∧ z.toInt ≤ 417) ∧ z = (o0.2.1 51 x15.toNatClampNeg) ∧ z.toInt = (o0.2.1 51 x15.toNatClampNeg).toInt) ⟨(k_o0.2 51 _), rfl, rfl⟩ (fun x17 qi18 => ?_)
        obtain ⟨i18, ax17, ei18⟩ := qi18
        have t19 := Rn_kid x_6 x_5 x_2 v1.toNatClampNeg v2.toNatClampNeg (x15.toNatClampNeg) ei18 (by rw [tn_n]; omega) (by rw [tn_n]; omega) (by rw [tn_n, tn_n]; omega) (by omega) (by rw [tn_n]; omega) (by rw [tn_n]; omega)
        refine tt_n (ix_ok i_v1 (by decide) (by decide)) ?_
        refine tt_kv (P := fun z => x13 = z ∧ True) ⟨ax13, trivial⟩ (fun x20 hx20 => ?_)
        obtain ⟨rfl, -⟩ := hx20
        refine tt_kv (P := fun z => ((0 : Int) ≤ z.toInt ∧ z.toInt ≤ 1) ∧ z = (x13 &&& 1)) ⟨iv_and (show (1 : Int) ≤ (1 : Int32).toInt ∧ (1 : Int32).toInt ≤ 1 by decide) (by decide) (by decide) (by decide), rfl⟩ (fun x21 qi22 => ?_)
        obtain ⟨i22, ax21⟩ := qi22
        refine tt_kv (P := fun z => ((0 : Int) ≤ z.toInt ∧ z.toInt ≤ 417) ∧ z = (x17 ^^^ x21) ∧ z.toInt = x17.toInt - x17.toInt % 2 + (x17.toInt + x21.toInt) % 2) ⟨iv_x1 i18 i22 (by decide) (by decide) (by decide) (by decide) (by decide), rfl, i_xb (Int.le_trans (by decide) i18.1) (Int.le_trans (by decide) i22.1) (Int.le_trans i22.2 (by decide))⟩ (fun x23 qi24 => ?_)
        obtain ⟨i24, ax23, ei24⟩ := qi24
        refine tt_n (ix_ok i_v1 (by decide) (by decide)) ?_
        refine tt_kv (P := fun z => ((0 : Int) ≤ z.toInt ∧ z.toInt ≤ 417) ∧ z = (o0.2.1 45 v1.toNatClampNeg) ∧ z.toInt = (o0.2.1 45 v1.toNatClampNeg).toInt) ⟨(k_o0.2 45 _), rfl, rfl⟩ (fun x25 qi26 => ?_)
        obtain ⟨i26, ax25, ei26⟩ := qi26
        refine tt_kv (P := fun z => ((0 : Int) ≤ z.toInt ∧ z.toInt ≤ 208) ∧ z = (x25 / 2) ∧ z.toInt = x25.toInt / 2) ⟨iv_div (k := 2) i26 (show (2 : Int) ≤ (2 : Int32).toInt ∧ (2 : Int32).toInt ≤ 2 by decide) (by decide) (by decide) (by decide) (by decide), rfl, i_dv (Int.le_trans (by decide) i26.1) (by decide)⟩ (fun x27 qi28 => ?_)
        obtain ⟨i28, ax27, ei28⟩ := qi28
        refine tt_n (ix_ok i28 (by decide) (by decide)) ?_
        refine tt_kv (P := fun z => ((0 : Int) ≤ z.toInt ∧ z.toInt ≤ 417) ∧ z = (o0.2.1 51 x27.toNatClampNeg) ∧ z.toInt = (o0.2.1 51 x27.toNatClampNeg).toInt) ⟨(k_o0.2 51 _), rfl, rfl⟩ (fun x29 qi30 => ?_)
        obtain ⟨i30, ax29, ei30⟩ := qi30
        have t31 := Rn_kid x_6 x_5 x_2 v1.toNatClampNeg v2.toNatClampNeg (x27.toNatClampNeg) ei30 (by rw [tn_n]; omega) (by rw [tn_n]; omega) (by rw [tn_n, tn_n]; omega) (by omega) (by rw [tn_n]; omega) (by rw [tn_n]; omega)
        refine tt_n (ix_ok i_v1 (by decide) (by decide)) ?_
        refine tt_kv (P := fun z => x25 = z ∧ True) ⟨ax25, trivial⟩ (fun x32 hx32 => ?_)
        obtain ⟨rfl, -⟩ := hx32
        refine tt_kv (P := fun z => ((0 : Int) ≤ z.toInt ∧ z.toInt ≤ 1) ∧ z = (x25 &&& 1)) ⟨iv_and (show (1 : Int) ≤ (1 : Int32).toInt ∧ (1 : Int32).toInt ≤ 1 by decide) (by decide) (by decide) (by decide), rfl⟩ (fun x33 qi34 => ?_)
        obtain ⟨i34, ax33⟩ := qi34
        refine tt_kv (P := fun z => ((0 : Int) ≤ z.toInt ∧ z.toInt ≤ 417) ∧ z = (x29 ^^^ x33) ∧ z.toInt = x29.toInt - x29.toInt % 2 + (x29.toInt + x33.toInt) % 2) ⟨iv_x1 i30 i34 (by decide) (by decide) (by decide) (by decide) (by decide), rfl, i_xb (Int.le_trans (by decide) i30.1) (Int.le_trans (by decide) i34.1) (Int.le_trans i34.2 (by decide))⟩ (fun x35 qi36 => ?_)
        obtain ⟨i36, ax35, ei36⟩ := qi36
        refine tt_b (sM_and _ _ _ k_o0 i24 i36 f_o0_0 f_o0_37 f_o0_95 x_4 (show x23.toInt < 2 * ((o0.1 37).toInt + (o0.1 31).toInt) by omega) (show x35.toInt < 2 * ((o0.1 37).toInt + (o0.1 31).toInt) by omega)) (fun q37 hq37 => ?_)
        obtain ⟨i_q37, k_q37_2, n_q37_2, zq37_0, zq37_1, zq37_2, -⟩ := hq37
        have r_q37_2 := fr_tr r_o0 n_q37_2 rfl rfl rfl
        have f_q37_2_0 : (0 : Int) ≤ (q37.2.1 0).toInt ∧ (q37.2.1 0).toInt ≤ 2 := by rw [n_q37_2.1 0 rfl]; exact f_o0_0
        have f_q37_2_37 : (1 : Int) ≤ (q37.2.1 37).toInt ∧ (q37.2.1 37).toInt ≤ 9 := by rw [n_q37_2.1 37 rfl]; exact f_o0_37
        have f_q37_2_38 : (1 : Int) ≤ (q37.2.1 38).toInt ∧ (q37.2.1 38).toInt ≤ 1 := by rw [n_q37_2.1 38 rfl]; exact f_o0_38
        have f_q37_2_43 : (1 : Int) ≤ (q37.2.1 43).toInt ∧ (q37.2.1 43).toInt ≤ 200 := by rw [n_q37_2.1 43 rfl]; exact f_o0_43
        have f_q37_2_95 : (0 : Int) ≤ (q37.2.1 95).toInt ∧ (q37.2.1 95).toInt ≤ 0 := by rw [n_q37_2.1 95 rfl]; exact f_o0_95
        have g_q37_2_31 : (0 : Int) ≤ (q37.2.1 31).toInt ∧ (q37.2.1 31).toInt ≤ 200 := k_q37_2.1 31
        have e_q37_2_37 : (q37.2.1 37).toInt = (o0.1 37).toInt := congrArg Int32.toInt (n_q37_2.1 37 rfl)
        have e_q37_2_38 : (q37.2.1 38).toInt = (o0.1 38).toInt := congrArg Int32.toInt (n_q37_2.1 38 rfl)
        have e_q37_2_39 : (q37.2.1 39).toInt = (o0.1 39).toInt := congrArg Int32.toInt (n_q37_2.1 39 rfl)
        have g_q37_2_39 : (0 : Int) ≤ (q37.2.1 39).toInt ∧ (q37.2.1 39).toInt ≤ 8 := k_q37_2.1 39
        have e_q37_2_40 : (q37.2.1 40).toInt = (o0.1 40).toInt := congrArg Int32.toInt (n_q37_2.1 40 rfl)
        have g_q37_2_40 : (0 : Int) ≤ (q37.2.1 40).toInt ∧ (q37.2.1 40).toInt ≤ 6 := k_q37_2.1 40
        have e_q37_2_43 : (q37.2.1 43).toInt = (o0.1 43).toInt := congrArg Int32.toInt (n_q37_2.1 43 rfl)
        have e_q37_2_64 : (q37.2.1 64).toInt = (o0.1 64).toInt := congrArg Int32.toInt (n_q37_2.1 64 rfl)
        have g_q37_2_64 : (0 : Int) ≤ (q37.2.1 64).toInt ∧ (q37.2.1 64).toInt ≤ 1 := k_q37_2.1 64
        have e_q37_2_65 : (q37.2.1 65).toInt = (o0.1 65).toInt := congrArg Int32.toInt (n_q37_2.1 65 rfl)
        have g_q37_2_65 : (0 : Int) ≤ (q37.2.1 65).toInt ∧ (q37.2.1 65).toInt ≤ 5 := k_q37_2.1 65
        have zq37_1 : q37.1.toInt < 2 * ((q37.2.1 37).toInt + (q37.2.1 31).toInt) := zq37_1
        have zq37_2 : (o0.1 31).toInt ≤ (q37.2.1 31).toInt := zq37_2
        have u38 : Ch (q37.2.1 64) (q37.2.1 73) (q37.2.1 39) (q37.2.1 43) (q37.2.2.1 74) := by rw [n_q37_2.1 39 rfl, n_q37_2.1 43 rfl, n_q37_2.1 64 rfl, n_q37_2.1 73 rfl, n_q37_2.2.1 74 rfl]; exact x_0
        have u39 : Lmd (q37.2.1 64).toInt (q37.2.1 65).toInt := by rw [n_q37_2.1 64 rfl, n_q37_2.1 65 rfl]; exact x_1
        have u40 : Gx ((q37.2.1 39).toInt + 1) (q37.2.1 43).toInt (q37.2.2.1 44) (q37.2.2.1 45) := by rw [n_q37_2.1 39 rfl, n_q37_2.1 43 rfl, n_q37_2.2.1 44 rfl, n_q37_2.2.1 45 rfl]; exact x_2
        have u41 : No (q37.2.1 40).toInt ((q37.2.1 39).toInt + 1 + (q37.2.1 43).toInt) (q37.2.2.1 47) := by rw [n_q37_2.1 39 rfl, n_q37_2.1 40 rfl, n_q37_2.1 43 rfl, n_q37_2.2.1 47 rfl]; exact x_3
        have u42 : Lk (-1) ((q37.2.1 39).toInt + 1) (q37.2.1 43).toInt (q37.2.1 40).toInt (q37.2.2.1 47) (q37.2.2.1 44) (q37.2.2.1 45) (q37.2.2.1 49) (q37.2.2.1 48) := by rw [n_q37_2.1 39 rfl, n_q37_2.1 40 rfl, n_q37_2.1 43 rfl, n_q37_2.2.1 44 rfl, n_q37_2.2.1 45 rfl, n_q37_2.2.1 47 rfl, n_q37_2.2.1 48 rfl, n_q37_2.2.1 49 rfl]; exact x_5
        have u43 : Lr v3.toInt v2.toInt (q37.2.1 39).toInt (q37.2.2.1 49) := by rw [n_q37_2.1 39 rfl, n_q37_2.2.1 49 rfl]; exact x_8
        have u44 : Hc (q37.2.1 64).toInt ((q37.2.1 39).toInt + 1) (q37.2.1 43).toInt (q37.2.1 65).toInt (q37.2.2.1 44) (q37.2.2.1 45) := by rw [n_q37_2.1 39 rfl, n_q37_2.1 43 rfl, n_q37_2.1 64 rfl, n_q37_2.1 65 rfl, n_q37_2.2.1 44 rfl, n_q37_2.2.1 45 rfl]; exact x_12
        refine tt_n (ix_ok i_v2 (by decide) (by decide)) ?_
        refine tt_ko ?_
        have k45 := ok_xp (k := 51) (i := v2.toNatClampNeg) (v := q37.1) k_q37_2 i_q37
        have r46 := fr_xp (k := 51) (i := v2.toNatClampNeg) (v := q37.1) r_q37_2 rfl
        try unfold fM_reduce_245
        refine tt_kv (P := fun z => ((1 : Int) ≤ z.toInt ∧ z.toInt ≤ 200) ∧ z = (v1 + 1) ∧ z.toInt = v1.toInt + 1) ⟨iv_add i_v1 (show (1 : Int) ≤ (1 : Int32).toInt ∧ (1 : Int32).toInt ≤ 1 by decide) (by decide) (by decide) (by decide) (by decide), rfl, iq_add i_v1 (show (1 : Int) ≤ (1 : Int32).toInt ∧ (1 : Int32).toInt ≤ 1 by decide) (by decide) (by decide)⟩ (fun x47 qi48 => ?_)
        obtain ⟨i48, ax47, ei48⟩ := qi48
        have p49 : Rn ((q37.2.1 39).toInt + 1 + x47.toInt) ((q37.2.1 39).toInt + 1) ((q37.2.1 37).toInt + (q37.2.1 31).toInt) (q37.2.2.1 49) (upd (q37.2.2.1 51) (v2.toNatClampNeg) q37.1) := by first | exact Rn_k (by assumption) (by omega) (by rw [tn_n]; omega) (by omega) (show (o0.2.1 49 v2.toNatClampNeg).toInt = 0 by omega) | exact Rn_s (by assumption) (by omega) (by rw [tn_n]; omega) (by omega) | (have e49 := (show Fr (fr_M [31, 36] [32, 33, 34] []) _ _ by assumption).2.1 49 rfl; have e51 := (show Fr (fr_M [31, 36] [32, 33, 34] []) _ _ by assumption).2.1 51 rfl; have e39 := (show Fr (fr_M [31, 36] [32, 33, 34] []) _ _ by assumption).1 39 rfl; rw [e49, e39]; refine Rn_s (L := (o0.1 39).toInt + 1 + v1.toInt) (by rw [e51]; exact Rn_w x_6 (by omega)) (by omega) (by rw [tn_n]; omega) (by omega))
        exact H.1 _ _ k45 r46 (iv_w (a := 0) (b := 200) (by decide) (by decide) i48) f_q37_2_0 f_q37_2_37 f_q37_2_38 f_q37_2_95 u38 u39 u40 u41 zq37_0 u42 p49 (show (q37.2.1 37).toInt = (q37.2.1 39).toInt + 1 by omega) (show x47.toInt ≤ (q37.2.1 43).toInt by omega) u44 (show 0 + (200 - x47.toInt) * 420 < (n : Int) by omega)
    · have wc3 : (0 : Int) ≤ v3.toInt := c_nlt c3
      have i50 : (0 : Int) ≤ v3.toInt ∧ v3.toInt ≤ 208 := nr_nltr c3 (show (0 : Int) ≤ (0 : Int32).toInt ∧ (0 : Int32).toInt ≤ 0 by decide) i_v3 (by decide) (by decide)
      refine tt_n (ix_ok i50 (by decide) (by decide)) ?_
      refine tt_kv (P := fun z => ((0 : Int) ≤ z.toInt ∧ z.toInt ≤ 417) ∧ z = (o0.2.1 51 v3.toNatClampNeg) ∧ z.toInt = (o0.2.1 51 v3.toNatClampNeg).toInt) ⟨(k_o0.2 51 _), rfl, rfl⟩ (fun x51 qi52 => ?_)
      obtain ⟨i52, ax51, ei52⟩ := qi52
      have t53 := Rn_like (L := v2.toInt) (by rw [show v2.toInt = (o0.1 39).toInt + 1 + v1.toInt by omega]; exact x_6) x_8 ei52 (by omega) (by omega)
      refine tt_b (sM_agree _ _ _ _ k_o0 i50 i_v2 (iv_w (a := 0) (b := 1) (by decide) (by decide) (show (1 : Int) ≤ (1 : Int32).toInt ∧ (1 : Int32).toInt ≤ 1 by decide)) f_o0_0 f_o0_37 f_o0_38 f_o0_43 f_o0_95) (fun q54 hq54 => ?_)
      obtain ⟨i_q54, -⟩ := hq54
      refine tt_if (fun c55 => ?_) (fun c55 => ?_)
      · have wc55 : q54.toInt = (0 : Int) := c_eq c55
        have i56 : (0 : Int) ≤ q54.toInt ∧ q54.toInt ≤ 0 := nr_eql c55 i_q54 (show (0 : Int) ≤ (0 : Int32).toInt ∧ (0 : Int32).toInt ≤ 0 by decide) (by decide) (by decide)
        try unfold fM_reduce_177
        refine tt_kv (P := fun z => ((0 : Int) ≤ z.toInt ∧ z.toInt ≤ 417) ∧ z = (x51 ^^^ 0) ∧ z.toInt = x51.toInt - x51.toInt % 2 + (x51.toInt + 0) % 2) ⟨iv_x1 i52 (show (0 : Int) ≤ (0 : Int32).toInt ∧ (0 : Int32).toInt ≤ 0 by decide) (by decide) (by decide) (by decide) (by decide) (by decide), rfl, i_xb (Int.le_trans (by decide) i52.1) (Int.le_trans (by decide) (show (0 : Int) ≤ (0 : Int32).toInt ∧ (0 : Int32).toInt ≤ 0 by decide).1) (Int.le_trans (show (0 : Int) ≤ (0 : Int32).toInt ∧ (0 : Int32).toInt ≤ 0 by decide).2 (by decide))⟩ (fun x57 qi58 => ?_)
        obtain ⟨i58, ax57, ei58⟩ := qi58
        refine tt_n (ix_ok i_v2 (by decide) (by decide)) ?_
        refine tt_ko ?_
        have k59 := ok_xp (k := 51) (i := v2.toNatClampNeg) (v := x57) k_o0 i58
        have r60 := fr_xp (k := 51) (i := v2.toNatClampNeg) (v := x57) r_o0 rfl
        try unfold fM_reduce_245
        refine tt_kv (P := fun z => ((1 : Int) ≤ z.toInt ∧ z.toInt ≤ 200) ∧ z = (v1 + 1) ∧ z.toInt = v1.toInt + 1) ⟨iv_add i_v1 (show (1 : Int) ≤ (1 : Int32).toInt ∧ (1 : Int32).toInt ≤ 1 by decide) (by decide) (by decide) (by decide) (by decide), rfl, iq_add i_v1 (show (1 : Int) ≤ (1 : Int32).toInt ∧ (1 : Int32).toInt ≤ 1 by decide) (by decide) (by decide)⟩ (fun x61 qi62 => ?_)
        obtain ⟨i62, ax61, ei62⟩ := qi62
        have p63 : Rn ((o0.1 39).toInt + 1 + x61.toInt) ((o0.1 39).toInt + 1) ((o0.1 37).toInt + (o0.1 31).toInt) (o0.2.1 49) (upd (o0.2.1 51) (v2.toNatClampNeg) x57) := by first | exact Rn_k (by assumption) (by omega) (by rw [tn_n]; omega) (by omega) (show (o0.2.1 49 v2.toNatClampNeg).toInt = 0 by omega) | exact Rn_s (by assumption) (by omega) (by rw [tn_n]; omega) (by omega) | (have e49 := (show Fr (fr_M [31, 36] [32, 33, 34] []) _ _ by assumption).2.1 49 rfl; have e51 := (show Fr (fr_M [31, 36] [32, 33, 34] []) _ _ by assumption).2.1 51 rfl; have e39 := (show Fr (fr_M [31, 36] [32, 33, 34] []) _ _ by assumption).1 39 rfl; rw [e49, e39]; refine Rn_s (L := (o0.1 39).toInt + 1 + v1.toInt) (by rw [e51]; exact Rn_w x_6 (by omega)) (by omega) (by rw [tn_n]; omega) (by omega))
        exact H.1 _ _ k59 r60 (iv_w (a := 0) (b := 200) (by decide) (by decide) i62) f_o0_0 f_o0_37 f_o0_38 f_o0_95 x_0 x_1 x_2 x_3 x_4 x_5 p63 (show (o0.1 37).toInt = (o0.1 39).toInt + 1 by omega) (show x61.toInt ≤ (o0.1 43).toInt by omega) x_12 (show 0 + (200 - x61.toInt) * 420 < (n : Int) by omega)
      · have wc55 : ¬ q54.toInt = (0 : Int) := c_ne c55
        have i64 : (1 : Int) ≤ q54.toInt ∧ q54.toInt ≤ 1 := nr_nela c55 i_q54 (show (0 : Int) ≤ (0 : Int32).toInt ∧ (0 : Int32).toInt ≤ 0 by decide) (by decide) (by decide)
        try unfold fM_reduce_177
        refine tt_kv (P := fun z => ((0 : Int) ≤ z.toInt ∧ z.toInt ≤ 417) ∧ z = (x51 ^^^ 1) ∧ z.toInt = x51.toInt + 1 - 2 * (x51.toInt % 2)) ⟨iv_x1 i52 (show (1 : Int) ≤ (1 : Int32).toInt ∧ (1 : Int32).toInt ≤ 1 by decide) (by decide) (by decide) (by decide) (by decide) (by decide), rfl, i_x1 (Int.le_trans (by decide) i52.1)⟩ (fun x65 qi66 => ?_)
        obtain ⟨i66, ax65, ei66⟩ := qi66
        refine tt_n (ix_ok i_v2 (by decide) (by decide)) ?_
        refine tt_ko ?_
        have k67 := ok_xp (k := 51) (i := v2.toNatClampNeg) (v := x65) k_o0 i66
        have r68 := fr_xp (k := 51) (i := v2.toNatClampNeg) (v := x65) r_o0 rfl
        try unfold fM_reduce_245
        refine tt_kv (P := fun z => ((1 : Int) ≤ z.toInt ∧ z.toInt ≤ 200) ∧ z = (v1 + 1) ∧ z.toInt = v1.toInt + 1) ⟨iv_add i_v1 (show (1 : Int) ≤ (1 : Int32).toInt ∧ (1 : Int32).toInt ≤ 1 by decide) (by decide) (by decide) (by decide) (by decide), rfl, iq_add i_v1 (show (1 : Int) ≤ (1 : Int32).toInt ∧ (1 : Int32).toInt ≤ 1 by decide) (by decide) (by decide)⟩ (fun x69 qi70 => ?_)
        obtain ⟨i70, ax69, ei70⟩ := qi70
        have p71 : Rn ((o0.1 39).toInt + 1 + x69.toInt) ((o0.1 39).toInt + 1) ((o0.1 37).toInt + (o0.1 31).toInt) (o0.2.1 49) (upd (o0.2.1 51) (v2.toNatClampNeg) x65) := by first | exact Rn_k (by assumption) (by omega) (by rw [tn_n]; omega) (by omega) (show (o0.2.1 49 v2.toNatClampNeg).toInt = 0 by omega) | exact Rn_s (by assumption) (by omega) (by rw [tn_n]; omega) (by omega) | (have e49 := (show Fr (fr_M [31, 36] [32, 33, 34] []) _ _ by assumption).2.1 49 rfl; have e51 := (show Fr (fr_M [31, 36] [32, 33, 34] []) _ _ by assumption).2.1 51 rfl; have e39 := (show Fr (fr_M [31, 36] [32, 33, 34] []) _ _ by assumption).1 39 rfl; rw [e49, e39]; refine Rn_s (L := (o0.1 39).toInt + 1 + v1.toInt) (by rw [e51]; exact Rn_w x_6 (by omega)) (by omega) (by rw [tn_n]; omega) (by omega))
        exact H.1 _ _ k67 r68 (iv_w (a := 0) (b := 200) (by decide) (by decide) i70) f_o0_0 f_o0_37 f_o0_38 f_o0_95 x_0 x_1 x_2 x_3 x_4 x_5 p71 (show (o0.1 37).toInt = (o0.1 39).toInt + 1 by omega) (show x69.toInt ≤ (o0.1 43).toInt by omega) x_12 (show 0 + (200 - x69.toInt) * 420 < (n : Int) by omega)
  · have wc1 : (0 : Int) ≤ v4.toInt := c_nlt c1
    have i72 : (0 : Int) ≤ v4.toInt ∧ v4.toInt ≤ 207 := nr_nltr c1 (show (0 : Int) ≤ (0 : Int32).toInt ∧ (0 : Int32).toInt ≤ 0 by decide) i_v4 (by decide) (by decide)
    refine tt_n (ix_ok i_v2 (by decide) (by decide)) ?_
    refine tt_kv (P := fun z => ((0 : Int) ≤ z.toInt ∧ z.toInt ≤ 1) ∧ z = (o0.2.1 49 v2.toNatClampNeg) ∧ z.toInt = (o0.2.1 49 v2.toNatClampNeg).toInt) ⟨(k_o0.2 49 _), rfl, rfl⟩ (fun x73 qi74 => ?_)
    obtain ⟨i74, ax73, ei74⟩ := qi74
    refine tt_if (fun c75 => ?_) (fun c75 => ?_)
    · have wc75 : x73.toInt = (0 : Int) := c_eq c75
      have i76 : (0 : Int) ≤ x73.toInt ∧ x73.toInt ≤ 0 := nr_eql c75 i74 (show (0 : Int) ≤ (0 : Int32).toInt ∧ (0 : Int32).toInt ≤ 0 by decide) (by decide) (by decide)
      try unfold fM_reduce_147
      refine tt_if (fun c77 => ?_) (fun c77 => ?_)
      · have wc77 : v3.toInt < (0 : Int) := c_lt c77
        have i78 : ((-1) : Int) ≤ v3.toInt ∧ v3.toInt ≤ (-1) := nr_ltl c77 i_v3 (show (0 : Int) ≤ (0 : Int32).toInt ∧ (0 : Int32).toInt ≤ 0 by decide) (by decide) (by decide)
        refine tt_n (ix_ok i_v2 (by decide) (by decide)) ?_
        refine tt_kv (P := fun z => x73 = z ∧ True) ⟨ax73, trivial⟩ (fun x79 hx79 => ?_)
        obtain ⟨rfl, -⟩ := hx79
        refine tt_if (fun c80 => ?_) (fun c80 => ?_)
        · have wc80 : x73.toInt = (0 : Int) := c_eq c80
          try unfold fM_reduce_245
          refine tt_kv (P := fun z => ((1 : Int) ≤ z.toInt ∧ z.toInt ≤ 200) ∧ z = (v1 + 1) ∧ z.toInt = v1.toInt + 1) ⟨iv_add i_v1 (show (1 : Int) ≤ (1 : Int32).toInt ∧ (1 : Int32).toInt ≤ 1 by decide) (by decide) (by decide) (by decide) (by decide), rfl, iq_add i_v1 (show (1 : Int) ≤ (1 : Int32).toInt ∧ (1 : Int32).toInt ≤ 1 by decide) (by decide) (by decide)⟩ (fun x81 qi82 => ?_)
          obtain ⟨i82, ax81, ei82⟩ := qi82
          have p83 : Rn ((o0.1 39).toInt + 1 + x81.toInt) ((o0.1 39).toInt + 1) ((o0.1 37).toInt + (o0.1 31).toInt) (o0.2.1 49) (o0.2.1 51) := by first | exact Rn_k (by assumption) (by omega) (by rw [tn_n]; omega) (by omega) (show (o0.2.1 49 v2.toNatClampNeg).toInt = 0 by omega) | exact Rn_s (by assumption) (by omega) (by rw [tn_n]; omega) (by omega) | (have e49 := (show Fr (fr_M [31, 36] [32, 33, 34] []) _ _ by assumption).2.1 49 rfl; have e51 := (show Fr (fr_M [31, 36] [32, 33, 34] []) _ _ by assumption).2.1 51 rfl; have e39 := (show Fr (fr_M [31, 36] [32, 33, 34] []) _ _ by assumption).1 39 rfl; rw [e49, e39]; refine Rn_s (L := (o0.1 39).toInt + 1 + v1.toInt) (by rw [e51]; exact Rn_w x_6 (by omega)) (by omega) (by rw [tn_n]; omega) (by omega))
          exact H.1 _ _ k_o0 r_o0 (iv_w (a := 0) (b := 200) (by decide) (by decide) i82) f_o0_0 f_o0_37 f_o0_38 f_o0_95 x_0 x_1 x_2 x_3 x_4 x_5 p83 (show (o0.1 37).toInt = (o0.1 39).toInt + 1 by omega) (show x81.toInt ≤ (o0.1 43).toInt by omega) x_12 (show 0 + (200 - x81.toInt) * 420 < (n : Int) by omega)
        · have wc80 : ¬ x73.toInt = (0 : Int) := c_ne c80
          exact (dd_ne c80 i76 (show (0 : Int) ≤ (0 : Int32).toInt ∧ (0 : Int32).toInt ≤ 0 by decide)).elim
      · have wc77 : (0 : Int) ≤ v3.toInt := c_nlt c77
        have i84 : (0 : Int) ≤ v3.toInt ∧ v3.toInt ≤ 208 := nr_nltr c77 (show (0 : Int) ≤ (0 : Int32).toInt ∧ (0 : Int32).toInt ≤ 0 by decide) i_v3 (by decide) (by decide)
        refine tt_n (ix_ok i84 (by decide) (by decide)) ?_
        refine tt_kv (P := fun z => ((0 : Int) ≤ z.toInt ∧ z.toInt ≤ 417) ∧ z = (o0.2.1 51 v3.toNatClampNeg) ∧ z.toInt = (o0.2.1 51 v3.toNatClampNeg).toInt) ⟨(k_o0.2 51 _), rfl, rfl⟩ (fun x85 qi86 => ?_)
        obtain ⟨i86, ax85, ei86⟩ := qi86
        have t87 := Rn_like (L := v2.toInt) (by rw [show v2.toInt = (o0.1 39).toInt + 1 + v1.toInt by omega]; exact x_6) x_8 ei86 (by omega) (by omega)
        refine tt_b (sM_agree _ _ _ _ k_o0 i84 i_v2 (iv_w (a := 0) (b := 1) (by decide) (by decide) (show (1 : Int) ≤ (1 : Int32).toInt ∧ (1 : Int32).toInt ≤ 1 by decide)) f_o0_0 f_o0_37 f_o0_38 f_o0_43 f_o0_95) (fun q88 hq88 => ?_)
        obtain ⟨i_q88, -⟩ := hq88
        refine tt_if (fun c89 => ?_) (fun c89 => ?_)
        · have wc89 : q88.toInt = (0 : Int) := c_eq c89
          have i90 : (0 : Int) ≤ q88.toInt ∧ q88.toInt ≤ 0 := nr_eql c89 i_q88 (show (0 : Int) ≤ (0 : Int32).toInt ∧ (0 : Int32).toInt ≤ 0 by decide) (by decide) (by decide)
          try unfold fM_reduce_177
          refine tt_kv (P := fun z => ((0 : Int) ≤ z.toInt ∧ z.toInt ≤ 417) ∧ z = (x85 ^^^ 0) ∧ z.toInt = x85.toInt - x85.toInt % 2 + (x85.toInt + 0) % 2) ⟨iv_x1 i86 (show (0 : Int) ≤ (0 : Int32).toInt ∧ (0 : Int32).toInt ≤ 0 by decide) (by decide) (by decide) (by decide) (by decide) (by decide), rfl, i_xb (Int.le_trans (by decide) i86.1) (Int.le_trans (by decide) (show (0 : Int) ≤ (0 : Int32).toInt ∧ (0 : Int32).toInt ≤ 0 by decide).1) (Int.le_trans (show (0 : Int) ≤ (0 : Int32).toInt ∧ (0 : Int32).toInt ≤ 0 by decide).2 (by decide))⟩ (fun x91 qi92 => ?_)
          obtain ⟨i92, ax91, ei92⟩ := qi92
          refine tt_n (ix_ok i_v2 (by decide) (by decide)) ?_
          refine tt_ko ?_
          have k93 := ok_xp (k := 51) (i := v2.toNatClampNeg) (v := x91) k_o0 i92
          have r94 := fr_xp (k := 51) (i := v2.toNatClampNeg) (v := x91) r_o0 rfl
          try unfold fM_reduce_245
          refine tt_kv (P := fun z => ((1 : Int) ≤ z.toInt ∧ z.toInt ≤ 200) ∧ z = (v1 + 1) ∧ z.toInt = v1.toInt + 1) ⟨iv_add i_v1 (show (1 : Int) ≤ (1 : Int32).toInt ∧ (1 : Int32).toInt ≤ 1 by decide) (by decide) (by decide) (by decide) (by decide), rfl, iq_add i_v1 (show (1 : Int) ≤ (1 : Int32).toInt ∧ (1 : Int32).toInt ≤ 1 by decide) (by decide) (by decide)⟩ (fun x95 qi96 => ?_)
          obtain ⟨i96, ax95, ei96⟩ := qi96
          have p97 : Rn ((o0.1 39).toInt + 1 + x95.toInt) ((o0.1 39).toInt + 1) ((o0.1 37).toInt + (o0.1 31).toInt) (o0.2.1 49) (upd (o0.2.1 51) (v2.toNatClampNeg) x91) := by first | exact Rn_k (by assumption) (by omega) (by rw [tn_n]; omega) (by omega) (show (o0.2.1 49 v2.toNatClampNeg).toInt = 0 by omega) | exact Rn_s (by assumption) (by omega) (by rw [tn_n]; omega) (by omega) | (have e49 := (show Fr (fr_M [31, 36] [32, 33, 34] []) _ _ by assumption).2.1 49 rfl; have e51 := (show Fr (fr_M [31, 36] [32, 33, 34] []) _ _ by assumption).2.1 51 rfl; have e39 := (show Fr (fr_M [31, 36] [32, 33, 34] []) _ _ by assumption).1 39 rfl; rw [e49, e39]; refine Rn_s (L := (o0.1 39).toInt + 1 + v1.toInt) (by rw [e51]; exact Rn_w x_6 (by omega)) (by omega) (by rw [tn_n]; omega) (by omega))
          exact H.1 _ _ k93 r94 (iv_w (a := 0) (b := 200) (by decide) (by decide) i96) f_o0_0 f_o0_37 f_o0_38 f_o0_95 x_0 x_1 x_2 x_3 x_4 x_5 p97 (show (o0.1 37).toInt = (o0.1 39).toInt + 1 by omega) (show x95.toInt ≤ (o0.1 43).toInt by omega) x_12 (show 0 + (200 - x95.toInt) * 420 < (n : Int) by omega)
        · have wc89 : ¬ q88.toInt = (0 : Int) := c_ne c89
          have i98 : (1 : Int) ≤ q88.toInt ∧ q88.toInt ≤ 1 := nr_nela c89 i_q88 (show (0 : Int) ≤ (0 : Int32).toInt ∧ (0 : Int32).toInt ≤ 0 by decide) (by decide) (by decide)
          try unfold fM_reduce_177
          refine tt_kv (P := fun z => ((0 : Int) ≤ z.toInt ∧ z.toInt ≤ 417) ∧ z = (x85 ^^^ 1) ∧ z.toInt = x85.toInt + 1 - 2 * (x85.toInt % 2)) ⟨iv_x1 i86 (show (1 : Int) ≤ (1 : Int32).toInt ∧ (1 : Int32).toInt ≤ 1 by decide) (by decide) (by decide) (by decide) (by decide) (by decide), rfl, i_x1 (Int.le_trans (by decide) i86.1)⟩ (fun x99 qi100 => ?_)
          obtain ⟨i100, ax99, ei100⟩ := qi100
          refine tt_n (ix_ok i_v2 (by decide) (by decide)) ?_
          refine tt_ko ?_
          have k101 := ok_xp (k := 51) (i := v2.toNatClampNeg) (v := x99) k_o0 i100
          have r102 := fr_xp (k := 51) (i := v2.toNatClampNeg) (v := x99) r_o0 rfl
          try unfold fM_reduce_245
          refine tt_kv (P := fun z => ((1 : Int) ≤ z.toInt ∧ z.toInt ≤ 200) ∧ z = (v1 + 1) ∧ z.toInt = v1.toInt + 1) ⟨iv_add i_v1 (show (1 : Int) ≤ (1 : Int32).toInt ∧ (1 : Int32).toInt ≤ 1 by decide) (by decide) (by decide) (by decide) (by decide), rfl, iq_add i_v1 (show (1 : Int) ≤ (1 : Int32).toInt ∧ (1 : Int32).toInt ≤ 1 by decide) (by decide) (by decide)⟩ (fun x103 qi104 => ?_)
          obtain ⟨i104, ax103, ei104⟩ := qi104
          have p105 : Rn ((o0.1 39).toInt + 1 + x103.toInt) ((o0.1 39).toInt + 1) ((o0.1 37).toInt + (o0.1 31).toInt) (o0.2.1 49) (upd (o0.2.1 51) (v2.toNatClampNeg) x99) := by first | exact Rn_k (by assumption) (by omega) (by rw [tn_n]; omega) (by omega) (show (o0.2.1 49 v2.toNatClampNeg).toInt = 0 by omega) | exact Rn_s (by assumption) (by omega) (by rw [tn_n]; omega) (by omega) | (have e49 := (show Fr (fr_M [31, 36] [32, 33, 34] []) _ _ by assumption).2.1 49 rfl; have e51 := (show Fr (fr_M [31, 36] [32, 33, 34] []) _ _ by assumption).2.1 51 rfl; have e39 := (show Fr (fr_M [31, 36] [32, 33, 34] []) _ _ by assumption).1 39 rfl; rw [e49, e39]; refine Rn_s (L := (o0.1 39).toInt + 1 + v1.toInt) (by rw [e51]; exact Rn_w x_6 (by omega)) (by omega) (by rw [tn_n]; omega) (by omega))
          exact H.1 _ _ k101 r102 (iv_w (a := 0) (b := 200) (by decide) (by decide) i104) f_o0_0 f_o0_37 f_o0_38 f_o0_95 x_0 x_1 x_2 x_3 x_4 x_5 p105 (show (o0.1 37).toInt = (o0.1 39).toInt + 1 by omega) (show x103.toInt ≤ (o0.1 43).toInt by omega) x_12 (show 0 + (200 - x103.toInt) * 420 < (n : Int) by omega)
    · have wc75 : ¬ x73.toInt = (0 : Int) := c_ne c75
      have i106 : (1 : Int) ≤ x73.toInt ∧ x73.toInt ≤ 1 := nr_nela c75 i74 (show (0 : Int) ≤ (0 : Int32).toInt ∧ (0 : Int32).toInt ≤ 0 by decide) (by decide) (by decide)
      try unfold fM_base
      try unfold fM_base_0
      refine tt_bkv (P := fun z => ((1 : Int) ≤ z.toInt ∧ z.toInt ≤ 9) ∧ z = ((o0.1 39) + 1) ∧ z.toInt = (o0.1 39).toInt + 1) ⟨iv_add (k_o0.1 39) (show (1 : Int) ≤ (1 : Int32).toInt ∧ (1 : Int32).toInt ≤ 1 by decide) (by decide) (by decide) (by decide) (by decide), rfl, iq_add (k_o0.1 39) (show (1 : Int) ≤ (1 : Int32).toInt ∧ (1 : Int32).toInt ≤ 1 by decide) (by decide) (by decide)⟩ (fun x107 qi108 => ?_)
      obtain ⟨i108, ax107, ei108⟩ := qi108
      refine tt_bs ?_
      refine tt_if (fun c109 => ?_) (fun c109 => ?_)
      · have wc109 : v4.toInt < x107.toInt := c_lt c109
        have i110 : (0 : Int) ≤ v4.toInt ∧ v4.toInt ≤ 8 := nr_ltl c109 i72 i108 (by decide) (by decide)
        try unfold fM_reduce_100
        try unfold fM_reduce_105
        refine tt_if (fun c111 => ?_) (fun c111 => ?_)
        · have wc111 : (1 : Int) = (0 : Int) := c_eq c111
          exact (dd_eq c111 (show (1 : Int) ≤ (1 : Int32).toInt ∧ (1 : Int32).toInt ≤ 1 by decide) (show (0 : Int) ≤ (0 : Int32).toInt ∧ (0 : Int32).toInt ≤ 0 by decide) (by decide)).elim
        · have wc111 : ¬ (1 : Int) = (0 : Int) := c_ne c111
          refine tt_b (sM_agree _ _ _ _ k_o0 (iv_w (a := 0) (b := 208) (by decide) (by decide) i110) i_v2 (iv_w (a := 0) (b := 1) (by decide) (by decide) (show (0 : Int) ≤ (0 : Int32).toInt ∧ (0 : Int32).toInt ≤ 0 by decide)) f_o0_0 f_o0_37 f_o0_38 f_o0_43 f_o0_95) (fun q112 hq112 => ?_)
          obtain ⟨i_q112, -⟩ := hq112
          refine tt_if (fun c113 => ?_) (fun c113 => ?_)
          · have wc113 : q112.toInt = (0 : Int) := c_eq c113
            have i114 : (0 : Int) ≤ q112.toInt ∧ q112.toInt ≤ 0 := nr_eql c113 i_q112 (show (0 : Int) ≤ (0 : Int32).toInt ∧ (0 : Int32).toInt ≤ 0 by decide) (by decide) (by decide)
            refine tt_b (sM_agree _ _ _ _ k_o0 (iv_w (a := 0) (b := 208) (by decide) (by decide) i110) i_v2 (iv_w (a := 0) (b := 1) (by decide) (by decide) (show (1 : Int) ≤ (1 : Int32).toInt ∧ (1 : Int32).toInt ≤ 1 by decide)) f_o0_0 f_o0_37 f_o0_38 f_o0_43 f_o0_95) (fun q115 hq115 => ?_)
            obtain ⟨i_q115, -⟩ := hq115
            refine tt_if (fun c116 => ?_) (fun c116 => ?_)
            · have wc116 : q115.toInt = (0 : Int) := c_eq c116
              have i117 : (0 : Int) ≤ q115.toInt ∧ q115.toInt ≤ 0 := nr_eql c116 i_q115 (show (0 : Int) ≤ (0 : Int32).toInt ∧ (0 : Int32).toInt ≤ 0 by decide) (by decide) (by decide)
              try unfold fM_reduce_139
              try unfold fM_reduce_140
              refine tt_kv (P := fun z => (((-1) : Int) ≤ z.toInt ∧ z.toInt ≤ 7) ∧ z = (v4 + (-1)) ∧ z.toInt = v4.toInt + (-1)) ⟨iv_add i110 (show ((-1) : Int) ≤ ((-1) : Int32).toInt ∧ ((-1) : Int32).toInt ≤ (-1) by decide) (by decide) (by decide) (by decide) (by decide), rfl, iq_add i110 (show ((-1) : Int) ≤ ((-1) : Int32).toInt ∧ ((-1) : Int32).toInt ≤ (-1) by decide) (by decide) (by decide)⟩ (fun x118 qi119 => ?_)
              obtain ⟨i119, ax118, ei119⟩ := qi119
              exact H.2 _ _ _ _ _ k_o0 r_o0 i_v1 i_v2 i_v3 (iv_w (a := (-1)) (b := 207) (by decide) (by decide) i119) f_o0_0 f_o0_37 f_o0_38 f_o0_43 f_o0_95 x_0 x_1 x_2 x_3 x_4 x_5 x_6 (show (o0.1 37).toInt = (o0.1 39).toInt + 1 by omega) x_8 (show v2.toInt = (o0.1 39).toInt + 1 + v1.toInt by omega) (show x118.toInt < v2.toInt by omega) (show v1.toInt < (o0.1 43).toInt by omega) x_12 (show 0 + (200 - v1.toInt - 1) * 420 + 1 + (x118.toInt - (-1)) * 2 < (n : Int) by omega)
            · have wc116 : ¬ q115.toInt = (0 : Int) := c_ne c116
              have i120 : (1 : Int) ≤ q115.toInt ∧ q115.toInt ≤ 1 := nr_nela c116 i_q115 (show (0 : Int) ≤ (0 : Int32).toInt ∧ (0 : Int32).toInt ≤ 0 by decide) (by decide) (by decide)
              try unfold fM_reduce_134
              try unfold fM_reduce_140
              refine tt_kv (P := fun z => (((-1) : Int) ≤ z.toInt ∧ z.toInt ≤ 7) ∧ z = (v4 + (-1)) ∧ z.toInt = v4.toInt + (-1)) ⟨iv_add i110 (show ((-1) : Int) ≤ ((-1) : Int32).toInt ∧ ((-1) : Int32).toInt ≤ (-1) by decide) (by decide) (by decide) (by decide) (by decide), rfl, iq_add i110 (show ((-1) : Int) ≤ ((-1) : Int32).toInt ∧ ((-1) : Int32).toInt ≤ (-1) by decide) (by decide) (by decide)⟩ (fun x121 qi122 => ?_)
              obtain ⟨i122, ax121, ei122⟩ := qi122
              have p123 : Lr v4.toInt v2.toInt (o0.1 39).toInt (o0.2.1 49) := by first | assumption | exact Or.inr ⟨by omega, by first | exact Or.inl (by omega) | exact Or.inr (by assumption) | exact Or.inr (show ¬ (o0.2.1 49 v4.toNatClampNeg).toInt = 0 by omega)⟩
              exact H.2 _ _ _ _ _ k_o0 r_o0 i_v1 i_v2 (iv_w (a := (-1)) (b := 208) (by decide) (by decide) i110) (iv_w (a := (-1)) (b := 207) (by decide) (by decide) i122) f_o0_0 f_o0_37 f_o0_38 f_o0_43 f_o0_95 x_0 x_1 x_2 x_3 x_4 x_5 x_6 (show (o0.1 37).toInt = (o0.1 39).toInt + 1 by omega) p123 (show v2.toInt = (o0.1 39).toInt + 1 + v1.toInt by omega) (show x121.toInt < v2.toInt by omega) (show v1.toInt < (o0.1 43).toInt by omega) x_12 (show 0 + (200 - v1.toInt - 1) * 420 + 1 + (x121.toInt - (-1)) * 2 < (n : Int) by omega)
          · have wc113 : ¬ q112.toInt = (0 : Int) := c_ne c113
            have i124 : (1 : Int) ≤ q112.toInt ∧ q112.toInt ≤ 1 := nr_nela c113 i_q112 (show (0 : Int) ≤ (0 : Int32).toInt ∧ (0 : Int32).toInt ≤ 0 by decide) (by decide) (by decide)
            try unfold fM_reduce_134
            try unfold fM_reduce_140
            refine tt_kv (P := fun z => (((-1) : Int) ≤ z.toInt ∧ z.toInt ≤ 7) ∧ z = (v4 + (-1)) ∧ z.toInt = v4.toInt + (-1)) ⟨iv_add i110 (show ((-1) : Int) ≤ ((-1) : Int32).toInt ∧ ((-1) : Int32).toInt ≤ (-1) by decide) (by decide) (by decide) (by decide) (by decide), rfl, iq_add i110 (show ((-1) : Int) ≤ ((-1) : Int32).toInt ∧ ((-1) : Int32).toInt ≤ (-1) by decide) (by decide) (by decide)⟩ (fun x125 qi126 => ?_)
            obtain ⟨i126, ax125, ei126⟩ := qi126
            have p127 : Lr v4.toInt v2.toInt (o0.1 39).toInt (o0.2.1 49) := by first | assumption | exact Or.inr ⟨by omega, by first | exact Or.inl (by omega) | exact Or.inr (by assumption) | exact Or.inr (show ¬ (o0.2.1 49 v4.toNatClampNeg).toInt = 0 by omega)⟩
            exact H.2 _ _ _ _ _ k_o0 r_o0 i_v1 i_v2 (iv_w (a := (-1)) (b := 208) (by decide) (by decide) i110) (iv_w (a := (-1)) (b := 207) (by decide) (by decide) i126) f_o0_0 f_o0_37 f_o0_38 f_o0_43 f_o0_95 x_0 x_1 x_2 x_3 x_4 x_5 x_6 (show (o0.1 37).toInt = (o0.1 39).toInt + 1 by omega) p127 (show v2.toInt = (o0.1 39).toInt + 1 + v1.toInt by omega) (show x125.toInt < v2.toInt by omega) (show v1.toInt < (o0.1 43).toInt by omega) x_12 (show 0 + (200 - v1.toInt - 1) * 420 + 1 + (x125.toInt - (-1)) * 2 < (n : Int) by omega)
      · have wc109 : x107.toInt ≤ v4.toInt := c_nlt c109
        have i128 : (1 : Int) ≤ v4.toInt ∧ v4.toInt ≤ 207 := nr_nltr c109 i108 i72 (by decide) (by decide)
        refine tt_n (ix_ok i128 (by decide) (by decide)) ?_
        refine tt_kv (P := fun z => ((0 : Int) ≤ z.toInt ∧ z.toInt ≤ 1) ∧ z = (o0.2.1 49 v4.toNatClampNeg) ∧ z.toInt = (o0.2.1 49 v4.toNatClampNeg).toInt) ⟨(k_o0.2 49 _), rfl, rfl⟩ (fun x129 qi130 => ?_)
        obtain ⟨i130, ax129, ei130⟩ := qi130
        refine tt_if (fun c131 => ?_) (fun c131 => ?_)
        · have wc131 : x129.toInt = (0 : Int) := c_eq c131
          have i132 : (0 : Int) ≤ x129.toInt ∧ x129.toInt ≤ 0 := nr_eql c131 i130 (show (0 : Int) ≤ (0 : Int32).toInt ∧ (0 : Int32).toInt ≤ 0 by decide) (by decide) (by decide)
          try unfold fM_reduce_105
          refine tt_if (fun c133 => ?_) (fun c133 => ?_)
          · have wc133 : (0 : Int) = (0 : Int) := c_eq c133
            try unfold fM_reduce_139
            try unfold fM_reduce_140
            refine tt_kv (P := fun z => ((0 : Int) ≤ z.toInt ∧ z.toInt ≤ 206) ∧ z = (v4 + (-1)) ∧ z.toInt = v4.toInt + (-1)) ⟨iv_add i128 (show ((-1) : Int) ≤ ((-1) : Int32).toInt ∧ ((-1) : Int32).toInt ≤ (-1) by decide) (by decide) (by decide) (by decide) (by decide), rfl, iq_add i128 (show ((-1) : Int) ≤ ((-1) : Int32).toInt ∧ ((-1) : Int32).toInt ≤ (-1) by decide) (by decide) (by decide)⟩ (fun x134 qi135 => ?_)
            obtain ⟨i135, ax134, ei135⟩ := qi135
            exact H.2 _ _ _ _ _ k_o0 r_o0 i_v1 i_v2 i_v3 (iv_w (a := (-1)) (b := 207) (by decide) (by decide) i135) f_o0_0 f_o0_37 f_o0_38 f_o0_43 f_o0_95 x_0 x_1 x_2 x_3 x_4 x_5 x_6 (show (o0.1 37).toInt = (o0.1 39).toInt + 1 by omega) x_8 (show v2.toInt = (o0.1 39).toInt + 1 + v1.toInt by omega) (show x134.toInt < v2.toInt by omega) (show v1.toInt < (o0.1 43).toInt by omega) x_12 (show 0 + (200 - v1.toInt - 1) * 420 + 1 + (x134.toInt - (-1)) * 2 < (n : Int) by omega)
          · have wc133 : ¬ (0 : Int) = (0 : Int) := c_ne c133
            exact (dd_ne c133 (show (0 : Int) ≤ (0 : Int32).toInt ∧ (0 : Int32).toInt ≤ 0 by decide) (show (0 : Int) ≤ (0 : Int32).toInt ∧ (0 : Int32).toInt ≤ 0 by decide)).elim
        · have wc131 : ¬ x129.toInt = (0 : Int) := c_ne c131
          have i136 : (1 : Int) ≤ x129.toInt ∧ x129.toInt ≤ 1 := nr_nela c131 i130 (show (0 : Int) ≤ (0 : Int32).toInt ∧ (0 : Int32).toInt ≤ 0 by decide) (by decide) (by decide)
          try unfold fM_reduce_100
          try unfold fM_reduce_105
          refine tt_if (fun c137 => ?_) (fun c137 => ?_)
          · have wc137 : (1 : Int) = (0 : Int) := c_eq c137
            exact (dd_eq c137 (show (1 : Int) ≤ (1 : Int32).toInt ∧ (1 : Int32).toInt ≤ 1 by decide) (show (0 : Int) ≤ (0 : Int32).toInt ∧ (0 : Int32).toInt ≤ 0 by decide) (by decide)).elim
          · have wc137 : ¬ (1 : Int) = (0 : Int) := c_ne c137
            refine tt_b (sM_agree _ _ _ _ k_o0 (iv_w (a := 0) (b := 208) (by decide) (by decide) i128) i_v2 (iv_w (a := 0) (b := 1) (by decide) (by decide) (show (0 : Int) ≤ (0 : Int32).toInt ∧ (0 : Int32).toInt ≤ 0 by decide)) f_o0_0 f_o0_37 f_o0_38 f_o0_43 f_o0_95) (fun q138 hq138 => ?_)
            obtain ⟨i_q138, -⟩ := hq138
            refine tt_if (fun c139 => ?_) (fun c139 => ?_)
            · have wc139 : q138.toInt = (0 : Int) := c_eq c139
              have i140 : (0 : Int) ≤ q138.toInt ∧ q138.toInt ≤ 0 := nr_eql c139 i_q138 (show (0 : Int) ≤ (0 : Int32).toInt ∧ (0 : Int32).toInt ≤ 0 by decide) (by decide) (by decide)
              refine tt_b (sM_agree _ _ _ _ k_o0 (iv_w (a := 0) (b := 208) (by decide) (by decide) i128) i_v2 (iv_w (a := 0) (b := 1) (by decide) (by decide) (show (1 : Int) ≤ (1 : Int32).toInt ∧ (1 : Int32).toInt ≤ 1 by decide)) f_o0_0 f_o0_37 f_o0_38 f_o0_43 f_o0_95) (fun q141 hq141 => ?_)
              obtain ⟨i_q141, -⟩ := hq141
              refine tt_if (fun c142 => ?_) (fun c142 => ?_)
              · have wc142 : q141.toInt = (0 : Int) := c_eq c142
                have i143 : (0 : Int) ≤ q141.toInt ∧ q141.toInt ≤ 0 := nr_eql c142 i_q141 (show (0 : Int) ≤ (0 : Int32).toInt ∧ (0 : Int32).toInt ≤ 0 by decide) (by decide) (by decide)
                try unfold fM_reduce_139
                try unfold fM_reduce_140
                refine tt_kv (P := fun z => ((0 : Int) ≤ z.toInt ∧ z.toInt ≤ 206) ∧ z = (v4 + (-1)) ∧ z.toInt = v4.toInt + (-1)) ⟨iv_add i128 (show ((-1) : Int) ≤ ((-1) : Int32).toInt ∧ ((-1) : Int32).toInt ≤ (-1) by decide) (by decide) (by decide) (by decide) (by decide), rfl, iq_add i128 (show ((-1) : Int) ≤ ((-1) : Int32).toInt ∧ ((-1) : Int32).toInt ≤ (-1) by decide) (by decide) (by decide)⟩ (fun x144 qi145 => ?_)
                obtain ⟨i145, ax144, ei145⟩ := qi145
                exact H.2 _ _ _ _ _ k_o0 r_o0 i_v1 i_v2 i_v3 (iv_w (a := (-1)) (b := 207) (by decide) (by decide) i145) f_o0_0 f_o0_37 f_o0_38 f_o0_43 f_o0_95 x_0 x_1 x_2 x_3 x_4 x_5 x_6 (show (o0.1 37).toInt = (o0.1 39).toInt + 1 by omega) x_8 (show v2.toInt = (o0.1 39).toInt + 1 + v1.toInt by omega) (show x144.toInt < v2.toInt by omega) (show v1.toInt < (o0.1 43).toInt by omega) x_12 (show 0 + (200 - v1.toInt - 1) * 420 + 1 + (x144.toInt - (-1)) * 2 < (n : Int) by omega)
              · have wc142 : ¬ q141.toInt = (0 : Int) := c_ne c142
                have i146 : (1 : Int) ≤ q141.toInt ∧ q141.toInt ≤ 1 := nr_nela c142 i_q141 (show (0 : Int) ≤ (0 : Int32).toInt ∧ (0 : Int32).toInt ≤ 0 by decide) (by decide) (by decide)
                try unfold fM_reduce_134
                try unfold fM_reduce_140
                refine tt_kv (P := fun z => ((0 : Int) ≤ z.toInt ∧ z.toInt ≤ 206) ∧ z = (v4 + (-1)) ∧ z.toInt = v4.toInt + (-1)) ⟨iv_add i128 (show ((-1) : Int) ≤ ((-1) : Int32).toInt ∧ ((-1) : Int32).toInt ≤ (-1) by decide) (by decide) (by decide) (by decide) (by decide), rfl, iq_add i128 (show ((-1) : Int) ≤ ((-1) : Int32).toInt ∧ ((-1) : Int32).toInt ≤ (-1) by decide) (by decide) (by decide)⟩ (fun x147 qi148 => ?_)
                obtain ⟨i148, ax147, ei148⟩ := qi148
                have p149 : Lr v4.toInt v2.toInt (o0.1 39).toInt (o0.2.1 49) := by first | assumption | exact Or.inr ⟨by omega, by first | exact Or.inl (by omega) | exact Or.inr (by assumption) | exact Or.inr (show ¬ (o0.2.1 49 v4.toNatClampNeg).toInt = 0 by omega)⟩
                exact H.2 _ _ _ _ _ k_o0 r_o0 i_v1 i_v2 (iv_w (a := (-1)) (b := 208) (by decide) (by decide) i128) (iv_w (a := (-1)) (b := 207) (by decide) (by decide) i148) f_o0_0 f_o0_37 f_o0_38 f_o0_43 f_o0_95 x_0 x_1 x_2 x_3 x_4 x_5 x_6 (show (o0.1 37).toInt = (o0.1 39).toInt + 1 by omega) p149 (show v2.toInt = (o0.1 39).toInt + 1 + v1.toInt by omega) (show x147.toInt < v2.toInt by omega) (show v1.toInt < (o0.1 43).toInt by omega) x_12 (show 0 + (200 - v1.toInt - 1) * 420 + 1 + (x147.toInt - (-1)) * 2 < (n : Int) by omega)
            · have wc139 : ¬ q138.toInt = (0 : Int) := c_ne c139
              have i150 : (1 : Int) ≤ q138.toInt ∧ q138.toInt ≤ 1 := nr_nela c139 i_q138 (show (0 : Int) ≤ (0 : Int32).toInt ∧ (0 : Int32).toInt ≤ 0 by decide) (by decide) (by decide)
              try unfold fM_reduce_134
              try unfold fM_reduce_140
              refine tt_kv (P := fun z => ((0 : Int) ≤ z.toInt ∧ z.toInt ≤ 206) ∧ z = (v4 + (-1)) ∧ z.toInt = v4.toInt + (-1)) ⟨iv_add i128 (show ((-1) : Int) ≤ ((-1) : Int32).toInt ∧ ((-1) : Int32).toInt ≤ (-1) by decide) (by decide) (by decide) (by decide) (by decide), rfl, iq_add i128 (show ((-1) : Int) ≤ ((-1) : Int32).toInt ∧ ((-1) : Int32).toInt ≤ (-1) by decide) (by decide) (by decide)⟩ (fun x151 qi152 => ?_)
              obtain ⟨i152, ax151, ei152⟩ := qi152
              have p153 : Lr v4.toInt v2.toInt (o0.1 39).toInt (o0.2.1 49) := by first | assumption | exact Or.inr ⟨by omega, by first | exact Or.inl (by omega) | exact Or.inr (by assumption) | exact Or.inr (show ¬ (o0.2.1 49 v4.toNatClampNeg).toInt = 0 by omega)⟩
              exact H.2 _ _ _ _ _ k_o0 r_o0 i_v1 i_v2 (iv_w (a := (-1)) (b := 208) (by decide) (by decide) i128) (iv_w (a := (-1)) (b := 207) (by decide) (by decide) i152) f_o0_0 f_o0_37 f_o0_38 f_o0_43 f_o0_95 x_0 x_1 x_2 x_3 x_4 x_5 x_6 (show (o0.1 37).toInt = (o0.1 39).toInt + 1 by omega) p153 (show v2.toInt = (o0.1 39).toInt + 1 + v1.toInt by omega) (show x151.toInt < v2.toInt by omega) (show v1.toInt < (o0.1 43).toInt by omega) x_12 (show 0 + (200 - v1.toInt - 1) * 420 + 1 + (x151.toInt - (-1)) * 2 < (n : Int) by omega)
set_option maxHeartbeats 4000000 in
set_option maxRecDepth 100000 in
theorem tM_reduce_45 {yo0 : cf_O} {n : Nat} (H : HM_reduce yo0 n) (v1 : Int32) (o0 : cf_O) (k_o0 : okO I_M o0) (r_o0 : Fr (fr_M [0, 31, 36, 37, 43, 64, 85] [32, 33, 34, 35, 44, 45, 46, 47, 48, 49, 50, 51, 75] [56]) yo0 o0) (i_v1 : (0 : Int) ≤ v1.toInt ∧ v1.toInt ≤ 200) (f_o0_0 : (0 : Int) ≤ (o0.1 0).toInt ∧ (o0.1 0).toInt ≤ 2) (f_o0_37 : (1 : Int) ≤ (o0.1 37).toInt ∧ (o0.1 37).toInt ≤ 9) (f_o0_38 : (1 : Int) ≤ (o0.1 38).toInt ∧ (o0.1 38).toInt ≤ 1) (f_o0_95 : (0 : Int) ≤ (o0.1 95).toInt ∧ (o0.1 95).toInt ≤ 0) (x_0 : Ch (o0.1 64) (o0.1 73) (o0.1 39) (o0.1 43) (o0.2.1 74)) (x_1 : Lmd (o0.1 64).toInt (o0.1 65).toInt) (x_2 : Gx ((o0.1 39).toInt + 1) (o0.1 43).toInt (o0.2.1 44) (o0.2.1 45)) (x_3 : No (o0.1 40).toInt ((o0.1 39).toInt + 1 + (o0.1 43).toInt) (o0.2.1 47)) (x_4 : Gx (o0.1 37).toInt (o0.1 31).toInt (o0.2.1 32) (o0.2.1 33)) (x_5 : Lk (-1) ((o0.1 39).toInt + 1) (o0.1 43).toInt (o0.1 40).toInt (o0.2.1 47) (o0.2.1 44) (o0.2.1 45) (o0.2.1 49) (o0.2.1 48)) (x_6 : Rn ((o0.1 39).toInt + 1 + v1.toInt) ((o0.1 39).toInt + 1) ((o0.1 37).toInt + (o0.1 31).toInt) (o0.2.1 49) (o0.2.1 51)) (x_7 : (o0.1 37).toInt = (o0.1 39).toInt + 1) (x_8 : v1.toInt ≤ (o0.1 43).toInt) (x_9 : Hc (o0.1 64).toInt ((o0.1 39).toInt + 1) (o0.1 43).toInt (o0.1 65).toInt (o0.2.1 44) (o0.2.1 45)) (hm : 0 + (200 - v1.toInt) * 420 ≤ (n : Int)) : tt (fM_reduce_45 (gM_reduce n) v1 o0) (QM_reduce yo0) := by
  unfold fM_reduce_45
  have g_o0_31 : (0 : Int) ≤ (o0.1 31).toInt ∧ (o0.1 31).toInt ≤ 200 := k_o0.1 31
  have ey_o0_38 : (o0.1 38).toInt = (yo0.1 38).toInt := congrArg Int32.toInt (r_o0.1 38 rfl)
  have g_o0_39 : (0 : Int) ≤ (o0.1 39).toInt ∧ (o0.1 39).toInt ≤ 8 := k_o0.1 39
  have ey_o0_39 : (o0.1 39).toInt = (yo0.1 39).toInt := congrArg Int32.toInt (r_o0.1 39 rfl)
  have g_o0_40 : (0 : Int) ≤ (o0.1 40).toInt ∧ (o0.1 40).toInt ≤ 6 := k_o0.1 40
  have ey_o0_40 : (o0.1 40).toInt = (yo0.1 40).toInt := congrArg Int32.toInt (r_o0.1 40 rfl)
  have g_o0_43 : (0 : Int) ≤ (o0.1 43).toInt ∧ (o0.1 43).toInt ≤ 200 := k_o0.1 43
  have g_o0_64 : (0 : Int) ≤ (o0.1 64).toInt ∧ (o0.1 64).toInt ≤ 1 := k_o0.1 64
  have g_o0_65 : (0 : Int) ≤ (o0.1 65).toInt ∧ (o0.1 65).toInt ≤ 5 := k_o0.1 65
  have ey_o0_65 : (o0.1 65).toInt = (yo0.1 65).toInt := congrArg Int32.toInt (r_o0.1 65 rfl)
  refine tt_if (fun c1 => ?_) (fun c1 => ?_)
  · have wc1 : (o0.1 43).toInt ≤ v1.toInt := c_le c1
    have p2 : Fn (o0.1 40).toInt ((o0.1 37).toInt + (o0.1 31).toInt) (o0.2.1 47) (o0.2.1 51) := by exact Fn_i (by assumption) (show Rn ((o0.1 39).toInt + 1 + (o0.1 43).toInt) _ _ _ _ by rw [show (o0.1 43).toInt = v1.toInt by omega]; assumption) (by assumption) (fun k => (k_o0.2 47 k).1)
    refine tt_b (sM_finish _ k_o0 f_o0_0 f_o0_37 f_o0_38 f_o0_95 x_0 x_1 x_4 x_2 x_3 p2 (show (o0.1 37).toInt = (o0.1 39).toInt + 1 by omega) x_9) (fun q3 hq3 => ?_)
    obtain ⟨i_q3, k_q3_2, n_q3_2, f_q3_2_0, zq3_0, zq3_1, zq3_2, zq3_3, zq3_4, -⟩ := hq3
    have r_q3_2 := fr_tr r_o0 n_q3_2 rfl rfl rfl
    have f_q3_2_37 : (1 : Int) ≤ (q3.2.1 37).toInt ∧ (q3.2.1 37).toInt ≤ 9 := by rw [n_q3_2.1 37 rfl]; exact f_o0_37
    have f_q3_2_38 : (1 : Int) ≤ (q3.2.1 38).toInt ∧ (q3.2.1 38).toInt ≤ 1 := by rw [n_q3_2.1 38 rfl]; exact f_o0_38
    have f_q3_2_95 : (0 : Int) ≤ (q3.2.1 95).toInt ∧ (q3.2.1 95).toInt ≤ 0 := by rw [n_q3_2.1 95 rfl]; exact f_o0_95
    have e_q3_2_31 : (q3.2.1 31).toInt = (o0.1 31).toInt := congrArg Int32.toInt (n_q3_2.1 31 rfl)
    have g_q3_2_31 : (0 : Int) ≤ (q3.2.1 31).toInt ∧ (q3.2.1 31).toInt ≤ 200 := k_q3_2.1 31
    have e_q3_2_37 : (q3.2.1 37).toInt = (o0.1 37).toInt := congrArg Int32.toInt (n_q3_2.1 37 rfl)
    have e_q3_2_38 : (q3.2.1 38).toInt = (o0.1 38).toInt := congrArg Int32.toInt (n_q3_2.1 38 rfl)
    have e_q3_2_39 : (q3.2.1 39).toInt = (o0.1 39).toInt := congrArg Int32.toInt (n_q3_2.1 39 rfl)
    have g_q3_2_39 : (0 : Int) ≤ (q3.2.1 39).toInt ∧ (q3.2.1 39).toInt ≤ 8 := k_q3_2.1 39
    have e_q3_2_40 : (q3.2.1 40).toInt = (o0.1 40).toInt := congrArg Int32.toInt (n_q3_2.1 40 rfl)
    have g_q3_2_40 : (0 : Int) ≤ (q3.2.1 40).toInt ∧ (q3.2.1 40).toInt ≤ 6 := k_q3_2.1 40
    have g_q3_2_43 : (0 : Int) ≤ (q3.2.1 43).toInt ∧ (q3.2.1 43).toInt ≤ 200 := k_q3_2.1 43
    have g_q3_2_64 : (0 : Int) ≤ (q3.2.1 64).toInt ∧ (q3.2.1 64).toInt ≤ 1 := k_q3_2.1 64
    have e_q3_2_65 : (q3.2.1 65).toInt = (o0.1 65).toInt := congrArg Int32.toInt (n_q3_2.1 65 rfl)
    have g_q3_2_65 : (0 : Int) ≤ (q3.2.1 65).toInt ∧ (q3.2.1 65).toInt ≤ 5 := k_q3_2.1 65
    have u4 : Gx (q3.2.1 37).toInt (q3.2.1 31).toInt (q3.2.2.1 32) (q3.2.2.1 33) := by rw [n_q3_2.1 31 rfl, n_q3_2.1 37 rfl, n_q3_2.2.1 32 rfl, n_q3_2.2.1 33 rfl]; exact x_4
    have u5 : Rn ((q3.2.1 39).toInt + 1 + v1.toInt) ((q3.2.1 39).toInt + 1) ((q3.2.1 37).toInt + (q3.2.1 31).toInt) (q3.2.2.1 49) (q3.2.2.1 51) := by rw [n_q3_2.1 31 rfl, n_q3_2.1 37 rfl, n_q3_2.1 39 rfl, n_q3_2.2.1 49 rfl, n_q3_2.2.1 51 rfl]; exact x_6
    exact tt_some ⟨i_q3, k_q3_2, r_q3_2, f_q3_2_0, zq3_0, zq3_1, zq3_2, zq3_3, zq3_4, trivial⟩
  · have wc1 : v1.toInt < (o0.1 43).toInt := c_nle c1
    have i6 : (0 : Int) ≤ v1.toInt ∧ v1.toInt ≤ 199 := nr_nlel c1 i_v1 (k_o0.1 43) (by decide) (by decide)
    have i7 : (1 : Int) ≤ (o0.1 43).toInt ∧ (o0.1 43).toInt ≤ 200 := nr_nler c1 i_v1 (k_o0.1 43) (by decide) (by decide)
    try unfold fM_base
    try unfold fM_base_0
    refine tt_bkv (P := fun z => ((1 : Int) ≤ z.toInt ∧ z.toInt ≤ 9) ∧ z = ((o0.1 39) + 1) ∧ z.toInt = (o0.1 39).toInt + 1) ⟨iv_add (k_o0.1 39) (show (1 : Int) ≤ (1 : Int32).toInt ∧ (1 : Int32).toInt ≤ 1 by decide) (by decide) (by decide) (by decide) (by decide), rfl, iq_add (k_o0.1 39) (show (1 : Int) ≤ (1 : Int32).toInt ∧ (1 : Int32).toInt ≤ 1 by decide) (by decide) (by decide)⟩ (fun x8 qi9 => ?_)
    obtain ⟨i9, ax8, ei9⟩ := qi9
    refine tt_bs ?_
    refine tt_kv (P := fun z => ((1 : Int) ≤ z.toInt ∧ z.toInt ≤ 208) ∧ z = (x8 + v1) ∧ z.toInt = x8.toInt + v1.toInt) ⟨iv_add i9 i6 (by decide) (by decide) (by decide) (by decide), rfl, iq_add i9 i6 (by decide) (by decide)⟩ (fun x10 qi11 => ?_)
    obtain ⟨i11, ax10, ei11⟩ := qi11
    refine tt_kv (P := fun z => ((0 : Int) ≤ z.toInt ∧ z.toInt ≤ 207) ∧ z = (x10 - 1) ∧ z.toInt = x10.toInt - 1) ⟨iv_sub i11 (show (1 : Int) ≤ (1 : Int32).toInt ∧ (1 : Int32).toInt ≤ 1 by decide) (by decide) (by decide) (by decide) (by decide), rfl, iq_sub i11 (show (1 : Int) ≤ (1 : Int32).toInt ∧ (1 : Int32).toInt ≤ 1 by decide) (by decide) (by decide)⟩ (fun x12 qi13 => ?_)
    obtain ⟨i13, ax12, ei13⟩ := qi13
    have p14 : Lr (-1) x10.toInt (o0.1 39).toInt (o0.2.1 49) := by exact Or.inl (by decide)
    exact H.2 _ _ _ _ _ k_o0 r_o0 i6 i11 (iv_w (a := (-1)) (b := 208) (by decide) (by decide) (show ((-1) : Int) ≤ ((-1) : Int32).toInt ∧ ((-1) : Int32).toInt ≤ (-1) by decide)) (iv_w (a := (-1)) (b := 207) (by decide) (by decide) i13) f_o0_0 f_o0_37 f_o0_38 i7 f_o0_95 x_0 x_1 x_2 x_3 x_4 x_5 x_6 (show (o0.1 37).toInt = (o0.1 39).toInt + 1 by omega) p14 (show x10.toInt = (o0.1 39).toInt + 1 + v1.toInt by omega) (show x12.toInt < x10.toInt by omega) (show v1.toInt < (o0.1 43).toInt by omega) x_9 (show 0 + (200 - v1.toInt - 1) * 420 + 1 + (x12.toInt - (-1)) * 2 < (n : Int) by omega)
set_option maxHeartbeats 4000000 in
set_option maxRecDepth 100000 in
theorem hM_reduce (yo0 : cf_O) : ∀ n, HM_reduce yo0 n := by
  intro n
  induction n with
  | zero => exact ⟨(fun v1 o0 k_o0 r_o0 i_v1 f_o0_0 f_o0_37 f_o0_38 f_o0_95 x_0 x_1 x_2 x_3 x_4 x_5 x_6 x_7 x_8 x_9 hm => by exact absurd (show 0 + (200 - v1.toInt) * 420 < (0 : Int) from hm) (by omega)), (fun v1 v2 v3 v4 o0 k_o0 r_o0 i_v1 i_v2 i_v3 i_v4 f_o0_0 f_o0_37 f_o0_38 f_o0_43 f_o0_95 x_0 x_1 x_2 x_3 x_4 x_5 x_6 x_7 x_8 x_9 x_10 x_11 x_12 hm => by exact absurd (show 0 + (200 - v1.toInt - 1) * 420 + 1 + (v4.toInt - (-1)) * 2 < (0 : Int) from hm) (by omega))⟩
  | succ n ih => exact ⟨(fun v1 o0 k_o0 r_o0 i_v1 f_o0_0 f_o0_37 f_o0_38 f_o0_95 x_0 x_1 x_2 x_3 x_4 x_5 x_6 x_7 x_8 x_9 hm => tM_reduce_45 ih v1 o0 k_o0 r_o0 i_v1 f_o0_0 f_o0_37 f_o0_38 f_o0_95 x_0 x_1 x_2 x_3 x_4 x_5 x_6 x_7 x_8 x_9 (by omega)), (fun v1 v2 v3 v4 o0 k_o0 r_o0 i_v1 i_v2 i_v3 i_v4 f_o0_0 f_o0_37 f_o0_38 f_o0_43 f_o0_95 x_0 x_1 x_2 x_3 x_4 x_5 x_6 x_7 x_8 x_9 x_10 x_11 x_12 hm => tM_reduce_67 ih v1 v2 v3 v4 o0 k_o0 r_o0 i_v1 i_v2 i_v3 i_v4 f_o0_0 f_o0_37 f_o0_38 f_o0_43 f_o0_95 x_0 x_1 x_2 x_3 x_4 x_5 x_6 x_7 x_8 x_9 x_10 x_11 x_12 (by omega))⟩
set_option maxHeartbeats 4000000 in
set_option maxRecDepth 100000 in
theorem sM_reduce (o0 : cf_O) (k_o0 : okO I_M o0) (f_o0_95 : (0 : Int) ≤ (o0.1 95).toInt ∧ (o0.1 95).toInt ≤ 0) (x_0 : Ch (o0.1 64) (o0.1 73) (o0.1 39) (o0.1 43) (o0.2.1 74)) (x_1 : Lmd (o0.1 64).toInt (o0.1 65).toInt) (x_2 : Gx ((o0.1 39).toInt + 1) (o0.1 43).toInt (o0.2.1 44) (o0.2.1 45)) (x_3 : No (o0.1 40).toInt ((o0.1 39).toInt + 1 + (o0.1 43).toInt) (o0.2.1 47)) (x_4 : Hc (o0.1 64).toInt ((o0.1 39).toInt + 1) (o0.1 43).toInt (o0.1 65).toInt (o0.2.1 44) (o0.2.1 45)) : tt (fM_reduce o0) (QM_reduce o0) := by
  have H := hM_reduce o0 cfFU
  have hm : (84003 : Int) ≤ (cfFU : Nat) := by decide
  have r_o0 : Fr (fr_M [0, 31, 36, 37, 43, 64, 85] [32, 33, 34, 35, 44, 45, 46, 47, 48, 49, 50, 51, 75] [56]) o0 o0 := fr_rfl
  unfold fM_reduce fM_reduce_0
  have g_o0_31 : (0 : Int) ≤ (o0.1 31).toInt ∧ (o0.1 31).toInt ≤ 200 := k_o0.1 31
  have g_o0_37 : (0 : Int) ≤ (o0.1 37).toInt ∧ (o0.1 37).toInt ≤ 9 := k_o0.1 37
  have g_o0_38 : (0 : Int) ≤ (o0.1 38).toInt ∧ (o0.1 38).toInt ≤ 1 := k_o0.1 38
  have g_o0_39 : (0 : Int) ≤ (o0.1 39).toInt ∧ (o0.1 39).toInt ≤ 8 := k_o0.1 39
  have g_o0_40 : (0 : Int) ≤ (o0.1 40).toInt ∧ (o0.1 40).toInt ≤ 6 := k_o0.1 40
  have g_o0_43 : (0 : Int) ≤ (o0.1 43).toInt ∧ (o0.1 43).toInt ≤ 200 := k_o0.1 43
  have g_o0_64 : (0 : Int) ≤ (o0.1 64).toInt ∧ (o0.1 64).toInt ≤ 1 := k_o0.1 64
  have g_o0_65 : (0 : Int) ≤ (o0.1 65).toInt ∧ (o0.1 65).toInt ≤ 5 := k_o0.1 65
  refine tt_if (fun c1 => ?_) (fun c1 => ?_)
  · have wc1 : (o0.1 38).toInt = (0 : Int) := c_eq c1
    have i2 : (0 : Int) ≤ (o0.1 38).toInt ∧ (o0.1 38).toInt ≤ 0 := nr_eql c1 (k_o0.1 38) (show (0 : Int) ≤ (0 : Int32).toInt ∧ (0 : Int32).toInt ≤ 0 by decide) (by decide) (by decide)
    try unfold fM_reduce_13
    try unfold fM_refuse
    try unfold fM_refuse_0
    refine tt_bif (fun c3 => ?_) (fun c3 => ?_)
    · have wc3 : (1 : Int) = (0 : Int) := c_eq c3
      exact (dd_eq c3 (show (1 : Int) ≤ (1 : Int32).toInt ∧ (1 : Int32).toInt ≤ 1 by decide) (show (0 : Int) ≤ (0 : Int32).toInt ∧ (0 : Int32).toInt ≤ 0 by decide) (by decide)).elim
    · have wc3 : ¬ (1 : Int) = (0 : Int) := c_ne c3
      try unfold fM_refuse_26
      refine tt_bko ?_
      have k4 := ok_fp (k := 0) (v := 1) k_o0 (iv_w (a := 0) (b := 3) (by decide) (by decide) (show (1 : Int) ≤ (1 : Int32).toInt ∧ (1 : Int32).toInt ≤ 1 by decide))
      have r5 := fr_fp (k := 0) (v := 1) r_o0 rfl
      refine tt_bif (fun c6 => ?_) (fun c6 => ?_)
      · have wc6 : (1 : Int) ≤ (0 : Int) := c_le c6
        exact (dd_le c6 (show (1 : Int) ≤ (1 : Int32).toInt ∧ (1 : Int32).toInt ≤ 1 by decide) (show (0 : Int) ≤ (0 : Int32).toInt ∧ (0 : Int32).toInt ≤ 0 by decide) (by decide)).elim
      · have wc6 : (0 : Int) < (1 : Int) := c_nle c6
        try unfold fM_refuse_41
        refine tt_bw (iv_b (show (1 : Int) ≤ (1 : Int32).toInt ∧ (1 : Int32).toInt ≤ 1 by decide) (by decide) (by decide)) ?_
        refine tt_bs ?_
        refine tt_if (fun c7 => ?_) (fun c7 => ?_)
        · have wc7 : (1 : Int) = (0 : Int) := c_eq c7
          exact (dd_eq c7 (show (1 : Int) ≤ (1 : Int32).toInt ∧ (1 : Int32).toInt ≤ 1 by decide) (show (0 : Int) ≤ (0 : Int32).toInt ∧ (0 : Int32).toInt ≤ 0 by decide) (by decide)).elim
        · have wc7 : ¬ (1 : Int) = (0 : Int) := c_ne c7
          exact tt_some ⟨(iv_w (a := 0) (b := 200) (by decide) (by decide) (show (0 : Int) ≤ (0 : Int32).toInt ∧ (0 : Int32).toInt ≤ 0 by decide)), k4, r5, (iv_w (a := 0) (b := 2) (by decide) (by decide) (show (1 : Int) ≤ (1 : Int32).toInt ∧ (1 : Int32).toInt ≤ 1 by decide)), x_0, x_1, x_2, x_3, x_4, trivial⟩
  · have wc1 : ¬ (o0.1 38).toInt = (0 : Int) := c_ne c1
    have i8 : (1 : Int) ≤ (o0.1 38).toInt ∧ (o0.1 38).toInt ≤ 1 := nr_nela c1 (k_o0.1 38) (show (0 : Int) ≤ (0 : Int32).toInt ∧ (0 : Int32).toInt ≤ 0 by decide) (by decide) (by decide)
    try unfold fM_reduce_13
    try unfold fM_refuse
    try unfold fM_refuse_0
    refine tt_bif (fun c9 => ?_) (fun c9 => ?_)
    · have wc9 : (0 : Int) = (0 : Int) := c_eq c9
      refine tt_bif (fun c10 => ?_) (fun c10 => ?_)
      · have wc10 : (0 : Int) = (0 : Int) := c_eq c10
        refine tt_bif (fun c11 => ?_) (fun c11 => ?_)
        · have wc11 : (0 : Int) = (0 : Int) := c_eq c11
          try unfold fM_refuse_26
          refine tt_bko ?_
          have k12 := ok_fp (k := 0) (v := 0) k_o0 (iv_w (a := 0) (b := 3) (by decide) (by decide) (show (0 : Int) ≤ (0 : Int32).toInt ∧ (0 : Int32).toInt ≤ 0 by decide))
          have r13 := fr_fp (k := 0) (v := 0) r_o0 rfl
          refine tt_bif (fun c14 => ?_) (fun c14 => ?_)
          · have wc14 : (0 : Int) ≤ (0 : Int) := c_le c14
            try unfold fM_refuse_41
            refine tt_bw (iv_b (show (0 : Int) ≤ (0 : Int32).toInt ∧ (0 : Int32).toInt ≤ 0 by decide) (by decide) (by decide)) ?_
            refine tt_bs ?_
            refine tt_if (fun c15 => ?_) (fun c15 => ?_)
            · have wc15 : (0 : Int) = (0 : Int) := c_eq c15
              refine tt_b (sM_look _ k12 (show (0 : Int) ≤ (0 : Int32).toInt ∧ (0 : Int32).toInt ≤ 0 by decide) i8 f_o0_95 x_2) (fun q16 hq16 => ?_)
              obtain ⟨k_q16, n_q16, zq16_0, zq16_1, -⟩ := hq16
              have r_q16 := fr_tr r13 n_q16 rfl rfl rfl
              have f_q16_0 : (0 : Int) ≤ (q16.1 0).toInt ∧ (q16.1 0).toInt ≤ 0 := by rw [n_q16.1 0 rfl]; exact (show (0 : Int) ≤ (0 : Int32).toInt ∧ (0 : Int32).toInt ≤ 0 by decide)
              have f_q16_38 : (1 : Int) ≤ (q16.1 38).toInt ∧ (q16.1 38).toInt ≤ 1 := by rw [n_q16.1 38 rfl]; exact i8
              have f_q16_95 : (0 : Int) ≤ (q16.1 95).toInt ∧ (q16.1 95).toInt ≤ 0 := by rw [n_q16.1 95 rfl]; exact f_o0_95
              have e_q16_31 : (q16.1 31).toInt = (o0.1 31).toInt := congrArg Int32.toInt (n_q16.1 31 rfl)
              have g_q16_31 : (0 : Int) ≤ (q16.1 31).toInt ∧ (q16.1 31).toInt ≤ 200 := k_q16.1 31
              have e_q16_37 : (q16.1 37).toInt = (o0.1 37).toInt := congrArg Int32.toInt (n_q16.1 37 rfl)
              have g_q16_37 : (0 : Int) ≤ (q16.1 37).toInt ∧ (q16.1 37).toInt ≤ 9 := k_q16.1 37
              have e_q16_38 : (q16.1 38).toInt = (o0.1 38).toInt := congrArg Int32.toInt (n_q16.1 38 rfl)
              have e_q16_39 : (q16.1 39).toInt = (o0.1 39).toInt := congrArg Int32.toInt (n_q16.1 39 rfl)
              have g_q16_39 : (0 : Int) ≤ (q16.1 39).toInt ∧ (q16.1 39).toInt ≤ 8 := k_q16.1 39
              have e_q16_40 : (q16.1 40).toInt = (o0.1 40).toInt := congrArg Int32.toInt (n_q16.1 40 rfl)
              have g_q16_40 : (0 : Int) ≤ (q16.1 40).toInt ∧ (q16.1 40).toInt ≤ 6 := k_q16.1 40
              have e_q16_43 : (q16.1 43).toInt = (o0.1 43).toInt := congrArg Int32.toInt (n_q16.1 43 rfl)
              have g_q16_43 : (0 : Int) ≤ (q16.1 43).toInt ∧ (q16.1 43).toInt ≤ 200 := k_q16.1 43
              have e_q16_64 : (q16.1 64).toInt = (o0.1 64).toInt := congrArg Int32.toInt (n_q16.1 64 rfl)
              have g_q16_64 : (0 : Int) ≤ (q16.1 64).toInt ∧ (q16.1 64).toInt ≤ 1 := k_q16.1 64
              have e_q16_65 : (q16.1 65).toInt = (o0.1 65).toInt := congrArg Int32.toInt (n_q16.1 65 rfl)
              have g_q16_65 : (0 : Int) ≤ (q16.1 65).toInt ∧ (q16.1 65).toInt ≤ 5 := k_q16.1 65
              have zq16_0 : Lk (-1) ((q16.1 39).toInt + 1) (q16.1 43).toInt (q16.1 40).toInt (q16.2.1 47) (q16.2.1 44) (q16.2.1 45) (q16.2.1 49) (q16.2.1 48) := zq16_0
              have zq16_1 : Ap ((q16.1 39).toInt + 1) (q16.1 43).toInt (q16.2.1 44) (q16.2.1 45) (q16.2.1 49) (q16.2.1 48) (q16.2.1 50) := zq16_1
              have u17 : Ch (q16.1 64) (q16.1 73) (q16.1 39) (q16.1 43) (q16.2.1 74) := by rw [n_q16.1 39 rfl, n_q16.1 43 rfl, n_q16.1 64 rfl, n_q16.1 73 rfl, n_q16.2.1 74 rfl]; exact x_0
              have u18 : Lmd (q16.1 64).toInt (q16.1 65).toInt := by rw [n_q16.1 64 rfl, n_q16.1 65 rfl]; exact x_1
              have u19 : Gx ((q16.1 39).toInt + 1) (q16.1 43).toInt (q16.2.1 44) (q16.2.1 45) := by rw [n_q16.1 39 rfl, n_q16.1 43 rfl, n_q16.2.1 44 rfl, n_q16.2.1 45 rfl]; exact x_2
              have u20 : No (q16.1 40).toInt ((q16.1 39).toInt + 1 + (q16.1 43).toInt) (q16.2.1 47) := by rw [n_q16.1 39 rfl, n_q16.1 40 rfl, n_q16.1 43 rfl, n_q16.2.1 47 rfl]; exact x_3
              have u21 : Hc (q16.1 64).toInt ((q16.1 39).toInt + 1) (q16.1 43).toInt (q16.1 65).toInt (q16.2.1 44) (q16.2.1 45) := by rw [n_q16.1 39 rfl, n_q16.1 43 rfl, n_q16.1 64 rfl, n_q16.1 65 rfl, n_q16.2.1 44 rfl, n_q16.2.1 45 rfl]; exact x_4
              refine tt_b (sM_reckon _ k_q16 f_q16_0 f_q16_38 f_q16_95) (fun q22 hq22 => ?_)
              obtain ⟨k_q22, n_q22, f_q22_0, -⟩ := hq22
              have r_q22 := fr_tr r_q16 n_q22 rfl rfl rfl
              have f_q22_38 : (1 : Int) ≤ (q22.1 38).toInt ∧ (q22.1 38).toInt ≤ 1 := by rw [n_q22.1 38 rfl]; exact f_q16_38
              have f_q22_95 : (0 : Int) ≤ (q22.1 95).toInt ∧ (q22.1 95).toInt ≤ 0 := by rw [n_q22.1 95 rfl]; exact f_q16_95
              have e_q22_31 : (q22.1 31).toInt = (q16.1 31).toInt := congrArg Int32.toInt (n_q22.1 31 rfl)
              have g_q22_31 : (0 : Int) ≤ (q22.1 31).toInt ∧ (q22.1 31).toInt ≤ 200 := k_q22.1 31
              have e_q22_37 : (q22.1 37).toInt = (q16.1 37).toInt := congrArg Int32.toInt (n_q22.1 37 rfl)
              have g_q22_37 : (0 : Int) ≤ (q22.1 37).toInt ∧ (q22.1 37).toInt ≤ 9 := k_q22.1 37
              have e_q22_38 : (q22.1 38).toInt = (q16.1 38).toInt := congrArg Int32.toInt (n_q22.1 38 rfl)
              have e_q22_39 : (q22.1 39).toInt = (q16.1 39).toInt := congrArg Int32.toInt (n_q22.1 39 rfl)
              have g_q22_39 : (0 : Int) ≤ (q22.1 39).toInt ∧ (q22.1 39).toInt ≤ 8 := k_q22.1 39
              have e_q22_40 : (q22.1 40).toInt = (q16.1 40).toInt := congrArg Int32.toInt (n_q22.1 40 rfl)
              have g_q22_40 : (0 : Int) ≤ (q22.1 40).toInt ∧ (q22.1 40).toInt ≤ 6 := k_q22.1 40
              have e_q22_43 : (q22.1 43).toInt = (q16.1 43).toInt := congrArg Int32.toInt (n_q22.1 43 rfl)
              have g_q22_43 : (0 : Int) ≤ (q22.1 43).toInt ∧ (q22.1 43).toInt ≤ 200 := k_q22.1 43
              have e_q22_64 : (q22.1 64).toInt = (q16.1 64).toInt := congrArg Int32.toInt (n_q22.1 64 rfl)
              have g_q22_64 : (0 : Int) ≤ (q22.1 64).toInt ∧ (q22.1 64).toInt ≤ 1 := k_q22.1 64
              have e_q22_65 : (q22.1 65).toInt = (q16.1 65).toInt := congrArg Int32.toInt (n_q22.1 65 rfl)
              have g_q22_65 : (0 : Int) ≤ (q22.1 65).toInt ∧ (q22.1 65).toInt ≤ 5 := k_q22.1 65
              have u23 : Lk (-1) ((q22.1 39).toInt + 1) (q22.1 43).toInt (q22.1 40).toInt (q22.2.1 47) (q22.2.1 44) (q22.2.1 45) (q22.2.1 49) (q22.2.1 48) := by rw [n_q22.1 39 rfl, n_q22.1 40 rfl, n_q22.1 43 rfl, n_q22.2.1 44 rfl, n_q22.2.1 45 rfl, n_q22.2.1 47 rfl, n_q22.2.1 48 rfl, n_q22.2.1 49 rfl]; exact zq16_0
              have u24 : Ap ((q22.1 39).toInt + 1) (q22.1 43).toInt (q22.2.1 44) (q22.2.1 45) (q22.2.1 49) (q22.2.1 48) (q22.2.1 50) := by rw [n_q22.1 39 rfl, n_q22.1 43 rfl, n_q22.2.1 44 rfl, n_q22.2.1 45 rfl, n_q22.2.1 48 rfl, n_q22.2.1 49 rfl, n_q22.2.1 50 rfl]; exact zq16_1
              have u25 : Ch (q22.1 64) (q22.1 73) (q22.1 39) (q22.1 43) (q22.2.1 74) := by rw [n_q22.1 39 rfl, n_q22.1 43 rfl, n_q22.1 64 rfl, n_q22.1 73 rfl, n_q22.2.1 74 rfl]; exact u17
              have u26 : Lmd (q22.1 64).toInt (q22.1 65).toInt := by rw [n_q22.1 64 rfl, n_q22.1 65 rfl]; exact u18
              have u27 : Gx ((q22.1 39).toInt + 1) (q22.1 43).toInt (q22.2.1 44) (q22.2.1 45) := by rw [n_q22.1 39 rfl, n_q22.1 43 rfl, n_q22.2.1 44 rfl, n_q22.2.1 45 rfl]; exact u19
              have u28 : No (q22.1 40).toInt ((q22.1 39).toInt + 1 + (q22.1 43).toInt) (q22.2.1 47) := by rw [n_q22.1 39 rfl, n_q22.1 40 rfl, n_q22.1 43 rfl, n_q22.2.1 47 rfl]; exact u20
              have u29 : Hc (q22.1 64).toInt ((q22.1 39).toInt + 1) (q22.1 43).toInt (q22.1 65).toInt (q22.2.1 44) (q22.2.1 45) := by rw [n_q22.1 39 rfl, n_q22.1 43 rfl, n_q22.1 64 rfl, n_q22.1 65 rfl, n_q22.2.1 44 rfl, n_q22.2.1 45 rfl]; exact u21
              try unfold fM_base
              try unfold fM_base_0
              refine tt_bkv (P := fun z => ((1 : Int) ≤ z.toInt ∧ z.toInt ≤ 9) ∧ z = ((q22.1 39) + 1) ∧ z.toInt = (q22.1 39).toInt + 1) ⟨iv_add (k_q22.1 39) (show (1 : Int) ≤ (1 : Int32).toInt ∧ (1 : Int32).toInt ≤ 1 by decide) (by decide) (by decide) (by decide) (by decide), rfl, iq_add (k_q22.1 39) (show (1 : Int) ≤ (1 : Int32).toInt ∧ (1 : Int32).toInt ≤ 1 by decide) (by decide) (by decide)⟩ (fun x30 qi31 => ?_)
              obtain ⟨i31, ax30, ei31⟩ := qi31
              refine tt_bs ?_
              refine tt_b (sM_begin _ _ k_q22 i31 f_q22_0 f_q22_95) (fun q32 hq32 => ?_)
              obtain ⟨k_q32, n_q32, f_q32_31, f_q32_36, f_q32_37, zq32_0, zq32_1, -⟩ := hq32
              have r_q32 := fr_tr r_q22 n_q32 rfl rfl rfl
              have f_q32_0 : (0 : Int) ≤ (q32.1 0).toInt ∧ (q32.1 0).toInt ≤ 2 := by rw [n_q32.1 0 rfl]; exact f_q22_0
              have f_q32_38 : (1 : Int) ≤ (q32.1 38).toInt ∧ (q32.1 38).toInt ≤ 1 := by rw [n_q32.1 38 rfl]; exact f_q22_38
              have f_q32_95 : (0 : Int) ≤ (q32.1 95).toInt ∧ (q32.1 95).toInt ≤ 0 := by rw [n_q32.1 95 rfl]; exact f_q22_95
              have e_q32_38 : (q32.1 38).toInt = (q22.1 38).toInt := congrArg Int32.toInt (n_q32.1 38 rfl)
              have e_q32_39 : (q32.1 39).toInt = (q22.1 39).toInt := congrArg Int32.toInt (n_q32.1 39 rfl)
              have g_q32_39 : (0 : Int) ≤ (q32.1 39).toInt ∧ (q32.1 39).toInt ≤ 8 := k_q32.1 39
              have e_q32_40 : (q32.1 40).toInt = (q22.1 40).toInt := congrArg Int32.toInt (n_q32.1 40 rfl)
              have g_q32_40 : (0 : Int) ≤ (q32.1 40).toInt ∧ (q32.1 40).toInt ≤ 6 := k_q32.1 40
              have e_q32_43 : (q32.1 43).toInt = (q22.1 43).toInt := congrArg Int32.toInt (n_q32.1 43 rfl)
              have g_q32_43 : (0 : Int) ≤ (q32.1 43).toInt ∧ (q32.1 43).toInt ≤ 200 := k_q32.1 43
              have e_q32_64 : (q32.1 64).toInt = (q22.1 64).toInt := congrArg Int32.toInt (n_q32.1 64 rfl)
              have g_q32_64 : (0 : Int) ≤ (q32.1 64).toInt ∧ (q32.1 64).toInt ≤ 1 := k_q32.1 64
              have e_q32_65 : (q32.1 65).toInt = (q22.1 65).toInt := congrArg Int32.toInt (n_q32.1 65 rfl)
              have g_q32_65 : (0 : Int) ≤ (q32.1 65).toInt ∧ (q32.1 65).toInt ≤ 5 := k_q32.1 65
              have zq32_0 : (q32.1 31).toInt = 0 := zq32_0
              have zq32_1 : (q32.1 37).toInt = x30.toInt := zq32_1
              have u33 : Lk (-1) ((q32.1 39).toInt + 1) (q32.1 43).toInt (q32.1 40).toInt (q32.2.1 47) (q32.2.1 44) (q32.2.1 45) (q32.2.1 49) (q32.2.1 48) := by rw [n_q32.1 39 rfl, n_q32.1 40 rfl, n_q32.1 43 rfl, n_q32.2.1 44 rfl, n_q32.2.1 45 rfl, n_q32.2.1 47 rfl, n_q32.2.1 48 rfl, n_q32.2.1 49 rfl]; exact u23
              have u34 : Ap ((q32.1 39).toInt + 1) (q32.1 43).toInt (q32.2.1 44) (q32.2.1 45) (q32.2.1 49) (q32.2.1 48) (q32.2.1 50) := by rw [n_q32.1 39 rfl, n_q32.1 43 rfl, n_q32.2.1 44 rfl, n_q32.2.1 45 rfl, n_q32.2.1 48 rfl, n_q32.2.1 49 rfl, n_q32.2.1 50 rfl]; exact u24
              have u35 : Ch (q32.1 64) (q32.1 73) (q32.1 39) (q32.1 43) (q32.2.1 74) := by rw [n_q32.1 39 rfl, n_q32.1 43 rfl, n_q32.1 64 rfl, n_q32.1 73 rfl, n_q32.2.1 74 rfl]; exact u25
              have u36 : Lmd (q32.1 64).toInt (q32.1 65).toInt := by rw [n_q32.1 64 rfl, n_q32.1 65 rfl]; exact u26
              have u37 : Gx ((q32.1 39).toInt + 1) (q32.1 43).toInt (q32.2.1 44) (q32.2.1 45) := by rw [n_q32.1 39 rfl, n_q32.1 43 rfl, n_q32.2.1 44 rfl, n_q32.2.1 45 rfl]; exact u27
              have u38 : No (q32.1 40).toInt ((q32.1 39).toInt + 1 + (q32.1 43).toInt) (q32.2.1 47) := by rw [n_q32.1 39 rfl, n_q32.1 40 rfl, n_q32.1 43 rfl, n_q32.2.1 47 rfl]; exact u28
              have u39 : Hc (q32.1 64).toInt ((q32.1 39).toInt + 1) (q32.1 43).toInt (q32.1 65).toInt (q32.2.1 44) (q32.2.1 45) := by rw [n_q32.1 39 rfl, n_q32.1 43 rfl, n_q32.1 64 rfl, n_q32.1 65 rfl, n_q32.2.1 44 rfl, n_q32.2.1 45 rfl]; exact u29
              refine tt_b (sM_old _ k_q32 f_q32_0 f_q32_31 f_q32_36 f_q32_37 f_q32_38 f_q32_95) (fun q40 hq40 => ?_)
              obtain ⟨k_q40, n_q40, zq40_0, -⟩ := hq40
              have r_q40 := fr_tr r_q32 n_q40 rfl rfl rfl
              have f_q40_0 : (0 : Int) ≤ (q40.1 0).toInt ∧ (q40.1 0).toInt ≤ 2 := by rw [n_q40.1 0 rfl]; exact f_q32_0
              have f_q40_36 : (0 : Int) ≤ (q40.1 36).toInt ∧ (q40.1 36).toInt ≤ 0 := by rw [n_q40.1 36 rfl]; exact f_q32_36
              have f_q40_37 : (1 : Int) ≤ (q40.1 37).toInt ∧ (q40.1 37).toInt ≤ 9 := by rw [n_q40.1 37 rfl]; exact f_q32_37
              have f_q40_38 : (1 : Int) ≤ (q40.1 38).toInt ∧ (q40.1 38).toInt ≤ 1 := by rw [n_q40.1 38 rfl]; exact f_q32_38
              have f_q40_95 : (0 : Int) ≤ (q40.1 95).toInt ∧ (q40.1 95).toInt ≤ 0 := by rw [n_q40.1 95 rfl]; exact f_q32_95
              have f_q40_31 : (0 : Int) ≤ (q40.1 31).toInt ∧ (q40.1 31).toInt ≤ 0 := by rw [n_q40.1 31 rfl]; exact f_q32_31
              have e_q40_31 : (q40.1 31).toInt = (q32.1 31).toInt := congrArg Int32.toInt (n_q40.1 31 rfl)
              have e_q40_37 : (q40.1 37).toInt = (q32.1 37).toInt := congrArg Int32.toInt (n_q40.1 37 rfl)
              have e_q40_38 : (q40.1 38).toInt = (q32.1 38).toInt := congrArg Int32.toInt (n_q40.1 38 rfl)
              have e_q40_39 : (q40.1 39).toInt = (q32.1 39).toInt := congrArg Int32.toInt (n_q40.1 39 rfl)
              have g_q40_39 : (0 : Int) ≤ (q40.1 39).toInt ∧ (q40.1 39).toInt ≤ 8 := k_q40.1 39
              have e_q40_40 : (q40.1 40).toInt = (q32.1 40).toInt := congrArg Int32.toInt (n_q40.1 40 rfl)
              have g_q40_40 : (0 : Int) ≤ (q40.1 40).toInt ∧ (q40.1 40).toInt ≤ 6 := k_q40.1 40
              have e_q40_43 : (q40.1 43).toInt = (q32.1 43).toInt := congrArg Int32.toInt (n_q40.1 43 rfl)
              have g_q40_43 : (0 : Int) ≤ (q40.1 43).toInt ∧ (q40.1 43).toInt ≤ 200 := k_q40.1 43
              have e_q40_64 : (q40.1 64).toInt = (q32.1 64).toInt := congrArg Int32.toInt (n_q40.1 64 rfl)
              have g_q40_64 : (0 : Int) ≤ (q40.1 64).toInt ∧ (q40.1 64).toInt ≤ 1 := k_q40.1 64
              have e_q40_65 : (q40.1 65).toInt = (q32.1 65).toInt := congrArg Int32.toInt (n_q40.1 65 rfl)
              have g_q40_65 : (0 : Int) ≤ (q40.1 65).toInt ∧ (q40.1 65).toInt ≤ 5 := k_q40.1 65
              have u41 : Lk (-1) ((q40.1 39).toInt + 1) (q40.1 43).toInt (q40.1 40).toInt (q40.2.1 47) (q40.2.1 44) (q40.2.1 45) (q40.2.1 49) (q40.2.1 48) := by rw [n_q40.1 39 rfl, n_q40.1 40 rfl, n_q40.1 43 rfl, n_q40.2.1 44 rfl, n_q40.2.1 45 rfl, n_q40.2.1 47 rfl, n_q40.2.1 48 rfl, n_q40.2.1 49 rfl]; exact u33
              have u42 : Ap ((q40.1 39).toInt + 1) (q40.1 43).toInt (q40.2.1 44) (q40.2.1 45) (q40.2.1 49) (q40.2.1 48) (q40.2.1 50) := by rw [n_q40.1 39 rfl, n_q40.1 43 rfl, n_q40.2.1 44 rfl, n_q40.2.1 45 rfl, n_q40.2.1 48 rfl, n_q40.2.1 49 rfl, n_q40.2.1 50 rfl]; exact u34
              have u43 : Ch (q40.1 64) (q40.1 73) (q40.1 39) (q40.1 43) (q40.2.1 74) := by rw [n_q40.1 39 rfl, n_q40.1 43 rfl, n_q40.1 64 rfl, n_q40.1 73 rfl, n_q40.2.1 74 rfl]; exact u35
              have u44 : Lmd (q40.1 64).toInt (q40.1 65).toInt := by rw [n_q40.1 64 rfl, n_q40.1 65 rfl]; exact u36
              have u45 : Gx ((q40.1 39).toInt + 1) (q40.1 43).toInt (q40.2.1 44) (q40.2.1 45) := by rw [n_q40.1 39 rfl, n_q40.1 43 rfl, n_q40.2.1 44 rfl, n_q40.2.1 45 rfl]; exact u37
              have u46 : No (q40.1 40).toInt ((q40.1 39).toInt + 1 + (q40.1 43).toInt) (q40.2.1 47) := by rw [n_q40.1 39 rfl, n_q40.1 40 rfl, n_q40.1 43 rfl, n_q40.2.1 47 rfl]; exact u38
              have u47 : Hc (q40.1 64).toInt ((q40.1 39).toInt + 1) (q40.1 43).toInt (q40.1 65).toInt (q40.2.1 44) (q40.2.1 45) := by rw [n_q40.1 39 rfl, n_q40.1 43 rfl, n_q40.1 64 rfl, n_q40.1 65 rfl, n_q40.2.1 44 rfl, n_q40.2.1 45 rfl]; exact u39
              have p48 : Gx (q40.1 37).toInt (q40.1 31).toInt (q40.2.1 32) (q40.2.1 33) := by exact Gx_z (by omega)
              have p49 : Rn ((q40.1 39).toInt + 1 + 0) ((q40.1 39).toInt + 1) ((q40.1 37).toInt + (q40.1 31).toInt) (q40.2.1 49) (q40.2.1 51) := by exact Rn_0 (by assumption) (by omega) (by omega)
              exact H.1 _ _ k_q40 r_q40 (iv_w (a := 0) (b := 200) (by decide) (by decide) (show (0 : Int) ≤ (0 : Int32).toInt ∧ (0 : Int32).toInt ≤ 0 by decide)) f_q40_0 f_q40_37 f_q40_38 f_q40_95 u43 u44 u45 u46 p48 u41 p49 (show (q40.1 37).toInt = (q40.1 39).toInt + 1 by omega) (show 0 ≤ (q40.1 43).toInt by omega) u47 (show 0 + (200 - 0) * 420 < ((cfFU : Nat) : Int) by omega)
            · have wc15 : ¬ (0 : Int) = (0 : Int) := c_ne c15
              exact (dd_ne c15 (show (0 : Int) ≤ (0 : Int32).toInt ∧ (0 : Int32).toInt ≤ 0 by decide) (show (0 : Int) ≤ (0 : Int32).toInt ∧ (0 : Int32).toInt ≤ 0 by decide)).elim
          · have wc14 : (0 : Int) < (0 : Int) := c_nle c14
            exact (dd_nle c14 (show (0 : Int) ≤ (0 : Int32).toInt ∧ (0 : Int32).toInt ≤ 0 by decide) (show (0 : Int) ≤ (0 : Int32).toInt ∧ (0 : Int32).toInt ≤ 0 by decide) (by decide)).elim
        · have wc11 : ¬ (0 : Int) = (0 : Int) := c_ne c11
          exact (dd_ne c11 (show (0 : Int) ≤ (0 : Int32).toInt ∧ (0 : Int32).toInt ≤ 0 by decide) (show (0 : Int) ≤ (0 : Int32).toInt ∧ (0 : Int32).toInt ≤ 0 by decide)).elim
      · have wc10 : ¬ (0 : Int) = (0 : Int) := c_ne c10
        exact (dd_ne c10 (show (0 : Int) ≤ (0 : Int32).toInt ∧ (0 : Int32).toInt ≤ 0 by decide) (show (0 : Int) ≤ (0 : Int32).toInt ∧ (0 : Int32).toInt ≤ 0 by decide)).elim
    · have wc9 : ¬ (0 : Int) = (0 : Int) := c_ne c9
      exact (dd_ne c9 (show (0 : Int) ≤ (0 : Int32).toInt ∧ (0 : Int32).toInt ≤ 0 by decide) (show (0 : Int) ≤ (0 : Int32).toInt ∧ (0 : Int32).toInt ≤ 0 by decide)).elim
