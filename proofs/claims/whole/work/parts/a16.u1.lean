def QCo_full (v0 : Int32) (r : (Int32)) : Prop := (((-1) : Int) ≤ r.toInt ∧ r.toInt ≤ 65535) ∧ (Ful r.toInt v0.toInt) ∧ True
set_option maxHeartbeats 4000000 in
set_option maxRecDepth 100000 in
theorem sCo_full (v0 : Int32) (i_v0 : (0 : Int) ≤ v0.toInt ∧ v0.toInt ≤ 5) : tt (fCo_full v0) (QCo_full v0) := by
  unfold fCo_full fCo_full_0
  refine tt_if (fun c1 => ?_) (fun c1 => ?_)
  · have wc1 : v0.toInt = (5 : Int) := c_eq c1
    have i2 : (5 : Int) ≤ v0.toInt ∧ v0.toInt ≤ 5 := nr_eql c1 i_v0 (show (5 : Int) ≤ (5 : Int32).toInt ∧ (5 : Int32).toInt ≤ 5 by decide) (by decide) (by decide)
    try unfold fCo_full_16
    have p3 : Ful (-1) v0.toInt := by first | exact fun h => absurd h (by omega) | exact Ful_i (show _ = (1 : Int32) <<< (v0 &&& 31) by assumption) (by assumption) (by assumption) (by omega)
    exact tt_some ⟨(iv_w (a := (-1)) (b := 65535) (by decide) (by decide) (show ((-1) : Int) ≤ ((-1) : Int32).toInt ∧ ((-1) : Int32).toInt ≤ (-1) by decide)), p3, trivial⟩
  · have wc1 : ¬ v0.toInt = (5 : Int) := c_ne c1
    have i4 : (0 : Int) ≤ v0.toInt ∧ v0.toInt ≤ 4 := nr_nelb c1 i_v0 (show (5 : Int) ≤ (5 : Int32).toInt ∧ (5 : Int32).toInt ≤ 5 by decide) (by decide) (by decide)
    refine tt_kv (P := fun z => ((1 : Int) ≤ z.toInt ∧ z.toInt ≤ 16) ∧ z = ((1 : Int32) <<< (v0 &&& 31)) ∧ z.toInt = ((1 : Int32) <<< (v0 &&& (31 : Int32))).toInt) ⟨iv_shl (p := 0) (q := 4) (show (1 : Int) ≤ (1 : Int32).toInt ∧ (1 : Int32).toInt ≤ 1 by decide) i4 (by decide) (by decide) (by decide) (by decide) (by decide), rfl, rfl⟩ (fun x5 qi6 => ?_)
    obtain ⟨i6, ax5, ei6⟩ := qi6
    refine tt_kv (P := fun z => ((2 : Int) ≤ z.toInt ∧ z.toInt ≤ 65536) ∧ z = ((1 : Int32) <<< (x5 &&& 31)) ∧ z.toInt = ((1 : Int32) <<< (x5 &&& (31 : Int32))).toInt) ⟨iv_shl (p := 1) (q := 16) (show (1 : Int) ≤ (1 : Int32).toInt ∧ (1 : Int32).toInt ≤ 1 by decide) i6 (by decide) (by decide) (by decide) (by decide) (by decide), rfl, rfl⟩ (fun x7 qi8 => ?_)
    obtain ⟨i8, ax7, ei8⟩ := qi8
    refine tt_kv (P := fun z => ((1 : Int) ≤ z.toInt ∧ z.toInt ≤ 65535) ∧ z = (x7 - 1) ∧ z.toInt = x7.toInt - 1) ⟨iv_sub i8 (show (1 : Int) ≤ (1 : Int32).toInt ∧ (1 : Int32).toInt ≤ 1 by decide) (by decide) (by decide) (by decide) (by decide), rfl, iq_sub i8 (show (1 : Int) ≤ (1 : Int32).toInt ∧ (1 : Int32).toInt ≤ 1 by decide) (by decide) (by decide)⟩ (fun x9 qi10 => ?_)
    obtain ⟨i10, ax9, ei10⟩ := qi10
    try unfold fCo_full_16
    have p11 : Ful x9.toInt v0.toInt := by first | exact fun h => absurd h (by omega) | exact Ful_i (show _ = (1 : Int32) <<< (v0 &&& 31) by assumption) (by assumption) (by assumption) (by omega)
    exact tt_some ⟨(iv_w (a := (-1)) (b := 65535) (by decide) (by decide) i10), p11, trivial⟩
def QCo_isBetween (v1 : Int32) (o0 : cf_O) (r : (Int32)) : Prop := ((0 : Int) ≤ r.toInt ∧ r.toInt ≤ 1) ∧ True
set_option maxHeartbeats 4000000 in
set_option maxRecDepth 100000 in
theorem sCo_isBetween (v1 : Int32) (o0 : cf_O) (k_o0 : okO I_Co o0) (i_v1 : (1 : Int) ≤ v1.toInt ∧ v1.toInt ≤ 208) : tt (fCo_isBetween v1 o0) (QCo_isBetween v1 o0) := by
  have r_o0 : Fr (fr_M [] [] []) o0 o0 := fr_rfl
  unfold fCo_isBetween fCo_isBetween_0
  refine tt_n (ix_ok i_v1 (by decide) (by decide)) ?_
  refine tt_kv (P := fun z => (0 : Int) ≤ z.toInt ∧ z.toInt ≤ 2) (k_o0.2 3 _) (fun x1 i2 => ?_)
  refine tt_if (fun c3 => ?_) (fun c3 => ?_)
  · have i4 : (1 : Int) ≤ x1.toInt ∧ x1.toInt ≤ 1 := nr_eql c3 i2 (show (1 : Int) ≤ (1 : Int32).toInt ∧ (1 : Int32).toInt ≤ 1 by decide) (by decide) (by decide)
    try unfold fCo_isBetween_15
    refine tt_w (iv_b (show (1 : Int) ≤ (1 : Int32).toInt ∧ (1 : Int32).toInt ≤ 1 by decide) (by decide) (by decide)) ?_
    exact tt_some ⟨(iv_w (a := 0) (b := 1) (by decide) (by decide) (show (1 : Int) ≤ (1 : Int32).toInt ∧ (1 : Int32).toInt ≤ 1 by decide)), trivial⟩
  · try unfold fCo_isBetween_15
    refine tt_w (iv_b (show (0 : Int) ≤ (0 : Int32).toInt ∧ (0 : Int32).toInt ≤ 0 by decide) (by decide) (by decide)) ?_
    exact tt_some ⟨(iv_w (a := 0) (b := 1) (by decide) (by decide) (show (0 : Int) ≤ (0 : Int32).toInt ∧ (0 : Int32).toInt ≤ 0 by decide)), trivial⟩
def QJArrays_fill_AII_Co3 (v1 : Int32) (o0 : cf_O) (r : (cf_O)) : Prop := (okO I_Co r) ∧ (Fr (fr_M [] [3] []) o0 r) ∧ True
def HJArrays_fill_AII_Co3 (yv1 : Int32) (yo0 : cf_O) (n : Nat) : Prop := (∀ (v1 : Int32) (v2 : Int32) (v3 : Int32) (o0 : cf_O), (okO I_Co o0) → (Fr (fr_M [] [3] []) yo0 o0) → ((0 : Int) ≤ v1.toInt ∧ v1.toInt ≤ 0) → ((0 : Int) ≤ v2.toInt ∧ v2.toInt ≤ 209) → ((209 : Int) ≤ v3.toInt ∧ v3.toInt ≤ 209) → 0 + (209 - v2.toInt) * 2 < (n : Int) → tt (gJArrays_fill_AII_Co3 n 0 v1 v2 v3 o0) (QJArrays_fill_AII_Co3 yv1 yo0))
set_option maxHeartbeats 4000000 in
set_option maxRecDepth 100000 in
theorem tJArrays_fill_AII_Co3_5 {yv1 : Int32} {yo0 : cf_O} {n : Nat} (H : HJArrays_fill_AII_Co3 yv1 yo0 n) (v1 : Int32) (v2 : Int32) (v3 : Int32) (o0 : cf_O) (k_o0 : okO I_Co o0) (r_o0 : Fr (fr_M [] [3] []) yo0 o0) (i_v1 : (0 : Int) ≤ v1.toInt ∧ v1.toInt ≤ 0) (i_v2 : (0 : Int) ≤ v2.toInt ∧ v2.toInt ≤ 209) (i_v3 : (209 : Int) ≤ v3.toInt ∧ v3.toInt ≤ 209) (hm : 0 + (209 - v2.toInt) * 2 ≤ (n : Int)) : tt (fJArrays_fill_AII_Co3_5 (gJArrays_fill_AII_Co3 n) v1 v2 v3 o0) (QJArrays_fill_AII_Co3 yv1 yo0) := by
  unfold fJArrays_fill_AII_Co3_5
  refine tt_if (fun c1 => ?_) (fun c1 => ?_)
  · have i2 : (209 : Int) ≤ v2.toInt ∧ v2.toInt ≤ 209 := nr_ler c1 i_v3 i_v2 (by decide) (by decide)
    exact tt_some ⟨k_o0, r_o0, trivial⟩
  · have i3 : (0 : Int) ≤ v2.toInt ∧ v2.toInt ≤ 208 := nr_nlel c1 i_v2 i_v3 (by decide) (by decide)
    refine tt_n (ix_ok i3 (by decide) (by decide)) ?_
    refine tt_ko ?_
    have k4 := ok_xp (k := 3) (i := v2.toNatClampNeg) (v := v1) k_o0 (iv_w (a := 0) (b := 2) (by decide) (by decide) i_v1)
    have r5 := fr_xp (k := 3) (i := v2.toNatClampNeg) (v := v1) r_o0 rfl
    refine tt_kv (P := fun z => ((1 : Int) ≤ z.toInt ∧ z.toInt ≤ 209) ∧ z.toInt = v2.toInt + 1) ⟨iv_add i3 (show (1 : Int) ≤ (1 : Int32).toInt ∧ (1 : Int32).toInt ≤ 1 by decide) (by decide) (by decide) (by decide) (by decide), iq_add i3 (show (1 : Int) ≤ (1 : Int32).toInt ∧ (1 : Int32).toInt ≤ 1 by decide) (by decide) (by decide)⟩ (fun x6 qi7 => ?_)
    obtain ⟨i7, ei7⟩ := qi7
    exact H _ _ _ _ k4 r5 i_v1 (iv_w (a := 0) (b := 209) (by decide) (by decide) i7) i_v3 (show 0 + (209 - x6.toInt) * 2 < (n : Int) by omega)
set_option maxHeartbeats 4000000 in
set_option maxRecDepth 100000 in
theorem hJArrays_fill_AII_Co3 (yv1 : Int32) (yo0 : cf_O) : ∀ n, HJArrays_fill_AII_Co3 yv1 yo0 n := by
  intro n
  induction n with
  | zero => exact (fun v1 v2 v3 o0 k_o0 r_o0 i_v1 i_v2 i_v3 hm => by exact absurd (show 0 + (209 - v2.toInt) * 2 < (0 : Int) from hm) (by omega))
  | succ n ih => exact (fun v1 v2 v3 o0 k_o0 r_o0 i_v1 i_v2 i_v3 hm => tJArrays_fill_AII_Co3_5 ih v1 v2 v3 o0 k_o0 r_o0 i_v1 i_v2 i_v3 (by omega))
set_option maxHeartbeats 4000000 in
set_option maxRecDepth 100000 in
theorem sJArrays_fill_AII_Co3 (v1 : Int32) (o0 : cf_O) (k_o0 : okO I_Co o0) (i_v1 : (0 : Int) ≤ v1.toInt ∧ v1.toInt ≤ 0) : tt (fJArrays_fill_AII_Co3 v1 o0) (QJArrays_fill_AII_Co3 v1 o0) := by
  have H := hJArrays_fill_AII_Co3 v1 o0 cfFU
  have hm : (421 : Int) ≤ (cfFU : Nat) := by decide
  have r_o0 : Fr (fr_M [] [3] []) o0 o0 := fr_rfl
  unfold fJArrays_fill_AII_Co3 fJArrays_fill_AII_Co3_0
  exact H _ _ _ _ k_o0 r_o0 i_v1 (iv_w (a := 0) (b := 209) (by decide) (by decide) (show (0 : Int) ≤ (0 : Int32).toInt ∧ (0 : Int32).toInt ≤ 0 by decide)) (show (209 : Int) ≤ (209 : Int32).toInt ∧ (209 : Int32).toInt ≤ 209 by decide) (show 0 + (209 - 0) * 2 < ((cfFU : Nat) : Int) by omega)
def QJInteger_numberOfLeadingZeros_I (v0 : Int32) (r : (Int32)) : Prop := ((0 : Int) ≤ r.toInt ∧ r.toInt ≤ 32) ∧ (256 ≤ v0.toInt ∨ v0.toInt ≤ 0 ∨ 24 ≤ r.toInt) ∧ (16777216 ≤ v0.toInt ∨ v0.toInt < 0 ∨ 8 ≤ r.toInt) ∧ True
set_option maxHeartbeats 4000000 in
set_option maxRecDepth 100000 in
theorem sJInteger_numberOfLeadingZeros_I (v0 : Int32)  : tt (fJInteger_numberOfLeadingZeros_I v0) (QJInteger_numberOfLeadingZeros_I v0) := by
  unfold fJInteger_numberOfLeadingZeros_I fJInteger_numberOfLeadingZeros_I_0
  have i_v0 := iv_top v0
  refine tt_if (fun c1 => ?_) (fun c1 => ?_)
  · have wc1 : (0 : Int) < v0.toInt := c_lt c1
    have i2 : (1 : Int) ≤ v0.toInt ∧ v0.toInt ≤ 2147483647 := nr_ltr c1 (show (0 : Int) ≤ (0 : Int32).toInt ∧ (0 : Int32).toInt ≤ 0 by decide) (iv_top v0) (by decide) (by decide)
    refine tt_if (fun c3 => ?_) (fun c3 => ?_)
    · have wc3 : v0.toInt < (65536 : Int) := c_lt c3
      have i4 : (1 : Int) ≤ v0.toInt ∧ v0.toInt ≤ 65535 := nr_ltl c3 i2 (show (65536 : Int) ≤ (65536 : Int32).toInt ∧ (65536 : Int32).toInt ≤ 65536 by decide) (by decide) (by decide)
      try unfold fJInteger_numberOfLeadingZeros_I_33
      refine tt_if (fun c5 => ?_) (fun c5 => ?_)
      · have wc5 : v0.toInt < (256 : Int) := c_lt c5
        have i6 : (1 : Int) ≤ v0.toInt ∧ v0.toInt ≤ 255 := nr_ltl c5 i4 (show (256 : Int) ≤ (256 : Int32).toInt ∧ (256 : Int32).toInt ≤ 256 by decide) (by decide) (by decide)
        try unfold fJInteger_numberOfLeadingZeros_I_48
        refine tt_if (fun c7 => ?_) (fun c7 => ?_)
        · have wc7 : v0.toInt < (16 : Int) := c_lt c7
          have i8 : (1 : Int) ≤ v0.toInt ∧ v0.toInt ≤ 15 := nr_ltl c7 i6 (show (16 : Int) ≤ (16 : Int32).toInt ∧ (16 : Int32).toInt ≤ 16 by decide) (by decide) (by decide)
          try unfold fJInteger_numberOfLeadingZeros_I_61
          refine tt_if (fun c9 => ?_) (fun c9 => ?_)
          · have wc9 : v0.toInt < (4 : Int) := c_lt c9
            have i10 : (1 : Int) ≤ v0.toInt ∧ v0.toInt ≤ 3 := nr_ltl c9 i8 (show (4 : Int) ≤ (4 : Int32).toInt ∧ (4 : Int32).toInt ≤ 4 by decide) (by decide) (by decide)
            try unfold fJInteger_numberOfLeadingZeros_I_73
            refine tt_kv (P := fun z => ((0 : Int) ≤ z.toInt ∧ z.toInt ≤ 1) ∧ z = (v0.toUInt32 >>> ((1 : Int32).toUInt32 &&& (31 : Int32).toUInt32)).toInt32) ⟨iv_ushr (k := 1) i10 (by decide) (by decide) (by decide) (by decide) (by decide), rfl⟩ (fun x11 qi12 => ?_)
            obtain ⟨i12, ax11⟩ := qi12
            refine tt_kv (P := fun z => ((30 : Int) ≤ z.toInt ∧ z.toInt ≤ 31) ∧ z = (31 - x11) ∧ z.toInt = 31 - x11.toInt) ⟨iv_sub (show (31 : Int) ≤ (31 : Int32).toInt ∧ (31 : Int32).toInt ≤ 31 by decide) i12 (by decide) (by decide) (by decide) (by decide), rfl, iq_sub (show (31 : Int) ≤ (31 : Int32).toInt ∧ (31 : Int32).toInt ≤ 31 by decide) i12 (by decide) (by decide)⟩ (fun x13 qi14 => ?_)
            obtain ⟨i14, ax13, ei14⟩ := qi14
            exact tt_some ⟨(iv_w (a := 0) (b := 32) (by decide) (by decide) i14), (show 256 ≤ v0.toInt ∨ v0.toInt ≤ 0 ∨ 24 ≤ x13.toInt by omega), (show 16777216 ≤ v0.toInt ∨ v0.toInt < 0 ∨ 8 ≤ x13.toInt by omega), trivial⟩
          · have wc9 : (4 : Int) ≤ v0.toInt := c_nlt c9
            have i15 : (4 : Int) ≤ v0.toInt ∧ v0.toInt ≤ 15 := nr_nltr c9 (show (4 : Int) ≤ (4 : Int32).toInt ∧ (4 : Int32).toInt ≤ 4 by decide) i8 (by decide) (by decide)
            refine tt_kv (P := fun z => ((29 : Int) ≤ z.toInt ∧ z.toInt ≤ 29) ∧ z = (31 + (-2)) ∧ z.toInt = 31 + (-2)) ⟨iv_add (show (31 : Int) ≤ (31 : Int32).toInt ∧ (31 : Int32).toInt ≤ 31 by decide) (show ((-2) : Int) ≤ ((-2) : Int32).toInt ∧ ((-2) : Int32).toInt ≤ (-2) by decide) (by decide) (by decide) (by decide) (by decide), rfl, iq_add (show (31 : Int) ≤ (31 : Int32).toInt ∧ (31 : Int32).toInt ≤ 31 by decide) (show ((-2) : Int) ≤ ((-2) : Int32).toInt ∧ ((-2) : Int32).toInt ≤ (-2) by decide) (by decide) (by decide)⟩ (fun x16 qi17 => ?_)
            obtain ⟨i17, ax16, ei17⟩ := qi17
            refine tt_kv (P := fun z => ((1 : Int) ≤ z.toInt ∧ z.toInt ≤ 3) ∧ z = (v0.toUInt32 >>> ((2 : Int32).toUInt32 &&& (31 : Int32).toUInt32)).toInt32) ⟨iv_ushr (k := 2) i15 (by decide) (by decide) (by decide) (by decide) (by decide), rfl⟩ (fun x18 qi19 => ?_)
            obtain ⟨i19, ax18⟩ := qi19
            try unfold fJInteger_numberOfLeadingZeros_I_73
            refine tt_kv (P := fun z => ((0 : Int) ≤ z.toInt ∧ z.toInt ≤ 1) ∧ z = (x18.toUInt32 >>> ((1 : Int32).toUInt32 &&& (31 : Int32).toUInt32)).toInt32) ⟨iv_ushr (k := 1) i19 (by decide) (by decide) (by decide) (by decide) (by decide), rfl⟩ (fun x20 qi21 => ?_)
            obtain ⟨i21, ax20⟩ := qi21
            refine tt_kv (P := fun z => ((28 : Int) ≤ z.toInt ∧ z.toInt ≤ 29) ∧ z = (x16 - x20) ∧ z.toInt = x16.toInt - x20.toInt) ⟨iv_sub i17 i21 (by decide) (by decide) (by decide) (by decide), rfl, iq_sub i17 i21 (by decide) (by decide)⟩ (fun x22 qi23 => ?_)
            obtain ⟨i23, ax22, ei23⟩ := qi23
            exact tt_some ⟨(iv_w (a := 0) (b := 32) (by decide) (by decide) i23), (show 256 ≤ v0.toInt ∨ v0.toInt ≤ 0 ∨ 24 ≤ x22.toInt by omega), (show 16777216 ≤ v0.toInt ∨ v0.toInt < 0 ∨ 8 ≤ x22.toInt by omega), trivial⟩
        · have wc7 : (16 : Int) ≤ v0.toInt := c_nlt c7
          have i24 : (16 : Int) ≤ v0.toInt ∧ v0.toInt ≤ 255 := nr_nltr c7 (show (16 : Int) ≤ (16 : Int32).toInt ∧ (16 : Int32).toInt ≤ 16 by decide) i6 (by decide) (by decide)
          refine tt_kv (P := fun z => ((27 : Int) ≤ z.toInt ∧ z.toInt ≤ 27) ∧ z = (31 + (-4)) ∧ z.toInt = 31 + (-4)) ⟨iv_add (show (31 : Int) ≤ (31 : Int32).toInt ∧ (31 : Int32).toInt ≤ 31 by decide) (show ((-4) : Int) ≤ ((-4) : Int32).toInt ∧ ((-4) : Int32).toInt ≤ (-4) by decide) (by decide) (by decide) (by decide) (by decide), rfl, iq_add (show (31 : Int) ≤ (31 : Int32).toInt ∧ (31 : Int32).toInt ≤ 31 by decide) (show ((-4) : Int) ≤ ((-4) : Int32).toInt ∧ ((-4) : Int32).toInt ≤ (-4) by decide) (by decide) (by decide)⟩ (fun x25 qi26 => ?_)
          obtain ⟨i26, ax25, ei26⟩ := qi26
          refine tt_kv (P := fun z => ((1 : Int) ≤ z.toInt ∧ z.toInt ≤ 15) ∧ z = (v0.toUInt32 >>> ((4 : Int32).toUInt32 &&& (31 : Int32).toUInt32)).toInt32) ⟨iv_ushr (k := 4) i24 (by decide) (by decide) (by decide) (by decide) (by decide), rfl⟩ (fun x27 qi28 => ?_)
          obtain ⟨i28, ax27⟩ := qi28
          try unfold fJInteger_numberOfLeadingZeros_I_61
          refine tt_if (fun c29 => ?_) (fun c29 => ?_)
          · have wc29 : x27.toInt < (4 : Int) := c_lt c29
            have i30 : (1 : Int) ≤ x27.toInt ∧ x27.toInt ≤ 3 := nr_ltl c29 i28 (show (4 : Int) ≤ (4 : Int32).toInt ∧ (4 : Int32).toInt ≤ 4 by decide) (by decide) (by decide)
            try unfold fJInteger_numberOfLeadingZeros_I_73
            refine tt_kv (P := fun z => ((0 : Int) ≤ z.toInt ∧ z.toInt ≤ 1) ∧ z = (x27.toUInt32 >>> ((1 : Int32).toUInt32 &&& (31 : Int32).toUInt32)).toInt32) ⟨iv_ushr (k := 1) i30 (by decide) (by decide) (by decide) (by decide) (by decide), rfl⟩ (fun x31 qi32 => ?_)
            obtain ⟨i32, ax31⟩ := qi32
            refine tt_kv (P := fun z => ((26 : Int) ≤ z.toInt ∧ z.toInt ≤ 27) ∧ z = (x25 - x31) ∧ z.toInt = x25.toInt - x31.toInt) ⟨iv_sub i26 i32 (by decide) (by decide) (by decide) (by decide), rfl, iq_sub i26 i32 (by decide) (by decide)⟩ (fun x33 qi34 => ?_)
            obtain ⟨i34, ax33, ei34⟩ := qi34
            exact tt_some ⟨(iv_w (a := 0) (b := 32) (by decide) (by decide) i34), (show 256 ≤ v0.toInt ∨ v0.toInt ≤ 0 ∨ 24 ≤ x33.toInt by omega), (show 16777216 ≤ v0.toInt ∨ v0.toInt < 0 ∨ 8 ≤ x33.toInt by omega), trivial⟩
          · have wc29 : (4 : Int) ≤ x27.toInt := c_nlt c29
            have i35 : (4 : Int) ≤ x27.toInt ∧ x27.toInt ≤ 15 := nr_nltr c29 (show (4 : Int) ≤ (4 : Int32).toInt ∧ (4 : Int32).toInt ≤ 4 by decide) i28 (by decide) (by decide)
            refine tt_kv (P := fun z => ((25 : Int) ≤ z.toInt ∧ z.toInt ≤ 25) ∧ z = (x25 + (-2)) ∧ z.toInt = x25.toInt + (-2)) ⟨iv_add i26 (show ((-2) : Int) ≤ ((-2) : Int32).toInt ∧ ((-2) : Int32).toInt ≤ (-2) by decide) (by decide) (by decide) (by decide) (by decide), rfl, iq_add i26 (show ((-2) : Int) ≤ ((-2) : Int32).toInt ∧ ((-2) : Int32).toInt ≤ (-2) by decide) (by decide) (by decide)⟩ (fun x36 qi37 => ?_)
            obtain ⟨i37, ax36, ei37⟩ := qi37
            refine tt_kv (P := fun z => ((1 : Int) ≤ z.toInt ∧ z.toInt ≤ 3) ∧ z = (x27.toUInt32 >>> ((2 : Int32).toUInt32 &&& (31 : Int32).toUInt32)).toInt32) ⟨iv_ushr (k := 2) i35 (by decide) (by decide) (by decide) (by decide) (by decide), rfl⟩ (fun x38 qi39 => ?_)
            obtain ⟨i39, ax38⟩ := qi39
            try unfold fJInteger_numberOfLeadingZeros_I_73
            refine tt_kv (P := fun z => ((0 : Int) ≤ z.toInt ∧ z.toInt ≤ 1) ∧ z = (x38.toUInt32 >>> ((1 : Int32).toUInt32 &&& (31 : Int32).toUInt32)).toInt32) ⟨iv_ushr (k := 1) i39 (by decide) (by decide) (by decide) (by decide) (by decide), rfl⟩ (fun x40 qi41 => ?_)
            obtain ⟨i41, ax40⟩ := qi41
            refine tt_kv (P := fun z => ((24 : Int) ≤ z.toInt ∧ z.toInt ≤ 25) ∧ z = (x36 - x40) ∧ z.toInt = x36.toInt - x40.toInt) ⟨iv_sub i37 i41 (by decide) (by decide) (by decide) (by decide), rfl, iq_sub i37 i41 (by decide) (by decide)⟩ (fun x42 qi43 => ?_)
            obtain ⟨i43, ax42, ei43⟩ := qi43
            exact tt_some ⟨(iv_w (a := 0) (b := 32) (by decide) (by decide) i43), (show 256 ≤ v0.toInt ∨ v0.toInt ≤ 0 ∨ 24 ≤ x42.toInt by omega), (show 16777216 ≤ v0.toInt ∨ v0.toInt < 0 ∨ 8 ≤ x42.toInt by omega), trivial⟩
      · have wc5 : (256 : Int) ≤ v0.toInt := c_nlt c5
        have i44 : (256 : Int) ≤ v0.toInt ∧ v0.toInt ≤ 65535 := nr_nltr c5 (show (256 : Int) ≤ (256 : Int32).toInt ∧ (256 : Int32).toInt ≤ 256 by decide) i4 (by decide) (by decide)
        refine tt_kv (P := fun z => ((23 : Int) ≤ z.toInt ∧ z.toInt ≤ 23) ∧ z = (31 + (-8)) ∧ z.toInt = 31 + (-8)) ⟨iv_add (show (31 : Int) ≤ (31 : Int32).toInt ∧ (31 : Int32).toInt ≤ 31 by decide) (show ((-8) : Int) ≤ ((-8) : Int32).toInt ∧ ((-8) : Int32).toInt ≤ (-8) by decide) (by decide) (by decide) (by decide) (by decide), rfl, iq_add (show (31 : Int) ≤ (31 : Int32).toInt ∧ (31 : Int32).toInt ≤ 31 by decide) (show ((-8) : Int) ≤ ((-8) : Int32).toInt ∧ ((-8) : Int32).toInt ≤ (-8) by decide) (by decide) (by decide)⟩ (fun x45 qi46 => ?_)
        obtain ⟨i46, ax45, ei46⟩ := qi46
        refine tt_kv (P := fun z => ((1 : Int) ≤ z.toInt ∧ z.toInt ≤ 255) ∧ z = (v0.toUInt32 >>> ((8 : Int32).toUInt32 &&& (31 : Int32).toUInt32)).toInt32) ⟨iv_ushr (k := 8) i44 (by decide) (by decide) (by decide) (by decide) (by decide), rfl⟩ (fun x47 qi48 => ?_)
        obtain ⟨i48, ax47⟩ := qi48
        try unfold fJInteger_numberOfLeadingZeros_I_48
        refine tt_if (fun c49 => ?_) (fun c49 => ?_)
        · have wc49 : x47.toInt < (16 : Int) := c_lt c49
          have i50 : (1 : Int) ≤ x47.toInt ∧ x47.toInt ≤ 15 := nr_ltl c49 i48 (show (16 : Int) ≤ (16 : Int32).toInt ∧ (16 : Int32).toInt ≤ 16 by decide) (by decide) (by decide)
          try unfold fJInteger_numberOfLeadingZeros_I_61
          refine tt_if (fun c51 => ?_) (fun c51 => ?_)
          · have wc51 : x47.toInt < (4 : Int) := c_lt c51
            have i52 : (1 : Int) ≤ x47.toInt ∧ x47.toInt ≤ 3 := nr_ltl c51 i50 (show (4 : Int) ≤ (4 : Int32).toInt ∧ (4 : Int32).toInt ≤ 4 by decide) (by decide) (by decide)
            try unfold fJInteger_numberOfLeadingZeros_I_73
            refine tt_kv (P := fun z => ((0 : Int) ≤ z.toInt ∧ z.toInt ≤ 1) ∧ z = (x47.toUInt32 >>> ((1 : Int32).toUInt32 &&& (31 : Int32).toUInt32)).toInt32) ⟨iv_ushr (k := 1) i52 (by decide) (by decide) (by decide) (by decide) (by decide), rfl⟩ (fun x53 qi54 => ?_)
            obtain ⟨i54, ax53⟩ := qi54
            refine tt_kv (P := fun z => ((22 : Int) ≤ z.toInt ∧ z.toInt ≤ 23) ∧ z = (x45 - x53) ∧ z.toInt = x45.toInt - x53.toInt) ⟨iv_sub i46 i54 (by decide) (by decide) (by decide) (by decide), rfl, iq_sub i46 i54 (by decide) (by decide)⟩ (fun x55 qi56 => ?_)
            obtain ⟨i56, ax55, ei56⟩ := qi56
            exact tt_some ⟨(iv_w (a := 0) (b := 32) (by decide) (by decide) i56), (show 256 ≤ v0.toInt ∨ v0.toInt ≤ 0 ∨ 24 ≤ x55.toInt by omega), (show 16777216 ≤ v0.toInt ∨ v0.toInt < 0 ∨ 8 ≤ x55.toInt by omega), trivial⟩
          · have wc51 : (4 : Int) ≤ x47.toInt := c_nlt c51
            have i57 : (4 : Int) ≤ x47.toInt ∧ x47.toInt ≤ 15 := nr_nltr c51 (show (4 : Int) ≤ (4 : Int32).toInt ∧ (4 : Int32).toInt ≤ 4 by decide) i50 (by decide) (by decide)
            refine tt_kv (P := fun z => ((21 : Int) ≤ z.toInt ∧ z.toInt ≤ 21) ∧ z = (x45 + (-2)) ∧ z.toInt = x45.toInt + (-2)) ⟨iv_add i46 (show ((-2) : Int) ≤ ((-2) : Int32).toInt ∧ ((-2) : Int32).toInt ≤ (-2) by decide) (by decide) (by decide) (by decide) (by decide), rfl, iq_add i46 (show ((-2) : Int) ≤ ((-2) : Int32).toInt ∧ ((-2) : Int32).toInt ≤ (-2) by decide) (by decide) (by decide)⟩ (fun x58 qi59 => ?_)
            obtain ⟨i59, ax58, ei59⟩ := qi59
            refine tt_kv (P := fun z => ((1 : Int) ≤ z.toInt ∧ z.toInt ≤ 3) ∧ z = (x47.toUInt32 >>> ((2 : Int32).toUInt32 &&& (31 : Int32).toUInt32)).toInt32) ⟨iv_ushr (k := 2) i57 (by decide) (by decide) (by decide) (by decide) (by decide), rfl⟩ (fun x60 qi61 => ?_)
            obtain ⟨i61, ax60⟩ := qi61
            try unfold fJInteger_numberOfLeadingZeros_I_73
            refine tt_kv (P := fun z => ((0 : Int) ≤ z.toInt ∧ z.toInt ≤ 1) ∧ z = (x60.toUInt32 >>> ((1 : Int32).toUInt32 &&& (31 : Int32).toUInt32)).toInt32) ⟨iv_ushr (k := 1) i61 (by decide) (by decide) (by decide) (by decide) (by decide), rfl⟩ (fun x62 qi63 => ?_)
            obtain ⟨i63, ax62⟩ := qi63
            refine tt_kv (P := fun z => ((20 : Int) ≤ z.toInt ∧ z.toInt ≤ 21) ∧ z = (x58 - x62) ∧ z.toInt = x58.toInt - x62.toInt) ⟨iv_sub i59 i63 (by decide) (by decide) (by decide) (by decide), rfl, iq_sub i59 i63 (by decide) (by decide)⟩ (fun x64 qi65 => ?_)
            obtain ⟨i65, ax64, ei65⟩ := qi65
            exact tt_some ⟨(iv_w (a := 0) (b := 32) (by decide) (by decide) i65), (show 256 ≤ v0.toInt ∨ v0.toInt ≤ 0 ∨ 24 ≤ x64.toInt by omega), (show 16777216 ≤ v0.toInt ∨ v0.toInt < 0 ∨ 8 ≤ x64.toInt by omega), trivial⟩
        · have wc49 : (16 : Int) ≤ x47.toInt := c_nlt c49
          have i66 : (16 : Int) ≤ x47.toInt ∧ x47.toInt ≤ 255 := nr_nltr c49 (show (16 : Int) ≤ (16 : Int32).toInt ∧ (16 : Int32).toInt ≤ 16 by decide) i48 (by decide) (by decide)
          refine tt_kv (P := fun z => ((19 : Int) ≤ z.toInt ∧ z.toInt ≤ 19) ∧ z = (x45 + (-4)) ∧ z.toInt = x45.toInt + (-4)) ⟨iv_add i46 (show ((-4) : Int) ≤ ((-4) : Int32).toInt ∧ ((-4) : Int32).toInt ≤ (-4) by decide) (by decide) (by decide) (by decide) (by decide), rfl, iq_add i46 (show ((-4) : Int) ≤ ((-4) : Int32).toInt ∧ ((-4) : Int32).toInt ≤ (-4) by decide) (by decide) (by decide)⟩ (fun x67 qi68 => ?_)
          obtain ⟨i68, ax67, ei68⟩ := qi68
          refine tt_kv (P := fun z => ((1 : Int) ≤ z.toInt ∧ z.toInt ≤ 15) ∧ z = (x47.toUInt32 >>> ((4 : Int32).toUInt32 &&& (31 : Int32).toUInt32)).toInt32) ⟨iv_ushr (k := 4) i66 (by decide) (by decide) (by decide) (by decide) (by decide), rfl⟩ (fun x69 qi70 => ?_)
          obtain ⟨i70, ax69⟩ := qi70
          try unfold fJInteger_numberOfLeadingZeros_I_61
          refine tt_if (fun c71 => ?_) (fun c71 => ?_)
          · have wc71 : x69.toInt < (4 : Int) := c_lt c71
            have i72 : (1 : Int) ≤ x69.toInt ∧ x69.toInt ≤ 3 := nr_ltl c71 i70 (show (4 : Int) ≤ (4 : Int32).toInt ∧ (4 : Int32).toInt ≤ 4 by decide) (by decide) (by decide)
            try unfold fJInteger_numberOfLeadingZeros_I_73
            refine tt_kv (P := fun z => ((0 : Int) ≤ z.toInt ∧ z.toInt ≤ 1) ∧ z = (x69.toUInt32 >>> ((1 : Int32).toUInt32 &&& (31 : Int32).toUInt32)).toInt32) ⟨iv_ushr (k := 1) i72 (by decide) (by decide) (by decide) (by decide) (by decide), rfl⟩ (fun x73 qi74 => ?_)
            obtain ⟨i74, ax73⟩ := qi74
            refine tt_kv (P := fun z => ((18 : Int) ≤ z.toInt ∧ z.toInt ≤ 19) ∧ z = (x67 - x73) ∧ z.toInt = x67.toInt - x73.toInt) ⟨iv_sub i68 i74 (by decide) (by decide) (by decide) (by decide), rfl, iq_sub i68 i74 (by decide) (by decide)⟩ (fun x75 qi76 => ?_)
            obtain ⟨i76, ax75, ei76⟩ := qi76
            exact tt_some ⟨(iv_w (a := 0) (b := 32) (by decide) (by decide) i76), (show 256 ≤ v0.toInt ∨ v0.toInt ≤ 0 ∨ 24 ≤ x75.toInt by omega), (show 16777216 ≤ v0.toInt ∨ v0.toInt < 0 ∨ 8 ≤ x75.toInt by omega), trivial⟩
          · have wc71 : (4 : Int) ≤ x69.toInt := c_nlt c71
            have i77 : (4 : Int) ≤ x69.toInt ∧ x69.toInt ≤ 15 := nr_nltr c71 (show (4 : Int) ≤ (4 : Int32).toInt ∧ (4 : Int32).toInt ≤ 4 by decide) i70 (by decide) (by decide)
            refine tt_kv (P := fun z => ((17 : Int) ≤ z.toInt ∧ z.toInt ≤ 17) ∧ z = (x67 + (-2)) ∧ z.toInt = x67.toInt + (-2)) ⟨iv_add i68 (show ((-2) : Int) ≤ ((-2) : Int32).toInt ∧ ((-2) : Int32).toInt ≤ (-2) by decide) (by decide) (by decide) (by decide) (by decide), rfl, iq_add i68 (show ((-2) : Int) ≤ ((-2) : Int32).toInt ∧ ((-2) : Int32).toInt ≤ (-2) by decide) (by decide) (by decide)⟩ (fun x78 qi79 => ?_)
            obtain ⟨i79, ax78, ei79⟩ := qi79
            refine tt_kv (P := fun z => ((1 : Int) ≤ z.toInt ∧ z.toInt ≤ 3) ∧ z = (x69.toUInt32 >>> ((2 : Int32).toUInt32 &&& (31 : Int32).toUInt32)).toInt32) ⟨iv_ushr (k := 2) i77 (by decide) (by decide) (by decide) (by decide) (by decide), rfl⟩ (fun x80 qi81 => ?_)
            obtain ⟨i81, ax80⟩ := qi81
            try unfold fJInteger_numberOfLeadingZeros_I_73
            refine tt_kv (P := fun z => ((0 : Int) ≤ z.toInt ∧ z.toInt ≤ 1) ∧ z = (x80.toUInt32 >>> ((1 : Int32).toUInt32 &&& (31 : Int32).toUInt32)).toInt32) ⟨iv_ushr (k := 1) i81 (by decide) (by decide) (by decide) (by decide) (by decide), rfl⟩ (fun x82 qi83 => ?_)
            obtain ⟨i83, ax82⟩ := qi83
            refine tt_kv (P := fun z => ((16 : Int) ≤ z.toInt ∧ z.toInt ≤ 17) ∧ z = (x78 - x82) ∧ z.toInt = x78.toInt - x82.toInt) ⟨iv_sub i79 i83 (by decide) (by decide) (by decide) (by decide), rfl, iq_sub i79 i83 (by decide) (by decide)⟩ (fun x84 qi85 => ?_)
            obtain ⟨i85, ax84, ei85⟩ := qi85
            exact tt_some ⟨(iv_w (a := 0) (b := 32) (by decide) (by decide) i85), (show 256 ≤ v0.toInt ∨ v0.toInt ≤ 0 ∨ 24 ≤ x84.toInt by omega), (show 16777216 ≤ v0.toInt ∨ v0.toInt < 0 ∨ 8 ≤ x84.toInt by omega), trivial⟩
    · have wc3 : (65536 : Int) ≤ v0.toInt := c_nlt c3
      have i86 : (65536 : Int) ≤ v0.toInt ∧ v0.toInt ≤ 2147483647 := nr_nltr c3 (show (65536 : Int) ≤ (65536 : Int32).toInt ∧ (65536 : Int32).toInt ≤ 65536 by decide) i2 (by decide) (by decide)
      refine tt_kv (P := fun z => ((1 : Int) ≤ z.toInt ∧ z.toInt ≤ 32767) ∧ z = (v0.toUInt32 >>> ((16 : Int32).toUInt32 &&& (31 : Int32).toUInt32)).toInt32) ⟨iv_ushr (k := 16) i86 (by decide) (by decide) (by decide) (by decide) (by decide), rfl⟩ (fun x87 qi88 => ?_)
      obtain ⟨i88, ax87⟩ := qi88
      have t89 := ush16 (v := v0) (by omega) ax87
      try unfold fJInteger_numberOfLeadingZeros_I_33
      refine tt_if (fun c90 => ?_) (fun c90 => ?_)
      · have wc90 : x87.toInt < (256 : Int) := c_lt c90
        have i91 : (1 : Int) ≤ x87.toInt ∧ x87.toInt ≤ 255 := nr_ltl c90 i88 (show (256 : Int) ≤ (256 : Int32).toInt ∧ (256 : Int32).toInt ≤ 256 by decide) (by decide) (by decide)
        try unfold fJInteger_numberOfLeadingZeros_I_48
        refine tt_if (fun c92 => ?_) (fun c92 => ?_)
        · have wc92 : x87.toInt < (16 : Int) := c_lt c92
          have i93 : (1 : Int) ≤ x87.toInt ∧ x87.toInt ≤ 15 := nr_ltl c92 i91 (show (16 : Int) ≤ (16 : Int32).toInt ∧ (16 : Int32).toInt ≤ 16 by decide) (by decide) (by decide)
          try unfold fJInteger_numberOfLeadingZeros_I_61
          refine tt_if (fun c94 => ?_) (fun c94 => ?_)
          · have wc94 : x87.toInt < (4 : Int) := c_lt c94
            have i95 : (1 : Int) ≤ x87.toInt ∧ x87.toInt ≤ 3 := nr_ltl c94 i93 (show (4 : Int) ≤ (4 : Int32).toInt ∧ (4 : Int32).toInt ≤ 4 by decide) (by decide) (by decide)
            try unfold fJInteger_numberOfLeadingZeros_I_73
            refine tt_kv (P := fun z => ((0 : Int) ≤ z.toInt ∧ z.toInt ≤ 1) ∧ z = (x87.toUInt32 >>> ((1 : Int32).toUInt32 &&& (31 : Int32).toUInt32)).toInt32) ⟨iv_ushr (k := 1) i95 (by decide) (by decide) (by decide) (by decide) (by decide), rfl⟩ (fun x96 qi97 => ?_)
            obtain ⟨i97, ax96⟩ := qi97
            refine tt_kv (P := fun z => ((14 : Int) ≤ z.toInt ∧ z.toInt ≤ 15) ∧ z = (15 - x96) ∧ z.toInt = 15 - x96.toInt) ⟨iv_sub (show (15 : Int) ≤ (15 : Int32).toInt ∧ (15 : Int32).toInt ≤ 15 by decide) i97 (by decide) (by decide) (by decide) (by decide), rfl, iq_sub (show (15 : Int) ≤ (15 : Int32).toInt ∧ (15 : Int32).toInt ≤ 15 by decide) i97 (by decide) (by decide)⟩ (fun x98 qi99 => ?_)
            obtain ⟨i99, ax98, ei99⟩ := qi99
            exact tt_some ⟨(iv_w (a := 0) (b := 32) (by decide) (by decide) i99), (show 256 ≤ v0.toInt ∨ v0.toInt ≤ 0 ∨ 24 ≤ x98.toInt by omega), (show 16777216 ≤ v0.toInt ∨ v0.toInt < 0 ∨ 8 ≤ x98.toInt by omega), trivial⟩
          · have wc94 : (4 : Int) ≤ x87.toInt := c_nlt c94
            have i100 : (4 : Int) ≤ x87.toInt ∧ x87.toInt ≤ 15 := nr_nltr c94 (show (4 : Int) ≤ (4 : Int32).toInt ∧ (4 : Int32).toInt ≤ 4 by decide) i93 (by decide) (by decide)
            refine tt_kv (P := fun z => ((13 : Int) ≤ z.toInt ∧ z.toInt ≤ 13) ∧ z = (15 + (-2)) ∧ z.toInt = 15 + (-2)) ⟨iv_add (show (15 : Int) ≤ (15 : Int32).toInt ∧ (15 : Int32).toInt ≤ 15 by decide) (show ((-2) : Int) ≤ ((-2) : Int32).toInt ∧ ((-2) : Int32).toInt ≤ (-2) by decide) (by decide) (by decide) (by decide) (by decide), rfl, iq_add (show (15 : Int) ≤ (15 : Int32).toInt ∧ (15 : Int32).toInt ≤ 15 by decide) (show ((-2) : Int) ≤ ((-2) : Int32).toInt ∧ ((-2) : Int32).toInt ≤ (-2) by decide) (by decide) (by decide)⟩ (fun x101 qi102 => ?_)
            obtain ⟨i102, ax101, ei102⟩ := qi102
            refine tt_kv (P := fun z => ((1 : Int) ≤ z.toInt ∧ z.toInt ≤ 3) ∧ z = (x87.toUInt32 >>> ((2 : Int32).toUInt32 &&& (31 : Int32).toUInt32)).toInt32) ⟨iv_ushr (k := 2) i100 (by decide) (by decide) (by decide) (by decide) (by decide), rfl⟩ (fun x103 qi104 => ?_)
            obtain ⟨i104, ax103⟩ := qi104
            try unfold fJInteger_numberOfLeadingZeros_I_73
            refine tt_kv (P := fun z => ((0 : Int) ≤ z.toInt ∧ z.toInt ≤ 1) ∧ z = (x103.toUInt32 >>> ((1 : Int32).toUInt32 &&& (31 : Int32).toUInt32)).toInt32) ⟨iv_ushr (k := 1) i104 (by decide) (by decide) (by decide) (by decide) (by decide), rfl⟩ (fun x105 qi106 => ?_)
            obtain ⟨i106, ax105⟩ := qi106
            refine tt_kv (P := fun z => ((12 : Int) ≤ z.toInt ∧ z.toInt ≤ 13) ∧ z = (x101 - x105) ∧ z.toInt = x101.toInt - x105.toInt) ⟨iv_sub i102 i106 (by decide) (by decide) (by decide) (by decide), rfl, iq_sub i102 i106 (by decide) (by decide)⟩ (fun x107 qi108 => ?_)
            obtain ⟨i108, ax107, ei108⟩ := qi108
            exact tt_some ⟨(iv_w (a := 0) (b := 32) (by decide) (by decide) i108), (show 256 ≤ v0.toInt ∨ v0.toInt ≤ 0 ∨ 24 ≤ x107.toInt by omega), (show 16777216 ≤ v0.toInt ∨ v0.toInt < 0 ∨ 8 ≤ x107.toInt by omega), trivial⟩
        · have wc92 : (16 : Int) ≤ x87.toInt := c_nlt c92
          have i109 : (16 : Int) ≤ x87.toInt ∧ x87.toInt ≤ 255 := nr_nltr c92 (show (16 : Int) ≤ (16 : Int32).toInt ∧ (16 : Int32).toInt ≤ 16 by decide) i91 (by decide) (by decide)
          refine tt_kv (P := fun z => ((11 : Int) ≤ z.toInt ∧ z.toInt ≤ 11) ∧ z = (15 + (-4)) ∧ z.toInt = 15 + (-4)) ⟨iv_add (show (15 : Int) ≤ (15 : Int32).toInt ∧ (15 : Int32).toInt ≤ 15 by decide) (show ((-4) : Int) ≤ ((-4) : Int32).toInt ∧ ((-4) : Int32).toInt ≤ (-4) by decide) (by decide) (by decide) (by decide) (by decide), rfl, iq_add (show (15 : Int) ≤ (15 : Int32).toInt ∧ (15 : Int32).toInt ≤ 15 by decide) (show ((-4) : Int) ≤ ((-4) : Int32).toInt ∧ ((-4) : Int32).toInt ≤ (-4) by decide) (by decide) (by decide)⟩ (fun x110 qi111 => ?_)
          obtain ⟨i111, ax110, ei111⟩ := qi111
          refine tt_kv (P := fun z => ((1 : Int) ≤ z.toInt ∧ z.toInt ≤ 15) ∧ z = (x87.toUInt32 >>> ((4 : Int32).toUInt32 &&& (31 : Int32).toUInt32)).toInt32) ⟨iv_ushr (k := 4) i109 (by decide) (by decide) (by decide) (by decide) (by decide), rfl⟩ (fun x112 qi113 => ?_)
          obtain ⟨i113, ax112⟩ := qi113
          try unfold fJInteger_numberOfLeadingZeros_I_61
          refine tt_if (fun c114 => ?_) (fun c114 => ?_)
          · have wc114 : x112.toInt < (4 : Int) := c_lt c114
            have i115 : (1 : Int) ≤ x112.toInt ∧ x112.toInt ≤ 3 := nr_ltl c114 i113 (show (4 : Int) ≤ (4 : Int32).toInt ∧ (4 : Int32).toInt ≤ 4 by decide) (by decide) (by decide)
            try unfold fJInteger_numberOfLeadingZeros_I_73
            refine tt_kv (P := fun z => ((0 : Int) ≤ z.toInt ∧ z.toInt ≤ 1) ∧ z = (x112.toUInt32 >>> ((1 : Int32).toUInt32 &&& (31 : Int32).toUInt32)).toInt32) ⟨iv_ushr (k := 1) i115 (by decide) (by decide) (by decide) (by decide) (by decide), rfl⟩ (fun x116 qi117 => ?_)
            obtain ⟨i117, ax116⟩ := qi117
            refine tt_kv (P := fun z => ((10 : Int) ≤ z.toInt ∧ z.toInt ≤ 11) ∧ z = (x110 - x116) ∧ z.toInt = x110.toInt - x116.toInt) ⟨iv_sub i111 i117 (by decide) (by decide) (by decide) (by decide), rfl, iq_sub i111 i117 (by decide) (by decide)⟩ (fun x118 qi119 => ?_)
            obtain ⟨i119, ax118, ei119⟩ := qi119
            exact tt_some ⟨(iv_w (a := 0) (b := 32) (by decide) (by decide) i119), (show 256 ≤ v0.toInt ∨ v0.toInt ≤ 0 ∨ 24 ≤ x118.toInt by omega), (show 16777216 ≤ v0.toInt ∨ v0.toInt < 0 ∨ 8 ≤ x118.toInt by omega), trivial⟩
          · have wc114 : (4 : Int) ≤ x112.toInt := c_nlt c114
            have i120 : (4 : Int) ≤ x112.toInt ∧ x112.toInt ≤ 15 := nr_nltr c114 (show (4 : Int) ≤ (4 : Int32).toInt ∧ (4 : Int32).toInt ≤ 4 by decide) i113 (by decide) (by decide)
            refine tt_kv (P := fun z => ((9 : Int) ≤ z.toInt ∧ z.toInt ≤ 9) ∧ z = (x110 + (-2)) ∧ z.toInt = x110.toInt + (-2)) ⟨iv_add i111 (show ((-2) : Int) ≤ ((-2) : Int32).toInt ∧ ((-2) : Int32).toInt ≤ (-2) by decide) (by decide) (by decide) (by decide) (by decide), rfl, iq_add i111 (show ((-2) : Int) ≤ ((-2) : Int32).toInt ∧ ((-2) : Int32).toInt ≤ (-2) by decide) (by decide) (by decide)⟩ (fun x121 qi122 => ?_)
            obtain ⟨i122, ax121, ei122⟩ := qi122
            refine tt_kv (P := fun z => ((1 : Int) ≤ z.toInt ∧ z.toInt ≤ 3) ∧ z = (x112.toUInt32 >>> ((2 : Int32).toUInt32 &&& (31 : Int32).toUInt32)).toInt32) ⟨iv_ushr (k := 2) i120 (by decide) (by decide) (by decide) (by decide) (by decide), rfl⟩ (fun x123 qi124 => ?_)
            obtain ⟨i124, ax123⟩ := qi124
            try unfold fJInteger_numberOfLeadingZeros_I_73
            refine tt_kv (P := fun z => ((0 : Int) ≤ z.toInt ∧ z.toInt ≤ 1) ∧ z = (x123.toUInt32 >>> ((1 : Int32).toUInt32 &&& (31 : Int32).toUInt32)).toInt32) ⟨iv_ushr (k := 1) i124 (by decide) (by decide) (by decide) (by decide) (by decide), rfl⟩ (fun x125 qi126 => ?_)
            obtain ⟨i126, ax125⟩ := qi126
            refine tt_kv (P := fun z => ((8 : Int) ≤ z.toInt ∧ z.toInt ≤ 9) ∧ z = (x121 - x125) ∧ z.toInt = x121.toInt - x125.toInt) ⟨iv_sub i122 i126 (by decide) (by decide) (by decide) (by decide), rfl, iq_sub i122 i126 (by decide) (by decide)⟩ (fun x127 qi128 => ?_)
            obtain ⟨i128, ax127, ei128⟩ := qi128
            exact tt_some ⟨(iv_w (a := 0) (b := 32) (by decide) (by decide) i128), (show 256 ≤ v0.toInt ∨ v0.toInt ≤ 0 ∨ 24 ≤ x127.toInt by omega), (show 16777216 ≤ v0.toInt ∨ v0.toInt < 0 ∨ 8 ≤ x127.toInt by omega), trivial⟩
      · have wc90 : (256 : Int) ≤ x87.toInt := c_nlt c90
        have i129 : (256 : Int) ≤ x87.toInt ∧ x87.toInt ≤ 32767 := nr_nltr c90 (show (256 : Int) ≤ (256 : Int32).toInt ∧ (256 : Int32).toInt ≤ 256 by decide) i88 (by decide) (by decide)
        refine tt_kv (P := fun z => ((7 : Int) ≤ z.toInt ∧ z.toInt ≤ 7) ∧ z = (15 + (-8)) ∧ z.toInt = 15 + (-8)) ⟨iv_add (show (15 : Int) ≤ (15 : Int32).toInt ∧ (15 : Int32).toInt ≤ 15 by decide) (show ((-8) : Int) ≤ ((-8) : Int32).toInt ∧ ((-8) : Int32).toInt ≤ (-8) by decide) (by decide) (by decide) (by decide) (by decide), rfl, iq_add (show (15 : Int) ≤ (15 : Int32).toInt ∧ (15 : Int32).toInt ≤ 15 by decide) (show ((-8) : Int) ≤ ((-8) : Int32).toInt ∧ ((-8) : Int32).toInt ≤ (-8) by decide) (by decide) (by decide)⟩ (fun x130 qi131 => ?_)
        obtain ⟨i131, ax130, ei131⟩ := qi131
        refine tt_kv (P := fun z => ((1 : Int) ≤ z.toInt ∧ z.toInt ≤ 127) ∧ z = (x87.toUInt32 >>> ((8 : Int32).toUInt32 &&& (31 : Int32).toUInt32)).toInt32) ⟨iv_ushr (k := 8) i129 (by decide) (by decide) (by decide) (by decide) (by decide), rfl⟩ (fun x132 qi133 => ?_)
        obtain ⟨i133, ax132⟩ := qi133
        try unfold fJInteger_numberOfLeadingZeros_I_48
        refine tt_if (fun c134 => ?_) (fun c134 => ?_)
        · have wc134 : x132.toInt < (16 : Int) := c_lt c134
          have i135 : (1 : Int) ≤ x132.toInt ∧ x132.toInt ≤ 15 := nr_ltl c134 i133 (show (16 : Int) ≤ (16 : Int32).toInt ∧ (16 : Int32).toInt ≤ 16 by decide) (by decide) (by decide)
          try unfold fJInteger_numberOfLeadingZeros_I_61
          refine tt_if (fun c136 => ?_) (fun c136 => ?_)
          · have wc136 : x132.toInt < (4 : Int) := c_lt c136
            have i137 : (1 : Int) ≤ x132.toInt ∧ x132.toInt ≤ 3 := nr_ltl c136 i135 (show (4 : Int) ≤ (4 : Int32).toInt ∧ (4 : Int32).toInt ≤ 4 by decide) (by decide) (by decide)
            try unfold fJInteger_numberOfLeadingZeros_I_73
            refine tt_kv (P := fun z => ((0 : Int) ≤ z.toInt ∧ z.toInt ≤ 1) ∧ z = (x132.toUInt32 >>> ((1 : Int32).toUInt32 &&& (31 : Int32).toUInt32)).toInt32) ⟨iv_ushr (k := 1) i137 (by decide) (by decide) (by decide) (by decide) (by decide), rfl⟩ (fun x138 qi139 => ?_)
            obtain ⟨i139, ax138⟩ := qi139
            refine tt_kv (P := fun z => ((6 : Int) ≤ z.toInt ∧ z.toInt ≤ 7) ∧ z = (x130 - x138) ∧ z.toInt = x130.toInt - x138.toInt) ⟨iv_sub i131 i139 (by decide) (by decide) (by decide) (by decide), rfl, iq_sub i131 i139 (by decide) (by decide)⟩ (fun x140 qi141 => ?_)
            obtain ⟨i141, ax140, ei141⟩ := qi141
            exact tt_some ⟨(iv_w (a := 0) (b := 32) (by decide) (by decide) i141), (show 256 ≤ v0.toInt ∨ v0.toInt ≤ 0 ∨ 24 ≤ x140.toInt by omega), (show 16777216 ≤ v0.toInt ∨ v0.toInt < 0 ∨ 8 ≤ x140.toInt by omega), trivial⟩
          · have wc136 : (4 : Int) ≤ x132.toInt := c_nlt c136
            have i142 : (4 : Int) ≤ x132.toInt ∧ x132.toInt ≤ 15 := nr_nltr c136 (show (4 : Int) ≤ (4 : Int32).toInt ∧ (4 : Int32).toInt ≤ 4 by decide) i135 (by decide) (by decide)
            refine tt_kv (P := fun z => ((5 : Int) ≤ z.toInt ∧ z.toInt ≤ 5) ∧ z = (x130 + (-2)) ∧ z.toInt = x130.toInt + (-2)) ⟨iv_add i131 (show ((-2) : Int) ≤ ((-2) : Int32).toInt ∧ ((-2) : Int32).toInt ≤ (-2) by decide) (by decide) (by decide) (by decide) (by decide), rfl, iq_add i131 (show ((-2) : Int) ≤ ((-2) : Int32).toInt ∧ ((-2) : Int32).toInt ≤ (-2) by decide) (by decide) (by decide)⟩ (fun x143 qi144 => ?_)
            obtain ⟨i144, ax143, ei144⟩ := qi144
            refine tt_kv (P := fun z => ((1 : Int) ≤ z.toInt ∧ z.toInt ≤ 3) ∧ z = (x132.toUInt32 >>> ((2 : Int32).toUInt32 &&& (31 : Int32).toUInt32)).toInt32) ⟨iv_ushr (k := 2) i142 (by decide) (by decide) (by decide) (by decide) (by decide), rfl⟩ (fun x145 qi146 => ?_)
            obtain ⟨i146, ax145⟩ := qi146
            try unfold fJInteger_numberOfLeadingZeros_I_73
            refine tt_kv (P := fun z => ((0 : Int) ≤ z.toInt ∧ z.toInt ≤ 1) ∧ z = (x145.toUInt32 >>> ((1 : Int32).toUInt32 &&& (31 : Int32).toUInt32)).toInt32) ⟨iv_ushr (k := 1) i146 (by decide) (by decide) (by decide) (by decide) (by decide), rfl⟩ (fun x147 qi148 => ?_)
            obtain ⟨i148, ax147⟩ := qi148
            refine tt_kv (P := fun z => ((4 : Int) ≤ z.toInt ∧ z.toInt ≤ 5) ∧ z = (x143 - x147) ∧ z.toInt = x143.toInt - x147.toInt) ⟨iv_sub i144 i148 (by decide) (by decide) (by decide) (by decide), rfl, iq_sub i144 i148 (by decide) (by decide)⟩ (fun x149 qi150 => ?_)
            obtain ⟨i150, ax149, ei150⟩ := qi150
            exact tt_some ⟨(iv_w (a := 0) (b := 32) (by decide) (by decide) i150), (show 256 ≤ v0.toInt ∨ v0.toInt ≤ 0 ∨ 24 ≤ x149.toInt by omega), (show 16777216 ≤ v0.toInt ∨ v0.toInt < 0 ∨ 8 ≤ x149.toInt by omega), trivial⟩
        · have wc134 : (16 : Int) ≤ x132.toInt := c_nlt c134
          have i151 : (16 : Int) ≤ x132.toInt ∧ x132.toInt ≤ 127 := nr_nltr c134 (show (16 : Int) ≤ (16 : Int32).toInt ∧ (16 : Int32).toInt ≤ 16 by decide) i133 (by decide) (by decide)
          refine tt_kv (P := fun z => ((3 : Int) ≤ z.toInt ∧ z.toInt ≤ 3) ∧ z = (x130 + (-4)) ∧ z.toInt = x130.toInt + (-4)) ⟨iv_add i131 (show ((-4) : Int) ≤ ((-4) : Int32).toInt ∧ ((-4) : Int32).toInt ≤ (-4) by decide) (by decide) (by decide) (by decide) (by decide), rfl, iq_add i131 (show ((-4) : Int) ≤ ((-4) : Int32).toInt ∧ ((-4) : Int32).toInt ≤ (-4) by decide) (by decide) (by decide)⟩ (fun x152 qi153 => ?_)
          obtain ⟨i153, ax152, ei153⟩ := qi153
          refine tt_kv (P := fun z => ((1 : Int) ≤ z.toInt ∧ z.toInt ≤ 7) ∧ z = (x132.toUInt32 >>> ((4 : Int32).toUInt32 &&& (31 : Int32).toUInt32)).toInt32) ⟨iv_ushr (k := 4) i151 (by decide) (by decide) (by decide) (by decide) (by decide), rfl⟩ (fun x154 qi155 => ?_)
          obtain ⟨i155, ax154⟩ := qi155
          try unfold fJInteger_numberOfLeadingZeros_I_61
          refine tt_if (fun c156 => ?_) (fun c156 => ?_)
          · have wc156 : x154.toInt < (4 : Int) := c_lt c156
            have i157 : (1 : Int) ≤ x154.toInt ∧ x154.toInt ≤ 3 := nr_ltl c156 i155 (show (4 : Int) ≤ (4 : Int32).toInt ∧ (4 : Int32).toInt ≤ 4 by decide) (by decide) (by decide)
            try unfold fJInteger_numberOfLeadingZeros_I_73
            refine tt_kv (P := fun z => ((0 : Int) ≤ z.toInt ∧ z.toInt ≤ 1) ∧ z = (x154.toUInt32 >>> ((1 : Int32).toUInt32 &&& (31 : Int32).toUInt32)).toInt32) ⟨iv_ushr (k := 1) i157 (by decide) (by decide) (by decide) (by decide) (by decide), rfl⟩ (fun x158 qi159 => ?_)
            obtain ⟨i159, ax158⟩ := qi159
            refine tt_kv (P := fun z => ((2 : Int) ≤ z.toInt ∧ z.toInt ≤ 3) ∧ z = (x152 - x158) ∧ z.toInt = x152.toInt - x158.toInt) ⟨iv_sub i153 i159 (by decide) (by decide) (by decide) (by decide), rfl, iq_sub i153 i159 (by decide) (by decide)⟩ (fun x160 qi161 => ?_)
            obtain ⟨i161, ax160, ei161⟩ := qi161
            exact tt_some ⟨(iv_w (a := 0) (b := 32) (by decide) (by decide) i161), (show 256 ≤ v0.toInt ∨ v0.toInt ≤ 0 ∨ 24 ≤ x160.toInt by omega), (show 16777216 ≤ v0.toInt ∨ v0.toInt < 0 ∨ 8 ≤ x160.toInt by omega), trivial⟩
          · have wc156 : (4 : Int) ≤ x154.toInt := c_nlt c156
            have i162 : (4 : Int) ≤ x154.toInt ∧ x154.toInt ≤ 7 := nr_nltr c156 (show (4 : Int) ≤ (4 : Int32).toInt ∧ (4 : Int32).toInt ≤ 4 by decide) i155 (by decide) (by decide)
            refine tt_kv (P := fun z => ((1 : Int) ≤ z.toInt ∧ z.toInt ≤ 1) ∧ z = (x152 + (-2)) ∧ z.toInt = x152.toInt + (-2)) ⟨iv_add i153 (show ((-2) : Int) ≤ ((-2) : Int32).toInt ∧ ((-2) : Int32).toInt ≤ (-2) by decide) (by decide) (by decide) (by decide) (by decide), rfl, iq_add i153 (show ((-2) : Int) ≤ ((-2) : Int32).toInt ∧ ((-2) : Int32).toInt ≤ (-2) by decide) (by decide) (by decide)⟩ (fun x163 qi164 => ?_)
            obtain ⟨i164, ax163, ei164⟩ := qi164
            refine tt_kv (P := fun z => ((1 : Int) ≤ z.toInt ∧ z.toInt ≤ 1) ∧ z = (x154.toUInt32 >>> ((2 : Int32).toUInt32 &&& (31 : Int32).toUInt32)).toInt32) ⟨iv_ushr (k := 2) i162 (by decide) (by decide) (by decide) (by decide) (by decide), rfl⟩ (fun x165 qi166 => ?_)
            obtain ⟨i166, ax165⟩ := qi166
            try unfold fJInteger_numberOfLeadingZeros_I_73
            refine tt_kv (P := fun z => ((0 : Int) ≤ z.toInt ∧ z.toInt ≤ 0) ∧ z = (x165.toUInt32 >>> ((1 : Int32).toUInt32 &&& (31 : Int32).toUInt32)).toInt32) ⟨iv_ushr (k := 1) i166 (by decide) (by decide) (by decide) (by decide) (by decide), rfl⟩ (fun x167 qi168 => ?_)
            obtain ⟨i168, ax167⟩ := qi168
            refine tt_kv (P := fun z => ((1 : Int) ≤ z.toInt ∧ z.toInt ≤ 1) ∧ z = (x163 - x167) ∧ z.toInt = x163.toInt - x167.toInt) ⟨iv_sub i164 i168 (by decide) (by decide) (by decide) (by decide), rfl, iq_sub i164 i168 (by decide) (by decide)⟩ (fun x169 qi170 => ?_)
            obtain ⟨i170, ax169, ei170⟩ := qi170
            exact tt_some ⟨(iv_w (a := 0) (b := 32) (by decide) (by decide) i170), (show 256 ≤ v0.toInt ∨ v0.toInt ≤ 0 ∨ 24 ≤ x169.toInt by omega), (show 16777216 ≤ v0.toInt ∨ v0.toInt < 0 ∨ 8 ≤ x169.toInt by omega), trivial⟩
  · have wc1 : v0.toInt ≤ (0 : Int) := c_nlt c1
    have i171 : ((-2147483648) : Int) ≤ v0.toInt ∧ v0.toInt ≤ 0 := nr_nltl c1 (iv_top v0) (show (0 : Int) ≤ (0 : Int32).toInt ∧ (0 : Int32).toInt ≤ 0 by decide) (by decide) (by decide)
    refine tt_if (fun c172 => ?_) (fun c172 => ?_)
    · have wc172 : v0.toInt = (0 : Int) := c_eq c172
      have i173 : (0 : Int) ≤ v0.toInt ∧ v0.toInt ≤ 0 := nr_eql c172 i171 (show (0 : Int) ≤ (0 : Int32).toInt ∧ (0 : Int32).toInt ≤ 0 by decide) (by decide) (by decide)
      try unfold fJInteger_numberOfLeadingZeros_I_14
      exact tt_some ⟨(iv_w (a := 0) (b := 32) (by decide) (by decide) (show (32 : Int) ≤ (32 : Int32).toInt ∧ (32 : Int32).toInt ≤ 32 by decide)), (show 256 ≤ v0.toInt ∨ v0.toInt ≤ 0 ∨ 24 ≤ 32 by omega), (show 16777216 ≤ v0.toInt ∨ v0.toInt < 0 ∨ 8 ≤ 32 by omega), trivial⟩
    · have wc172 : ¬ v0.toInt = (0 : Int) := c_ne c172
      have i174 : ((-2147483648) : Int) ≤ v0.toInt ∧ v0.toInt ≤ (-1) := nr_nelb c172 i171 (show (0 : Int) ≤ (0 : Int32).toInt ∧ (0 : Int32).toInt ≤ 0 by decide) (by decide) (by decide)
      try unfold fJInteger_numberOfLeadingZeros_I_14
      exact tt_some ⟨(iv_w (a := 0) (b := 32) (by decide) (by decide) (show (0 : Int) ≤ (0 : Int32).toInt ∧ (0 : Int32).toInt ≤ 0 by decide)), (show 256 ≤ v0.toInt ∨ v0.toInt ≤ 0 ∨ 24 ≤ 0 by omega), (show 16777216 ≤ v0.toInt ∨ v0.toInt < 0 ∨ 8 ≤ 0 by omega), trivial⟩
def QJLong_numberOfLeadingZeros_J (v0 : Int64) (r : (Int32)) : Prop := ((0 : Int) ≤ r.toInt ∧ r.toInt ≤ 64) ∧ (N24 r.toInt v0) ∧ (N40 r.toInt v0) ∧ True
set_option maxHeartbeats 4000000 in
set_option maxRecDepth 100000 in
theorem sJLong_numberOfLeadingZeros_J (v0 : Int64)  : tt (fJLong_numberOfLeadingZeros_J v0) (QJLong_numberOfLeadingZeros_J v0) := by
  unfold fJLong_numberOfLeadingZeros_J fJLong_numberOfLeadingZeros_J_0
  refine tt_klr (fun x1 ax1 => ?_)
  refine tt_kv (P := fun z => (((-2147483648) : Int) ≤ z.toInt ∧ z.toInt ≤ 2147483647) ∧ z = x1.toInt32) ⟨iv_top _, rfl⟩ (fun x2 qi3 => ?_)
  obtain ⟨i3, ax2⟩ := qi3
  refine tt_if (fun c4 => ?_) (fun c4 => ?_)
  · have wc4 : x2.toInt = (0 : Int) := c_eq c4
    have i5 : (0 : Int) ≤ x2.toInt ∧ x2.toInt ≤ 0 := nr_eql c4 i3 (show (0 : Int) ≤ (0 : Int32).toInt ∧ (0 : Int32).toInt ≤ 0 by decide) (by decide) (by decide)
    refine tt_kv (P := fun z => (((-2147483648) : Int) ≤ z.toInt ∧ z.toInt ≤ 2147483647) ∧ z = v0.toInt32) ⟨iv_top _, rfl⟩ (fun x6 qi7 => ?_)
    obtain ⟨i7, ax6⟩ := qi7
    refine tt_b (sJInteger_numberOfLeadingZeros_I _ ) (fun q8 hq8 => ?_)
    obtain ⟨i_q8, zq8_0, zq8_1, -⟩ := hq8
    have zq8_0 : 256 ≤ x6.toInt ∨ x6.toInt ≤ 0 ∨ 24 ≤ q8.toInt := zq8_0
    have zq8_1 : 16777216 ≤ x6.toInt ∨ x6.toInt < 0 ∨ 8 ≤ q8.toInt := zq8_1
    refine tt_kv (P := fun z => ((32 : Int) ≤ z.toInt ∧ z.toInt ≤ 64) ∧ z = (32 + q8) ∧ z.toInt = 32 + q8.toInt) ⟨iv_add (show (32 : Int) ≤ (32 : Int32).toInt ∧ (32 : Int32).toInt ≤ 32 by decide) i_q8 (by decide) (by decide) (by decide) (by decide), rfl, iq_add (show (32 : Int) ≤ (32 : Int32).toInt ∧ (32 : Int32).toInt ≤ 32 by decide) i_q8 (by decide) (by decide)⟩ (fun x9 qi10 => ?_)
    obtain ⟨i10, ax9, ei10⟩ := qi10
    try unfold fJLong_numberOfLeadingZeros_J_25
    have p11 : N24 x9.toInt v0 := by first | exact fun _ => by omega | exact fun hv => by have q := hi32 (by assumption) (show _ = Int64.toInt32 _ by assumption) hv; omega
    have p12 : N40 x9.toInt v0 := by first | exact ⟨fun hv => by have z := lo_k (show _ = v0.toInt32 by assumption) hv; omega, fun _ => by omega⟩ | exact ⟨fun hv => by have z := hi_0 (by assumption) (show _ = Int64.toInt32 _ by assumption) (show nv v0 < _ by omega); omega, fun hv => by have z := hi_0 (by assumption) (show _ = Int64.toInt32 _ by assumption) (show nv v0 < _ by omega); omega⟩
    exact tt_some ⟨(iv_w (a := 0) (b := 64) (by decide) (by decide) i10), p11, p12, trivial⟩
  · have wc4 : ¬ x2.toInt = (0 : Int) := c_ne c4
    refine tt_b (sJInteger_numberOfLeadingZeros_I _ ) (fun q13 hq13 => ?_)
    obtain ⟨i_q13, zq13_0, zq13_1, -⟩ := hq13
    have zq13_0 : 256 ≤ x2.toInt ∨ x2.toInt ≤ 0 ∨ 24 ≤ q13.toInt := zq13_0
    have zq13_1 : 16777216 ≤ x2.toInt ∨ x2.toInt < 0 ∨ 8 ≤ q13.toInt := zq13_1
    try unfold fJLong_numberOfLeadingZeros_J_25
    have p14 : N24 q13.toInt v0 := by first | exact fun _ => by omega | exact fun hv => by have q := hi32 (by assumption) (show _ = Int64.toInt32 _ by assumption) hv; omega
    have p15 : N40 q13.toInt v0 := by first | exact ⟨fun hv => by have z := lo_k (show _ = v0.toInt32 by assumption) hv; omega, fun _ => by omega⟩ | exact ⟨fun hv => by have z := hi_0 (by assumption) (show _ = Int64.toInt32 _ by assumption) (show nv v0 < _ by omega); omega, fun hv => by have z := hi_0 (by assumption) (show _ = Int64.toInt32 _ by assumption) (show nv v0 < _ by omega); omega⟩
    exact tt_some ⟨(iv_w (a := 0) (b := 64) (by decide) (by decide) i_q13), p14, p15, trivial⟩
def QCu_sizeOf (v0 : Int64) (r : (Int32)) : Prop := ((0 : Int) ≤ r.toInt ∧ r.toInt ≤ 8) ∧ (S5 r.toInt v0) ∧ (S34 r.toInt v0) ∧ True
set_option maxHeartbeats 4000000 in
set_option maxRecDepth 100000 in
theorem sCu_sizeOf (v0 : Int64)  : tt (fCu_sizeOf v0) (QCu_sizeOf v0) := by
  unfold fCu_sizeOf fCu_sizeOf_0
  refine tt_b (sJLong_numberOfLeadingZeros_J _ ) (fun q1 hq1 => ?_)
  obtain ⟨i_q1, zq1_0, zq1_1, -⟩ := hq1
  refine tt_kv (P := fun z => ((0 : Int) ≤ z.toInt ∧ z.toInt ≤ 8) ∧ z.toInt = q1.toInt / 8) ⟨iv_div (k := 8) i_q1 (show (8 : Int) ≤ (8 : Int32).toInt ∧ (8 : Int32).toInt ≤ 8 by decide) (by decide) (by decide) (by decide) (by decide), i_dv (Int.le_trans (by decide) i_q1.1) (by decide)⟩ (fun x2 qi3 => ?_)
  obtain ⟨i3, ei3⟩ := qi3
  refine tt_kv (P := fun z => ((0 : Int) ≤ z.toInt ∧ z.toInt ≤ 8) ∧ z.toInt = 8 - x2.toInt) ⟨iv_sub (show (8 : Int) ≤ (8 : Int32).toInt ∧ (8 : Int32).toInt ≤ 8 by decide) i3 (by decide) (by decide) (by decide) (by decide), iq_sub (show (8 : Int) ≤ (8 : Int32).toInt ∧ (8 : Int32).toInt ≤ 8 by decide) i3 (by decide) (by decide)⟩ (fun x4 qi5 => ?_)
  obtain ⟨i5, ei5⟩ := qi5
  have p6 : S5 x4.toInt v0 := by exact S5_i (show N24 _ v0 by assumption) (by omega)
  have p7 : S34 x4.toInt v0 := by exact S34_i (show N40 _ v0 by assumption) (by omega)
  exact tt_some ⟨i5, p6, p7, trivial⟩
def QCo_takeCut (v1 : Int64) (o0 : cf_O) (r : (cf_O)) : Prop := (okO I_Co r) ∧ (Fr (fr_M [0] [2, 3, 4] []) o0 r) ∧ (S34 (r.1 0).toInt v1) ∧ (Cnd (r.1 0).toInt (r.2.1 2) v1) ∧ True
def HCo_takeCut (yv1 : Int64) (yo0 : cf_O) (n : Nat) : Prop := (∀ (v1 : Int64) (v3 : Int32) (o0 : cf_O), (okO I_Co o0) → (Fr (fr_M [0] [2, 3, 4] []) yo0 o0) → ((0 : Int) ≤ v3.toInt ∧ v3.toInt ≤ 5) → (Bk v1) → (0 ≤ v3.toInt) → (S34 (o0.1 0).toInt v1) → ((v1 = yv1)) → (Cnd v3.toInt (o0.2.1 2) v1) → 0 + (5 - v3.toInt) * 2 < (n : Int) → tt (gCo_takeCut n 0 v1 v3 o0) (QCo_takeCut yv1 yo0))
set_option maxHeartbeats 4000000 in
set_option maxRecDepth 100000 in
theorem tCo_takeCut_18 {yv1 : Int64} {yo0 : cf_O} {n : Nat} (H : HCo_takeCut yv1 yo0 n) (v1 : Int64) (v3 : Int32) (o0 : cf_O) (k_o0 : okO I_Co o0) (r_o0 : Fr (fr_M [0] [2, 3, 4] []) yo0 o0) (i_v3 : (0 : Int) ≤ v3.toInt ∧ v3.toInt ≤ 5) (x_0 : Bk v1) (x_1 : 0 ≤ v3.toInt) (x_2 : S34 (o0.1 0).toInt v1) (x_3 : (v1 = yv1)) (x_4 : Cnd v3.toInt (o0.2.1 2) v1) (hm : 0 + (5 - v3.toInt) * 2 ≤ (n : Int)) : tt (fCo_takeCut_18 (gCo_takeCut n) v1 v3 o0) (QCo_takeCut yv1 yo0) := by
  unfold fCo_takeCut_18
  have g_o0_0 : (0 : Int) ≤ (o0.1 0).toInt ∧ (o0.1 0).toInt ≤ 5 := k_o0.1 0
  refine tt_if (fun c1 => ?_) (fun c1 => ?_)
  · have wc1 : (o0.1 0).toInt ≤ v3.toInt := c_le c1
    have p2 : S34 (o0.1 0).toInt yv1 := by rw [← x_3]; exact x_2
    have p3 : Cnd (o0.1 0).toInt (o0.2.1 2) yv1 := by rw [← x_3]; exact Cnd_e x_4 (by omega)
    exact tt_some ⟨k_o0, r_o0, p2, p3, trivial⟩
  · have wc1 : v3.toInt < (o0.1 0).toInt := c_nle c1
    have i4 : (0 : Int) ≤ v3.toInt ∧ v3.toInt ≤ 4 := nr_nlel c1 i_v3 (k_o0.1 0) (by decide) (by decide)
    have i5 : (1 : Int) ≤ (o0.1 0).toInt ∧ (o0.1 0).toInt ≤ 5 := nr_nler c1 i_v3 (k_o0.1 0) (by decide) (by decide)
    refine tt_kv (P := fun z => ((0 : Int) ≤ z.toInt ∧ z.toInt ≤ 4) ∧ z = ((o0.1 0) - 1) ∧ z.toInt = (o0.1 0).toInt - 1) ⟨iv_sub i5 (show (1 : Int) ≤ (1 : Int32).toInt ∧ (1 : Int32).toInt ≤ 1 by decide) (by decide) (by decide) (by decide) (by decide), rfl, iq_sub i5 (show (1 : Int) ≤ (1 : Int32).toInt ∧ (1 : Int32).toInt ≤ 1 by decide) (by decide) (by decide)⟩ (fun x6 qi7 => ?_)
    obtain ⟨i7, ax6, ei7⟩ := qi7
    refine tt_kv (P := fun z => (((-4) : Int) ≤ z.toInt ∧ z.toInt ≤ 4) ∧ z = (x6 - v3) ∧ z.toInt = x6.toInt - v3.toInt) ⟨iv_sub i7 i4 (by decide) (by decide) (by decide) (by decide), rfl, iq_sub i7 i4 (by decide) (by decide)⟩ (fun x8 qi9 => ?_)
    obtain ⟨i9, ax8, ei9⟩ := qi9
    refine tt_kv (P := fun z => (((-32) : Int) ≤ z.toInt ∧ z.toInt ≤ 32) ∧ z = (8 * x8) ∧ z.toInt = 8 * x8.toInt) ⟨iv_mulc (k := 8) (show (8 : Int) ≤ (8 : Int32).toInt ∧ (8 : Int32).toInt ≤ 8 by decide) i9 (by decide) (by decide) (by decide) (by decide) (by decide), rfl, iq_mulc (show (8 : Int) ≤ (8 : Int32).toInt ∧ (8 : Int32).toInt ≤ 8 by decide) i9 (by decide) (by decide) (by decide)⟩ (fun x10 qi11 => ?_)
    obtain ⟨i11, ax10, ei11⟩ := qi11
    refine tt_klr (fun x12 ax12 => ?_)
    refine tt_klr (fun x13 ax13 => ?_)
    refine tt_kv (P := fun z => (((-2147483648) : Int) ≤ z.toInt ∧ z.toInt ≤ 2147483647) ∧ z = x13.toInt32) ⟨iv_top _, rfl⟩ (fun x14 qi15 => ?_)
    obtain ⟨i15, ax14⟩ := qi15
    have t16 := by_k (j := (o0.1 0).toInt - 1 - v3.toInt) x_0.2 (show _ = (v1.toUInt64 >>> _).toInt64 by assumption) (show _ = _ &&& (255 : Int64) by assumption) ax14 (by omega) (by omega) (by omega)
    refine tt_n (ix_ok i4 (by decide) (by decide)) ?_
    refine tt_ko ?_
    have k17 := ok_xp (k := 2) (i := v3.toNatClampNeg) (v := x14) k_o0 (show (0 : Int) ≤ _ ∧ _ ≤ (208 : Int) by omega)
    have r18 := fr_xp (k := 2) (i := v3.toNatClampNeg) (v := x14) r_o0 rfl
    refine tt_n (ix_rel (by omega) (by omega)) ?_
    have i19 : (0 : Int) ≤ x14.toInt ∧ x14.toInt ≤ 208 := (by omega)
    refine tt_ko ?_
    have k20 := ok_xp (k := 3) (i := x14.toNatClampNeg) (v := 2) k17 (iv_w (a := 0) (b := 2) (by decide) (by decide) (show (2 : Int) ≤ (2 : Int32).toInt ∧ (2 : Int32).toInt ≤ 2 by decide))
    have r21 := fr_xp (k := 3) (i := x14.toNatClampNeg) (v := 2) r18 rfl
    refine tt_n (ix_ok i4 (by decide) (by decide)) ?_
    refine tt_kv (P := fun z => (((-2147483648) : Int) ≤ z.toInt ∧ z.toInt ≤ 2147483647) ∧ z = (cf_patterns v3.toNatClampNeg)) ⟨iv_top _, rfl⟩ (fun x22 qi23 => ?_)
    obtain ⟨i23, ax22⟩ := qi23
    refine tt_n (ix_ok i19 (by decide) (by decide)) ?_
    refine tt_ko ?_
    have k24 := ok_xp (k := 4) (i := x14.toNatClampNeg) (v := x22) k20 i23
    have r25 := fr_xp (k := 4) (i := x14.toNatClampNeg) (v := x22) r21 rfl
    refine tt_kv (P := fun z => ((1 : Int) ≤ z.toInt ∧ z.toInt ≤ 5) ∧ z = (v3 + 1) ∧ z.toInt = v3.toInt + 1) ⟨iv_add i4 (show (1 : Int) ≤ (1 : Int32).toInt ∧ (1 : Int32).toInt ≤ 1 by decide) (by decide) (by decide) (by decide) (by decide), rfl, iq_add i4 (show (1 : Int) ≤ (1 : Int32).toInt ∧ (1 : Int32).toInt ≤ 1 by decide) (by decide) (by decide)⟩ (fun x26 qi27 => ?_)
    obtain ⟨i27, ax26, ei27⟩ := qi27
    have p28 : Cnd x26.toInt (upd (o0.2.1 2) (v3.toNatClampNeg) x14) v1 := by exact Cnd_s x_4 (Inb_i (show _ = (v1.toUInt64 >>> _).toInt64 by assumption) (show _ = _ &&& 255 by assumption) (show _ = Int64.toInt32 _ by assumption) (show _ = 8 * _ by assumption)) (by rw [tn_n]; omega) (by omega)
    exact H _ _ _ k24 r25 (iv_w (a := 0) (b := 5) (by decide) (by decide) i27) x_0 (show 0 ≤ x26.toInt by omega) x_2 x_3 p28 (show 0 + (5 - x26.toInt) * 2 < (n : Int) by omega)
set_option maxHeartbeats 4000000 in
set_option maxRecDepth 100000 in
theorem hCo_takeCut (yv1 : Int64) (yo0 : cf_O) : ∀ n, HCo_takeCut yv1 yo0 n := by
  intro n
  induction n with
  | zero => exact (fun v1 v3 o0 k_o0 r_o0 i_v3 x_0 x_1 x_2 x_3 x_4 hm => by exact absurd (show 0 + (5 - v3.toInt) * 2 < (0 : Int) from hm) (by omega))
  | succ n ih => exact (fun v1 v3 o0 k_o0 r_o0 i_v3 x_0 x_1 x_2 x_3 x_4 hm => tCo_takeCut_18 ih v1 v3 o0 k_o0 r_o0 i_v3 x_0 x_1 x_2 x_3 x_4 (by omega))
set_option maxHeartbeats 4000000 in
set_option maxRecDepth 100000 in
theorem sCo_takeCut (v1 : Int64) (o0 : cf_O) (k_o0 : okO I_Co o0) (x_0 : Bk v1) : tt (fCo_takeCut v1 o0) (QCo_takeCut v1 o0) := by
  have H := hCo_takeCut v1 o0 cfFU
  have hm : (13 : Int) ≤ (cfFU : Nat) := by decide
  have r_o0 : Fr (fr_M [0] [2, 3, 4] []) o0 o0 := fr_rfl
  unfold fCo_takeCut fCo_takeCut_0
  have g_o0_0 : (0 : Int) ≤ (o0.1 0).toInt ∧ (o0.1 0).toInt ≤ 5 := k_o0.1 0
  refine tt_b (sJArrays_fill_AII_Co3 _ _ k_o0 (show (0 : Int) ≤ (0 : Int32).toInt ∧ (0 : Int32).toInt ≤ 0 by decide)) (fun q1 hq1 => ?_)
  obtain ⟨k_q1, n_q1, -⟩ := hq1
  have r_q1 := fr_tr r_o0 n_q1 rfl rfl rfl
  have e_q1_0 : (q1.1 0).toInt = (o0.1 0).toInt := congrArg Int32.toInt (n_q1.1 0 rfl)
  have g_q1_0 : (0 : Int) ≤ (q1.1 0).toInt ∧ (q1.1 0).toInt ≤ 5 := k_q1.1 0
  refine tt_b (sCu_sizeOf _ ) (fun q2 hq2 => ?_)
  obtain ⟨i_q2, zq2_0, zq2_1, -⟩ := hq2
  have t3 := S5_e (show S5 q2.toInt v1 by assumption) x_0.1
  refine tt_ko ?_
  have k4 := ok_fp (k := 0) (v := q2) k_q1 (show (0 : Int) ≤ _ ∧ _ ≤ (5 : Int) by omega)
  have i5 : (0 : Int) ≤ q2.toInt ∧ q2.toInt ≤ 5 := (by omega)
  have r6 := fr_fp (k := 0) (v := q2) r_q1 rfl
  have p7 : (v1 = v1) := by exact rfl
  have p8 : Cnd 0 (q1.2.1 2) v1 := by exact Cnd_0
  exact H _ _ _ k4 r6 (iv_w (a := 0) (b := 5) (by decide) (by decide) (show (0 : Int) ≤ (0 : Int32).toInt ∧ (0 : Int32).toInt ≤ 0 by decide)) x_0 (show 0 ≤ 0 by omega) zq2_1 p7 p8 (show 0 + (5 - 0) * 2 < ((cfFU : Nat) : Int) by omega)
def QCo_reach (v1 : Int32) (o0 : cf_O) (r : (cf_O)) : Prop := (okO I_Co r) ∧ (Fr (fr_M [] [3] []) o0 r) ∧ True
set_option maxHeartbeats 4000000 in
set_option maxRecDepth 100000 in
theorem sCo_reach (v1 : Int32) (o0 : cf_O) (k_o0 : okO I_Co o0) (i_v1 : (0 : Int) ≤ v1.toInt ∧ v1.toInt ≤ 208) : tt (fCo_reach v1 o0) (QCo_reach v1 o0) := by
  have r_o0 : Fr (fr_M [] [3] []) o0 o0 := fr_rfl
  unfold fCo_reach fCo_reach_0
  refine tt_n (ix_ok i_v1 (by decide) (by decide)) ?_
  refine tt_kv (P := fun z => (0 : Int) ≤ z.toInt ∧ z.toInt ≤ 2) (k_o0.2 3 _) (fun x1 i2 => ?_)
  refine tt_if (fun c3 => ?_) (fun c3 => ?_)
  · have i4 : (0 : Int) ≤ x1.toInt ∧ x1.toInt ≤ 0 := nr_eql c3 i2 (show (0 : Int) ≤ (0 : Int32).toInt ∧ (0 : Int32).toInt ≤ 0 by decide) (by decide) (by decide)
    refine tt_n (ix_ok i_v1 (by decide) (by decide)) ?_
    refine tt_ko ?_
    have k5 := ok_xp (k := 3) (i := v1.toNatClampNeg) (v := 1) k_o0 (iv_w (a := 0) (b := 2) (by decide) (by decide) (show (1 : Int) ≤ (1 : Int32).toInt ∧ (1 : Int32).toInt ≤ 1 by decide))
    have r6 := fr_xp (k := 3) (i := v1.toNatClampNeg) (v := 1) r_o0 rfl
    try unfold fCo_reach_16
    exact tt_some ⟨k5, r6, trivial⟩
  · have i7 : (1 : Int) ≤ x1.toInt ∧ x1.toInt ≤ 2 := nr_nela c3 i2 (show (0 : Int) ≤ (0 : Int32).toInt ∧ (0 : Int32).toInt ≤ 0 by decide) (by decide) (by decide)
    try unfold fCo_reach_16
    exact tt_some ⟨k_o0, r_o0, trivial⟩
def QCo_valueOf (v1 : Int32) (o0 : cf_O) (r : (Int32)) : Prop := True
set_option maxHeartbeats 4000000 in
set_option maxRecDepth 100000 in
theorem sCo_valueOf (v1 : Int32) (o0 : cf_O) (k_o0 : okO I_Co o0) (i_v1 : (0 : Int) ≤ v1.toInt ∧ v1.toInt ≤ 417) : tt (fCo_valueOf v1 o0) (QCo_valueOf v1 o0) := by
  have r_o0 : Fr (fr_M [] [] []) o0 o0 := fr_rfl
  unfold fCo_valueOf fCo_valueOf_0
  refine tt_kv (P := fun z => (0 : Int) ≤ z.toInt ∧ z.toInt ≤ 208) (iv_shr (p := 1) (q := 1) i_v1 (show (1 : Int) ≤ (1 : Int32).toInt ∧ (1 : Int32).toInt ≤ 1 by decide) (by decide) (by decide) (by decide) (by decide)) (fun x1 i2 => ?_)
  refine tt_n (ix_ok i2 (by decide) (by decide)) ?_
  refine tt_kv (P := fun z => ((-2147483648) : Int) ≤ z.toInt ∧ z.toInt ≤ 2147483647) (k_o0.2 4 _) (fun x3 i4 => ?_)
  refine tt_kv (P := fun z => (0 : Int) ≤ z.toInt ∧ z.toInt ≤ 1) (iv_and (show (1 : Int) ≤ (1 : Int32).toInt ∧ (1 : Int32).toInt ≤ 1 by decide) (by decide) (by decide) (by decide)) (fun x5 i6 => ?_)
  refine tt_kv (P := fun z => ((-1) : Int) ≤ z.toInt ∧ z.toInt ≤ 0) (iv_neg i6 (by decide)) (fun x7 i8 => ?_)
  refine tt_kv (P := fun z => ((-2147483648) : Int) ≤ z.toInt ∧ z.toInt ≤ 2147483647) (iv_top _) (fun x9 i10 => ?_)
  exact tt_some trivial
def QCo_find (v2 : Int32) (v3 : Int64) (o0 : cf_O) (o1 : cf_O) (r : (cf_O)) : Prop := (okO I_Co r) ∧ (Fr (fr_M [0, 1] [2, 3, 4] []) o0 r) ∧ (S34 (r.1 0).toInt v3) ∧ (Ful (r.1 1).toInt (r.1 0).toInt) ∧ (Cnd (r.1 0).toInt (r.2.1 2) v3) ∧ True
def HCo_find (yv2 : Int32) (yv3 : Int64) (yo0 : cf_O) (yo1 : cf_O) (n : Nat) : Prop := (∀ (v2 : Int32) (v5 : Int32) (o0 : cf_O) (o1 : cf_O), (okO I_Co o0) → (Fr (fr_M [0, 1] [2, 3, 4] []) yo0 o0) → (okO I_Gr o1) → (Fr (fr_M [] [] []) yo1 o1) → ((1 : Int) ≤ v2.toInt ∧ v2.toInt ≤ 208) → ((0 : Int) ≤ v5.toInt ∧ v5.toInt ≤ 208) → (S34 (o0.1 0).toInt yv3) → (Cnd (o0.1 0).toInt (o0.2.1 2) yv3) → 418 + (v5.toInt - 0) * 2 < (n : Int) → tt (gCo_find n 0 v2 v5 o0 o1) (QCo_find yv2 yv3 yo0 yo1)) ∧ (∀ (v2 : Int32) (v5 : Int32) (o0 : cf_O) (o1 : cf_O), (okO I_Co o0) → (Fr (fr_M [0, 1] [2, 3, 4] []) yo0 o0) → (okO I_Gr o1) → (Fr (fr_M [] [] []) yo1 o1) → ((1 : Int) ≤ v2.toInt ∧ v2.toInt ≤ 208) → ((1 : Int) ≤ v5.toInt ∧ v5.toInt ≤ 209) → (S34 (o0.1 0).toInt yv3) → (Cnd (o0.1 0).toInt (o0.2.1 2) yv3) → 0 + (209 - v5.toInt) * 2 < (n : Int) → tt (gCo_find n 1 v2 v5 o0 o1) (QCo_find yv2 yv3 yo0 yo1))
set_option maxHeartbeats 4000000 in
set_option maxRecDepth 100000 in
theorem tCo_find_79 {yv2 : Int32} {yv3 : Int64} {yo0 : cf_O} {yo1 : cf_O} {n : Nat} (H : HCo_find yv2 yv3 yo0 yo1 n) (v2 : Int32) (v5 : Int32) (o0 : cf_O) (o1 : cf_O) (k_o0 : okO I_Co o0) (r_o0 : Fr (fr_M [0, 1] [2, 3, 4] []) yo0 o0) (k_o1 : okO I_Gr o1) (r_o1 : Fr (fr_M [] [] []) yo1 o1) (i_v2 : (1 : Int) ≤ v2.toInt ∧ v2.toInt ≤ 208) (i_v5 : (1 : Int) ≤ v5.toInt ∧ v5.toInt ≤ 209) (x_0 : S34 (o0.1 0).toInt yv3) (x_1 : Cnd (o0.1 0).toInt (o0.2.1 2) yv3) (hm : 0 + (209 - v5.toInt) * 2 ≤ (n : Int)) : tt (fCo_find_79 (gCo_find n) v2 v5 o0 o1) (QCo_find yv2 yv3 yo0 yo1) := by
  unfold fCo_find_79
  have g_o0_0 : (0 : Int) ≤ (o0.1 0).toInt ∧ (o0.1 0).toInt ≤ 5 := k_o0.1 0
  have g_o0_1 : ((-2147483648) : Int) ≤ (o0.1 1).toInt ∧ (o0.1 1).toInt ≤ 2147483647 := k_o0.1 1
  have g_o1_0 : (0 : Int) ≤ (o1.1 0).toInt ∧ (o1.1 0).toInt ≤ 8 := k_o1.1 0
  have ey_o1_0 : (o1.1 0).toInt = (yo1.1 0).toInt := congrArg Int32.toInt (r_o1.1 0 rfl)
  have g_o1_1 : (0 : Int) ≤ (o1.1 1).toInt ∧ (o1.1 1).toInt ≤ 6 := k_o1.1 1
  have ey_o1_1 : (o1.1 1).toInt = (yo1.1 1).toInt := congrArg Int32.toInt (r_o1.1 1 rfl)
  refine tt_if (fun c1 => ?_) (fun c1 => ?_)
  · have wc1 : v2.toInt < v5.toInt := c_lt c1
    have i2 : (2 : Int) ≤ v5.toInt ∧ v5.toInt ≤ 209 := nr_ltr c1 i_v2 i_v5 (by decide) (by decide)
    refine tt_n (ix_ok i_v2 (by decide) (by decide)) ?_
    refine tt_kv (P := fun z => (((-2147483648) : Int) ≤ z.toInt ∧ z.toInt ≤ 2147483647) ∧ z = (o0.2.1 4 v2.toNatClampNeg) ∧ z.toInt = (o0.2.1 4 v2.toNatClampNeg).toInt) ⟨(k_o0.2 4 _), rfl, rfl⟩ (fun x3 qi4 => ?_)
    obtain ⟨i4, ax3, ei4⟩ := qi4
    refine tt_b (sCo_full _ (k_o0.1 0)) (fun q5 hq5 => ?_)
    obtain ⟨i_q5, zq5_0, -⟩ := hq5
    refine tt_kv (P := fun z => (((-2147483648) : Int) ≤ z.toInt ∧ z.toInt ≤ 2147483647) ∧ z = (x3 &&& q5)) ⟨iv_top _, rfl⟩ (fun x6 qi7 => ?_)
    obtain ⟨i7, ax6⟩ := qi7
    refine tt_ko ?_
    have k8 := ok_fp (k := 1) (v := x6) k_o0 i7
    have r9 := fr_fp (k := 1) (v := x6) r_o0 rfl
    have p10 : Ful x6.toInt (o0.1 0).toInt := by exact Ful_a (show Ful _ _ by assumption) (by assumption) rfl
    exact tt_some ⟨k8, r9, x_0, p10, x_1, trivial⟩
  · have wc1 : v5.toInt ≤ v2.toInt := c_nlt c1
    have i11 : (1 : Int) ≤ v5.toInt ∧ v5.toInt ≤ 208 := nr_nltl c1 i_v5 i_v2 (by decide) (by decide)
    refine tt_n (ix_ok i11 (by decide) (by decide)) ?_
    refine tt_kv (P := fun z => ((0 : Int) ≤ z.toInt ∧ z.toInt ≤ 2) ∧ z = (o0.2.1 3 v5.toNatClampNeg) ∧ z.toInt = (o0.2.1 3 v5.toNatClampNeg).toInt) ⟨(k_o0.2 3 _), rfl, rfl⟩ (fun x12 qi13 => ?_)
    obtain ⟨i13, ax12, ei13⟩ := qi13
    refine tt_if (fun c14 => ?_) (fun c14 => ?_)
    · have wc14 : x12.toInt = (1 : Int) := c_eq c14
      have i15 : (1 : Int) ≤ x12.toInt ∧ x12.toInt ≤ 1 := nr_eql c14 i13 (show (1 : Int) ≤ (1 : Int32).toInt ∧ (1 : Int32).toInt ≤ 1 by decide) (by decide) (by decide)
      refine tt_n (ix_ok i11 (by decide) (by decide)) ?_
      refine tt_kv (P := fun z => ((0 : Int) ≤ z.toInt ∧ z.toInt ≤ 417) ∧ z = (o1.2.1 4 v5.toNatClampNeg) ∧ z.toInt = (o1.2.1 4 v5.toNatClampNeg).toInt) ⟨(k_o1.2 4 _), rfl, rfl⟩ (fun x16 qi17 => ?_)
      obtain ⟨i17, ax16, ei17⟩ := qi17
      refine tt_b (sCo_valueOf _ _ k_o0 i17) (fun q18 hq18 => ?_)
      have i_q18 := iv_top q18
      refine tt_n (ix_ok i11 (by decide) (by decide)) ?_
      refine tt_kv (P := fun z => ((0 : Int) ≤ z.toInt ∧ z.toInt ≤ 417) ∧ z = (o1.2.1 5 v5.toNatClampNeg) ∧ z.toInt = (o1.2.1 5 v5.toNatClampNeg).toInt) ⟨(k_o1.2 5 _), rfl, rfl⟩ (fun x19 qi20 => ?_)
      obtain ⟨i20, ax19, ei20⟩ := qi20
      refine tt_b (sCo_valueOf _ _ k_o0 i20) (fun q21 hq21 => ?_)
      have i_q21 := iv_top q21
      refine tt_kv (P := fun z => (((-2147483648) : Int) ≤ z.toInt ∧ z.toInt ≤ 2147483647) ∧ z = (q18 &&& q21)) ⟨iv_top _, rfl⟩ (fun x22 qi23 => ?_)
      obtain ⟨i23, ax22⟩ := qi23
      refine tt_n (ix_ok i11 (by decide) (by decide)) ?_
      refine tt_ko ?_
      have k24 := ok_xp (k := 4) (i := v5.toNatClampNeg) (v := x22) k_o0 i23
      have r25 := fr_xp (k := 4) (i := v5.toNatClampNeg) (v := x22) r_o0 rfl
      try unfold fCo_find_126
      refine tt_kv (P := fun z => ((2 : Int) ≤ z.toInt ∧ z.toInt ≤ 209) ∧ z = (v5 + 1) ∧ z.toInt = v5.toInt + 1) ⟨iv_add i11 (show (1 : Int) ≤ (1 : Int32).toInt ∧ (1 : Int32).toInt ≤ 1 by decide) (by decide) (by decide) (by decide) (by decide), rfl, iq_add i11 (show (1 : Int) ≤ (1 : Int32).toInt ∧ (1 : Int32).toInt ≤ 1 by decide) (by decide) (by decide)⟩ (fun x26 qi27 => ?_)
      obtain ⟨i27, ax26, ei27⟩ := qi27
      exact H.2 _ _ _ _ k24 r25 k_o1 r_o1 i_v2 (iv_w (a := 1) (b := 209) (by decide) (by decide) i27) x_0 x_1 (show 0 + (209 - x26.toInt) * 2 < (n : Int) by omega)
    · have wc14 : ¬ x12.toInt = (1 : Int) := c_ne c14
      try unfold fCo_find_126
      refine tt_kv (P := fun z => ((2 : Int) ≤ z.toInt ∧ z.toInt ≤ 209) ∧ z = (v5 + 1) ∧ z.toInt = v5.toInt + 1) ⟨iv_add i11 (show (1 : Int) ≤ (1 : Int32).toInt ∧ (1 : Int32).toInt ≤ 1 by decide) (by decide) (by decide) (by decide) (by decide), rfl, iq_add i11 (show (1 : Int) ≤ (1 : Int32).toInt ∧ (1 : Int32).toInt ≤ 1 by decide) (by decide) (by decide)⟩ (fun x28 qi29 => ?_)
      obtain ⟨i29, ax28, ei29⟩ := qi29
      exact H.2 _ _ _ _ k_o0 r_o0 k_o1 r_o1 i_v2 (iv_w (a := 1) (b := 209) (by decide) (by decide) i29) x_0 x_1 (show 0 + (209 - x28.toInt) * 2 < (n : Int) by omega)
set_option maxHeartbeats 4000000 in
set_option maxRecDepth 100000 in
theorem tCo_find_15 {yv2 : Int32} {yv3 : Int64} {yo0 : cf_O} {yo1 : cf_O} {n : Nat} (H : HCo_find yv2 yv3 yo0 yo1 n) (v2 : Int32) (v5 : Int32) (o0 : cf_O) (o1 : cf_O) (k_o0 : okO I_Co o0) (r_o0 : Fr (fr_M [0, 1] [2, 3, 4] []) yo0 o0) (k_o1 : okO I_Gr o1) (r_o1 : Fr (fr_M [] [] []) yo1 o1) (i_v2 : (1 : Int) ≤ v2.toInt ∧ v2.toInt ≤ 208) (i_v5 : (0 : Int) ≤ v5.toInt ∧ v5.toInt ≤ 208) (x_0 : S34 (o0.1 0).toInt yv3) (x_1 : Cnd (o0.1 0).toInt (o0.2.1 2) yv3) (hm : 418 + (v5.toInt - 0) * 2 ≤ (n : Int)) : tt (fCo_find_15 (gCo_find n) v2 v5 o0 o1) (QCo_find yv2 yv3 yo0 yo1) := by
  unfold fCo_find_15
  have g_o0_0 : (0 : Int) ≤ (o0.1 0).toInt ∧ (o0.1 0).toInt ≤ 5 := k_o0.1 0
  have g_o0_1 : ((-2147483648) : Int) ≤ (o0.1 1).toInt ∧ (o0.1 1).toInt ≤ 2147483647 := k_o0.1 1
  have g_o1_0 : (0 : Int) ≤ (o1.1 0).toInt ∧ (o1.1 0).toInt ≤ 8 := k_o1.1 0
  have ey_o1_0 : (o1.1 0).toInt = (yo1.1 0).toInt := congrArg Int32.toInt (r_o1.1 0 rfl)
  have g_o1_1 : (0 : Int) ≤ (o1.1 1).toInt ∧ (o1.1 1).toInt ≤ 6 := k_o1.1 1
  have ey_o1_1 : (o1.1 1).toInt = (yo1.1 1).toInt := congrArg Int32.toInt (r_o1.1 1 rfl)
  refine tt_n (ix_ok (show (0 : Int) ≤ (0 : Int32).toInt ∧ (0 : Int32).toInt ≤ 0 by decide) (by decide) (by decide)) ?_
  refine tt_kv (P := fun z => ((0 : Int) ≤ z.toInt ∧ z.toInt ≤ 208) ∧ z = (o0.2.1 2 (0 : Int32).toNatClampNeg) ∧ z.toInt = (o0.2.1 2 (0 : Int32).toNatClampNeg).toInt) ⟨(k_o0.2 2 _), rfl, rfl⟩ (fun x1 qi2 => ?_)
  obtain ⟨i2, ax1, ei2⟩ := qi2
  refine tt_if (fun c3 => ?_) (fun c3 => ?_)
  · have wc3 : v5.toInt ≤ x1.toInt := c_le c3
    refine tt_n (ix_ok (show (0 : Int) ≤ (0 : Int32).toInt ∧ (0 : Int32).toInt ≤ 0 by decide) (by decide) (by decide)) ?_
    refine tt_kv (P := fun z => ((0 : Int) ≤ z.toInt ∧ z.toInt ≤ 208) ∧ z = (o0.2.1 2 (0 : Int32).toNatClampNeg) ∧ z.toInt = (o0.2.1 2 (0 : Int32).toNatClampNeg).toInt) ⟨(k_o0.2 2 _), rfl, rfl⟩ (fun x4 qi5 => ?_)
    obtain ⟨i5, ax4, ei5⟩ := qi5
    refine tt_kv (P := fun z => ((1 : Int) ≤ z.toInt ∧ z.toInt ≤ 209) ∧ z = (x4 + 1) ∧ z.toInt = x4.toInt + 1) ⟨iv_add i5 (show (1 : Int) ≤ (1 : Int32).toInt ∧ (1 : Int32).toInt ≤ 1 by decide) (by decide) (by decide) (by decide) (by decide), rfl, iq_add i5 (show (1 : Int) ≤ (1 : Int32).toInt ∧ (1 : Int32).toInt ≤ 1 by decide) (by decide) (by decide)⟩ (fun x6 qi7 => ?_)
    obtain ⟨i7, ax6, ei7⟩ := qi7
    exact H.2 _ _ _ _ k_o0 r_o0 k_o1 r_o1 i_v2 i7 x_0 x_1 (show 0 + (209 - x6.toInt) * 2 < (n : Int) by omega)
  · have wc3 : x1.toInt < v5.toInt := c_nle c3
    have i8 : (0 : Int) ≤ x1.toInt ∧ x1.toInt ≤ 207 := nr_nlel c3 i2 i_v5 (by decide) (by decide)
    have i9 : (1 : Int) ≤ v5.toInt ∧ v5.toInt ≤ 208 := nr_nler c3 i2 i_v5 (by decide) (by decide)
    refine tt_n (ix_ok i9 (by decide) (by decide)) ?_
    refine tt_kv (P := fun z => ((0 : Int) ≤ z.toInt ∧ z.toInt ≤ 2) ∧ z = (o0.2.1 3 v5.toNatClampNeg) ∧ z.toInt = (o0.2.1 3 v5.toNatClampNeg).toInt) ⟨(k_o0.2 3 _), rfl, rfl⟩ (fun x10 qi11 => ?_)
    obtain ⟨i11, ax10, ei11⟩ := qi11
    refine tt_if (fun c12 => ?_) (fun c12 => ?_)
    · have wc12 : x10.toInt = (1 : Int) := c_eq c12
      have i13 : (1 : Int) ≤ x10.toInt ∧ x10.toInt ≤ 1 := nr_eql c12 i11 (show (1 : Int) ≤ (1 : Int32).toInt ∧ (1 : Int32).toInt ≤ 1 by decide) (by decide) (by decide)
      refine tt_n (ix_ok i9 (by decide) (by decide)) ?_
      refine tt_kv (P := fun z => ((0 : Int) ≤ z.toInt ∧ z.toInt ≤ 417) ∧ z = (o1.2.1 4 v5.toNatClampNeg) ∧ z.toInt = (o1.2.1 4 v5.toNatClampNeg).toInt) ⟨(k_o1.2 4 _), rfl, rfl⟩ (fun x14 qi15 => ?_)
      obtain ⟨i15, ax14, ei15⟩ := qi15
      refine tt_kv (P := fun z => ((0 : Int) ≤ z.toInt ∧ z.toInt ≤ 208) ∧ z = (x14 >>> (1 &&& 31)) ∧ z.toInt = x14.toInt / 2) ⟨iv_shr (p := 1) (q := 1) i15 (show (1 : Int) ≤ (1 : Int32).toInt ∧ (1 : Int32).toInt ≤ 1 by decide) (by decide) (by decide) (by decide) (by decide), rfl, i_s1 (Int.le_trans (by decide) i15.1)⟩ (fun x16 qi17 => ?_)
      obtain ⟨i17, ax16, ei17⟩ := qi17
      refine tt_b (sCo_reach _ _ k_o0 i17) (fun q18 hq18 => ?_)
      obtain ⟨k_q18, n_q18, -⟩ := hq18
      have r_q18 := fr_tr r_o0 n_q18 rfl rfl rfl
      have e_q18_0 : (q18.1 0).toInt = (o0.1 0).toInt := congrArg Int32.toInt (n_q18.1 0 rfl)
      have g_q18_0 : (0 : Int) ≤ (q18.1 0).toInt ∧ (q18.1 0).toInt ≤ 5 := k_q18.1 0
      have e_q18_1 : (q18.1 1).toInt = (o0.1 1).toInt := congrArg Int32.toInt (n_q18.1 1 rfl)
      have g_q18_1 : ((-2147483648) : Int) ≤ (q18.1 1).toInt ∧ (q18.1 1).toInt ≤ 2147483647 := k_q18.1 1
      have u19 : S34 (q18.1 0).toInt yv3 := by rw [n_q18.1 0 rfl]; exact x_0
      have u20 : Cnd (q18.1 0).toInt (q18.2.1 2) yv3 := by rw [n_q18.1 0 rfl, n_q18.2.1 2 rfl]; exact x_1
      refine tt_n (ix_ok i9 (by decide) (by decide)) ?_
      refine tt_kv (P := fun z => ((0 : Int) ≤ z.toInt ∧ z.toInt ≤ 417) ∧ z = (o1.2.1 5 v5.toNatClampNeg) ∧ z.toInt = (o1.2.1 5 v5.toNatClampNeg).toInt) ⟨(k_o1.2 5 _), rfl, rfl⟩ (fun x21 qi22 => ?_)
      obtain ⟨i22, ax21, ei22⟩ := qi22
      refine tt_kv (P := fun z => ((0 : Int) ≤ z.toInt ∧ z.toInt ≤ 208) ∧ z = (x21 >>> (1 &&& 31)) ∧ z.toInt = x21.toInt / 2) ⟨iv_shr (p := 1) (q := 1) i22 (show (1 : Int) ≤ (1 : Int32).toInt ∧ (1 : Int32).toInt ≤ 1 by decide) (by decide) (by decide) (by decide) (by decide), rfl, i_s1 (Int.le_trans (by decide) i22.1)⟩ (fun x23 qi24 => ?_)
      obtain ⟨i24, ax23, ei24⟩ := qi24
      refine tt_b (sCo_reach _ _ k_q18 i24) (fun q25 hq25 => ?_)
      obtain ⟨k_q25, n_q25, -⟩ := hq25
      have r_q25 := fr_tr r_q18 n_q25 rfl rfl rfl
      have e_q25_0 : (q25.1 0).toInt = (q18.1 0).toInt := congrArg Int32.toInt (n_q25.1 0 rfl)
      have g_q25_0 : (0 : Int) ≤ (q25.1 0).toInt ∧ (q25.1 0).toInt ≤ 5 := k_q25.1 0
      have e_q25_1 : (q25.1 1).toInt = (q18.1 1).toInt := congrArg Int32.toInt (n_q25.1 1 rfl)
      have g_q25_1 : ((-2147483648) : Int) ≤ (q25.1 1).toInt ∧ (q25.1 1).toInt ≤ 2147483647 := k_q25.1 1
      have u26 : S34 (q25.1 0).toInt yv3 := by rw [n_q25.1 0 rfl]; exact u19
      have u27 : Cnd (q25.1 0).toInt (q25.2.1 2) yv3 := by rw [n_q25.1 0 rfl, n_q25.2.1 2 rfl]; exact u20
      try unfold fCo_find_63
      refine tt_kv (P := fun z => ((0 : Int) ≤ z.toInt ∧ z.toInt ≤ 207) ∧ z = (v5 + (-1)) ∧ z.toInt = v5.toInt + (-1)) ⟨iv_add i9 (show ((-1) : Int) ≤ ((-1) : Int32).toInt ∧ ((-1) : Int32).toInt ≤ (-1) by decide) (by decide) (by decide) (by decide) (by decide), rfl, iq_add i9 (show ((-1) : Int) ≤ ((-1) : Int32).toInt ∧ ((-1) : Int32).toInt ≤ (-1) by decide) (by decide) (by decide)⟩ (fun x28 qi29 => ?_)
      obtain ⟨i29, ax28, ei29⟩ := qi29
      exact H.1 _ _ _ _ k_q25 r_q25 k_o1 r_o1 i_v2 (iv_w (a := 0) (b := 208) (by decide) (by decide) i29) u26 u27 (show 418 + (x28.toInt - 0) * 2 < (n : Int) by omega)
    · have wc12 : ¬ x10.toInt = (1 : Int) := c_ne c12
      try unfold fCo_find_63
      refine tt_kv (P := fun z => ((0 : Int) ≤ z.toInt ∧ z.toInt ≤ 207) ∧ z = (v5 + (-1)) ∧ z.toInt = v5.toInt + (-1)) ⟨iv_add i9 (show ((-1) : Int) ≤ ((-1) : Int32).toInt ∧ ((-1) : Int32).toInt ≤ (-1) by decide) (by decide) (by decide) (by decide) (by decide), rfl, iq_add i9 (show ((-1) : Int) ≤ ((-1) : Int32).toInt ∧ ((-1) : Int32).toInt ≤ (-1) by decide) (by decide) (by decide)⟩ (fun x30 qi31 => ?_)
      obtain ⟨i31, ax30, ei31⟩ := qi31
      exact H.1 _ _ _ _ k_o0 r_o0 k_o1 r_o1 i_v2 (iv_w (a := 0) (b := 208) (by decide) (by decide) i31) x_0 x_1 (show 418 + (x30.toInt - 0) * 2 < (n : Int) by omega)
set_option maxHeartbeats 4000000 in
set_option maxRecDepth 100000 in
theorem hCo_find (yv2 : Int32) (yv3 : Int64) (yo0 : cf_O) (yo1 : cf_O) : ∀ n, HCo_find yv2 yv3 yo0 yo1 n := by
  intro n
  induction n with
  | zero => exact ⟨(fun v2 v5 o0 o1 k_o0 r_o0 k_o1 r_o1 i_v2 i_v5 x_0 x_1 hm => by exact absurd (show 418 + (v5.toInt - 0) * 2 < (0 : Int) from hm) (by omega)), (fun v2 v5 o0 o1 k_o0 r_o0 k_o1 r_o1 i_v2 i_v5 x_0 x_1 hm => by exact absurd (show 0 + (209 - v5.toInt) * 2 < (0 : Int) from hm) (by omega))⟩
  | succ n ih => exact ⟨(fun v2 v5 o0 o1 k_o0 r_o0 k_o1 r_o1 i_v2 i_v5 x_0 x_1 hm => tCo_find_15 ih v2 v5 o0 o1 k_o0 r_o0 k_o1 r_o1 i_v2 i_v5 x_0 x_1 (by omega)), (fun v2 v5 o0 o1 k_o0 r_o0 k_o1 r_o1 i_v2 i_v5 x_0 x_1 hm => tCo_find_79 ih v2 v5 o0 o1 k_o0 r_o0 k_o1 r_o1 i_v2 i_v5 x_0 x_1 (by omega))⟩
set_option maxHeartbeats 4000000 in
set_option maxRecDepth 100000 in
theorem sCo_find (v2 : Int32) (v3 : Int64) (o0 : cf_O) (o1 : cf_O) (k_o0 : okO I_Co o0) (k_o1 : okO I_Gr o1) (i_v2 : (1 : Int) ≤ v2.toInt ∧ v2.toInt ≤ 208) (x_0 : Bk v3) : tt (fCo_find v2 v3 o0 o1) (QCo_find v2 v3 o0 o1) := by
  have H := hCo_find v2 v3 o0 o1 cfFU
  have hm : (837 : Int) ≤ (cfFU : Nat) := by decide
  have r_o0 : Fr (fr_M [0, 1] [2, 3, 4] []) o0 o0 := fr_rfl
  have r_o1 : Fr (fr_M [] [] []) o1 o1 := fr_rfl
  unfold fCo_find fCo_find_0
  have g_o0_0 : (0 : Int) ≤ (o0.1 0).toInt ∧ (o0.1 0).toInt ≤ 5 := k_o0.1 0
  have g_o0_1 : ((-2147483648) : Int) ≤ (o0.1 1).toInt ∧ (o0.1 1).toInt ≤ 2147483647 := k_o0.1 1
  have g_o1_0 : (0 : Int) ≤ (o1.1 0).toInt ∧ (o1.1 0).toInt ≤ 8 := k_o1.1 0
  have g_o1_1 : (0 : Int) ≤ (o1.1 1).toInt ∧ (o1.1 1).toInt ≤ 6 := k_o1.1 1
  refine tt_b (sCo_takeCut _ _ k_o0 x_0) (fun q1 hq1 => ?_)
  obtain ⟨k_q1, n_q1, zq1_0, zq1_1, -⟩ := hq1
  have r_q1 := fr_tr r_o0 n_q1 rfl rfl rfl
  have g_q1_0 : (0 : Int) ≤ (q1.1 0).toInt ∧ (q1.1 0).toInt ≤ 5 := k_q1.1 0
  have e_q1_1 : (q1.1 1).toInt = (o0.1 1).toInt := congrArg Int32.toInt (n_q1.1 1 rfl)
  have g_q1_1 : ((-2147483648) : Int) ≤ (q1.1 1).toInt ∧ (q1.1 1).toInt ≤ 2147483647 := k_q1.1 1
  refine tt_n (ix_ok i_v2 (by decide) (by decide)) ?_
  refine tt_ko ?_
  have k2 := ok_xp (k := 3) (i := v2.toNatClampNeg) (v := 1) k_q1 (iv_w (a := 0) (b := 2) (by decide) (by decide) (show (1 : Int) ≤ (1 : Int32).toInt ∧ (1 : Int32).toInt ≤ 1 by decide))
  have r3 := fr_xp (k := 3) (i := v2.toNatClampNeg) (v := 1) r_q1 rfl
  exact H.1 _ _ _ _ k2 r3 k_o1 r_o1 i_v2 (iv_w (a := 0) (b := 208) (by decide) (by decide) i_v2) zq1_0 zq1_1 (show 418 + (v2.toInt - 0) * 2 < ((cfFU : Nat) : Int) by omega)
def QCv_cutOf (v1 : Int32) (o0 : cf_O) (r : (Int64)) : Prop := (Ctq r v1.toInt (o0.1 0).toInt (o0.2.1 2) (o0.2.2 5)) ∧ True
set_option maxHeartbeats 4000000 in
set_option maxRecDepth 100000 in
theorem sCv_cutOf (v1 : Int32) (o0 : cf_O) (k_o0 : okO I_Cv o0) (i_v1 : (0 : Int) ≤ v1.toInt ∧ v1.toInt ≤ 199) (f_o0_0 : (1 : Int) ≤ (o0.1 0).toInt ∧ (o0.1 0).toInt ≤ 200) : tt (fCv_cutOf v1 o0) (QCv_cutOf v1 o0) := by
  have r_o0 : Fr (fr_M [] [] []) o0 o0 := fr_rfl
  unfold fCv_cutOf fCv_cutOf_0
  refine tt_n (ix_ok i_v1 (by decide) (by decide)) ?_
  refine tt_kv (P := fun z => ((0 : Int) ≤ z.toInt ∧ z.toInt ≤ 208) ∧ z = (o0.2.1 2 v1.toNatClampNeg) ∧ z.toInt = (o0.2.1 2 v1.toNatClampNeg).toInt) ⟨(k_o0.2 2 _), rfl, rfl⟩ (fun x1 qi2 => ?_)
  obtain ⟨i2, ax1, ei2⟩ := qi2
  refine tt_n (ix_ok i2 (by decide) (by decide)) ?_
  refine tt_klr (fun x3 ax3 => ?_)
  have p4 : Ctq x3 v1.toInt (o0.1 0).toInt (o0.2.1 2) (o0.2.2 5) := by exact Ctq_i (by assumption) (by assumption)
  exact tt_some ⟨p4, trivial⟩
def QJArrays_fill_AII_Cv6 (v1 : Int32) (o0 : cf_O) (r : (cf_O)) : Prop := (okO I_Cv r) ∧ (Fr (fr_M [] [6] []) o0 r) ∧ (Fmo 209 (r.2.1 6)) ∧ True
def HJArrays_fill_AII_Cv6 (yv1 : Int32) (yo0 : cf_O) (n : Nat) : Prop := (∀ (v1 : Int32) (v2 : Int32) (v3 : Int32) (o0 : cf_O), (okO I_Cv o0) → (Fr (fr_M [] [6] []) yo0 o0) → (((-1) : Int) ≤ v1.toInt ∧ v1.toInt ≤ (-1)) → ((0 : Int) ≤ v2.toInt ∧ v2.toInt ≤ 209) → ((209 : Int) ≤ v3.toInt ∧ v3.toInt ≤ 209) → (Fmo v2.toInt (o0.2.1 6)) → 0 + (209 - v2.toInt) * 2 < (n : Int) → tt (gJArrays_fill_AII_Cv6 n 0 v1 v2 v3 o0) (QJArrays_fill_AII_Cv6 yv1 yo0))
set_option maxHeartbeats 4000000 in
set_option maxRecDepth 100000 in
theorem tJArrays_fill_AII_Cv6_5 {yv1 : Int32} {yo0 : cf_O} {n : Nat} (H : HJArrays_fill_AII_Cv6 yv1 yo0 n) (v1 : Int32) (v2 : Int32) (v3 : Int32) (o0 : cf_O) (k_o0 : okO I_Cv o0) (r_o0 : Fr (fr_M [] [6] []) yo0 o0) (i_v1 : ((-1) : Int) ≤ v1.toInt ∧ v1.toInt ≤ (-1)) (i_v2 : (0 : Int) ≤ v2.toInt ∧ v2.toInt ≤ 209) (i_v3 : (209 : Int) ≤ v3.toInt ∧ v3.toInt ≤ 209) (x_0 : Fmo v2.toInt (o0.2.1 6)) (hm : 0 + (209 - v2.toInt) * 2 ≤ (n : Int)) : tt (fJArrays_fill_AII_Cv6_5 (gJArrays_fill_AII_Cv6 n) v1 v2 v3 o0) (QJArrays_fill_AII_Cv6 yv1 yo0) := by
  unfold fJArrays_fill_AII_Cv6_5
  refine tt_if (fun c1 => ?_) (fun c1 => ?_)
  · have wc1 : v3.toInt ≤ v2.toInt := c_le c1
    have i2 : (209 : Int) ≤ v2.toInt ∧ v2.toInt ≤ 209 := nr_ler c1 i_v3 i_v2 (by decide) (by decide)
    have p3 : Fmo 209 (o0.2.1 6) := by exact Fmo_e x_0 (by omega)
    exact tt_some ⟨k_o0, r_o0, p3, trivial⟩
  · have wc1 : v2.toInt < v3.toInt := c_nle c1
    have i4 : (0 : Int) ≤ v2.toInt ∧ v2.toInt ≤ 208 := nr_nlel c1 i_v2 i_v3 (by decide) (by decide)
    refine tt_n (ix_ok i4 (by decide) (by decide)) ?_
    refine tt_ko ?_
    have k5 := ok_xp (k := 6) (i := v2.toNatClampNeg) (v := v1) k_o0 (iv_w (a := (-2147483648)) (b := 2147483647) (by decide) (by decide) i_v1)
    have r6 := fr_xp (k := 6) (i := v2.toNatClampNeg) (v := v1) r_o0 rfl
    refine tt_kv (P := fun z => ((1 : Int) ≤ z.toInt ∧ z.toInt ≤ 209) ∧ z.toInt = v2.toInt + 1) ⟨iv_add i4 (show (1 : Int) ≤ (1 : Int32).toInt ∧ (1 : Int32).toInt ≤ 1 by decide) (by decide) (by decide) (by decide) (by decide), iq_add i4 (show (1 : Int) ≤ (1 : Int32).toInt ∧ (1 : Int32).toInt ≤ 1 by decide) (by decide) (by decide)⟩ (fun x7 qi8 => ?_)
    obtain ⟨i8, ei8⟩ := qi8
    have p9 : Fmo x7.toInt (upd (o0.2.1 6) (v2.toNatClampNeg) v1) := by exact Fmo_s x_0 (by omega) (by rw [tn_n]; omega) (by omega)
    exact H _ _ _ _ k5 r6 i_v1 (iv_w (a := 0) (b := 209) (by decide) (by decide) i8) i_v3 p9 (show 0 + (209 - x7.toInt) * 2 < (n : Int) by omega)
set_option maxHeartbeats 4000000 in
set_option maxRecDepth 100000 in
theorem hJArrays_fill_AII_Cv6 (yv1 : Int32) (yo0 : cf_O) : ∀ n, HJArrays_fill_AII_Cv6 yv1 yo0 n := by
  intro n
  induction n with
  | zero => exact (fun v1 v2 v3 o0 k_o0 r_o0 i_v1 i_v2 i_v3 x_0 hm => by exact absurd (show 0 + (209 - v2.toInt) * 2 < (0 : Int) from hm) (by omega))
  | succ n ih => exact (fun v1 v2 v3 o0 k_o0 r_o0 i_v1 i_v2 i_v3 x_0 hm => tJArrays_fill_AII_Cv6_5 ih v1 v2 v3 o0 k_o0 r_o0 i_v1 i_v2 i_v3 x_0 (by omega))
set_option maxHeartbeats 4000000 in
set_option maxRecDepth 100000 in
theorem sJArrays_fill_AII_Cv6 (v1 : Int32) (o0 : cf_O) (k_o0 : okO I_Cv o0) (i_v1 : ((-1) : Int) ≤ v1.toInt ∧ v1.toInt ≤ (-1)) : tt (fJArrays_fill_AII_Cv6 v1 o0) (QJArrays_fill_AII_Cv6 v1 o0) := by
  have H := hJArrays_fill_AII_Cv6 v1 o0 cfFU
  have hm : (421 : Int) ≤ (cfFU : Nat) := by decide
  have r_o0 : Fr (fr_M [] [6] []) o0 o0 := fr_rfl
  unfold fJArrays_fill_AII_Cv6 fJArrays_fill_AII_Cv6_0
  have p1 : Fmo 0 (o0.2.1 6) := by exact Fmo_0 _
  exact H _ _ _ _ k_o0 r_o0 i_v1 (iv_w (a := 0) (b := 209) (by decide) (by decide) (show (0 : Int) ≤ (0 : Int32).toInt ∧ (0 : Int32).toInt ≤ 0 by decide)) (show (209 : Int) ≤ (209 : Int32).toInt ∧ (209 : Int32).toInt ≤ 209 by decide) p1 (show 0 + (209 - 0) * 2 < ((cfFU : Nat) : Int) by omega)
def QGr_isGate (v1 : Int32) (o0 : cf_O) (r : (Int32)) : Prop := ((0 : Int) ≤ r.toInt ∧ r.toInt ≤ 1) ∧ (r.toInt = 0 ∨ ((o0.1 0).toInt < v1.toInt ∧ v1.toInt < 1 + (o0.1 0).toInt + (o0.1 2).toInt)) ∧ (Ig r.toInt v1.toInt (o0.1 0).toInt (o0.1 2).toInt) ∧ True
set_option maxHeartbeats 4000000 in
set_option maxRecDepth 100000 in
theorem sGr_isGate (v1 : Int32) (o0 : cf_O) (k_o0 : okO I_Gr o0) : tt (fGr_isGate v1 o0) (QGr_isGate v1 o0) := by
  have r_o0 : Fr (fr_M [] [] []) o0 o0 := fr_rfl
  unfold fGr_isGate fGr_isGate_0
  have i_v1 := iv_top v1
  have g_o0_0 : (0 : Int) ≤ (o0.1 0).toInt ∧ (o0.1 0).toInt ≤ 8 := k_o0.1 0
  have g_o0_2 : (0 : Int) ≤ (o0.1 2).toInt ∧ (o0.1 2).toInt ≤ 200 := k_o0.1 2
  refine tt_if (fun c1 => ?_) (fun c1 => ?_)
  · have wc1 : v1.toInt ≤ (o0.1 0).toInt := c_le c1
    have i2 : ((-2147483648) : Int) ≤ v1.toInt ∧ v1.toInt ≤ 8 := nr_lel c1 (iv_top v1) (k_o0.1 0) (by decide) (by decide)
    try unfold fGr_isGate_20
    try unfold fGr_isGate_21
    refine tt_w (iv_b (show (0 : Int) ≤ (0 : Int32).toInt ∧ (0 : Int32).toInt ≤ 0 by decide) (by decide) (by decide)) ?_
    have p3 : Ig 0 v1.toInt (o0.1 0).toInt (o0.1 2).toInt := by intro zz; omega
    exact tt_some ⟨(iv_w (a := 0) (b := 1) (by decide) (by decide) (show (0 : Int) ≤ (0 : Int32).toInt ∧ (0 : Int32).toInt ≤ 0 by decide)), (show 0 = 0 ∨ ((o0.1 0).toInt < v1.toInt ∧ v1.toInt < 1 + (o0.1 0).toInt + (o0.1 2).toInt) by omega), p3, trivial⟩
  · have wc1 : (o0.1 0).toInt < v1.toInt := c_nle c1
    have i4 : (1 : Int) ≤ v1.toInt ∧ v1.toInt ≤ 2147483647 := nr_nler c1 (k_o0.1 0) (iv_top v1) (by decide) (by decide)
    try unfold fGr_size
    try unfold fGr_size_0
    refine tt_bkv (P := fun z => ((1 : Int) ≤ z.toInt ∧ z.toInt ≤ 9) ∧ z.toInt = 1 + (o0.1 0).toInt) ⟨iv_add (show (1 : Int) ≤ (1 : Int32).toInt ∧ (1 : Int32).toInt ≤ 1 by decide) (k_o0.1 0) (by decide) (by decide) (by decide) (by decide), iq_add (show (1 : Int) ≤ (1 : Int32).toInt ∧ (1 : Int32).toInt ≤ 1 by decide) (k_o0.1 0) (by decide) (by decide)⟩ (fun x5 qi6 => ?_)
    obtain ⟨i6, ei6⟩ := qi6
    refine tt_bkv (P := fun z => ((1 : Int) ≤ z.toInt ∧ z.toInt ≤ 209) ∧ z.toInt = x5.toInt + (o0.1 2).toInt) ⟨iv_add i6 (k_o0.1 2) (by decide) (by decide) (by decide) (by decide), iq_add i6 (k_o0.1 2) (by decide) (by decide)⟩ (fun x7 qi8 => ?_)
    obtain ⟨i8, ei8⟩ := qi8
    refine tt_bs ?_
    refine tt_if (fun c9 => ?_) (fun c9 => ?_)
    · have wc9 : x7.toInt ≤ v1.toInt := c_le c9
      try unfold fGr_isGate_20
      try unfold fGr_isGate_21
      refine tt_w (iv_b (show (0 : Int) ≤ (0 : Int32).toInt ∧ (0 : Int32).toInt ≤ 0 by decide) (by decide) (by decide)) ?_
      have p10 : Ig 0 v1.toInt (o0.1 0).toInt (o0.1 2).toInt := by intro zz; omega
      exact tt_some ⟨(iv_w (a := 0) (b := 1) (by decide) (by decide) (show (0 : Int) ≤ (0 : Int32).toInt ∧ (0 : Int32).toInt ≤ 0 by decide)), (show 0 = 0 ∨ ((o0.1 0).toInt < v1.toInt ∧ v1.toInt < 1 + (o0.1 0).toInt + (o0.1 2).toInt) by omega), p10, trivial⟩
    · have wc9 : v1.toInt < x7.toInt := c_nle c9
      have i11 : (1 : Int) ≤ v1.toInt ∧ v1.toInt ≤ 208 := nr_nlel c9 i4 i8 (by decide) (by decide)
      have i12 : (2 : Int) ≤ x7.toInt ∧ x7.toInt ≤ 209 := nr_nler c9 i4 i8 (by decide) (by decide)
      try unfold fGr_isGate_21
      refine tt_w (iv_b (show (1 : Int) ≤ (1 : Int32).toInt ∧ (1 : Int32).toInt ≤ 1 by decide) (by decide) (by decide)) ?_
      have p13 : Ig 1 v1.toInt (o0.1 0).toInt (o0.1 2).toInt := by intro zz; omega
      exact tt_some ⟨(iv_w (a := 0) (b := 1) (by decide) (by decide) (show (1 : Int) ≤ (1 : Int32).toInt ∧ (1 : Int32).toInt ≤ 1 by decide)), (show 1 = 0 ∨ ((o0.1 0).toInt < v1.toInt ∧ v1.toInt < 1 + (o0.1 0).toInt + (o0.1 2).toInt) by omega), p13, trivial⟩
def QCv_wantOutputs (o0 : cf_O) (o1 : cf_O) (o2 : cf_O) (r : (cf_O)) : Prop := (okO I_Cv r) ∧ (Fr (fr_M [1] [6] []) o0 r) ∧ ((0 : Int) ≤ (r.1 1).toInt ∧ (r.1 1).toInt ≤ 2147483647) ∧ (Tdm (o2.2.1 1) (r.2.1 6)) ∧ True
def HCv_wantOutputs (yo0 : cf_O) (yo1 : cf_O) (yo2 : cf_O) (n : Nat) : Prop := (∀ (v3 : Int32) (o0 : cf_O) (o1 : cf_O) (o2 : cf_O), (okO I_Cv o0) → (Fr (fr_M [1] [6] []) yo0 o0) → (okO I_Gr o1) → (Fr (fr_M [] [] []) yo1 o1) → (okO I_Cu o2) → (Fr (fr_M [] [] []) yo2 o2) → ((0 : Int) ≤ v3.toInt ∧ v3.toInt ≤ 6) → ((0 : Int) ≤ (o0.1 1).toInt ∧ (o0.1 1).toInt ≤ 2147483647) → ((0 : Int) ≤ (o2.1 0).toInt ∧ (o2.1 0).toInt ≤ 5) → (Fmo 209 (o0.2.1 6)) → (Gmx v3.toInt (o0.1 1).toInt (o1.2.1 7) (o2.2.1 1)) → 14 + (6 - v3.toInt) * 2 < (n : Int) → tt (gCv_wantOutputs n 0 v3 o0 o1 o2) (QCv_wantOutputs yo0 yo1 yo2)) ∧ (∀ (v3 : Int32) (o0 : cf_O) (o1 : cf_O) (o2 : cf_O), (okO I_Cv o0) → (Fr (fr_M [1] [6] []) yo0 o0) → (okO I_Gr o1) → (Fr (fr_M [] [] []) yo1 o1) → (okO I_Cu o2) → (Fr (fr_M [] [] []) yo2 o2) → ((0 : Int) ≤ v3.toInt ∧ v3.toInt ≤ 6) → ((0 : Int) ≤ (o0.1 1).toInt ∧ (o0.1 1).toInt ≤ 2147483647) → ((0 : Int) ≤ (o2.1 0).toInt ∧ (o2.1 0).toInt ≤ 5) → (Tdm (o2.2.1 1) (o0.2.1 6)) → (Gmx (o1.1 1).toInt (o0.1 1).toInt (o1.2.1 7) (o2.2.1 1)) → 0 + (6 - v3.toInt) * 2 < (n : Int) → tt (gCv_wantOutputs n 1 v3 o0 o1 o2) (QCv_wantOutputs yo0 yo1 yo2))
set_option maxHeartbeats 4000000 in
set_option maxRecDepth 100000 in
theorem tCv_wantOutputs_55 {yo0 : cf_O} {yo1 : cf_O} {yo2 : cf_O} {n : Nat} (H : HCv_wantOutputs yo0 yo1 yo2 n) (v3 : Int32) (o0 : cf_O) (o1 : cf_O) (o2 : cf_O) (k_o0 : okO I_Cv o0) (r_o0 : Fr (fr_M [1] [6] []) yo0 o0) (k_o1 : okO I_Gr o1) (r_o1 : Fr (fr_M [] [] []) yo1 o1) (k_o2 : okO I_Cu o2) (r_o2 : Fr (fr_M [] [] []) yo2 o2) (i_v3 : (0 : Int) ≤ v3.toInt ∧ v3.toInt ≤ 6) (f_o0_1 : (0 : Int) ≤ (o0.1 1).toInt ∧ (o0.1 1).toInt ≤ 2147483647) (f_o2_0 : (0 : Int) ≤ (o2.1 0).toInt ∧ (o2.1 0).toInt ≤ 5) (x_0 : Tdm (o2.2.1 1) (o0.2.1 6)) (x_1 : Gmx (o1.1 1).toInt (o0.1 1).toInt (o1.2.1 7) (o2.2.1 1)) (hm : 0 + (6 - v3.toInt) * 2 ≤ (n : Int)) : tt (fCv_wantOutputs_55 (gCv_wantOutputs n) v3 o0 o1 o2) (QCv_wantOutputs yo0 yo1 yo2) := by
  unfold fCv_wantOutputs_55
  have g_o1_1 : (0 : Int) ≤ (o1.1 1).toInt ∧ (o1.1 1).toInt ≤ 6 := k_o1.1 1
  have ey_o1_1 : (o1.1 1).toInt = (yo1.1 1).toInt := congrArg Int32.toInt (r_o1.1 1 rfl)
  have g_o2_1 : (0 : Int) ≤ (o2.1 1).toInt ∧ (o2.1 1).toInt ≤ 0 := k_o2.1 1
  have ey_o2_1 : (o2.1 1).toInt = (yo2.1 1).toInt := congrArg Int32.toInt (r_o2.1 1 rfl)
  refine tt_if (fun c1 => ?_) (fun c1 => ?_)
  · have wc1 : (o1.1 1).toInt ≤ v3.toInt := c_le c1
    have p2 : Tdm (yo2.2.1 1) (o0.2.1 6) := by rw [← r_o2.2.1 1 rfl]; exact x_0
    exact tt_some ⟨k_o0, r_o0, f_o0_1, p2, trivial⟩
  · have wc1 : v3.toInt < (o1.1 1).toInt := c_nle c1
    have i3 : (0 : Int) ≤ v3.toInt ∧ v3.toInt ≤ 5 := nr_nlel c1 i_v3 (k_o1.1 1) (by decide) (by decide)
    have i4 : (1 : Int) ≤ (o1.1 1).toInt ∧ (o1.1 1).toInt ≤ 6 := nr_nler c1 i_v3 (k_o1.1 1) (by decide) (by decide)
    refine tt_n (ix_ok i3 (by decide) (by decide)) ?_
    refine tt_kv (P := fun z => ((0 : Int) ≤ z.toInt ∧ z.toInt ≤ 417) ∧ z = (o1.2.1 7 v3.toNatClampNeg) ∧ z.toInt = (o1.2.1 7 v3.toNatClampNeg).toInt) ⟨(k_o1.2 7 _), rfl, rfl⟩ (fun x5 qi6 => ?_)
    obtain ⟨i6, ax5, ei6⟩ := qi6
    refine tt_kv (P := fun z => ((0 : Int) ≤ z.toInt ∧ z.toInt ≤ 208) ∧ z = (x5 >>> (1 &&& 31)) ∧ z.toInt = x5.toInt / 2) ⟨iv_shr (p := 1) (q := 1) i6 (show (1 : Int) ≤ (1 : Int32).toInt ∧ (1 : Int32).toInt ≤ 1 by decide) (by decide) (by decide) (by decide) (by decide), rfl, i_s1 (Int.le_trans (by decide) i6.1)⟩ (fun x7 qi8 => ?_)
    obtain ⟨i8, ax7, ei8⟩ := qi8
    refine tt_b (sGr_isGate _ _ k_o1) (fun q9 hq9 => ?_)
    obtain ⟨i_q9, zq9_0, zq9_1, -⟩ := hq9
    have zq9_0 : q9.toInt = 0 ∨ ((o1.1 0).toInt < x7.toInt ∧ x7.toInt < 1 + (o1.1 0).toInt + (o1.1 2).toInt) := zq9_0
    refine tt_if (fun c10 => ?_) (fun c10 => ?_)
    · have wc10 : q9.toInt = (0 : Int) := c_eq c10
      have i11 : (0 : Int) ≤ q9.toInt ∧ q9.toInt ≤ 0 := nr_eql c10 i_q9 (show (0 : Int) ≤ (0 : Int32).toInt ∧ (0 : Int32).toInt ≤ 0 by decide) (by decide) (by decide)
      try unfold fCv_wantOutputs_93
      refine tt_kv (P := fun z => ((1 : Int) ≤ z.toInt ∧ z.toInt ≤ 6) ∧ z = (v3 + 1) ∧ z.toInt = v3.toInt + 1) ⟨iv_add i3 (show (1 : Int) ≤ (1 : Int32).toInt ∧ (1 : Int32).toInt ≤ 1 by decide) (by decide) (by decide) (by decide) (by decide), rfl, iq_add i3 (show (1 : Int) ≤ (1 : Int32).toInt ∧ (1 : Int32).toInt ≤ 1 by decide) (by decide) (by decide)⟩ (fun x12 qi13 => ?_)
      obtain ⟨i13, ax12, ei13⟩ := qi13
      exact H.2 _ _ _ _ k_o0 r_o0 k_o1 r_o1 k_o2 r_o2 (iv_w (a := 0) (b := 6) (by decide) (by decide) i13) f_o0_1 f_o2_0 x_0 x_1 (show 0 + (6 - x12.toInt) * 2 < (n : Int) by omega)
    · have wc10 : ¬ q9.toInt = (0 : Int) := c_ne c10
      have i14 : (1 : Int) ≤ q9.toInt ∧ q9.toInt ≤ 1 := nr_nela c10 i_q9 (show (0 : Int) ≤ (0 : Int32).toInt ∧ (0 : Int32).toInt ≤ 0 by decide) (by decide) (by decide)
      refine tt_n (ix_ok i8 (by decide) (by decide)) ?_
      refine tt_ko ?_
      have k15 := ok_xp (k := 6) (i := x7.toNatClampNeg) (v := (o0.1 1)) k_o0 (iv_w (a := (-2147483648)) (b := 2147483647) (by decide) (by decide) f_o0_1)
      have r16 := fr_xp (k := 6) (i := x7.toNatClampNeg) (v := (o0.1 1)) r_o0 rfl
      try unfold fCv_wantOutputs_93
      refine tt_kv (P := fun z => ((1 : Int) ≤ z.toInt ∧ z.toInt ≤ 6) ∧ z = (v3 + 1) ∧ z.toInt = v3.toInt + 1) ⟨iv_add i3 (show (1 : Int) ≤ (1 : Int32).toInt ∧ (1 : Int32).toInt ≤ 1 by decide) (by decide) (by decide) (by decide) (by decide), rfl, iq_add i3 (show (1 : Int) ≤ (1 : Int32).toInt ∧ (1 : Int32).toInt ≤ 1 by decide) (by decide) (by decide)⟩ (fun x17 qi18 => ?_)
      obtain ⟨i18, ax17, ei18⟩ := qi18
      have p19 : Tdm (o2.2.1 1) (upd (o0.2.1 6) (x7.toNatClampNeg) (o0.1 1)) := by first | exact x_0 | exact Gmx_t (i := v3.toNatClampNeg) x_1 x_0 (by rw [tn_n]; omega) (by assumption) (by omega) rfl
      exact H.2 _ _ _ _ k15 r16 k_o1 r_o1 k_o2 r_o2 (iv_w (a := 0) (b := 6) (by decide) (by decide) i18) f_o0_1 f_o2_0 p19 x_1 (show 0 + (6 - x17.toInt) * 2 < (n : Int) by omega)
set_option maxHeartbeats 4000000 in
set_option maxRecDepth 100000 in
theorem tCv_wantOutputs_15 {yo0 : cf_O} {yo1 : cf_O} {yo2 : cf_O} {n : Nat} (H : HCv_wantOutputs yo0 yo1 yo2 n) (v3 : Int32) (o0 : cf_O) (o1 : cf_O) (o2 : cf_O) (k_o0 : okO I_Cv o0) (r_o0 : Fr (fr_M [1] [6] []) yo0 o0) (k_o1 : okO I_Gr o1) (r_o1 : Fr (fr_M [] [] []) yo1 o1) (k_o2 : okO I_Cu o2) (r_o2 : Fr (fr_M [] [] []) yo2 o2) (i_v3 : (0 : Int) ≤ v3.toInt ∧ v3.toInt ≤ 6) (f_o0_1 : (0 : Int) ≤ (o0.1 1).toInt ∧ (o0.1 1).toInt ≤ 2147483647) (f_o2_0 : (0 : Int) ≤ (o2.1 0).toInt ∧ (o2.1 0).toInt ≤ 5) (x_0 : Fmo 209 (o0.2.1 6)) (x_1 : Gmx v3.toInt (o0.1 1).toInt (o1.2.1 7) (o2.2.1 1)) (hm : 14 + (6 - v3.toInt) * 2 ≤ (n : Int)) : tt (fCv_wantOutputs_15 (gCv_wantOutputs n) v3 o0 o1 o2) (QCv_wantOutputs yo0 yo1 yo2) := by
  unfold fCv_wantOutputs_15
  have g_o1_1 : (0 : Int) ≤ (o1.1 1).toInt ∧ (o1.1 1).toInt ≤ 6 := k_o1.1 1
  have ey_o1_1 : (o1.1 1).toInt = (yo1.1 1).toInt := congrArg Int32.toInt (r_o1.1 1 rfl)
  have g_o2_1 : (0 : Int) ≤ (o2.1 1).toInt ∧ (o2.1 1).toInt ≤ 0 := k_o2.1 1
  have ey_o2_1 : (o2.1 1).toInt = (yo2.1 1).toInt := congrArg Int32.toInt (r_o2.1 1 rfl)
  refine tt_if (fun c1 => ?_) (fun c1 => ?_)
  · have wc1 : (o1.1 1).toInt ≤ v3.toInt := c_le c1
    have p2 : Tdm (o2.2.1 1) (o0.2.1 6) := by exact Tdm_0 x_0
    have p3 : Gmx (o1.1 1).toInt (o0.1 1).toInt (o1.2.1 7) (o2.2.1 1) := by exact Gmx_e x_1 (by omega)
    exact H.2 _ _ _ _ k_o0 r_o0 k_o1 r_o1 k_o2 r_o2 (iv_w (a := 0) (b := 6) (by decide) (by decide) (show (0 : Int) ≤ (0 : Int32).toInt ∧ (0 : Int32).toInt ≤ 0 by decide)) f_o0_1 f_o2_0 p2 p3 (show 0 + (6 - 0) * 2 < (n : Int) by omega)
  · have wc1 : v3.toInt < (o1.1 1).toInt := c_nle c1
    have i4 : (0 : Int) ≤ v3.toInt ∧ v3.toInt ≤ 5 := nr_nlel c1 i_v3 (k_o1.1 1) (by decide) (by decide)
    have i5 : (1 : Int) ≤ (o1.1 1).toInt ∧ (o1.1 1).toInt ≤ 6 := nr_nler c1 i_v3 (k_o1.1 1) (by decide) (by decide)
    refine tt_n (ix_ok i4 (by decide) (by decide)) ?_
    refine tt_kv (P := fun z => ((0 : Int) ≤ z.toInt ∧ z.toInt ≤ 417) ∧ z = (o1.2.1 7 v3.toNatClampNeg) ∧ z.toInt = (o1.2.1 7 v3.toNatClampNeg).toInt) ⟨(k_o1.2 7 _), rfl, rfl⟩ (fun x6 qi7 => ?_)
    obtain ⟨i7, ax6, ei7⟩ := qi7
    refine tt_kv (P := fun z => ((0 : Int) ≤ z.toInt ∧ z.toInt ≤ 208) ∧ z = (x6 >>> (1 &&& 31)) ∧ z.toInt = x6.toInt / 2) ⟨iv_shr (p := 1) (q := 1) i7 (show (1 : Int) ≤ (1 : Int32).toInt ∧ (1 : Int32).toInt ≤ 1 by decide) (by decide) (by decide) (by decide) (by decide), rfl, i_s1 (Int.le_trans (by decide) i7.1)⟩ (fun x8 qi9 => ?_)
    obtain ⟨i9, ax8, ei9⟩ := qi9
    refine tt_n (ix_ok i9 (by decide) (by decide)) ?_
    refine tt_kv (P := fun z => (((-2147483648) : Int) ≤ z.toInt ∧ z.toInt ≤ 2147483647) ∧ z = (o2.2.1 1 x8.toNatClampNeg) ∧ z.toInt = (o2.2.1 1 x8.toNatClampNeg).toInt) ⟨(k_o2.2 1 _), rfl, rfl⟩ (fun x10 qi11 => ?_)
    obtain ⟨i11, ax10, ei11⟩ := qi11
    refine tt_kv (P := fun z => ((0 : Int) ≤ z.toInt ∧ z.toInt ≤ 2147483647) ∧ z = (op_mx (o0.1 1) x10)) ⟨iv_mx f_o0_1 i11 (by decide) (by decide) (by decide) (by decide), rfl⟩ (fun x12 qi13 => ?_)
    obtain ⟨i13, ax12⟩ := qi13
    refine tt_ko ?_
    have k14 := ok_fp (k := 1) (v := x12) k_o0 (iv_w (a := (-2147483648)) (b := 2147483647) (by decide) (by decide) i13)
    have r15 := fr_fp (k := 1) (v := x12) r_o0 rfl
    refine tt_kv (P := fun z => ((1 : Int) ≤ z.toInt ∧ z.toInt ≤ 6) ∧ z = (v3 + 1) ∧ z.toInt = v3.toInt + 1) ⟨iv_add i4 (show (1 : Int) ≤ (1 : Int32).toInt ∧ (1 : Int32).toInt ≤ 1 by decide) (by decide) (by decide) (by decide) (by decide), rfl, iq_add i4 (show (1 : Int) ≤ (1 : Int32).toInt ∧ (1 : Int32).toInt ≤ 1 by decide) (by decide) (by decide)⟩ (fun x16 qi17 => ?_)
    obtain ⟨i17, ax16, ei17⟩ := qi17
    have p18 : Gmx x16.toInt x12.toInt (o1.2.1 7) (o2.2.1 1) := by exact Gmx_s (i := v3.toNatClampNeg) x_1 (by rw [tn_n]; omega) (by assumption) (by assumption) (by assumption) (by omega) rfl rfl (by omega)
    exact H.1 _ _ _ _ k14 r15 k_o1 r_o1 k_o2 r_o2 (iv_w (a := 0) (b := 6) (by decide) (by decide) i17) i13 f_o2_0 x_0 p18 (show 14 + (6 - x16.toInt) * 2 < (n : Int) by omega)
set_option maxHeartbeats 4000000 in
set_option maxRecDepth 100000 in
theorem hCv_wantOutputs (yo0 : cf_O) (yo1 : cf_O) (yo2 : cf_O) : ∀ n, HCv_wantOutputs yo0 yo1 yo2 n := by
  intro n
  induction n with
  | zero => exact ⟨(fun v3 o0 o1 o2 k_o0 r_o0 k_o1 r_o1 k_o2 r_o2 i_v3 f_o0_1 f_o2_0 x_0 x_1 hm => by exact absurd (show 14 + (6 - v3.toInt) * 2 < (0 : Int) from hm) (by omega)), (fun v3 o0 o1 o2 k_o0 r_o0 k_o1 r_o1 k_o2 r_o2 i_v3 f_o0_1 f_o2_0 x_0 x_1 hm => by exact absurd (show 0 + (6 - v3.toInt) * 2 < (0 : Int) from hm) (by omega))⟩
  | succ n ih => exact ⟨(fun v3 o0 o1 o2 k_o0 r_o0 k_o1 r_o1 k_o2 r_o2 i_v3 f_o0_1 f_o2_0 x_0 x_1 hm => tCv_wantOutputs_15 ih v3 o0 o1 o2 k_o0 r_o0 k_o1 r_o1 k_o2 r_o2 i_v3 f_o0_1 f_o2_0 x_0 x_1 (by omega)), (fun v3 o0 o1 o2 k_o0 r_o0 k_o1 r_o1 k_o2 r_o2 i_v3 f_o0_1 f_o2_0 x_0 x_1 hm => tCv_wantOutputs_55 ih v3 o0 o1 o2 k_o0 r_o0 k_o1 r_o1 k_o2 r_o2 i_v3 f_o0_1 f_o2_0 x_0 x_1 (by omega))⟩
set_option maxHeartbeats 4000000 in
set_option maxRecDepth 100000 in
theorem sCv_wantOutputs (o0 : cf_O) (o1 : cf_O) (o2 : cf_O) (k_o0 : okO I_Cv o0) (k_o1 : okO I_Gr o1) (k_o2 : okO I_Cu o2) (f_o2_0 : (0 : Int) ≤ (o2.1 0).toInt ∧ (o2.1 0).toInt ≤ 5) : tt (fCv_wantOutputs o0 o1 o2) (QCv_wantOutputs o0 o1 o2) := by
  have H := hCv_wantOutputs o0 o1 o2 cfFU
  have hm : (29 : Int) ≤ (cfFU : Nat) := by decide
  have r_o0 : Fr (fr_M [1] [6] []) o0 o0 := fr_rfl
  have r_o1 : Fr (fr_M [] [] []) o1 o1 := fr_rfl
  have r_o2 : Fr (fr_M [] [] []) o2 o2 := fr_rfl
  unfold fCv_wantOutputs fCv_wantOutputs_0
  have g_o0_1 : ((-2147483648) : Int) ≤ (o0.1 1).toInt ∧ (o0.1 1).toInt ≤ 2147483647 := k_o0.1 1
  have g_o1_1 : (0 : Int) ≤ (o1.1 1).toInt ∧ (o1.1 1).toInt ≤ 6 := k_o1.1 1
  have g_o2_1 : (0 : Int) ≤ (o2.1 1).toInt ∧ (o2.1 1).toInt ≤ 0 := k_o2.1 1
  refine tt_b (sJArrays_fill_AII_Cv6 _ _ k_o0 (show ((-1) : Int) ≤ ((-1) : Int32).toInt ∧ ((-1) : Int32).toInt ≤ (-1) by decide)) (fun q1 hq1 => ?_)
  obtain ⟨k_q1, n_q1, zq1_0, -⟩ := hq1
  have r_q1 := fr_tr r_o0 n_q1 rfl rfl rfl
  have e_q1_1 : (q1.1 1).toInt = (o0.1 1).toInt := congrArg Int32.toInt (n_q1.1 1 rfl)
  have g_q1_1 : ((-2147483648) : Int) ≤ (q1.1 1).toInt ∧ (q1.1 1).toInt ≤ 2147483647 := k_q1.1 1
  refine tt_ko ?_
  have k2 := ok_fp (k := 1) (v := 0) k_q1 (iv_w (a := (-2147483648)) (b := 2147483647) (by decide) (by decide) (show (0 : Int) ≤ (0 : Int32).toInt ∧ (0 : Int32).toInt ≤ 0 by decide))
  have r3 := fr_fp (k := 1) (v := 0) r_q1 rfl
  have p4 : Gmx 0 0 (o1.2.1 7) (o2.2.1 1) := by exact Gmx_0
  exact H.1 _ _ _ _ k2 r3 k_o1 r_o1 k_o2 r_o2 (iv_w (a := 0) (b := 6) (by decide) (by decide) (show (0 : Int) ≤ (0 : Int32).toInt ∧ (0 : Int32).toInt ≤ 0 by decide)) (iv_w (a := 0) (b := 2147483647) (by decide) (by decide) (show (0 : Int) ≤ (0 : Int32).toInt ∧ (0 : Int32).toInt ≤ 0 by decide)) f_o2_0 zq1_0 p4 (show 14 + (6 - 0) * 2 < ((cfFU : Nat) : Int) by omega)
def QCu_firstOf (v1 : Int32) (o0 : cf_O) (r : (Int32)) : Prop := ((1 : Int) ≤ r.toInt ∧ r.toInt ≤ 62910) ∧ (r.toInt = (o0.2.1 2 v1.toNatClampNeg).toInt + 1) ∧ True
set_option maxHeartbeats 4000000 in
set_option maxRecDepth 100000 in
theorem sCu_firstOf (v1 : Int32) (o0 : cf_O) (k_o0 : okO I_Cu o0) (i_v1 : (1 : Int) ≤ v1.toInt ∧ v1.toInt ≤ 208) (f_o0_0 : (0 : Int) ≤ (o0.1 0).toInt ∧ (o0.1 0).toInt ≤ 5) : tt (fCu_firstOf v1 o0) (QCu_firstOf v1 o0) := by
  have r_o0 : Fr (fr_M [] [] []) o0 o0 := fr_rfl
  unfold fCu_firstOf fCu_firstOf_0
  refine tt_n (ix_ok i_v1 (by decide) (by decide)) ?_
  refine tt_kv (P := fun z => ((0 : Int) ≤ z.toInt ∧ z.toInt ≤ 62909) ∧ z.toInt = (o0.2.1 2 v1.toNatClampNeg).toInt) ⟨(k_o0.2 2 _), rfl⟩ (fun x1 qi2 => ?_)
  obtain ⟨i2, ei2⟩ := qi2
  refine tt_kv (P := fun z => ((1 : Int) ≤ z.toInt ∧ z.toInt ≤ 62910) ∧ z.toInt = x1.toInt + 1) ⟨iv_add i2 (show (1 : Int) ≤ (1 : Int32).toInt ∧ (1 : Int32).toInt ≤ 1 by decide) (by decide) (by decide) (by decide) (by decide), iq_add i2 (show (1 : Int) ≤ (1 : Int32).toInt ∧ (1 : Int32).toInt ≤ 1 by decide) (by decide) (by decide)⟩ (fun x3 qi4 => ?_)
  obtain ⟨i4, ei4⟩ := qi4
  exact tt_some ⟨i4, (show x3.toInt = (o0.2.1 2 v1.toNatClampNeg).toInt + 1 by omega), trivial⟩
def QCu_behindLastOf (v1 : Int32) (o0 : cf_O) (r : (Int32)) : Prop := ((0 : Int) ≤ r.toInt ∧ r.toInt ≤ 62909) ∧ (Bhl r.toInt v1.toInt (o0.2.1 2)) ∧ True
set_option maxHeartbeats 4000000 in
set_option maxRecDepth 100000 in
theorem sCu_behindLastOf (v1 : Int32) (o0 : cf_O) (k_o0 : okO I_Cu o0) (i_v1 : (1 : Int) ≤ v1.toInt ∧ v1.toInt ≤ 208) (f_o0_0 : (0 : Int) ≤ (o0.1 0).toInt ∧ (o0.1 0).toInt ≤ 5) : tt (fCu_behindLastOf v1 o0) (QCu_behindLastOf v1 o0) := by
  have r_o0 : Fr (fr_M [] [] []) o0 o0 := fr_rfl
  unfold fCu_behindLastOf fCu_behindLastOf_0
  refine tt_kv (P := fun z => ((2 : Int) ≤ z.toInt ∧ z.toInt ≤ 209) ∧ z = (v1 + 1) ∧ z.toInt = v1.toInt + 1) ⟨iv_add i_v1 (show (1 : Int) ≤ (1 : Int32).toInt ∧ (1 : Int32).toInt ≤ 1 by decide) (by decide) (by decide) (by decide) (by decide), rfl, iq_add i_v1 (show (1 : Int) ≤ (1 : Int32).toInt ∧ (1 : Int32).toInt ≤ 1 by decide) (by decide) (by decide)⟩ (fun x1 qi2 => ?_)
  obtain ⟨i2, ax1, ei2⟩ := qi2
  refine tt_n (ix_ok i2 (by decide) (by decide)) ?_
  refine tt_kv (P := fun z => ((0 : Int) ≤ z.toInt ∧ z.toInt ≤ 62909) ∧ z = (o0.2.1 2 x1.toNatClampNeg) ∧ z.toInt = (o0.2.1 2 x1.toNatClampNeg).toInt) ⟨(k_o0.2 2 _), rfl, rfl⟩ (fun x3 qi4 => ?_)
  obtain ⟨i4, ax3, ei4⟩ := qi4
  have p5 : Bhl x3.toInt v1.toInt (o0.2.1 2) := by exact Bhl_i (by assumption) (by rw [tn_n]; omega) (by omega)
  exact tt_some ⟨i4, p5, trivial⟩
def QCu_cutAt (v1 : Int32) (o0 : cf_O) (r : (Int64)) : Prop := ((r = (o0.2.2 4) (Int.toNat v1.toInt))) ∧ True
set_option maxHeartbeats 4000000 in
set_option maxRecDepth 100000 in
theorem sCu_cutAt (v1 : Int32) (o0 : cf_O) (k_o0 : okO I_Cu o0) (i_v1 : (1 : Int) ≤ v1.toInt ∧ v1.toInt ≤ 62908) (f_o0_0 : (0 : Int) ≤ (o0.1 0).toInt ∧ (o0.1 0).toInt ≤ 5) (x_0 : v1.toInt < (o0.1 4).toInt) : tt (fCu_cutAt v1 o0) (QCu_cutAt v1 o0) := by
  have r_o0 : Fr (fr_M [] [] []) o0 o0 := fr_rfl
  unfold fCu_cutAt fCu_cutAt_0
  have g_o0_4 : (1024 : Int) ≤ (o0.1 4).toInt ∧ (o0.1 4).toInt ≤ 131072 := k_o0.1 4
  refine tt_n (ix_v (x := v1) (l := (o0.1 4)) (by omega) (by omega)) ?_
  refine tt_klr (fun x1 ax1 => ?_)
  have p2 : (x1 = (o0.2.2 4) (Int.toNat v1.toInt)) := by assumption
  exact tt_some ⟨p2, trivial⟩
def QCu_depthOf (v1 : Int64) (o0 : cf_O) (r : (Int32)) : Prop := True
def HCu_depthOf (yv1 : Int64) (yo0 : cf_O) (n : Nat) : Prop := (∀ (v3 : Int32) (v4 : Int64) (o0 : cf_O), (okO I_Cu o0) → (Fr (fr_M [] [] []) yo0 o0) → ((0 : Int) ≤ v3.toInt ∧ v3.toInt ≤ 2147483647) → ((0 : Int) ≤ (o0.1 0).toInt ∧ (o0.1 0).toInt ≤ 5) → (Bo v4) → nb v4 < (n : Int) → tt (gCu_depthOf n 0 v3 v4 o0) (QCu_depthOf yv1 yo0))
set_option maxHeartbeats 4000000 in
set_option maxRecDepth 100000 in
theorem tCu_depthOf_5 {yv1 : Int64} {yo0 : cf_O} {n : Nat} (H : HCu_depthOf yv1 yo0 n) (v3 : Int32) (v4 : Int64) (o0 : cf_O) (k_o0 : okO I_Cu o0) (r_o0 : Fr (fr_M [] [] []) yo0 o0) (i_v3 : (0 : Int) ≤ v3.toInt ∧ v3.toInt ≤ 2147483647) (f_o0_0 : (0 : Int) ≤ (o0.1 0).toInt ∧ (o0.1 0).toInt ≤ 5) (x_0 : Bo v4) (hm : nb v4 ≤ (n : Int)) : tt (fCu_depthOf_5 (gCu_depthOf n) v3 v4 o0) (QCu_depthOf yv1 yo0) := by
  unfold fCu_depthOf_5
  have t1 := nb_0 v4
  refine tt_kv (P := fun z => (((-2147483648) : Int) ≤ z.toInt ∧ z.toInt ≤ 2147483647) ∧ z = (lg_cmp v4 (0 : Int64))) ⟨iv_top _, rfl⟩ (fun x2 qi3 => ?_)
  obtain ⟨i3, ax2⟩ := qi3
  have t4 := nb_p ax2
  refine tt_if (fun c5 => ?_) (fun c5 => ?_)
  · have wc5 : x2.toInt = (0 : Int) := c_eq c5
    have i6 : (0 : Int) ≤ x2.toInt ∧ x2.toInt ≤ 0 := nr_eql c5 i3 (show (0 : Int) ≤ (0 : Int32).toInt ∧ (0 : Int32).toInt ≤ 0 by decide) (by decide) (by decide)
    refine tt_kv (P := fun z => (((-2147483648) : Int) ≤ z.toInt ∧ z.toInt ≤ 2147483647) ∧ z = (v3 + 1)) ⟨iv_top _, rfl⟩ (fun x7 qi8 => ?_)
    obtain ⟨i8, ax7⟩ := qi8
    exact tt_some trivial
  · have wc5 : ¬ x2.toInt = (0 : Int) := c_ne c5
    refine tt_klr (fun x9 ax9 => ?_)
    refine tt_kv (P := fun z => (((-2147483648) : Int) ≤ z.toInt ∧ z.toInt ≤ 2147483647) ∧ z = x9.toInt32) ⟨iv_top _, rfl⟩ (fun x10 qi11 => ?_)
    obtain ⟨i11, ax10⟩ := qi11
    have t12 := by_0 x_0 ax9 ax10
    refine tt_n (ix_rel (by omega) (by omega)) ?_
    have i13 : (0 : Int) ≤ x10.toInt ∧ x10.toInt ≤ 208 := (by omega)
    refine tt_kv (P := fun z => (((-2147483648) : Int) ≤ z.toInt ∧ z.toInt ≤ 2147483647) ∧ z = (o0.2.1 1 x10.toNatClampNeg) ∧ z.toInt = (o0.2.1 1 x10.toNatClampNeg).toInt) ⟨(k_o0.2 1 _), rfl, rfl⟩ (fun x14 qi15 => ?_)
    obtain ⟨i15, ax14, ei15⟩ := qi15
    refine tt_kv (P := fun z => ((0 : Int) ≤ z.toInt ∧ z.toInt ≤ 2147483647) ∧ z = (op_mx v3 x14)) ⟨iv_mx i_v3 i15 (by decide) (by decide) (by decide) (by decide), rfl⟩ (fun x16 qi17 => ?_)
    obtain ⟨i17, ax16⟩ := qi17
    refine tt_klr (fun x18 ax18 => ?_)
    have t19 := nb_w ax2 ax18
    have t20 := nb_0 x18
    have p21 : Bo x18 := by exact Bo_s x_0 (by assumption)
    exact H _ _ _ k_o0 r_o0 i17 f_o0_0 p21 (show nb x18 < (n : Int) by omega)
set_option maxHeartbeats 4000000 in
set_option maxRecDepth 100000 in
theorem hCu_depthOf (yv1 : Int64) (yo0 : cf_O) : ∀ n, HCu_depthOf yv1 yo0 n := by
  intro n
  induction n with
  | zero => exact (fun v3 v4 o0 k_o0 r_o0 i_v3 f_o0_0 x_0 hm => by exact absurd (show nb v4 < (0 : Int) from hm) (by have zz := nb_0 v4; omega))
  | succ n ih => exact (fun v3 v4 o0 k_o0 r_o0 i_v3 f_o0_0 x_0 hm => tCu_depthOf_5 ih v3 v4 o0 k_o0 r_o0 i_v3 f_o0_0 x_0 (by omega))
set_option maxHeartbeats 4000000 in
set_option maxRecDepth 100000 in
theorem sCu_depthOf (v1 : Int64) (o0 : cf_O) (k_o0 : okO I_Cu o0) (f_o0_0 : (0 : Int) ≤ (o0.1 0).toInt ∧ (o0.1 0).toInt ≤ 5) (x_0 : Bo v1) : tt (fCu_depthOf v1 o0) (QCu_depthOf v1 o0) := by
  have H := hCu_depthOf v1 o0 cfFU
  have hm : (10 : Int) ≤ (cfFU : Nat) := by decide
  have r_o0 : Fr (fr_M [] [] []) o0 o0 := fr_rfl
  unfold fCu_depthOf fCu_depthOf_0
  have t1 := nb_0 v1
  exact H _ _ _ k_o0 r_o0 (iv_w (a := 0) (b := 2147483647) (by decide) (by decide) (show (0 : Int) ≤ (0 : Int32).toInt ∧ (0 : Int32).toInt ≤ 0 by decide)) f_o0_0 x_0 (show nb v1 < ((cfFU : Nat) : Int) by omega)
def QCv_unwantedIn (v2 : Int64) (o0 : cf_O) (o1 : cf_O) (r : (Int32)) : Prop := ((0 : Int) ≤ r.toInt ∧ r.toInt ≤ 8) ∧ (0 ≤ r.toInt) ∧ (r.toInt ≤ 8) ∧ True
def HCv_unwantedIn (yv2 : Int64) (yo0 : cf_O) (yo1 : cf_O) (n : Nat) : Prop := (∀ (v4 : Int32) (v5 : Int64) (o0 : cf_O) (o1 : cf_O), (okO I_Cv o0) → (Fr (fr_M [] [] []) yo0 o0) → (okO I_Gr o1) → (Fr (fr_M [] [] []) yo1 o1) → ((0 : Int) ≤ v4.toInt ∧ v4.toInt ≤ 8) → ((0 : Int) ≤ (o0.1 1).toInt ∧ (o0.1 1).toInt ≤ 2147483647) → (v4.toInt + nb v5 ≤ 8) → (0 ≤ v4.toInt) → nb v5 < (n : Int) → tt (gCv_unwantedIn n 0 v4 v5 o0 o1) (QCv_unwantedIn yv2 yo0 yo1))
set_option maxHeartbeats 4000000 in
set_option maxRecDepth 100000 in
theorem tCv_unwantedIn_6 {yv2 : Int64} {yo0 : cf_O} {yo1 : cf_O} {n : Nat} (H : HCv_unwantedIn yv2 yo0 yo1 n) (v4 : Int32) (v5 : Int64) (o0 : cf_O) (o1 : cf_O) (k_o0 : okO I_Cv o0) (r_o0 : Fr (fr_M [] [] []) yo0 o0) (k_o1 : okO I_Gr o1) (r_o1 : Fr (fr_M [] [] []) yo1 o1) (i_v4 : (0 : Int) ≤ v4.toInt ∧ v4.toInt ≤ 8) (f_o0_1 : (0 : Int) ≤ (o0.1 1).toInt ∧ (o0.1 1).toInt ≤ 2147483647) (x_0 : v4.toInt + nb v5 ≤ 8) (x_1 : 0 ≤ v4.toInt) (hm : nb v5 ≤ (n : Int)) : tt (fCv_unwantedIn_6 (gCv_unwantedIn n) v4 v5 o0 o1) (QCv_unwantedIn yv2 yo0 yo1) := by
  unfold fCv_unwantedIn_6
  have g_o0_0 : (0 : Int) ≤ (o0.1 0).toInt ∧ (o0.1 0).toInt ≤ 200 := k_o0.1 0
  have ey_o0_0 : (o0.1 0).toInt = (yo0.1 0).toInt := congrArg Int32.toInt (r_o0.1 0 rfl)
  have g_o0_2 : (0 : Int) ≤ (o0.1 2).toInt ∧ (o0.1 2).toInt ≤ 0 := k_o0.1 2
  have ey_o0_2 : (o0.1 2).toInt = (yo0.1 2).toInt := congrArg Int32.toInt (r_o0.1 2 rfl)
  have g_o1_0 : (0 : Int) ≤ (o1.1 0).toInt ∧ (o1.1 0).toInt ≤ 8 := k_o1.1 0
  have ey_o1_0 : (o1.1 0).toInt = (yo1.1 0).toInt := congrArg Int32.toInt (r_o1.1 0 rfl)
  have g_o1_2 : (0 : Int) ≤ (o1.1 2).toInt ∧ (o1.1 2).toInt ≤ 200 := k_o1.1 2
  have ey_o1_2 : (o1.1 2).toInt = (yo1.1 2).toInt := congrArg Int32.toInt (r_o1.1 2 rfl)
  have t1 := nb_0 v5
  refine tt_kv (P := fun z => (((-2147483648) : Int) ≤ z.toInt ∧ z.toInt ≤ 2147483647) ∧ z = (lg_cmp v5 (0 : Int64))) ⟨iv_top _, rfl⟩ (fun x2 qi3 => ?_)
  obtain ⟨i3, ax2⟩ := qi3
  have t4 := nb_p ax2
  refine tt_if (fun c5 => ?_) (fun c5 => ?_)
  · have wc5 : x2.toInt = (0 : Int) := c_eq c5
    have i6 : (0 : Int) ≤ x2.toInt ∧ x2.toInt ≤ 0 := nr_eql c5 i3 (show (0 : Int) ≤ (0 : Int32).toInt ∧ (0 : Int32).toInt ≤ 0 by decide) (by decide) (by decide)
    exact tt_some ⟨i_v4, (show 0 ≤ v4.toInt by omega), (show v4.toInt ≤ 8 by omega), trivial⟩
  · have wc5 : ¬ x2.toInt = (0 : Int) := c_ne c5
    refine tt_klr (fun x7 ax7 => ?_)
    refine tt_kv (P := fun z => (((-2147483648) : Int) ≤ z.toInt ∧ z.toInt ≤ 2147483647) ∧ z = x7.toInt32) ⟨iv_top _, rfl⟩ (fun x8 qi9 => ?_)
    obtain ⟨i9, ax8⟩ := qi9
    refine tt_b (sGr_isGate _ _ k_o1) (fun q10 hq10 => ?_)
    obtain ⟨i_q10, zq10_0, zq10_1, -⟩ := hq10
    have zq10_0 : q10.toInt = 0 ∨ ((o1.1 0).toInt < x8.toInt ∧ x8.toInt < 1 + (o1.1 0).toInt + (o1.1 2).toInt) := zq10_0
    refine tt_if (fun c11 => ?_) (fun c11 => ?_)
    · have wc11 : q10.toInt = (0 : Int) := c_eq c11
      have i12 : (0 : Int) ≤ q10.toInt ∧ q10.toInt ≤ 0 := nr_eql c11 i_q10 (show (0 : Int) ≤ (0 : Int32).toInt ∧ (0 : Int32).toInt ≤ 0 by decide) (by decide) (by decide)
      try unfold fCv_unwantedIn_48
      try unfold fCv_unwantedIn_49
      refine tt_kv (P := fun z => ((0 : Int) ≤ z.toInt ∧ z.toInt ≤ 8) ∧ z = (v4 + 0) ∧ z.toInt = v4.toInt + 0) ⟨iv_add i_v4 (show (0 : Int) ≤ (0 : Int32).toInt ∧ (0 : Int32).toInt ≤ 0 by decide) (by decide) (by decide) (by decide) (by decide), rfl, iq_add i_v4 (show (0 : Int) ≤ (0 : Int32).toInt ∧ (0 : Int32).toInt ≤ 0 by decide) (by decide) (by decide)⟩ (fun x13 qi14 => ?_)
      obtain ⟨i14, ax13, ei14⟩ := qi14
      refine tt_klr (fun x15 ax15 => ?_)
      have t16 := nb_w ax2 ax15
      have t17 := nb_0 x15
      exact H _ _ _ _ k_o0 r_o0 k_o1 r_o1 i14 f_o0_1 (show x13.toInt + nb x15 ≤ 8 by omega) (show 0 ≤ x13.toInt by omega) (show nb x15 < (n : Int) by omega)
    · have wc11 : ¬ q10.toInt = (0 : Int) := c_ne c11
      have i18 : (1 : Int) ≤ q10.toInt ∧ q10.toInt ≤ 1 := nr_nela c11 i_q10 (show (0 : Int) ≤ (0 : Int32).toInt ∧ (0 : Int32).toInt ≤ 0 by decide) (by decide) (by decide)
      refine tt_n (ix_rel (by omega) (by omega)) ?_
      have i19 : (0 : Int) ≤ x8.toInt ∧ x8.toInt ≤ 208 := (by omega)
      refine tt_kv (P := fun z => (((-2147483648) : Int) ≤ z.toInt ∧ z.toInt ≤ 2147483647) ∧ z = (o0.2.1 6 x8.toNatClampNeg) ∧ z.toInt = (o0.2.1 6 x8.toNatClampNeg).toInt) ⟨(k_o0.2 6 _), rfl, rfl⟩ (fun x20 qi21 => ?_)
      obtain ⟨i21, ax20, ei21⟩ := qi21
      refine tt_if (fun c22 => ?_) (fun c22 => ?_)
      · have wc22 : x20.toInt = ((-1) : Int) := c_eq c22
        have i23 : ((-1) : Int) ≤ x20.toInt ∧ x20.toInt ≤ (-1) := nr_eql c22 i21 (show ((-1) : Int) ≤ ((-1) : Int32).toInt ∧ ((-1) : Int32).toInt ≤ (-1) by decide) (by decide) (by decide)
        try unfold fCv_unwantedIn_49
        refine tt_kv (P := fun z => ((1 : Int) ≤ z.toInt ∧ z.toInt ≤ 9) ∧ z = (v4 + 1) ∧ z.toInt = v4.toInt + 1) ⟨iv_add i_v4 (show (1 : Int) ≤ (1 : Int32).toInt ∧ (1 : Int32).toInt ≤ 1 by decide) (by decide) (by decide) (by decide) (by decide), rfl, iq_add i_v4 (show (1 : Int) ≤ (1 : Int32).toInt ∧ (1 : Int32).toInt ≤ 1 by decide) (by decide) (by decide)⟩ (fun x24 qi25 => ?_)
        obtain ⟨i25, ax24, ei25⟩ := qi25
        refine tt_klr (fun x26 ax26 => ?_)
        have t27 := nb_w ax2 ax26
        have t28 := nb_0 x26
        exact H _ _ _ _ k_o0 r_o0 k_o1 r_o1 (show (0 : Int) ≤ _ ∧ _ ≤ (8 : Int) by omega) f_o0_1 (show x24.toInt + nb x26 ≤ 8 by omega) (show 0 ≤ x24.toInt by omega) (show nb x26 < (n : Int) by omega)
      · have wc22 : ¬ x20.toInt = ((-1) : Int) := c_ne c22
        try unfold fCv_unwantedIn_48
        try unfold fCv_unwantedIn_49
        refine tt_kv (P := fun z => ((0 : Int) ≤ z.toInt ∧ z.toInt ≤ 8) ∧ z = (v4 + 0) ∧ z.toInt = v4.toInt + 0) ⟨iv_add i_v4 (show (0 : Int) ≤ (0 : Int32).toInt ∧ (0 : Int32).toInt ≤ 0 by decide) (by decide) (by decide) (by decide) (by decide), rfl, iq_add i_v4 (show (0 : Int) ≤ (0 : Int32).toInt ∧ (0 : Int32).toInt ≤ 0 by decide) (by decide) (by decide)⟩ (fun x29 qi30 => ?_)
        obtain ⟨i30, ax29, ei30⟩ := qi30
        refine tt_klr (fun x31 ax31 => ?_)
        have t32 := nb_w ax2 ax31
        have t33 := nb_0 x31
        exact H _ _ _ _ k_o0 r_o0 k_o1 r_o1 i30 f_o0_1 (show x29.toInt + nb x31 ≤ 8 by omega) (show 0 ≤ x29.toInt by omega) (show nb x31 < (n : Int) by omega)
set_option maxHeartbeats 4000000 in
set_option maxRecDepth 100000 in
theorem hCv_unwantedIn (yv2 : Int64) (yo0 : cf_O) (yo1 : cf_O) : ∀ n, HCv_unwantedIn yv2 yo0 yo1 n := by
  intro n
  induction n with
  | zero => exact (fun v4 v5 o0 o1 k_o0 r_o0 k_o1 r_o1 i_v4 f_o0_1 x_0 x_1 hm => by exact absurd (show nb v5 < (0 : Int) from hm) (by have zz := nb_0 v5; omega))
  | succ n ih => exact (fun v4 v5 o0 o1 k_o0 r_o0 k_o1 r_o1 i_v4 f_o0_1 x_0 x_1 hm => tCv_unwantedIn_6 ih v4 v5 o0 o1 k_o0 r_o0 k_o1 r_o1 i_v4 f_o0_1 x_0 x_1 (by omega))
set_option maxHeartbeats 4000000 in
set_option maxRecDepth 100000 in
theorem sCv_unwantedIn (v2 : Int64) (o0 : cf_O) (o1 : cf_O) (k_o0 : okO I_Cv o0) (k_o1 : okO I_Gr o1) (f_o0_1 : (0 : Int) ≤ (o0.1 1).toInt ∧ (o0.1 1).toInt ≤ 2147483647) : tt (fCv_unwantedIn v2 o0 o1) (QCv_unwantedIn v2 o0 o1) := by
  have H := hCv_unwantedIn v2 o0 o1 cfFU
  have hm : (10 : Int) ≤ (cfFU : Nat) := by decide
  have r_o0 : Fr (fr_M [] [] []) o0 o0 := fr_rfl
  have r_o1 : Fr (fr_M [] [] []) o1 o1 := fr_rfl
  unfold fCv_unwantedIn fCv_unwantedIn_0
  have g_o0_0 : (0 : Int) ≤ (o0.1 0).toInt ∧ (o0.1 0).toInt ≤ 200 := k_o0.1 0
  have g_o0_2 : (0 : Int) ≤ (o0.1 2).toInt ∧ (o0.1 2).toInt ≤ 0 := k_o0.1 2
  have g_o1_0 : (0 : Int) ≤ (o1.1 0).toInt ∧ (o1.1 0).toInt ≤ 8 := k_o1.1 0
  have g_o1_2 : (0 : Int) ≤ (o1.1 2).toInt ∧ (o1.1 2).toInt ≤ 200 := k_o1.1 2
  have t1 := nb_0 v2
  exact H _ _ _ _ k_o0 r_o0 k_o1 r_o1 (iv_w (a := 0) (b := 8) (by decide) (by decide) (show (0 : Int) ≤ (0 : Int32).toInt ∧ (0 : Int32).toInt ≤ 0 by decide)) f_o0_1 (show 0 + nb v2 ≤ 8 by omega) (show 0 ≤ 0 by omega) (show nb v2 < ((cfFU : Nat) : Int) by omega)
def QCv_fewest (v3 : Int32) (o0 : cf_O) (o1 : cf_O) (o2 : cf_O) (r : (Int64)) : Prop := (Ctg v3.toInt (o0.2.1 6 v3.toNatClampNeg).toInt (o2.2.1 1) r) ∧ True
def HCv_fewest (yv3 : Int32) (yo0 : cf_O) (yo1 : cf_O) (yo2 : cf_O) (n : Nat) : Prop := (∀ (v3 : Int32) (v4 : Int64) (v6 : Int32) (v7 : Int32) (o0 : cf_O) (o1 : cf_O) (o2 : cf_O), (okO I_Cv o0) → (Fr (fr_M [] [] []) yo0 o0) → (okO I_Gr o1) → (Fr (fr_M [] [] []) yo1 o1) → (okO I_Cu o2) → (Fr (fr_M [] [] []) yo2 o2) → ((1 : Int) ≤ v3.toInt ∧ v3.toInt ≤ 208) → ((0 : Int) ≤ v6.toInt ∧ v6.toInt ≤ 209) → ((1 : Int) ≤ v7.toInt ∧ v7.toInt ≤ 62910) → ((0 : Int) ≤ (o0.1 1).toInt ∧ (o0.1 1).toInt ≤ 2147483647) → ((0 : Int) ≤ (o2.1 0).toInt ∧ (o2.1 0).toInt ≤ 5) → (Brw v3.toInt (o2.1 3).toInt (o2.2.1 2) (o2.2.1 1) (o2.2.2 4)) → (Fst v3.toInt v7.toInt v6.toInt (o0.2.1 6 v3.toNatClampNeg).toInt v4 (o2.2.1 2) (o2.2.1 1) (o2.2.2 4)) → ((v3 = yv3)) → ((o2.1 3).toInt ≤ (o2.1 4).toInt) → ((o2.2.1 1 v3.toNatClampNeg).toInt ≤ (o0.2.1 6 v3.toNatClampNeg).toInt) → ((o2.2.1 2 v3.toNatClampNeg).toInt + 1 ≤ v7.toInt) → (v6.toInt ≤ 209) → (v3.toInt = yv3.toInt) → 0 + (62910 - v7.toInt) * 2 < (n : Int) → tt (gCv_fewest n 0 v3 v4 v6 v7 o0 o1 o2) (QCv_fewest yv3 yo0 yo1 yo2))
set_option maxHeartbeats 4000000 in
set_option maxRecDepth 100000 in
theorem tCv_fewest_17 {yv3 : Int32} {yo0 : cf_O} {yo1 : cf_O} {yo2 : cf_O} {n : Nat} (H : HCv_fewest yv3 yo0 yo1 yo2 n) (v3 : Int32) (v4 : Int64) (v6 : Int32) (v7 : Int32) (o0 : cf_O) (o1 : cf_O) (o2 : cf_O) (k_o0 : okO I_Cv o0) (r_o0 : Fr (fr_M [] [] []) yo0 o0) (k_o1 : okO I_Gr o1) (r_o1 : Fr (fr_M [] [] []) yo1 o1) (k_o2 : okO I_Cu o2) (r_o2 : Fr (fr_M [] [] []) yo2 o2) (i_v3 : (1 : Int) ≤ v3.toInt ∧ v3.toInt ≤ 208) (i_v6 : (0 : Int) ≤ v6.toInt ∧ v6.toInt ≤ 209) (i_v7 : (1 : Int) ≤ v7.toInt ∧ v7.toInt ≤ 62910) (f_o0_1 : (0 : Int) ≤ (o0.1 1).toInt ∧ (o0.1 1).toInt ≤ 2147483647) (f_o2_0 : (0 : Int) ≤ (o2.1 0).toInt ∧ (o2.1 0).toInt ≤ 5) (x_0 : Brw v3.toInt (o2.1 3).toInt (o2.2.1 2) (o2.2.1 1) (o2.2.2 4)) (x_1 : Fst v3.toInt v7.toInt v6.toInt (o0.2.1 6 v3.toNatClampNeg).toInt v4 (o2.2.1 2) (o2.2.1 1) (o2.2.2 4)) (x_2 : (v3 = yv3)) (x_3 : (o2.1 3).toInt ≤ (o2.1 4).toInt) (x_4 : (o2.2.1 1 v3.toNatClampNeg).toInt ≤ (o0.2.1 6 v3.toNatClampNeg).toInt) (x_5 : (o2.2.1 2 v3.toNatClampNeg).toInt + 1 ≤ v7.toInt) (x_6 : v6.toInt ≤ 209) (x_7 : v3.toInt = yv3.toInt) (hm : 0 + (62910 - v7.toInt) * 2 ≤ (n : Int)) : tt (fCv_fewest_17 (gCv_fewest n) v3 v4 v6 v7 o0 o1 o2) (QCv_fewest yv3 yo0 yo1 yo2) := by
  unfold fCv_fewest_17
  have g_o0_0 : (0 : Int) ≤ (o0.1 0).toInt ∧ (o0.1 0).toInt ≤ 200 := k_o0.1 0
  have ey_o0_0 : (o0.1 0).toInt = (yo0.1 0).toInt := congrArg Int32.toInt (r_o0.1 0 rfl)
  have g_o0_2 : (0 : Int) ≤ (o0.1 2).toInt ∧ (o0.1 2).toInt ≤ 0 := k_o0.1 2
  have ey_o0_2 : (o0.1 2).toInt = (yo0.1 2).toInt := congrArg Int32.toInt (r_o0.1 2 rfl)
  have g_o0_3 : (0 : Int) ≤ (o0.1 3).toInt ∧ (o0.1 3).toInt ≤ 0 := k_o0.1 3
  have ey_o0_3 : (o0.1 3).toInt = (yo0.1 3).toInt := congrArg Int32.toInt (r_o0.1 3 rfl)
  have g_o0_4 : (0 : Int) ≤ (o0.1 4).toInt ∧ (o0.1 4).toInt ≤ 0 := k_o0.1 4
  have ey_o0_4 : (o0.1 4).toInt = (yo0.1 4).toInt := congrArg Int32.toInt (r_o0.1 4 rfl)
  have g_o1_0 : (0 : Int) ≤ (o1.1 0).toInt ∧ (o1.1 0).toInt ≤ 8 := k_o1.1 0
  have ey_o1_0 : (o1.1 0).toInt = (yo1.1 0).toInt := congrArg Int32.toInt (r_o1.1 0 rfl)
  have g_o1_2 : (0 : Int) ≤ (o1.1 2).toInt ∧ (o1.1 2).toInt ≤ 200 := k_o1.1 2
  have ey_o1_2 : (o1.1 2).toInt = (yo1.1 2).toInt := congrArg Int32.toInt (r_o1.1 2 rfl)
  have g_o1_3 : (0 : Int) ≤ (o1.1 3).toInt ∧ (o1.1 3).toInt ≤ 1 := k_o1.1 3
  have ey_o1_3 : (o1.1 3).toInt = (yo1.1 3).toInt := congrArg Int32.toInt (r_o1.1 3 rfl)
  have g_o1_4 : (0 : Int) ≤ (o1.1 4).toInt ∧ (o1.1 4).toInt ≤ 0 := k_o1.1 4
  have ey_o1_4 : (o1.1 4).toInt = (yo1.1 4).toInt := congrArg Int32.toInt (r_o1.1 4 rfl)
  have ey_o2_0 : (o2.1 0).toInt = (yo2.1 0).toInt := congrArg Int32.toInt (r_o2.1 0 rfl)
  have g_o2_2 : (0 : Int) ≤ (o2.1 2).toInt ∧ (o2.1 2).toInt ≤ 0 := k_o2.1 2
  have ey_o2_2 : (o2.1 2).toInt = (yo2.1 2).toInt := congrArg Int32.toInt (r_o2.1 2 rfl)
  have g_o2_3 : (0 : Int) ≤ (o2.1 3).toInt ∧ (o2.1 3).toInt ≤ 62909 := k_o2.1 3
  have ey_o2_3 : (o2.1 3).toInt = (yo2.1 3).toInt := congrArg Int32.toInt (r_o2.1 3 rfl)
  have g_o2_4 : (1024 : Int) ≤ (o2.1 4).toInt ∧ (o2.1 4).toInt ≤ 131072 := k_o2.1 4
  have ey_o2_4 : (o2.1 4).toInt = (yo2.1 4).toInt := congrArg Int32.toInt (r_o2.1 4 rfl)
  refine tt_b (sCu_behindLastOf _ _ k_o2 i_v3 f_o2_0) (fun q1 hq1 => ?_)
  obtain ⟨i_q1, zq1_0, -⟩ := hq1
  have t2 := Brw_l x_0 (show Bhl _ _ _ by assumption)
  refine tt_if (fun c3 => ?_) (fun c3 => ?_)
  · have wc3 : q1.toInt ≤ v7.toInt := c_le c3
    have p4 : Ctg yv3.toInt (yo0.2.1 6 yv3.toNatClampNeg).toInt (yo2.2.1 1) v4 := by rw [← x_2, ← r_o2.2.1 1 rfl, ← r_o0.2.1 6 rfl]; exact Fst_x x_1 (show Bhl _ _ _ by assumption) (by omega)
    exact tt_some ⟨p4, trivial⟩
  · have wc3 : v7.toInt < q1.toInt := c_nle c3
    have i5 : (1 : Int) ≤ v7.toInt ∧ v7.toInt ≤ 62908 := nr_nlel c3 i_v7 i_q1 (by decide) (by decide)
    have i6 : (2 : Int) ≤ q1.toInt ∧ q1.toInt ≤ 62909 := nr_nler c3 i_v7 i_q1 (by decide) (by decide)
    refine tt_b (sCu_cutAt _ _ k_o2 i5 f_o2_0 (show v7.toInt < (o2.1 4).toInt by omega)) (fun q7 hq7 => ?_)
    obtain ⟨zq7_0, -⟩ := hq7
    have p8 : Bo q7 := by exact Cnn_b (Brw_at (a := v7.toInt) (i := v7.toNatClampNeg) x_0 (show Bhl _ _ _ by assumption) (by rw [tn_n]; omega) (show (o2.2.1 2 v3.toNatClampNeg).toInt + 1 ≤ _ by omega) (by omega) (by assumption)) (by omega)
    refine tt_be (sCu_depthOf _ _ k_o2 f_o2_0 p8) (fun q9 hq9 eq9 => ?_)
    have i_q9 := iv_top q9
    refine tt_n (ix_ok i_v3 (by decide) (by decide)) ?_
    refine tt_kv (P := fun z => (((-2147483648) : Int) ≤ z.toInt ∧ z.toInt ≤ 2147483647) ∧ z = (o0.2.1 6 v3.toNatClampNeg) ∧ z.toInt = (o0.2.1 6 v3.toNatClampNeg).toInt) ⟨(k_o0.2 6 _), rfl, rfl⟩ (fun x10 qi11 => ?_)
    obtain ⟨i11, ax10, ei11⟩ := qi11
    refine tt_if (fun c12 => ?_) (fun c12 => ?_)
    · have wc12 : q9.toInt ≤ x10.toInt := c_le c12
      refine tt_b (sCv_unwantedIn _ _ _ k_o0 k_o1 f_o0_1) (fun q13 hq13 => ?_)
      obtain ⟨i_q13, zq13_0, zq13_1, -⟩ := hq13
      have zq13_0 : 0 ≤ q13.toInt := zq13_0
      have zq13_1 : q13.toInt ≤ 8 := zq13_1
      refine tt_if (fun c14 => ?_) (fun c14 => ?_)
      · have wc14 : q13.toInt < v6.toInt := c_lt c14
        have i15 : (1 : Int) ≤ v6.toInt ∧ v6.toInt ≤ 209 := nr_ltr c14 i_q13 i_v6 (by decide) (by decide)
        try unfold fCv_fewest_84
        try unfold fCv_fewest_92
        refine tt_kv (P := fun z => ((2 : Int) ≤ z.toInt ∧ z.toInt ≤ 62909) ∧ z = (v7 + 1) ∧ z.toInt = v7.toInt + 1) ⟨iv_add i5 (show (1 : Int) ≤ (1 : Int32).toInt ∧ (1 : Int32).toInt ≤ 1 by decide) (by decide) (by decide) (by decide) (by decide), rfl, iq_add i5 (show (1 : Int) ≤ (1 : Int32).toInt ∧ (1 : Int32).toInt ≤ 1 by decide) (by decide) (by decide)⟩ (fun x16 qi17 => ?_)
        obtain ⟨i17, ax16, ei17⟩ := qi17
        have p18 : Fst v3.toInt x16.toInt q13.toInt (o0.2.1 6 v3.toNatClampNeg).toInt q7 (o2.2.1 2) (o2.2.1 1) (o2.2.2 4) := by first | exact Fst_k x_1 (by omega) | exact Fst_t x_0 (Brw_at (a := v7.toInt) (i := v7.toNatClampNeg) x_0 (show Bhl _ _ _ by assumption) (by rw [tn_n]; omega) (show (o2.2.1 2 v3.toNatClampNeg).toInt + 1 ≤ _ by omega) (by omega) (by assumption)) eq9 rfl (by omega) | exact Fst_n (i := v7.toNatClampNeg) x_1 x_0 (by rw [tn_n]; omega) (by assumption) eq9 rfl (show (o2.2.1 1 v3.toNatClampNeg).toInt ≤ _ by omega) (by omega) (by omega)
        have t19 : ((-2147483648) : Int) ≤ (o2.2.1 1 v3.toNatClampNeg).toInt ∧ (o2.2.1 1 v3.toNatClampNeg).toInt ≤ 2147483647 := k_o2.2 1 _
        have t20 : ((-2147483648) : Int) ≤ (o0.2.1 6 v3.toNatClampNeg).toInt ∧ (o0.2.1 6 v3.toNatClampNeg).toInt ≤ 2147483647 := k_o0.2 6 _
        have t21 : (0 : Int) ≤ (o2.2.1 2 v3.toNatClampNeg).toInt ∧ (o2.2.1 2 v3.toNatClampNeg).toInt ≤ 62909 := k_o2.2 2 _
        exact H _ _ _ _ _ _ _ k_o0 r_o0 k_o1 r_o1 k_o2 r_o2 i_v3 (iv_w (a := 0) (b := 209) (by decide) (by decide) i_q13) (iv_w (a := 1) (b := 62910) (by decide) (by decide) i17) f_o0_1 f_o2_0 x_0 p18 x_2 (show (o2.1 3).toInt ≤ (o2.1 4).toInt by omega) (show (o2.2.1 1 v3.toNatClampNeg).toInt ≤ (o0.2.1 6 v3.toNatClampNeg).toInt by omega) (show (o2.2.1 2 v3.toNatClampNeg).toInt + 1 ≤ x16.toInt by omega) (show q13.toInt ≤ 209 by omega) (show v3.toInt = yv3.toInt by omega) (show 0 + (62910 - x16.toInt) * 2 < (n : Int) by omega)
      · have wc14 : v6.toInt ≤ q13.toInt := c_nlt c14
        have i22 : (0 : Int) ≤ v6.toInt ∧ v6.toInt ≤ 8 := nr_nltl c14 i_v6 i_q13 (by decide) (by decide)
        refine tt_if (fun c23 => ?_) (fun c23 => ?_)
        · have wc23 : q13.toInt = v6.toInt := c_eq c23
          refine tt_kv (P := fun z => (((-2147483648) : Int) ≤ z.toInt ∧ z.toInt ≤ 2147483647) ∧ z = (lg_cmp q7 v4)) ⟨iv_top _, rfl⟩ (fun x24 qi25 => ?_)
          obtain ⟨i25, ax24⟩ := qi25
          refine tt_if (fun c26 => ?_) (fun c26 => ?_)
          · have wc26 : (0 : Int) ≤ x24.toInt := c_le c26
            have i27 : (0 : Int) ≤ x24.toInt ∧ x24.toInt ≤ 2147483647 := nr_ler c26 (show (0 : Int) ≤ (0 : Int32).toInt ∧ (0 : Int32).toInt ≤ 0 by decide) i25 (by decide) (by decide)
            try unfold fCv_fewest_92
            refine tt_kv (P := fun z => ((2 : Int) ≤ z.toInt ∧ z.toInt ≤ 62909) ∧ z = (v7 + 1) ∧ z.toInt = v7.toInt + 1) ⟨iv_add i5 (show (1 : Int) ≤ (1 : Int32).toInt ∧ (1 : Int32).toInt ≤ 1 by decide) (by decide) (by decide) (by decide) (by decide), rfl, iq_add i5 (show (1 : Int) ≤ (1 : Int32).toInt ∧ (1 : Int32).toInt ≤ 1 by decide) (by decide) (by decide)⟩ (fun x28 qi29 => ?_)
            obtain ⟨i29, ax28, ei29⟩ := qi29
            have p30 : Fst v3.toInt x28.toInt v6.toInt (o0.2.1 6 v3.toNatClampNeg).toInt v4 (o2.2.1 2) (o2.2.1 1) (o2.2.2 4) := by first | exact Fst_k x_1 (by omega) | exact Fst_t x_0 (Brw_at (a := v7.toInt) (i := v7.toNatClampNeg) x_0 (show Bhl _ _ _ by assumption) (by rw [tn_n]; omega) (show (o2.2.1 2 v3.toNatClampNeg).toInt + 1 ≤ _ by omega) (by omega) (by assumption)) eq9 rfl (by omega) | exact Fst_n (i := v7.toNatClampNeg) x_1 x_0 (by rw [tn_n]; omega) (by assumption) eq9 rfl (show (o2.2.1 1 v3.toNatClampNeg).toInt ≤ _ by omega) (by omega) (by omega)
            have t31 : ((-2147483648) : Int) ≤ (o2.2.1 1 v3.toNatClampNeg).toInt ∧ (o2.2.1 1 v3.toNatClampNeg).toInt ≤ 2147483647 := k_o2.2 1 _
            have t32 : ((-2147483648) : Int) ≤ (o0.2.1 6 v3.toNatClampNeg).toInt ∧ (o0.2.1 6 v3.toNatClampNeg).toInt ≤ 2147483647 := k_o0.2 6 _
            have t33 : (0 : Int) ≤ (o2.2.1 2 v3.toNatClampNeg).toInt ∧ (o2.2.1 2 v3.toNatClampNeg).toInt ≤ 62909 := k_o2.2 2 _
            exact H _ _ _ _ _ _ _ k_o0 r_o0 k_o1 r_o1 k_o2 r_o2 i_v3 (iv_w (a := 0) (b := 209) (by decide) (by decide) i22) (iv_w (a := 1) (b := 62910) (by decide) (by decide) i29) f_o0_1 f_o2_0 x_0 p30 x_2 (show (o2.1 3).toInt ≤ (o2.1 4).toInt by omega) (show (o2.2.1 1 v3.toNatClampNeg).toInt ≤ (o0.2.1 6 v3.toNatClampNeg).toInt by omega) (show (o2.2.1 2 v3.toNatClampNeg).toInt + 1 ≤ x28.toInt by omega) (show v6.toInt ≤ 209 by omega) (show v3.toInt = yv3.toInt by omega) (show 0 + (62910 - x28.toInt) * 2 < (n : Int) by omega)
          · have wc26 : x24.toInt < (0 : Int) := c_nle c26
            have i34 : ((-2147483648) : Int) ≤ x24.toInt ∧ x24.toInt ≤ (-1) := nr_nlel c26 i25 (show (0 : Int) ≤ (0 : Int32).toInt ∧ (0 : Int32).toInt ≤ 0 by decide) (by decide) (by decide)
            try unfold fCv_fewest_84
            try unfold fCv_fewest_92
            refine tt_kv (P := fun z => ((2 : Int) ≤ z.toInt ∧ z.toInt ≤ 62909) ∧ z = (v7 + 1) ∧ z.toInt = v7.toInt + 1) ⟨iv_add i5 (show (1 : Int) ≤ (1 : Int32).toInt ∧ (1 : Int32).toInt ≤ 1 by decide) (by decide) (by decide) (by decide) (by decide), rfl, iq_add i5 (show (1 : Int) ≤ (1 : Int32).toInt ∧ (1 : Int32).toInt ≤ 1 by decide) (by decide) (by decide)⟩ (fun x35 qi36 => ?_)
            obtain ⟨i36, ax35, ei36⟩ := qi36
            have p37 : Fst v3.toInt x35.toInt q13.toInt (o0.2.1 6 v3.toNatClampNeg).toInt q7 (o2.2.1 2) (o2.2.1 1) (o2.2.2 4) := by first | exact Fst_k x_1 (by omega) | exact Fst_t x_0 (Brw_at (a := v7.toInt) (i := v7.toNatClampNeg) x_0 (show Bhl _ _ _ by assumption) (by rw [tn_n]; omega) (show (o2.2.1 2 v3.toNatClampNeg).toInt + 1 ≤ _ by omega) (by omega) (by assumption)) eq9 rfl (by omega) | exact Fst_n (i := v7.toNatClampNeg) x_1 x_0 (by rw [tn_n]; omega) (by assumption) eq9 rfl (show (o2.2.1 1 v3.toNatClampNeg).toInt ≤ _ by omega) (by omega) (by omega)
            have t38 : ((-2147483648) : Int) ≤ (o2.2.1 1 v3.toNatClampNeg).toInt ∧ (o2.2.1 1 v3.toNatClampNeg).toInt ≤ 2147483647 := k_o2.2 1 _
            have t39 : ((-2147483648) : Int) ≤ (o0.2.1 6 v3.toNatClampNeg).toInt ∧ (o0.2.1 6 v3.toNatClampNeg).toInt ≤ 2147483647 := k_o0.2 6 _
            have t40 : (0 : Int) ≤ (o2.2.1 2 v3.toNatClampNeg).toInt ∧ (o2.2.1 2 v3.toNatClampNeg).toInt ≤ 62909 := k_o2.2 2 _
            exact H _ _ _ _ _ _ _ k_o0 r_o0 k_o1 r_o1 k_o2 r_o2 i_v3 (iv_w (a := 0) (b := 209) (by decide) (by decide) i_q13) (iv_w (a := 1) (b := 62910) (by decide) (by decide) i36) f_o0_1 f_o2_0 x_0 p37 x_2 (show (o2.1 3).toInt ≤ (o2.1 4).toInt by omega) (show (o2.2.1 1 v3.toNatClampNeg).toInt ≤ (o0.2.1 6 v3.toNatClampNeg).toInt by omega) (show (o2.2.1 2 v3.toNatClampNeg).toInt + 1 ≤ x35.toInt by omega) (show q13.toInt ≤ 209 by omega) (show v3.toInt = yv3.toInt by omega) (show 0 + (62910 - x35.toInt) * 2 < (n : Int) by omega)
        · have wc23 : ¬ q13.toInt = v6.toInt := c_ne c23
          try unfold fCv_fewest_92
          refine tt_kv (P := fun z => ((2 : Int) ≤ z.toInt ∧ z.toInt ≤ 62909) ∧ z = (v7 + 1) ∧ z.toInt = v7.toInt + 1) ⟨iv_add i5 (show (1 : Int) ≤ (1 : Int32).toInt ∧ (1 : Int32).toInt ≤ 1 by decide) (by decide) (by decide) (by decide) (by decide), rfl, iq_add i5 (show (1 : Int) ≤ (1 : Int32).toInt ∧ (1 : Int32).toInt ≤ 1 by decide) (by decide) (by decide)⟩ (fun x41 qi42 => ?_)
          obtain ⟨i42, ax41, ei42⟩ := qi42
          have p43 : Fst v3.toInt x41.toInt v6.toInt (o0.2.1 6 v3.toNatClampNeg).toInt v4 (o2.2.1 2) (o2.2.1 1) (o2.2.2 4) := by first | exact Fst_k x_1 (by omega) | exact Fst_t x_0 (Brw_at (a := v7.toInt) (i := v7.toNatClampNeg) x_0 (show Bhl _ _ _ by assumption) (by rw [tn_n]; omega) (show (o2.2.1 2 v3.toNatClampNeg).toInt + 1 ≤ _ by omega) (by omega) (by assumption)) eq9 rfl (by omega) | exact Fst_n (i := v7.toNatClampNeg) x_1 x_0 (by rw [tn_n]; omega) (by assumption) eq9 rfl (show (o2.2.1 1 v3.toNatClampNeg).toInt ≤ _ by omega) (by omega) (by omega)
          have t44 : ((-2147483648) : Int) ≤ (o2.2.1 1 v3.toNatClampNeg).toInt ∧ (o2.2.1 1 v3.toNatClampNeg).toInt ≤ 2147483647 := k_o2.2 1 _
          have t45 : ((-2147483648) : Int) ≤ (o0.2.1 6 v3.toNatClampNeg).toInt ∧ (o0.2.1 6 v3.toNatClampNeg).toInt ≤ 2147483647 := k_o0.2 6 _
          have t46 : (0 : Int) ≤ (o2.2.1 2 v3.toNatClampNeg).toInt ∧ (o2.2.1 2 v3.toNatClampNeg).toInt ≤ 62909 := k_o2.2 2 _
          exact H _ _ _ _ _ _ _ k_o0 r_o0 k_o1 r_o1 k_o2 r_o2 i_v3 (iv_w (a := 0) (b := 209) (by decide) (by decide) i22) (iv_w (a := 1) (b := 62910) (by decide) (by decide) i42) f_o0_1 f_o2_0 x_0 p43 x_2 (show (o2.1 3).toInt ≤ (o2.1 4).toInt by omega) (show (o2.2.1 1 v3.toNatClampNeg).toInt ≤ (o0.2.1 6 v3.toNatClampNeg).toInt by omega) (show (o2.2.1 2 v3.toNatClampNeg).toInt + 1 ≤ x41.toInt by omega) (show v6.toInt ≤ 209 by omega) (show v3.toInt = yv3.toInt by omega) (show 0 + (62910 - x41.toInt) * 2 < (n : Int) by omega)
    · have wc12 : x10.toInt < q9.toInt := c_nle c12
      have i47 : ((-2147483648) : Int) ≤ x10.toInt ∧ x10.toInt ≤ 2147483646 := nr_nlel c12 i11 (iv_top q9) (by decide) (by decide)
      have i48 : ((-2147483647) : Int) ≤ q9.toInt ∧ q9.toInt ≤ 2147483647 := nr_nler c12 i11 (iv_top q9) (by decide) (by decide)
      try unfold fCv_fewest_92
      refine tt_kv (P := fun z => ((2 : Int) ≤ z.toInt ∧ z.toInt ≤ 62909) ∧ z = (v7 + 1) ∧ z.toInt = v7.toInt + 1) ⟨iv_add i5 (show (1 : Int) ≤ (1 : Int32).toInt ∧ (1 : Int32).toInt ≤ 1 by decide) (by decide) (by decide) (by decide) (by decide), rfl, iq_add i5 (show (1 : Int) ≤ (1 : Int32).toInt ∧ (1 : Int32).toInt ≤ 1 by decide) (by decide) (by decide)⟩ (fun x49 qi50 => ?_)
      obtain ⟨i50, ax49, ei50⟩ := qi50
      have p51 : Fst v3.toInt x49.toInt v6.toInt (o0.2.1 6 v3.toNatClampNeg).toInt v4 (o2.2.1 2) (o2.2.1 1) (o2.2.2 4) := by first | exact Fst_k x_1 (by omega) | exact Fst_t x_0 (Brw_at (a := v7.toInt) (i := v7.toNatClampNeg) x_0 (show Bhl _ _ _ by assumption) (by rw [tn_n]; omega) (show (o2.2.1 2 v3.toNatClampNeg).toInt + 1 ≤ _ by omega) (by omega) (by assumption)) eq9 rfl (by omega) | exact Fst_n (i := v7.toNatClampNeg) x_1 x_0 (by rw [tn_n]; omega) (by assumption) eq9 rfl (show (o2.2.1 1 v3.toNatClampNeg).toInt ≤ _ by omega) (by omega) (by omega)
      have t52 : ((-2147483648) : Int) ≤ (o2.2.1 1 v3.toNatClampNeg).toInt ∧ (o2.2.1 1 v3.toNatClampNeg).toInt ≤ 2147483647 := k_o2.2 1 _
      have t53 : ((-2147483648) : Int) ≤ (o0.2.1 6 v3.toNatClampNeg).toInt ∧ (o0.2.1 6 v3.toNatClampNeg).toInt ≤ 2147483647 := k_o0.2 6 _
      have t54 : (0 : Int) ≤ (o2.2.1 2 v3.toNatClampNeg).toInt ∧ (o2.2.1 2 v3.toNatClampNeg).toInt ≤ 62909 := k_o2.2 2 _
      exact H _ _ _ _ _ _ _ k_o0 r_o0 k_o1 r_o1 k_o2 r_o2 i_v3 i_v6 (iv_w (a := 1) (b := 62910) (by decide) (by decide) i50) f_o0_1 f_o2_0 x_0 p51 x_2 (show (o2.1 3).toInt ≤ (o2.1 4).toInt by omega) (show (o2.2.1 1 v3.toNatClampNeg).toInt ≤ (o0.2.1 6 v3.toNatClampNeg).toInt by omega) (show (o2.2.1 2 v3.toNatClampNeg).toInt + 1 ≤ x49.toInt by omega) (show v6.toInt ≤ 209 by omega) (show v3.toInt = yv3.toInt by omega) (show 0 + (62910 - x49.toInt) * 2 < (n : Int) by omega)
set_option maxHeartbeats 4000000 in
set_option maxRecDepth 100000 in
theorem hCv_fewest (yv3 : Int32) (yo0 : cf_O) (yo1 : cf_O) (yo2 : cf_O) : ∀ n, HCv_fewest yv3 yo0 yo1 yo2 n := by
  intro n
  induction n with
  | zero => exact (fun v3 v4 v6 v7 o0 o1 o2 k_o0 r_o0 k_o1 r_o1 k_o2 r_o2 i_v3 i_v6 i_v7 f_o0_1 f_o2_0 x_0 x_1 x_2 x_3 x_4 x_5 x_6 x_7 hm => by exact absurd (show 0 + (62910 - v7.toInt) * 2 < (0 : Int) from hm) (by omega))
  | succ n ih => exact (fun v3 v4 v6 v7 o0 o1 o2 k_o0 r_o0 k_o1 r_o1 k_o2 r_o2 i_v3 i_v6 i_v7 f_o0_1 f_o2_0 x_0 x_1 x_2 x_3 x_4 x_5 x_6 x_7 hm => tCv_fewest_17 ih v3 v4 v6 v7 o0 o1 o2 k_o0 r_o0 k_o1 r_o1 k_o2 r_o2 i_v3 i_v6 i_v7 f_o0_1 f_o2_0 x_0 x_1 x_2 x_3 x_4 x_5 x_6 x_7 (by omega))
set_option maxHeartbeats 4000000 in
set_option maxRecDepth 100000 in
theorem sCv_fewest (v3 : Int32) (o0 : cf_O) (o1 : cf_O) (o2 : cf_O) (k_o0 : okO I_Cv o0) (k_o1 : okO I_Gr o1) (k_o2 : okO I_Cu o2) (i_v3 : (1 : Int) ≤ v3.toInt ∧ v3.toInt ≤ 208) (f_o0_1 : (0 : Int) ≤ (o0.1 1).toInt ∧ (o0.1 1).toInt ≤ 2147483647) (f_o2_0 : (0 : Int) ≤ (o2.1 0).toInt ∧ (o2.1 0).toInt ≤ 5) (x_0 : Brw v3.toInt (o2.1 3).toInt (o2.2.1 2) (o2.2.1 1) (o2.2.2 4)) (x_1 : (o2.1 3).toInt ≤ (o2.1 4).toInt) (x_2 : (o2.2.1 1 v3.toNatClampNeg).toInt ≤ (o0.2.1 6 v3.toNatClampNeg).toInt) : tt (fCv_fewest v3 o0 o1 o2) (QCv_fewest v3 o0 o1 o2) := by
  have H := hCv_fewest v3 o0 o1 o2 cfFU
  have hm : (125821 : Int) ≤ (cfFU : Nat) := by decide
  have r_o0 : Fr (fr_M [] [] []) o0 o0 := fr_rfl
  have r_o1 : Fr (fr_M [] [] []) o1 o1 := fr_rfl
  have r_o2 : Fr (fr_M [] [] []) o2 o2 := fr_rfl
  unfold fCv_fewest fCv_fewest_0
  have g_o0_0 : (0 : Int) ≤ (o0.1 0).toInt ∧ (o0.1 0).toInt ≤ 200 := k_o0.1 0
  have g_o0_2 : (0 : Int) ≤ (o0.1 2).toInt ∧ (o0.1 2).toInt ≤ 0 := k_o0.1 2
  have g_o0_3 : (0 : Int) ≤ (o0.1 3).toInt ∧ (o0.1 3).toInt ≤ 0 := k_o0.1 3
  have g_o0_4 : (0 : Int) ≤ (o0.1 4).toInt ∧ (o0.1 4).toInt ≤ 0 := k_o0.1 4
  have g_o1_0 : (0 : Int) ≤ (o1.1 0).toInt ∧ (o1.1 0).toInt ≤ 8 := k_o1.1 0
  have g_o1_2 : (0 : Int) ≤ (o1.1 2).toInt ∧ (o1.1 2).toInt ≤ 200 := k_o1.1 2
  have g_o1_3 : (0 : Int) ≤ (o1.1 3).toInt ∧ (o1.1 3).toInt ≤ 1 := k_o1.1 3
  have g_o1_4 : (0 : Int) ≤ (o1.1 4).toInt ∧ (o1.1 4).toInt ≤ 0 := k_o1.1 4
  have g_o2_2 : (0 : Int) ≤ (o2.1 2).toInt ∧ (o2.1 2).toInt ≤ 0 := k_o2.1 2
  have g_o2_3 : (0 : Int) ≤ (o2.1 3).toInt ∧ (o2.1 3).toInt ≤ 62909 := k_o2.1 3
  have g_o2_4 : (1024 : Int) ≤ (o2.1 4).toInt ∧ (o2.1 4).toInt ≤ 131072 := k_o2.1 4
  refine tt_b (sCu_firstOf _ _ k_o2 i_v3 f_o2_0) (fun q1 hq1 => ?_)
  obtain ⟨i_q1, zq1_0, -⟩ := hq1
  have zq1_0 : q1.toInt = (o2.2.1 2 v3.toNatClampNeg).toInt + 1 := zq1_0
  have p2 : Fst v3.toInt q1.toInt 209 (o0.2.1 6 v3.toNatClampNeg).toInt (9223372036854775807 : Int64) (o2.2.1 2) (o2.2.1 1) (o2.2.2 4) := by exact Fst_0 x_0 (show _ = (o2.2.1 2 v3.toNatClampNeg).toInt + 1 by omega) rfl
  have p3 : (v3 = v3) := by exact rfl
  have t4 : ((-2147483648) : Int) ≤ (o2.2.1 1 v3.toNatClampNeg).toInt ∧ (o2.2.1 1 v3.toNatClampNeg).toInt ≤ 2147483647 := k_o2.2 1 _
  have t5 : ((-2147483648) : Int) ≤ (o0.2.1 6 v3.toNatClampNeg).toInt ∧ (o0.2.1 6 v3.toNatClampNeg).toInt ≤ 2147483647 := k_o0.2 6 _
  have t6 : (0 : Int) ≤ (o2.2.1 2 v3.toNatClampNeg).toInt ∧ (o2.2.1 2 v3.toNatClampNeg).toInt ≤ 62909 := k_o2.2 2 _
  exact H _ _ _ _ _ _ _ k_o0 r_o0 k_o1 r_o1 k_o2 r_o2 i_v3 (iv_w (a := 0) (b := 209) (by decide) (by decide) (show (209 : Int) ≤ (209 : Int32).toInt ∧ (209 : Int32).toInt ≤ 209 by decide)) i_q1 f_o0_1 f_o2_0 x_0 p2 p3 (show (o2.1 3).toInt ≤ (o2.1 4).toInt by omega) (show (o2.2.1 1 v3.toNatClampNeg).toInt ≤ (o0.2.1 6 v3.toNatClampNeg).toInt by omega) (show (o2.2.1 2 v3.toNatClampNeg).toInt + 1 ≤ q1.toInt by omega) (show 209 ≤ 209 by omega) (show v3.toInt = v3.toInt by omega) (show 0 + (62910 - q1.toInt) * 2 < ((cfFU : Nat) : Int) by omega)
def QCu_bestOf (v1 : Int32) (o0 : cf_O) (r : (Int64)) : Prop := (Cgg v1.toInt (o0.2.1 1) r) ∧ (Inr v1.toInt r (o0.2.1 2) (o0.2.2 4)) ∧ True
def HCu_bestOf (yv1 : Int32) (yo0 : cf_O) (n : Nat) : Prop := (∀ (v1 : Int32) (v2 : Int64) (v4 : Int32) (o0 : cf_O), (okO I_Cu o0) → (Fr (fr_M [] [] []) yo0 o0) → ((1 : Int) ≤ v1.toInt ∧ v1.toInt ≤ 208) → ((1 : Int) ≤ v4.toInt ∧ v4.toInt ≤ 62910) → ((0 : Int) ≤ (o0.1 0).toInt ∧ (o0.1 0).toInt ≤ 5) → (Brw v1.toInt (o0.1 3).toInt (o0.2.1 2) (o0.2.1 1) (o0.2.2 4)) → (Bst v1.toInt v4.toInt v2 (o0.2.1 2) (o0.2.1 1) (o0.2.2 4)) → ((v1 = yv1)) → ((o0.1 3).toInt ≤ (o0.1 4).toInt) → ((o0.2.1 2 v1.toNatClampNeg).toInt + 1 ≤ v4.toInt) → (Inq v1.toInt v2 (o0.2.1 2) (o0.2.2 4)) → 0 + (62910 - v4.toInt) * 2 < (n : Int) → tt (gCu_bestOf n 0 v1 v2 v4 o0) (QCu_bestOf yv1 yo0))
set_option maxHeartbeats 4000000 in
set_option maxRecDepth 100000 in
theorem tCu_bestOf_11 {yv1 : Int32} {yo0 : cf_O} {n : Nat} (H : HCu_bestOf yv1 yo0 n) (v1 : Int32) (v2 : Int64) (v4 : Int32) (o0 : cf_O) (k_o0 : okO I_Cu o0) (r_o0 : Fr (fr_M [] [] []) yo0 o0) (i_v1 : (1 : Int) ≤ v1.toInt ∧ v1.toInt ≤ 208) (i_v4 : (1 : Int) ≤ v4.toInt ∧ v4.toInt ≤ 62910) (f_o0_0 : (0 : Int) ≤ (o0.1 0).toInt ∧ (o0.1 0).toInt ≤ 5) (x_0 : Brw v1.toInt (o0.1 3).toInt (o0.2.1 2) (o0.2.1 1) (o0.2.2 4)) (x_1 : Bst v1.toInt v4.toInt v2 (o0.2.1 2) (o0.2.1 1) (o0.2.2 4)) (x_2 : (v1 = yv1)) (x_3 : (o0.1 3).toInt ≤ (o0.1 4).toInt) (x_4 : (o0.2.1 2 v1.toNatClampNeg).toInt + 1 ≤ v4.toInt) (x_5 : Inq v1.toInt v2 (o0.2.1 2) (o0.2.2 4)) (hm : 0 + (62910 - v4.toInt) * 2 ≤ (n : Int)) : tt (fCu_bestOf_11 (gCu_bestOf n) v1 v2 v4 o0) (QCu_bestOf yv1 yo0) := by
  unfold fCu_bestOf_11
  have g_o0_3 : (0 : Int) ≤ (o0.1 3).toInt ∧ (o0.1 3).toInt ≤ 62909 := k_o0.1 3
  have ey_o0_3 : (o0.1 3).toInt = (yo0.1 3).toInt := congrArg Int32.toInt (r_o0.1 3 rfl)
  have g_o0_4 : (1024 : Int) ≤ (o0.1 4).toInt ∧ (o0.1 4).toInt ≤ 131072 := k_o0.1 4
  have ey_o0_4 : (o0.1 4).toInt = (yo0.1 4).toInt := congrArg Int32.toInt (r_o0.1 4 rfl)
  refine tt_b (sCu_behindLastOf _ _ k_o0 i_v1 f_o0_0) (fun q1 hq1 => ?_)
  obtain ⟨i_q1, zq1_0, -⟩ := hq1
  have t2 := Brw_l x_0 (show Bhl _ _ _ by assumption)
  refine tt_if (fun c3 => ?_) (fun c3 => ?_)
  · have wc3 : q1.toInt ≤ v4.toInt := c_le c3
    have p4 : Cgg yv1.toInt (yo0.2.1 1) v2 := by rw [← x_2, ← r_o0.2.1 1 rfl]; exact Bst_x x_1 (show Bhl _ _ _ by assumption) (by omega)
    have p5 : Inr yv1.toInt v2 (yo0.2.1 2) (yo0.2.2 4) := by rw [← x_2, ← r_o0.2.1 2 rfl, ← r_o0.2.2 4 rfl]; exact Inr_i x_5 (Bst_x x_1 (show Bhl _ _ _ by assumption) (by omega)) (by omega)
    exact tt_some ⟨p4, p5, trivial⟩
  · have wc3 : v4.toInt < q1.toInt := c_nle c3
    have i6 : (1 : Int) ≤ v4.toInt ∧ v4.toInt ≤ 62908 := nr_nlel c3 i_v4 i_q1 (by decide) (by decide)
    have i7 : (2 : Int) ≤ q1.toInt ∧ q1.toInt ≤ 62909 := nr_nler c3 i_v4 i_q1 (by decide) (by decide)
    refine tt_n (ix_v (x := v4) (l := (o0.1 4)) (by omega) (by omega)) ?_
    refine tt_klr (fun x8 ax8 => ?_)
    refine tt_kv (P := fun z => (((-2147483648) : Int) ≤ z.toInt ∧ z.toInt ≤ 2147483647) ∧ z = (lg_cmp x8 v2)) ⟨iv_top _, rfl⟩ (fun x9 qi10 => ?_)
    obtain ⟨i10, ax9⟩ := qi10
    refine tt_if (fun c11 => ?_) (fun c11 => ?_)
    · have wc11 : (0 : Int) ≤ x9.toInt := c_le c11
      have i12 : (0 : Int) ≤ x9.toInt ∧ x9.toInt ≤ 2147483647 := nr_ler c11 (show (0 : Int) ≤ (0 : Int32).toInt ∧ (0 : Int32).toInt ≤ 0 by decide) i10 (by decide) (by decide)
      try unfold fCu_bestOf_61
      refine tt_kv (P := fun z => ((2 : Int) ≤ z.toInt ∧ z.toInt ≤ 62909) ∧ z = (v4 + 1) ∧ z.toInt = v4.toInt + 1) ⟨iv_add i6 (show (1 : Int) ≤ (1 : Int32).toInt ∧ (1 : Int32).toInt ≤ 1 by decide) (by decide) (by decide) (by decide) (by decide), rfl, iq_add i6 (show (1 : Int) ≤ (1 : Int32).toInt ∧ (1 : Int32).toInt ≤ 1 by decide) (by decide) (by decide)⟩ (fun x13 qi14 => ?_)
      obtain ⟨i14, ax13, ei14⟩ := qi14
      have p15 : Bst v1.toInt x13.toInt v2 (o0.2.1 2) (o0.2.1 1) (o0.2.2 4) := by first | exact Bst_k x_1 (Brw_at (a := v4.toInt) (i := v4.toNatClampNeg) x_0 (show Bhl _ _ _ by assumption) (by rw [tn_n]; omega) (show (o0.2.1 2 v1.toNatClampNeg).toInt + 1 ≤ _ by omega) (by omega) (by assumption)) (by omega) (show x9 = _ by assumption) (by omega) | exact Bst_t2 (i := v4.toNatClampNeg) x_0 (Brw_at (a := v4.toInt) (i := v4.toNatClampNeg) x_0 (show Bhl _ _ _ by assumption) (by rw [tn_n]; omega) (show (o0.2.1 2 v1.toNatClampNeg).toInt + 1 ≤ _ by omega) (by omega) (by assumption)) none rfl (by assumption) (by assumption) (show _ = (o0.2.1 1 v1.toNatClampNeg).toInt by omega) | exact Bst_n (i := v4.toNatClampNeg) x_1 x_0 (by rw [tn_n]; omega) (by assumption) none rfl (show ¬ _ = (o0.2.1 1 v1.toNatClampNeg).toInt by omega) (by omega)
      have t16 : (0 : Int) ≤ (o0.2.1 2 v1.toNatClampNeg).toInt ∧ (o0.2.1 2 v1.toNatClampNeg).toInt ≤ 62909 := k_o0.2 2 _
      exact H _ _ _ _ k_o0 r_o0 i_v1 (iv_w (a := 1) (b := 62910) (by decide) (by decide) i14) f_o0_0 x_0 p15 x_2 (show (o0.1 3).toInt ≤ (o0.1 4).toInt by omega) (show (o0.2.1 2 v1.toNatClampNeg).toInt + 1 ≤ x13.toInt by omega) x_5 (show 0 + (62910 - x13.toInt) * 2 < (n : Int) by omega)
    · have wc11 : x9.toInt < (0 : Int) := c_nle c11
      have i17 : ((-2147483648) : Int) ≤ x9.toInt ∧ x9.toInt ≤ (-1) := nr_nlel c11 i10 (show (0 : Int) ≤ (0 : Int32).toInt ∧ (0 : Int32).toInt ≤ 0 by decide) (by decide) (by decide)
      refine tt_n (ix_v (x := v4) (l := (o0.1 4)) (by omega) (by omega)) ?_
      refine tt_klr (fun x18 ax18 => ?_)
      have p19 : Bo x18 := by exact Cnn_b (Brw_at (a := v4.toInt) (i := v4.toNatClampNeg) x_0 (show Bhl _ _ _ by assumption) (by rw [tn_n]; omega) (show (o0.2.1 2 v1.toNatClampNeg).toInt + 1 ≤ _ by omega) (by omega) (by assumption)) (by omega)
      refine tt_be (sCu_depthOf _ _ k_o0 f_o0_0 p19) (fun q20 hq20 eq20 => ?_)
      have i_q20 := iv_top q20
      refine tt_n (ix_ok i_v1 (by decide) (by decide)) ?_
      refine tt_kv (P := fun z => (((-2147483648) : Int) ≤ z.toInt ∧ z.toInt ≤ 2147483647) ∧ z = (o0.2.1 1 v1.toNatClampNeg) ∧ z.toInt = (o0.2.1 1 v1.toNatClampNeg).toInt) ⟨(k_o0.2 1 _), rfl, rfl⟩ (fun x21 qi22 => ?_)
      obtain ⟨i22, ax21, ei22⟩ := qi22
      refine tt_if (fun c23 => ?_) (fun c23 => ?_)
      · have wc23 : q20.toInt = x21.toInt := c_eq c23
        refine tt_n (ix_v (x := v4) (l := (o0.1 4)) (by omega) (by omega)) ?_
        refine tt_klr (fun x24 ax24 => ?_)
        try unfold fCu_bestOf_61
        refine tt_kv (P := fun z => ((2 : Int) ≤ z.toInt ∧ z.toInt ≤ 62909) ∧ z = (v4 + 1) ∧ z.toInt = v4.toInt + 1) ⟨iv_add i6 (show (1 : Int) ≤ (1 : Int32).toInt ∧ (1 : Int32).toInt ≤ 1 by decide) (by decide) (by decide) (by decide) (by decide), rfl, iq_add i6 (show (1 : Int) ≤ (1 : Int32).toInt ∧ (1 : Int32).toInt ≤ 1 by decide) (by decide) (by decide)⟩ (fun x25 qi26 => ?_)
        obtain ⟨i26, ax25, ei26⟩ := qi26
        have p27 : Bst v1.toInt x25.toInt x24 (o0.2.1 2) (o0.2.1 1) (o0.2.2 4) := by first | exact Bst_k x_1 (Brw_at (a := v4.toInt) (i := v4.toNatClampNeg) x_0 (show Bhl _ _ _ by assumption) (by rw [tn_n]; omega) (show (o0.2.1 2 v1.toNatClampNeg).toInt + 1 ≤ _ by omega) (by omega) (by assumption)) (by omega) (show x9 = _ by assumption) (by omega) | exact Bst_t2 (i := v4.toNatClampNeg) x_0 (Brw_at (a := v4.toInt) (i := v4.toNatClampNeg) x_0 (show Bhl _ _ _ by assumption) (by rw [tn_n]; omega) (show (o0.2.1 2 v1.toNatClampNeg).toInt + 1 ≤ _ by omega) (by omega) (by assumption)) eq20 rfl (by assumption) (by assumption) (show _ = (o0.2.1 1 v1.toNatClampNeg).toInt by omega) | exact Bst_n (i := v4.toNatClampNeg) x_1 x_0 (by rw [tn_n]; omega) (by assumption) eq20 rfl (show ¬ _ = (o0.2.1 1 v1.toNatClampNeg).toInt by omega) (by omega)
        have t28 : (0 : Int) ≤ (o0.2.1 2 v1.toNatClampNeg).toInt ∧ (o0.2.1 2 v1.toNatClampNeg).toInt ≤ 62909 := k_o0.2 2 _
        have p29 : Inq v1.toInt x24 (o0.2.1 2) (o0.2.2 4) := by first | exact x_5 | exact Inq_s (i := v4.toNatClampNeg) (a := v4.toInt) (show Bhl _ _ _ by assumption) (by assumption) (by rw [tn_n]; omega) (show (o0.2.1 2 v1.toNatClampNeg).toInt + 1 ≤ _ by omega) (by omega)
        exact H _ _ _ _ k_o0 r_o0 i_v1 (iv_w (a := 1) (b := 62910) (by decide) (by decide) i26) f_o0_0 x_0 p27 x_2 (show (o0.1 3).toInt ≤ (o0.1 4).toInt by omega) (show (o0.2.1 2 v1.toNatClampNeg).toInt + 1 ≤ x25.toInt by omega) p29 (show 0 + (62910 - x25.toInt) * 2 < (n : Int) by omega)
      · have wc23 : ¬ q20.toInt = x21.toInt := c_ne c23
        try unfold fCu_bestOf_61
        refine tt_kv (P := fun z => ((2 : Int) ≤ z.toInt ∧ z.toInt ≤ 62909) ∧ z = (v4 + 1) ∧ z.toInt = v4.toInt + 1) ⟨iv_add i6 (show (1 : Int) ≤ (1 : Int32).toInt ∧ (1 : Int32).toInt ≤ 1 by decide) (by decide) (by decide) (by decide) (by decide), rfl, iq_add i6 (show (1 : Int) ≤ (1 : Int32).toInt ∧ (1 : Int32).toInt ≤ 1 by decide) (by decide) (by decide)⟩ (fun x30 qi31 => ?_)
        obtain ⟨i31, ax30, ei31⟩ := qi31
        have p32 : Bst v1.toInt x30.toInt v2 (o0.2.1 2) (o0.2.1 1) (o0.2.2 4) := by first | exact Bst_k x_1 (Brw_at (a := v4.toInt) (i := v4.toNatClampNeg) x_0 (show Bhl _ _ _ by assumption) (by rw [tn_n]; omega) (show (o0.2.1 2 v1.toNatClampNeg).toInt + 1 ≤ _ by omega) (by omega) (by assumption)) (by omega) (show x9 = _ by assumption) (by omega) | exact Bst_t2 (i := v4.toNatClampNeg) x_0 (Brw_at (a := v4.toInt) (i := v4.toNatClampNeg) x_0 (show Bhl _ _ _ by assumption) (by rw [tn_n]; omega) (show (o0.2.1 2 v1.toNatClampNeg).toInt + 1 ≤ _ by omega) (by omega) (by assumption)) eq20 rfl (by assumption) (by assumption) (show _ = (o0.2.1 1 v1.toNatClampNeg).toInt by omega) | exact Bst_n (i := v4.toNatClampNeg) x_1 x_0 (by rw [tn_n]; omega) (by assumption) eq20 rfl (show ¬ _ = (o0.2.1 1 v1.toNatClampNeg).toInt by omega) (by omega)
        have t33 : (0 : Int) ≤ (o0.2.1 2 v1.toNatClampNeg).toInt ∧ (o0.2.1 2 v1.toNatClampNeg).toInt ≤ 62909 := k_o0.2 2 _
        exact H _ _ _ _ k_o0 r_o0 i_v1 (iv_w (a := 1) (b := 62910) (by decide) (by decide) i31) f_o0_0 x_0 p32 x_2 (show (o0.1 3).toInt ≤ (o0.1 4).toInt by omega) (show (o0.2.1 2 v1.toNatClampNeg).toInt + 1 ≤ x30.toInt by omega) x_5 (show 0 + (62910 - x30.toInt) * 2 < (n : Int) by omega)
set_option maxHeartbeats 4000000 in
set_option maxRecDepth 100000 in
theorem hCu_bestOf (yv1 : Int32) (yo0 : cf_O) : ∀ n, HCu_bestOf yv1 yo0 n := by
  intro n
  induction n with
  | zero => exact (fun v1 v2 v4 o0 k_o0 r_o0 i_v1 i_v4 f_o0_0 x_0 x_1 x_2 x_3 x_4 x_5 hm => by exact absurd (show 0 + (62910 - v4.toInt) * 2 < (0 : Int) from hm) (by omega))
  | succ n ih => exact (fun v1 v2 v4 o0 k_o0 r_o0 i_v1 i_v4 f_o0_0 x_0 x_1 x_2 x_3 x_4 x_5 hm => tCu_bestOf_11 ih v1 v2 v4 o0 k_o0 r_o0 i_v1 i_v4 f_o0_0 x_0 x_1 x_2 x_3 x_4 x_5 (by omega))
set_option maxHeartbeats 4000000 in
set_option maxRecDepth 100000 in
theorem sCu_bestOf (v1 : Int32) (o0 : cf_O) (k_o0 : okO I_Cu o0) (i_v1 : (1 : Int) ≤ v1.toInt ∧ v1.toInt ≤ 208) (f_o0_0 : (0 : Int) ≤ (o0.1 0).toInt ∧ (o0.1 0).toInt ≤ 5) (x_0 : Brw v1.toInt (o0.1 3).toInt (o0.2.1 2) (o0.2.1 1) (o0.2.2 4)) (x_1 : (o0.1 3).toInt ≤ (o0.1 4).toInt) : tt (fCu_bestOf v1 o0) (QCu_bestOf v1 o0) := by
  have H := hCu_bestOf v1 o0 cfFU
  have hm : (125821 : Int) ≤ (cfFU : Nat) := by decide
  have r_o0 : Fr (fr_M [] [] []) o0 o0 := fr_rfl
  unfold fCu_bestOf fCu_bestOf_0
  have g_o0_3 : (0 : Int) ≤ (o0.1 3).toInt ∧ (o0.1 3).toInt ≤ 62909 := k_o0.1 3
  have g_o0_4 : (1024 : Int) ≤ (o0.1 4).toInt ∧ (o0.1 4).toInt ≤ 131072 := k_o0.1 4
  refine tt_b (sCu_firstOf _ _ k_o0 i_v1 f_o0_0) (fun q1 hq1 => ?_)
  obtain ⟨i_q1, zq1_0, -⟩ := hq1
  have zq1_0 : q1.toInt = (o0.2.1 2 v1.toNatClampNeg).toInt + 1 := zq1_0
  have p2 : Bst v1.toInt q1.toInt (9223372036854775807 : Int64) (o0.2.1 2) (o0.2.1 1) (o0.2.2 4) := by exact Bst_0 x_0 (show _ = (o0.2.1 2 v1.toNatClampNeg).toInt + 1 by omega)
  have p3 : (v1 = v1) := by exact rfl
  have t4 : (0 : Int) ≤ (o0.2.1 2 v1.toNatClampNeg).toInt ∧ (o0.2.1 2 v1.toNatClampNeg).toInt ≤ 62909 := k_o0.2 2 _
  have p5 : Inq v1.toInt (9223372036854775807 : Int64) (o0.2.1 2) (o0.2.2 4) := by exact Or.inl rfl
  exact H _ _ _ _ k_o0 r_o0 i_v1 i_q1 f_o0_0 x_0 p2 p3 (show (o0.1 3).toInt ≤ (o0.1 4).toInt by omega) (show (o0.2.1 2 v1.toNatClampNeg).toInt + 1 ≤ q1.toInt by omega) p5 (show 0 + (62910 - q1.toInt) * 2 < ((cfFU : Nat) : Int) by omega)
def QCu_nodeAt (v0 : Int64) (v2 : Int32) (r : (Int32)) : Prop := ((0 : Int) ≤ r.toInt ∧ r.toInt ≤ 255) ∧ True
set_option maxHeartbeats 4000000 in
set_option maxRecDepth 100000 in
theorem sCu_nodeAt (v0 : Int64) (v2 : Int32) (i_v2 : (0 : Int) ≤ v2.toInt ∧ v2.toInt ≤ 7) : tt (fCu_nodeAt v0 v2) (QCu_nodeAt v0 v2) := by
  unfold fCu_nodeAt fCu_nodeAt_0
  refine tt_b (sCu_sizeOf _ ) (fun q1 hq1 => ?_)
  obtain ⟨i_q1, zq1_0, zq1_1, -⟩ := hq1
  refine tt_kv (P := fun z => (((-1) : Int) ≤ z.toInt ∧ z.toInt ≤ 7) ∧ z.toInt = q1.toInt - 1) ⟨iv_sub i_q1 (show (1 : Int) ≤ (1 : Int32).toInt ∧ (1 : Int32).toInt ≤ 1 by decide) (by decide) (by decide) (by decide) (by decide), iq_sub i_q1 (show (1 : Int) ≤ (1 : Int32).toInt ∧ (1 : Int32).toInt ≤ 1 by decide) (by decide) (by decide)⟩ (fun x2 qi3 => ?_)
  obtain ⟨i3, ei3⟩ := qi3
  refine tt_kv (P := fun z => ((-8) : Int) ≤ z.toInt ∧ z.toInt ≤ 7) (iv_sub i3 i_v2 (by decide) (by decide) (by decide) (by decide)) (fun x4 i5 => ?_)
  refine tt_kv (P := fun z => ((-64) : Int) ≤ z.toInt ∧ z.toInt ≤ 56) (iv_mulc (k := 8) (show (8 : Int) ≤ (8 : Int32).toInt ∧ (8 : Int32).toInt ≤ 8 by decide) i5 (by decide) (by decide) (by decide) (by decide) (by decide)) (fun x6 i7 => ?_)
  refine tt_kl (fun x8 => ?_)
  refine tt_klv (P := fun z => (0 : Int) ≤ z.toInt ∧ z.toInt ≤ 255) (ivl_and (by decide) (by decide) (by decide)) (fun x9 i10 => ?_)
  refine tt_kv (P := fun z => (0 : Int) ≤ z.toInt ∧ z.toInt ≤ 255) (ivl_i i10 (by decide) (by decide)) (fun x11 i12 => ?_)
  exact tt_some ⟨i12, trivial⟩
def QCv_wantNodes (v2 : Int64) (v4 : Int32) (o0 : cf_O) (o1 : cf_O) (r : (cf_O)) : Prop := (okO I_Cv r) ∧ (Fr (fr_M [] [6] []) o0 r) ∧ (Wnp v2 v4.toInt (o0.2.1 6) (r.2.1 6)) ∧ True
def HCv_wantNodes (yv2 : Int64) (yv4 : Int32) (yo0 : cf_O) (yo1 : cf_O) (n : Nat) : Prop := (∀ (v2 : Int64) (v4 : Int32) (v5 : Int32) (o0 : cf_O) (o1 : cf_O), (okO I_Cv o0) → (Fr (fr_M [] [6] []) yo0 o0) → (okO I_Gr o1) → (Fr (fr_M [] [] []) yo1 o1) → ((0 : Int) ≤ v5.toInt ∧ v5.toInt ≤ 8) → ((0 : Int) ≤ (o0.1 1).toInt ∧ (o0.1 1).toInt ≤ 2147483647) → (Wnp v2 v4.toInt (yo0.2.1 6) (o0.2.1 6)) → ((v2 = yv2 ∧ v4 = yv4)) → 0 + (8 - v5.toInt) * 2 < (n : Int) → tt (gCv_wantNodes n 0 v2 v4 v5 o0 o1) (QCv_wantNodes yv2 yv4 yo0 yo1))
set_option maxHeartbeats 4000000 in
set_option maxRecDepth 100000 in
theorem tCv_wantNodes_3 {yv2 : Int64} {yv4 : Int32} {yo0 : cf_O} {yo1 : cf_O} {n : Nat} (H : HCv_wantNodes yv2 yv4 yo0 yo1 n) (v2 : Int64) (v4 : Int32) (v5 : Int32) (o0 : cf_O) (o1 : cf_O) (k_o0 : okO I_Cv o0) (r_o0 : Fr (fr_M [] [6] []) yo0 o0) (k_o1 : okO I_Gr o1) (r_o1 : Fr (fr_M [] [] []) yo1 o1) (i_v5 : (0 : Int) ≤ v5.toInt ∧ v5.toInt ≤ 8) (f_o0_1 : (0 : Int) ≤ (o0.1 1).toInt ∧ (o0.1 1).toInt ≤ 2147483647) (x_0 : Wnp v2 v4.toInt (yo0.2.1 6) (o0.2.1 6)) (x_1 : (v2 = yv2 ∧ v4 = yv4)) (hm : 0 + (8 - v5.toInt) * 2 ≤ (n : Int)) : tt (fCv_wantNodes_3 (gCv_wantNodes n) v2 v4 v5 o0 o1) (QCv_wantNodes yv2 yv4 yo0 yo1) := by
  unfold fCv_wantNodes_3
  have i_v4 := iv_top v4
  have g_o0_0 : (0 : Int) ≤ (o0.1 0).toInt ∧ (o0.1 0).toInt ≤ 200 := k_o0.1 0
  have ey_o0_0 : (o0.1 0).toInt = (yo0.1 0).toInt := congrArg Int32.toInt (r_o0.1 0 rfl)
  have g_o0_2 : (0 : Int) ≤ (o0.1 2).toInt ∧ (o0.1 2).toInt ≤ 0 := k_o0.1 2
  have ey_o0_2 : (o0.1 2).toInt = (yo0.1 2).toInt := congrArg Int32.toInt (r_o0.1 2 rfl)
  have g_o1_0 : (0 : Int) ≤ (o1.1 0).toInt ∧ (o1.1 0).toInt ≤ 8 := k_o1.1 0
  have ey_o1_0 : (o1.1 0).toInt = (yo1.1 0).toInt := congrArg Int32.toInt (r_o1.1 0 rfl)
  have g_o1_2 : (0 : Int) ≤ (o1.1 2).toInt ∧ (o1.1 2).toInt ≤ 200 := k_o1.1 2
  have ey_o1_2 : (o1.1 2).toInt = (yo1.1 2).toInt := congrArg Int32.toInt (r_o1.1 2 rfl)
  refine tt_b (sCu_sizeOf _ ) (fun q1 hq1 => ?_)
  obtain ⟨i_q1, zq1_0, zq1_1, -⟩ := hq1
  refine tt_if (fun c2 => ?_) (fun c2 => ?_)
  · have wc2 : q1.toInt ≤ v5.toInt := c_le c2
    have p3 : Wnp yv2 yv4.toInt (yo0.2.1 6) (o0.2.1 6) := by rw [← x_1.1, ← x_1.2]; exact x_0
    exact tt_some ⟨k_o0, r_o0, p3, trivial⟩
  · have wc2 : v5.toInt < q1.toInt := c_nle c2
    have i4 : (0 : Int) ≤ v5.toInt ∧ v5.toInt ≤ 7 := nr_nlel c2 i_v5 i_q1 (by decide) (by decide)
    have i5 : (1 : Int) ≤ q1.toInt ∧ q1.toInt ≤ 8 := nr_nler c2 i_v5 i_q1 (by decide) (by decide)
    refine tt_be (sCu_nodeAt _ _ i4) (fun q6 hq6 eq6 => ?_)
    obtain ⟨i_q6, -⟩ := hq6
    have t7 := nodeAt_sp eq6
    refine tt_b (sGr_isGate _ _ k_o1) (fun q8 hq8 => ?_)
    obtain ⟨i_q8, zq8_0, zq8_1, -⟩ := hq8
    have zq8_0 : q8.toInt = 0 ∨ ((o1.1 0).toInt < q6.toInt ∧ q6.toInt < 1 + (o1.1 0).toInt + (o1.1 2).toInt) := zq8_0
    refine tt_if (fun c9 => ?_) (fun c9 => ?_)
    · have wc9 : q8.toInt = (0 : Int) := c_eq c9
      have i10 : (0 : Int) ≤ q8.toInt ∧ q8.toInt ≤ 0 := nr_eql c9 i_q8 (show (0 : Int) ≤ (0 : Int32).toInt ∧ (0 : Int32).toInt ≤ 0 by decide) (by decide) (by decide)
      try unfold fCv_wantNodes_64
      refine tt_kv (P := fun z => ((1 : Int) ≤ z.toInt ∧ z.toInt ≤ 8) ∧ z = (v5 + 1) ∧ z.toInt = v5.toInt + 1) ⟨iv_add i4 (show (1 : Int) ≤ (1 : Int32).toInt ∧ (1 : Int32).toInt ≤ 1 by decide) (by decide) (by decide) (by decide) (by decide), rfl, iq_add i4 (show (1 : Int) ≤ (1 : Int32).toInt ∧ (1 : Int32).toInt ≤ 1 by decide) (by decide) (by decide)⟩ (fun x11 qi12 => ?_)
      obtain ⟨i12, ax11, ei12⟩ := qi12
      exact H _ _ _ _ _ k_o0 r_o0 k_o1 r_o1 (iv_w (a := 0) (b := 8) (by decide) (by decide) i12) f_o0_1 x_0 x_1 (show 0 + (8 - x11.toInt) * 2 < (n : Int) by omega)
    · have wc9 : ¬ q8.toInt = (0 : Int) := c_ne c9
      have i13 : (1 : Int) ≤ q8.toInt ∧ q8.toInt ≤ 1 := nr_nela c9 i_q8 (show (0 : Int) ≤ (0 : Int32).toInt ∧ (0 : Int32).toInt ≤ 0 by decide) (by decide) (by decide)
      refine tt_n (ix_rel (by omega) (by omega)) ?_
      have i14 : (0 : Int) ≤ q6.toInt ∧ q6.toInt ≤ 208 := (by omega)
      refine tt_kv (P := fun z => (((-2147483648) : Int) ≤ z.toInt ∧ z.toInt ≤ 2147483647) ∧ z = (o0.2.1 6 q6.toNatClampNeg) ∧ z.toInt = (o0.2.1 6 q6.toNatClampNeg).toInt) ⟨(k_o0.2 6 _), rfl, rfl⟩ (fun x15 qi16 => ?_)
      obtain ⟨i16, ax15, ei16⟩ := qi16
      refine tt_if (fun c17 => ?_) (fun c17 => ?_)
      · have wc17 : x15.toInt = ((-1) : Int) := c_eq c17
        have i18 : ((-1) : Int) ≤ x15.toInt ∧ x15.toInt ≤ (-1) := nr_eql c17 i16 (show ((-1) : Int) ≤ ((-1) : Int32).toInt ∧ ((-1) : Int32).toInt ≤ (-1) by decide) (by decide) (by decide)
        try unfold fCv_wantNodes_63
        refine tt_n (ix_ok i14 (by decide) (by decide)) ?_
        refine tt_ko ?_
        have k19 := ok_xp (k := 6) (i := q6.toNatClampNeg) (v := v4) k_o0 (iv_top v4)
        have r20 := fr_xp (k := 6) (i := q6.toNatClampNeg) (v := v4) r_o0 rfl
        try unfold fCv_wantNodes_64
        refine tt_kv (P := fun z => ((1 : Int) ≤ z.toInt ∧ z.toInt ≤ 8) ∧ z = (v5 + 1) ∧ z.toInt = v5.toInt + 1) ⟨iv_add i4 (show (1 : Int) ≤ (1 : Int32).toInt ∧ (1 : Int32).toInt ≤ 1 by decide) (by decide) (by decide) (by decide) (by decide), rfl, iq_add i4 (show (1 : Int) ≤ (1 : Int32).toInt ∧ (1 : Int32).toInt ≤ 1 by decide) (by decide) (by decide)⟩ (fun x21 qi22 => ?_)
        obtain ⟨i22, ax21, ei22⟩ := qi22
        have p23 : Wnp v2 v4.toInt (yo0.2.1 6) (upd (o0.2.1 6) (q6.toNatClampNeg) v4) := by first | exact x_0 | exact Wnp_s x_0 (show Inb _ _ by assumption) (by rw [tn_n]; omega) (by omega) (Or.inl rfl) | exact Wnp_m x_0 (show Inb _ _ by assumption) (by rw [tn_n]; omega) (by omega) (by assumption) (by assumption) rfl
        exact H _ _ _ _ _ k19 r20 k_o1 r_o1 (iv_w (a := 0) (b := 8) (by decide) (by decide) i22) f_o0_1 p23 x_1 (show 0 + (8 - x21.toInt) * 2 < (n : Int) by omega)
      · have wc17 : ¬ x15.toInt = ((-1) : Int) := c_ne c17
        refine tt_n (ix_ok i14 (by decide) (by decide)) ?_
        refine tt_kv (P := fun z => (((-2147483648) : Int) ≤ z.toInt ∧ z.toInt ≤ 2147483647) ∧ z = (o0.2.1 6 q6.toNatClampNeg) ∧ z.toInt = (o0.2.1 6 q6.toNatClampNeg).toInt) ⟨(k_o0.2 6 _), rfl, rfl⟩ (fun x24 qi25 => ?_)
        obtain ⟨i25, ax24, ei25⟩ := qi25
        refine tt_kv (P := fun z => (((-2147483648) : Int) ≤ z.toInt ∧ z.toInt ≤ 2147483647) ∧ z = (op_mn x24 v4)) ⟨iv_mn i25 (iv_top v4) (by decide) (by decide) (by decide) (by decide), rfl⟩ (fun x26 qi27 => ?_)
        obtain ⟨i27, ax26⟩ := qi27
        try unfold fCv_wantNodes_63
        refine tt_n (ix_ok i14 (by decide) (by decide)) ?_
        refine tt_ko ?_
        have k28 := ok_xp (k := 6) (i := q6.toNatClampNeg) (v := x26) k_o0 i27
        have r29 := fr_xp (k := 6) (i := q6.toNatClampNeg) (v := x26) r_o0 rfl
        try unfold fCv_wantNodes_64
        refine tt_kv (P := fun z => ((1 : Int) ≤ z.toInt ∧ z.toInt ≤ 8) ∧ z = (v5 + 1) ∧ z.toInt = v5.toInt + 1) ⟨iv_add i4 (show (1 : Int) ≤ (1 : Int32).toInt ∧ (1 : Int32).toInt ≤ 1 by decide) (by decide) (by decide) (by decide) (by decide), rfl, iq_add i4 (show (1 : Int) ≤ (1 : Int32).toInt ∧ (1 : Int32).toInt ≤ 1 by decide) (by decide) (by decide)⟩ (fun x30 qi31 => ?_)
        obtain ⟨i31, ax30, ei31⟩ := qi31
        have p32 : Wnp v2 v4.toInt (yo0.2.1 6) (upd (o0.2.1 6) (q6.toNatClampNeg) x26) := by first | exact x_0 | exact Wnp_s x_0 (show Inb _ _ by assumption) (by rw [tn_n]; omega) (by omega) (Or.inl rfl) | exact Wnp_m x_0 (show Inb _ _ by assumption) (by rw [tn_n]; omega) (by omega) (by assumption) (by assumption) rfl
        exact H _ _ _ _ _ k28 r29 k_o1 r_o1 (iv_w (a := 0) (b := 8) (by decide) (by decide) i31) f_o0_1 p32 x_1 (show 0 + (8 - x30.toInt) * 2 < (n : Int) by omega)
set_option maxHeartbeats 4000000 in
set_option maxRecDepth 100000 in
theorem hCv_wantNodes (yv2 : Int64) (yv4 : Int32) (yo0 : cf_O) (yo1 : cf_O) : ∀ n, HCv_wantNodes yv2 yv4 yo0 yo1 n := by
  intro n
  induction n with
  | zero => exact (fun v2 v4 v5 o0 o1 k_o0 r_o0 k_o1 r_o1 i_v5 f_o0_1 x_0 x_1 hm => by exact absurd (show 0 + (8 - v5.toInt) * 2 < (0 : Int) from hm) (by omega))
  | succ n ih => exact (fun v2 v4 v5 o0 o1 k_o0 r_o0 k_o1 r_o1 i_v5 f_o0_1 x_0 x_1 hm => tCv_wantNodes_3 ih v2 v4 v5 o0 o1 k_o0 r_o0 k_o1 r_o1 i_v5 f_o0_1 x_0 x_1 (by omega))
set_option maxHeartbeats 4000000 in
set_option maxRecDepth 100000 in
theorem sCv_wantNodes (v2 : Int64) (v4 : Int32) (o0 : cf_O) (o1 : cf_O) (k_o0 : okO I_Cv o0) (k_o1 : okO I_Gr o1) (f_o0_1 : (0 : Int) ≤ (o0.1 1).toInt ∧ (o0.1 1).toInt ≤ 2147483647) : tt (fCv_wantNodes v2 v4 o0 o1) (QCv_wantNodes v2 v4 o0 o1) := by
  have H := hCv_wantNodes v2 v4 o0 o1 cfFU
  have hm : (19 : Int) ≤ (cfFU : Nat) := by decide
  have r_o0 : Fr (fr_M [] [6] []) o0 o0 := fr_rfl
  have r_o1 : Fr (fr_M [] [] []) o1 o1 := fr_rfl
  unfold fCv_wantNodes fCv_wantNodes_0
  have i_v4 := iv_top v4
  have g_o0_0 : (0 : Int) ≤ (o0.1 0).toInt ∧ (o0.1 0).toInt ≤ 200 := k_o0.1 0
  have g_o0_2 : (0 : Int) ≤ (o0.1 2).toInt ∧ (o0.1 2).toInt ≤ 0 := k_o0.1 2
  have g_o1_0 : (0 : Int) ≤ (o1.1 0).toInt ∧ (o1.1 0).toInt ≤ 8 := k_o1.1 0
  have g_o1_2 : (0 : Int) ≤ (o1.1 2).toInt ∧ (o1.1 2).toInt ≤ 200 := k_o1.1 2
  have p1 : Wnp v2 v4.toInt (o0.2.1 6) (o0.2.1 6) := by exact Wnp_0
  have p2 : (v2 = v2 ∧ v4 = v4) := by exact ⟨rfl, rfl⟩
  exact H _ _ _ _ _ k_o0 r_o0 k_o1 r_o1 (iv_w (a := 0) (b := 8) (by decide) (by decide) (show (0 : Int) ≤ (0 : Int32).toInt ∧ (0 : Int32).toInt ≤ 0 by decide)) f_o0_1 p1 p2 (show 0 + (8 - 0) * 2 < ((cfFU : Nat) : Int) by omega)
def QCv_choose (v4 : Int32) (o0 : cf_O) (o1 : cf_O) (o2 : cf_O) (o3 : cf_O) (r : (cf_O × cf_O)) : Prop := (okO I_Cv r.1) ∧ (Fr (fr_M [0, 1] [2, 3, 4, 6] [5]) o0 r.1) ∧ ((0 : Int) ≤ (r.1.1 1).toInt ∧ (r.1.1 1).toInt ≤ 2147483647) ∧ (okO I_Co r.2) ∧ (Fr (fr_M [0, 1] [2, 3, 4] []) o3 r.2) ∧ (Ctk (r.1.1 0).toInt (r.1.2.1 2) (r.1.2.2 5)) ∧ True
def HCv_choose (yv4 : Int32) (yo0 : cf_O) (yo1 : cf_O) (yo2 : cf_O) (yo3 : cf_O) (n : Nat) : Prop := (∀ (v4 : Int32) (v5 : Int32) (o0 : cf_O) (o1 : cf_O) (o2 : cf_O) (o3 : cf_O), (okO I_Cv o0) → (Fr (fr_M [0, 1] [2, 3, 4, 6] [5]) yo0 o0) → (okO I_Gr o1) → (Fr (fr_M [] [] []) yo1 o1) → (okO I_Cu o2) → (Fr (fr_M [] [] []) yo2 o2) → (okO I_Co o3) → (Fr (fr_M [0, 1] [2, 3, 4] []) yo3 o3) → ((0 : Int) ≤ v4.toInt ∧ v4.toInt ≤ 1) → ((0 : Int) ≤ v5.toInt ∧ v5.toInt ≤ 208) → ((0 : Int) ≤ (o0.1 1).toInt ∧ (o0.1 1).toInt ≤ 2147483647) → ((0 : Int) ≤ (o2.1 0).toInt ∧ (o2.1 0).toInt ≤ 5) → (Fqr (o2.1 0).toInt (o1.1 0).toInt (((o1.1 0).toInt + 1) + (o1.1 2).toInt) (o2.1 3).toInt (o2.2.1 2) (o2.2.1 1) (o2.2.2 4)) → (Tdm (o2.2.1 1) (o0.2.1 6)) → (Tkd v5.toInt (((o1.1 0).toInt + 1) + (o1.1 2).toInt) (o0.2.1 6) (o0.2.2 5)) → (1 ≤ (o2.1 0).toInt) → ((o2.1 3).toInt ≤ (o2.1 4).toInt) → (v5.toInt < 1 + (o1.1 0).toInt + (o1.1 2).toInt) → ((o1.1 0).toInt ≤ v5.toInt) → 418 + (v5.toInt - 0) * 2 < (n : Int) → tt (gCv_choose n 0 v4 v5 o0 o1 o2 o3) (QCv_choose yv4 yo0 yo1 yo2 yo3)) ∧ (∀ (v5 : Int32) (o0 : cf_O) (o1 : cf_O) (o2 : cf_O) (o3 : cf_O), (okO I_Cv o0) → (Fr (fr_M [0, 1] [2, 3, 4, 6] [5]) yo0 o0) → (okO I_Gr o1) → (Fr (fr_M [] [] []) yo1 o1) → (okO I_Cu o2) → (Fr (fr_M [] [] []) yo2 o2) → (okO I_Co o3) → (Fr (fr_M [0, 1] [2, 3, 4] []) yo3 o3) → ((1 : Int) ≤ v5.toInt ∧ v5.toInt ≤ 209) → ((0 : Int) ≤ (o0.1 1).toInt ∧ (o0.1 1).toInt ≤ 2147483647) → ((0 : Int) ≤ (o2.1 0).toInt ∧ (o2.1 0).toInt ≤ 5) → (Tkd (o1.1 0).toInt (((o1.1 0).toInt + 1) + (o1.1 2).toInt) (o0.2.1 6) (o0.2.2 5)) → (Ctk (o0.1 0).toInt (o0.2.1 2) (o0.2.2 5)) → ((o0.1 0).toInt + (o1.1 0).toInt + 1 ≤ v5.toInt) → (0 ≤ (o0.1 0).toInt) → ((o1.1 0).toInt < v5.toInt) → (v5.toInt ≤ 1 + (o1.1 0).toInt + (o1.1 2).toInt) → 0 + (209 - v5.toInt) * 2 < (n : Int) → tt (gCv_choose n 1 0 v5 o0 o1 o2 o3) (QCv_choose yv4 yo0 yo1 yo2 yo3))
set_option maxHeartbeats 4000000 in
set_option maxRecDepth 100000 in
theorem tCv_choose_103 {yv4 : Int32} {yo0 : cf_O} {yo1 : cf_O} {yo2 : cf_O} {yo3 : cf_O} {n : Nat} (H : HCv_choose yv4 yo0 yo1 yo2 yo3 n) (v5 : Int32) (o0 : cf_O) (o1 : cf_O) (o2 : cf_O) (o3 : cf_O) (k_o0 : okO I_Cv o0) (r_o0 : Fr (fr_M [0, 1] [2, 3, 4, 6] [5]) yo0 o0) (k_o1 : okO I_Gr o1) (r_o1 : Fr (fr_M [] [] []) yo1 o1) (k_o2 : okO I_Cu o2) (r_o2 : Fr (fr_M [] [] []) yo2 o2) (k_o3 : okO I_Co o3) (r_o3 : Fr (fr_M [0, 1] [2, 3, 4] []) yo3 o3) (i_v5 : (1 : Int) ≤ v5.toInt ∧ v5.toInt ≤ 209) (f_o0_1 : (0 : Int) ≤ (o0.1 1).toInt ∧ (o0.1 1).toInt ≤ 2147483647) (f_o2_0 : (0 : Int) ≤ (o2.1 0).toInt ∧ (o2.1 0).toInt ≤ 5) (x_0 : Tkd (o1.1 0).toInt (((o1.1 0).toInt + 1) + (o1.1 2).toInt) (o0.2.1 6) (o0.2.2 5)) (x_1 : Ctk (o0.1 0).toInt (o0.2.1 2) (o0.2.2 5)) (x_2 : (o0.1 0).toInt + (o1.1 0).toInt + 1 ≤ v5.toInt) (x_3 : 0 ≤ (o0.1 0).toInt) (x_4 : (o1.1 0).toInt < v5.toInt) (x_5 : v5.toInt ≤ 1 + (o1.1 0).toInt + (o1.1 2).toInt) (hm : 0 + (209 - v5.toInt) * 2 ≤ (n : Int)) : tt (fCv_choose_103 (gCv_choose n) v5 o0 o1 o2 o3) (QCv_choose yv4 yo0 yo1 yo2 yo3) := by
  unfold fCv_choose_103
  have g_o0_0 : (0 : Int) ≤ (o0.1 0).toInt ∧ (o0.1 0).toInt ≤ 200 := k_o0.1 0
  have g_o0_2 : (0 : Int) ≤ (o0.1 2).toInt ∧ (o0.1 2).toInt ≤ 0 := k_o0.1 2
  have ey_o0_2 : (o0.1 2).toInt = (yo0.1 2).toInt := congrArg Int32.toInt (r_o0.1 2 rfl)
  have g_o0_3 : (0 : Int) ≤ (o0.1 3).toInt ∧ (o0.1 3).toInt ≤ 0 := k_o0.1 3
  have ey_o0_3 : (o0.1 3).toInt = (yo0.1 3).toInt := congrArg Int32.toInt (r_o0.1 3 rfl)
  have g_o0_4 : (0 : Int) ≤ (o0.1 4).toInt ∧ (o0.1 4).toInt ≤ 0 := k_o0.1 4
  have ey_o0_4 : (o0.1 4).toInt = (yo0.1 4).toInt := congrArg Int32.toInt (r_o0.1 4 rfl)
  have g_o1_0 : (0 : Int) ≤ (o1.1 0).toInt ∧ (o1.1 0).toInt ≤ 8 := k_o1.1 0
  have ey_o1_0 : (o1.1 0).toInt = (yo1.1 0).toInt := congrArg Int32.toInt (r_o1.1 0 rfl)
  have g_o1_1 : (0 : Int) ≤ (o1.1 1).toInt ∧ (o1.1 1).toInt ≤ 6 := k_o1.1 1
  have ey_o1_1 : (o1.1 1).toInt = (yo1.1 1).toInt := congrArg Int32.toInt (r_o1.1 1 rfl)
  have g_o1_2 : (0 : Int) ≤ (o1.1 2).toInt ∧ (o1.1 2).toInt ≤ 200 := k_o1.1 2
  have ey_o1_2 : (o1.1 2).toInt = (yo1.1 2).toInt := congrArg Int32.toInt (r_o1.1 2 rfl)
  have g_o1_3 : (0 : Int) ≤ (o1.1 3).toInt ∧ (o1.1 3).toInt ≤ 1 := k_o1.1 3
  have ey_o1_3 : (o1.1 3).toInt = (yo1.1 3).toInt := congrArg Int32.toInt (r_o1.1 3 rfl)
  have g_o1_4 : (0 : Int) ≤ (o1.1 4).toInt ∧ (o1.1 4).toInt ≤ 0 := k_o1.1 4
  have ey_o1_4 : (o1.1 4).toInt = (yo1.1 4).toInt := congrArg Int32.toInt (r_o1.1 4 rfl)
  have ey_o2_0 : (o2.1 0).toInt = (yo2.1 0).toInt := congrArg Int32.toInt (r_o2.1 0 rfl)
  have g_o2_1 : (0 : Int) ≤ (o2.1 1).toInt ∧ (o2.1 1).toInt ≤ 0 := k_o2.1 1
  have ey_o2_1 : (o2.1 1).toInt = (yo2.1 1).toInt := congrArg Int32.toInt (r_o2.1 1 rfl)
  have g_o2_2 : (0 : Int) ≤ (o2.1 2).toInt ∧ (o2.1 2).toInt ≤ 0 := k_o2.1 2
  have ey_o2_2 : (o2.1 2).toInt = (yo2.1 2).toInt := congrArg Int32.toInt (r_o2.1 2 rfl)
  have g_o2_3 : (0 : Int) ≤ (o2.1 3).toInt ∧ (o2.1 3).toInt ≤ 62909 := k_o2.1 3
  have ey_o2_3 : (o2.1 3).toInt = (yo2.1 3).toInt := congrArg Int32.toInt (r_o2.1 3 rfl)
  have g_o2_4 : (1024 : Int) ≤ (o2.1 4).toInt ∧ (o2.1 4).toInt ≤ 131072 := k_o2.1 4
  have ey_o2_4 : (o2.1 4).toInt = (yo2.1 4).toInt := congrArg Int32.toInt (r_o2.1 4 rfl)
  have g_o3_0 : (0 : Int) ≤ (o3.1 0).toInt ∧ (o3.1 0).toInt ≤ 5 := k_o3.1 0
  have g_o3_1 : ((-2147483648) : Int) ≤ (o3.1 1).toInt ∧ (o3.1 1).toInt ≤ 2147483647 := k_o3.1 1
  have g_o3_2 : (0 : Int) ≤ (o3.1 2).toInt ∧ (o3.1 2).toInt ≤ 0 := k_o3.1 2
  have ey_o3_2 : (o3.1 2).toInt = (yo3.1 2).toInt := congrArg Int32.toInt (r_o3.1 2 rfl)
  have g_o3_3 : (0 : Int) ≤ (o3.1 3).toInt ∧ (o3.1 3).toInt ≤ 0 := k_o3.1 3
  have ey_o3_3 : (o3.1 3).toInt = (yo3.1 3).toInt := congrArg Int32.toInt (r_o3.1 3 rfl)
  have g_o3_4 : (0 : Int) ≤ (o3.1 4).toInt ∧ (o3.1 4).toInt ≤ 0 := k_o3.1 4
  have ey_o3_4 : (o3.1 4).toInt = (yo3.1 4).toInt := congrArg Int32.toInt (r_o3.1 4 rfl)
  try unfold fGr_size
  try unfold fGr_size_0
  refine tt_bkv (P := fun z => ((1 : Int) ≤ z.toInt ∧ z.toInt ≤ 9) ∧ z = (1 + (o1.1 0)) ∧ z.toInt = 1 + (o1.1 0).toInt) ⟨iv_add (show (1 : Int) ≤ (1 : Int32).toInt ∧ (1 : Int32).toInt ≤ 1 by decide) (k_o1.1 0) (by decide) (by decide) (by decide) (by decide), rfl, iq_add (show (1 : Int) ≤ (1 : Int32).toInt ∧ (1 : Int32).toInt ≤ 1 by decide) (k_o1.1 0) (by decide) (by decide)⟩ (fun x1 qi2 => ?_)
  obtain ⟨i2, ax1, ei2⟩ := qi2
  refine tt_bkv (P := fun z => ((1 : Int) ≤ z.toInt ∧ z.toInt ≤ 209) ∧ z = (x1 + (o1.1 2)) ∧ z.toInt = x1.toInt + (o1.1 2).toInt) ⟨iv_add i2 (k_o1.1 2) (by decide) (by decide) (by decide) (by decide), rfl, iq_add i2 (k_o1.1 2) (by decide) (by decide)⟩ (fun x3 qi4 => ?_)
  obtain ⟨i4, ax3, ei4⟩ := qi4
  refine tt_bs ?_
  refine tt_if (fun c5 => ?_) (fun c5 => ?_)
  · have wc5 : x3.toInt ≤ v5.toInt := c_le c5
    exact tt_some ⟨k_o0, r_o0, f_o0_1, k_o3, r_o3, x_1, trivial⟩
  · have wc5 : v5.toInt < x3.toInt := c_nle c5
    have i6 : (1 : Int) ≤ v5.toInt ∧ v5.toInt ≤ 208 := nr_nlel c5 i_v5 i4 (by decide) (by decide)
    have i7 : (2 : Int) ≤ x3.toInt ∧ x3.toInt ≤ 209 := nr_nler c5 i_v5 i4 (by decide) (by decide)
    refine tt_n (ix_ok i6 (by decide) (by decide)) ?_
    refine tt_kv (P := fun z => (((-2147483648) : Int) ≤ z.toInt ∧ z.toInt ≤ 2147483647) ∧ z = (o0.2.1 6 v5.toNatClampNeg) ∧ z.toInt = (o0.2.1 6 v5.toNatClampNeg).toInt) ⟨(k_o0.2 6 _), rfl, rfl⟩ (fun x8 qi9 => ?_)
    obtain ⟨i9, ax8, ei9⟩ := qi9
    refine tt_if (fun c10 => ?_) (fun c10 => ?_)
    · have wc10 : x8.toInt = ((-1) : Int) := c_eq c10
      have i11 : ((-1) : Int) ≤ x8.toInt ∧ x8.toInt ≤ (-1) := nr_eql c10 i9 (show ((-1) : Int) ≤ ((-1) : Int32).toInt ∧ ((-1) : Int32).toInt ≤ (-1) by decide) (by decide) (by decide)
      try unfold fCv_choose_187
      refine tt_kv (P := fun z => ((2 : Int) ≤ z.toInt ∧ z.toInt ≤ 209) ∧ z = (v5 + 1) ∧ z.toInt = v5.toInt + 1) ⟨iv_add i6 (show (1 : Int) ≤ (1 : Int32).toInt ∧ (1 : Int32).toInt ≤ 1 by decide) (by decide) (by decide) (by decide) (by decide), rfl, iq_add i6 (show (1 : Int) ≤ (1 : Int32).toInt ∧ (1 : Int32).toInt ≤ 1 by decide) (by decide) (by decide)⟩ (fun x12 qi13 => ?_)
      obtain ⟨i13, ax12, ei13⟩ := qi13
      exact H.2 _ _ _ _ _ k_o0 r_o0 k_o1 r_o1 k_o2 r_o2 k_o3 r_o3 (iv_w (a := 1) (b := 209) (by decide) (by decide) i13) f_o0_1 f_o2_0 x_0 x_1 (show (o0.1 0).toInt + (o1.1 0).toInt + 1 ≤ x12.toInt by omega) (show 0 ≤ (o0.1 0).toInt by omega) (show (o1.1 0).toInt < x12.toInt by omega) (show x12.toInt ≤ 1 + (o1.1 0).toInt + (o1.1 2).toInt by omega) (show 0 + (209 - x12.toInt) * 2 < (n : Int) by omega)
    · have wc10 : ¬ x8.toInt = ((-1) : Int) := c_ne c10
      refine tt_n (ix_ok i6 (by decide) (by decide)) ?_
      refine tt_klr (fun x14 ax14 => ?_)
      have p15 : Bk x14 := by exact (Tkd_at (j := v5.toNatClampNeg) x_0 (by rw [tn_n]; omega) (by rw [tn_n]; omega) (show _ = o0.2.1 6 v5.toNatClampNeg by assumption) (by omega) (by assumption))
      refine tt_b (sCo_find _ _ _ _ k_o3 k_o1 i6 p15) (fun q16 hq16 => ?_)
      obtain ⟨k_q16, n_q16, zq16_0, zq16_1, zq16_2, -⟩ := hq16
      have r_q16 := fr_tr r_o3 n_q16 rfl rfl rfl
      have g_q16_0 : (0 : Int) ≤ (q16.1 0).toInt ∧ (q16.1 0).toInt ≤ 5 := k_q16.1 0
      have g_q16_1 : ((-2147483648) : Int) ≤ (q16.1 1).toInt ∧ (q16.1 1).toInt ≤ 2147483647 := k_q16.1 1
      have e_q16_2 : (q16.1 2).toInt = (o3.1 2).toInt := congrArg Int32.toInt (n_q16.1 2 rfl)
      have g_q16_2 : (0 : Int) ≤ (q16.1 2).toInt ∧ (q16.1 2).toInt ≤ 0 := k_q16.1 2
      have e_q16_3 : (q16.1 3).toInt = (o3.1 3).toInt := congrArg Int32.toInt (n_q16.1 3 rfl)
      have g_q16_3 : (0 : Int) ≤ (q16.1 3).toInt ∧ (q16.1 3).toInt ≤ 0 := k_q16.1 3
      have e_q16_4 : (q16.1 4).toInt = (o3.1 4).toInt := congrArg Int32.toInt (n_q16.1 4 rfl)
      have g_q16_4 : (0 : Int) ≤ (q16.1 4).toInt ∧ (q16.1 4).toInt ≤ 0 := k_q16.1 4
      refine tt_n (ix_rel (x := (o0.1 0)) (by omega) (by omega)) ?_
      have i17 : (0 : Int) ≤ (o0.1 0).toInt ∧ (o0.1 0).toInt ≤ 199 := (by omega)
      refine tt_ko ?_
      have k18 := ok_xp (k := 2) (i := (o0.1 0).toNatClampNeg) (v := v5) k_o0 (iv_w (a := 0) (b := 208) (by decide) (by decide) i6)
      have r19 := fr_xp (k := 2) (i := (o0.1 0).toNatClampNeg) (v := v5) r_o0 rfl
      refine tt_n (ix_ok i17 (by decide) (by decide)) ?_
      refine tt_ko ?_
      have k20 := ok_xp (k := 3) (i := (o0.1 0).toNatClampNeg) (v := (q16.1 1)) k18 (k_q16.1 1)
      have r21 := fr_xp (k := 3) (i := (o0.1 0).toNatClampNeg) (v := (q16.1 1)) r19 rfl
      refine tt_n (ix_ok i6 (by decide) (by decide)) ?_
      refine tt_kv (P := fun z => (((-2147483648) : Int) ≤ z.toInt ∧ z.toInt ≤ 2147483647) ∧ z = (o2.2.1 1 v5.toNatClampNeg) ∧ z.toInt = (o2.2.1 1 v5.toNatClampNeg).toInt) ⟨(k_o2.2 1 _), rfl, rfl⟩ (fun x22 qi23 => ?_)
      obtain ⟨i23, ax22, ei23⟩ := qi23
      refine tt_n (ix_ok i17 (by decide) (by decide)) ?_
      refine tt_ko ?_
      have k24 := ok_xp (k := 4) (i := (o0.1 0).toNatClampNeg) (v := x22) k20 i23
      have r25 := fr_xp (k := 4) (i := (o0.1 0).toNatClampNeg) (v := x22) r21 rfl
      refine tt_kv (P := fun z => ((1 : Int) ≤ z.toInt ∧ z.toInt ≤ 200) ∧ z = ((o0.1 0) + 1) ∧ z.toInt = (o0.1 0).toInt + 1) ⟨iv_add i17 (show (1 : Int) ≤ (1 : Int32).toInt ∧ (1 : Int32).toInt ≤ 1 by decide) (by decide) (by decide) (by decide) (by decide), rfl, iq_add i17 (show (1 : Int) ≤ (1 : Int32).toInt ∧ (1 : Int32).toInt ≤ 1 by decide) (by decide) (by decide)⟩ (fun x26 qi27 => ?_)
      obtain ⟨i27, ax26, ei27⟩ := qi27
      refine tt_ko ?_
      have k28 := ok_fp (k := 0) (v := x26) k24 (iv_w (a := 0) (b := 200) (by decide) (by decide) i27)
      have r29 := fr_fp (k := 0) (v := x26) r25 rfl
      try unfold fCv_choose_187
      refine tt_kv (P := fun z => ((2 : Int) ≤ z.toInt ∧ z.toInt ≤ 209) ∧ z = (v5 + 1) ∧ z.toInt = v5.toInt + 1) ⟨iv_add i6 (show (1 : Int) ≤ (1 : Int32).toInt ∧ (1 : Int32).toInt ≤ 1 by decide) (by decide) (by decide) (by decide) (by decide), rfl, iq_add i6 (show (1 : Int) ≤ (1 : Int32).toInt ∧ (1 : Int32).toInt ≤ 1 by decide) (by decide) (by decide)⟩ (fun x30 qi31 => ?_)
      obtain ⟨i31, ax30, ei31⟩ := qi31
      have p32 : Ctk x26.toInt (upd (o0.2.1 2) ((o0.1 0).toNatClampNeg) v5) (o0.2.2 5) := by first | exact x_1 | exact Ctk_s x_1 (by rw [tn_n]; omega) (Tkd_at (j := v5.toNatClampNeg) x_0 (by rw [tn_n]; omega) (by rw [tn_n]; omega) (show _ = o0.2.1 6 v5.toNatClampNeg by assumption) (by omega) rfl) (by omega)
      exact H.2 _ _ _ _ _ k28 r29 k_o1 r_o1 k_o2 r_o2 k_q16 r_q16 (iv_w (a := 1) (b := 209) (by decide) (by decide) i31) f_o0_1 f_o2_0 x_0 p32 (show x26.toInt + (o1.1 0).toInt + 1 ≤ x30.toInt by omega) (show 0 ≤ x26.toInt by omega) (show (o1.1 0).toInt < x30.toInt by omega) (show x30.toInt ≤ 1 + (o1.1 0).toInt + (o1.1 2).toInt by omega) (show 0 + (209 - x30.toInt) * 2 < (n : Int) by omega)
set_option maxHeartbeats 4000000 in
set_option maxRecDepth 100000 in
theorem tCv_choose_14 {yv4 : Int32} {yo0 : cf_O} {yo1 : cf_O} {yo2 : cf_O} {yo3 : cf_O} {n : Nat} (H : HCv_choose yv4 yo0 yo1 yo2 yo3 n) (v4 : Int32) (v5 : Int32) (o0 : cf_O) (o1 : cf_O) (o2 : cf_O) (o3 : cf_O) (k_o0 : okO I_Cv o0) (r_o0 : Fr (fr_M [0, 1] [2, 3, 4, 6] [5]) yo0 o0) (k_o1 : okO I_Gr o1) (r_o1 : Fr (fr_M [] [] []) yo1 o1) (k_o2 : okO I_Cu o2) (r_o2 : Fr (fr_M [] [] []) yo2 o2) (k_o3 : okO I_Co o3) (r_o3 : Fr (fr_M [0, 1] [2, 3, 4] []) yo3 o3) (i_v4 : (0 : Int) ≤ v4.toInt ∧ v4.toInt ≤ 1) (i_v5 : (0 : Int) ≤ v5.toInt ∧ v5.toInt ≤ 208) (f_o0_1 : (0 : Int) ≤ (o0.1 1).toInt ∧ (o0.1 1).toInt ≤ 2147483647) (f_o2_0 : (0 : Int) ≤ (o2.1 0).toInt ∧ (o2.1 0).toInt ≤ 5) (x_0 : Fqr (o2.1 0).toInt (o1.1 0).toInt (((o1.1 0).toInt + 1) + (o1.1 2).toInt) (o2.1 3).toInt (o2.2.1 2) (o2.2.1 1) (o2.2.2 4)) (x_1 : Tdm (o2.2.1 1) (o0.2.1 6)) (x_2 : Tkd v5.toInt (((o1.1 0).toInt + 1) + (o1.1 2).toInt) (o0.2.1 6) (o0.2.2 5)) (x_3 : 1 ≤ (o2.1 0).toInt) (x_4 : (o2.1 3).toInt ≤ (o2.1 4).toInt) (x_5 : v5.toInt < 1 + (o1.1 0).toInt + (o1.1 2).toInt) (x_6 : (o1.1 0).toInt ≤ v5.toInt) (hm : 418 + (v5.toInt - 0) * 2 ≤ (n : Int)) : tt (fCv_choose_14 (gCv_choose n) v4 v5 o0 o1 o2 o3) (QCv_choose yv4 yo0 yo1 yo2 yo3) := by
  unfold fCv_choose_14
  have g_o0_0 : (0 : Int) ≤ (o0.1 0).toInt ∧ (o0.1 0).toInt ≤ 200 := k_o0.1 0
  have g_o0_2 : (0 : Int) ≤ (o0.1 2).toInt ∧ (o0.1 2).toInt ≤ 0 := k_o0.1 2
  have ey_o0_2 : (o0.1 2).toInt = (yo0.1 2).toInt := congrArg Int32.toInt (r_o0.1 2 rfl)
  have g_o0_3 : (0 : Int) ≤ (o0.1 3).toInt ∧ (o0.1 3).toInt ≤ 0 := k_o0.1 3
  have ey_o0_3 : (o0.1 3).toInt = (yo0.1 3).toInt := congrArg Int32.toInt (r_o0.1 3 rfl)
  have g_o0_4 : (0 : Int) ≤ (o0.1 4).toInt ∧ (o0.1 4).toInt ≤ 0 := k_o0.1 4
  have ey_o0_4 : (o0.1 4).toInt = (yo0.1 4).toInt := congrArg Int32.toInt (r_o0.1 4 rfl)
  have g_o1_0 : (0 : Int) ≤ (o1.1 0).toInt ∧ (o1.1 0).toInt ≤ 8 := k_o1.1 0
  have ey_o1_0 : (o1.1 0).toInt = (yo1.1 0).toInt := congrArg Int32.toInt (r_o1.1 0 rfl)
  have g_o1_1 : (0 : Int) ≤ (o1.1 1).toInt ∧ (o1.1 1).toInt ≤ 6 := k_o1.1 1
  have ey_o1_1 : (o1.1 1).toInt = (yo1.1 1).toInt := congrArg Int32.toInt (r_o1.1 1 rfl)
  have g_o1_2 : (0 : Int) ≤ (o1.1 2).toInt ∧ (o1.1 2).toInt ≤ 200 := k_o1.1 2
  have ey_o1_2 : (o1.1 2).toInt = (yo1.1 2).toInt := congrArg Int32.toInt (r_o1.1 2 rfl)
  have g_o1_3 : (0 : Int) ≤ (o1.1 3).toInt ∧ (o1.1 3).toInt ≤ 1 := k_o1.1 3
  have ey_o1_3 : (o1.1 3).toInt = (yo1.1 3).toInt := congrArg Int32.toInt (r_o1.1 3 rfl)
  have g_o1_4 : (0 : Int) ≤ (o1.1 4).toInt ∧ (o1.1 4).toInt ≤ 0 := k_o1.1 4
  have ey_o1_4 : (o1.1 4).toInt = (yo1.1 4).toInt := congrArg Int32.toInt (r_o1.1 4 rfl)
  have ey_o2_0 : (o2.1 0).toInt = (yo2.1 0).toInt := congrArg Int32.toInt (r_o2.1 0 rfl)
  have g_o2_1 : (0 : Int) ≤ (o2.1 1).toInt ∧ (o2.1 1).toInt ≤ 0 := k_o2.1 1
  have ey_o2_1 : (o2.1 1).toInt = (yo2.1 1).toInt := congrArg Int32.toInt (r_o2.1 1 rfl)
  have g_o2_2 : (0 : Int) ≤ (o2.1 2).toInt ∧ (o2.1 2).toInt ≤ 0 := k_o2.1 2
  have ey_o2_2 : (o2.1 2).toInt = (yo2.1 2).toInt := congrArg Int32.toInt (r_o2.1 2 rfl)
  have g_o2_3 : (0 : Int) ≤ (o2.1 3).toInt ∧ (o2.1 3).toInt ≤ 62909 := k_o2.1 3
  have ey_o2_3 : (o2.1 3).toInt = (yo2.1 3).toInt := congrArg Int32.toInt (r_o2.1 3 rfl)
  have g_o2_4 : (1024 : Int) ≤ (o2.1 4).toInt ∧ (o2.1 4).toInt ≤ 131072 := k_o2.1 4
  have ey_o2_4 : (o2.1 4).toInt = (yo2.1 4).toInt := congrArg Int32.toInt (r_o2.1 4 rfl)
  have g_o3_0 : (0 : Int) ≤ (o3.1 0).toInt ∧ (o3.1 0).toInt ≤ 5 := k_o3.1 0
  have g_o3_1 : ((-2147483648) : Int) ≤ (o3.1 1).toInt ∧ (o3.1 1).toInt ≤ 2147483647 := k_o3.1 1
  have g_o3_2 : (0 : Int) ≤ (o3.1 2).toInt ∧ (o3.1 2).toInt ≤ 0 := k_o3.1 2
  have ey_o3_2 : (o3.1 2).toInt = (yo3.1 2).toInt := congrArg Int32.toInt (r_o3.1 2 rfl)
  have g_o3_3 : (0 : Int) ≤ (o3.1 3).toInt ∧ (o3.1 3).toInt ≤ 0 := k_o3.1 3
  have ey_o3_3 : (o3.1 3).toInt = (yo3.1 3).toInt := congrArg Int32.toInt (r_o3.1 3 rfl)
  have g_o3_4 : (0 : Int) ≤ (o3.1 4).toInt ∧ (o3.1 4).toInt ≤ 0 := k_o3.1 4
  have ey_o3_4 : (o3.1 4).toInt = (yo3.1 4).toInt := congrArg Int32.toInt (r_o3.1 4 rfl)
  refine tt_if (fun c1 => ?_) (fun c1 => ?_)
  · have wc1 : v5.toInt ≤ (o1.1 0).toInt := c_le c1
    have i2 : (0 : Int) ≤ v5.toInt ∧ v5.toInt ≤ 8 := nr_lel c1 i_v5 (k_o1.1 0) (by decide) (by decide)
    refine tt_ko ?_
    have k3 := ok_fp (k := 0) (v := 0) k_o0 (iv_w (a := 0) (b := 200) (by decide) (by decide) (show (0 : Int) ≤ (0 : Int32).toInt ∧ (0 : Int32).toInt ≤ 0 by decide))
    have r4 := fr_fp (k := 0) (v := 0) r_o0 rfl
    refine tt_kv (P := fun z => ((1 : Int) ≤ z.toInt ∧ z.toInt ≤ 9) ∧ z = ((o1.1 0) + 1) ∧ z.toInt = (o1.1 0).toInt + 1) ⟨iv_add (k_o1.1 0) (show (1 : Int) ≤ (1 : Int32).toInt ∧ (1 : Int32).toInt ≤ 1 by decide) (by decide) (by decide) (by decide) (by decide), rfl, iq_add (k_o1.1 0) (show (1 : Int) ≤ (1 : Int32).toInt ∧ (1 : Int32).toInt ≤ 1 by decide) (by decide) (by decide)⟩ (fun x5 qi6 => ?_)
    obtain ⟨i6, ax5, ei6⟩ := qi6
    have p7 : Tkd (o1.1 0).toInt (((o1.1 0).toInt + 1) + (o1.1 2).toInt) (o0.2.1 6) (o0.2.2 5) := by exact (show Tkd (o1.1 0).toInt _ _ _ from (show (o1.1 0).toInt = v5.toInt by omega) ▸ x_2)
    have p8 : Ctk 0 (o0.2.1 2) (o0.2.2 5) := by exact Ctk_0 (by decide)
    exact H.2 _ _ _ _ _ k3 r4 k_o1 r_o1 k_o2 r_o2 k_o3 r_o3 (iv_w (a := 1) (b := 209) (by decide) (by decide) i6) f_o0_1 f_o2_0 p7 p8 (show 0 + (o1.1 0).toInt + 1 ≤ x5.toInt by omega) (show 0 ≤ 0 by omega) (show (o1.1 0).toInt < x5.toInt by omega) (show x5.toInt ≤ 1 + (o1.1 0).toInt + (o1.1 2).toInt by omega) (show 0 + (209 - x5.toInt) * 2 < (n : Int) by omega)
  · have wc1 : (o1.1 0).toInt < v5.toInt := c_nle c1
    have i9 : (1 : Int) ≤ v5.toInt ∧ v5.toInt ≤ 208 := nr_nler c1 (k_o1.1 0) i_v5 (by decide) (by decide)
    refine tt_n (ix_ok i9 (by decide) (by decide)) ?_
    refine tt_kv (P := fun z => (((-2147483648) : Int) ≤ z.toInt ∧ z.toInt ≤ 2147483647) ∧ z = (o0.2.1 6 v5.toNatClampNeg) ∧ z.toInt = (o0.2.1 6 v5.toNatClampNeg).toInt) ⟨(k_o0.2 6 _), rfl, rfl⟩ (fun x10 qi11 => ?_)
    obtain ⟨i11, ax10, ei11⟩ := qi11
    have t12 := Tdm_or (g := v5) x_1 ax10 (by omega)
    refine tt_if (fun c13 => ?_) (fun c13 => ?_)
    · have wc13 : x10.toInt = ((-1) : Int) := c_eq c13
      have i14 : ((-1) : Int) ≤ x10.toInt ∧ x10.toInt ≤ (-1) := nr_eql c13 i11 (show ((-1) : Int) ≤ ((-1) : Int32).toInt ∧ ((-1) : Int32).toInt ≤ (-1) by decide) (by decide) (by decide)
      try unfold fCv_choose_84
      refine tt_kv (P := fun z => ((0 : Int) ≤ z.toInt ∧ z.toInt ≤ 207) ∧ z = (v5 + (-1)) ∧ z.toInt = v5.toInt + (-1)) ⟨iv_add i9 (show ((-1) : Int) ≤ ((-1) : Int32).toInt ∧ ((-1) : Int32).toInt ≤ (-1) by decide) (by decide) (by decide) (by decide) (by decide), rfl, iq_add i9 (show ((-1) : Int) ≤ ((-1) : Int32).toInt ∧ ((-1) : Int32).toInt ≤ (-1) by decide) (by decide) (by decide)⟩ (fun x15 qi16 => ?_)
      obtain ⟨i16, ax15, ei16⟩ := qi16
      have p17 : Tkd x15.toInt (((o1.1 0).toInt + 1) + (o1.1 2).toInt) (o0.2.1 6) (o0.2.2 5) := by exact Tkd_n (j := v5.toNatClampNeg) x_2 (by rw [tn_n]; omega) ax10 (by omega) (by omega)
      exact H.1 _ _ _ _ _ _ k_o0 r_o0 k_o1 r_o1 k_o2 r_o2 k_o3 r_o3 i_v4 (iv_w (a := 0) (b := 208) (by decide) (by decide) i16) f_o0_1 f_o2_0 x_0 x_1 p17 (show 1 ≤ (o2.1 0).toInt by omega) (show (o2.1 3).toInt ≤ (o2.1 4).toInt by omega) (show x15.toInt < 1 + (o1.1 0).toInt + (o1.1 2).toInt by omega) (show (o1.1 0).toInt ≤ x15.toInt by omega) (show 418 + (x15.toInt - 0) * 2 < (n : Int) by omega)
    · have wc13 : ¬ x10.toInt = ((-1) : Int) := c_ne c13
      refine tt_if (fun c18 => ?_) (fun c18 => ?_)
      · have wc18 : v4.toInt = (0 : Int) := c_eq c18
        have i19 : (0 : Int) ≤ v4.toInt ∧ v4.toInt ≤ 0 := nr_eql c18 i_v4 (show (0 : Int) ≤ (0 : Int32).toInt ∧ (0 : Int32).toInt ≤ 0 by decide) (by decide) (by decide)
        have p20 : Brw v5.toInt (o2.1 3).toInt (o2.2.1 2) (o2.2.1 1) (o2.2.2 4) := by exact (Brw_i x_0 (by omega) (by omega) (by omega) (by omega) (by omega))
        refine tt_b (sCu_bestOf _ _ k_o2 i9 f_o2_0 p20 (show (o2.1 3).toInt ≤ (o2.1 4).toInt by omega)) (fun q21 hq21 => ?_)
        obtain ⟨zq21_0, zq21_1, -⟩ := hq21
        try unfold fCv_choose_62
        refine tt_n (ix_ok i9 (by decide) (by decide)) ?_
        refine tt_ko ?_
        have k22 := ok_yp (k := 5) (i := v5.toNatClampNeg) (v := q21) k_o0
        have r23 := fr_yp (k := 5) (i := v5.toNatClampNeg) (v := q21) r_o0 rfl
        refine tt_n (ix_ok i9 (by decide) (by decide)) ?_
        refine tt_klr (fun x24 ax24 => ?_)
        refine tt_n (ix_ok i9 (by decide) (by decide)) ?_
        refine tt_kv (P := fun z => (((-2147483648) : Int) ≤ z.toInt ∧ z.toInt ≤ 2147483647) ∧ z = (o0.2.1 6 v5.toNatClampNeg) ∧ z.toInt = (o0.2.1 6 v5.toNatClampNeg).toInt) ⟨(k22.2 6 _), rfl, rfl⟩ (fun x25 qi26 => ?_)
        obtain ⟨i26, ax25, ei26⟩ := qi26
        have t27 := Tdm_or (g := v5) x_1 ax25 (by omega)
        refine tt_kv (P := fun z => (((-2147483648) : Int) ≤ z.toInt ∧ z.toInt ≤ 2147483647) ∧ z = (x25 - 1)) ⟨iv_top _, rfl⟩ (fun x28 qi29 => ?_)
        obtain ⟨i29, ax28⟩ := qi29
        refine tt_b (sCv_wantNodes _ _ _ _ k22 k_o1 f_o0_1) (fun q30 hq30 => ?_)
        obtain ⟨k_q30, n_q30, zq30_0, -⟩ := hq30
        have r_q30 := fr_tr r23 n_q30 rfl rfl rfl
        have f_q30_1 : (0 : Int) ≤ (q30.1 1).toInt ∧ (q30.1 1).toInt ≤ 2147483647 := by rw [n_q30.1 1 rfl]; exact f_o0_1
        have e_q30_0 : (q30.1 0).toInt = (o0.1 0).toInt := congrArg Int32.toInt (n_q30.1 0 rfl)
        have g_q30_0 : (0 : Int) ≤ (q30.1 0).toInt ∧ (q30.1 0).toInt ≤ 200 := k_q30.1 0
        have e_q30_1 : (q30.1 1).toInt = (o0.1 1).toInt := congrArg Int32.toInt (n_q30.1 1 rfl)
        have e_q30_2 : (q30.1 2).toInt = (o0.1 2).toInt := congrArg Int32.toInt (n_q30.1 2 rfl)
        have g_q30_2 : (0 : Int) ≤ (q30.1 2).toInt ∧ (q30.1 2).toInt ≤ 0 := k_q30.1 2
        have e_q30_3 : (q30.1 3).toInt = (o0.1 3).toInt := congrArg Int32.toInt (n_q30.1 3 rfl)
        have g_q30_3 : (0 : Int) ≤ (q30.1 3).toInt ∧ (q30.1 3).toInt ≤ 0 := k_q30.1 3
        have e_q30_4 : (q30.1 4).toInt = (o0.1 4).toInt := congrArg Int32.toInt (n_q30.1 4 rfl)
        have g_q30_4 : (0 : Int) ≤ (q30.1 4).toInt ∧ (q30.1 4).toInt ≤ 0 := k_q30.1 4
        try unfold fCv_choose_84
        refine tt_kv (P := fun z => ((0 : Int) ≤ z.toInt ∧ z.toInt ≤ 207) ∧ z = (v5 + (-1)) ∧ z.toInt = v5.toInt + (-1)) ⟨iv_add i9 (show ((-1) : Int) ≤ ((-1) : Int32).toInt ∧ ((-1) : Int32).toInt ≤ (-1) by decide) (by decide) (by decide) (by decide) (by decide), rfl, iq_add i9 (show ((-1) : Int) ≤ ((-1) : Int32).toInt ∧ ((-1) : Int32).toInt ≤ (-1) by decide) (by decide) (by decide)⟩ (fun x31 qi32 => ?_)
        obtain ⟨i32, ax31, ei32⟩ := qi32
        have p33 : Tdm (o2.2.1 1) (q30.2.1 6) := by exact (Cho_s (g2 := x31.toInt) (T := (o0.2.1 6 v5.toNatClampNeg).toInt) (i := v5.toNatClampNeg) x_1 x_2 (by (first | exact Ctg_w (show Cgg _ _ _ by assumption) (show (o2.2.1 1 v5.toNatClampNeg).toInt ≤ _ by omega) | exact (show Ctg _ _ _ _ by assumption))) (by rw [tn_n]; omega) (show _ = vp_updL _ _ _ _ by assumption) (show Wnp _ _ _ _ by assumption) (congrArg Int32.toInt ax25.symm) (show _ = _ - (1 : Int32) by assumption) rfl (by omega) (by omega) (by omega)).1
        have p34 : Tkd x31.toInt (((o1.1 0).toInt + 1) + (o1.1 2).toInt) (q30.2.1 6) (q30.2.2 5) := by rw [n_q30.2.2 5 rfl]; exact (Cho_s (g2 := x31.toInt) (T := (o0.2.1 6 v5.toNatClampNeg).toInt) (i := v5.toNatClampNeg) x_1 x_2 (by (first | exact Ctg_w (show Cgg _ _ _ by assumption) (show (o2.2.1 1 v5.toNatClampNeg).toInt ≤ _ by omega) | exact (show Ctg _ _ _ _ by assumption))) (by rw [tn_n]; omega) (show _ = vp_updL _ _ _ _ by assumption) (show Wnp _ _ _ _ by assumption) (congrArg Int32.toInt ax25.symm) (show _ = _ - (1 : Int32) by assumption) rfl (by omega) (by omega) (by omega)).2
        exact H.1 _ _ _ _ _ _ k_q30 r_q30 k_o1 r_o1 k_o2 r_o2 k_o3 r_o3 (iv_w (a := 0) (b := 1) (by decide) (by decide) i19) (iv_w (a := 0) (b := 208) (by decide) (by decide) i32) f_q30_1 f_o2_0 x_0 p33 p34 (show 1 ≤ (o2.1 0).toInt by omega) (show (o2.1 3).toInt ≤ (o2.1 4).toInt by omega) (show x31.toInt < 1 + (o1.1 0).toInt + (o1.1 2).toInt by omega) (show (o1.1 0).toInt ≤ x31.toInt by omega) (show 418 + (x31.toInt - 0) * 2 < (n : Int) by omega)
      · have wc18 : ¬ v4.toInt = (0 : Int) := c_ne c18
        have i35 : (1 : Int) ≤ v4.toInt ∧ v4.toInt ≤ 1 := nr_nela c18 i_v4 (show (0 : Int) ≤ (0 : Int32).toInt ∧ (0 : Int32).toInt ≤ 0 by decide) (by decide) (by decide)
        have p36 : Brw v5.toInt (o2.1 3).toInt (o2.2.1 2) (o2.2.1 1) (o2.2.2 4) := by exact (Brw_i x_0 (by omega) (by omega) (by omega) (by omega) (by omega))
        have t37 : ((-2147483648) : Int) ≤ (o2.2.1 1 v5.toNatClampNeg).toInt ∧ (o2.2.1 1 v5.toNatClampNeg).toInt ≤ 2147483647 := k_o2.2 1 _
        have t38 : ((-2147483648) : Int) ≤ (o0.2.1 6 v5.toNatClampNeg).toInt ∧ (o0.2.1 6 v5.toNatClampNeg).toInt ≤ 2147483647 := k_o0.2 6 _
        refine tt_b (sCv_fewest _ _ _ _ k_o0 k_o1 k_o2 i9 f_o0_1 f_o2_0 p36 (show (o2.1 3).toInt ≤ (o2.1 4).toInt by omega) (show (o2.2.1 1 v5.toNatClampNeg).toInt ≤ (o0.2.1 6 v5.toNatClampNeg).toInt by omega)) (fun q39 hq39 => ?_)
        obtain ⟨zq39_0, -⟩ := hq39
        try unfold fCv_choose_62
        refine tt_n (ix_ok i9 (by decide) (by decide)) ?_
        refine tt_ko ?_
        have k40 := ok_yp (k := 5) (i := v5.toNatClampNeg) (v := q39) k_o0
        have r41 := fr_yp (k := 5) (i := v5.toNatClampNeg) (v := q39) r_o0 rfl
        refine tt_n (ix_ok i9 (by decide) (by decide)) ?_
        refine tt_klr (fun x42 ax42 => ?_)
        refine tt_n (ix_ok i9 (by decide) (by decide)) ?_
        refine tt_kv (P := fun z => (((-2147483648) : Int) ≤ z.toInt ∧ z.toInt ≤ 2147483647) ∧ z = (o0.2.1 6 v5.toNatClampNeg) ∧ z.toInt = (o0.2.1 6 v5.toNatClampNeg).toInt) ⟨(k40.2 6 _), rfl, rfl⟩ (fun x43 qi44 => ?_)
        obtain ⟨i44, ax43, ei44⟩ := qi44
        have t45 := Tdm_or (g := v5) x_1 ax43 (by omega)
        refine tt_kv (P := fun z => (((-2147483648) : Int) ≤ z.toInt ∧ z.toInt ≤ 2147483647) ∧ z = (x43 - 1)) ⟨iv_top _, rfl⟩ (fun x46 qi47 => ?_)
        obtain ⟨i47, ax46⟩ := qi47
        refine tt_b (sCv_wantNodes _ _ _ _ k40 k_o1 f_o0_1) (fun q48 hq48 => ?_)
        obtain ⟨k_q48, n_q48, zq48_0, -⟩ := hq48
        have r_q48 := fr_tr r41 n_q48 rfl rfl rfl
        have f_q48_1 : (0 : Int) ≤ (q48.1 1).toInt ∧ (q48.1 1).toInt ≤ 2147483647 := by rw [n_q48.1 1 rfl]; exact f_o0_1
        have e_q48_0 : (q48.1 0).toInt = (o0.1 0).toInt := congrArg Int32.toInt (n_q48.1 0 rfl)
        have g_q48_0 : (0 : Int) ≤ (q48.1 0).toInt ∧ (q48.1 0).toInt ≤ 200 := k_q48.1 0
        have e_q48_1 : (q48.1 1).toInt = (o0.1 1).toInt := congrArg Int32.toInt (n_q48.1 1 rfl)
        have e_q48_2 : (q48.1 2).toInt = (o0.1 2).toInt := congrArg Int32.toInt (n_q48.1 2 rfl)
        have g_q48_2 : (0 : Int) ≤ (q48.1 2).toInt ∧ (q48.1 2).toInt ≤ 0 := k_q48.1 2
        have e_q48_3 : (q48.1 3).toInt = (o0.1 3).toInt := congrArg Int32.toInt (n_q48.1 3 rfl)
        have g_q48_3 : (0 : Int) ≤ (q48.1 3).toInt ∧ (q48.1 3).toInt ≤ 0 := k_q48.1 3
        have e_q48_4 : (q48.1 4).toInt = (o0.1 4).toInt := congrArg Int32.toInt (n_q48.1 4 rfl)
        have g_q48_4 : (0 : Int) ≤ (q48.1 4).toInt ∧ (q48.1 4).toInt ≤ 0 := k_q48.1 4
        try unfold fCv_choose_84
        refine tt_kv (P := fun z => ((0 : Int) ≤ z.toInt ∧ z.toInt ≤ 207) ∧ z = (v5 + (-1)) ∧ z.toInt = v5.toInt + (-1)) ⟨iv_add i9 (show ((-1) : Int) ≤ ((-1) : Int32).toInt ∧ ((-1) : Int32).toInt ≤ (-1) by decide) (by decide) (by decide) (by decide) (by decide), rfl, iq_add i9 (show ((-1) : Int) ≤ ((-1) : Int32).toInt ∧ ((-1) : Int32).toInt ≤ (-1) by decide) (by decide) (by decide)⟩ (fun x49 qi50 => ?_)
        obtain ⟨i50, ax49, ei50⟩ := qi50
        have p51 : Tdm (o2.2.1 1) (q48.2.1 6) := by exact (Cho_s (g2 := x49.toInt) (T := (o0.2.1 6 v5.toNatClampNeg).toInt) (i := v5.toNatClampNeg) x_1 x_2 (by (first | exact Ctg_w (show Cgg _ _ _ by assumption) (show (o2.2.1 1 v5.toNatClampNeg).toInt ≤ _ by omega) | exact (show Ctg _ _ _ _ by assumption))) (by rw [tn_n]; omega) (show _ = vp_updL _ _ _ _ by assumption) (show Wnp _ _ _ _ by assumption) (congrArg Int32.toInt ax43.symm) (show _ = _ - (1 : Int32) by assumption) rfl (by omega) (by omega) (by omega)).1
        have p52 : Tkd x49.toInt (((o1.1 0).toInt + 1) + (o1.1 2).toInt) (q48.2.1 6) (q48.2.2 5) := by rw [n_q48.2.2 5 rfl]; exact (Cho_s (g2 := x49.toInt) (T := (o0.2.1 6 v5.toNatClampNeg).toInt) (i := v5.toNatClampNeg) x_1 x_2 (by (first | exact Ctg_w (show Cgg _ _ _ by assumption) (show (o2.2.1 1 v5.toNatClampNeg).toInt ≤ _ by omega) | exact (show Ctg _ _ _ _ by assumption))) (by rw [tn_n]; omega) (show _ = vp_updL _ _ _ _ by assumption) (show Wnp _ _ _ _ by assumption) (congrArg Int32.toInt ax43.symm) (show _ = _ - (1 : Int32) by assumption) rfl (by omega) (by omega) (by omega)).2
        exact H.1 _ _ _ _ _ _ k_q48 r_q48 k_o1 r_o1 k_o2 r_o2 k_o3 r_o3 (iv_w (a := 0) (b := 1) (by decide) (by decide) i35) (iv_w (a := 0) (b := 208) (by decide) (by decide) i50) f_q48_1 f_o2_0 x_0 p51 p52 (show 1 ≤ (o2.1 0).toInt by omega) (show (o2.1 3).toInt ≤ (o2.1 4).toInt by omega) (show x49.toInt < 1 + (o1.1 0).toInt + (o1.1 2).toInt by omega) (show (o1.1 0).toInt ≤ x49.toInt by omega) (show 418 + (x49.toInt - 0) * 2 < (n : Int) by omega)
set_option maxHeartbeats 4000000 in
set_option maxRecDepth 100000 in
theorem hCv_choose (yv4 : Int32) (yo0 : cf_O) (yo1 : cf_O) (yo2 : cf_O) (yo3 : cf_O) : ∀ n, HCv_choose yv4 yo0 yo1 yo2 yo3 n := by
  intro n
  induction n with
  | zero => exact ⟨(fun v4 v5 o0 o1 o2 o3 k_o0 r_o0 k_o1 r_o1 k_o2 r_o2 k_o3 r_o3 i_v4 i_v5 f_o0_1 f_o2_0 x_0 x_1 x_2 x_3 x_4 x_5 x_6 hm => by exact absurd (show 418 + (v5.toInt - 0) * 2 < (0 : Int) from hm) (by omega)), (fun v5 o0 o1 o2 o3 k_o0 r_o0 k_o1 r_o1 k_o2 r_o2 k_o3 r_o3 i_v5 f_o0_1 f_o2_0 x_0 x_1 x_2 x_3 x_4 x_5 hm => by exact absurd (show 0 + (209 - v5.toInt) * 2 < (0 : Int) from hm) (by omega))⟩
  | succ n ih => exact ⟨(fun v4 v5 o0 o1 o2 o3 k_o0 r_o0 k_o1 r_o1 k_o2 r_o2 k_o3 r_o3 i_v4 i_v5 f_o0_1 f_o2_0 x_0 x_1 x_2 x_3 x_4 x_5 x_6 hm => tCv_choose_14 ih v4 v5 o0 o1 o2 o3 k_o0 r_o0 k_o1 r_o1 k_o2 r_o2 k_o3 r_o3 i_v4 i_v5 f_o0_1 f_o2_0 x_0 x_1 x_2 x_3 x_4 x_5 x_6 (by omega)), (fun v5 o0 o1 o2 o3 k_o0 r_o0 k_o1 r_o1 k_o2 r_o2 k_o3 r_o3 i_v5 f_o0_1 f_o2_0 x_0 x_1 x_2 x_3 x_4 x_5 hm => tCv_choose_103 ih v5 o0 o1 o2 o3 k_o0 r_o0 k_o1 r_o1 k_o2 r_o2 k_o3 r_o3 i_v5 f_o0_1 f_o2_0 x_0 x_1 x_2 x_3 x_4 x_5 (by omega))⟩
set_option maxHeartbeats 4000000 in
set_option maxRecDepth 100000 in
theorem sCv_choose (v4 : Int32) (o0 : cf_O) (o1 : cf_O) (o2 : cf_O) (o3 : cf_O) (k_o0 : okO I_Cv o0) (k_o1 : okO I_Gr o1) (k_o2 : okO I_Cu o2) (k_o3 : okO I_Co o3) (i_v4 : (0 : Int) ≤ v4.toInt ∧ v4.toInt ≤ 1) (f_o2_0 : (0 : Int) ≤ (o2.1 0).toInt ∧ (o2.1 0).toInt ≤ 5) (x_0 : Fqr (o2.1 0).toInt (o1.1 0).toInt (((o1.1 0).toInt + 1) + (o1.1 2).toInt) (o2.1 3).toInt (o2.2.1 2) (o2.2.1 1) (o2.2.2 4)) (x_1 : 1 ≤ (o2.1 0).toInt) (x_2 : (o2.1 3).toInt ≤ (o2.1 4).toInt) : tt (fCv_choose v4 o0 o1 o2 o3) (QCv_choose v4 o0 o1 o2 o3) := by
  have H := hCv_choose v4 o0 o1 o2 o3 cfFU
  have hm : (837 : Int) ≤ (cfFU : Nat) := by decide
  have r_o0 : Fr (fr_M [0, 1] [2, 3, 4, 6] [5]) o0 o0 := fr_rfl
  have r_o1 : Fr (fr_M [] [] []) o1 o1 := fr_rfl
  have r_o2 : Fr (fr_M [] [] []) o2 o2 := fr_rfl
  have r_o3 : Fr (fr_M [0, 1] [2, 3, 4] []) o3 o3 := fr_rfl
  unfold fCv_choose fCv_choose_0
  have g_o0_0 : (0 : Int) ≤ (o0.1 0).toInt ∧ (o0.1 0).toInt ≤ 200 := k_o0.1 0
  have g_o0_1 : ((-2147483648) : Int) ≤ (o0.1 1).toInt ∧ (o0.1 1).toInt ≤ 2147483647 := k_o0.1 1
  have g_o0_2 : (0 : Int) ≤ (o0.1 2).toInt ∧ (o0.1 2).toInt ≤ 0 := k_o0.1 2
  have g_o0_3 : (0 : Int) ≤ (o0.1 3).toInt ∧ (o0.1 3).toInt ≤ 0 := k_o0.1 3
  have g_o0_4 : (0 : Int) ≤ (o0.1 4).toInt ∧ (o0.1 4).toInt ≤ 0 := k_o0.1 4
  have g_o1_0 : (0 : Int) ≤ (o1.1 0).toInt ∧ (o1.1 0).toInt ≤ 8 := k_o1.1 0
  have g_o1_1 : (0 : Int) ≤ (o1.1 1).toInt ∧ (o1.1 1).toInt ≤ 6 := k_o1.1 1
  have g_o1_2 : (0 : Int) ≤ (o1.1 2).toInt ∧ (o1.1 2).toInt ≤ 200 := k_o1.1 2
  have g_o1_3 : (0 : Int) ≤ (o1.1 3).toInt ∧ (o1.1 3).toInt ≤ 1 := k_o1.1 3
  have g_o1_4 : (0 : Int) ≤ (o1.1 4).toInt ∧ (o1.1 4).toInt ≤ 0 := k_o1.1 4
  have g_o2_1 : (0 : Int) ≤ (o2.1 1).toInt ∧ (o2.1 1).toInt ≤ 0 := k_o2.1 1
  have g_o2_2 : (0 : Int) ≤ (o2.1 2).toInt ∧ (o2.1 2).toInt ≤ 0 := k_o2.1 2
  have g_o2_3 : (0 : Int) ≤ (o2.1 3).toInt ∧ (o2.1 3).toInt ≤ 62909 := k_o2.1 3
  have g_o2_4 : (1024 : Int) ≤ (o2.1 4).toInt ∧ (o2.1 4).toInt ≤ 131072 := k_o2.1 4
  have g_o3_0 : (0 : Int) ≤ (o3.1 0).toInt ∧ (o3.1 0).toInt ≤ 5 := k_o3.1 0
  have g_o3_1 : ((-2147483648) : Int) ≤ (o3.1 1).toInt ∧ (o3.1 1).toInt ≤ 2147483647 := k_o3.1 1
  have g_o3_2 : (0 : Int) ≤ (o3.1 2).toInt ∧ (o3.1 2).toInt ≤ 0 := k_o3.1 2
  have g_o3_3 : (0 : Int) ≤ (o3.1 3).toInt ∧ (o3.1 3).toInt ≤ 0 := k_o3.1 3
  have g_o3_4 : (0 : Int) ≤ (o3.1 4).toInt ∧ (o3.1 4).toInt ≤ 0 := k_o3.1 4
  refine tt_b (sCv_wantOutputs _ _ _ k_o0 k_o1 k_o2 f_o2_0) (fun q1 hq1 => ?_)
  obtain ⟨k_q1, n_q1, f_q1_1, zq1_0, -⟩ := hq1
  have r_q1 := fr_tr r_o0 n_q1 rfl rfl rfl
  have e_q1_0 : (q1.1 0).toInt = (o0.1 0).toInt := congrArg Int32.toInt (n_q1.1 0 rfl)
  have g_q1_0 : (0 : Int) ≤ (q1.1 0).toInt ∧ (q1.1 0).toInt ≤ 200 := k_q1.1 0
  have e_q1_2 : (q1.1 2).toInt = (o0.1 2).toInt := congrArg Int32.toInt (n_q1.1 2 rfl)
  have g_q1_2 : (0 : Int) ≤ (q1.1 2).toInt ∧ (q1.1 2).toInt ≤ 0 := k_q1.1 2
  have e_q1_3 : (q1.1 3).toInt = (o0.1 3).toInt := congrArg Int32.toInt (n_q1.1 3 rfl)
  have g_q1_3 : (0 : Int) ≤ (q1.1 3).toInt ∧ (q1.1 3).toInt ≤ 0 := k_q1.1 3
  have e_q1_4 : (q1.1 4).toInt = (o0.1 4).toInt := congrArg Int32.toInt (n_q1.1 4 rfl)
  have g_q1_4 : (0 : Int) ≤ (q1.1 4).toInt ∧ (q1.1 4).toInt ≤ 0 := k_q1.1 4
  try unfold fGr_size
  try unfold fGr_size_0
  refine tt_bkv (P := fun z => ((1 : Int) ≤ z.toInt ∧ z.toInt ≤ 9) ∧ z = (1 + (o1.1 0)) ∧ z.toInt = 1 + (o1.1 0).toInt) ⟨iv_add (show (1 : Int) ≤ (1 : Int32).toInt ∧ (1 : Int32).toInt ≤ 1 by decide) (k_o1.1 0) (by decide) (by decide) (by decide) (by decide), rfl, iq_add (show (1 : Int) ≤ (1 : Int32).toInt ∧ (1 : Int32).toInt ≤ 1 by decide) (k_o1.1 0) (by decide) (by decide)⟩ (fun x2 qi3 => ?_)
  obtain ⟨i3, ax2, ei3⟩ := qi3
  refine tt_bkv (P := fun z => ((1 : Int) ≤ z.toInt ∧ z.toInt ≤ 209) ∧ z = (x2 + (o1.1 2)) ∧ z.toInt = x2.toInt + (o1.1 2).toInt) ⟨iv_add i3 (k_o1.1 2) (by decide) (by decide) (by decide) (by decide), rfl, iq_add i3 (k_o1.1 2) (by decide) (by decide)⟩ (fun x4 qi5 => ?_)
  obtain ⟨i5, ax4, ei5⟩ := qi5
  refine tt_bs ?_
  refine tt_kv (P := fun z => ((0 : Int) ≤ z.toInt ∧ z.toInt ≤ 208) ∧ z = (x4 - 1) ∧ z.toInt = x4.toInt - 1) ⟨iv_sub i5 (show (1 : Int) ≤ (1 : Int32).toInt ∧ (1 : Int32).toInt ≤ 1 by decide) (by decide) (by decide) (by decide) (by decide), rfl, iq_sub i5 (show (1 : Int) ≤ (1 : Int32).toInt ∧ (1 : Int32).toInt ≤ 1 by decide) (by decide) (by decide)⟩ (fun x6 qi7 => ?_)
  obtain ⟨i7, ax6, ei7⟩ := qi7
  have p8 : Tkd x6.toInt (((o1.1 0).toInt + 1) + (o1.1 2).toInt) (q1.2.1 6) (q1.2.2 5) := by exact Tkd_0 (by omega)
  exact H.1 _ _ _ _ _ _ k_q1 r_q1 k_o1 r_o1 k_o2 r_o2 k_o3 r_o3 i_v4 i7 f_q1_1 f_o2_0 x_0 zq1_0 p8 (show 1 ≤ (o2.1 0).toInt by omega) (show (o2.1 3).toInt ≤ (o2.1 4).toInt by omega) (show x6.toInt < 1 + (o1.1 0).toInt + (o1.1 2).toInt by omega) (show (o1.1 0).toInt ≤ x6.toInt by omega) (show 418 + (x6.toInt - 0) * 2 < ((cfFU : Nat) : Int) by omega)
def QJArraysSupport_newLength_III (v0 : Int32) (v1 : Int32) (v2 : Int32) (r : (Int32)) : Prop := ((34 : Int) ≤ r.toInt ∧ r.toInt ≤ 800002) ∧ (r.toInt = v0.toInt + max v1.toInt v2.toInt) ∧ True
set_option maxHeartbeats 4000000 in
set_option maxRecDepth 100000 in
theorem sJArraysSupport_newLength_III (v0 : Int32) (v1 : Int32) (v2 : Int32) (i_v0 : (16 : Int) ≤ v0.toInt ∧ v0.toInt ≤ 400000) (i_v1 : ((-400000) : Int) ≤ v1.toInt ∧ v1.toInt ≤ 89994) (i_v2 : (18 : Int) ≤ v2.toInt ∧ v2.toInt ≤ 400002) : tt (fJArraysSupport_newLength_III v0 v1 v2) (QJArraysSupport_newLength_III v0 v1 v2) := by
  unfold fJArraysSupport_newLength_III fJArraysSupport_newLength_III_0
  refine tt_kv (P := fun z => ((18 : Int) ≤ z.toInt ∧ z.toInt ≤ 400002) ∧ z.toInt = max v1.toInt v2.toInt) ⟨iv_mx i_v1 i_v2 (by decide) (by decide) (by decide) (by decide), i_mx _ _⟩ (fun x1 qi2 => ?_)
  obtain ⟨i2, ei2⟩ := qi2
  refine tt_kv (P := fun z => ((34 : Int) ≤ z.toInt ∧ z.toInt ≤ 800002) ∧ z.toInt = v0.toInt + x1.toInt) ⟨iv_add i_v0 i2 (by decide) (by decide) (by decide) (by decide), iq_add i_v0 i2 (by decide) (by decide)⟩ (fun x3 qi4 => ?_)
  obtain ⟨i4, ei4⟩ := qi4
  refine tt_if (fun c5 => ?_) (fun c5 => ?_)
  · have wc5 : x3.toInt ≤ (0 : Int) := c_le c5
    exact (dd_le c5 i4 (show (0 : Int) ≤ (0 : Int32).toInt ∧ (0 : Int32).toInt ≤ 0 by decide) (by decide)).elim
  · have wc5 : (0 : Int) < x3.toInt := c_nle c5
    refine tt_if (fun c6 => ?_) (fun c6 => ?_)
    · have wc6 : (2147483639 : Int) < x3.toInt := c_lt c6
      exact (dd_lt c6 (show (2147483639 : Int) ≤ (2147483639 : Int32).toInt ∧ (2147483639 : Int32).toInt ≤ 2147483639 by decide) i4 (by decide)).elim
    · have wc6 : x3.toInt ≤ (2147483639 : Int) := c_nlt c6
      exact tt_some ⟨i4, (show x3.toInt = v0.toInt + max v1.toInt v2.toInt by omega), trivial⟩
def QAS_newCapacity (v1 : Int32) (o0 : cf_O) (r : (Int32)) : Prop := ((34 : Int) ≤ r.toInt ∧ r.toInt ≤ 800002) ∧ (r.toInt = (o0.1 0).toInt + max (v1.toInt - (o0.1 0).toInt) ((o0.1 0).toInt + 2)) ∧ True
set_option maxHeartbeats 4000000 in
set_option maxRecDepth 100000 in
theorem sAS_newCapacity (v1 : Int32) (o0 : cf_O) (k_o0 : okO I_SB o0) (i_v1 : (0 : Int) ≤ v1.toInt ∧ v1.toInt ≤ 90010) : tt (fAS_newCapacity v1 o0) (QAS_newCapacity v1 o0) := by
  have r_o0 : Fr (fr_M [] [] []) o0 o0 := fr_rfl
  unfold fAS_newCapacity fAS_newCapacity_0
  have g_o0_0 : (16 : Int) ≤ (o0.1 0).toInt ∧ (o0.1 0).toInt ≤ 400000 := k_o0.1 0
  have g_o0_1 : (0 : Int) ≤ (o0.1 1).toInt ∧ (o0.1 1).toInt ≤ 0 := k_o0.1 1
  refine tt_n (nz_ok (Int.le_trans (by decide) (k_o0.1 0).1)) ?_
  refine tt_kv (P := fun z => ((16 : Int) ≤ z.toInt ∧ z.toInt ≤ 400000) ∧ z.toInt = (o0.1 0).toInt) ⟨(k_o0.1 0), rfl⟩ (fun x1 qi2 => ?_)
  obtain ⟨i2, ei2⟩ := qi2
  refine tt_kv (P := fun z => ((0 : Int) ≤ z.toInt ∧ z.toInt ≤ 90010) ∧ z.toInt = v1.toInt) ⟨iv_shl (p := 0) (q := 0) i_v1 (k_o0.1 1) (by decide) (by decide) (by decide) (by decide) (by decide), sh0l (k_o0.1 1)⟩ (fun x3 qi4 => ?_)
  obtain ⟨i4, ei4⟩ := qi4
  refine tt_kv (P := fun z => (((-400000) : Int) ≤ z.toInt ∧ z.toInt ≤ 89994) ∧ z.toInt = x3.toInt - x1.toInt) ⟨iv_sub i4 i2 (by decide) (by decide) (by decide) (by decide), iq_sub i4 i2 (by decide) (by decide)⟩ (fun x5 qi6 => ?_)
  obtain ⟨i6, ei6⟩ := qi6
  refine tt_kv (P := fun z => ((2 : Int) ≤ z.toInt ∧ z.toInt ≤ 2) ∧ z.toInt = 2) ⟨iv_shl (p := 0) (q := 0) (show (2 : Int) ≤ (2 : Int32).toInt ∧ (2 : Int32).toInt ≤ 2 by decide) (k_o0.1 1) (by decide) (by decide) (by decide) (by decide) (by decide), sh0l (k_o0.1 1)⟩ (fun x7 qi8 => ?_)
  obtain ⟨i8, ei8⟩ := qi8
  refine tt_kv (P := fun z => ((18 : Int) ≤ z.toInt ∧ z.toInt ≤ 400002) ∧ z.toInt = x1.toInt + x7.toInt) ⟨iv_add i2 i8 (by decide) (by decide) (by decide) (by decide), iq_add i2 i8 (by decide) (by decide)⟩ (fun x9 qi10 => ?_)
  obtain ⟨i10, ei10⟩ := qi10
  refine tt_b (sJArraysSupport_newLength_III _ _ _ i2 i6 i10) (fun q11 hq11 => ?_)
  obtain ⟨i_q11, zq11_0, -⟩ := hq11
  have zq11_0 : q11.toInt = x1.toInt + max x5.toInt x9.toInt := zq11_0
  refine tt_n (ne_k i_q11 (by decide)) ?_
  refine tt_kv (P := fun z => ((34 : Int) ≤ z.toInt ∧ z.toInt ≤ 800002) ∧ z.toInt = q11.toInt) ⟨iv_shr (p := 0) (q := 0) i_q11 (k_o0.1 1) (by decide) (by decide) (by decide) (by decide), sh0r (k_o0.1 1)⟩ (fun x12 qi13 => ?_)
  obtain ⟨i13, ei13⟩ := qi13
  exact tt_some ⟨i13, (show x12.toInt = (o0.1 0).toInt + max (v1.toInt - (o0.1 0).toInt) ((o0.1 0).toInt + 2) by omega), trivial⟩
def QAS_ensureCapacityInternal (v1 : Int32) (o0 : cf_O) (r : (cf_O)) : Prop := (okO I_SB r) ∧ (Fr (fr_M [0] [0] []) o0 r) ∧ (v1.toInt ≤ (r.1 0).toInt) ∧ ((o0.1 0).toInt ≤ (r.1 0).toInt) ∧ ((r.1 0).toInt ≤ (o0.1 0).toInt ∨ (r.1 0).toInt ≤ 180022) ∧ True
set_option maxHeartbeats 4000000 in
set_option maxRecDepth 100000 in
theorem sAS_ensureCapacityInternal (v1 : Int32) (o0 : cf_O) (k_o0 : okO I_SB o0) (i_v1 : (0 : Int) ≤ v1.toInt ∧ v1.toInt ≤ 90010) : tt (fAS_ensureCapacityInternal v1 o0) (QAS_ensureCapacityInternal v1 o0) := by
  have r_o0 : Fr (fr_M [0] [0] []) o0 o0 := fr_rfl
  unfold fAS_ensureCapacityInternal fAS_ensureCapacityInternal_0
  have g_o0_0 : (16 : Int) ≤ (o0.1 0).toInt ∧ (o0.1 0).toInt ≤ 400000 := k_o0.1 0
  have g_o0_1 : (0 : Int) ≤ (o0.1 1).toInt ∧ (o0.1 1).toInt ≤ 0 := k_o0.1 1
  have g_o0_3 : (0 : Int) ≤ (o0.1 3).toInt ∧ (o0.1 3).toInt ≤ 90000 := k_o0.1 3
  refine tt_n (nz_ok (Int.le_trans (by decide) (k_o0.1 0).1)) ?_
  refine tt_kv (P := fun z => ((16 : Int) ≤ z.toInt ∧ z.toInt ≤ 400000) ∧ z.toInt = (o0.1 0).toInt) ⟨(k_o0.1 0), rfl⟩ (fun x1 qi2 => ?_)
  obtain ⟨i2, ei2⟩ := qi2
  refine tt_kv (P := fun z => ((16 : Int) ≤ z.toInt ∧ z.toInt ≤ 400000) ∧ z.toInt = x1.toInt) ⟨iv_shr (p := 0) (q := 0) i2 (k_o0.1 1) (by decide) (by decide) (by decide) (by decide), sh0r (k_o0.1 1)⟩ (fun x3 qi4 => ?_)
  obtain ⟨i4, ei4⟩ := qi4
  refine tt_kv (P := fun z => (((-400000) : Int) ≤ z.toInt ∧ z.toInt ≤ 89994) ∧ z.toInt = v1.toInt - x3.toInt) ⟨iv_sub i_v1 i4 (by decide) (by decide) (by decide) (by decide), iq_sub i_v1 i4 (by decide) (by decide)⟩ (fun x5 qi6 => ?_)
  obtain ⟨i6, ei6⟩ := qi6
  refine tt_if (fun c7 => ?_) (fun c7 => ?_)
  · have wc7 : x5.toInt ≤ (0 : Int) := c_le c7
    have i8 : ((-400000) : Int) ≤ x5.toInt ∧ x5.toInt ≤ 0 := nr_lel c7 i6 (show (0 : Int) ≤ (0 : Int32).toInt ∧ (0 : Int32).toInt ≤ 0 by decide) (by decide) (by decide)
    try unfold fAS_ensureCapacityInternal_38
    exact tt_some ⟨k_o0, r_o0, (show v1.toInt ≤ (o0.1 0).toInt by omega), (show (o0.1 0).toInt ≤ (o0.1 0).toInt by omega), (show (o0.1 0).toInt ≤ (o0.1 0).toInt ∨ (o0.1 0).toInt ≤ 180022 by omega), trivial⟩
  · have wc7 : (0 : Int) < x5.toInt := c_nle c7
    have i9 : (1 : Int) ≤ x5.toInt ∧ x5.toInt ≤ 89994 := nr_nler c7 (show (0 : Int) ≤ (0 : Int32).toInt ∧ (0 : Int32).toInt ≤ 0 by decide) i6 (by decide) (by decide)
    refine tt_b (sAS_newCapacity _ _ k_o0 i_v1) (fun q10 hq10 => ?_)
    obtain ⟨i_q10, zq10_0, -⟩ := hq10
    have zq10_0 : q10.toInt = (o0.1 0).toInt + max (v1.toInt - (o0.1 0).toInt) ((o0.1 0).toInt + 2) := zq10_0
    try unfold fAS_ensureCapacityInternal_27
    refine tt_kv (P := fun z => ((34 : Int) ≤ z.toInt ∧ z.toInt ≤ 800002) ∧ z.toInt = q10.toInt) ⟨iv_shl (p := 0) (q := 0) i_q10 (k_o0.1 1) (by decide) (by decide) (by decide) (by decide) (by decide), sh0l (k_o0.1 1)⟩ (fun x11 qi12 => ?_)
    obtain ⟨i12, ei12⟩ := qi12
    refine tt_n (cp_okb (l := (o0.1 0)) (x := x11) (by omega) (by omega) (by omega) (by omega) (fun i => k_o0.2 0 i)) ?_
    refine tt_ko ?_
    have k13 := ok_gb (k := 0) (v := x11) k_o0 (show (16 : Int) ≤ _ ∧ _ ≤ (400000 : Int) by omega) ⟨by decide, by decide⟩
    have r14 := fr_gb (k := 0) (v := x11) r_o0 rfl rfl
    try unfold fAS_ensureCapacityInternal_38
    exact tt_some ⟨k13, r14, (show v1.toInt ≤ x11.toInt by omega), (show (o0.1 0).toInt ≤ x11.toInt by omega), (show x11.toInt ≤ (o0.1 0).toInt ∨ x11.toInt ≤ 180022 by omega), trivial⟩
def QAS_isLatin1 (o0 : cf_O) (r : (Int32)) : Prop := ((1 : Int) ≤ r.toInt ∧ r.toInt ≤ 1) ∧ True
set_option maxHeartbeats 4000000 in
set_option maxRecDepth 100000 in
theorem sAS_isLatin1 (o0 : cf_O) (k_o0 : okO I_SB o0) (f_o0_3 : (7 : Int) ≤ (o0.1 3).toInt ∧ (o0.1 3).toInt ≤ 90000) : tt (fAS_isLatin1 o0) (QAS_isLatin1 o0) := by
  have r_o0 : Fr (fr_M [] [] []) o0 o0 := fr_rfl
  unfold fAS_isLatin1 fAS_isLatin1_0
  refine tt_if (fun c1 => ?_) (fun c1 => ?_)
  · try unfold fAS_isLatin1_18
    refine tt_w (iv_b (show (1 : Int) ≤ (1 : Int32).toInt ∧ (1 : Int32).toInt ≤ 1 by decide) (by decide) (by decide)) ?_
    exact tt_some ⟨(show (1 : Int) ≤ (1 : Int32).toInt ∧ (1 : Int32).toInt ≤ 1 by decide), trivial⟩
  · exact (dd_ne c1 (k_o0.1 1) (show (0 : Int) ≤ (0 : Int32).toInt ∧ (0 : Int32).toInt ≤ 0 by decide)).elim
def QAS_setLength (v1 : Int32) (o0 : cf_O) (r : (cf_O)) : Prop := (okO I_SB r) ∧ (Fr (fr_M [0, 2, 3] [0] []) o0 r) ∧ ((0 : Int) ≤ (r.1 3).toInt ∧ (r.1 3).toInt ≤ 0) ∧ ((r.1 3).toInt = v1.toInt) ∧ ((r.1 3).toInt ≤ (r.1 0).toInt) ∧ True
set_option maxHeartbeats 4000000 in
set_option maxRecDepth 100000 in
theorem sAS_setLength (v1 : Int32) (o0 : cf_O) (k_o0 : okO I_SB o0) (i_v1 : (0 : Int) ≤ v1.toInt ∧ v1.toInt ≤ 0) (x_0 : (o0.1 3).toInt ≤ (o0.1 0).toInt) : tt (fAS_setLength v1 o0) (QAS_setLength v1 o0) := by
  have r_o0 : Fr (fr_M [0, 2, 3] [0] []) o0 o0 := fr_rfl
  unfold fAS_setLength fAS_setLength_0
  have g_o0_0 : (16 : Int) ≤ (o0.1 0).toInt ∧ (o0.1 0).toInt ≤ 400000 := k_o0.1 0
  have g_o0_1 : (0 : Int) ≤ (o0.1 1).toInt ∧ (o0.1 1).toInt ≤ 0 := k_o0.1 1
  have g_o0_3 : (0 : Int) ≤ (o0.1 3).toInt ∧ (o0.1 3).toInt ≤ 90000 := k_o0.1 3
  refine tt_if (fun c1 => ?_) (fun c1 => ?_)
  · have wc1 : (0 : Int) ≤ v1.toInt := c_le c1
    refine tt_b (sAS_ensureCapacityInternal _ _ k_o0 (iv_w (a := 0) (b := 90010) (by decide) (by decide) i_v1)) (fun q2 hq2 => ?_)
    obtain ⟨k_q2, n_q2, zq2_0, zq2_1, zq2_2, -⟩ := hq2
    have r_q2 := fr_tr r_o0 n_q2 rfl rfl rfl
    have g_q2_0 : (16 : Int) ≤ (q2.1 0).toInt ∧ (q2.1 0).toInt ≤ 400000 := k_q2.1 0
    have e_q2_1 : (q2.1 1).toInt = (o0.1 1).toInt := congrArg Int32.toInt (n_q2.1 1 rfl)
    have g_q2_1 : (0 : Int) ≤ (q2.1 1).toInt ∧ (q2.1 1).toInt ≤ 0 := k_q2.1 1
    have e_q2_3 : (q2.1 3).toInt = (o0.1 3).toInt := congrArg Int32.toInt (n_q2.1 3 rfl)
    have g_q2_3 : (0 : Int) ≤ (q2.1 3).toInt ∧ (q2.1 3).toInt ≤ 90000 := k_q2.1 3
    have zq2_0 : v1.toInt ≤ (q2.1 0).toInt := zq2_0
    have zq2_1 : (o0.1 0).toInt ≤ (q2.1 0).toInt := zq2_1
    have zq2_2 : (q2.1 0).toInt ≤ (o0.1 0).toInt ∨ (q2.1 0).toInt ≤ 180022 := zq2_2
    try unfold fAS_setLength_18
    refine tt_if (fun c3 => ?_) (fun c3 => ?_)
    · have wc3 : v1.toInt ≤ (q2.1 3).toInt := c_le c3
      refine tt_if (fun c4 => ?_) (fun c4 => ?_)
      · have wc4 : (q2.1 3).toInt ≤ v1.toInt := c_le c4
        have i5 : (0 : Int) ≤ (q2.1 3).toInt ∧ (q2.1 3).toInt ≤ 0 := nr_lel c4 (k_q2.1 3) i_v1 (by decide) (by decide)
        try unfold fAS_setLength_76
        refine tt_ko ?_
        have k6 := ok_fp (k := 3) (v := v1) k_q2 (iv_w (a := 0) (b := 90000) (by decide) (by decide) i_v1)
        have r7 := fr_fp (k := 3) (v := v1) r_q2 rfl
        exact tt_some ⟨k6, r7, i_v1, (show v1.toInt = v1.toInt by omega), (show v1.toInt ≤ (q2.1 0).toInt by omega), trivial⟩
      · have wc4 : v1.toInt < (q2.1 3).toInt := c_nle c4
        have i8 : (1 : Int) ≤ (q2.1 3).toInt ∧ (q2.1 3).toInt ≤ 90000 := nr_nler c4 i_v1 (k_q2.1 3) (by decide) (by decide)
        refine tt_ko ?_
        have k9 := ok_fp (k := 2) (v := 1) k_q2 (iv_w (a := 0) (b := 1) (by decide) (by decide) (show (1 : Int) ≤ (1 : Int32).toInt ∧ (1 : Int32).toInt ≤ 1 by decide))
        have r10 := fr_fp (k := 2) (v := 1) r_q2 rfl
        try unfold fAS_setLength_76
        refine tt_ko ?_
        have k11 := ok_fp (k := 3) (v := v1) k9 (iv_w (a := 0) (b := 90000) (by decide) (by decide) i_v1)
        have r12 := fr_fp (k := 3) (v := v1) r10 rfl
        exact tt_some ⟨k11, r12, i_v1, (show v1.toInt = v1.toInt by omega), (show v1.toInt ≤ (q2.1 0).toInt by omega), trivial⟩
    · have wc3 : (q2.1 3).toInt < v1.toInt := c_nle c3
      exact (dd_nle c3 (k_q2.1 3) i_v1 (by decide)).elim
  · have wc1 : v1.toInt < (0 : Int) := c_nle c1
    exact (dd_nle c1 i_v1 (show (0 : Int) ≤ (0 : Int32).toInt ∧ (0 : Int32).toInt ≤ 0 by decide) (by decide)).elim
def QSB_setLength (v1 : Int32) (o0 : cf_O) (r : (cf_O)) : Prop := (okO I_SB r) ∧ (Fr (fr_M [0, 2, 3] [0] []) o0 r) ∧ ((0 : Int) ≤ (r.1 3).toInt ∧ (r.1 3).toInt ≤ 0) ∧ ((r.1 3).toInt = v1.toInt) ∧ ((r.1 3).toInt ≤ (r.1 0).toInt) ∧ True
set_option maxHeartbeats 4000000 in
set_option maxRecDepth 100000 in
theorem sSB_setLength (v1 : Int32) (o0 : cf_O) (k_o0 : okO I_SB o0) (i_v1 : (0 : Int) ≤ v1.toInt ∧ v1.toInt ≤ 0) (x_0 : (o0.1 3).toInt ≤ (o0.1 0).toInt) : tt (fSB_setLength v1 o0) (QSB_setLength v1 o0) := by
  have r_o0 : Fr (fr_M [0, 2, 3] [0] []) o0 o0 := fr_rfl
  unfold fSB_setLength fSB_setLength_0
  have g_o0_0 : (16 : Int) ≤ (o0.1 0).toInt ∧ (o0.1 0).toInt ≤ 400000 := k_o0.1 0
  have g_o0_1 : (0 : Int) ≤ (o0.1 1).toInt ∧ (o0.1 1).toInt ≤ 0 := k_o0.1 1
  have g_o0_3 : (0 : Int) ≤ (o0.1 3).toInt ∧ (o0.1 3).toInt ≤ 90000 := k_o0.1 3
  refine tt_b (sAS_setLength _ _ k_o0 i_v1 (show (o0.1 3).toInt ≤ (o0.1 0).toInt by omega)) (fun q1 hq1 => ?_)
  obtain ⟨k_q1, n_q1, f_q1_3, zq1_0, zq1_1, -⟩ := hq1
  have r_q1 := fr_tr r_o0 n_q1 rfl rfl rfl
  have g_q1_0 : (16 : Int) ≤ (q1.1 0).toInt ∧ (q1.1 0).toInt ≤ 400000 := k_q1.1 0
  have e_q1_1 : (q1.1 1).toInt = (o0.1 1).toInt := congrArg Int32.toInt (n_q1.1 1 rfl)
  have g_q1_1 : (0 : Int) ≤ (q1.1 1).toInt ∧ (q1.1 1).toInt ≤ 0 := k_q1.1 1
  have zq1_0 : (q1.1 3).toInt = v1.toInt := zq1_0
  have zq1_1 : (q1.1 3).toInt ≤ (q1.1 0).toInt := zq1_1
  try unfold fSB_setLength_5
  exact tt_some ⟨k_q1, r_q1, f_q1_3, (show (q1.1 3).toInt = v1.toInt by omega), (show (q1.1 3).toInt ≤ (q1.1 0).toInt by omega), trivial⟩
def QJString_coder__S6  (r : (Int32)) : Prop := ((0 : Int) ≤ r.toInt ∧ r.toInt ≤ 0) ∧ True
set_option maxHeartbeats 4000000 in
set_option maxRecDepth 100000 in
theorem sJString_coder__S6   : tt (fJString_coder__S6 ) (QJString_coder__S6 ) := by
  unfold fJString_coder__S6 fJString_coder__S6_0
  try unfold fJString_coder__S6_14
  refine tt_w (iv_nb (show (0 : Int) ≤ (0 : Int32).toInt ∧ (0 : Int32).toInt ≤ 0 by decide) (by decide) (by decide)) ?_
  exact tt_some ⟨(show (0 : Int) ≤ (0 : Int32).toInt ∧ (0 : Int32).toInt ≤ 0 by decide), trivial⟩
def QJString_length__S6  (r : (Int32)) : Prop := ((7 : Int) ≤ r.toInt ∧ r.toInt ≤ 7) ∧ True
set_option maxHeartbeats 4000000 in
set_option maxRecDepth 100000 in
theorem sJString_length__S6   : tt (fJString_length__S6 ) (QJString_length__S6 ) := by
  unfold fJString_length__S6 fJString_length__S6_0
  refine tt_b (sJString_coder__S6  ) (fun q1 hq1 => ?_)
  obtain ⟨i_q1, -⟩ := hq1
  refine tt_kv (P := fun z => (7 : Int) ≤ z.toInt ∧ z.toInt ≤ 7) (iv_shr (p := 0) (q := 0) (show (7 : Int) ≤ (7 : Int32).toInt ∧ (7 : Int32).toInt ≤ 7 by decide) i_q1 (by decide) (by decide) (by decide) (by decide)) (fun x2 i3 => ?_)
  exact tt_some ⟨i3, trivial⟩
def QAS_inflateIfNeededFor_S6 (o0 : cf_O) (r : (Unit)) : Prop := True
set_option maxHeartbeats 4000000 in
set_option maxRecDepth 100000 in
theorem sAS_inflateIfNeededFor_S6 (o0 : cf_O) (k_o0 : okO I_SB o0) (f_o0_3 : (0 : Int) ≤ (o0.1 3).toInt ∧ (o0.1 3).toInt ≤ 0) : tt (fAS_inflateIfNeededFor_S6 o0) (QAS_inflateIfNeededFor_S6 o0) := by
  have r_o0 : Fr (fr_M [] [] []) o0 o0 := fr_rfl
  unfold fAS_inflateIfNeededFor_S6 fAS_inflateIfNeededFor_S6_0
  refine tt_b (sJString_coder__S6  ) (fun q1 hq1 => ?_)
  obtain ⟨i_q1, -⟩ := hq1
  refine tt_if (fun c2 => ?_) (fun c2 => ?_)
  · try unfold fAS_inflateIfNeededFor_S6_21
    exact tt_some trivial
  · exact (dd_ne c2 (k_o0.1 1) i_q1).elim
def QJString_getBytes_ABIB_S6_SB0 (v2 : Int32) (v3 : Int32) (o0 : cf_O) (r : (cf_O)) : Prop := (okO I_SB r) ∧ (Fr (fr_M [] [0] []) o0 r) ∧ True
set_option maxHeartbeats 4000000 in
set_option maxRecDepth 100000 in
theorem sJString_getBytes_ABIB_S6_SB0 (v2 : Int32) (v3 : Int32) (o0 : cf_O) (k_o0 : okO I_SB o0) (i_v2 : (0 : Int) ≤ v2.toInt ∧ v2.toInt ≤ 0) (i_v3 : (0 : Int) ≤ v3.toInt ∧ v3.toInt ≤ 0) (f_o0_3 : (0 : Int) ≤ (o0.1 3).toInt ∧ (o0.1 3).toInt ≤ 0) (x_0 : 0 ≤ v2.toInt) (x_1 : v2.toInt + 7 ≤ (o0.1 0).toInt) : tt (fJString_getBytes_ABIB_S6_SB0 v2 v3 o0) (QJString_getBytes_ABIB_S6_SB0 v2 v3 o0) := by
  have r_o0 : Fr (fr_M [] [0] []) o0 o0 := fr_rfl
  unfold fJString_getBytes_ABIB_S6_SB0 fJString_getBytes_ABIB_S6_SB0_0
  have g_o0_0 : (16 : Int) ≤ (o0.1 0).toInt ∧ (o0.1 0).toInt ≤ 400000 := k_o0.1 0
  have g_o0_1 : (0 : Int) ≤ (o0.1 1).toInt ∧ (o0.1 1).toInt ≤ 0 := k_o0.1 1
  refine tt_b (sJString_coder__S6  ) (fun q1 hq1 => ?_)
  obtain ⟨i_q1, -⟩ := hq1
  refine tt_if (fun c2 => ?_) (fun c2 => ?_)
  · have wc2 : q1.toInt = v3.toInt := c_eq c2
    refine tt_kv (P := fun z => ((0 : Int) ≤ z.toInt ∧ z.toInt ≤ 0) ∧ z.toInt = v2.toInt) ⟨iv_shl (p := 0) (q := 0) i_v2 i_v3 (by decide) (by decide) (by decide) (by decide) (by decide), sh0l i_v3⟩ (fun x3 qi4 => ?_)
    obtain ⟨i4, ei4⟩ := qi4
    refine tt_n (ac_ok (x := x3) (l := (o0.1 0)) (by omega) (by omega)) ?_
    refine tt_ko ?_
    have k5 := ok_cb (k := 0) (s := 6) (x := x3) (n := 7) k_o0 ⟨by decide, by decide⟩
    have r6 := fr_cb (k := 0) (s := 6) (x := x3) (n := 7) r_o0 rfl
    exact tt_some ⟨k5, r6, trivial⟩
  · have wc2 : ¬ q1.toInt = v3.toInt := c_ne c2
    exact (dd_ne c2 i_q1 i_v3).elim
def QAS_putStringAt_S6 (v1 : Int32) (o0 : cf_O) (r : (cf_O)) : Prop := (okO I_SB r) ∧ (Fr (fr_M [] [0] []) o0 r) ∧ True
set_option maxHeartbeats 4000000 in
set_option maxRecDepth 100000 in
theorem sAS_putStringAt_S6 (v1 : Int32) (o0 : cf_O) (k_o0 : okO I_SB o0) (i_v1 : (0 : Int) ≤ v1.toInt ∧ v1.toInt ≤ 0) (f_o0_3 : (0 : Int) ≤ (o0.1 3).toInt ∧ (o0.1 3).toInt ≤ 0) (x_0 : 0 ≤ v1.toInt) (x_1 : v1.toInt + 7 ≤ (o0.1 0).toInt) : tt (fAS_putStringAt_S6 v1 o0) (QAS_putStringAt_S6 v1 o0) := by
  have r_o0 : Fr (fr_M [] [0] []) o0 o0 := fr_rfl
  unfold fAS_putStringAt_S6 fAS_putStringAt_S6_0
  have g_o0_0 : (16 : Int) ≤ (o0.1 0).toInt ∧ (o0.1 0).toInt ≤ 400000 := k_o0.1 0
  have g_o0_1 : (0 : Int) ≤ (o0.1 1).toInt ∧ (o0.1 1).toInt ≤ 0 := k_o0.1 1
  refine tt_b (sAS_inflateIfNeededFor_S6 _ k_o0 f_o0_3) (fun q1 hq1 => ?_)
  refine tt_b (sJString_getBytes_ABIB_S6_SB0 _ _ _ k_o0 i_v1 (k_o0.1 1) f_o0_3 (show 0 ≤ v1.toInt by omega) (show v1.toInt + 7 ≤ (o0.1 0).toInt by omega)) (fun q2 hq2 => ?_)
  obtain ⟨k_q2, n_q2, -⟩ := hq2
  have r_q2 := fr_tr r_o0 n_q2 rfl rfl rfl
  have f_q2_3 : (0 : Int) ≤ (q2.1 3).toInt ∧ (q2.1 3).toInt ≤ 0 := by rw [n_q2.1 3 rfl]; exact f_o0_3
  have e_q2_0 : (q2.1 0).toInt = (o0.1 0).toInt := congrArg Int32.toInt (n_q2.1 0 rfl)
  have g_q2_0 : (16 : Int) ≤ (q2.1 0).toInt ∧ (q2.1 0).toInt ≤ 400000 := k_q2.1 0
  have e_q2_1 : (q2.1 1).toInt = (o0.1 1).toInt := congrArg Int32.toInt (n_q2.1 1 rfl)
  have g_q2_1 : (0 : Int) ≤ (q2.1 1).toInt ∧ (q2.1 1).toInt ≤ 0 := k_q2.1 1
  have e_q2_3 : (q2.1 3).toInt = (o0.1 3).toInt := congrArg Int32.toInt (n_q2.1 3 rfl)
  exact tt_some ⟨k_q2, r_q2, trivial⟩
def QAS_appendS_S6 (o0 : cf_O) (r : (cf_O)) : Prop := (okO I_SB r) ∧ (Fr (fr_M [0, 3] [0] []) o0 r) ∧ ((7 : Int) ≤ (r.1 3).toInt ∧ (r.1 3).toInt ≤ 7) ∧ ((r.1 3).toInt = (o0.1 3).toInt + 7) ∧ ((o0.1 3).toInt ≤ (r.1 3).toInt) ∧ ((r.1 3).toInt ≤ (r.1 0).toInt) ∧ True
set_option maxHeartbeats 4000000 in
set_option maxRecDepth 100000 in
theorem sAS_appendS_S6 (o0 : cf_O) (k_o0 : okO I_SB o0) (f_o0_3 : (0 : Int) ≤ (o0.1 3).toInt ∧ (o0.1 3).toInt ≤ 0) (x_0 : (o0.1 3).toInt ≤ (o0.1 0).toInt) (x_1 : (o0.1 3).toInt ≤ 89993) : tt (fAS_appendS_S6 o0) (QAS_appendS_S6 o0) := by
  have r_o0 : Fr (fr_M [0, 3] [0] []) o0 o0 := fr_rfl
  unfold fAS_appendS_S6 fAS_appendS_S6_0
  have g_o0_0 : (16 : Int) ≤ (o0.1 0).toInt ∧ (o0.1 0).toInt ≤ 400000 := k_o0.1 0
  have g_o0_1 : (0 : Int) ≤ (o0.1 1).toInt ∧ (o0.1 1).toInt ≤ 0 := k_o0.1 1
  refine tt_b (sJString_length__S6  ) (fun q1 hq1 => ?_)
  obtain ⟨i_q1, -⟩ := hq1
  try unfold fAS_appendS_S6_13
  refine tt_kv (P := fun z => ((7 : Int) ≤ z.toInt ∧ z.toInt ≤ 7) ∧ z.toInt = (o0.1 3).toInt + q1.toInt) ⟨iv_add f_o0_3 i_q1 (by decide) (by decide) (by decide) (by decide), iq_add f_o0_3 i_q1 (by decide) (by decide)⟩ (fun x2 qi3 => ?_)
  obtain ⟨i3, ei3⟩ := qi3
  refine tt_b (sAS_ensureCapacityInternal _ _ k_o0 (iv_w (a := 0) (b := 90010) (by decide) (by decide) i3)) (fun q4 hq4 => ?_)
  obtain ⟨k_q4, n_q4, zq4_0, zq4_1, zq4_2, -⟩ := hq4
  have r_q4 := fr_tr r_o0 n_q4 rfl rfl rfl
  have f_q4_3 : (0 : Int) ≤ (q4.1 3).toInt ∧ (q4.1 3).toInt ≤ 0 := by rw [n_q4.1 3 rfl]; exact f_o0_3
  have g_q4_0 : (16 : Int) ≤ (q4.1 0).toInt ∧ (q4.1 0).toInt ≤ 400000 := k_q4.1 0
  have e_q4_1 : (q4.1 1).toInt = (o0.1 1).toInt := congrArg Int32.toInt (n_q4.1 1 rfl)
  have g_q4_1 : (0 : Int) ≤ (q4.1 1).toInt ∧ (q4.1 1).toInt ≤ 0 := k_q4.1 1
  have e_q4_3 : (q4.1 3).toInt = (o0.1 3).toInt := congrArg Int32.toInt (n_q4.1 3 rfl)
  have zq4_0 : x2.toInt ≤ (q4.1 0).toInt := zq4_0
  have zq4_1 : (o0.1 0).toInt ≤ (q4.1 0).toInt := zq4_1
  have zq4_2 : (q4.1 0).toInt ≤ (o0.1 0).toInt ∨ (q4.1 0).toInt ≤ 180022 := zq4_2
  try unfold fAS_appendS_S6_24
  refine tt_b (sAS_putStringAt_S6 _ _ k_q4 f_q4_3 f_q4_3 (show 0 ≤ (q4.1 3).toInt by omega) (show (q4.1 3).toInt + 7 ≤ (q4.1 0).toInt by omega)) (fun q5 hq5 => ?_)
  obtain ⟨k_q5, n_q5, -⟩ := hq5
  have r_q5 := fr_tr r_q4 n_q5 rfl rfl rfl
  have f_q5_3 : (0 : Int) ≤ (q5.1 3).toInt ∧ (q5.1 3).toInt ≤ 0 := by rw [n_q5.1 3 rfl]; exact f_q4_3
  have e_q5_0 : (q5.1 0).toInt = (q4.1 0).toInt := congrArg Int32.toInt (n_q5.1 0 rfl)
  have g_q5_0 : (16 : Int) ≤ (q5.1 0).toInt ∧ (q5.1 0).toInt ≤ 400000 := k_q5.1 0
  have e_q5_1 : (q5.1 1).toInt = (q4.1 1).toInt := congrArg Int32.toInt (n_q5.1 1 rfl)
  have g_q5_1 : (0 : Int) ≤ (q5.1 1).toInt ∧ (q5.1 1).toInt ≤ 0 := k_q5.1 1
  have e_q5_3 : (q5.1 3).toInt = (q4.1 3).toInt := congrArg Int32.toInt (n_q5.1 3 rfl)
  try unfold fAS_appendS_S6_33
  refine tt_kv (P := fun z => ((7 : Int) ≤ z.toInt ∧ z.toInt ≤ 7) ∧ z.toInt = (q5.1 3).toInt + q1.toInt) ⟨iv_add f_q5_3 i_q1 (by decide) (by decide) (by decide) (by decide), iq_add f_q5_3 i_q1 (by decide) (by decide)⟩ (fun x6 qi7 => ?_)
  obtain ⟨i7, ei7⟩ := qi7
  refine tt_ko ?_
  have k8 := ok_fp (k := 3) (v := x6) k_q5 (iv_w (a := 0) (b := 90000) (by decide) (by decide) i7)
  have r9 := fr_fp (k := 3) (v := x6) r_q5 rfl
  exact tt_some ⟨k8, r9, i7, (show x6.toInt = (o0.1 3).toInt + 7 by omega), (show (o0.1 3).toInt ≤ x6.toInt by omega), (show x6.toInt ≤ (q5.1 0).toInt by omega), trivial⟩
def QSB_appendS_S6 (o0 : cf_O) (r : (cf_O)) : Prop := (okO I_SB r) ∧ (Fr (fr_M [0, 3] [0] []) o0 r) ∧ ((7 : Int) ≤ (r.1 3).toInt ∧ (r.1 3).toInt ≤ 7) ∧ ((r.1 3).toInt = (o0.1 3).toInt + 7) ∧ ((o0.1 3).toInt ≤ (r.1 3).toInt) ∧ ((r.1 3).toInt ≤ (r.1 0).toInt) ∧ True
set_option maxHeartbeats 4000000 in
set_option maxRecDepth 100000 in
theorem sSB_appendS_S6 (o0 : cf_O) (k_o0 : okO I_SB o0) (f_o0_3 : (0 : Int) ≤ (o0.1 3).toInt ∧ (o0.1 3).toInt ≤ 0) (x_0 : (o0.1 3).toInt ≤ (o0.1 0).toInt) (x_1 : (o0.1 3).toInt ≤ 89993) : tt (fSB_appendS_S6 o0) (QSB_appendS_S6 o0) := by
  have r_o0 : Fr (fr_M [0, 3] [0] []) o0 o0 := fr_rfl
  unfold fSB_appendS_S6 fSB_appendS_S6_0
  have g_o0_0 : (16 : Int) ≤ (o0.1 0).toInt ∧ (o0.1 0).toInt ≤ 400000 := k_o0.1 0
  have g_o0_1 : (0 : Int) ≤ (o0.1 1).toInt ∧ (o0.1 1).toInt ≤ 0 := k_o0.1 1
  refine tt_b (sAS_appendS_S6 _ k_o0 f_o0_3 (show (o0.1 3).toInt ≤ (o0.1 0).toInt by omega) (show (o0.1 3).toInt ≤ 89993 by omega)) (fun q1 hq1 => ?_)
  obtain ⟨k_q1, n_q1, f_q1_3, zq1_0, zq1_1, zq1_2, -⟩ := hq1
  have r_q1 := fr_tr r_o0 n_q1 rfl rfl rfl
  have g_q1_0 : (16 : Int) ≤ (q1.1 0).toInt ∧ (q1.1 0).toInt ≤ 400000 := k_q1.1 0
  have e_q1_1 : (q1.1 1).toInt = (o0.1 1).toInt := congrArg Int32.toInt (n_q1.1 1 rfl)
  have g_q1_1 : (0 : Int) ≤ (q1.1 1).toInt ∧ (q1.1 1).toInt ≤ 0 := k_q1.1 1
  have zq1_0 : (q1.1 3).toInt = (o0.1 3).toInt + 7 := zq1_0
  have zq1_1 : (o0.1 3).toInt ≤ (q1.1 3).toInt := zq1_1
  have zq1_2 : (q1.1 3).toInt ≤ (q1.1 0).toInt := zq1_2
  try unfold fSB_appendS_S6_5
  exact tt_some ⟨k_q1, r_q1, f_q1_3, (show (q1.1 3).toInt = (o0.1 3).toInt + 7 by omega), (show (o0.1 3).toInt ≤ (q1.1 3).toInt by omega), (show (q1.1 3).toInt ≤ (q1.1 0).toInt by omega), trivial⟩
def QJStringLatin1_canEncode_C (v0 : Int32) (r : (Int32)) : Prop := ((1 : Int) ≤ r.toInt ∧ r.toInt ≤ 1) ∧ True
set_option maxHeartbeats 4000000 in
set_option maxRecDepth 100000 in
theorem sJStringLatin1_canEncode_C (v0 : Int32) (i_v0 : (0 : Int) ≤ v0.toInt ∧ v0.toInt ≤ 255) : tt (fJStringLatin1_canEncode_C v0) (QJStringLatin1_canEncode_C v0) := by
  unfold fJStringLatin1_canEncode_C fJStringLatin1_canEncode_C_0
  refine tt_if (fun c1 => ?_) (fun c1 => ?_)
  · exact (dd_lt c1 (show (255 : Int) ≤ (255 : Int32).toInt ∧ (255 : Int32).toInt ≤ 255 by decide) i_v0 (by decide)).elim
  · try unfold fJStringLatin1_canEncode_C_12
    refine tt_w (iv_b (show (1 : Int) ≤ (1 : Int32).toInt ∧ (1 : Int32).toInt ≤ 1 by decide) (by decide) (by decide)) ?_
    exact tt_some ⟨(show (1 : Int) ≤ (1 : Int32).toInt ∧ (1 : Int32).toInt ≤ 1 by decide), trivial⟩
def QAS_appendC (v1 : Int32) (o0 : cf_O) (r : (cf_O)) : Prop := (okO I_SB r) ∧ (Fr (fr_M [0, 3] [0] []) o0 r) ∧ ((8 : Int) ≤ (r.1 3).toInt ∧ (r.1 3).toInt ≤ 90000) ∧ ((r.1 3).toInt = (o0.1 3).toInt + 1) ∧ ((o0.1 3).toInt ≤ (r.1 3).toInt) ∧ ((r.1 3).toInt ≤ (r.1 0).toInt) ∧ True
set_option maxHeartbeats 4000000 in
set_option maxRecDepth 100000 in
theorem sAS_appendC (v1 : Int32) (o0 : cf_O) (k_o0 : okO I_SB o0) (i_v1 : (0 : Int) ≤ v1.toInt ∧ v1.toInt ≤ 255) (f_o0_3 : (7 : Int) ≤ (o0.1 3).toInt ∧ (o0.1 3).toInt ≤ 90000) (x_0 : (o0.1 3).toInt ≤ (o0.1 0).toInt) (x_1 : (o0.1 3).toInt ≤ 89999) : tt (fAS_appendC v1 o0) (QAS_appendC v1 o0) := by
  have r_o0 : Fr (fr_M [0, 3] [0] []) o0 o0 := fr_rfl
  unfold fAS_appendC fAS_appendC_0
  have g_o0_0 : (16 : Int) ≤ (o0.1 0).toInt ∧ (o0.1 0).toInt ≤ 400000 := k_o0.1 0
  have g_o0_1 : (0 : Int) ≤ (o0.1 1).toInt ∧ (o0.1 1).toInt ≤ 0 := k_o0.1 1
  refine tt_kv (P := fun z => ((8 : Int) ≤ z.toInt ∧ z.toInt ≤ 90001) ∧ z.toInt = (o0.1 3).toInt + 1) ⟨iv_add f_o0_3 (show (1 : Int) ≤ (1 : Int32).toInt ∧ (1 : Int32).toInt ≤ 1 by decide) (by decide) (by decide) (by decide) (by decide), iq_add f_o0_3 (show (1 : Int) ≤ (1 : Int32).toInt ∧ (1 : Int32).toInt ≤ 1 by decide) (by decide) (by decide)⟩ (fun x1 qi2 => ?_)
  obtain ⟨i2, ei2⟩ := qi2
  refine tt_b (sAS_ensureCapacityInternal _ _ k_o0 (iv_w (a := 0) (b := 90010) (by decide) (by decide) i2)) (fun q3 hq3 => ?_)
  obtain ⟨k_q3, n_q3, zq3_0, zq3_1, zq3_2, -⟩ := hq3
  have r_q3 := fr_tr r_o0 n_q3 rfl rfl rfl
  have f_q3_3 : (7 : Int) ≤ (q3.1 3).toInt ∧ (q3.1 3).toInt ≤ 90000 := by rw [n_q3.1 3 rfl]; exact f_o0_3
  have g_q3_0 : (16 : Int) ≤ (q3.1 0).toInt ∧ (q3.1 0).toInt ≤ 400000 := k_q3.1 0
  have e_q3_1 : (q3.1 1).toInt = (o0.1 1).toInt := congrArg Int32.toInt (n_q3.1 1 rfl)
  have g_q3_1 : (0 : Int) ≤ (q3.1 1).toInt ∧ (q3.1 1).toInt ≤ 0 := k_q3.1 1
  have e_q3_3 : (q3.1 3).toInt = (o0.1 3).toInt := congrArg Int32.toInt (n_q3.1 3 rfl)
  have zq3_0 : x1.toInt ≤ (q3.1 0).toInt := zq3_0
  have zq3_1 : (o0.1 0).toInt ≤ (q3.1 0).toInt := zq3_1
  have zq3_2 : (q3.1 0).toInt ≤ (o0.1 0).toInt ∨ (q3.1 0).toInt ≤ 180022 := zq3_2
  try unfold fAS_appendC_10
  refine tt_b (sAS_isLatin1 _ k_q3 f_q3_3) (fun q4 hq4 => ?_)
  obtain ⟨i_q4, -⟩ := hq4
  try unfold fAS_appendC_14
  refine tt_if (fun c5 => ?_) (fun c5 => ?_)
  · have wc5 : q4.toInt = (0 : Int) := c_eq c5
    exact (dd_eq c5 i_q4 (show (0 : Int) ≤ (0 : Int32).toInt ∧ (0 : Int32).toInt ≤ 0 by decide) (by decide)).elim
  · have wc5 : ¬ q4.toInt = (0 : Int) := c_ne c5
    refine tt_b (sJStringLatin1_canEncode_C _ i_v1) (fun q6 hq6 => ?_)
    obtain ⟨i_q6, -⟩ := hq6
    try unfold fAS_appendC_21
    refine tt_if (fun c7 => ?_) (fun c7 => ?_)
    · have wc7 : q6.toInt = (0 : Int) := c_eq c7
      exact (dd_eq c7 i_q6 (show (0 : Int) ≤ (0 : Int32).toInt ∧ (0 : Int32).toInt ≤ 0 by decide) (by decide)).elim
    · have wc7 : ¬ q6.toInt = (0 : Int) := c_ne c7
      refine tt_kv (P := fun z => ((8 : Int) ≤ z.toInt ∧ z.toInt ≤ 90001) ∧ z.toInt = (q3.1 3).toInt + 1) ⟨iv_add f_q3_3 (show (1 : Int) ≤ (1 : Int32).toInt ∧ (1 : Int32).toInt ≤ 1 by decide) (by decide) (by decide) (by decide) (by decide), iq_add f_q3_3 (show (1 : Int) ≤ (1 : Int32).toInt ∧ (1 : Int32).toInt ≤ 1 by decide) (by decide) (by decide)⟩ (fun x8 qi9 => ?_)
      obtain ⟨i9, ei9⟩ := qi9
      refine tt_ko ?_
      have k10 := ok_fp (k := 3) (v := x8) k_q3 (show (0 : Int) ≤ _ ∧ _ ≤ (90000 : Int) by omega)
      have i11 : (8 : Int) ≤ x8.toInt ∧ x8.toInt ≤ 90000 := (by omega)
      have i12 : (7 : Int) ≤ (q3.1 3).toInt ∧ (q3.1 3).toInt ≤ 89999 := by omega
      have r13 := fr_fp (k := 3) (v := x8) r_q3 rfl
      refine tt_kv (P := fun z => ((-128) : Int) ≤ z.toInt ∧ z.toInt ≤ 127) (iv_i8 _) (fun x14 i15 => ?_)
      refine tt_n (ix_v (x := (q3.1 3)) (l := (q3.1 0)) (by omega) (by omega)) ?_
      refine tt_ko ?_
      have k16 := ok_xp (k := 0) (i := (q3.1 3).toNatClampNeg) (v := (vp_nar .byte x14)) k10 (iv_nby _)
      have r17 := fr_xp (k := 0) (i := (q3.1 3).toNatClampNeg) (v := (vp_nar .byte x14)) r13 rfl
      exact tt_some ⟨k16, r17, i11, (show x8.toInt = (o0.1 3).toInt + 1 by omega), (show (o0.1 3).toInt ≤ x8.toInt by omega), (show x8.toInt ≤ (q3.1 0).toInt by omega), trivial⟩
def QSB_appendC (v1 : Int32) (o0 : cf_O) (r : (cf_O)) : Prop := (okO I_SB r) ∧ (Fr (fr_M [0, 3] [0] []) o0 r) ∧ ((8 : Int) ≤ (r.1 3).toInt ∧ (r.1 3).toInt ≤ 90000) ∧ ((r.1 3).toInt = (o0.1 3).toInt + 1) ∧ ((o0.1 3).toInt ≤ (r.1 3).toInt) ∧ ((r.1 3).toInt ≤ (r.1 0).toInt) ∧ True
set_option maxHeartbeats 4000000 in
set_option maxRecDepth 100000 in
theorem sSB_appendC (v1 : Int32) (o0 : cf_O) (k_o0 : okO I_SB o0) (i_v1 : (0 : Int) ≤ v1.toInt ∧ v1.toInt ≤ 255) (f_o0_3 : (7 : Int) ≤ (o0.1 3).toInt ∧ (o0.1 3).toInt ≤ 90000) (x_0 : (o0.1 3).toInt ≤ (o0.1 0).toInt) (x_1 : (o0.1 3).toInt ≤ 89999) : tt (fSB_appendC v1 o0) (QSB_appendC v1 o0) := by
  have r_o0 : Fr (fr_M [0, 3] [0] []) o0 o0 := fr_rfl
  unfold fSB_appendC fSB_appendC_0
  have g_o0_0 : (16 : Int) ≤ (o0.1 0).toInt ∧ (o0.1 0).toInt ≤ 400000 := k_o0.1 0
  have g_o0_1 : (0 : Int) ≤ (o0.1 1).toInt ∧ (o0.1 1).toInt ≤ 0 := k_o0.1 1
  refine tt_b (sAS_appendC _ _ k_o0 i_v1 f_o0_3 (show (o0.1 3).toInt ≤ (o0.1 0).toInt by omega) (show (o0.1 3).toInt ≤ 89999 by omega)) (fun q1 hq1 => ?_)
  obtain ⟨k_q1, n_q1, f_q1_3, zq1_0, zq1_1, zq1_2, -⟩ := hq1
  have r_q1 := fr_tr r_o0 n_q1 rfl rfl rfl
  have g_q1_0 : (16 : Int) ≤ (q1.1 0).toInt ∧ (q1.1 0).toInt ≤ 400000 := k_q1.1 0
  have e_q1_1 : (q1.1 1).toInt = (o0.1 1).toInt := congrArg Int32.toInt (n_q1.1 1 rfl)
  have g_q1_1 : (0 : Int) ≤ (q1.1 1).toInt ∧ (q1.1 1).toInt ≤ 0 := k_q1.1 1
  have zq1_0 : (q1.1 3).toInt = (o0.1 3).toInt + 1 := zq1_0
  have zq1_1 : (o0.1 3).toInt ≤ (q1.1 3).toInt := zq1_1
  have zq1_2 : (q1.1 3).toInt ≤ (q1.1 0).toInt := zq1_2
  try unfold fSB_appendC_5
  exact tt_some ⟨k_q1, r_q1, f_q1_3, (show (q1.1 3).toInt = (o0.1 3).toInt + 1 by omega), (show (o0.1 3).toInt ≤ (q1.1 3).toInt by omega), (show (q1.1 3).toInt ≤ (q1.1 0).toInt by omega), trivial⟩
def QSc_writeName (v1 : Int64) (o0 : cf_O) (o1 : cf_O) (r : (cf_O)) : Prop := (okO I_SB r) ∧ (Fr (fr_M [0, 3] [0] []) o1 r) ∧ ((8 : Int) ≤ (r.1 3).toInt ∧ (r.1 3).toInt ≤ 90000) ∧ ((r.1 3).toInt ≤ (o1.1 3).toInt + 9) ∧ ((o1.1 3).toInt ≤ (r.1 3).toInt) ∧ ((r.1 3).toInt ≤ (r.1 0).toInt) ∧ True
def HSc_writeName (yv1 : Int64) (yo0 : cf_O) (yo1 : cf_O) (n : Nat) : Prop := (∀ (v1 : Int64) (v3 : Int32) (o0 : cf_O) (o1 : cf_O), (okO I_Sc o0) → (Fr (fr_M [] [] []) yo0 o0) → (okO I_SB o1) → (Fr (fr_M [0, 3] [0] []) yo1 o1) → (((-8) : Int) ≤ v3.toInt ∧ v3.toInt ≤ 56) → ((8 : Int) ≤ (o1.1 3).toInt ∧ (o1.1 3).toInt ≤ 90000) → ((o1.1 3).toInt ≤ (o1.1 0).toInt) → ((yo1.1 3).toInt ≤ (o1.1 3).toInt) → (8 * ((o1.1 3).toInt - (yo1.1 3).toInt - 1) ≤ 56 - v3.toInt) → ((yo1.1 3).toInt ≤ 89991) → 0 + (v3.toInt - (-8)) * 2 < (n : Int) → tt (gSc_writeName n 0 v1 v3 o0 o1) (QSc_writeName yv1 yo0 yo1))
set_option maxHeartbeats 4000000 in
set_option maxRecDepth 100000 in
theorem tSc_writeName_13 {yv1 : Int64} {yo0 : cf_O} {yo1 : cf_O} {n : Nat} (H : HSc_writeName yv1 yo0 yo1 n) (v1 : Int64) (v3 : Int32) (o0 : cf_O) (o1 : cf_O) (k_o0 : okO I_Sc o0) (r_o0 : Fr (fr_M [] [] []) yo0 o0) (k_o1 : okO I_SB o1) (r_o1 : Fr (fr_M [0, 3] [0] []) yo1 o1) (i_v3 : ((-8) : Int) ≤ v3.toInt ∧ v3.toInt ≤ 56) (f_o1_3 : (8 : Int) ≤ (o1.1 3).toInt ∧ (o1.1 3).toInt ≤ 90000) (x_0 : (o1.1 3).toInt ≤ (o1.1 0).toInt) (x_1 : (yo1.1 3).toInt ≤ (o1.1 3).toInt) (x_2 : 8 * ((o1.1 3).toInt - (yo1.1 3).toInt - 1) ≤ 56 - v3.toInt) (x_3 : (yo1.1 3).toInt ≤ 89991) (hm : 0 + (v3.toInt - (-8)) * 2 ≤ (n : Int)) : tt (fSc_writeName_13 (gSc_writeName n) v1 v3 o0 o1) (QSc_writeName yv1 yo0 yo1) := by
  unfold fSc_writeName_13
  have g_o0_0 : (0 : Int) ≤ (o0.1 0).toInt ∧ (o0.1 0).toInt ≤ 1 := k_o0.1 0
  have ey_o0_0 : (o0.1 0).toInt = (yo0.1 0).toInt := congrArg Int32.toInt (r_o0.1 0 rfl)
  have g_o0_1 : (0 : Int) ≤ (o0.1 1).toInt ∧ (o0.1 1).toInt ≤ 0 := k_o0.1 1
  have ey_o0_1 : (o0.1 1).toInt = (yo0.1 1).toInt := congrArg Int32.toInt (r_o0.1 1 rfl)
  have g_o0_3 : (0 : Int) ≤ (o0.1 3).toInt ∧ (o0.1 3).toInt ≤ 0 := k_o0.1 3
  have ey_o0_3 : (o0.1 3).toInt = (yo0.1 3).toInt := congrArg Int32.toInt (r_o0.1 3 rfl)
  have g_o1_0 : (16 : Int) ≤ (o1.1 0).toInt ∧ (o1.1 0).toInt ≤ 400000 := k_o1.1 0
  have g_o1_1 : (0 : Int) ≤ (o1.1 1).toInt ∧ (o1.1 1).toInt ≤ 0 := k_o1.1 1
  have ey_o1_1 : (o1.1 1).toInt = (yo1.1 1).toInt := congrArg Int32.toInt (r_o1.1 1 rfl)
  refine tt_if (fun c1 => ?_) (fun c1 => ?_)
  · have wc1 : v3.toInt < (0 : Int) := c_lt c1
    have i2 : ((-8) : Int) ≤ v3.toInt ∧ v3.toInt ≤ (-1) := nr_ltl c1 i_v3 (show (0 : Int) ≤ (0 : Int32).toInt ∧ (0 : Int32).toInt ≤ 0 by decide) (by decide) (by decide)
    exact tt_some ⟨k_o1, r_o1, f_o1_3, (show (o1.1 3).toInt ≤ (yo1.1 3).toInt + 9 by omega), (show (yo1.1 3).toInt ≤ (o1.1 3).toInt by omega), (show (o1.1 3).toInt ≤ (o1.1 0).toInt by omega), trivial⟩
  · have wc1 : (0 : Int) ≤ v3.toInt := c_nlt c1
    have i3 : (0 : Int) ≤ v3.toInt ∧ v3.toInt ≤ 56 := nr_nltr c1 (show (0 : Int) ≤ (0 : Int32).toInt ∧ (0 : Int32).toInt ≤ 0 by decide) i_v3 (by decide) (by decide)
    refine tt_kl (fun x4 => ?_)
    refine tt_klv (P := fun z => (0 : Int) ≤ z.toInt ∧ z.toInt ≤ 255) (ivl_and (by decide) (by decide) (by decide)) (fun x5 i6 => ?_)
    refine tt_kv (P := fun z => (0 : Int) ≤ z.toInt ∧ z.toInt ≤ 255) (ivl_i i6 (by decide) (by decide)) (fun x7 i8 => ?_)
    refine tt_if (fun c9 => ?_) (fun c9 => ?_)
    · have wc9 : x7.toInt = (0 : Int) := c_eq c9
      have i10 : (0 : Int) ≤ x7.toInt ∧ x7.toInt ≤ 0 := nr_eql c9 i8 (show (0 : Int) ≤ (0 : Int32).toInt ∧ (0 : Int32).toInt ≤ 0 by decide) (by decide) (by decide)
      try unfold fSc_writeName_43
      refine tt_kv (P := fun z => (((-8) : Int) ≤ z.toInt ∧ z.toInt ≤ 48) ∧ z.toInt = v3.toInt + (-8)) ⟨iv_add i3 (show ((-8) : Int) ≤ ((-8) : Int32).toInt ∧ ((-8) : Int32).toInt ≤ (-8) by decide) (by decide) (by decide) (by decide) (by decide), iq_add i3 (show ((-8) : Int) ≤ ((-8) : Int32).toInt ∧ ((-8) : Int32).toInt ≤ (-8) by decide) (by decide) (by decide)⟩ (fun x11 qi12 => ?_)
      obtain ⟨i12, ei12⟩ := qi12
      exact H _ _ _ _ k_o0 r_o0 k_o1 r_o1 (iv_w (a := (-8)) (b := 56) (by decide) (by decide) i12) f_o1_3 (show (o1.1 3).toInt ≤ (o1.1 0).toInt by omega) (show (yo1.1 3).toInt ≤ (o1.1 3).toInt by omega) (show 8 * ((o1.1 3).toInt - (yo1.1 3).toInt - 1) ≤ 56 - x11.toInt by omega) (show (yo1.1 3).toInt ≤ 89991 by omega) (show 0 + (x11.toInt - (-8)) * 2 < (n : Int) by omega)
    · have wc9 : ¬ x7.toInt = (0 : Int) := c_ne c9
      have i13 : (1 : Int) ≤ x7.toInt ∧ x7.toInt ≤ 255 := nr_nela c9 i8 (show (0 : Int) ≤ (0 : Int32).toInt ∧ (0 : Int32).toInt ≤ 0 by decide) (by decide) (by decide)
      refine tt_kv (P := fun z => (1 : Int) ≤ z.toInt ∧ z.toInt ≤ 255) (iv_c16i i13 (by decide) (by decide)) (fun x14 i15 => ?_)
      refine tt_b (sSB_appendC _ _ k_o1 (iv_w (a := 0) (b := 255) (by decide) (by decide) i15) (iv_w (a := 7) (b := 90000) (by decide) (by decide) f_o1_3) (show (o1.1 3).toInt ≤ (o1.1 0).toInt by omega) (show (o1.1 3).toInt ≤ 89999 by omega)) (fun q16 hq16 => ?_)
      obtain ⟨k_q16, n_q16, f_q16_3, zq16_0, zq16_1, zq16_2, -⟩ := hq16
      have r_q16 := fr_tr r_o1 n_q16 rfl rfl rfl
      have g_q16_0 : (16 : Int) ≤ (q16.1 0).toInt ∧ (q16.1 0).toInt ≤ 400000 := k_q16.1 0
      have e_q16_1 : (q16.1 1).toInt = (o1.1 1).toInt := congrArg Int32.toInt (n_q16.1 1 rfl)
      have g_q16_1 : (0 : Int) ≤ (q16.1 1).toInt ∧ (q16.1 1).toInt ≤ 0 := k_q16.1 1
      have zq16_0 : (q16.1 3).toInt = (o1.1 3).toInt + 1 := zq16_0
      have zq16_1 : (o1.1 3).toInt ≤ (q16.1 3).toInt := zq16_1
      have zq16_2 : (q16.1 3).toInt ≤ (q16.1 0).toInt := zq16_2
      try unfold fSc_writeName_42
      try unfold fSc_writeName_43
      refine tt_kv (P := fun z => (((-8) : Int) ≤ z.toInt ∧ z.toInt ≤ 48) ∧ z.toInt = v3.toInt + (-8)) ⟨iv_add i3 (show ((-8) : Int) ≤ ((-8) : Int32).toInt ∧ ((-8) : Int32).toInt ≤ (-8) by decide) (by decide) (by decide) (by decide) (by decide), iq_add i3 (show ((-8) : Int) ≤ ((-8) : Int32).toInt ∧ ((-8) : Int32).toInt ≤ (-8) by decide) (by decide) (by decide)⟩ (fun x17 qi18 => ?_)
      obtain ⟨i18, ei18⟩ := qi18
      exact H _ _ _ _ k_o0 r_o0 k_q16 r_q16 (iv_w (a := (-8)) (b := 56) (by decide) (by decide) i18) f_q16_3 (show (q16.1 3).toInt ≤ (q16.1 0).toInt by omega) (show (yo1.1 3).toInt ≤ (q16.1 3).toInt by omega) (show 8 * ((q16.1 3).toInt - (yo1.1 3).toInt - 1) ≤ 56 - x17.toInt by omega) (show (yo1.1 3).toInt ≤ 89991 by omega) (show 0 + (x17.toInt - (-8)) * 2 < (n : Int) by omega)
set_option maxHeartbeats 4000000 in
set_option maxRecDepth 100000 in
theorem hSc_writeName (yv1 : Int64) (yo0 : cf_O) (yo1 : cf_O) : ∀ n, HSc_writeName yv1 yo0 yo1 n := by
  intro n
  induction n with
  | zero => exact (fun v1 v3 o0 o1 k_o0 r_o0 k_o1 r_o1 i_v3 f_o1_3 x_0 x_1 x_2 x_3 hm => by exact absurd (show 0 + (v3.toInt - (-8)) * 2 < (0 : Int) from hm) (by omega))
  | succ n ih => exact (fun v1 v3 o0 o1 k_o0 r_o0 k_o1 r_o1 i_v3 f_o1_3 x_0 x_1 x_2 x_3 hm => tSc_writeName_13 ih v1 v3 o0 o1 k_o0 r_o0 k_o1 r_o1 i_v3 f_o1_3 x_0 x_1 x_2 x_3 (by omega))
set_option maxHeartbeats 4000000 in
set_option maxRecDepth 100000 in
theorem sSc_writeName (v1 : Int64) (o0 : cf_O) (o1 : cf_O) (k_o0 : okO I_Sc o0) (k_o1 : okO I_SB o1) (f_o1_3 : (7 : Int) ≤ (o1.1 3).toInt ∧ (o1.1 3).toInt ≤ 90000) (x_0 : (o1.1 3).toInt ≤ (o1.1 0).toInt) (x_1 : (o1.1 3).toInt ≤ 89991) : tt (fSc_writeName v1 o0 o1) (QSc_writeName v1 o0 o1) := by
  have H := hSc_writeName v1 o0 o1 cfFU
  have hm : (131 : Int) ≤ (cfFU : Nat) := by decide
  have r_o0 : Fr (fr_M [] [] []) o0 o0 := fr_rfl
  have r_o1 : Fr (fr_M [0, 3] [0] []) o1 o1 := fr_rfl
  unfold fSc_writeName fSc_writeName_0
  have g_o0_0 : (0 : Int) ≤ (o0.1 0).toInt ∧ (o0.1 0).toInt ≤ 1 := k_o0.1 0
  have g_o0_1 : (0 : Int) ≤ (o0.1 1).toInt ∧ (o0.1 1).toInt ≤ 0 := k_o0.1 1
  have g_o0_3 : (0 : Int) ≤ (o0.1 3).toInt ∧ (o0.1 3).toInt ≤ 0 := k_o0.1 3
  have g_o1_0 : (16 : Int) ≤ (o1.1 0).toInt ∧ (o1.1 0).toInt ≤ 400000 := k_o1.1 0
  have g_o1_1 : (0 : Int) ≤ (o1.1 1).toInt ∧ (o1.1 1).toInt ≤ 0 := k_o1.1 1
  refine tt_b (sSB_appendC _ _ k_o1 (iv_w (a := 0) (b := 255) (by decide) (by decide) (show (32 : Int) ≤ (32 : Int32).toInt ∧ (32 : Int32).toInt ≤ 32 by decide)) f_o1_3 (show (o1.1 3).toInt ≤ (o1.1 0).toInt by omega) (show (o1.1 3).toInt ≤ 89999 by omega)) (fun q1 hq1 => ?_)
  obtain ⟨k_q1, n_q1, f_q1_3, zq1_0, zq1_1, zq1_2, -⟩ := hq1
  have r_q1 := fr_tr r_o1 n_q1 rfl rfl rfl
  have g_q1_0 : (16 : Int) ≤ (q1.1 0).toInt ∧ (q1.1 0).toInt ≤ 400000 := k_q1.1 0
  have e_q1_1 : (q1.1 1).toInt = (o1.1 1).toInt := congrArg Int32.toInt (n_q1.1 1 rfl)
  have g_q1_1 : (0 : Int) ≤ (q1.1 1).toInt ∧ (q1.1 1).toInt ≤ 0 := k_q1.1 1
  have zq1_0 : (q1.1 3).toInt = (o1.1 3).toInt + 1 := zq1_0
  have zq1_1 : (o1.1 3).toInt ≤ (q1.1 3).toInt := zq1_1
  have zq1_2 : (q1.1 3).toInt ≤ (q1.1 0).toInt := zq1_2
  try unfold fSc_writeName_9
  exact H _ _ _ _ k_o0 r_o0 k_q1 r_q1 (iv_w (a := (-8)) (b := 56) (by decide) (by decide) (show (56 : Int) ≤ (56 : Int32).toInt ∧ (56 : Int32).toInt ≤ 56 by decide)) f_q1_3 (show (q1.1 3).toInt ≤ (q1.1 0).toInt by omega) (show (o1.1 3).toInt ≤ (q1.1 3).toInt by omega) (show 8 * ((q1.1 3).toInt - (o1.1 3).toInt - 1) ≤ 56 - 56 by omega) (show (o1.1 3).toInt ≤ 89991 by omega) (show 0 + (56 - (-8)) * 2 < ((cfFU : Nat) : Int) by omega)
def QJString_coder__S7  (r : (Int32)) : Prop := ((0 : Int) ≤ r.toInt ∧ r.toInt ≤ 0) ∧ True
set_option maxHeartbeats 4000000 in
set_option maxRecDepth 100000 in
theorem sJString_coder__S7   : tt (fJString_coder__S7 ) (QJString_coder__S7 ) := by
  unfold fJString_coder__S7 fJString_coder__S7_0
  try unfold fJString_coder__S7_14
  refine tt_w (iv_nb (show (0 : Int) ≤ (0 : Int32).toInt ∧ (0 : Int32).toInt ≤ 0 by decide) (by decide) (by decide)) ?_
  exact tt_some ⟨(show (0 : Int) ≤ (0 : Int32).toInt ∧ (0 : Int32).toInt ≤ 0 by decide), trivial⟩
def QJString_length__S7  (r : (Int32)) : Prop := ((9 : Int) ≤ r.toInt ∧ r.toInt ≤ 9) ∧ True
set_option maxHeartbeats 4000000 in
set_option maxRecDepth 100000 in
theorem sJString_length__S7   : tt (fJString_length__S7 ) (QJString_length__S7 ) := by
  unfold fJString_length__S7 fJString_length__S7_0
  refine tt_b (sJString_coder__S7  ) (fun q1 hq1 => ?_)
  obtain ⟨i_q1, -⟩ := hq1
  refine tt_kv (P := fun z => (9 : Int) ≤ z.toInt ∧ z.toInt ≤ 9) (iv_shr (p := 0) (q := 0) (show (9 : Int) ≤ (9 : Int32).toInt ∧ (9 : Int32).toInt ≤ 9 by decide) i_q1 (by decide) (by decide) (by decide) (by decide)) (fun x2 i3 => ?_)
  exact tt_some ⟨i3, trivial⟩
def QAS_inflateIfNeededFor_S7 (o0 : cf_O) (r : (Unit)) : Prop := True
set_option maxHeartbeats 4000000 in
set_option maxRecDepth 100000 in
theorem sAS_inflateIfNeededFor_S7 (o0 : cf_O) (k_o0 : okO I_SB o0) (f_o0_3 : (7 : Int) ≤ (o0.1 3).toInt ∧ (o0.1 3).toInt ≤ 90000) : tt (fAS_inflateIfNeededFor_S7 o0) (QAS_inflateIfNeededFor_S7 o0) := by
  have r_o0 : Fr (fr_M [] [] []) o0 o0 := fr_rfl
  unfold fAS_inflateIfNeededFor_S7 fAS_inflateIfNeededFor_S7_0
  refine tt_b (sJString_coder__S7  ) (fun q1 hq1 => ?_)
  obtain ⟨i_q1, -⟩ := hq1
  refine tt_if (fun c2 => ?_) (fun c2 => ?_)
  · try unfold fAS_inflateIfNeededFor_S7_21
    exact tt_some trivial
  · exact (dd_ne c2 (k_o0.1 1) i_q1).elim
def QJString_getBytes_ABIB_S7_SB0 (v2 : Int32) (v3 : Int32) (o0 : cf_O) (r : (cf_O)) : Prop := (okO I_SB r) ∧ (Fr (fr_M [] [0] []) o0 r) ∧ True
set_option maxHeartbeats 4000000 in
set_option maxRecDepth 100000 in
theorem sJString_getBytes_ABIB_S7_SB0 (v2 : Int32) (v3 : Int32) (o0 : cf_O) (k_o0 : okO I_SB o0) (i_v2 : (7 : Int) ≤ v2.toInt ∧ v2.toInt ≤ 90000) (i_v3 : (0 : Int) ≤ v3.toInt ∧ v3.toInt ≤ 0) (f_o0_3 : (7 : Int) ≤ (o0.1 3).toInt ∧ (o0.1 3).toInt ≤ 90000) (x_0 : 0 ≤ v2.toInt) (x_1 : v2.toInt + 9 ≤ (o0.1 0).toInt) : tt (fJString_getBytes_ABIB_S7_SB0 v2 v3 o0) (QJString_getBytes_ABIB_S7_SB0 v2 v3 o0) := by
  have r_o0 : Fr (fr_M [] [0] []) o0 o0 := fr_rfl
  unfold fJString_getBytes_ABIB_S7_SB0 fJString_getBytes_ABIB_S7_SB0_0
  have g_o0_0 : (16 : Int) ≤ (o0.1 0).toInt ∧ (o0.1 0).toInt ≤ 400000 := k_o0.1 0
  have g_o0_1 : (0 : Int) ≤ (o0.1 1).toInt ∧ (o0.1 1).toInt ≤ 0 := k_o0.1 1
  refine tt_b (sJString_coder__S7  ) (fun q1 hq1 => ?_)
  obtain ⟨i_q1, -⟩ := hq1
  refine tt_if (fun c2 => ?_) (fun c2 => ?_)
  · have wc2 : q1.toInt = v3.toInt := c_eq c2
    refine tt_kv (P := fun z => ((7 : Int) ≤ z.toInt ∧ z.toInt ≤ 90000) ∧ z.toInt = v2.toInt) ⟨iv_shl (p := 0) (q := 0) i_v2 i_v3 (by decide) (by decide) (by decide) (by decide) (by decide), sh0l i_v3⟩ (fun x3 qi4 => ?_)
    obtain ⟨i4, ei4⟩ := qi4
    refine tt_n (ac_ok (x := x3) (l := (o0.1 0)) (by omega) (by omega)) ?_
    refine tt_ko ?_
    have k5 := ok_cb (k := 0) (s := 7) (x := x3) (n := 9) k_o0 ⟨by decide, by decide⟩
    have r6 := fr_cb (k := 0) (s := 7) (x := x3) (n := 9) r_o0 rfl
    exact tt_some ⟨k5, r6, trivial⟩
  · have wc2 : ¬ q1.toInt = v3.toInt := c_ne c2
    exact (dd_ne c2 i_q1 i_v3).elim
def QAS_putStringAt_S7 (v1 : Int32) (o0 : cf_O) (r : (cf_O)) : Prop := (okO I_SB r) ∧ (Fr (fr_M [] [0] []) o0 r) ∧ True
set_option maxHeartbeats 4000000 in
set_option maxRecDepth 100000 in
theorem sAS_putStringAt_S7 (v1 : Int32) (o0 : cf_O) (k_o0 : okO I_SB o0) (i_v1 : (7 : Int) ≤ v1.toInt ∧ v1.toInt ≤ 90000) (f_o0_3 : (7 : Int) ≤ (o0.1 3).toInt ∧ (o0.1 3).toInt ≤ 90000) (x_0 : 0 ≤ v1.toInt) (x_1 : v1.toInt + 9 ≤ (o0.1 0).toInt) : tt (fAS_putStringAt_S7 v1 o0) (QAS_putStringAt_S7 v1 o0) := by
  have r_o0 : Fr (fr_M [] [0] []) o0 o0 := fr_rfl
  unfold fAS_putStringAt_S7 fAS_putStringAt_S7_0
  have g_o0_0 : (16 : Int) ≤ (o0.1 0).toInt ∧ (o0.1 0).toInt ≤ 400000 := k_o0.1 0
  have g_o0_1 : (0 : Int) ≤ (o0.1 1).toInt ∧ (o0.1 1).toInt ≤ 0 := k_o0.1 1
  refine tt_b (sAS_inflateIfNeededFor_S7 _ k_o0 f_o0_3) (fun q1 hq1 => ?_)
  refine tt_b (sJString_getBytes_ABIB_S7_SB0 _ _ _ k_o0 i_v1 (k_o0.1 1) f_o0_3 (show 0 ≤ v1.toInt by omega) (show v1.toInt + 9 ≤ (o0.1 0).toInt by omega)) (fun q2 hq2 => ?_)
  obtain ⟨k_q2, n_q2, -⟩ := hq2
  have r_q2 := fr_tr r_o0 n_q2 rfl rfl rfl
  have f_q2_3 : (7 : Int) ≤ (q2.1 3).toInt ∧ (q2.1 3).toInt ≤ 90000 := by rw [n_q2.1 3 rfl]; exact f_o0_3
  have e_q2_0 : (q2.1 0).toInt = (o0.1 0).toInt := congrArg Int32.toInt (n_q2.1 0 rfl)
  have g_q2_0 : (16 : Int) ≤ (q2.1 0).toInt ∧ (q2.1 0).toInt ≤ 400000 := k_q2.1 0
  have e_q2_1 : (q2.1 1).toInt = (o0.1 1).toInt := congrArg Int32.toInt (n_q2.1 1 rfl)
  have g_q2_1 : (0 : Int) ≤ (q2.1 1).toInt ∧ (q2.1 1).toInt ≤ 0 := k_q2.1 1
  have e_q2_3 : (q2.1 3).toInt = (o0.1 3).toInt := congrArg Int32.toInt (n_q2.1 3 rfl)
  exact tt_some ⟨k_q2, r_q2, trivial⟩
def QAS_appendS_S7 (o0 : cf_O) (r : (cf_O)) : Prop := (okO I_SB r) ∧ (Fr (fr_M [0, 3] [0] []) o0 r) ∧ ((16 : Int) ≤ (r.1 3).toInt ∧ (r.1 3).toInt ≤ 90000) ∧ ((r.1 3).toInt = (o0.1 3).toInt + 9) ∧ ((o0.1 3).toInt ≤ (r.1 3).toInt) ∧ ((r.1 3).toInt ≤ (r.1 0).toInt) ∧ True
set_option maxHeartbeats 4000000 in
set_option maxRecDepth 100000 in
theorem sAS_appendS_S7 (o0 : cf_O) (k_o0 : okO I_SB o0) (f_o0_3 : (7 : Int) ≤ (o0.1 3).toInt ∧ (o0.1 3).toInt ≤ 90000) (x_0 : (o0.1 3).toInt ≤ (o0.1 0).toInt) (x_1 : (o0.1 3).toInt ≤ 89991) : tt (fAS_appendS_S7 o0) (QAS_appendS_S7 o0) := by
  have r_o0 : Fr (fr_M [0, 3] [0] []) o0 o0 := fr_rfl
  unfold fAS_appendS_S7 fAS_appendS_S7_0
  have g_o0_0 : (16 : Int) ≤ (o0.1 0).toInt ∧ (o0.1 0).toInt ≤ 400000 := k_o0.1 0
  have g_o0_1 : (0 : Int) ≤ (o0.1 1).toInt ∧ (o0.1 1).toInt ≤ 0 := k_o0.1 1
  refine tt_b (sJString_length__S7  ) (fun q1 hq1 => ?_)
  obtain ⟨i_q1, -⟩ := hq1
  try unfold fAS_appendS_S7_13
  refine tt_kv (P := fun z => ((16 : Int) ≤ z.toInt ∧ z.toInt ≤ 90009) ∧ z.toInt = (o0.1 3).toInt + q1.toInt) ⟨iv_add f_o0_3 i_q1 (by decide) (by decide) (by decide) (by decide), iq_add f_o0_3 i_q1 (by decide) (by decide)⟩ (fun x2 qi3 => ?_)
  obtain ⟨i3, ei3⟩ := qi3
  refine tt_b (sAS_ensureCapacityInternal _ _ k_o0 (iv_w (a := 0) (b := 90010) (by decide) (by decide) i3)) (fun q4 hq4 => ?_)
  obtain ⟨k_q4, n_q4, zq4_0, zq4_1, zq4_2, -⟩ := hq4
  have r_q4 := fr_tr r_o0 n_q4 rfl rfl rfl
  have f_q4_3 : (7 : Int) ≤ (q4.1 3).toInt ∧ (q4.1 3).toInt ≤ 90000 := by rw [n_q4.1 3 rfl]; exact f_o0_3
  have g_q4_0 : (16 : Int) ≤ (q4.1 0).toInt ∧ (q4.1 0).toInt ≤ 400000 := k_q4.1 0
  have e_q4_1 : (q4.1 1).toInt = (o0.1 1).toInt := congrArg Int32.toInt (n_q4.1 1 rfl)
  have g_q4_1 : (0 : Int) ≤ (q4.1 1).toInt ∧ (q4.1 1).toInt ≤ 0 := k_q4.1 1
  have e_q4_3 : (q4.1 3).toInt = (o0.1 3).toInt := congrArg Int32.toInt (n_q4.1 3 rfl)
  have zq4_0 : x2.toInt ≤ (q4.1 0).toInt := zq4_0
  have zq4_1 : (o0.1 0).toInt ≤ (q4.1 0).toInt := zq4_1
  have zq4_2 : (q4.1 0).toInt ≤ (o0.1 0).toInt ∨ (q4.1 0).toInt ≤ 180022 := zq4_2
  try unfold fAS_appendS_S7_24
  refine tt_b (sAS_putStringAt_S7 _ _ k_q4 f_q4_3 f_q4_3 (show 0 ≤ (q4.1 3).toInt by omega) (show (q4.1 3).toInt + 9 ≤ (q4.1 0).toInt by omega)) (fun q5 hq5 => ?_)
  obtain ⟨k_q5, n_q5, -⟩ := hq5
  have r_q5 := fr_tr r_q4 n_q5 rfl rfl rfl
  have f_q5_3 : (7 : Int) ≤ (q5.1 3).toInt ∧ (q5.1 3).toInt ≤ 90000 := by rw [n_q5.1 3 rfl]; exact f_q4_3
  have e_q5_0 : (q5.1 0).toInt = (q4.1 0).toInt := congrArg Int32.toInt (n_q5.1 0 rfl)
  have g_q5_0 : (16 : Int) ≤ (q5.1 0).toInt ∧ (q5.1 0).toInt ≤ 400000 := k_q5.1 0
  have e_q5_1 : (q5.1 1).toInt = (q4.1 1).toInt := congrArg Int32.toInt (n_q5.1 1 rfl)
  have g_q5_1 : (0 : Int) ≤ (q5.1 1).toInt ∧ (q5.1 1).toInt ≤ 0 := k_q5.1 1
  have e_q5_3 : (q5.1 3).toInt = (q4.1 3).toInt := congrArg Int32.toInt (n_q5.1 3 rfl)
  try unfold fAS_appendS_S7_33
  refine tt_kv (P := fun z => ((16 : Int) ≤ z.toInt ∧ z.toInt ≤ 90009) ∧ z.toInt = (q5.1 3).toInt + q1.toInt) ⟨iv_add f_q5_3 i_q1 (by decide) (by decide) (by decide) (by decide), iq_add f_q5_3 i_q1 (by decide) (by decide)⟩ (fun x6 qi7 => ?_)
  obtain ⟨i7, ei7⟩ := qi7
  refine tt_ko ?_
  have k8 := ok_fp (k := 3) (v := x6) k_q5 (show (0 : Int) ≤ _ ∧ _ ≤ (90000 : Int) by omega)
  have i9 : (16 : Int) ≤ x6.toInt ∧ x6.toInt ≤ 90000 := (by omega)
  have r10 := fr_fp (k := 3) (v := x6) r_q5 rfl
  exact tt_some ⟨k8, r10, i9, (show x6.toInt = (o0.1 3).toInt + 9 by omega), (show (o0.1 3).toInt ≤ x6.toInt by omega), (show x6.toInt ≤ (q5.1 0).toInt by omega), trivial⟩
def QSB_appendS_S7 (o0 : cf_O) (r : (cf_O)) : Prop := (okO I_SB r) ∧ (Fr (fr_M [0, 3] [0] []) o0 r) ∧ ((16 : Int) ≤ (r.1 3).toInt ∧ (r.1 3).toInt ≤ 90000) ∧ ((r.1 3).toInt = (o0.1 3).toInt + 9) ∧ ((o0.1 3).toInt ≤ (r.1 3).toInt) ∧ ((r.1 3).toInt ≤ (r.1 0).toInt) ∧ True
set_option maxHeartbeats 4000000 in
set_option maxRecDepth 100000 in
theorem sSB_appendS_S7 (o0 : cf_O) (k_o0 : okO I_SB o0) (f_o0_3 : (7 : Int) ≤ (o0.1 3).toInt ∧ (o0.1 3).toInt ≤ 90000) (x_0 : (o0.1 3).toInt ≤ (o0.1 0).toInt) (x_1 : (o0.1 3).toInt ≤ 89991) : tt (fSB_appendS_S7 o0) (QSB_appendS_S7 o0) := by
  have r_o0 : Fr (fr_M [0, 3] [0] []) o0 o0 := fr_rfl
  unfold fSB_appendS_S7 fSB_appendS_S7_0
  have g_o0_0 : (16 : Int) ≤ (o0.1 0).toInt ∧ (o0.1 0).toInt ≤ 400000 := k_o0.1 0
  have g_o0_1 : (0 : Int) ≤ (o0.1 1).toInt ∧ (o0.1 1).toInt ≤ 0 := k_o0.1 1
  refine tt_b (sAS_appendS_S7 _ k_o0 f_o0_3 (show (o0.1 3).toInt ≤ (o0.1 0).toInt by omega) (show (o0.1 3).toInt ≤ 89991 by omega)) (fun q1 hq1 => ?_)
  obtain ⟨k_q1, n_q1, f_q1_3, zq1_0, zq1_1, zq1_2, -⟩ := hq1
  have r_q1 := fr_tr r_o0 n_q1 rfl rfl rfl
  have g_q1_0 : (16 : Int) ≤ (q1.1 0).toInt ∧ (q1.1 0).toInt ≤ 400000 := k_q1.1 0
  have e_q1_1 : (q1.1 1).toInt = (o0.1 1).toInt := congrArg Int32.toInt (n_q1.1 1 rfl)
  have g_q1_1 : (0 : Int) ≤ (q1.1 1).toInt ∧ (q1.1 1).toInt ≤ 0 := k_q1.1 1
  have zq1_0 : (q1.1 3).toInt = (o0.1 3).toInt + 9 := zq1_0
  have zq1_1 : (o0.1 3).toInt ≤ (q1.1 3).toInt := zq1_1
  have zq1_2 : (q1.1 3).toInt ≤ (q1.1 0).toInt := zq1_2
  try unfold fSB_appendS_S7_5
  exact tt_some ⟨k_q1, r_q1, f_q1_3, (show (q1.1 3).toInt = (o0.1 3).toInt + 9 by omega), (show (o0.1 3).toInt ≤ (q1.1 3).toInt by omega), (show (q1.1 3).toInt ≤ (q1.1 0).toInt by omega), trivial⟩
def QSc_writeHead (o0 : cf_O) (o1 : cf_O) (o2 : cf_O) (r : (cf_O)) : Prop := (okO I_SB r) ∧ (Fr (fr_M [0, 2, 3] [0] []) o2 r) ∧ ((8 : Int) ≤ (r.1 3).toInt ∧ (r.1 3).toInt ≤ 90000) ∧ ((r.1 3).toInt ≤ 143) ∧ ((r.1 3).toInt ≤ (r.1 0).toInt) ∧ True
def HSc_writeHead (yo0 : cf_O) (yo1 : cf_O) (yo2 : cf_O) (n : Nat) : Prop := (∀ (v2 : Int32) (o0 : cf_O) (o1 : cf_O) (o2 : cf_O), (okO I_Sc o0) → (Fr (fr_M [] [] []) yo0 o0) → (okO I_Nl o1) → (Fr (fr_M [] [] []) yo1 o1) → (okO I_SB o2) → (Fr (fr_M [0, 2, 3] [0] []) yo2 o2) → ((0 : Int) ≤ v2.toInt ∧ v2.toInt ≤ 8) → ((7 : Int) ≤ (o2.1 3).toInt ∧ (o2.1 3).toInt ≤ 90000) → ((o2.1 3).toInt ≤ (o2.1 0).toInt) → ((o2.1 3).toInt ≤ 7 + 9 * v2.toInt) → 14 + (8 - v2.toInt) * 2 < (n : Int) → tt (gSc_writeHead n 0 v2 o0 o1 o2) (QSc_writeHead yo0 yo1 yo2)) ∧ (∀ (v2 : Int32) (o0 : cf_O) (o1 : cf_O) (o2 : cf_O), (okO I_Sc o0) → (Fr (fr_M [] [] []) yo0 o0) → (okO I_Nl o1) → (Fr (fr_M [] [] []) yo1 o1) → (okO I_SB o2) → (Fr (fr_M [0, 2, 3] [0] []) yo2 o2) → ((0 : Int) ≤ v2.toInt ∧ v2.toInt ≤ 6) → ((8 : Int) ≤ (o2.1 3).toInt ∧ (o2.1 3).toInt ≤ 90000) → ((o2.1 3).toInt ≤ (o2.1 0).toInt) → ((o2.1 3).toInt ≤ 88 + 9 * v2.toInt) → 0 + (6 - v2.toInt) * 2 < (n : Int) → tt (gSc_writeHead n 1 v2 o0 o1 o2) (QSc_writeHead yo0 yo1 yo2))
set_option maxHeartbeats 4000000 in
set_option maxRecDepth 100000 in
theorem tSc_writeHead_56 {yo0 : cf_O} {yo1 : cf_O} {yo2 : cf_O} {n : Nat} (H : HSc_writeHead yo0 yo1 yo2 n) (v2 : Int32) (o0 : cf_O) (o1 : cf_O) (o2 : cf_O) (k_o0 : okO I_Sc o0) (r_o0 : Fr (fr_M [] [] []) yo0 o0) (k_o1 : okO I_Nl o1) (r_o1 : Fr (fr_M [] [] []) yo1 o1) (k_o2 : okO I_SB o2) (r_o2 : Fr (fr_M [0, 2, 3] [0] []) yo2 o2) (i_v2 : (0 : Int) ≤ v2.toInt ∧ v2.toInt ≤ 6) (f_o2_3 : (8 : Int) ≤ (o2.1 3).toInt ∧ (o2.1 3).toInt ≤ 90000) (x_0 : (o2.1 3).toInt ≤ (o2.1 0).toInt) (x_1 : (o2.1 3).toInt ≤ 88 + 9 * v2.toInt) (hm : 0 + (6 - v2.toInt) * 2 ≤ (n : Int)) : tt (fSc_writeHead_56 (gSc_writeHead n) v2 o0 o1 o2) (QSc_writeHead yo0 yo1 yo2) := by
  unfold fSc_writeHead_56
  have g_o0_0 : (0 : Int) ≤ (o0.1 0).toInt ∧ (o0.1 0).toInt ≤ 1 := k_o0.1 0
  have ey_o0_0 : (o0.1 0).toInt = (yo0.1 0).toInt := congrArg Int32.toInt (r_o0.1 0 rfl)
  have g_o0_1 : (0 : Int) ≤ (o0.1 1).toInt ∧ (o0.1 1).toInt ≤ 0 := k_o0.1 1
  have ey_o0_1 : (o0.1 1).toInt = (yo0.1 1).toInt := congrArg Int32.toInt (r_o0.1 1 rfl)
  have g_o0_3 : (0 : Int) ≤ (o0.1 3).toInt ∧ (o0.1 3).toInt ≤ 0 := k_o0.1 3
  have ey_o0_3 : (o0.1 3).toInt = (yo0.1 3).toInt := congrArg Int32.toInt (r_o0.1 3 rfl)
  have g_o1_0 : (0 : Int) ≤ (o1.1 0).toInt ∧ (o1.1 0).toInt ≤ 8 := k_o1.1 0
  have ey_o1_0 : (o1.1 0).toInt = (yo1.1 0).toInt := congrArg Int32.toInt (r_o1.1 0 rfl)
  have g_o1_1 : (0 : Int) ≤ (o1.1 1).toInt ∧ (o1.1 1).toInt ≤ 6 := k_o1.1 1
  have ey_o1_1 : (o1.1 1).toInt = (yo1.1 1).toInt := congrArg Int32.toInt (r_o1.1 1 rfl)
  have g_o1_3 : (0 : Int) ≤ (o1.1 3).toInt ∧ (o1.1 3).toInt ≤ 0 := k_o1.1 3
  have ey_o1_3 : (o1.1 3).toInt = (yo1.1 3).toInt := congrArg Int32.toInt (r_o1.1 3 rfl)
  have g_o2_0 : (16 : Int) ≤ (o2.1 0).toInt ∧ (o2.1 0).toInt ≤ 400000 := k_o2.1 0
  have g_o2_1 : (0 : Int) ≤ (o2.1 1).toInt ∧ (o2.1 1).toInt ≤ 0 := k_o2.1 1
  have ey_o2_1 : (o2.1 1).toInt = (yo2.1 1).toInt := congrArg Int32.toInt (r_o2.1 1 rfl)
  refine tt_if (fun c1 => ?_) (fun c1 => ?_)
  · have wc1 : (o1.1 1).toInt ≤ v2.toInt := c_le c1
    refine tt_b (sSB_appendC _ _ k_o2 (iv_w (a := 0) (b := 255) (by decide) (by decide) (show (10 : Int) ≤ (10 : Int32).toInt ∧ (10 : Int32).toInt ≤ 10 by decide)) (iv_w (a := 7) (b := 90000) (by decide) (by decide) f_o2_3) (show (o2.1 3).toInt ≤ (o2.1 0).toInt by omega) (show (o2.1 3).toInt ≤ 89999 by omega)) (fun q2 hq2 => ?_)
    obtain ⟨k_q2, n_q2, f_q2_3, zq2_0, zq2_1, zq2_2, -⟩ := hq2
    have r_q2 := fr_tr r_o2 n_q2 rfl rfl rfl
    have g_q2_0 : (16 : Int) ≤ (q2.1 0).toInt ∧ (q2.1 0).toInt ≤ 400000 := k_q2.1 0
    have e_q2_1 : (q2.1 1).toInt = (o2.1 1).toInt := congrArg Int32.toInt (n_q2.1 1 rfl)
    have g_q2_1 : (0 : Int) ≤ (q2.1 1).toInt ∧ (q2.1 1).toInt ≤ 0 := k_q2.1 1
    have zq2_0 : (q2.1 3).toInt = (o2.1 3).toInt + 1 := zq2_0
    have zq2_1 : (o2.1 3).toInt ≤ (q2.1 3).toInt := zq2_1
    have zq2_2 : (q2.1 3).toInt ≤ (q2.1 0).toInt := zq2_2
    try unfold fSc_writeHead_89
    exact tt_some ⟨k_q2, r_q2, f_q2_3, (show (q2.1 3).toInt ≤ 143 by omega), (show (q2.1 3).toInt ≤ (q2.1 0).toInt by omega), trivial⟩
  · have wc1 : v2.toInt < (o1.1 1).toInt := c_nle c1
    have i3 : (0 : Int) ≤ v2.toInt ∧ v2.toInt ≤ 5 := nr_nlel c1 i_v2 (k_o1.1 1) (by decide) (by decide)
    have i4 : (1 : Int) ≤ (o1.1 1).toInt ∧ (o1.1 1).toInt ≤ 6 := nr_nler c1 i_v2 (k_o1.1 1) (by decide) (by decide)
    refine tt_n (ix_ok i3 (by decide) (by decide)) ?_
    refine tt_kl (fun x5 => ?_)
    refine tt_b (sSc_writeName _ _ _ k_o0 k_o2 (iv_w (a := 7) (b := 90000) (by decide) (by decide) f_o2_3) (show (o2.1 3).toInt ≤ (o2.1 0).toInt by omega) (show (o2.1 3).toInt ≤ 89991 by omega)) (fun q6 hq6 => ?_)
    obtain ⟨k_q6, n_q6, f_q6_3, zq6_0, zq6_1, zq6_2, -⟩ := hq6
    have r_q6 := fr_tr r_o2 n_q6 rfl rfl rfl
    have g_q6_0 : (16 : Int) ≤ (q6.1 0).toInt ∧ (q6.1 0).toInt ≤ 400000 := k_q6.1 0
    have e_q6_1 : (q6.1 1).toInt = (o2.1 1).toInt := congrArg Int32.toInt (n_q6.1 1 rfl)
    have g_q6_1 : (0 : Int) ≤ (q6.1 1).toInt ∧ (q6.1 1).toInt ≤ 0 := k_q6.1 1
    have zq6_0 : (q6.1 3).toInt ≤ (o2.1 3).toInt + 9 := zq6_0
    have zq6_1 : (o2.1 3).toInt ≤ (q6.1 3).toInt := zq6_1
    have zq6_2 : (q6.1 3).toInt ≤ (q6.1 0).toInt := zq6_2
    try unfold fSc_writeHead_74
    refine tt_kv (P := fun z => ((1 : Int) ≤ z.toInt ∧ z.toInt ≤ 6) ∧ z.toInt = v2.toInt + 1) ⟨iv_add i3 (show (1 : Int) ≤ (1 : Int32).toInt ∧ (1 : Int32).toInt ≤ 1 by decide) (by decide) (by decide) (by decide) (by decide), iq_add i3 (show (1 : Int) ≤ (1 : Int32).toInt ∧ (1 : Int32).toInt ≤ 1 by decide) (by decide) (by decide)⟩ (fun x7 qi8 => ?_)
    obtain ⟨i8, ei8⟩ := qi8
    exact H.2 _ _ _ _ k_o0 r_o0 k_o1 r_o1 k_q6 r_q6 (iv_w (a := 0) (b := 6) (by decide) (by decide) i8) f_q6_3 (show (q6.1 3).toInt ≤ (q6.1 0).toInt by omega) (show (q6.1 3).toInt ≤ 88 + 9 * x7.toInt by omega) (show 0 + (6 - x7.toInt) * 2 < (n : Int) by omega)
set_option maxHeartbeats 4000000 in
set_option maxRecDepth 100000 in
theorem tSc_writeHead_20 {yo0 : cf_O} {yo1 : cf_O} {yo2 : cf_O} {n : Nat} (H : HSc_writeHead yo0 yo1 yo2 n) (v2 : Int32) (o0 : cf_O) (o1 : cf_O) (o2 : cf_O) (k_o0 : okO I_Sc o0) (r_o0 : Fr (fr_M [] [] []) yo0 o0) (k_o1 : okO I_Nl o1) (r_o1 : Fr (fr_M [] [] []) yo1 o1) (k_o2 : okO I_SB o2) (r_o2 : Fr (fr_M [0, 2, 3] [0] []) yo2 o2) (i_v2 : (0 : Int) ≤ v2.toInt ∧ v2.toInt ≤ 8) (f_o2_3 : (7 : Int) ≤ (o2.1 3).toInt ∧ (o2.1 3).toInt ≤ 90000) (x_0 : (o2.1 3).toInt ≤ (o2.1 0).toInt) (x_1 : (o2.1 3).toInt ≤ 7 + 9 * v2.toInt) (hm : 14 + (8 - v2.toInt) * 2 ≤ (n : Int)) : tt (fSc_writeHead_20 (gSc_writeHead n) v2 o0 o1 o2) (QSc_writeHead yo0 yo1 yo2) := by
  unfold fSc_writeHead_20
  have g_o0_0 : (0 : Int) ≤ (o0.1 0).toInt ∧ (o0.1 0).toInt ≤ 1 := k_o0.1 0
  have ey_o0_0 : (o0.1 0).toInt = (yo0.1 0).toInt := congrArg Int32.toInt (r_o0.1 0 rfl)
  have g_o0_1 : (0 : Int) ≤ (o0.1 1).toInt ∧ (o0.1 1).toInt ≤ 0 := k_o0.1 1
  have ey_o0_1 : (o0.1 1).toInt = (yo0.1 1).toInt := congrArg Int32.toInt (r_o0.1 1 rfl)
  have g_o0_3 : (0 : Int) ≤ (o0.1 3).toInt ∧ (o0.1 3).toInt ≤ 0 := k_o0.1 3
  have ey_o0_3 : (o0.1 3).toInt = (yo0.1 3).toInt := congrArg Int32.toInt (r_o0.1 3 rfl)
  have g_o1_0 : (0 : Int) ≤ (o1.1 0).toInt ∧ (o1.1 0).toInt ≤ 8 := k_o1.1 0
  have ey_o1_0 : (o1.1 0).toInt = (yo1.1 0).toInt := congrArg Int32.toInt (r_o1.1 0 rfl)
  have g_o1_1 : (0 : Int) ≤ (o1.1 1).toInt ∧ (o1.1 1).toInt ≤ 6 := k_o1.1 1
  have ey_o1_1 : (o1.1 1).toInt = (yo1.1 1).toInt := congrArg Int32.toInt (r_o1.1 1 rfl)
  have g_o1_3 : (0 : Int) ≤ (o1.1 3).toInt ∧ (o1.1 3).toInt ≤ 0 := k_o1.1 3
  have ey_o1_3 : (o1.1 3).toInt = (yo1.1 3).toInt := congrArg Int32.toInt (r_o1.1 3 rfl)
  have g_o2_0 : (16 : Int) ≤ (o2.1 0).toInt ∧ (o2.1 0).toInt ≤ 400000 := k_o2.1 0
  have g_o2_1 : (0 : Int) ≤ (o2.1 1).toInt ∧ (o2.1 1).toInt ≤ 0 := k_o2.1 1
  have ey_o2_1 : (o2.1 1).toInt = (yo2.1 1).toInt := congrArg Int32.toInt (r_o2.1 1 rfl)
  refine tt_if (fun c1 => ?_) (fun c1 => ?_)
  · have wc1 : (o1.1 0).toInt ≤ v2.toInt := c_le c1
    refine tt_b (sSB_appendS_S7 _ k_o2 f_o2_3 (show (o2.1 3).toInt ≤ (o2.1 0).toInt by omega) (show (o2.1 3).toInt ≤ 89991 by omega)) (fun q2 hq2 => ?_)
    obtain ⟨k_q2, n_q2, f_q2_3, zq2_0, zq2_1, zq2_2, -⟩ := hq2
    have r_q2 := fr_tr r_o2 n_q2 rfl rfl rfl
    have g_q2_0 : (16 : Int) ≤ (q2.1 0).toInt ∧ (q2.1 0).toInt ≤ 400000 := k_q2.1 0
    have e_q2_1 : (q2.1 1).toInt = (o2.1 1).toInt := congrArg Int32.toInt (n_q2.1 1 rfl)
    have g_q2_1 : (0 : Int) ≤ (q2.1 1).toInt ∧ (q2.1 1).toInt ≤ 0 := k_q2.1 1
    have zq2_0 : (q2.1 3).toInt = (o2.1 3).toInt + 9 := zq2_0
    have zq2_1 : (o2.1 3).toInt ≤ (q2.1 3).toInt := zq2_1
    have zq2_2 : (q2.1 3).toInt ≤ (q2.1 0).toInt := zq2_2
    try unfold fSc_writeHead_53
    exact H.2 _ _ _ _ k_o0 r_o0 k_o1 r_o1 k_q2 r_q2 (iv_w (a := 0) (b := 6) (by decide) (by decide) (show (0 : Int) ≤ (0 : Int32).toInt ∧ (0 : Int32).toInt ≤ 0 by decide)) (iv_w (a := 8) (b := 90000) (by decide) (by decide) f_q2_3) (show (q2.1 3).toInt ≤ (q2.1 0).toInt by omega) (show (q2.1 3).toInt ≤ 88 + 9 * 0 by omega) (show 0 + (6 - 0) * 2 < (n : Int) by omega)
  · have wc1 : v2.toInt < (o1.1 0).toInt := c_nle c1
    have i3 : (0 : Int) ≤ v2.toInt ∧ v2.toInt ≤ 7 := nr_nlel c1 i_v2 (k_o1.1 0) (by decide) (by decide)
    have i4 : (1 : Int) ≤ (o1.1 0).toInt ∧ (o1.1 0).toInt ≤ 8 := nr_nler c1 i_v2 (k_o1.1 0) (by decide) (by decide)
    refine tt_n (ix_ok i3 (by decide) (by decide)) ?_
    refine tt_kl (fun x5 => ?_)
    refine tt_b (sSc_writeName _ _ _ k_o0 k_o2 f_o2_3 (show (o2.1 3).toInt ≤ (o2.1 0).toInt by omega) (show (o2.1 3).toInt ≤ 89991 by omega)) (fun q6 hq6 => ?_)
    obtain ⟨k_q6, n_q6, f_q6_3, zq6_0, zq6_1, zq6_2, -⟩ := hq6
    have r_q6 := fr_tr r_o2 n_q6 rfl rfl rfl
    have g_q6_0 : (16 : Int) ≤ (q6.1 0).toInt ∧ (q6.1 0).toInt ≤ 400000 := k_q6.1 0
    have e_q6_1 : (q6.1 1).toInt = (o2.1 1).toInt := congrArg Int32.toInt (n_q6.1 1 rfl)
    have g_q6_1 : (0 : Int) ≤ (q6.1 1).toInt ∧ (q6.1 1).toInt ≤ 0 := k_q6.1 1
    have zq6_0 : (q6.1 3).toInt ≤ (o2.1 3).toInt + 9 := zq6_0
    have zq6_1 : (o2.1 3).toInt ≤ (q6.1 3).toInt := zq6_1
    have zq6_2 : (q6.1 3).toInt ≤ (q6.1 0).toInt := zq6_2
    try unfold fSc_writeHead_38
    refine tt_kv (P := fun z => ((1 : Int) ≤ z.toInt ∧ z.toInt ≤ 8) ∧ z.toInt = v2.toInt + 1) ⟨iv_add i3 (show (1 : Int) ≤ (1 : Int32).toInt ∧ (1 : Int32).toInt ≤ 1 by decide) (by decide) (by decide) (by decide) (by decide), iq_add i3 (show (1 : Int) ≤ (1 : Int32).toInt ∧ (1 : Int32).toInt ≤ 1 by decide) (by decide) (by decide)⟩ (fun x7 qi8 => ?_)
    obtain ⟨i8, ei8⟩ := qi8
    exact H.1 _ _ _ _ k_o0 r_o0 k_o1 r_o1 k_q6 r_q6 (iv_w (a := 0) (b := 8) (by decide) (by decide) i8) (iv_w (a := 7) (b := 90000) (by decide) (by decide) f_q6_3) (show (q6.1 3).toInt ≤ (q6.1 0).toInt by omega) (show (q6.1 3).toInt ≤ 7 + 9 * x7.toInt by omega) (show 14 + (8 - x7.toInt) * 2 < (n : Int) by omega)
set_option maxHeartbeats 4000000 in
set_option maxRecDepth 100000 in
theorem hSc_writeHead (yo0 : cf_O) (yo1 : cf_O) (yo2 : cf_O) : ∀ n, HSc_writeHead yo0 yo1 yo2 n := by
  intro n
  induction n with
  | zero => exact ⟨(fun v2 o0 o1 o2 k_o0 r_o0 k_o1 r_o1 k_o2 r_o2 i_v2 f_o2_3 x_0 x_1 hm => by exact absurd (show 14 + (8 - v2.toInt) * 2 < (0 : Int) from hm) (by omega)), (fun v2 o0 o1 o2 k_o0 r_o0 k_o1 r_o1 k_o2 r_o2 i_v2 f_o2_3 x_0 x_1 hm => by exact absurd (show 0 + (6 - v2.toInt) * 2 < (0 : Int) from hm) (by omega))⟩
  | succ n ih => exact ⟨(fun v2 o0 o1 o2 k_o0 r_o0 k_o1 r_o1 k_o2 r_o2 i_v2 f_o2_3 x_0 x_1 hm => tSc_writeHead_20 ih v2 o0 o1 o2 k_o0 r_o0 k_o1 r_o1 k_o2 r_o2 i_v2 f_o2_3 x_0 x_1 (by omega)), (fun v2 o0 o1 o2 k_o0 r_o0 k_o1 r_o1 k_o2 r_o2 i_v2 f_o2_3 x_0 x_1 hm => tSc_writeHead_56 ih v2 o0 o1 o2 k_o0 r_o0 k_o1 r_o1 k_o2 r_o2 i_v2 f_o2_3 x_0 x_1 (by omega))⟩
set_option maxHeartbeats 4000000 in
set_option maxRecDepth 100000 in
theorem sSc_writeHead (o0 : cf_O) (o1 : cf_O) (o2 : cf_O) (k_o0 : okO I_Sc o0) (k_o1 : okO I_Nl o1) (k_o2 : okO I_SB o2) (f_o0_0 : (0 : Int) ≤ (o0.1 0).toInt ∧ (o0.1 0).toInt ≤ 0) (x_0 : (o2.1 3).toInt ≤ (o2.1 0).toInt) : tt (fSc_writeHead o0 o1 o2) (QSc_writeHead o0 o1 o2) := by
  have H := hSc_writeHead o0 o1 o2 cfFU
  have hm : (33 : Int) ≤ (cfFU : Nat) := by decide
  have r_o0 : Fr (fr_M [] [] []) o0 o0 := fr_rfl
  have r_o1 : Fr (fr_M [] [] []) o1 o1 := fr_rfl
  have r_o2 : Fr (fr_M [0, 2, 3] [0] []) o2 o2 := fr_rfl
  unfold fSc_writeHead fSc_writeHead_0
  have g_o0_1 : (0 : Int) ≤ (o0.1 1).toInt ∧ (o0.1 1).toInt ≤ 0 := k_o0.1 1
  have g_o0_3 : (0 : Int) ≤ (o0.1 3).toInt ∧ (o0.1 3).toInt ≤ 0 := k_o0.1 3
  have g_o1_0 : (0 : Int) ≤ (o1.1 0).toInt ∧ (o1.1 0).toInt ≤ 8 := k_o1.1 0
  have g_o1_1 : (0 : Int) ≤ (o1.1 1).toInt ∧ (o1.1 1).toInt ≤ 6 := k_o1.1 1
  have g_o1_3 : (0 : Int) ≤ (o1.1 3).toInt ∧ (o1.1 3).toInt ≤ 0 := k_o1.1 3
  have g_o2_0 : (16 : Int) ≤ (o2.1 0).toInt ∧ (o2.1 0).toInt ≤ 400000 := k_o2.1 0
  have g_o2_1 : (0 : Int) ≤ (o2.1 1).toInt ∧ (o2.1 1).toInt ≤ 0 := k_o2.1 1
  have g_o2_3 : (0 : Int) ≤ (o2.1 3).toInt ∧ (o2.1 3).toInt ≤ 90000 := k_o2.1 3
  refine tt_b (sSB_setLength _ _ k_o2 (show (0 : Int) ≤ (0 : Int32).toInt ∧ (0 : Int32).toInt ≤ 0 by decide) (show (o2.1 3).toInt ≤ (o2.1 0).toInt by omega)) (fun q1 hq1 => ?_)
  obtain ⟨k_q1, n_q1, f_q1_3, zq1_0, zq1_1, -⟩ := hq1
  have r_q1 := fr_tr r_o2 n_q1 rfl rfl rfl
  have g_q1_0 : (16 : Int) ≤ (q1.1 0).toInt ∧ (q1.1 0).toInt ≤ 400000 := k_q1.1 0
  have e_q1_1 : (q1.1 1).toInt = (o2.1 1).toInt := congrArg Int32.toInt (n_q1.1 1 rfl)
  have g_q1_1 : (0 : Int) ≤ (q1.1 1).toInt ∧ (q1.1 1).toInt ≤ 0 := k_q1.1 1
  have zq1_0 : (q1.1 3).toInt = 0 := zq1_0
  have zq1_1 : (q1.1 3).toInt ≤ (q1.1 0).toInt := zq1_1
  try unfold fSc_writeHead_8
  refine tt_b (sSB_appendS_S6 _ k_q1 f_q1_3 (show (q1.1 3).toInt ≤ (q1.1 0).toInt by omega) (show (q1.1 3).toInt ≤ 89993 by omega)) (fun q2 hq2 => ?_)
  obtain ⟨k_q2, n_q2, f_q2_3, zq2_0, zq2_1, zq2_2, -⟩ := hq2
  have r_q2 := fr_tr r_q1 n_q2 rfl rfl rfl
  have g_q2_0 : (16 : Int) ≤ (q2.1 0).toInt ∧ (q2.1 0).toInt ≤ 400000 := k_q2.1 0
  have e_q2_1 : (q2.1 1).toInt = (q1.1 1).toInt := congrArg Int32.toInt (n_q2.1 1 rfl)
  have g_q2_1 : (0 : Int) ≤ (q2.1 1).toInt ∧ (q2.1 1).toInt ≤ 0 := k_q2.1 1
  have zq2_0 : (q2.1 3).toInt = (q1.1 3).toInt + 7 := zq2_0
  have zq2_1 : (q1.1 3).toInt ≤ (q2.1 3).toInt := zq2_1
  have zq2_2 : (q2.1 3).toInt ≤ (q2.1 0).toInt := zq2_2
  try unfold fSc_writeHead_17
  exact H.1 _ _ _ _ k_o0 r_o0 k_o1 r_o1 k_q2 r_q2 (iv_w (a := 0) (b := 8) (by decide) (by decide) (show (0 : Int) ≤ (0 : Int32).toInt ∧ (0 : Int32).toInt ≤ 0 by decide)) (iv_w (a := 7) (b := 90000) (by decide) (by decide) f_q2_3) (show (q2.1 3).toInt ≤ (q2.1 0).toInt by omega) (show (q2.1 3).toInt ≤ 7 + 9 * 0 by omega) (show 14 + (8 - 0) * 2 < ((cfFU : Nat) : Int) by omega)
def QJString_coder__S8  (r : (Int32)) : Prop := ((0 : Int) ≤ r.toInt ∧ r.toInt ≤ 0) ∧ True
set_option maxHeartbeats 4000000 in
set_option maxRecDepth 100000 in
theorem sJString_coder__S8   : tt (fJString_coder__S8 ) (QJString_coder__S8 ) := by
  unfold fJString_coder__S8 fJString_coder__S8_0
  try unfold fJString_coder__S8_14
  refine tt_w (iv_nb (show (0 : Int) ≤ (0 : Int32).toInt ∧ (0 : Int32).toInt ≤ 0 by decide) (by decide) (by decide)) ?_
  exact tt_some ⟨(show (0 : Int) ≤ (0 : Int32).toInt ∧ (0 : Int32).toInt ≤ 0 by decide), trivial⟩
def QJString_length__S8  (r : (Int32)) : Prop := ((6 : Int) ≤ r.toInt ∧ r.toInt ≤ 6) ∧ True
set_option maxHeartbeats 4000000 in
set_option maxRecDepth 100000 in
theorem sJString_length__S8   : tt (fJString_length__S8 ) (QJString_length__S8 ) := by
  unfold fJString_length__S8 fJString_length__S8_0
  refine tt_b (sJString_coder__S8  ) (fun q1 hq1 => ?_)
  obtain ⟨i_q1, -⟩ := hq1
  refine tt_kv (P := fun z => (6 : Int) ≤ z.toInt ∧ z.toInt ≤ 6) (iv_shr (p := 0) (q := 0) (show (6 : Int) ≤ (6 : Int32).toInt ∧ (6 : Int32).toInt ≤ 6 by decide) i_q1 (by decide) (by decide) (by decide) (by decide)) (fun x2 i3 => ?_)
  exact tt_some ⟨i3, trivial⟩
def QAS_inflateIfNeededFor_S8 (o0 : cf_O) (r : (Unit)) : Prop := True
set_option maxHeartbeats 4000000 in
set_option maxRecDepth 100000 in
theorem sAS_inflateIfNeededFor_S8 (o0 : cf_O) (k_o0 : okO I_SB o0) (f_o0_3 : (8 : Int) ≤ (o0.1 3).toInt ∧ (o0.1 3).toInt ≤ 90000) : tt (fAS_inflateIfNeededFor_S8 o0) (QAS_inflateIfNeededFor_S8 o0) := by
  have r_o0 : Fr (fr_M [] [] []) o0 o0 := fr_rfl
  unfold fAS_inflateIfNeededFor_S8 fAS_inflateIfNeededFor_S8_0
  refine tt_b (sJString_coder__S8  ) (fun q1 hq1 => ?_)
  obtain ⟨i_q1, -⟩ := hq1
  refine tt_if (fun c2 => ?_) (fun c2 => ?_)
  · try unfold fAS_inflateIfNeededFor_S8_21
    exact tt_some trivial
  · exact (dd_ne c2 (k_o0.1 1) i_q1).elim
def QJString_getBytes_ABIB_S8_SB0 (v2 : Int32) (v3 : Int32) (o0 : cf_O) (r : (cf_O)) : Prop := (okO I_SB r) ∧ (Fr (fr_M [] [0] []) o0 r) ∧ True
set_option maxHeartbeats 4000000 in
set_option maxRecDepth 100000 in
theorem sJString_getBytes_ABIB_S8_SB0 (v2 : Int32) (v3 : Int32) (o0 : cf_O) (k_o0 : okO I_SB o0) (i_v2 : (8 : Int) ≤ v2.toInt ∧ v2.toInt ≤ 90000) (i_v3 : (0 : Int) ≤ v3.toInt ∧ v3.toInt ≤ 0) (f_o0_3 : (8 : Int) ≤ (o0.1 3).toInt ∧ (o0.1 3).toInt ≤ 90000) (x_0 : 0 ≤ v2.toInt) (x_1 : v2.toInt + 6 ≤ (o0.1 0).toInt) : tt (fJString_getBytes_ABIB_S8_SB0 v2 v3 o0) (QJString_getBytes_ABIB_S8_SB0 v2 v3 o0) := by
  have r_o0 : Fr (fr_M [] [0] []) o0 o0 := fr_rfl
  unfold fJString_getBytes_ABIB_S8_SB0 fJString_getBytes_ABIB_S8_SB0_0
  have g_o0_0 : (16 : Int) ≤ (o0.1 0).toInt ∧ (o0.1 0).toInt ≤ 400000 := k_o0.1 0
  have g_o0_1 : (0 : Int) ≤ (o0.1 1).toInt ∧ (o0.1 1).toInt ≤ 0 := k_o0.1 1
  refine tt_b (sJString_coder__S8  ) (fun q1 hq1 => ?_)
  obtain ⟨i_q1, -⟩ := hq1
  refine tt_if (fun c2 => ?_) (fun c2 => ?_)
  · have wc2 : q1.toInt = v3.toInt := c_eq c2
    refine tt_kv (P := fun z => ((8 : Int) ≤ z.toInt ∧ z.toInt ≤ 90000) ∧ z.toInt = v2.toInt) ⟨iv_shl (p := 0) (q := 0) i_v2 i_v3 (by decide) (by decide) (by decide) (by decide) (by decide), sh0l i_v3⟩ (fun x3 qi4 => ?_)
    obtain ⟨i4, ei4⟩ := qi4
    refine tt_n (ac_ok (x := x3) (l := (o0.1 0)) (by omega) (by omega)) ?_
    refine tt_ko ?_
    have k5 := ok_cb (k := 0) (s := 8) (x := x3) (n := 6) k_o0 ⟨by decide, by decide⟩
    have r6 := fr_cb (k := 0) (s := 8) (x := x3) (n := 6) r_o0 rfl
    exact tt_some ⟨k5, r6, trivial⟩
  · have wc2 : ¬ q1.toInt = v3.toInt := c_ne c2
    exact (dd_ne c2 i_q1 i_v3).elim
def QAS_putStringAt_S8 (v1 : Int32) (o0 : cf_O) (r : (cf_O)) : Prop := (okO I_SB r) ∧ (Fr (fr_M [] [0] []) o0 r) ∧ True
set_option maxHeartbeats 4000000 in
set_option maxRecDepth 100000 in
theorem sAS_putStringAt_S8 (v1 : Int32) (o0 : cf_O) (k_o0 : okO I_SB o0) (i_v1 : (8 : Int) ≤ v1.toInt ∧ v1.toInt ≤ 90000) (f_o0_3 : (8 : Int) ≤ (o0.1 3).toInt ∧ (o0.1 3).toInt ≤ 90000) (x_0 : 0 ≤ v1.toInt) (x_1 : v1.toInt + 6 ≤ (o0.1 0).toInt) : tt (fAS_putStringAt_S8 v1 o0) (QAS_putStringAt_S8 v1 o0) := by
  have r_o0 : Fr (fr_M [] [0] []) o0 o0 := fr_rfl
  unfold fAS_putStringAt_S8 fAS_putStringAt_S8_0
  have g_o0_0 : (16 : Int) ≤ (o0.1 0).toInt ∧ (o0.1 0).toInt ≤ 400000 := k_o0.1 0
  have g_o0_1 : (0 : Int) ≤ (o0.1 1).toInt ∧ (o0.1 1).toInt ≤ 0 := k_o0.1 1
  refine tt_b (sAS_inflateIfNeededFor_S8 _ k_o0 f_o0_3) (fun q1 hq1 => ?_)
  refine tt_b (sJString_getBytes_ABIB_S8_SB0 _ _ _ k_o0 i_v1 (k_o0.1 1) f_o0_3 (show 0 ≤ v1.toInt by omega) (show v1.toInt + 6 ≤ (o0.1 0).toInt by omega)) (fun q2 hq2 => ?_)
  obtain ⟨k_q2, n_q2, -⟩ := hq2
  have r_q2 := fr_tr r_o0 n_q2 rfl rfl rfl
  have f_q2_3 : (8 : Int) ≤ (q2.1 3).toInt ∧ (q2.1 3).toInt ≤ 90000 := by rw [n_q2.1 3 rfl]; exact f_o0_3
  have e_q2_0 : (q2.1 0).toInt = (o0.1 0).toInt := congrArg Int32.toInt (n_q2.1 0 rfl)
  have g_q2_0 : (16 : Int) ≤ (q2.1 0).toInt ∧ (q2.1 0).toInt ≤ 400000 := k_q2.1 0
  have e_q2_1 : (q2.1 1).toInt = (o0.1 1).toInt := congrArg Int32.toInt (n_q2.1 1 rfl)
  have g_q2_1 : (0 : Int) ≤ (q2.1 1).toInt ∧ (q2.1 1).toInt ≤ 0 := k_q2.1 1
  have e_q2_3 : (q2.1 3).toInt = (o0.1 3).toInt := congrArg Int32.toInt (n_q2.1 3 rfl)
  exact tt_some ⟨k_q2, r_q2, trivial⟩
def QAS_appendS_S8 (o0 : cf_O) (r : (cf_O)) : Prop := (okO I_SB r) ∧ (Fr (fr_M [0, 3] [0] []) o0 r) ∧ ((14 : Int) ≤ (r.1 3).toInt ∧ (r.1 3).toInt ≤ 90000) ∧ ((r.1 3).toInt = (o0.1 3).toInt + 6) ∧ ((o0.1 3).toInt ≤ (r.1 3).toInt) ∧ ((r.1 3).toInt ≤ (r.1 0).toInt) ∧ True
set_option maxHeartbeats 4000000 in
set_option maxRecDepth 100000 in
theorem sAS_appendS_S8 (o0 : cf_O) (k_o0 : okO I_SB o0) (f_o0_3 : (8 : Int) ≤ (o0.1 3).toInt ∧ (o0.1 3).toInt ≤ 90000) (x_0 : (o0.1 3).toInt ≤ (o0.1 0).toInt) (x_1 : (o0.1 3).toInt ≤ 89994) : tt (fAS_appendS_S8 o0) (QAS_appendS_S8 o0) := by
  have r_o0 : Fr (fr_M [0, 3] [0] []) o0 o0 := fr_rfl
  unfold fAS_appendS_S8 fAS_appendS_S8_0
  have g_o0_0 : (16 : Int) ≤ (o0.1 0).toInt ∧ (o0.1 0).toInt ≤ 400000 := k_o0.1 0
  have g_o0_1 : (0 : Int) ≤ (o0.1 1).toInt ∧ (o0.1 1).toInt ≤ 0 := k_o0.1 1
  refine tt_b (sJString_length__S8  ) (fun q1 hq1 => ?_)
  obtain ⟨i_q1, -⟩ := hq1
  try unfold fAS_appendS_S8_13
  refine tt_kv (P := fun z => ((14 : Int) ≤ z.toInt ∧ z.toInt ≤ 90006) ∧ z.toInt = (o0.1 3).toInt + q1.toInt) ⟨iv_add f_o0_3 i_q1 (by decide) (by decide) (by decide) (by decide), iq_add f_o0_3 i_q1 (by decide) (by decide)⟩ (fun x2 qi3 => ?_)
  obtain ⟨i3, ei3⟩ := qi3
  refine tt_b (sAS_ensureCapacityInternal _ _ k_o0 (iv_w (a := 0) (b := 90010) (by decide) (by decide) i3)) (fun q4 hq4 => ?_)
  obtain ⟨k_q4, n_q4, zq4_0, zq4_1, zq4_2, -⟩ := hq4
  have r_q4 := fr_tr r_o0 n_q4 rfl rfl rfl
  have f_q4_3 : (8 : Int) ≤ (q4.1 3).toInt ∧ (q4.1 3).toInt ≤ 90000 := by rw [n_q4.1 3 rfl]; exact f_o0_3
  have g_q4_0 : (16 : Int) ≤ (q4.1 0).toInt ∧ (q4.1 0).toInt ≤ 400000 := k_q4.1 0
  have e_q4_1 : (q4.1 1).toInt = (o0.1 1).toInt := congrArg Int32.toInt (n_q4.1 1 rfl)
  have g_q4_1 : (0 : Int) ≤ (q4.1 1).toInt ∧ (q4.1 1).toInt ≤ 0 := k_q4.1 1
  have e_q4_3 : (q4.1 3).toInt = (o0.1 3).toInt := congrArg Int32.toInt (n_q4.1 3 rfl)
  have zq4_0 : x2.toInt ≤ (q4.1 0).toInt := zq4_0
  have zq4_1 : (o0.1 0).toInt ≤ (q4.1 0).toInt := zq4_1
  have zq4_2 : (q4.1 0).toInt ≤ (o0.1 0).toInt ∨ (q4.1 0).toInt ≤ 180022 := zq4_2
  try unfold fAS_appendS_S8_24
  refine tt_b (sAS_putStringAt_S8 _ _ k_q4 f_q4_3 f_q4_3 (show 0 ≤ (q4.1 3).toInt by omega) (show (q4.1 3).toInt + 6 ≤ (q4.1 0).toInt by omega)) (fun q5 hq5 => ?_)
  obtain ⟨k_q5, n_q5, -⟩ := hq5
  have r_q5 := fr_tr r_q4 n_q5 rfl rfl rfl
  have f_q5_3 : (8 : Int) ≤ (q5.1 3).toInt ∧ (q5.1 3).toInt ≤ 90000 := by rw [n_q5.1 3 rfl]; exact f_q4_3
  have e_q5_0 : (q5.1 0).toInt = (q4.1 0).toInt := congrArg Int32.toInt (n_q5.1 0 rfl)
  have g_q5_0 : (16 : Int) ≤ (q5.1 0).toInt ∧ (q5.1 0).toInt ≤ 400000 := k_q5.1 0
  have e_q5_1 : (q5.1 1).toInt = (q4.1 1).toInt := congrArg Int32.toInt (n_q5.1 1 rfl)
  have g_q5_1 : (0 : Int) ≤ (q5.1 1).toInt ∧ (q5.1 1).toInt ≤ 0 := k_q5.1 1
  have e_q5_3 : (q5.1 3).toInt = (q4.1 3).toInt := congrArg Int32.toInt (n_q5.1 3 rfl)
  try unfold fAS_appendS_S8_33
  refine tt_kv (P := fun z => ((14 : Int) ≤ z.toInt ∧ z.toInt ≤ 90006) ∧ z.toInt = (q5.1 3).toInt + q1.toInt) ⟨iv_add f_q5_3 i_q1 (by decide) (by decide) (by decide) (by decide), iq_add f_q5_3 i_q1 (by decide) (by decide)⟩ (fun x6 qi7 => ?_)
  obtain ⟨i7, ei7⟩ := qi7
  refine tt_ko ?_
  have k8 := ok_fp (k := 3) (v := x6) k_q5 (show (0 : Int) ≤ _ ∧ _ ≤ (90000 : Int) by omega)
  have i9 : (14 : Int) ≤ x6.toInt ∧ x6.toInt ≤ 90000 := (by omega)
  have r10 := fr_fp (k := 3) (v := x6) r_q5 rfl
  exact tt_some ⟨k8, r10, i9, (show x6.toInt = (o0.1 3).toInt + 6 by omega), (show (o0.1 3).toInt ≤ x6.toInt by omega), (show x6.toInt ≤ (q5.1 0).toInt by omega), trivial⟩
def QSB_appendS_S8 (o0 : cf_O) (r : (cf_O)) : Prop := (okO I_SB r) ∧ (Fr (fr_M [0, 3] [0] []) o0 r) ∧ ((14 : Int) ≤ (r.1 3).toInt ∧ (r.1 3).toInt ≤ 90000) ∧ ((r.1 3).toInt = (o0.1 3).toInt + 6) ∧ ((o0.1 3).toInt ≤ (r.1 3).toInt) ∧ ((r.1 3).toInt ≤ (r.1 0).toInt) ∧ True
set_option maxHeartbeats 4000000 in
set_option maxRecDepth 100000 in
theorem sSB_appendS_S8 (o0 : cf_O) (k_o0 : okO I_SB o0) (f_o0_3 : (8 : Int) ≤ (o0.1 3).toInt ∧ (o0.1 3).toInt ≤ 90000) (x_0 : (o0.1 3).toInt ≤ (o0.1 0).toInt) (x_1 : (o0.1 3).toInt ≤ 89994) : tt (fSB_appendS_S8 o0) (QSB_appendS_S8 o0) := by
  have r_o0 : Fr (fr_M [0, 3] [0] []) o0 o0 := fr_rfl
  unfold fSB_appendS_S8 fSB_appendS_S8_0
  have g_o0_0 : (16 : Int) ≤ (o0.1 0).toInt ∧ (o0.1 0).toInt ≤ 400000 := k_o0.1 0
  have g_o0_1 : (0 : Int) ≤ (o0.1 1).toInt ∧ (o0.1 1).toInt ≤ 0 := k_o0.1 1
  refine tt_b (sAS_appendS_S8 _ k_o0 f_o0_3 (show (o0.1 3).toInt ≤ (o0.1 0).toInt by omega) (show (o0.1 3).toInt ≤ 89994 by omega)) (fun q1 hq1 => ?_)
  obtain ⟨k_q1, n_q1, f_q1_3, zq1_0, zq1_1, zq1_2, -⟩ := hq1
  have r_q1 := fr_tr r_o0 n_q1 rfl rfl rfl
  have g_q1_0 : (16 : Int) ≤ (q1.1 0).toInt ∧ (q1.1 0).toInt ≤ 400000 := k_q1.1 0
  have e_q1_1 : (q1.1 1).toInt = (o0.1 1).toInt := congrArg Int32.toInt (n_q1.1 1 rfl)
  have g_q1_1 : (0 : Int) ≤ (q1.1 1).toInt ∧ (q1.1 1).toInt ≤ 0 := k_q1.1 1
  have zq1_0 : (q1.1 3).toInt = (o0.1 3).toInt + 6 := zq1_0
  have zq1_1 : (o0.1 3).toInt ≤ (q1.1 3).toInt := zq1_1
  have zq1_2 : (q1.1 3).toInt ≤ (q1.1 0).toInt := zq1_2
  try unfold fSB_appendS_S8_5
  exact tt_some ⟨k_q1, r_q1, f_q1_3, (show (q1.1 3).toInt = (o0.1 3).toInt + 6 by omega), (show (o0.1 3).toInt ≤ (q1.1 3).toInt by omega), (show (q1.1 3).toInt ≤ (q1.1 0).toInt by omega), trivial⟩
def QJString_coder__S10  (r : (Int32)) : Prop := ((0 : Int) ≤ r.toInt ∧ r.toInt ≤ 0) ∧ True
set_option maxHeartbeats 4000000 in
set_option maxRecDepth 100000 in
theorem sJString_coder__S10   : tt (fJString_coder__S10 ) (QJString_coder__S10 ) := by
  unfold fJString_coder__S10 fJString_coder__S10_0
  try unfold fJString_coder__S10_14
  refine tt_w (iv_nb (show (0 : Int) ≤ (0 : Int32).toInt ∧ (0 : Int32).toInt ≤ 0 by decide) (by decide) (by decide)) ?_
  exact tt_some ⟨(show (0 : Int) ≤ (0 : Int32).toInt ∧ (0 : Int32).toInt ≤ 0 by decide), trivial⟩
def QJString_length__S10  (r : (Int32)) : Prop := ((3 : Int) ≤ r.toInt ∧ r.toInt ≤ 3) ∧ True
set_option maxHeartbeats 4000000 in
set_option maxRecDepth 100000 in
theorem sJString_length__S10   : tt (fJString_length__S10 ) (QJString_length__S10 ) := by
  unfold fJString_length__S10 fJString_length__S10_0
  refine tt_b (sJString_coder__S10  ) (fun q1 hq1 => ?_)
  obtain ⟨i_q1, -⟩ := hq1
  refine tt_kv (P := fun z => (3 : Int) ≤ z.toInt ∧ z.toInt ≤ 3) (iv_shr (p := 0) (q := 0) (show (3 : Int) ≤ (3 : Int32).toInt ∧ (3 : Int32).toInt ≤ 3 by decide) i_q1 (by decide) (by decide) (by decide) (by decide)) (fun x2 i3 => ?_)
  exact tt_some ⟨i3, trivial⟩
def QAS_inflateIfNeededFor_S10 (o0 : cf_O) (r : (Unit)) : Prop := True
set_option maxHeartbeats 4000000 in
set_option maxRecDepth 100000 in
theorem sAS_inflateIfNeededFor_S10 (o0 : cf_O) (k_o0 : okO I_SB o0) (f_o0_3 : (8 : Int) ≤ (o0.1 3).toInt ∧ (o0.1 3).toInt ≤ 90000) : tt (fAS_inflateIfNeededFor_S10 o0) (QAS_inflateIfNeededFor_S10 o0) := by
  have r_o0 : Fr (fr_M [] [] []) o0 o0 := fr_rfl
  unfold fAS_inflateIfNeededFor_S10 fAS_inflateIfNeededFor_S10_0
  refine tt_b (sJString_coder__S10  ) (fun q1 hq1 => ?_)
  obtain ⟨i_q1, -⟩ := hq1
  refine tt_if (fun c2 => ?_) (fun c2 => ?_)
  · try unfold fAS_inflateIfNeededFor_S10_21
    exact tt_some trivial
  · exact (dd_ne c2 (k_o0.1 1) i_q1).elim
def QJString_getBytes_ABIB_S10_SB0 (v2 : Int32) (v3 : Int32) (o0 : cf_O) (r : (cf_O)) : Prop := (okO I_SB r) ∧ (Fr (fr_M [] [0] []) o0 r) ∧ True
set_option maxHeartbeats 4000000 in
set_option maxRecDepth 100000 in
theorem sJString_getBytes_ABIB_S10_SB0 (v2 : Int32) (v3 : Int32) (o0 : cf_O) (k_o0 : okO I_SB o0) (i_v2 : (8 : Int) ≤ v2.toInt ∧ v2.toInt ≤ 90000) (i_v3 : (0 : Int) ≤ v3.toInt ∧ v3.toInt ≤ 0) (f_o0_3 : (8 : Int) ≤ (o0.1 3).toInt ∧ (o0.1 3).toInt ≤ 90000) (x_0 : 0 ≤ v2.toInt) (x_1 : v2.toInt + 3 ≤ (o0.1 0).toInt) : tt (fJString_getBytes_ABIB_S10_SB0 v2 v3 o0) (QJString_getBytes_ABIB_S10_SB0 v2 v3 o0) := by
  have r_o0 : Fr (fr_M [] [0] []) o0 o0 := fr_rfl
  unfold fJString_getBytes_ABIB_S10_SB0 fJString_getBytes_ABIB_S10_SB0_0
  have g_o0_0 : (16 : Int) ≤ (o0.1 0).toInt ∧ (o0.1 0).toInt ≤ 400000 := k_o0.1 0
  have g_o0_1 : (0 : Int) ≤ (o0.1 1).toInt ∧ (o0.1 1).toInt ≤ 0 := k_o0.1 1
  refine tt_b (sJString_coder__S10  ) (fun q1 hq1 => ?_)
  obtain ⟨i_q1, -⟩ := hq1
  refine tt_if (fun c2 => ?_) (fun c2 => ?_)
  · have wc2 : q1.toInt = v3.toInt := c_eq c2
    refine tt_kv (P := fun z => ((8 : Int) ≤ z.toInt ∧ z.toInt ≤ 90000) ∧ z.toInt = v2.toInt) ⟨iv_shl (p := 0) (q := 0) i_v2 i_v3 (by decide) (by decide) (by decide) (by decide) (by decide), sh0l i_v3⟩ (fun x3 qi4 => ?_)
    obtain ⟨i4, ei4⟩ := qi4
    refine tt_n (ac_ok (x := x3) (l := (o0.1 0)) (by omega) (by omega)) ?_
    refine tt_ko ?_
    have k5 := ok_cb (k := 0) (s := 10) (x := x3) (n := 3) k_o0 ⟨by decide, by decide⟩
    have r6 := fr_cb (k := 0) (s := 10) (x := x3) (n := 3) r_o0 rfl
    exact tt_some ⟨k5, r6, trivial⟩
  · have wc2 : ¬ q1.toInt = v3.toInt := c_ne c2
    exact (dd_ne c2 i_q1 i_v3).elim
def QAS_putStringAt_S10 (v1 : Int32) (o0 : cf_O) (r : (cf_O)) : Prop := (okO I_SB r) ∧ (Fr (fr_M [] [0] []) o0 r) ∧ True
set_option maxHeartbeats 4000000 in
set_option maxRecDepth 100000 in
theorem sAS_putStringAt_S10 (v1 : Int32) (o0 : cf_O) (k_o0 : okO I_SB o0) (i_v1 : (8 : Int) ≤ v1.toInt ∧ v1.toInt ≤ 90000) (f_o0_3 : (8 : Int) ≤ (o0.1 3).toInt ∧ (o0.1 3).toInt ≤ 90000) (x_0 : 0 ≤ v1.toInt) (x_1 : v1.toInt + 3 ≤ (o0.1 0).toInt) : tt (fAS_putStringAt_S10 v1 o0) (QAS_putStringAt_S10 v1 o0) := by
  have r_o0 : Fr (fr_M [] [0] []) o0 o0 := fr_rfl
  unfold fAS_putStringAt_S10 fAS_putStringAt_S10_0
  have g_o0_0 : (16 : Int) ≤ (o0.1 0).toInt ∧ (o0.1 0).toInt ≤ 400000 := k_o0.1 0
  have g_o0_1 : (0 : Int) ≤ (o0.1 1).toInt ∧ (o0.1 1).toInt ≤ 0 := k_o0.1 1
  refine tt_b (sAS_inflateIfNeededFor_S10 _ k_o0 f_o0_3) (fun q1 hq1 => ?_)
  refine tt_b (sJString_getBytes_ABIB_S10_SB0 _ _ _ k_o0 i_v1 (k_o0.1 1) f_o0_3 (show 0 ≤ v1.toInt by omega) (show v1.toInt + 3 ≤ (o0.1 0).toInt by omega)) (fun q2 hq2 => ?_)
  obtain ⟨k_q2, n_q2, -⟩ := hq2
  have r_q2 := fr_tr r_o0 n_q2 rfl rfl rfl
  have f_q2_3 : (8 : Int) ≤ (q2.1 3).toInt ∧ (q2.1 3).toInt ≤ 90000 := by rw [n_q2.1 3 rfl]; exact f_o0_3
  have e_q2_0 : (q2.1 0).toInt = (o0.1 0).toInt := congrArg Int32.toInt (n_q2.1 0 rfl)
  have g_q2_0 : (16 : Int) ≤ (q2.1 0).toInt ∧ (q2.1 0).toInt ≤ 400000 := k_q2.1 0
  have e_q2_1 : (q2.1 1).toInt = (o0.1 1).toInt := congrArg Int32.toInt (n_q2.1 1 rfl)
  have g_q2_1 : (0 : Int) ≤ (q2.1 1).toInt ∧ (q2.1 1).toInt ≤ 0 := k_q2.1 1
  have e_q2_3 : (q2.1 3).toInt = (o0.1 3).toInt := congrArg Int32.toInt (n_q2.1 3 rfl)
  exact tt_some ⟨k_q2, r_q2, trivial⟩
def QAS_appendS_S10 (o0 : cf_O) (r : (cf_O)) : Prop := (okO I_SB r) ∧ (Fr (fr_M [0, 3] [0] []) o0 r) ∧ ((11 : Int) ≤ (r.1 3).toInt ∧ (r.1 3).toInt ≤ 90000) ∧ ((r.1 3).toInt = (o0.1 3).toInt + 3) ∧ ((o0.1 3).toInt ≤ (r.1 3).toInt) ∧ ((r.1 3).toInt ≤ (r.1 0).toInt) ∧ True
set_option maxHeartbeats 4000000 in
set_option maxRecDepth 100000 in
theorem sAS_appendS_S10 (o0 : cf_O) (k_o0 : okO I_SB o0) (f_o0_3 : (8 : Int) ≤ (o0.1 3).toInt ∧ (o0.1 3).toInt ≤ 90000) (x_0 : (o0.1 3).toInt ≤ (o0.1 0).toInt) (x_1 : (o0.1 3).toInt ≤ 89997) : tt (fAS_appendS_S10 o0) (QAS_appendS_S10 o0) := by
  have r_o0 : Fr (fr_M [0, 3] [0] []) o0 o0 := fr_rfl
  unfold fAS_appendS_S10 fAS_appendS_S10_0
  have g_o0_0 : (16 : Int) ≤ (o0.1 0).toInt ∧ (o0.1 0).toInt ≤ 400000 := k_o0.1 0
  have g_o0_1 : (0 : Int) ≤ (o0.1 1).toInt ∧ (o0.1 1).toInt ≤ 0 := k_o0.1 1
  refine tt_b (sJString_length__S10  ) (fun q1 hq1 => ?_)
  obtain ⟨i_q1, -⟩ := hq1
  try unfold fAS_appendS_S10_13
  refine tt_kv (P := fun z => ((11 : Int) ≤ z.toInt ∧ z.toInt ≤ 90003) ∧ z.toInt = (o0.1 3).toInt + q1.toInt) ⟨iv_add f_o0_3 i_q1 (by decide) (by decide) (by decide) (by decide), iq_add f_o0_3 i_q1 (by decide) (by decide)⟩ (fun x2 qi3 => ?_)
  obtain ⟨i3, ei3⟩ := qi3
  refine tt_b (sAS_ensureCapacityInternal _ _ k_o0 (iv_w (a := 0) (b := 90010) (by decide) (by decide) i3)) (fun q4 hq4 => ?_)
  obtain ⟨k_q4, n_q4, zq4_0, zq4_1, zq4_2, -⟩ := hq4
  have r_q4 := fr_tr r_o0 n_q4 rfl rfl rfl
  have f_q4_3 : (8 : Int) ≤ (q4.1 3).toInt ∧ (q4.1 3).toInt ≤ 90000 := by rw [n_q4.1 3 rfl]; exact f_o0_3
  have g_q4_0 : (16 : Int) ≤ (q4.1 0).toInt ∧ (q4.1 0).toInt ≤ 400000 := k_q4.1 0
  have e_q4_1 : (q4.1 1).toInt = (o0.1 1).toInt := congrArg Int32.toInt (n_q4.1 1 rfl)
  have g_q4_1 : (0 : Int) ≤ (q4.1 1).toInt ∧ (q4.1 1).toInt ≤ 0 := k_q4.1 1
  have e_q4_3 : (q4.1 3).toInt = (o0.1 3).toInt := congrArg Int32.toInt (n_q4.1 3 rfl)
  have zq4_0 : x2.toInt ≤ (q4.1 0).toInt := zq4_0
  have zq4_1 : (o0.1 0).toInt ≤ (q4.1 0).toInt := zq4_1
  have zq4_2 : (q4.1 0).toInt ≤ (o0.1 0).toInt ∨ (q4.1 0).toInt ≤ 180022 := zq4_2
  try unfold fAS_appendS_S10_24
  refine tt_b (sAS_putStringAt_S10 _ _ k_q4 f_q4_3 f_q4_3 (show 0 ≤ (q4.1 3).toInt by omega) (show (q4.1 3).toInt + 3 ≤ (q4.1 0).toInt by omega)) (fun q5 hq5 => ?_)
  obtain ⟨k_q5, n_q5, -⟩ := hq5
  have r_q5 := fr_tr r_q4 n_q5 rfl rfl rfl
  have f_q5_3 : (8 : Int) ≤ (q5.1 3).toInt ∧ (q5.1 3).toInt ≤ 90000 := by rw [n_q5.1 3 rfl]; exact f_q4_3
  have e_q5_0 : (q5.1 0).toInt = (q4.1 0).toInt := congrArg Int32.toInt (n_q5.1 0 rfl)
  have g_q5_0 : (16 : Int) ≤ (q5.1 0).toInt ∧ (q5.1 0).toInt ≤ 400000 := k_q5.1 0
  have e_q5_1 : (q5.1 1).toInt = (q4.1 1).toInt := congrArg Int32.toInt (n_q5.1 1 rfl)
  have g_q5_1 : (0 : Int) ≤ (q5.1 1).toInt ∧ (q5.1 1).toInt ≤ 0 := k_q5.1 1
  have e_q5_3 : (q5.1 3).toInt = (q4.1 3).toInt := congrArg Int32.toInt (n_q5.1 3 rfl)
  try unfold fAS_appendS_S10_33
  refine tt_kv (P := fun z => ((11 : Int) ≤ z.toInt ∧ z.toInt ≤ 90003) ∧ z.toInt = (q5.1 3).toInt + q1.toInt) ⟨iv_add f_q5_3 i_q1 (by decide) (by decide) (by decide) (by decide), iq_add f_q5_3 i_q1 (by decide) (by decide)⟩ (fun x6 qi7 => ?_)
  obtain ⟨i7, ei7⟩ := qi7
  refine tt_ko ?_
  have k8 := ok_fp (k := 3) (v := x6) k_q5 (show (0 : Int) ≤ _ ∧ _ ≤ (90000 : Int) by omega)
  have i9 : (11 : Int) ≤ x6.toInt ∧ x6.toInt ≤ 90000 := (by omega)
  have r10 := fr_fp (k := 3) (v := x6) r_q5 rfl
  exact tt_some ⟨k8, r10, i9, (show x6.toInt = (o0.1 3).toInt + 3 by omega), (show (o0.1 3).toInt ≤ x6.toInt by omega), (show x6.toInt ≤ (q5.1 0).toInt by omega), trivial⟩
def QSB_appendS_S10 (o0 : cf_O) (r : (cf_O)) : Prop := (okO I_SB r) ∧ (Fr (fr_M [0, 3] [0] []) o0 r) ∧ ((11 : Int) ≤ (r.1 3).toInt ∧ (r.1 3).toInt ≤ 90000) ∧ ((r.1 3).toInt = (o0.1 3).toInt + 3) ∧ ((o0.1 3).toInt ≤ (r.1 3).toInt) ∧ ((r.1 3).toInt ≤ (r.1 0).toInt) ∧ True
set_option maxHeartbeats 4000000 in
set_option maxRecDepth 100000 in
theorem sSB_appendS_S10 (o0 : cf_O) (k_o0 : okO I_SB o0) (f_o0_3 : (8 : Int) ≤ (o0.1 3).toInt ∧ (o0.1 3).toInt ≤ 90000) (x_0 : (o0.1 3).toInt ≤ (o0.1 0).toInt) (x_1 : (o0.1 3).toInt ≤ 89997) : tt (fSB_appendS_S10 o0) (QSB_appendS_S10 o0) := by
  have r_o0 : Fr (fr_M [0, 3] [0] []) o0 o0 := fr_rfl
  unfold fSB_appendS_S10 fSB_appendS_S10_0
  have g_o0_0 : (16 : Int) ≤ (o0.1 0).toInt ∧ (o0.1 0).toInt ≤ 400000 := k_o0.1 0
  have g_o0_1 : (0 : Int) ≤ (o0.1 1).toInt ∧ (o0.1 1).toInt ≤ 0 := k_o0.1 1
  refine tt_b (sAS_appendS_S10 _ k_o0 f_o0_3 (show (o0.1 3).toInt ≤ (o0.1 0).toInt by omega) (show (o0.1 3).toInt ≤ 89997 by omega)) (fun q1 hq1 => ?_)
  obtain ⟨k_q1, n_q1, f_q1_3, zq1_0, zq1_1, zq1_2, -⟩ := hq1
  have r_q1 := fr_tr r_o0 n_q1 rfl rfl rfl
  have g_q1_0 : (16 : Int) ≤ (q1.1 0).toInt ∧ (q1.1 0).toInt ≤ 400000 := k_q1.1 0
  have e_q1_1 : (q1.1 1).toInt = (o0.1 1).toInt := congrArg Int32.toInt (n_q1.1 1 rfl)
  have g_q1_1 : (0 : Int) ≤ (q1.1 1).toInt ∧ (q1.1 1).toInt ≤ 0 := k_q1.1 1
  have zq1_0 : (q1.1 3).toInt = (o0.1 3).toInt + 3 := zq1_0
  have zq1_1 : (o0.1 3).toInt ≤ (q1.1 3).toInt := zq1_1
  have zq1_2 : (q1.1 3).toInt ≤ (q1.1 0).toInt := zq1_2
  try unfold fSB_appendS_S10_5
  exact tt_some ⟨k_q1, r_q1, f_q1_3, (show (q1.1 3).toInt = (o0.1 3).toInt + 3 by omega), (show (o0.1 3).toInt ≤ (q1.1 3).toInt by omega), (show (q1.1 3).toInt ≤ (q1.1 0).toInt by omega), trivial⟩
def QJString_coder__S9  (r : (Int32)) : Prop := ((0 : Int) ≤ r.toInt ∧ r.toInt ≤ 0) ∧ True
set_option maxHeartbeats 4000000 in
set_option maxRecDepth 100000 in
theorem sJString_coder__S9   : tt (fJString_coder__S9 ) (QJString_coder__S9 ) := by
  unfold fJString_coder__S9 fJString_coder__S9_0
  try unfold fJString_coder__S9_14
  refine tt_w (iv_nb (show (0 : Int) ≤ (0 : Int32).toInt ∧ (0 : Int32).toInt ≤ 0 by decide) (by decide) (by decide)) ?_
  exact tt_some ⟨(show (0 : Int) ≤ (0 : Int32).toInt ∧ (0 : Int32).toInt ≤ 0 by decide), trivial⟩
def QJString_length__S9  (r : (Int32)) : Prop := ((3 : Int) ≤ r.toInt ∧ r.toInt ≤ 3) ∧ True
set_option maxHeartbeats 4000000 in
set_option maxRecDepth 100000 in
theorem sJString_length__S9   : tt (fJString_length__S9 ) (QJString_length__S9 ) := by
  unfold fJString_length__S9 fJString_length__S9_0
  refine tt_b (sJString_coder__S9  ) (fun q1 hq1 => ?_)
  obtain ⟨i_q1, -⟩ := hq1
  refine tt_kv (P := fun z => (3 : Int) ≤ z.toInt ∧ z.toInt ≤ 3) (iv_shr (p := 0) (q := 0) (show (3 : Int) ≤ (3 : Int32).toInt ∧ (3 : Int32).toInt ≤ 3 by decide) i_q1 (by decide) (by decide) (by decide) (by decide)) (fun x2 i3 => ?_)
  exact tt_some ⟨i3, trivial⟩
def QAS_inflateIfNeededFor_S9 (o0 : cf_O) (r : (Unit)) : Prop := True
set_option maxHeartbeats 4000000 in
set_option maxRecDepth 100000 in
theorem sAS_inflateIfNeededFor_S9 (o0 : cf_O) (k_o0 : okO I_SB o0) (f_o0_3 : (8 : Int) ≤ (o0.1 3).toInt ∧ (o0.1 3).toInt ≤ 90000) : tt (fAS_inflateIfNeededFor_S9 o0) (QAS_inflateIfNeededFor_S9 o0) := by
  have r_o0 : Fr (fr_M [] [] []) o0 o0 := fr_rfl
  unfold fAS_inflateIfNeededFor_S9 fAS_inflateIfNeededFor_S9_0
  refine tt_b (sJString_coder__S9  ) (fun q1 hq1 => ?_)
  obtain ⟨i_q1, -⟩ := hq1
  refine tt_if (fun c2 => ?_) (fun c2 => ?_)
  · try unfold fAS_inflateIfNeededFor_S9_21
    exact tt_some trivial
  · exact (dd_ne c2 (k_o0.1 1) i_q1).elim
def QJString_getBytes_ABIB_S9_SB0 (v2 : Int32) (v3 : Int32) (o0 : cf_O) (r : (cf_O)) : Prop := (okO I_SB r) ∧ (Fr (fr_M [] [0] []) o0 r) ∧ True
set_option maxHeartbeats 4000000 in
set_option maxRecDepth 100000 in
theorem sJString_getBytes_ABIB_S9_SB0 (v2 : Int32) (v3 : Int32) (o0 : cf_O) (k_o0 : okO I_SB o0) (i_v2 : (8 : Int) ≤ v2.toInt ∧ v2.toInt ≤ 90000) (i_v3 : (0 : Int) ≤ v3.toInt ∧ v3.toInt ≤ 0) (f_o0_3 : (8 : Int) ≤ (o0.1 3).toInt ∧ (o0.1 3).toInt ≤ 90000) (x_0 : 0 ≤ v2.toInt) (x_1 : v2.toInt + 3 ≤ (o0.1 0).toInt) : tt (fJString_getBytes_ABIB_S9_SB0 v2 v3 o0) (QJString_getBytes_ABIB_S9_SB0 v2 v3 o0) := by
  have r_o0 : Fr (fr_M [] [0] []) o0 o0 := fr_rfl
  unfold fJString_getBytes_ABIB_S9_SB0 fJString_getBytes_ABIB_S9_SB0_0
  have g_o0_0 : (16 : Int) ≤ (o0.1 0).toInt ∧ (o0.1 0).toInt ≤ 400000 := k_o0.1 0
  have g_o0_1 : (0 : Int) ≤ (o0.1 1).toInt ∧ (o0.1 1).toInt ≤ 0 := k_o0.1 1
  refine tt_b (sJString_coder__S9  ) (fun q1 hq1 => ?_)
  obtain ⟨i_q1, -⟩ := hq1
  refine tt_if (fun c2 => ?_) (fun c2 => ?_)
  · have wc2 : q1.toInt = v3.toInt := c_eq c2
    refine tt_kv (P := fun z => ((8 : Int) ≤ z.toInt ∧ z.toInt ≤ 90000) ∧ z.toInt = v2.toInt) ⟨iv_shl (p := 0) (q := 0) i_v2 i_v3 (by decide) (by decide) (by decide) (by decide) (by decide), sh0l i_v3⟩ (fun x3 qi4 => ?_)
    obtain ⟨i4, ei4⟩ := qi4
    refine tt_n (ac_ok (x := x3) (l := (o0.1 0)) (by omega) (by omega)) ?_
    refine tt_ko ?_
    have k5 := ok_cb (k := 0) (s := 9) (x := x3) (n := 3) k_o0 ⟨by decide, by decide⟩
    have r6 := fr_cb (k := 0) (s := 9) (x := x3) (n := 3) r_o0 rfl
    exact tt_some ⟨k5, r6, trivial⟩
  · have wc2 : ¬ q1.toInt = v3.toInt := c_ne c2
    exact (dd_ne c2 i_q1 i_v3).elim
def QAS_putStringAt_S9 (v1 : Int32) (o0 : cf_O) (r : (cf_O)) : Prop := (okO I_SB r) ∧ (Fr (fr_M [] [0] []) o0 r) ∧ True
set_option maxHeartbeats 4000000 in
set_option maxRecDepth 100000 in
theorem sAS_putStringAt_S9 (v1 : Int32) (o0 : cf_O) (k_o0 : okO I_SB o0) (i_v1 : (8 : Int) ≤ v1.toInt ∧ v1.toInt ≤ 90000) (f_o0_3 : (8 : Int) ≤ (o0.1 3).toInt ∧ (o0.1 3).toInt ≤ 90000) (x_0 : 0 ≤ v1.toInt) (x_1 : v1.toInt + 3 ≤ (o0.1 0).toInt) : tt (fAS_putStringAt_S9 v1 o0) (QAS_putStringAt_S9 v1 o0) := by
  have r_o0 : Fr (fr_M [] [0] []) o0 o0 := fr_rfl
  unfold fAS_putStringAt_S9 fAS_putStringAt_S9_0
  have g_o0_0 : (16 : Int) ≤ (o0.1 0).toInt ∧ (o0.1 0).toInt ≤ 400000 := k_o0.1 0
  have g_o0_1 : (0 : Int) ≤ (o0.1 1).toInt ∧ (o0.1 1).toInt ≤ 0 := k_o0.1 1
  refine tt_b (sAS_inflateIfNeededFor_S9 _ k_o0 f_o0_3) (fun q1 hq1 => ?_)
  refine tt_b (sJString_getBytes_ABIB_S9_SB0 _ _ _ k_o0 i_v1 (k_o0.1 1) f_o0_3 (show 0 ≤ v1.toInt by omega) (show v1.toInt + 3 ≤ (o0.1 0).toInt by omega)) (fun q2 hq2 => ?_)
  obtain ⟨k_q2, n_q2, -⟩ := hq2
  have r_q2 := fr_tr r_o0 n_q2 rfl rfl rfl
  have f_q2_3 : (8 : Int) ≤ (q2.1 3).toInt ∧ (q2.1 3).toInt ≤ 90000 := by rw [n_q2.1 3 rfl]; exact f_o0_3
  have e_q2_0 : (q2.1 0).toInt = (o0.1 0).toInt := congrArg Int32.toInt (n_q2.1 0 rfl)
  have g_q2_0 : (16 : Int) ≤ (q2.1 0).toInt ∧ (q2.1 0).toInt ≤ 400000 := k_q2.1 0
  have e_q2_1 : (q2.1 1).toInt = (o0.1 1).toInt := congrArg Int32.toInt (n_q2.1 1 rfl)
  have g_q2_1 : (0 : Int) ≤ (q2.1 1).toInt ∧ (q2.1 1).toInt ≤ 0 := k_q2.1 1
  have e_q2_3 : (q2.1 3).toInt = (o0.1 3).toInt := congrArg Int32.toInt (n_q2.1 3 rfl)
  exact tt_some ⟨k_q2, r_q2, trivial⟩
def QAS_appendS_S9 (o0 : cf_O) (r : (cf_O)) : Prop := (okO I_SB r) ∧ (Fr (fr_M [0, 3] [0] []) o0 r) ∧ ((11 : Int) ≤ (r.1 3).toInt ∧ (r.1 3).toInt ≤ 90000) ∧ ((r.1 3).toInt = (o0.1 3).toInt + 3) ∧ ((o0.1 3).toInt ≤ (r.1 3).toInt) ∧ ((r.1 3).toInt ≤ (r.1 0).toInt) ∧ True
set_option maxHeartbeats 4000000 in
set_option maxRecDepth 100000 in
theorem sAS_appendS_S9 (o0 : cf_O) (k_o0 : okO I_SB o0) (f_o0_3 : (8 : Int) ≤ (o0.1 3).toInt ∧ (o0.1 3).toInt ≤ 90000) (x_0 : (o0.1 3).toInt ≤ (o0.1 0).toInt) (x_1 : (o0.1 3).toInt ≤ 89997) : tt (fAS_appendS_S9 o0) (QAS_appendS_S9 o0) := by
  have r_o0 : Fr (fr_M [0, 3] [0] []) o0 o0 := fr_rfl
  unfold fAS_appendS_S9 fAS_appendS_S9_0
  have g_o0_0 : (16 : Int) ≤ (o0.1 0).toInt ∧ (o0.1 0).toInt ≤ 400000 := k_o0.1 0
  have g_o0_1 : (0 : Int) ≤ (o0.1 1).toInt ∧ (o0.1 1).toInt ≤ 0 := k_o0.1 1
  refine tt_b (sJString_length__S9  ) (fun q1 hq1 => ?_)
  obtain ⟨i_q1, -⟩ := hq1
  try unfold fAS_appendS_S9_13
  refine tt_kv (P := fun z => ((11 : Int) ≤ z.toInt ∧ z.toInt ≤ 90003) ∧ z.toInt = (o0.1 3).toInt + q1.toInt) ⟨iv_add f_o0_3 i_q1 (by decide) (by decide) (by decide) (by decide), iq_add f_o0_3 i_q1 (by decide) (by decide)⟩ (fun x2 qi3 => ?_)
  obtain ⟨i3, ei3⟩ := qi3
  refine tt_b (sAS_ensureCapacityInternal _ _ k_o0 (iv_w (a := 0) (b := 90010) (by decide) (by decide) i3)) (fun q4 hq4 => ?_)
  obtain ⟨k_q4, n_q4, zq4_0, zq4_1, zq4_2, -⟩ := hq4
  have r_q4 := fr_tr r_o0 n_q4 rfl rfl rfl
  have f_q4_3 : (8 : Int) ≤ (q4.1 3).toInt ∧ (q4.1 3).toInt ≤ 90000 := by rw [n_q4.1 3 rfl]; exact f_o0_3
  have g_q4_0 : (16 : Int) ≤ (q4.1 0).toInt ∧ (q4.1 0).toInt ≤ 400000 := k_q4.1 0
  have e_q4_1 : (q4.1 1).toInt = (o0.1 1).toInt := congrArg Int32.toInt (n_q4.1 1 rfl)
  have g_q4_1 : (0 : Int) ≤ (q4.1 1).toInt ∧ (q4.1 1).toInt ≤ 0 := k_q4.1 1
  have e_q4_3 : (q4.1 3).toInt = (o0.1 3).toInt := congrArg Int32.toInt (n_q4.1 3 rfl)
  have zq4_0 : x2.toInt ≤ (q4.1 0).toInt := zq4_0
  have zq4_1 : (o0.1 0).toInt ≤ (q4.1 0).toInt := zq4_1
  have zq4_2 : (q4.1 0).toInt ≤ (o0.1 0).toInt ∨ (q4.1 0).toInt ≤ 180022 := zq4_2
  try unfold fAS_appendS_S9_24
  refine tt_b (sAS_putStringAt_S9 _ _ k_q4 f_q4_3 f_q4_3 (show 0 ≤ (q4.1 3).toInt by omega) (show (q4.1 3).toInt + 3 ≤ (q4.1 0).toInt by omega)) (fun q5 hq5 => ?_)
  obtain ⟨k_q5, n_q5, -⟩ := hq5
  have r_q5 := fr_tr r_q4 n_q5 rfl rfl rfl
  have f_q5_3 : (8 : Int) ≤ (q5.1 3).toInt ∧ (q5.1 3).toInt ≤ 90000 := by rw [n_q5.1 3 rfl]; exact f_q4_3
  have e_q5_0 : (q5.1 0).toInt = (q4.1 0).toInt := congrArg Int32.toInt (n_q5.1 0 rfl)
  have g_q5_0 : (16 : Int) ≤ (q5.1 0).toInt ∧ (q5.1 0).toInt ≤ 400000 := k_q5.1 0
  have e_q5_1 : (q5.1 1).toInt = (q4.1 1).toInt := congrArg Int32.toInt (n_q5.1 1 rfl)
  have g_q5_1 : (0 : Int) ≤ (q5.1 1).toInt ∧ (q5.1 1).toInt ≤ 0 := k_q5.1 1
  have e_q5_3 : (q5.1 3).toInt = (q4.1 3).toInt := congrArg Int32.toInt (n_q5.1 3 rfl)
  try unfold fAS_appendS_S9_33
  refine tt_kv (P := fun z => ((11 : Int) ≤ z.toInt ∧ z.toInt ≤ 90003) ∧ z.toInt = (q5.1 3).toInt + q1.toInt) ⟨iv_add f_q5_3 i_q1 (by decide) (by decide) (by decide) (by decide), iq_add f_q5_3 i_q1 (by decide) (by decide)⟩ (fun x6 qi7 => ?_)
  obtain ⟨i7, ei7⟩ := qi7
  refine tt_ko ?_
  have k8 := ok_fp (k := 3) (v := x6) k_q5 (show (0 : Int) ≤ _ ∧ _ ≤ (90000 : Int) by omega)
  have i9 : (11 : Int) ≤ x6.toInt ∧ x6.toInt ≤ 90000 := (by omega)
  have r10 := fr_fp (k := 3) (v := x6) r_q5 rfl
  exact tt_some ⟨k8, r10, i9, (show x6.toInt = (o0.1 3).toInt + 3 by omega), (show (o0.1 3).toInt ≤ x6.toInt by omega), (show x6.toInt ≤ (q5.1 0).toInt by omega), trivial⟩
def QSB_appendS_S9 (o0 : cf_O) (r : (cf_O)) : Prop := (okO I_SB r) ∧ (Fr (fr_M [0, 3] [0] []) o0 r) ∧ ((11 : Int) ≤ (r.1 3).toInt ∧ (r.1 3).toInt ≤ 90000) ∧ ((r.1 3).toInt = (o0.1 3).toInt + 3) ∧ ((o0.1 3).toInt ≤ (r.1 3).toInt) ∧ ((r.1 3).toInt ≤ (r.1 0).toInt) ∧ True
set_option maxHeartbeats 4000000 in
set_option maxRecDepth 100000 in
theorem sSB_appendS_S9 (o0 : cf_O) (k_o0 : okO I_SB o0) (f_o0_3 : (8 : Int) ≤ (o0.1 3).toInt ∧ (o0.1 3).toInt ≤ 90000) (x_0 : (o0.1 3).toInt ≤ (o0.1 0).toInt) (x_1 : (o0.1 3).toInt ≤ 89997) : tt (fSB_appendS_S9 o0) (QSB_appendS_S9 o0) := by
  have r_o0 : Fr (fr_M [0, 3] [0] []) o0 o0 := fr_rfl
  unfold fSB_appendS_S9 fSB_appendS_S9_0
  have g_o0_0 : (16 : Int) ≤ (o0.1 0).toInt ∧ (o0.1 0).toInt ≤ 400000 := k_o0.1 0
  have g_o0_1 : (0 : Int) ≤ (o0.1 1).toInt ∧ (o0.1 1).toInt ≤ 0 := k_o0.1 1
  refine tt_b (sAS_appendS_S9 _ k_o0 f_o0_3 (show (o0.1 3).toInt ≤ (o0.1 0).toInt by omega) (show (o0.1 3).toInt ≤ 89997 by omega)) (fun q1 hq1 => ?_)
  obtain ⟨k_q1, n_q1, f_q1_3, zq1_0, zq1_1, zq1_2, -⟩ := hq1
  have r_q1 := fr_tr r_o0 n_q1 rfl rfl rfl
  have g_q1_0 : (16 : Int) ≤ (q1.1 0).toInt ∧ (q1.1 0).toInt ≤ 400000 := k_q1.1 0
  have e_q1_1 : (q1.1 1).toInt = (o0.1 1).toInt := congrArg Int32.toInt (n_q1.1 1 rfl)
  have g_q1_1 : (0 : Int) ≤ (q1.1 1).toInt ∧ (q1.1 1).toInt ≤ 0 := k_q1.1 1
  have zq1_0 : (q1.1 3).toInt = (o0.1 3).toInt + 3 := zq1_0
  have zq1_1 : (o0.1 3).toInt ≤ (q1.1 3).toInt := zq1_1
  have zq1_2 : (q1.1 3).toInt ≤ (q1.1 0).toInt := zq1_2
  try unfold fSB_appendS_S9_5
  exact tt_some ⟨k_q1, r_q1, f_q1_3, (show (q1.1 3).toInt = (o0.1 3).toInt + 3 by omega), (show (o0.1 3).toInt ≤ (q1.1 3).toInt by omega), (show (q1.1 3).toInt ≤ (q1.1 0).toInt by omega), trivial⟩
def QJInteger_stringSize_I (v0 : Int32) (r : (Int32)) : Prop := ((1 : Int) ≤ r.toInt ∧ r.toInt ≤ 10) ∧ True
def HJInteger_stringSize_I (yv0 : Int32) (n : Nat) : Prop := (∀ (v0 : Int32) (v1 : Int32) (v2 : Int32) (v3 : Int32), (((-511) : Int) ≤ v0.toInt ∧ v0.toInt ≤ 0) → ((0 : Int) ≤ v1.toInt ∧ v1.toInt ≤ 0) → (((-5110) : Int) ≤ v2.toInt ∧ v2.toInt ≤ (-10)) → ((1 : Int) ≤ v3.toInt ∧ v3.toInt ≤ 10) → 0 + (10 - v3.toInt) * 2 < (n : Int) → tt (gJInteger_stringSize_I n 0 v0 v1 v2 v3) (QJInteger_stringSize_I yv0))
set_option maxHeartbeats 4000000 in
set_option maxRecDepth 100000 in
theorem tJInteger_stringSize_I_16 {yv0 : Int32} {n : Nat} (H : HJInteger_stringSize_I yv0 n) (v0 : Int32) (v1 : Int32) (v2 : Int32) (v3 : Int32) (i_v0 : ((-511) : Int) ≤ v0.toInt ∧ v0.toInt ≤ 0) (i_v1 : (0 : Int) ≤ v1.toInt ∧ v1.toInt ≤ 0) (i_v2 : ((-5110) : Int) ≤ v2.toInt ∧ v2.toInt ≤ (-10)) (i_v3 : (1 : Int) ≤ v3.toInt ∧ v3.toInt ≤ 10) (hm : 0 + (10 - v3.toInt) * 2 ≤ (n : Int)) : tt (fJInteger_stringSize_I_16 (gJInteger_stringSize_I n) v0 v1 v2 v3) (QJInteger_stringSize_I yv0) := by
  unfold fJInteger_stringSize_I_16
  refine tt_if (fun c1 => ?_) (fun c1 => ?_)
  · have i2 : (10 : Int) ≤ v3.toInt ∧ v3.toInt ≤ 10 := nr_ler c1 (show (10 : Int) ≤ (10 : Int32).toInt ∧ (10 : Int32).toInt ≤ 10 by decide) i_v3 (by decide) (by decide)
    refine tt_kv (P := fun z => (10 : Int) ≤ z.toInt ∧ z.toInt ≤ 10) (iv_add (show (10 : Int) ≤ (10 : Int32).toInt ∧ (10 : Int32).toInt ≤ 10 by decide) i_v1 (by decide) (by decide) (by decide) (by decide)) (fun x3 i4 => ?_)
    exact tt_some ⟨(iv_w (a := 1) (b := 10) (by decide) (by decide) i4), trivial⟩
  · have i5 : (1 : Int) ≤ v3.toInt ∧ v3.toInt ≤ 9 := nr_nlel c1 i_v3 (show (10 : Int) ≤ (10 : Int32).toInt ∧ (10 : Int32).toInt ≤ 10 by decide) (by decide) (by decide)
    refine tt_if (fun c6 => ?_) (fun c6 => ?_)
    · have i7 : ((-511) : Int) ≤ v0.toInt ∧ v0.toInt ≤ (-10) := nr_lel c6 i_v0 i_v2 (by decide) (by decide)
      have i8 : ((-511) : Int) ≤ v2.toInt ∧ v2.toInt ≤ (-10) := nr_ler c6 i_v0 i_v2 (by decide) (by decide)
      refine tt_kv (P := fun z => ((-5110) : Int) ≤ z.toInt ∧ z.toInt ≤ (-100)) (iv_mulc (k := 10) (show (10 : Int) ≤ (10 : Int32).toInt ∧ (10 : Int32).toInt ≤ 10 by decide) i8 (by decide) (by decide) (by decide) (by decide) (by decide)) (fun x9 i10 => ?_)
      refine tt_kv (P := fun z => ((2 : Int) ≤ z.toInt ∧ z.toInt ≤ 10) ∧ z.toInt = v3.toInt + 1) ⟨iv_add i5 (show (1 : Int) ≤ (1 : Int32).toInt ∧ (1 : Int32).toInt ≤ 1 by decide) (by decide) (by decide) (by decide) (by decide), iq_add i5 (show (1 : Int) ≤ (1 : Int32).toInt ∧ (1 : Int32).toInt ≤ 1 by decide) (by decide) (by decide)⟩ (fun x11 qi12 => ?_)
      obtain ⟨i12, ei12⟩ := qi12
      exact H _ _ _ _ (iv_w (a := (-511)) (b := 0) (by decide) (by decide) i7) i_v1 (iv_w (a := (-5110)) (b := (-10)) (by decide) (by decide) i10) (iv_w (a := 1) (b := 10) (by decide) (by decide) i12) (show 0 + (10 - x11.toInt) * 2 < (n : Int) by omega)
    · refine tt_kv (P := fun z => (1 : Int) ≤ z.toInt ∧ z.toInt ≤ 9) (iv_add i5 i_v1 (by decide) (by decide) (by decide) (by decide)) (fun x13 i14 => ?_)
      exact tt_some ⟨(iv_w (a := 1) (b := 10) (by decide) (by decide) i14), trivial⟩
set_option maxHeartbeats 4000000 in
set_option maxRecDepth 100000 in
theorem hJInteger_stringSize_I (yv0 : Int32) : ∀ n, HJInteger_stringSize_I yv0 n := by
  intro n
  induction n with
  | zero => exact (fun v0 v1 v2 v3 i_v0 i_v1 i_v2 i_v3 hm => by exact absurd (show 0 + (10 - v3.toInt) * 2 < (0 : Int) from hm) (by omega))
  | succ n ih => exact (fun v0 v1 v2 v3 i_v0 i_v1 i_v2 i_v3 hm => tJInteger_stringSize_I_16 ih v0 v1 v2 v3 i_v0 i_v1 i_v2 i_v3 (by omega))
set_option maxHeartbeats 4000000 in
set_option maxRecDepth 100000 in
theorem sJInteger_stringSize_I (v0 : Int32) (i_v0 : (0 : Int) ≤ v0.toInt ∧ v0.toInt ≤ 511) : tt (fJInteger_stringSize_I v0) (QJInteger_stringSize_I v0) := by
  have H := hJInteger_stringSize_I v0 cfFU
  have hm : (21 : Int) ≤ (cfFU : Nat) := by decide
  unfold fJInteger_stringSize_I fJInteger_stringSize_I_0
  refine tt_if (fun c1 => ?_) (fun c1 => ?_)
  · exact (dd_lt c1 i_v0 (show (0 : Int) ≤ (0 : Int32).toInt ∧ (0 : Int32).toInt ≤ 0 by decide) (by decide)).elim
  · refine tt_kv (P := fun z => ((-511) : Int) ≤ z.toInt ∧ z.toInt ≤ 0) (iv_neg i_v0 (by decide)) (fun x2 i3 => ?_)
    try unfold fJInteger_stringSize_I_11
    exact H _ _ _ _ i3 (show (0 : Int) ≤ (0 : Int32).toInt ∧ (0 : Int32).toInt ≤ 0 by decide) (iv_w (a := (-5110)) (b := (-10)) (by decide) (by decide) (show ((-10) : Int) ≤ ((-10) : Int32).toInt ∧ ((-10) : Int32).toInt ≤ (-10) by decide)) (iv_w (a := 1) (b := 10) (by decide) (by decide) (show (1 : Int) ≤ (1 : Int32).toInt ∧ (1 : Int32).toInt ≤ 1 by decide)) (show 0 + (10 - 1) * 2 < ((cfFU : Nat) : Int) by omega)
def QJInteger_getChars_IIAB_SB0 (v0 : Int32) (v1 : Int32) (o0 : cf_O) (r : (Int32 × cf_O)) : Prop := ((8 : Int) ≤ r.1.toInt ∧ r.1.toInt ≤ 90009) ∧ (okO I_SB r.2) ∧ (Fr (fr_M [] [0] []) o0 r.2) ∧ True
def HJInteger_getChars_IIAB_SB0 (yv0 : Int32) (yv1 : Int32) (yo0 : cf_O) (n : Nat) : Prop := (∀ (v0 : Int32) (v5 : Int32) (v6 : Int32) (o0 : cf_O), (okO I_SB o0) → (Fr (fr_M [] [0] []) yo0 o0) → (((-511) : Int) ≤ v0.toInt ∧ v0.toInt ≤ 0) → ((10 : Int) ≤ v5.toInt ∧ v5.toInt ≤ 90010) → ((0 : Int) ≤ v6.toInt ∧ v6.toInt ≤ 0) → ((11 : Int) ≤ (o0.1 3).toInt ∧ (o0.1 3).toInt ≤ 90000) → (v5.toInt ≤ (o0.1 0).toInt) → (12 ≤ v5.toInt ∨ (-5 ≤ v0.toInt ∧ 10 ≤ v5.toInt)) → (-511 ≤ v0.toInt) → (v0.toInt ≤ 0) → 0 - v0.toInt < (n : Int) → tt (gJInteger_getChars_IIAB_SB0 n 0 v0 v5 v6 o0) (QJInteger_getChars_IIAB_SB0 yv0 yv1 yo0))
set_option maxHeartbeats 4000000 in
set_option maxRecDepth 100000 in
theorem tJInteger_getChars_IIAB_SB0_22 {yv0 : Int32} {yv1 : Int32} {yo0 : cf_O} {n : Nat} (H : HJInteger_getChars_IIAB_SB0 yv0 yv1 yo0 n) (v0 : Int32) (v5 : Int32) (v6 : Int32) (o0 : cf_O) (k_o0 : okO I_SB o0) (r_o0 : Fr (fr_M [] [0] []) yo0 o0) (i_v0 : ((-511) : Int) ≤ v0.toInt ∧ v0.toInt ≤ 0) (i_v5 : (10 : Int) ≤ v5.toInt ∧ v5.toInt ≤ 90010) (i_v6 : (0 : Int) ≤ v6.toInt ∧ v6.toInt ≤ 0) (f_o0_3 : (11 : Int) ≤ (o0.1 3).toInt ∧ (o0.1 3).toInt ≤ 90000) (x_0 : v5.toInt ≤ (o0.1 0).toInt) (x_1 : 12 ≤ v5.toInt ∨ (-5 ≤ v0.toInt ∧ 10 ≤ v5.toInt)) (x_2 : -511 ≤ v0.toInt) (x_3 : v0.toInt ≤ 0) (hm : 0 - v0.toInt ≤ (n : Int)) : tt (fJInteger_getChars_IIAB_SB0_22 (gJInteger_getChars_IIAB_SB0 n) v0 v5 v6 o0) (QJInteger_getChars_IIAB_SB0 yv0 yv1 yo0) := by
  unfold fJInteger_getChars_IIAB_SB0_22
  have g_o0_0 : (16 : Int) ≤ (o0.1 0).toInt ∧ (o0.1 0).toInt ≤ 400000 := k_o0.1 0
  have ey_o0_0 : (o0.1 0).toInt = (yo0.1 0).toInt := congrArg Int32.toInt (r_o0.1 0 rfl)
  refine tt_if (fun c1 => ?_) (fun c1 => ?_)
  · have wc1 : ((-100) : Int) < v0.toInt := c_lt c1
    have i2 : ((-99) : Int) ≤ v0.toInt ∧ v0.toInt ≤ 0 := nr_ltr c1 (show ((-100) : Int) ≤ ((-100) : Int32).toInt ∧ ((-100) : Int32).toInt ≤ (-100) by decide) i_v0 (by decide) (by decide)
    refine tt_kv (P := fun z => ((9 : Int) ≤ z.toInt ∧ z.toInt ≤ 90009) ∧ z.toInt = v5.toInt + (-1)) ⟨iv_add i_v5 (show ((-1) : Int) ≤ ((-1) : Int32).toInt ∧ ((-1) : Int32).toInt ≤ (-1) by decide) (by decide) (by decide) (by decide) (by decide), iq_add i_v5 (show ((-1) : Int) ≤ ((-1) : Int32).toInt ∧ ((-1) : Int32).toInt ≤ (-1) by decide) (by decide) (by decide)⟩ (fun x3 qi4 => ?_)
    obtain ⟨i4, ei4⟩ := qi4
    refine tt_kv (P := fun z => ((0 : Int) ≤ z.toInt ∧ z.toInt ≤ 99) ∧ z.toInt = -v0.toInt) ⟨iv_neg i2 (by decide), iq_neg i2 (by decide)⟩ (fun x5 qi6 => ?_)
    obtain ⟨i6, ei6⟩ := qi6
    refine tt_n (ix_ok i6 (by decide) (by decide)) ?_
    refine tt_kv (P := fun z => ((-2147483648) : Int) ≤ z.toInt ∧ z.toInt ≤ 2147483647) (iv_top _) (fun x7 i8 => ?_)
    refine tt_n (ix_v (x := x3) (l := (o0.1 0)) (by omega) (by omega)) ?_
    refine tt_ko ?_
    have k9 := ok_xp (k := 0) (i := x3.toNatClampNeg) (v := (vp_nar .byte x7)) k_o0 (iv_nby _)
    have r10 := fr_xp (k := 0) (i := x3.toNatClampNeg) (v := (vp_nar .byte x7)) r_o0 rfl
    refine tt_if (fun c11 => ?_) (fun c11 => ?_)
    · have wc11 : ((-9) : Int) ≤ v0.toInt := c_le c11
      have i12 : ((-9) : Int) ≤ v0.toInt ∧ v0.toInt ≤ 0 := nr_ler c11 (show ((-9) : Int) ≤ ((-9) : Int32).toInt ∧ ((-9) : Int32).toInt ≤ (-9) by decide) i2 (by decide) (by decide)
      try unfold fJInteger_getChars_IIAB_SB0_104
      refine tt_if (fun c13 => ?_) (fun c13 => ?_)
      · have wc13 : v6.toInt = (0 : Int) := c_eq c13
        try unfold fJInteger_getChars_IIAB_SB0_118
        exact tt_some ⟨(iv_w (a := 8) (b := 90009) (by decide) (by decide) i4), k9, r10, trivial⟩
      · have wc13 : ¬ v6.toInt = (0 : Int) := c_ne c13
        exact (dd_ne c13 i_v6 (show (0 : Int) ≤ (0 : Int32).toInt ∧ (0 : Int32).toInt ≤ 0 by decide)).elim
    · have wc11 : v0.toInt < ((-9) : Int) := c_nle c11
      have i14 : ((-99) : Int) ≤ v0.toInt ∧ v0.toInt ≤ (-10) := nr_nlel c11 i2 (show ((-9) : Int) ≤ ((-9) : Int32).toInt ∧ ((-9) : Int32).toInt ≤ (-9) by decide) (by decide) (by decide)
      refine tt_kv (P := fun z => ((8 : Int) ≤ z.toInt ∧ z.toInt ≤ 90008) ∧ z.toInt = x3.toInt + (-1)) ⟨iv_add i4 (show ((-1) : Int) ≤ ((-1) : Int32).toInt ∧ ((-1) : Int32).toInt ≤ (-1) by decide) (by decide) (by decide) (by decide) (by decide), iq_add i4 (show ((-1) : Int) ≤ ((-1) : Int32).toInt ∧ ((-1) : Int32).toInt ≤ (-1) by decide) (by decide) (by decide)⟩ (fun x15 qi16 => ?_)
      obtain ⟨i16, ei16⟩ := qi16
      refine tt_kv (P := fun z => ((10 : Int) ≤ z.toInt ∧ z.toInt ≤ 99) ∧ z.toInt = -v0.toInt) ⟨iv_neg i14 (by decide), iq_neg i14 (by decide)⟩ (fun x17 qi18 => ?_)
      obtain ⟨i18, ei18⟩ := qi18
      refine tt_n (ix_ok i18 (by decide) (by decide)) ?_
      refine tt_kv (P := fun z => ((-2147483648) : Int) ≤ z.toInt ∧ z.toInt ≤ 2147483647) (iv_top _) (fun x19 i20 => ?_)
      refine tt_n (ix_v (x := x15) (l := (o0.1 0)) (by omega) (by omega)) ?_
      refine tt_ko ?_
      have k21 := ok_xp (k := 0) (i := x15.toNatClampNeg) (v := (vp_nar .byte x19)) k9 (iv_nby _)
      have r22 := fr_xp (k := 0) (i := x15.toNatClampNeg) (v := (vp_nar .byte x19)) r10 rfl
      try unfold fJInteger_getChars_IIAB_SB0_104
      refine tt_if (fun c23 => ?_) (fun c23 => ?_)
      · have wc23 : v6.toInt = (0 : Int) := c_eq c23
        try unfold fJInteger_getChars_IIAB_SB0_118
        exact tt_some ⟨(iv_w (a := 8) (b := 90009) (by decide) (by decide) i16), k21, r22, trivial⟩
      · have wc23 : ¬ v6.toInt = (0 : Int) := c_ne c23
        exact (dd_ne c23 i_v6 (show (0 : Int) ≤ (0 : Int32).toInt ∧ (0 : Int32).toInt ≤ 0 by decide)).elim
  · have wc1 : v0.toInt ≤ ((-100) : Int) := c_nlt c1
    have i24 : ((-511) : Int) ≤ v0.toInt ∧ v0.toInt ≤ (-100) := nr_nltl c1 i_v0 (show ((-100) : Int) ≤ ((-100) : Int32).toInt ∧ ((-100) : Int32).toInt ≤ (-100) by decide) (by decide) (by decide)
    refine tt_kv (P := fun z => (((-5) : Int) ≤ z.toInt ∧ z.toInt ≤ (-1)) ∧ z.toInt = -((-v0.toInt) / 100)) ⟨iv_dvn (k := 100) i24 (show (100 : Int) ≤ (100 : Int32).toInt ∧ (100 : Int32).toInt ≤ 100 by decide) (by decide) (by decide) (by decide) (by decide) (by decide), i_dvn (Int.le_trans i24.2 (by decide)) (Int.le_trans (by decide) i24.1) (by decide)⟩ (fun x25 qi26 => ?_)
    obtain ⟨i26, ei26⟩ := qi26
    refine tt_kv (P := fun z => (((-500) : Int) ≤ z.toInt ∧ z.toInt ≤ (-100)) ∧ z.toInt = x25.toInt * 100) ⟨iv_mulr (k := 100) i26 (show (100 : Int) ≤ (100 : Int32).toInt ∧ (100 : Int32).toInt ≤ 100 by decide) (by decide) (by decide) (by decide) (by decide) (by decide), iq_mulr (k := 100) i26 (show (100 : Int) ≤ (100 : Int32).toInt ∧ (100 : Int32).toInt ≤ 100 by decide) (by decide) (by decide) (by decide)⟩ (fun x27 qi28 => ?_)
    obtain ⟨i28, ei28⟩ := qi28
    refine tt_kv (P := fun z => (((-400) : Int) ≤ z.toInt ∧ z.toInt ≤ 411) ∧ z.toInt = x27.toInt - v0.toInt) ⟨iv_sub i28 i24 (by decide) (by decide) (by decide) (by decide), iq_sub i28 i24 (by decide) (by decide)⟩ (fun x29 qi30 => ?_)
    obtain ⟨i30, ei30⟩ := qi30
    refine tt_kv (P := fun z => ((9 : Int) ≤ z.toInt ∧ z.toInt ≤ 90009) ∧ z.toInt = v5.toInt + (-1)) ⟨iv_add i_v5 (show ((-1) : Int) ≤ ((-1) : Int32).toInt ∧ ((-1) : Int32).toInt ≤ (-1) by decide) (by decide) (by decide) (by decide) (by decide), iq_add i_v5 (show ((-1) : Int) ≤ ((-1) : Int32).toInt ∧ ((-1) : Int32).toInt ≤ (-1) by decide) (by decide) (by decide)⟩ (fun x31 qi32 => ?_)
    obtain ⟨i32, ei32⟩ := qi32
    refine tt_n (ix_rel (by omega) (by omega)) ?_
    have i33 : (0 : Int) ≤ x29.toInt ∧ x29.toInt ≤ 99 := (by omega)
    refine tt_kv (P := fun z => ((-2147483648) : Int) ≤ z.toInt ∧ z.toInt ≤ 2147483647) (iv_top _) (fun x34 i35 => ?_)
    refine tt_n (ix_v (x := x31) (l := (o0.1 0)) (by omega) (by omega)) ?_
    refine tt_ko ?_
    have k36 := ok_xp (k := 0) (i := x31.toNatClampNeg) (v := (vp_nar .byte x34)) k_o0 (iv_nby _)
    have r37 := fr_xp (k := 0) (i := x31.toNatClampNeg) (v := (vp_nar .byte x34)) r_o0 rfl
    refine tt_kv (P := fun z => ((8 : Int) ≤ z.toInt ∧ z.toInt ≤ 90008) ∧ z.toInt = x31.toInt + (-1)) ⟨iv_add i32 (show ((-1) : Int) ≤ ((-1) : Int32).toInt ∧ ((-1) : Int32).toInt ≤ (-1) by decide) (by decide) (by decide) (by decide) (by decide), iq_add i32 (show ((-1) : Int) ≤ ((-1) : Int32).toInt ∧ ((-1) : Int32).toInt ≤ (-1) by decide) (by decide) (by decide)⟩ (fun x38 qi39 => ?_)
    obtain ⟨i39, ei39⟩ := qi39
    refine tt_n (ix_ok i33 (by decide) (by decide)) ?_
    refine tt_kv (P := fun z => ((-2147483648) : Int) ≤ z.toInt ∧ z.toInt ≤ 2147483647) (iv_top _) (fun x40 i41 => ?_)
    refine tt_n (ix_v (x := x38) (l := (o0.1 0)) (by omega) (by omega)) ?_
    refine tt_ko ?_
    have k42 := ok_xp (k := 0) (i := x38.toNatClampNeg) (v := (vp_nar .byte x40)) k36 (iv_nby _)
    have r43 := fr_xp (k := 0) (i := x38.toNatClampNeg) (v := (vp_nar .byte x40)) r37 rfl
    exact H _ _ _ _ k42 r43 (iv_w (a := (-511)) (b := 0) (by decide) (by decide) i26) (show (10 : Int) ≤ _ ∧ _ ≤ (90010 : Int) by omega) i_v6 f_o0_3 (show x38.toInt ≤ (o0.1 0).toInt by omega) (show 12 ≤ x38.toInt ∨ (-5 ≤ x25.toInt ∧ 10 ≤ x38.toInt) by omega) (show -511 ≤ x25.toInt by omega) (show x25.toInt ≤ 0 by omega) (show 0 - x25.toInt < (n : Int) by omega)
set_option maxHeartbeats 4000000 in
set_option maxRecDepth 100000 in
theorem hJInteger_getChars_IIAB_SB0 (yv0 : Int32) (yv1 : Int32) (yo0 : cf_O) : ∀ n, HJInteger_getChars_IIAB_SB0 yv0 yv1 yo0 n := by
  intro n
  induction n with
  | zero => exact (fun v0 v5 v6 o0 k_o0 r_o0 i_v0 i_v5 i_v6 f_o0_3 x_0 x_1 x_2 x_3 hm => by exact absurd (show 0 - v0.toInt < (0 : Int) from hm) (by omega))
  | succ n ih => exact (fun v0 v5 v6 o0 k_o0 r_o0 i_v0 i_v5 i_v6 f_o0_3 x_0 x_1 x_2 x_3 hm => tJInteger_getChars_IIAB_SB0_22 ih v0 v5 v6 o0 k_o0 r_o0 i_v0 i_v5 i_v6 f_o0_3 x_0 x_1 x_2 x_3 (by omega))
set_option maxHeartbeats 4000000 in
set_option maxRecDepth 100000 in
theorem sJInteger_getChars_IIAB_SB0 (v0 : Int32) (v1 : Int32) (o0 : cf_O) (k_o0 : okO I_SB o0) (i_v0 : (0 : Int) ≤ v0.toInt ∧ v0.toInt ≤ 511) (i_v1 : (12 : Int) ≤ v1.toInt ∧ v1.toInt ≤ 90010) (f_o0_3 : (11 : Int) ≤ (o0.1 3).toInt ∧ (o0.1 3).toInt ≤ 90000) (x_0 : v1.toInt ≤ (o0.1 0).toInt) : tt (fJInteger_getChars_IIAB_SB0 v0 v1 o0) (QJInteger_getChars_IIAB_SB0 v0 v1 o0) := by
  have H := hJInteger_getChars_IIAB_SB0 v0 v1 o0 cfFU
  have hm : (520 : Int) ≤ (cfFU : Nat) := by decide
  have r_o0 : Fr (fr_M [] [0] []) o0 o0 := fr_rfl
  unfold fJInteger_getChars_IIAB_SB0 fJInteger_getChars_IIAB_SB0_0
  have g_o0_0 : (16 : Int) ≤ (o0.1 0).toInt ∧ (o0.1 0).toInt ≤ 400000 := k_o0.1 0
  refine tt_if (fun c1 => ?_) (fun c1 => ?_)
  · have wc1 : (0 : Int) ≤ v0.toInt := c_le c1
    try unfold fJInteger_getChars_IIAB_SB0_12
    refine tt_if (fun c2 => ?_) (fun c2 => ?_)
    · have wc2 : (0 : Int) = (0 : Int) := c_eq c2
      refine tt_kv (P := fun z => (((-511) : Int) ≤ z.toInt ∧ z.toInt ≤ 0) ∧ z.toInt = -v0.toInt) ⟨iv_neg i_v0 (by decide), iq_neg i_v0 (by decide)⟩ (fun x3 qi4 => ?_)
      obtain ⟨i4, ei4⟩ := qi4
      exact H _ _ _ _ k_o0 r_o0 i4 (iv_w (a := 10) (b := 90010) (by decide) (by decide) i_v1) (show (0 : Int) ≤ (0 : Int32).toInt ∧ (0 : Int32).toInt ≤ 0 by decide) f_o0_3 (show v1.toInt ≤ (o0.1 0).toInt by omega) (show 12 ≤ v1.toInt ∨ (-5 ≤ x3.toInt ∧ 10 ≤ v1.toInt) by omega) (show -511 ≤ x3.toInt by omega) (show x3.toInt ≤ 0 by omega) (show 0 - x3.toInt < ((cfFU : Nat) : Int) by omega)
    · have wc2 : ¬ (0 : Int) = (0 : Int) := c_ne c2
      exact (dd_ne c2 (show (0 : Int) ≤ (0 : Int32).toInt ∧ (0 : Int32).toInt ≤ 0 by decide) (show (0 : Int) ≤ (0 : Int32).toInt ∧ (0 : Int32).toInt ≤ 0 by decide)).elim
  · have wc1 : v0.toInt < (0 : Int) := c_nle c1
    exact (dd_nle c1 i_v0 (show (0 : Int) ≤ (0 : Int32).toInt ∧ (0 : Int32).toInt ≤ 0 by decide) (by decide)).elim
def QAS_appendI (v1 : Int32) (o0 : cf_O) (r : (cf_O)) : Prop := (okO I_SB r) ∧ (Fr (fr_M [0, 3] [0] []) o0 r) ∧ ((12 : Int) ≤ (r.1 3).toInt ∧ (r.1 3).toInt ≤ 90000) ∧ ((r.1 3).toInt ≤ (o0.1 3).toInt + 10) ∧ ((o0.1 3).toInt ≤ (r.1 3).toInt) ∧ ((r.1 3).toInt ≤ (r.1 0).toInt) ∧ True
set_option maxHeartbeats 4000000 in
set_option maxRecDepth 100000 in
theorem sAS_appendI (v1 : Int32) (o0 : cf_O) (k_o0 : okO I_SB o0) (i_v1 : (0 : Int) ≤ v1.toInt ∧ v1.toInt ≤ 511) (f_o0_3 : (11 : Int) ≤ (o0.1 3).toInt ∧ (o0.1 3).toInt ≤ 90000) (x_0 : (o0.1 3).toInt ≤ (o0.1 0).toInt) (x_1 : (o0.1 3).toInt ≤ 89990) : tt (fAS_appendI v1 o0) (QAS_appendI v1 o0) := by
  have r_o0 : Fr (fr_M [0, 3] [0] []) o0 o0 := fr_rfl
  unfold fAS_appendI fAS_appendI_0
  have g_o0_0 : (16 : Int) ≤ (o0.1 0).toInt ∧ (o0.1 0).toInt ≤ 400000 := k_o0.1 0
  have g_o0_1 : (0 : Int) ≤ (o0.1 1).toInt ∧ (o0.1 1).toInt ≤ 0 := k_o0.1 1
  refine tt_b (sJInteger_stringSize_I _ i_v1) (fun q1 hq1 => ?_)
  obtain ⟨i_q1, -⟩ := hq1
  try unfold fAS_appendI_10
  refine tt_kv (P := fun z => ((12 : Int) ≤ z.toInt ∧ z.toInt ≤ 90010) ∧ z.toInt = (o0.1 3).toInt + q1.toInt) ⟨iv_add f_o0_3 i_q1 (by decide) (by decide) (by decide) (by decide), iq_add f_o0_3 i_q1 (by decide) (by decide)⟩ (fun x2 qi3 => ?_)
  obtain ⟨i3, ei3⟩ := qi3
  refine tt_b (sAS_ensureCapacityInternal _ _ k_o0 (iv_w (a := 0) (b := 90010) (by decide) (by decide) i3)) (fun q4 hq4 => ?_)
  obtain ⟨k_q4, n_q4, zq4_0, zq4_1, zq4_2, -⟩ := hq4
  have r_q4 := fr_tr r_o0 n_q4 rfl rfl rfl
  have f_q4_3 : (11 : Int) ≤ (q4.1 3).toInt ∧ (q4.1 3).toInt ≤ 90000 := by rw [n_q4.1 3 rfl]; exact f_o0_3
  have g_q4_0 : (16 : Int) ≤ (q4.1 0).toInt ∧ (q4.1 0).toInt ≤ 400000 := k_q4.1 0
  have e_q4_1 : (q4.1 1).toInt = (o0.1 1).toInt := congrArg Int32.toInt (n_q4.1 1 rfl)
  have g_q4_1 : (0 : Int) ≤ (q4.1 1).toInt ∧ (q4.1 1).toInt ≤ 0 := k_q4.1 1
  have e_q4_3 : (q4.1 3).toInt = (o0.1 3).toInt := congrArg Int32.toInt (n_q4.1 3 rfl)
  have zq4_0 : x2.toInt ≤ (q4.1 0).toInt := zq4_0
  have zq4_1 : (o0.1 0).toInt ≤ (q4.1 0).toInt := zq4_1
  have zq4_2 : (q4.1 0).toInt ≤ (o0.1 0).toInt ∨ (q4.1 0).toInt ≤ 180022 := zq4_2
  try unfold fAS_appendI_17
  refine tt_b (sAS_isLatin1 _ k_q4 (iv_w (a := 7) (b := 90000) (by decide) (by decide) f_q4_3)) (fun q5 hq5 => ?_)
  obtain ⟨i_q5, -⟩ := hq5
  try unfold fAS_appendI_21
  refine tt_n (iv_nz0 i_q5 (by decide)) ?_
  refine tt_b (sJInteger_getChars_IIAB_SB0 _ _ _ k_q4 i_v1 i3 f_q4_3 (show x2.toInt ≤ (q4.1 0).toInt by omega)) (fun q6 hq6 => ?_)
  obtain ⟨i_q6, k_q6_2, n_q6_2, -⟩ := hq6
  have r_q6_2 := fr_tr r_q4 n_q6_2 rfl rfl rfl
  have f_q6_2_3 : (11 : Int) ≤ (q6.2.1 3).toInt ∧ (q6.2.1 3).toInt ≤ 90000 := by rw [n_q6_2.1 3 rfl]; exact f_q4_3
  have e_q6_2_0 : (q6.2.1 0).toInt = (q4.1 0).toInt := congrArg Int32.toInt (n_q6_2.1 0 rfl)
  have g_q6_2_0 : (16 : Int) ≤ (q6.2.1 0).toInt ∧ (q6.2.1 0).toInt ≤ 400000 := k_q6_2.1 0
  have e_q6_2_1 : (q6.2.1 1).toInt = (q4.1 1).toInt := congrArg Int32.toInt (n_q6_2.1 1 rfl)
  have g_q6_2_1 : (0 : Int) ≤ (q6.2.1 1).toInt ∧ (q6.2.1 1).toInt ≤ 0 := k_q6_2.1 1
  have e_q6_2_3 : (q6.2.1 3).toInt = (q4.1 3).toInt := congrArg Int32.toInt (n_q6_2.1 3 rfl)
  try unfold fAS_appendI_33
  refine tt_ko ?_
  have k7 := ok_fp (k := 3) (v := x2) k_q6_2 (show (0 : Int) ≤ _ ∧ _ ≤ (90000 : Int) by omega)
  have i8 : (12 : Int) ≤ x2.toInt ∧ x2.toInt ≤ 90000 := (by omega)
  have r9 := fr_fp (k := 3) (v := x2) r_q6_2 rfl
  exact tt_some ⟨k7, r9, i8, (show x2.toInt ≤ (o0.1 3).toInt + 10 by omega), (show (o0.1 3).toInt ≤ x2.toInt by omega), (show x2.toInt ≤ (q6.2.1 0).toInt by omega), trivial⟩
def QSB_appendI (v1 : Int32) (o0 : cf_O) (r : (cf_O)) : Prop := (okO I_SB r) ∧ (Fr (fr_M [0, 3] [0] []) o0 r) ∧ ((12 : Int) ≤ (r.1 3).toInt ∧ (r.1 3).toInt ≤ 90000) ∧ ((r.1 3).toInt ≤ (o0.1 3).toInt + 10) ∧ ((o0.1 3).toInt ≤ (r.1 3).toInt) ∧ ((r.1 3).toInt ≤ (r.1 0).toInt) ∧ True
set_option maxHeartbeats 4000000 in
set_option maxRecDepth 100000 in
theorem sSB_appendI (v1 : Int32) (o0 : cf_O) (k_o0 : okO I_SB o0) (i_v1 : (0 : Int) ≤ v1.toInt ∧ v1.toInt ≤ 511) (f_o0_3 : (11 : Int) ≤ (o0.1 3).toInt ∧ (o0.1 3).toInt ≤ 90000) (x_0 : (o0.1 3).toInt ≤ (o0.1 0).toInt) (x_1 : (o0.1 3).toInt ≤ 89990) : tt (fSB_appendI v1 o0) (QSB_appendI v1 o0) := by
  have r_o0 : Fr (fr_M [0, 3] [0] []) o0 o0 := fr_rfl
  unfold fSB_appendI fSB_appendI_0
  have g_o0_0 : (16 : Int) ≤ (o0.1 0).toInt ∧ (o0.1 0).toInt ≤ 400000 := k_o0.1 0
  have g_o0_1 : (0 : Int) ≤ (o0.1 1).toInt ∧ (o0.1 1).toInt ≤ 0 := k_o0.1 1
  refine tt_b (sAS_appendI _ _ k_o0 i_v1 f_o0_3 (show (o0.1 3).toInt ≤ (o0.1 0).toInt by omega) (show (o0.1 3).toInt ≤ 89990 by omega)) (fun q1 hq1 => ?_)
  obtain ⟨k_q1, n_q1, f_q1_3, zq1_0, zq1_1, zq1_2, -⟩ := hq1
  have r_q1 := fr_tr r_o0 n_q1 rfl rfl rfl
  have g_q1_0 : (16 : Int) ≤ (q1.1 0).toInt ∧ (q1.1 0).toInt ≤ 400000 := k_q1.1 0
  have e_q1_1 : (q1.1 1).toInt = (o0.1 1).toInt := congrArg Int32.toInt (n_q1.1 1 rfl)
  have g_q1_1 : (0 : Int) ≤ (q1.1 1).toInt ∧ (q1.1 1).toInt ≤ 0 := k_q1.1 1
  have zq1_0 : (q1.1 3).toInt ≤ (o0.1 3).toInt + 10 := zq1_0
  have zq1_1 : (o0.1 3).toInt ≤ (q1.1 3).toInt := zq1_1
  have zq1_2 : (q1.1 3).toInt ≤ (q1.1 0).toInt := zq1_2
  try unfold fSB_appendI_5
  exact tt_some ⟨k_q1, r_q1, f_q1_3, (show (q1.1 3).toInt ≤ (o0.1 3).toInt + 10 by omega), (show (o0.1 3).toInt ≤ (q1.1 3).toInt by omega), (show (q1.1 3).toInt ≤ (q1.1 0).toInt by omega), trivial⟩
def QSc_writeLiteral (v2 : Int32) (o0 : cf_O) (o1 : cf_O) (o2 : cf_O) (r : (cf_O)) : Prop := (okO I_SB r) ∧ (Fr (fr_M [0, 3] [0] []) o2 r) ∧ ((8 : Int) ≤ (r.1 3).toInt ∧ (r.1 3).toInt ≤ 90000) ∧ ((r.1 3).toInt ≤ (o2.1 3).toInt + 13) ∧ ((o2.1 3).toInt ≤ (r.1 3).toInt) ∧ ((r.1 3).toInt ≤ (r.1 0).toInt) ∧ True
set_option maxHeartbeats 4000000 in
set_option maxRecDepth 100000 in
theorem sSc_writeLiteral (v2 : Int32) (o0 : cf_O) (o1 : cf_O) (o2 : cf_O) (k_o0 : okO I_Sc o0) (k_o1 : okO I_Nl o1) (k_o2 : okO I_SB o2) (i_v2 : (0 : Int) ≤ v2.toInt ∧ v2.toInt ≤ 1023) (f_o2_3 : (8 : Int) ≤ (o2.1 3).toInt ∧ (o2.1 3).toInt ≤ 90000) (x_0 : (o2.1 3).toInt ≤ (o2.1 0).toInt) (x_1 : (o2.1 3).toInt ≤ 89987) : tt (fSc_writeLiteral v2 o0 o1 o2) (QSc_writeLiteral v2 o0 o1 o2) := by
  have r_o0 : Fr (fr_M [] [] []) o0 o0 := fr_rfl
  have r_o1 : Fr (fr_M [] [] []) o1 o1 := fr_rfl
  have r_o2 : Fr (fr_M [0, 3] [0] []) o2 o2 := fr_rfl
  unfold fSc_writeLiteral fSc_writeLiteral_0
  have g_o0_0 : (0 : Int) ≤ (o0.1 0).toInt ∧ (o0.1 0).toInt ≤ 1 := k_o0.1 0
  have g_o0_1 : (0 : Int) ≤ (o0.1 1).toInt ∧ (o0.1 1).toInt ≤ 0 := k_o0.1 1
  have g_o0_3 : (0 : Int) ≤ (o0.1 3).toInt ∧ (o0.1 3).toInt ≤ 0 := k_o0.1 3
  have g_o1_0 : (0 : Int) ≤ (o1.1 0).toInt ∧ (o1.1 0).toInt ≤ 8 := k_o1.1 0
  have g_o1_1 : (0 : Int) ≤ (o1.1 1).toInt ∧ (o1.1 1).toInt ≤ 6 := k_o1.1 1
  have g_o1_3 : (0 : Int) ≤ (o1.1 3).toInt ∧ (o1.1 3).toInt ≤ 0 := k_o1.1 3
  have g_o2_0 : (16 : Int) ≤ (o2.1 0).toInt ∧ (o2.1 0).toInt ≤ 400000 := k_o2.1 0
  have g_o2_1 : (0 : Int) ≤ (o2.1 1).toInt ∧ (o2.1 1).toInt ≤ 0 := k_o2.1 1
  refine tt_kv (P := fun z => ((0 : Int) ≤ z.toInt ∧ z.toInt ≤ 511) ∧ z.toInt = v2.toInt / 2) ⟨iv_shr (p := 1) (q := 1) i_v2 (show (1 : Int) ≤ (1 : Int32).toInt ∧ (1 : Int32).toInt ≤ 1 by decide) (by decide) (by decide) (by decide) (by decide), i_s1 (Int.le_trans (by decide) i_v2.1)⟩ (fun x1 qi2 => ?_)
  obtain ⟨i2, ei2⟩ := qi2
  refine tt_kv (P := fun z => ((0 : Int) ≤ z.toInt ∧ z.toInt ≤ 1) ∧ z.toInt = v2.toInt % 2) ⟨iv_and (show (1 : Int) ≤ (1 : Int32).toInt ∧ (1 : Int32).toInt ≤ 1 by decide) (by decide) (by decide) (by decide), i_a1 (Int.le_trans (by decide) i_v2.1)⟩ (fun x3 qi4 => ?_)
  obtain ⟨i4, ei4⟩ := qi4
  refine tt_if (fun c5 => ?_) (fun c5 => ?_)
  · have wc5 : x3.toInt = (0 : Int) := c_eq c5
    have i6 : (0 : Int) ≤ x3.toInt ∧ x3.toInt ≤ 0 := nr_eql c5 i4 (show (0 : Int) ≤ (0 : Int32).toInt ∧ (0 : Int32).toInt ≤ 0 by decide) (by decide) (by decide)
    refine tt_if (fun c7 => ?_) (fun c7 => ?_)
    · have wc7 : x1.toInt < (1 : Int) := c_lt c7
      have i8 : (0 : Int) ≤ x1.toInt ∧ x1.toInt ≤ 0 := nr_ltl c7 i2 (show (1 : Int) ≤ (1 : Int32).toInt ∧ (1 : Int32).toInt ≤ 1 by decide) (by decide) (by decide)
      try unfold fSc_writeLiteral_36
      refine tt_kv (P := fun z => ((0 : Int) ≤ z.toInt ∧ z.toInt ≤ 1) ∧ z.toInt = v2.toInt % 2) ⟨iv_and (show (1 : Int) ≤ (1 : Int32).toInt ∧ (1 : Int32).toInt ≤ 1 by decide) (by decide) (by decide) (by decide), i_a1 (Int.le_trans (by decide) i_v2.1)⟩ (fun x9 qi10 => ?_)
      obtain ⟨i10, ei10⟩ := qi10
      refine tt_if (fun c11 => ?_) (fun c11 => ?_)
      · have wc11 : x9.toInt = (0 : Int) := c_eq c11
        have i12 : (0 : Int) ≤ x9.toInt ∧ x9.toInt ≤ 0 := nr_eql c11 i10 (show (0 : Int) ≤ (0 : Int32).toInt ∧ (0 : Int32).toInt ≤ 0 by decide) (by decide) (by decide)
        refine tt_b (sSB_appendS_S9 _ k_o2 f_o2_3 (show (o2.1 3).toInt ≤ (o2.1 0).toInt by omega) (show (o2.1 3).toInt ≤ 89997 by omega)) (fun q13 hq13 => ?_)
        obtain ⟨k_q13, n_q13, f_q13_3, zq13_0, zq13_1, zq13_2, -⟩ := hq13
        have r_q13 := fr_tr r_o2 n_q13 rfl rfl rfl
        have g_q13_0 : (16 : Int) ≤ (q13.1 0).toInt ∧ (q13.1 0).toInt ≤ 400000 := k_q13.1 0
        have e_q13_1 : (q13.1 1).toInt = (o2.1 1).toInt := congrArg Int32.toInt (n_q13.1 1 rfl)
        have g_q13_1 : (0 : Int) ≤ (q13.1 1).toInt ∧ (q13.1 1).toInt ≤ 0 := k_q13.1 1
        have zq13_0 : (q13.1 3).toInt = (o2.1 3).toInt + 3 := zq13_0
        have zq13_1 : (o2.1 3).toInt ≤ (q13.1 3).toInt := zq13_1
        have zq13_2 : (q13.1 3).toInt ≤ (q13.1 0).toInt := zq13_2
        try unfold fSc_writeLiteral_56
        refine tt_b (sSB_appendI _ _ k_q13 (iv_w (a := 0) (b := 511) (by decide) (by decide) i8) f_q13_3 (show (q13.1 3).toInt ≤ (q13.1 0).toInt by omega) (show (q13.1 3).toInt ≤ 89990 by omega)) (fun q14 hq14 => ?_)
        obtain ⟨k_q14, n_q14, f_q14_3, zq14_0, zq14_1, zq14_2, -⟩ := hq14
        have r_q14 := fr_tr r_q13 n_q14 rfl rfl rfl
        have g_q14_0 : (16 : Int) ≤ (q14.1 0).toInt ∧ (q14.1 0).toInt ≤ 400000 := k_q14.1 0
        have e_q14_1 : (q14.1 1).toInt = (q13.1 1).toInt := congrArg Int32.toInt (n_q14.1 1 rfl)
        have g_q14_1 : (0 : Int) ≤ (q14.1 1).toInt ∧ (q14.1 1).toInt ≤ 0 := k_q14.1 1
        have zq14_0 : (q14.1 3).toInt ≤ (q13.1 3).toInt + 10 := zq14_0
        have zq14_1 : (q13.1 3).toInt ≤ (q14.1 3).toInt := zq14_1
        have zq14_2 : (q14.1 3).toInt ≤ (q14.1 0).toInt := zq14_2
        try unfold fSc_writeLiteral_65
        exact tt_some ⟨k_q14, r_q14, (iv_w (a := 8) (b := 90000) (by decide) (by decide) f_q14_3), (show (q14.1 3).toInt ≤ (o2.1 3).toInt + 13 by omega), (show (o2.1 3).toInt ≤ (q14.1 3).toInt by omega), (show (q14.1 3).toInt ≤ (q14.1 0).toInt by omega), trivial⟩
      · have wc11 : ¬ x9.toInt = (0 : Int) := c_ne c11
        have i15 : (1 : Int) ≤ x9.toInt ∧ x9.toInt ≤ 1 := nr_nela c11 i10 (show (0 : Int) ≤ (0 : Int32).toInt ∧ (0 : Int32).toInt ≤ 0 by decide) (by decide) (by decide)
        refine tt_b (sSB_appendS_S10 _ k_o2 f_o2_3 (show (o2.1 3).toInt ≤ (o2.1 0).toInt by omega) (show (o2.1 3).toInt ≤ 89997 by omega)) (fun q16 hq16 => ?_)
        obtain ⟨k_q16, n_q16, f_q16_3, zq16_0, zq16_1, zq16_2, -⟩ := hq16
        have r_q16 := fr_tr r_o2 n_q16 rfl rfl rfl
        have g_q16_0 : (16 : Int) ≤ (q16.1 0).toInt ∧ (q16.1 0).toInt ≤ 400000 := k_q16.1 0
        have e_q16_1 : (q16.1 1).toInt = (o2.1 1).toInt := congrArg Int32.toInt (n_q16.1 1 rfl)
        have g_q16_1 : (0 : Int) ≤ (q16.1 1).toInt ∧ (q16.1 1).toInt ≤ 0 := k_q16.1 1
        have zq16_0 : (q16.1 3).toInt = (o2.1 3).toInt + 3 := zq16_0
        have zq16_1 : (o2.1 3).toInt ≤ (q16.1 3).toInt := zq16_1
        have zq16_2 : (q16.1 3).toInt ≤ (q16.1 0).toInt := zq16_2
        try unfold fSc_writeLiteral_56
        refine tt_b (sSB_appendI _ _ k_q16 (iv_w (a := 0) (b := 511) (by decide) (by decide) i8) f_q16_3 (show (q16.1 3).toInt ≤ (q16.1 0).toInt by omega) (show (q16.1 3).toInt ≤ 89990 by omega)) (fun q17 hq17 => ?_)
        obtain ⟨k_q17, n_q17, f_q17_3, zq17_0, zq17_1, zq17_2, -⟩ := hq17
        have r_q17 := fr_tr r_q16 n_q17 rfl rfl rfl
        have g_q17_0 : (16 : Int) ≤ (q17.1 0).toInt ∧ (q17.1 0).toInt ≤ 400000 := k_q17.1 0
        have e_q17_1 : (q17.1 1).toInt = (q16.1 1).toInt := congrArg Int32.toInt (n_q17.1 1 rfl)
        have g_q17_1 : (0 : Int) ≤ (q17.1 1).toInt ∧ (q17.1 1).toInt ≤ 0 := k_q17.1 1
        have zq17_0 : (q17.1 3).toInt ≤ (q16.1 3).toInt + 10 := zq17_0
        have zq17_1 : (q16.1 3).toInt ≤ (q17.1 3).toInt := zq17_1
        have zq17_2 : (q17.1 3).toInt ≤ (q17.1 0).toInt := zq17_2
        try unfold fSc_writeLiteral_65
        exact tt_some ⟨k_q17, r_q17, (iv_w (a := 8) (b := 90000) (by decide) (by decide) f_q17_3), (show (q17.1 3).toInt ≤ (o2.1 3).toInt + 13 by omega), (show (o2.1 3).toInt ≤ (q17.1 3).toInt by omega), (show (q17.1 3).toInt ≤ (q17.1 0).toInt by omega), trivial⟩
    · have wc7 : (1 : Int) ≤ x1.toInt := c_nlt c7
      have i18 : (1 : Int) ≤ x1.toInt ∧ x1.toInt ≤ 511 := nr_nltr c7 (show (1 : Int) ≤ (1 : Int32).toInt ∧ (1 : Int32).toInt ≤ 1 by decide) i2 (by decide) (by decide)
      refine tt_if (fun c19 => ?_) (fun c19 => ?_)
      · have wc19 : (o1.1 0).toInt < x1.toInt := c_lt c19
        try unfold fSc_writeLiteral_36
        refine tt_kv (P := fun z => ((0 : Int) ≤ z.toInt ∧ z.toInt ≤ 1) ∧ z.toInt = v2.toInt % 2) ⟨iv_and (show (1 : Int) ≤ (1 : Int32).toInt ∧ (1 : Int32).toInt ≤ 1 by decide) (by decide) (by decide) (by decide), i_a1 (Int.le_trans (by decide) i_v2.1)⟩ (fun x20 qi21 => ?_)
        obtain ⟨i21, ei21⟩ := qi21
        refine tt_if (fun c22 => ?_) (fun c22 => ?_)
        · have wc22 : x20.toInt = (0 : Int) := c_eq c22
          have i23 : (0 : Int) ≤ x20.toInt ∧ x20.toInt ≤ 0 := nr_eql c22 i21 (show (0 : Int) ≤ (0 : Int32).toInt ∧ (0 : Int32).toInt ≤ 0 by decide) (by decide) (by decide)
          refine tt_b (sSB_appendS_S9 _ k_o2 f_o2_3 (show (o2.1 3).toInt ≤ (o2.1 0).toInt by omega) (show (o2.1 3).toInt ≤ 89997 by omega)) (fun q24 hq24 => ?_)
          obtain ⟨k_q24, n_q24, f_q24_3, zq24_0, zq24_1, zq24_2, -⟩ := hq24
          have r_q24 := fr_tr r_o2 n_q24 rfl rfl rfl
          have g_q24_0 : (16 : Int) ≤ (q24.1 0).toInt ∧ (q24.1 0).toInt ≤ 400000 := k_q24.1 0
          have e_q24_1 : (q24.1 1).toInt = (o2.1 1).toInt := congrArg Int32.toInt (n_q24.1 1 rfl)
          have g_q24_1 : (0 : Int) ≤ (q24.1 1).toInt ∧ (q24.1 1).toInt ≤ 0 := k_q24.1 1
          have zq24_0 : (q24.1 3).toInt = (o2.1 3).toInt + 3 := zq24_0
          have zq24_1 : (o2.1 3).toInt ≤ (q24.1 3).toInt := zq24_1
          have zq24_2 : (q24.1 3).toInt ≤ (q24.1 0).toInt := zq24_2
          try unfold fSc_writeLiteral_56
          refine tt_b (sSB_appendI _ _ k_q24 (iv_w (a := 0) (b := 511) (by decide) (by decide) i18) f_q24_3 (show (q24.1 3).toInt ≤ (q24.1 0).toInt by omega) (show (q24.1 3).toInt ≤ 89990 by omega)) (fun q25 hq25 => ?_)
          obtain ⟨k_q25, n_q25, f_q25_3, zq25_0, zq25_1, zq25_2, -⟩ := hq25
          have r_q25 := fr_tr r_q24 n_q25 rfl rfl rfl
          have g_q25_0 : (16 : Int) ≤ (q25.1 0).toInt ∧ (q25.1 0).toInt ≤ 400000 := k_q25.1 0
          have e_q25_1 : (q25.1 1).toInt = (q24.1 1).toInt := congrArg Int32.toInt (n_q25.1 1 rfl)
          have g_q25_1 : (0 : Int) ≤ (q25.1 1).toInt ∧ (q25.1 1).toInt ≤ 0 := k_q25.1 1
          have zq25_0 : (q25.1 3).toInt ≤ (q24.1 3).toInt + 10 := zq25_0
          have zq25_1 : (q24.1 3).toInt ≤ (q25.1 3).toInt := zq25_1
          have zq25_2 : (q25.1 3).toInt ≤ (q25.1 0).toInt := zq25_2
          try unfold fSc_writeLiteral_65
          exact tt_some ⟨k_q25, r_q25, (iv_w (a := 8) (b := 90000) (by decide) (by decide) f_q25_3), (show (q25.1 3).toInt ≤ (o2.1 3).toInt + 13 by omega), (show (o2.1 3).toInt ≤ (q25.1 3).toInt by omega), (show (q25.1 3).toInt ≤ (q25.1 0).toInt by omega), trivial⟩
        · have wc22 : ¬ x20.toInt = (0 : Int) := c_ne c22
          have i26 : (1 : Int) ≤ x20.toInt ∧ x20.toInt ≤ 1 := nr_nela c22 i21 (show (0 : Int) ≤ (0 : Int32).toInt ∧ (0 : Int32).toInt ≤ 0 by decide) (by decide) (by decide)
          refine tt_b (sSB_appendS_S10 _ k_o2 f_o2_3 (show (o2.1 3).toInt ≤ (o2.1 0).toInt by omega) (show (o2.1 3).toInt ≤ 89997 by omega)) (fun q27 hq27 => ?_)
          obtain ⟨k_q27, n_q27, f_q27_3, zq27_0, zq27_1, zq27_2, -⟩ := hq27
          have r_q27 := fr_tr r_o2 n_q27 rfl rfl rfl
          have g_q27_0 : (16 : Int) ≤ (q27.1 0).toInt ∧ (q27.1 0).toInt ≤ 400000 := k_q27.1 0
          have e_q27_1 : (q27.1 1).toInt = (o2.1 1).toInt := congrArg Int32.toInt (n_q27.1 1 rfl)
          have g_q27_1 : (0 : Int) ≤ (q27.1 1).toInt ∧ (q27.1 1).toInt ≤ 0 := k_q27.1 1
          have zq27_0 : (q27.1 3).toInt = (o2.1 3).toInt + 3 := zq27_0
          have zq27_1 : (o2.1 3).toInt ≤ (q27.1 3).toInt := zq27_1
          have zq27_2 : (q27.1 3).toInt ≤ (q27.1 0).toInt := zq27_2
          try unfold fSc_writeLiteral_56
          refine tt_b (sSB_appendI _ _ k_q27 (iv_w (a := 0) (b := 511) (by decide) (by decide) i18) f_q27_3 (show (q27.1 3).toInt ≤ (q27.1 0).toInt by omega) (show (q27.1 3).toInt ≤ 89990 by omega)) (fun q28 hq28 => ?_)
          obtain ⟨k_q28, n_q28, f_q28_3, zq28_0, zq28_1, zq28_2, -⟩ := hq28
          have r_q28 := fr_tr r_q27 n_q28 rfl rfl rfl
          have g_q28_0 : (16 : Int) ≤ (q28.1 0).toInt ∧ (q28.1 0).toInt ≤ 400000 := k_q28.1 0
          have e_q28_1 : (q28.1 1).toInt = (q27.1 1).toInt := congrArg Int32.toInt (n_q28.1 1 rfl)
          have g_q28_1 : (0 : Int) ≤ (q28.1 1).toInt ∧ (q28.1 1).toInt ≤ 0 := k_q28.1 1
          have zq28_0 : (q28.1 3).toInt ≤ (q27.1 3).toInt + 10 := zq28_0
          have zq28_1 : (q27.1 3).toInt ≤ (q28.1 3).toInt := zq28_1
          have zq28_2 : (q28.1 3).toInt ≤ (q28.1 0).toInt := zq28_2
          try unfold fSc_writeLiteral_65
          exact tt_some ⟨k_q28, r_q28, (iv_w (a := 8) (b := 90000) (by decide) (by decide) f_q28_3), (show (q28.1 3).toInt ≤ (o2.1 3).toInt + 13 by omega), (show (o2.1 3).toInt ≤ (q28.1 3).toInt by omega), (show (q28.1 3).toInt ≤ (q28.1 0).toInt by omega), trivial⟩
      · have wc19 : x1.toInt ≤ (o1.1 0).toInt := c_nlt c19
        have i29 : (1 : Int) ≤ x1.toInt ∧ x1.toInt ≤ 8 := nr_nltl c19 i18 (k_o1.1 0) (by decide) (by decide)
        have i30 : (1 : Int) ≤ (o1.1 0).toInt ∧ (o1.1 0).toInt ≤ 8 := nr_nltr c19 i18 (k_o1.1 0) (by decide) (by decide)
        refine tt_kv (P := fun z => ((0 : Int) ≤ z.toInt ∧ z.toInt ≤ 7) ∧ z.toInt = x1.toInt - 1) ⟨iv_sub i29 (show (1 : Int) ≤ (1 : Int32).toInt ∧ (1 : Int32).toInt ≤ 1 by decide) (by decide) (by decide) (by decide) (by decide), iq_sub i29 (show (1 : Int) ≤ (1 : Int32).toInt ∧ (1 : Int32).toInt ≤ 1 by decide) (by decide) (by decide)⟩ (fun x31 qi32 => ?_)
        obtain ⟨i32, ei32⟩ := qi32
        refine tt_n (ix_ok i32 (by decide) (by decide)) ?_
        refine tt_kl (fun x33 => ?_)
        refine tt_b (sSc_writeName _ _ _ k_o0 k_o2 (iv_w (a := 7) (b := 90000) (by decide) (by decide) f_o2_3) (show (o2.1 3).toInt ≤ (o2.1 0).toInt by omega) (show (o2.1 3).toInt ≤ 89991 by omega)) (fun q34 hq34 => ?_)
        obtain ⟨k_q34, n_q34, f_q34_3, zq34_0, zq34_1, zq34_2, -⟩ := hq34
        have r_q34 := fr_tr r_o2 n_q34 rfl rfl rfl
        have g_q34_0 : (16 : Int) ≤ (q34.1 0).toInt ∧ (q34.1 0).toInt ≤ 400000 := k_q34.1 0
        have e_q34_1 : (q34.1 1).toInt = (o2.1 1).toInt := congrArg Int32.toInt (n_q34.1 1 rfl)
        have g_q34_1 : (0 : Int) ≤ (q34.1 1).toInt ∧ (q34.1 1).toInt ≤ 0 := k_q34.1 1
        have zq34_0 : (q34.1 3).toInt ≤ (o2.1 3).toInt + 9 := zq34_0
        have zq34_1 : (o2.1 3).toInt ≤ (q34.1 3).toInt := zq34_1
        have zq34_2 : (q34.1 3).toInt ≤ (q34.1 0).toInt := zq34_2
        try unfold fSc_writeLiteral_35
        exact tt_some ⟨k_q34, r_q34, f_q34_3, (show (q34.1 3).toInt ≤ (o2.1 3).toInt + 13 by omega), (show (o2.1 3).toInt ≤ (q34.1 3).toInt by omega), (show (q34.1 3).toInt ≤ (q34.1 0).toInt by omega), trivial⟩
  · have wc5 : ¬ x3.toInt = (0 : Int) := c_ne c5
    have i35 : (1 : Int) ≤ x3.toInt ∧ x3.toInt ≤ 1 := nr_nela c5 i4 (show (0 : Int) ≤ (0 : Int32).toInt ∧ (0 : Int32).toInt ≤ 0 by decide) (by decide) (by decide)
    try unfold fSc_writeLiteral_36
    refine tt_kv (P := fun z => ((0 : Int) ≤ z.toInt ∧ z.toInt ≤ 1) ∧ z.toInt = v2.toInt % 2) ⟨iv_and (show (1 : Int) ≤ (1 : Int32).toInt ∧ (1 : Int32).toInt ≤ 1 by decide) (by decide) (by decide) (by decide), i_a1 (Int.le_trans (by decide) i_v2.1)⟩ (fun x36 qi37 => ?_)
    obtain ⟨i37, ei37⟩ := qi37
    refine tt_if (fun c38 => ?_) (fun c38 => ?_)
    · have wc38 : x36.toInt = (0 : Int) := c_eq c38
      have i39 : (0 : Int) ≤ x36.toInt ∧ x36.toInt ≤ 0 := nr_eql c38 i37 (show (0 : Int) ≤ (0 : Int32).toInt ∧ (0 : Int32).toInt ≤ 0 by decide) (by decide) (by decide)
      refine tt_b (sSB_appendS_S9 _ k_o2 f_o2_3 (show (o2.1 3).toInt ≤ (o2.1 0).toInt by omega) (show (o2.1 3).toInt ≤ 89997 by omega)) (fun q40 hq40 => ?_)
      obtain ⟨k_q40, n_q40, f_q40_3, zq40_0, zq40_1, zq40_2, -⟩ := hq40
      have r_q40 := fr_tr r_o2 n_q40 rfl rfl rfl
      have g_q40_0 : (16 : Int) ≤ (q40.1 0).toInt ∧ (q40.1 0).toInt ≤ 400000 := k_q40.1 0
      have e_q40_1 : (q40.1 1).toInt = (o2.1 1).toInt := congrArg Int32.toInt (n_q40.1 1 rfl)
      have g_q40_1 : (0 : Int) ≤ (q40.1 1).toInt ∧ (q40.1 1).toInt ≤ 0 := k_q40.1 1
      have zq40_0 : (q40.1 3).toInt = (o2.1 3).toInt + 3 := zq40_0
      have zq40_1 : (o2.1 3).toInt ≤ (q40.1 3).toInt := zq40_1
      have zq40_2 : (q40.1 3).toInt ≤ (q40.1 0).toInt := zq40_2
      try unfold fSc_writeLiteral_56
      refine tt_b (sSB_appendI _ _ k_q40 i2 f_q40_3 (show (q40.1 3).toInt ≤ (q40.1 0).toInt by omega) (show (q40.1 3).toInt ≤ 89990 by omega)) (fun q41 hq41 => ?_)
      obtain ⟨k_q41, n_q41, f_q41_3, zq41_0, zq41_1, zq41_2, -⟩ := hq41
      have r_q41 := fr_tr r_q40 n_q41 rfl rfl rfl
      have g_q41_0 : (16 : Int) ≤ (q41.1 0).toInt ∧ (q41.1 0).toInt ≤ 400000 := k_q41.1 0
      have e_q41_1 : (q41.1 1).toInt = (q40.1 1).toInt := congrArg Int32.toInt (n_q41.1 1 rfl)
      have g_q41_1 : (0 : Int) ≤ (q41.1 1).toInt ∧ (q41.1 1).toInt ≤ 0 := k_q41.1 1
      have zq41_0 : (q41.1 3).toInt ≤ (q40.1 3).toInt + 10 := zq41_0
      have zq41_1 : (q40.1 3).toInt ≤ (q41.1 3).toInt := zq41_1
      have zq41_2 : (q41.1 3).toInt ≤ (q41.1 0).toInt := zq41_2
      try unfold fSc_writeLiteral_65
      exact tt_some ⟨k_q41, r_q41, (iv_w (a := 8) (b := 90000) (by decide) (by decide) f_q41_3), (show (q41.1 3).toInt ≤ (o2.1 3).toInt + 13 by omega), (show (o2.1 3).toInt ≤ (q41.1 3).toInt by omega), (show (q41.1 3).toInt ≤ (q41.1 0).toInt by omega), trivial⟩
    · have wc38 : ¬ x36.toInt = (0 : Int) := c_ne c38
      have i42 : (1 : Int) ≤ x36.toInt ∧ x36.toInt ≤ 1 := nr_nela c38 i37 (show (0 : Int) ≤ (0 : Int32).toInt ∧ (0 : Int32).toInt ≤ 0 by decide) (by decide) (by decide)
      refine tt_b (sSB_appendS_S10 _ k_o2 f_o2_3 (show (o2.1 3).toInt ≤ (o2.1 0).toInt by omega) (show (o2.1 3).toInt ≤ 89997 by omega)) (fun q43 hq43 => ?_)
      obtain ⟨k_q43, n_q43, f_q43_3, zq43_0, zq43_1, zq43_2, -⟩ := hq43
      have r_q43 := fr_tr r_o2 n_q43 rfl rfl rfl
      have g_q43_0 : (16 : Int) ≤ (q43.1 0).toInt ∧ (q43.1 0).toInt ≤ 400000 := k_q43.1 0
      have e_q43_1 : (q43.1 1).toInt = (o2.1 1).toInt := congrArg Int32.toInt (n_q43.1 1 rfl)
      have g_q43_1 : (0 : Int) ≤ (q43.1 1).toInt ∧ (q43.1 1).toInt ≤ 0 := k_q43.1 1
      have zq43_0 : (q43.1 3).toInt = (o2.1 3).toInt + 3 := zq43_0
      have zq43_1 : (o2.1 3).toInt ≤ (q43.1 3).toInt := zq43_1
      have zq43_2 : (q43.1 3).toInt ≤ (q43.1 0).toInt := zq43_2
      try unfold fSc_writeLiteral_56
      refine tt_b (sSB_appendI _ _ k_q43 i2 f_q43_3 (show (q43.1 3).toInt ≤ (q43.1 0).toInt by omega) (show (q43.1 3).toInt ≤ 89990 by omega)) (fun q44 hq44 => ?_)
      obtain ⟨k_q44, n_q44, f_q44_3, zq44_0, zq44_1, zq44_2, -⟩ := hq44
      have r_q44 := fr_tr r_q43 n_q44 rfl rfl rfl
      have g_q44_0 : (16 : Int) ≤ (q44.1 0).toInt ∧ (q44.1 0).toInt ≤ 400000 := k_q44.1 0
      have e_q44_1 : (q44.1 1).toInt = (q43.1 1).toInt := congrArg Int32.toInt (n_q44.1 1 rfl)
      have g_q44_1 : (0 : Int) ≤ (q44.1 1).toInt ∧ (q44.1 1).toInt ≤ 0 := k_q44.1 1
      have zq44_0 : (q44.1 3).toInt ≤ (q43.1 3).toInt + 10 := zq44_0
      have zq44_1 : (q43.1 3).toInt ≤ (q44.1 3).toInt := zq44_1
      have zq44_2 : (q44.1 3).toInt ≤ (q44.1 0).toInt := zq44_2
      try unfold fSc_writeLiteral_65
      exact tt_some ⟨k_q44, r_q44, (iv_w (a := 8) (b := 90000) (by decide) (by decide) f_q44_3), (show (q44.1 3).toInt ≤ (o2.1 3).toInt + 13 by omega), (show (o2.1 3).toInt ≤ (q44.1 3).toInt by omega), (show (q44.1 3).toInt ≤ (q44.1 0).toInt by omega), trivial⟩
