def QFu_firstAsked (v1 : Int32) (v2 : Int32) (o0 : cf_O) (r : (Int32)) : Prop := (((-1) : Int) ≤ r.toInt ∧ r.toInt ≤ 7) ∧ True
def HFu_firstAsked (yv1 : Int32) (yv2 : Int32) (yo0 : cf_O) (n : Nat) : Prop := (∀ (v1 : Int32) (v2 : Int32) (v3 : Int32) (o0 : cf_O), (okO I_Fu o0) → (Fr (fr_M [] [] []) yo0 o0) → ((0 : Int) ≤ v1.toInt ∧ v1.toInt ≤ 417) → ((0 : Int) ≤ v2.toInt ∧ v2.toInt ≤ 8) → ((0 : Int) ≤ v3.toInt ∧ v3.toInt ≤ 8) → ((1 : Int) ≤ (o0.1 0).toInt ∧ (o0.1 0).toInt ≤ 1) → 0 + (8 - v3.toInt) * 516 < (n : Int) → tt (gFu_firstAsked n 0 v1 v2 v3 0 o0) (QFu_firstAsked yv1 yv2 yo0)) ∧ (∀ (v1 : Int32) (v2 : Int32) (v3 : Int32) (v4 : Int32) (o0 : cf_O), (okO I_Fu o0) → (Fr (fr_M [] [] []) yo0 o0) → ((0 : Int) ≤ v1.toInt ∧ v1.toInt ≤ 417) → ((1 : Int) ≤ v2.toInt ∧ v2.toInt ≤ 8) → ((0 : Int) ≤ v3.toInt ∧ v3.toInt ≤ 7) → ((0 : Int) ≤ v4.toInt ∧ v4.toInt ≤ 256) → ((1 : Int) ≤ (o0.1 0).toInt ∧ (o0.1 0).toInt ≤ 1) → 0 + (8 - v3.toInt - 1) * 516 + 1 + (256 - v4.toInt) * 2 < (n : Int) → tt (gFu_firstAsked n 1 v1 v2 v3 v4 o0) (QFu_firstAsked yv1 yv2 yo0))
set_option maxHeartbeats 4000000 in
set_option maxRecDepth 100000 in
theorem tFu_firstAsked_10 {yv1 : Int32} {yv2 : Int32} {yo0 : cf_O} {n : Nat} (H : HFu_firstAsked yv1 yv2 yo0 n) (v1 : Int32) (v2 : Int32) (v3 : Int32) (v4 : Int32) (o0 : cf_O) (k_o0 : okO I_Fu o0) (r_o0 : Fr (fr_M [] [] []) yo0 o0) (i_v1 : (0 : Int) ≤ v1.toInt ∧ v1.toInt ≤ 417) (i_v2 : (1 : Int) ≤ v2.toInt ∧ v2.toInt ≤ 8) (i_v3 : (0 : Int) ≤ v3.toInt ∧ v3.toInt ≤ 7) (i_v4 : (0 : Int) ≤ v4.toInt ∧ v4.toInt ≤ 256) (f_o0_0 : (1 : Int) ≤ (o0.1 0).toInt ∧ (o0.1 0).toInt ≤ 1) (hm : 0 + (8 - v3.toInt - 1) * 516 + 1 + (256 - v4.toInt) * 2 ≤ (n : Int)) : tt (fFu_firstAsked_10 (gFu_firstAsked n) v1 v2 v3 v4 o0) (QFu_firstAsked yv1 yv2 yo0) := by
  unfold fFu_firstAsked_10
  refine tt_kv (P := fun z => (2 : Int) ≤ z.toInt ∧ z.toInt ≤ 256) (iv_shl (p := 1) (q := 8) (show (1 : Int) ≤ (1 : Int32).toInt ∧ (1 : Int32).toInt ≤ 1 by decide) i_v2 (by decide) (by decide) (by decide) (by decide) (by decide)) (fun x1 i2 => ?_)
  refine tt_if (fun c3 => ?_) (fun c3 => ?_)
  · have i4 : (2 : Int) ≤ v4.toInt ∧ v4.toInt ≤ 256 := nr_ler c3 i2 i_v4 (by decide) (by decide)
    refine tt_kv (P := fun z => ((1 : Int) ≤ z.toInt ∧ z.toInt ≤ 8) ∧ z.toInt = v3.toInt + 1) ⟨iv_add i_v3 (show (1 : Int) ≤ (1 : Int32).toInt ∧ (1 : Int32).toInt ≤ 1 by decide) (by decide) (by decide) (by decide) (by decide), iq_add i_v3 (show (1 : Int) ≤ (1 : Int32).toInt ∧ (1 : Int32).toInt ≤ 1 by decide) (by decide) (by decide)⟩ (fun x5 qi6 => ?_)
    obtain ⟨i6, ei6⟩ := qi6
    exact H.1 _ _ _ _ k_o0 r_o0 i_v1 (iv_w (a := 0) (b := 8) (by decide) (by decide) i_v2) (iv_w (a := 0) (b := 8) (by decide) (by decide) i6) f_o0_0 (show 0 + (8 - x5.toInt) * 516 < (n : Int) by omega)
  · have i7 : (0 : Int) ≤ v4.toInt ∧ v4.toInt ≤ 255 := nr_nlel c3 i_v4 i2 (by decide) (by decide)
    refine tt_b (sFu_bit _ _ _ k_o0 i_v1 i7 f_o0_0) (fun q8 hq8 => ?_)
    obtain ⟨i_q8, -⟩ := hq8
    refine tt_kv (P := fun z => (1 : Int) ≤ z.toInt ∧ z.toInt ≤ 128) (iv_shl (p := 0) (q := 7) (show (1 : Int) ≤ (1 : Int32).toInt ∧ (1 : Int32).toInt ≤ 1 by decide) i_v3 (by decide) (by decide) (by decide) (by decide) (by decide)) (fun x9 i10 => ?_)
    refine tt_kv (P := fun z => (0 : Int) ≤ z.toInt ∧ z.toInt ≤ 255) (iv_xor (w := 8) i7 i10 (by decide) (by decide) (by decide) (by decide) (by decide) (by decide) (by decide)) (fun x11 i12 => ?_)
    refine tt_b (sFu_bit _ _ _ k_o0 i_v1 i12 f_o0_0) (fun q13 hq13 => ?_)
    obtain ⟨i_q13, -⟩ := hq13
    refine tt_if (fun c14 => ?_) (fun c14 => ?_)
    · refine tt_kv (P := fun z => ((1 : Int) ≤ z.toInt ∧ z.toInt ≤ 256) ∧ z.toInt = v4.toInt + 1) ⟨iv_add i7 (show (1 : Int) ≤ (1 : Int32).toInt ∧ (1 : Int32).toInt ≤ 1 by decide) (by decide) (by decide) (by decide) (by decide), iq_add i7 (show (1 : Int) ≤ (1 : Int32).toInt ∧ (1 : Int32).toInt ≤ 1 by decide) (by decide) (by decide)⟩ (fun x15 qi16 => ?_)
      obtain ⟨i16, ei16⟩ := qi16
      exact H.2 _ _ _ _ _ k_o0 r_o0 i_v1 i_v2 i_v3 (iv_w (a := 0) (b := 256) (by decide) (by decide) i16) f_o0_0 (show 0 + (8 - v3.toInt - 1) * 516 + 1 + (256 - x15.toInt) * 2 < (n : Int) by omega)
    · exact tt_some ⟨(iv_w (a := (-1)) (b := 7) (by decide) (by decide) i_v3), trivial⟩
set_option maxHeartbeats 4000000 in
set_option maxRecDepth 100000 in
theorem tFu_firstAsked_2 {yv1 : Int32} {yv2 : Int32} {yo0 : cf_O} {n : Nat} (H : HFu_firstAsked yv1 yv2 yo0 n) (v1 : Int32) (v2 : Int32) (v3 : Int32) (o0 : cf_O) (k_o0 : okO I_Fu o0) (r_o0 : Fr (fr_M [] [] []) yo0 o0) (i_v1 : (0 : Int) ≤ v1.toInt ∧ v1.toInt ≤ 417) (i_v2 : (0 : Int) ≤ v2.toInt ∧ v2.toInt ≤ 8) (i_v3 : (0 : Int) ≤ v3.toInt ∧ v3.toInt ≤ 8) (f_o0_0 : (1 : Int) ≤ (o0.1 0).toInt ∧ (o0.1 0).toInt ≤ 1) (hm : 0 + (8 - v3.toInt) * 516 ≤ (n : Int)) : tt (fFu_firstAsked_2 (gFu_firstAsked n) v1 v2 v3 o0) (QFu_firstAsked yv1 yv2 yo0) := by
  unfold fFu_firstAsked_2
  refine tt_if (fun c1 => ?_) (fun c1 => ?_)
  · exact tt_some ⟨(iv_w (a := (-1)) (b := 7) (by decide) (by decide) (show ((-1) : Int) ≤ ((-1) : Int32).toInt ∧ ((-1) : Int32).toInt ≤ (-1) by decide)), trivial⟩
  · have i2 : (0 : Int) ≤ v3.toInt ∧ v3.toInt ≤ 7 := nr_nlel c1 i_v3 i_v2 (by decide) (by decide)
    have i3 : (1 : Int) ≤ v2.toInt ∧ v2.toInt ≤ 8 := nr_nler c1 i_v3 i_v2 (by decide) (by decide)
    exact H.2 _ _ _ _ _ k_o0 r_o0 i_v1 i3 i2 (iv_w (a := 0) (b := 256) (by decide) (by decide) (show (0 : Int) ≤ (0 : Int32).toInt ∧ (0 : Int32).toInt ≤ 0 by decide)) f_o0_0 (show 0 + (8 - v3.toInt - 1) * 516 + 1 + (256 - 0) * 2 < (n : Int) by omega)
set_option maxHeartbeats 4000000 in
set_option maxRecDepth 100000 in
theorem hFu_firstAsked (yv1 : Int32) (yv2 : Int32) (yo0 : cf_O) : ∀ n, HFu_firstAsked yv1 yv2 yo0 n := by
  intro n
  induction n with
  | zero => exact ⟨(fun v1 v2 v3 o0 k_o0 r_o0 i_v1 i_v2 i_v3 f_o0_0 hm => by exact absurd (show 0 + (8 - v3.toInt) * 516 < (0 : Int) from hm) (by omega)), (fun v1 v2 v3 v4 o0 k_o0 r_o0 i_v1 i_v2 i_v3 i_v4 f_o0_0 hm => by exact absurd (show 0 + (8 - v3.toInt - 1) * 516 + 1 + (256 - v4.toInt) * 2 < (0 : Int) from hm) (by omega))⟩
  | succ n ih => exact ⟨(fun v1 v2 v3 o0 k_o0 r_o0 i_v1 i_v2 i_v3 f_o0_0 hm => tFu_firstAsked_2 ih v1 v2 v3 o0 k_o0 r_o0 i_v1 i_v2 i_v3 f_o0_0 (by omega)), (fun v1 v2 v3 v4 o0 k_o0 r_o0 i_v1 i_v2 i_v3 i_v4 f_o0_0 hm => tFu_firstAsked_10 ih v1 v2 v3 v4 o0 k_o0 r_o0 i_v1 i_v2 i_v3 i_v4 f_o0_0 (by omega))⟩
set_option maxHeartbeats 4000000 in
set_option maxRecDepth 100000 in
theorem sFu_firstAsked (v1 : Int32) (v2 : Int32) (o0 : cf_O) (k_o0 : okO I_Fu o0) (i_v1 : (0 : Int) ≤ v1.toInt ∧ v1.toInt ≤ 417) (i_v2 : (0 : Int) ≤ v2.toInt ∧ v2.toInt ≤ 8) (f_o0_0 : (1 : Int) ≤ (o0.1 0).toInt ∧ (o0.1 0).toInt ≤ 1) : tt (fFu_firstAsked v1 v2 o0) (QFu_firstAsked v1 v2 o0) := by
  have H := hFu_firstAsked v1 v2 o0 cfFU
  have hm : (4131 : Int) ≤ (cfFU : Nat) := by decide
  have r_o0 : Fr (fr_M [] [] []) o0 o0 := fr_rfl
  unfold fFu_firstAsked fFu_firstAsked_0
  exact H.1 _ _ _ _ k_o0 r_o0 i_v1 i_v2 (iv_w (a := 0) (b := 8) (by decide) (by decide) (show (0 : Int) ≤ (0 : Int32).toInt ∧ (0 : Int32).toInt ≤ 0 by decide)) f_o0_0 (show 0 + (8 - 0) * 516 < ((cfFU : Nat) : Int) by omega)
def QFu_questionOf (v1 : Int32) (v2 : Int32) (v3 : Int32) (o0 : cf_O) (r : (Int32)) : Prop := ((0 : Int) ≤ r.toInt ∧ r.toInt ≤ 128) ∧ True
def HFu_questionOf (yv1 : Int32) (yv2 : Int32) (yv3 : Int32) (yo0 : cf_O) (n : Nat) : Prop := (∀ (v1 : Int32) (v2 : Int32) (v3 : Int32) (v4 : Int32) (o0 : cf_O), (okO I_Fu o0) → (Fr (fr_M [] [] []) yo0 o0) → ((0 : Int) ≤ v3.toInt ∧ v3.toInt ≤ 128) → ((0 : Int) ≤ v4.toInt ∧ v4.toInt ≤ 128) → ((1 : Int) ≤ (o0.1 0).toInt ∧ (o0.1 0).toInt ≤ 1) → 0 + (128 - v4.toInt) * 2 < (n : Int) → tt (gFu_questionOf n 0 v1 v2 v3 v4 o0) (QFu_questionOf yv1 yv2 yv3 yo0))
set_option maxHeartbeats 4000000 in
set_option maxRecDepth 100000 in
theorem tFu_questionOf_3 {yv1 : Int32} {yv2 : Int32} {yv3 : Int32} {yo0 : cf_O} {n : Nat} (H : HFu_questionOf yv1 yv2 yv3 yo0 n) (v1 : Int32) (v2 : Int32) (v3 : Int32) (v4 : Int32) (o0 : cf_O) (k_o0 : okO I_Fu o0) (r_o0 : Fr (fr_M [] [] []) yo0 o0) (i_v3 : (0 : Int) ≤ v3.toInt ∧ v3.toInt ≤ 128) (i_v4 : (0 : Int) ≤ v4.toInt ∧ v4.toInt ≤ 128) (f_o0_0 : (1 : Int) ≤ (o0.1 0).toInt ∧ (o0.1 0).toInt ≤ 1) (hm : 0 + (128 - v4.toInt) * 2 ≤ (n : Int)) : tt (fFu_questionOf_3 (gFu_questionOf n) v1 v2 v3 v4 o0) (QFu_questionOf yv1 yv2 yv3 yo0) := by
  unfold fFu_questionOf_3
  refine tt_if (fun c1 => ?_) (fun c1 => ?_)
  · exact tt_some ⟨i_v3, trivial⟩
  · have i2 : (0 : Int) ≤ v4.toInt ∧ v4.toInt ≤ 127 := nr_nlel c1 i_v4 i_v3 (by decide) (by decide)
    have i3 : (1 : Int) ≤ v3.toInt ∧ v3.toInt ≤ 128 := nr_nler c1 i_v4 i_v3 (by decide) (by decide)
    refine tt_n (ix_ok i2 (by decide) (by decide)) ?_
    refine tt_kv (P := fun z => ((-2147483648) : Int) ≤ z.toInt ∧ z.toInt ≤ 2147483647) (k_o0.2 3 _) (fun x4 i5 => ?_)
    refine tt_if (fun c6 => ?_) (fun c6 => ?_)
    · refine tt_n (ix_ok i2 (by decide) (by decide)) ?_
      refine tt_kv (P := fun z => ((-2147483648) : Int) ≤ z.toInt ∧ z.toInt ≤ 2147483647) (k_o0.2 4 _) (fun x7 i8 => ?_)
      refine tt_if (fun c9 => ?_) (fun c9 => ?_)
      · exact tt_some ⟨(iv_w (a := 0) (b := 128) (by decide) (by decide) i2), trivial⟩
      · try unfold fFu_questionOf_34
        refine tt_kv (P := fun z => ((1 : Int) ≤ z.toInt ∧ z.toInt ≤ 128) ∧ z.toInt = v4.toInt + 1) ⟨iv_add i2 (show (1 : Int) ≤ (1 : Int32).toInt ∧ (1 : Int32).toInt ≤ 1 by decide) (by decide) (by decide) (by decide) (by decide), iq_add i2 (show (1 : Int) ≤ (1 : Int32).toInt ∧ (1 : Int32).toInt ≤ 1 by decide) (by decide) (by decide)⟩ (fun x10 qi11 => ?_)
        obtain ⟨i11, ei11⟩ := qi11
        exact H _ _ _ _ _ k_o0 r_o0 (iv_w (a := 0) (b := 128) (by decide) (by decide) i3) (iv_w (a := 0) (b := 128) (by decide) (by decide) i11) f_o0_0 (show 0 + (128 - x10.toInt) * 2 < (n : Int) by omega)
    · try unfold fFu_questionOf_34
      refine tt_kv (P := fun z => ((1 : Int) ≤ z.toInt ∧ z.toInt ≤ 128) ∧ z.toInt = v4.toInt + 1) ⟨iv_add i2 (show (1 : Int) ≤ (1 : Int32).toInt ∧ (1 : Int32).toInt ≤ 1 by decide) (by decide) (by decide) (by decide) (by decide), iq_add i2 (show (1 : Int) ≤ (1 : Int32).toInt ∧ (1 : Int32).toInt ≤ 1 by decide) (by decide) (by decide)⟩ (fun x12 qi13 => ?_)
      obtain ⟨i13, ei13⟩ := qi13
      exact H _ _ _ _ _ k_o0 r_o0 (iv_w (a := 0) (b := 128) (by decide) (by decide) i3) (iv_w (a := 0) (b := 128) (by decide) (by decide) i13) f_o0_0 (show 0 + (128 - x12.toInt) * 2 < (n : Int) by omega)
set_option maxHeartbeats 4000000 in
set_option maxRecDepth 100000 in
theorem hFu_questionOf (yv1 : Int32) (yv2 : Int32) (yv3 : Int32) (yo0 : cf_O) : ∀ n, HFu_questionOf yv1 yv2 yv3 yo0 n := by
  intro n
  induction n with
  | zero => exact (fun v1 v2 v3 v4 o0 k_o0 r_o0 i_v3 i_v4 f_o0_0 hm => by exact absurd (show 0 + (128 - v4.toInt) * 2 < (0 : Int) from hm) (by omega))
  | succ n ih => exact (fun v1 v2 v3 v4 o0 k_o0 r_o0 i_v3 i_v4 f_o0_0 hm => tFu_questionOf_3 ih v1 v2 v3 v4 o0 k_o0 r_o0 i_v3 i_v4 f_o0_0 (by omega))
set_option maxHeartbeats 4000000 in
set_option maxRecDepth 100000 in
theorem sFu_questionOf (v1 : Int32) (v2 : Int32) (v3 : Int32) (o0 : cf_O) (k_o0 : okO I_Fu o0) (i_v3 : (0 : Int) ≤ v3.toInt ∧ v3.toInt ≤ 128) (f_o0_0 : (1 : Int) ≤ (o0.1 0).toInt ∧ (o0.1 0).toInt ≤ 1) : tt (fFu_questionOf v1 v2 v3 o0) (QFu_questionOf v1 v2 v3 o0) := by
  have H := hFu_questionOf v1 v2 v3 o0 cfFU
  have hm : (259 : Int) ≤ (cfFU : Nat) := by decide
  have r_o0 : Fr (fr_M [] [] []) o0 o0 := fr_rfl
  unfold fFu_questionOf fFu_questionOf_0
  exact H _ _ _ _ _ k_o0 r_o0 i_v3 (iv_w (a := 0) (b := 128) (by decide) (by decide) (show (0 : Int) ≤ (0 : Int32).toInt ∧ (0 : Int32).toInt ≤ 0 by decide)) f_o0_0 (show 0 + (128 - 0) * 2 < ((cfFU : Nat) : Int) by omega)
def QFu_askInput (v1 : Int32) (v2 : Int32) (o0 : cf_O) (r : (Int32 × cf_O)) : Prop := ((0 : Int) ≤ r.1.toInt ∧ r.1.toInt ≤ 128) ∧ (okO I_Fu r.2) ∧ (Fr (fr_M [] [2, 3, 4] []) o0 r.2) ∧ True
def HFu_askInput (yv1 : Int32) (yv2 : Int32) (yo0 : cf_O) (n : Nat) : Prop := (∀ (v1 : Int32) (v2 : Int32) (v3 : Int32) (v4 : Int32) (o0 : cf_O), (okO I_Fu o0) → (Fr (fr_M [] [2, 3, 4] []) yo0 o0) → ((0 : Int) ≤ v1.toInt ∧ v1.toInt ≤ 7) → ((0 : Int) ≤ v3.toInt ∧ v3.toInt ≤ 128) → ((0 : Int) ≤ v4.toInt ∧ v4.toInt ≤ 128) → ((1 : Int) ≤ (o0.1 0).toInt ∧ (o0.1 0).toInt ≤ 1) → (v3.toInt ≤ v4.toInt) → 0 + (128 - v4.toInt) * 2 < (n : Int) → tt (gFu_askInput n 0 v1 v2 v3 v4 o0) (QFu_askInput yv1 yv2 yo0))
set_option maxHeartbeats 4000000 in
set_option maxRecDepth 100000 in
theorem tFu_askInput_5 {yv1 : Int32} {yv2 : Int32} {yo0 : cf_O} {n : Nat} (H : HFu_askInput yv1 yv2 yo0 n) (v1 : Int32) (v2 : Int32) (v3 : Int32) (v4 : Int32) (o0 : cf_O) (k_o0 : okO I_Fu o0) (r_o0 : Fr (fr_M [] [2, 3, 4] []) yo0 o0) (i_v1 : (0 : Int) ≤ v1.toInt ∧ v1.toInt ≤ 7) (i_v3 : (0 : Int) ≤ v3.toInt ∧ v3.toInt ≤ 128) (i_v4 : (0 : Int) ≤ v4.toInt ∧ v4.toInt ≤ 128) (f_o0_0 : (1 : Int) ≤ (o0.1 0).toInt ∧ (o0.1 0).toInt ≤ 1) (x_0 : v3.toInt ≤ v4.toInt) (hm : 0 + (128 - v4.toInt) * 2 ≤ (n : Int)) : tt (fFu_askInput_5 (gFu_askInput n) v1 v2 v3 v4 o0) (QFu_askInput yv1 yv2 yo0) := by
  unfold fFu_askInput_5
  have i_v2 := iv_top v2
  refine tt_kv (P := fun z => ((1 : Int) ≤ z.toInt ∧ z.toInt ≤ 128) ∧ z.toInt = ((1 : Int32) <<< (v1 &&& (31 : Int32))).toInt) ⟨iv_shl (p := 0) (q := 7) (show (1 : Int) ≤ (1 : Int32).toInt ∧ (1 : Int32).toInt ≤ 1 by decide) i_v1 (by decide) (by decide) (by decide) (by decide) (by decide), rfl⟩ (fun x1 qi2 => ?_)
  obtain ⟨i2, ei2⟩ := qi2
  refine tt_if (fun c3 => ?_) (fun c3 => ?_)
  · have wc3 : x1.toInt ≤ v4.toInt := c_le c3
    have i4 : (1 : Int) ≤ v4.toInt ∧ v4.toInt ≤ 128 := nr_ler c3 i2 i_v4 (by decide) (by decide)
    exact tt_some ⟨i_v3, k_o0, r_o0, trivial⟩
  · have wc3 : v4.toInt < x1.toInt := c_nle c3
    have i5 : (0 : Int) ≤ v4.toInt ∧ v4.toInt ≤ 127 := nr_nlel c3 i_v4 i2 (by decide) (by decide)
    refine tt_n (ix_ok i5 (by decide) (by decide)) ?_
    refine tt_kv (P := fun z => (((-2147483648) : Int) ≤ z.toInt ∧ z.toInt ≤ 2147483647) ∧ z.toInt = (o0.2.1 2 v4.toNatClampNeg).toInt) ⟨(k_o0.2 2 _), rfl⟩ (fun x6 qi7 => ?_)
    obtain ⟨i7, ei7⟩ := qi7
    refine tt_kv (P := fun z => ((1 : Int) ≤ z.toInt ∧ z.toInt ≤ 128) ∧ z.toInt = ((1 : Int32) <<< (v1 &&& (31 : Int32))).toInt) ⟨iv_shl (p := 0) (q := 7) (show (1 : Int) ≤ (1 : Int32).toInt ∧ (1 : Int32).toInt ≤ 1 by decide) i_v1 (by decide) (by decide) (by decide) (by decide) (by decide), rfl⟩ (fun x8 qi9 => ?_)
    obtain ⟨i9, ei9⟩ := qi9
    refine tt_kv (P := fun z => ((1 : Int) ≤ z.toInt ∧ z.toInt ≤ 255) ∧ z.toInt = v4.toInt + x8.toInt) ⟨iv_add i5 i9 (by decide) (by decide) (by decide) (by decide), iq_add i5 i9 (by decide) (by decide)⟩ (fun x10 qi11 => ?_)
    obtain ⟨i11, ei11⟩ := qi11
    refine tt_n (ix_ok i11 (by decide) (by decide)) ?_
    refine tt_kv (P := fun z => (((-2147483648) : Int) ≤ z.toInt ∧ z.toInt ≤ 2147483647) ∧ z.toInt = (o0.2.1 2 x10.toNatClampNeg).toInt) ⟨(k_o0.2 2 _), rfl⟩ (fun x12 qi13 => ?_)
    obtain ⟨i13, ei13⟩ := qi13
    refine tt_if (fun c14 => ?_) (fun c14 => ?_)
    · have wc14 : x6.toInt = x12.toInt := c_eq c14
      try unfold fFu_askInput_92
      refine tt_kv (P := fun z => ((1 : Int) ≤ z.toInt ∧ z.toInt ≤ 128) ∧ z.toInt = v4.toInt + 1) ⟨iv_add i5 (show (1 : Int) ≤ (1 : Int32).toInt ∧ (1 : Int32).toInt ≤ 1 by decide) (by decide) (by decide) (by decide) (by decide), iq_add i5 (show (1 : Int) ≤ (1 : Int32).toInt ∧ (1 : Int32).toInt ≤ 1 by decide) (by decide) (by decide)⟩ (fun x15 qi16 => ?_)
      obtain ⟨i16, ei16⟩ := qi16
      exact H _ _ _ _ _ k_o0 r_o0 i_v1 i_v3 (iv_w (a := 0) (b := 128) (by decide) (by decide) i16) f_o0_0 (show v3.toInt ≤ x15.toInt by omega) (show 0 + (128 - x15.toInt) * 2 < (n : Int) by omega)
    · have wc14 : ¬ x6.toInt = x12.toInt := c_ne c14
      refine tt_b (sFu_questionOf _ _ _ _ k_o0 i_v3 f_o0_0) (fun q17 hq17 => ?_)
      obtain ⟨i_q17, -⟩ := hq17
      refine tt_if (fun c18 => ?_) (fun c18 => ?_)
      · have wc18 : q17.toInt = v3.toInt := c_eq c18
        refine tt_n (ix_rel (by omega) (by omega)) ?_
        have i19 : (0 : Int) ≤ v3.toInt ∧ v3.toInt ≤ 127 := (by omega)
        refine tt_ko ?_
        have k20 := ok_xp (k := 3) (i := v3.toNatClampNeg) (v := x6) k_o0 i7
        have r21 := fr_xp (k := 3) (i := v3.toNatClampNeg) (v := x6) r_o0 rfl
        refine tt_n (ix_ok i19 (by decide) (by decide)) ?_
        refine tt_ko ?_
        have k22 := ok_xp (k := 4) (i := v3.toNatClampNeg) (v := x12) k20 i13
        have r23 := fr_xp (k := 4) (i := v3.toNatClampNeg) (v := x12) r21 rfl
        refine tt_kv (P := fun z => ((1 : Int) ≤ z.toInt ∧ z.toInt ≤ 128) ∧ z.toInt = v3.toInt + 1) ⟨iv_add i19 (show (1 : Int) ≤ (1 : Int32).toInt ∧ (1 : Int32).toInt ≤ 1 by decide) (by decide) (by decide) (by decide) (by decide), iq_add i19 (show (1 : Int) ≤ (1 : Int32).toInt ∧ (1 : Int32).toInt ≤ 1 by decide) (by decide) (by decide)⟩ (fun x24 qi25 => ?_)
        obtain ⟨i25, ei25⟩ := qi25
        try unfold fFu_askInput_81
        refine tt_kv (P := fun z => ((-2147483648) : Int) ≤ z.toInt ∧ z.toInt ≤ 2147483647) (iv_top _) (fun x26 i27 => ?_)
        refine tt_n (ix_ok i5 (by decide) (by decide)) ?_
        refine tt_ko ?_
        have k28 := ok_xp (k := 2) (i := v4.toNatClampNeg) (v := x26) k22 i27
        have r29 := fr_xp (k := 2) (i := v4.toNatClampNeg) (v := x26) r23 rfl
        try unfold fFu_askInput_92
        refine tt_kv (P := fun z => ((1 : Int) ≤ z.toInt ∧ z.toInt ≤ 128) ∧ z.toInt = v4.toInt + 1) ⟨iv_add i5 (show (1 : Int) ≤ (1 : Int32).toInt ∧ (1 : Int32).toInt ≤ 1 by decide) (by decide) (by decide) (by decide) (by decide), iq_add i5 (show (1 : Int) ≤ (1 : Int32).toInt ∧ (1 : Int32).toInt ≤ 1 by decide) (by decide) (by decide)⟩ (fun x30 qi31 => ?_)
        obtain ⟨i31, ei31⟩ := qi31
        exact H _ _ _ _ _ k28 r29 i_v1 (iv_w (a := 0) (b := 128) (by decide) (by decide) i25) (iv_w (a := 0) (b := 128) (by decide) (by decide) i31) f_o0_0 (show x24.toInt ≤ x30.toInt by omega) (show 0 + (128 - x30.toInt) * 2 < (n : Int) by omega)
      · have wc18 : ¬ q17.toInt = v3.toInt := c_ne c18
        try unfold fFu_askInput_81
        refine tt_kv (P := fun z => ((-2147483648) : Int) ≤ z.toInt ∧ z.toInt ≤ 2147483647) (iv_top _) (fun x32 i33 => ?_)
        refine tt_n (ix_ok i5 (by decide) (by decide)) ?_
        refine tt_ko ?_
        have k34 := ok_xp (k := 2) (i := v4.toNatClampNeg) (v := x32) k_o0 i33
        have r35 := fr_xp (k := 2) (i := v4.toNatClampNeg) (v := x32) r_o0 rfl
        try unfold fFu_askInput_92
        refine tt_kv (P := fun z => ((1 : Int) ≤ z.toInt ∧ z.toInt ≤ 128) ∧ z.toInt = v4.toInt + 1) ⟨iv_add i5 (show (1 : Int) ≤ (1 : Int32).toInt ∧ (1 : Int32).toInt ≤ 1 by decide) (by decide) (by decide) (by decide) (by decide), iq_add i5 (show (1 : Int) ≤ (1 : Int32).toInt ∧ (1 : Int32).toInt ≤ 1 by decide) (by decide) (by decide)⟩ (fun x36 qi37 => ?_)
        obtain ⟨i37, ei37⟩ := qi37
        exact H _ _ _ _ _ k34 r35 i_v1 i_v3 (iv_w (a := 0) (b := 128) (by decide) (by decide) i37) f_o0_0 (show v3.toInt ≤ x36.toInt by omega) (show 0 + (128 - x36.toInt) * 2 < (n : Int) by omega)
set_option maxHeartbeats 4000000 in
set_option maxRecDepth 100000 in
theorem hFu_askInput (yv1 : Int32) (yv2 : Int32) (yo0 : cf_O) : ∀ n, HFu_askInput yv1 yv2 yo0 n := by
  intro n
  induction n with
  | zero => exact (fun v1 v2 v3 v4 o0 k_o0 r_o0 i_v1 i_v3 i_v4 f_o0_0 x_0 hm => by exact absurd (show 0 + (128 - v4.toInt) * 2 < (0 : Int) from hm) (by omega))
  | succ n ih => exact (fun v1 v2 v3 v4 o0 k_o0 r_o0 i_v1 i_v3 i_v4 f_o0_0 x_0 hm => tFu_askInput_5 ih v1 v2 v3 v4 o0 k_o0 r_o0 i_v1 i_v3 i_v4 f_o0_0 x_0 (by omega))
set_option maxHeartbeats 4000000 in
set_option maxRecDepth 100000 in
theorem sFu_askInput (v1 : Int32) (v2 : Int32) (o0 : cf_O) (k_o0 : okO I_Fu o0) (i_v1 : (0 : Int) ≤ v1.toInt ∧ v1.toInt ≤ 7) (f_o0_0 : (1 : Int) ≤ (o0.1 0).toInt ∧ (o0.1 0).toInt ≤ 1) : tt (fFu_askInput v1 v2 o0) (QFu_askInput v1 v2 o0) := by
  have H := hFu_askInput v1 v2 o0 cfFU
  have hm : (259 : Int) ≤ (cfFU : Nat) := by decide
  have r_o0 : Fr (fr_M [] [2, 3, 4] []) o0 o0 := fr_rfl
  unfold fFu_askInput fFu_askInput_0
  have i_v2 := iv_top v2
  exact H _ _ _ _ _ k_o0 r_o0 i_v1 (iv_w (a := 0) (b := 128) (by decide) (by decide) (show (0 : Int) ≤ (0 : Int32).toInt ∧ (0 : Int32).toInt ≤ 0 by decide)) (iv_w (a := 0) (b := 128) (by decide) (by decide) (show (0 : Int) ≤ (0 : Int32).toInt ∧ (0 : Int32).toInt ≤ 0 by decide)) f_o0_0 (show 0 ≤ 0 by omega) (show 0 + (128 - 0) * 2 < ((cfFU : Nat) : Int) by omega)
def QFu_questions (v1 : Int32) (v2 : Int32) (o0 : cf_O) (r : (Int32 × cf_O)) : Prop := (okO I_Fu r.2) ∧ (Fr (fr_M [] [2, 3, 4] []) o0 r.2) ∧ True
def HFu_questions (yv1 : Int32) (yv2 : Int32) (yo0 : cf_O) (n : Nat) : Prop := (∀ (v1 : Int32) (v2 : Int32) (v3 : Int32) (o0 : cf_O), (okO I_Fu o0) → (Fr (fr_M [] [2, 3, 4] []) yo0 o0) → ((0 : Int) ≤ v1.toInt ∧ v1.toInt ≤ 417) → ((0 : Int) ≤ v2.toInt ∧ v2.toInt ≤ 8) → ((0 : Int) ≤ v3.toInt ∧ v3.toInt ≤ 256) → ((1 : Int) ≤ (o0.1 0).toInt ∧ (o0.1 0).toInt ≤ 1) → 18 + (256 - v3.toInt) * 2 < (n : Int) → tt (gFu_questions n 0 v1 v2 v3 0 o0) (QFu_questions yv1 yv2 yo0)) ∧ (∀ (v3 : Int32) (v4 : Int32) (o0 : cf_O), (okO I_Fu o0) → (Fr (fr_M [] [2, 3, 4] []) yo0 o0) → (((-1) : Int) ≤ v4.toInt ∧ v4.toInt ≤ 7) → ((1 : Int) ≤ (o0.1 0).toInt ∧ (o0.1 0).toInt ≤ 1) → 0 + (v4.toInt - (-1)) * 2 < (n : Int) → tt (gFu_questions n 1 0 0 v3 v4 o0) (QFu_questions yv1 yv2 yo0))
set_option maxHeartbeats 4000000 in
set_option maxRecDepth 100000 in
theorem tFu_questions_34 {yv1 : Int32} {yv2 : Int32} {yo0 : cf_O} {n : Nat} (H : HFu_questions yv1 yv2 yo0 n) (v3 : Int32) (v4 : Int32) (o0 : cf_O) (k_o0 : okO I_Fu o0) (r_o0 : Fr (fr_M [] [2, 3, 4] []) yo0 o0) (i_v4 : ((-1) : Int) ≤ v4.toInt ∧ v4.toInt ≤ 7) (f_o0_0 : (1 : Int) ≤ (o0.1 0).toInt ∧ (o0.1 0).toInt ≤ 1) (hm : 0 + (v4.toInt - (-1)) * 2 ≤ (n : Int)) : tt (fFu_questions_34 (gFu_questions n) v3 v4 o0) (QFu_questions yv1 yv2 yo0) := by
  unfold fFu_questions_34
  refine tt_if (fun c1 => ?_) (fun c1 => ?_)
  · have i2 : ((-1) : Int) ≤ v4.toInt ∧ v4.toInt ≤ (-1) := nr_ltl c1 i_v4 (show (0 : Int) ≤ (0 : Int32).toInt ∧ (0 : Int32).toInt ≤ 0 by decide) (by decide) (by decide)
    exact tt_some ⟨k_o0, r_o0, trivial⟩
  · have i3 : (0 : Int) ≤ v4.toInt ∧ v4.toInt ≤ 7 := nr_nltr c1 (show (0 : Int) ≤ (0 : Int32).toInt ∧ (0 : Int32).toInt ≤ 0 by decide) i_v4 (by decide) (by decide)
    refine tt_kv (P := fun z => ((-2147483648) : Int) ≤ z.toInt ∧ z.toInt ≤ 2147483647) (iv_top _) (fun x4 i5 => ?_)
    refine tt_b (sFu_askInput _ _ _ k_o0 i3 f_o0_0) (fun q6 hq6 => ?_)
    obtain ⟨i_q6, k_q6_2, n_q6_2, -⟩ := hq6
    have r_q6_2 := fr_tr r_o0 n_q6_2 rfl rfl rfl
    have f_q6_2_0 : (1 : Int) ≤ (q6.2.1 0).toInt ∧ (q6.2.1 0).toInt ≤ 1 := by rw [n_q6_2.1 0 rfl]; exact f_o0_0
    refine tt_kv (P := fun z => ((-2147483648) : Int) ≤ z.toInt ∧ z.toInt ≤ 2147483647) (iv_top _) (fun x7 i8 => ?_)
    refine tt_kv (P := fun z => (((-1) : Int) ≤ z.toInt ∧ z.toInt ≤ 6) ∧ z.toInt = v4.toInt + (-1)) ⟨iv_add i3 (show ((-1) : Int) ≤ ((-1) : Int32).toInt ∧ ((-1) : Int32).toInt ≤ (-1) by decide) (by decide) (by decide) (by decide) (by decide), iq_add i3 (show ((-1) : Int) ≤ ((-1) : Int32).toInt ∧ ((-1) : Int32).toInt ≤ (-1) by decide) (by decide) (by decide)⟩ (fun x9 qi10 => ?_)
    obtain ⟨i10, ei10⟩ := qi10
    exact H.2 _ _ _ k_q6_2 r_q6_2 (iv_w (a := (-1)) (b := 7) (by decide) (by decide) i10) f_q6_2_0 (show 0 + (x9.toInt - (-1)) * 2 < (n : Int) by omega)
set_option maxHeartbeats 4000000 in
set_option maxRecDepth 100000 in
theorem tFu_questions_2 {yv1 : Int32} {yv2 : Int32} {yo0 : cf_O} {n : Nat} (H : HFu_questions yv1 yv2 yo0 n) (v1 : Int32) (v2 : Int32) (v3 : Int32) (o0 : cf_O) (k_o0 : okO I_Fu o0) (r_o0 : Fr (fr_M [] [2, 3, 4] []) yo0 o0) (i_v1 : (0 : Int) ≤ v1.toInt ∧ v1.toInt ≤ 417) (i_v2 : (0 : Int) ≤ v2.toInt ∧ v2.toInt ≤ 8) (i_v3 : (0 : Int) ≤ v3.toInt ∧ v3.toInt ≤ 256) (f_o0_0 : (1 : Int) ≤ (o0.1 0).toInt ∧ (o0.1 0).toInt ≤ 1) (hm : 18 + (256 - v3.toInt) * 2 ≤ (n : Int)) : tt (fFu_questions_2 (gFu_questions n) v1 v2 v3 o0) (QFu_questions yv1 yv2 yo0) := by
  unfold fFu_questions_2
  refine tt_kv (P := fun z => (1 : Int) ≤ z.toInt ∧ z.toInt ≤ 256) (iv_shl (p := 0) (q := 8) (show (1 : Int) ≤ (1 : Int32).toInt ∧ (1 : Int32).toInt ≤ 1 by decide) i_v2 (by decide) (by decide) (by decide) (by decide) (by decide)) (fun x1 i2 => ?_)
  refine tt_if (fun c3 => ?_) (fun c3 => ?_)
  · have i4 : (1 : Int) ≤ v3.toInt ∧ v3.toInt ≤ 256 := nr_ler c3 i2 i_v3 (by decide) (by decide)
    refine tt_kv (P := fun z => (((-1) : Int) ≤ z.toInt ∧ z.toInt ≤ 7) ∧ z.toInt = v2.toInt - 1) ⟨iv_sub i_v2 (show (1 : Int) ≤ (1 : Int32).toInt ∧ (1 : Int32).toInt ≤ 1 by decide) (by decide) (by decide) (by decide) (by decide), iq_sub i_v2 (show (1 : Int) ≤ (1 : Int32).toInt ∧ (1 : Int32).toInt ≤ 1 by decide) (by decide) (by decide)⟩ (fun x5 qi6 => ?_)
    obtain ⟨i6, ei6⟩ := qi6
    exact H.2 _ _ _ k_o0 r_o0 i6 f_o0_0 (show 0 + (x5.toInt - (-1)) * 2 < (n : Int) by omega)
  · have i7 : (0 : Int) ≤ v3.toInt ∧ v3.toInt ≤ 255 := nr_nlel c3 i_v3 i2 (by decide) (by decide)
    refine tt_b (sFu_bit _ _ _ k_o0 i_v1 i7 f_o0_0) (fun q8 hq8 => ?_)
    obtain ⟨i_q8, -⟩ := hq8
    refine tt_n (ix_ok i7 (by decide) (by decide)) ?_
    refine tt_ko ?_
    have k9 := ok_xp (k := 2) (i := v3.toNatClampNeg) (v := q8) k_o0 (iv_w (a := (-2147483648)) (b := 2147483647) (by decide) (by decide) i_q8)
    have r10 := fr_xp (k := 2) (i := v3.toNatClampNeg) (v := q8) r_o0 rfl
    refine tt_kv (P := fun z => ((1 : Int) ≤ z.toInt ∧ z.toInt ≤ 256) ∧ z.toInt = v3.toInt + 1) ⟨iv_add i7 (show (1 : Int) ≤ (1 : Int32).toInt ∧ (1 : Int32).toInt ≤ 1 by decide) (by decide) (by decide) (by decide) (by decide), iq_add i7 (show (1 : Int) ≤ (1 : Int32).toInt ∧ (1 : Int32).toInt ≤ 1 by decide) (by decide) (by decide)⟩ (fun x11 qi12 => ?_)
    obtain ⟨i12, ei12⟩ := qi12
    exact H.1 _ _ _ _ k9 r10 i_v1 i_v2 (iv_w (a := 0) (b := 256) (by decide) (by decide) i12) f_o0_0 (show 18 + (256 - x11.toInt) * 2 < (n : Int) by omega)
set_option maxHeartbeats 4000000 in
set_option maxRecDepth 100000 in
theorem hFu_questions (yv1 : Int32) (yv2 : Int32) (yo0 : cf_O) : ∀ n, HFu_questions yv1 yv2 yo0 n := by
  intro n
  induction n with
  | zero => exact ⟨(fun v1 v2 v3 o0 k_o0 r_o0 i_v1 i_v2 i_v3 f_o0_0 hm => by exact absurd (show 18 + (256 - v3.toInt) * 2 < (0 : Int) from hm) (by omega)), (fun v3 v4 o0 k_o0 r_o0 i_v4 f_o0_0 hm => by exact absurd (show 0 + (v4.toInt - (-1)) * 2 < (0 : Int) from hm) (by omega))⟩
  | succ n ih => exact ⟨(fun v1 v2 v3 o0 k_o0 r_o0 i_v1 i_v2 i_v3 f_o0_0 hm => tFu_questions_2 ih v1 v2 v3 o0 k_o0 r_o0 i_v1 i_v2 i_v3 f_o0_0 (by omega)), (fun v3 v4 o0 k_o0 r_o0 i_v4 f_o0_0 hm => tFu_questions_34 ih v3 v4 o0 k_o0 r_o0 i_v4 f_o0_0 (by omega))⟩
set_option maxHeartbeats 4000000 in
set_option maxRecDepth 100000 in
theorem sFu_questions (v1 : Int32) (v2 : Int32) (o0 : cf_O) (k_o0 : okO I_Fu o0) (i_v1 : (0 : Int) ≤ v1.toInt ∧ v1.toInt ≤ 417) (i_v2 : (0 : Int) ≤ v2.toInt ∧ v2.toInt ≤ 8) (f_o0_0 : (1 : Int) ≤ (o0.1 0).toInt ∧ (o0.1 0).toInt ≤ 1) : tt (fFu_questions v1 v2 o0) (QFu_questions v1 v2 o0) := by
  have H := hFu_questions v1 v2 o0 cfFU
  have hm : (533 : Int) ≤ (cfFU : Nat) := by decide
  have r_o0 : Fr (fr_M [] [2, 3, 4] []) o0 o0 := fr_rfl
  unfold fFu_questions fFu_questions_0
  exact H.1 _ _ _ _ k_o0 r_o0 i_v1 i_v2 (iv_w (a := 0) (b := 256) (by decide) (by decide) (show (0 : Int) ≤ (0 : Int32).toInt ∧ (0 : Int32).toInt ≤ 0 by decide)) f_o0_0 (show 18 + (256 - 0) * 2 < ((cfFU : Nat) : Int) by omega)
def QJArrays_fill_AII_Gr8 (v1 : Int32) (o0 : cf_O) (r : (cf_O)) : Prop := (okO I_Gr r) ∧ (Fr (fr_M [] [8] []) o0 r) ∧ (Fc 418 (r.2.1 8)) ∧ True
def HJArrays_fill_AII_Gr8 (yv1 : Int32) (yo0 : cf_O) (n : Nat) : Prop := (∀ (v1 : Int32) (v2 : Int32) (v3 : Int32) (o0 : cf_O), (okO I_Gr o0) → (Fr (fr_M [] [8] []) yo0 o0) → ((0 : Int) ≤ v1.toInt ∧ v1.toInt ≤ 0) → ((0 : Int) ≤ v2.toInt ∧ v2.toInt ≤ 418) → ((418 : Int) ≤ v3.toInt ∧ v3.toInt ≤ 418) → ((0 : Int) ≤ (o0.1 2).toInt ∧ (o0.1 2).toInt ≤ 0) → ((0 : Int) ≤ (o0.1 3).toInt ∧ (o0.1 3).toInt ≤ 0) → (Fc v2.toInt (o0.2.1 8)) → 0 + (418 - v2.toInt) * 2 < (n : Int) → tt (gJArrays_fill_AII_Gr8 n 0 v1 v2 v3 o0) (QJArrays_fill_AII_Gr8 yv1 yo0))
set_option maxHeartbeats 4000000 in
set_option maxRecDepth 100000 in
theorem tJArrays_fill_AII_Gr8_5 {yv1 : Int32} {yo0 : cf_O} {n : Nat} (H : HJArrays_fill_AII_Gr8 yv1 yo0 n) (v1 : Int32) (v2 : Int32) (v3 : Int32) (o0 : cf_O) (k_o0 : okO I_Gr o0) (r_o0 : Fr (fr_M [] [8] []) yo0 o0) (i_v1 : (0 : Int) ≤ v1.toInt ∧ v1.toInt ≤ 0) (i_v2 : (0 : Int) ≤ v2.toInt ∧ v2.toInt ≤ 418) (i_v3 : (418 : Int) ≤ v3.toInt ∧ v3.toInt ≤ 418) (f_o0_2 : (0 : Int) ≤ (o0.1 2).toInt ∧ (o0.1 2).toInt ≤ 0) (f_o0_3 : (0 : Int) ≤ (o0.1 3).toInt ∧ (o0.1 3).toInt ≤ 0) (x_0 : Fc v2.toInt (o0.2.1 8)) (hm : 0 + (418 - v2.toInt) * 2 ≤ (n : Int)) : tt (fJArrays_fill_AII_Gr8_5 (gJArrays_fill_AII_Gr8 n) v1 v2 v3 o0) (QJArrays_fill_AII_Gr8 yv1 yo0) := by
  unfold fJArrays_fill_AII_Gr8_5
  refine tt_if (fun c1 => ?_) (fun c1 => ?_)
  · have wc1 : v3.toInt ≤ v2.toInt := c_le c1
    have i2 : (418 : Int) ≤ v2.toInt ∧ v2.toInt ≤ 418 := nr_ler c1 i_v3 i_v2 (by decide) (by decide)
    have p3 : Fc 418 (o0.2.1 8) := by exact Fc_e x_0 (by omega)
    exact tt_some ⟨k_o0, r_o0, p3, trivial⟩
  · have wc1 : v2.toInt < v3.toInt := c_nle c1
    have i4 : (0 : Int) ≤ v2.toInt ∧ v2.toInt ≤ 417 := nr_nlel c1 i_v2 i_v3 (by decide) (by decide)
    refine tt_n (ix_ok i4 (by decide) (by decide)) ?_
    refine tt_ko ?_
    have k5 := ok_xp (k := 8) (i := v2.toNatClampNeg) (v := v1) k_o0 (iv_w (a := 0) (b := 208) (by decide) (by decide) i_v1)
    have r6 := fr_xp (k := 8) (i := v2.toNatClampNeg) (v := v1) r_o0 rfl
    refine tt_kv (P := fun z => ((1 : Int) ≤ z.toInt ∧ z.toInt ≤ 418) ∧ z.toInt = v2.toInt + 1) ⟨iv_add i4 (show (1 : Int) ≤ (1 : Int32).toInt ∧ (1 : Int32).toInt ≤ 1 by decide) (by decide) (by decide) (by decide) (by decide), iq_add i4 (show (1 : Int) ≤ (1 : Int32).toInt ∧ (1 : Int32).toInt ≤ 1 by decide) (by decide) (by decide)⟩ (fun x7 qi8 => ?_)
    obtain ⟨i8, ei8⟩ := qi8
    have p9 : Fc x7.toInt (upd (o0.2.1 8) (v2.toNatClampNeg) v1) := by exact Fc_s x_0 (by omega) (by rw [tn_n]; omega) (by omega)
    exact H _ _ _ _ k5 r6 i_v1 (iv_w (a := 0) (b := 418) (by decide) (by decide) i8) i_v3 f_o0_2 f_o0_3 p9 (show 0 + (418 - x7.toInt) * 2 < (n : Int) by omega)
set_option maxHeartbeats 4000000 in
set_option maxRecDepth 100000 in
theorem hJArrays_fill_AII_Gr8 (yv1 : Int32) (yo0 : cf_O) : ∀ n, HJArrays_fill_AII_Gr8 yv1 yo0 n := by
  intro n
  induction n with
  | zero => exact (fun v1 v2 v3 o0 k_o0 r_o0 i_v1 i_v2 i_v3 f_o0_2 f_o0_3 x_0 hm => by exact absurd (show 0 + (418 - v2.toInt) * 2 < (0 : Int) from hm) (by omega))
  | succ n ih => exact (fun v1 v2 v3 o0 k_o0 r_o0 i_v1 i_v2 i_v3 f_o0_2 f_o0_3 x_0 hm => tJArrays_fill_AII_Gr8_5 ih v1 v2 v3 o0 k_o0 r_o0 i_v1 i_v2 i_v3 f_o0_2 f_o0_3 x_0 (by omega))
set_option maxHeartbeats 4000000 in
set_option maxRecDepth 100000 in
theorem sJArrays_fill_AII_Gr8 (v1 : Int32) (o0 : cf_O) (k_o0 : okO I_Gr o0) (i_v1 : (0 : Int) ≤ v1.toInt ∧ v1.toInt ≤ 0) (f_o0_0 : (0 : Int) ≤ (o0.1 0).toInt ∧ (o0.1 0).toInt ≤ 8) (f_o0_1 : (0 : Int) ≤ (o0.1 1).toInt ∧ (o0.1 1).toInt ≤ 6) (f_o0_2 : (0 : Int) ≤ (o0.1 2).toInt ∧ (o0.1 2).toInt ≤ 0) (f_o0_3 : (0 : Int) ≤ (o0.1 3).toInt ∧ (o0.1 3).toInt ≤ 0) : tt (fJArrays_fill_AII_Gr8 v1 o0) (QJArrays_fill_AII_Gr8 v1 o0) := by
  have H := hJArrays_fill_AII_Gr8 v1 o0 cfFU
  have hm : (839 : Int) ≤ (cfFU : Nat) := by decide
  have r_o0 : Fr (fr_M [] [8] []) o0 o0 := fr_rfl
  unfold fJArrays_fill_AII_Gr8 fJArrays_fill_AII_Gr8_0
  have p1 : Fc 0 (o0.2.1 8) := by exact Fc_0 _
  exact H _ _ _ _ k_o0 r_o0 i_v1 (iv_w (a := 0) (b := 418) (by decide) (by decide) (show (0 : Int) ≤ (0 : Int32).toInt ∧ (0 : Int32).toInt ≤ 0 by decide)) (show (418 : Int) ≤ (418 : Int32).toInt ∧ (418 : Int32).toInt ≤ 418 by decide) f_o0_2 f_o0_3 p1 (show 0 + (418 - 0) * 2 < ((cfFU : Nat) : Int) by omega)
def QJArrays_fill_AII_Gr6 (v1 : Int32) (o0 : cf_O) (r : (cf_O)) : Prop := (okO I_Gr r) ∧ (Fr (fr_M [] [6] []) o0 r) ∧ True
def HJArrays_fill_AII_Gr6 (yv1 : Int32) (yo0 : cf_O) (n : Nat) : Prop := (∀ (v1 : Int32) (v2 : Int32) (v3 : Int32) (o0 : cf_O), (okO I_Gr o0) → (Fr (fr_M [] [6] []) yo0 o0) → ((0 : Int) ≤ v1.toInt ∧ v1.toInt ≤ 0) → ((0 : Int) ≤ v2.toInt ∧ v2.toInt ≤ 209) → ((209 : Int) ≤ v3.toInt ∧ v3.toInt ≤ 209) → ((0 : Int) ≤ (o0.1 2).toInt ∧ (o0.1 2).toInt ≤ 0) → ((0 : Int) ≤ (o0.1 3).toInt ∧ (o0.1 3).toInt ≤ 0) → 0 + (209 - v2.toInt) * 2 < (n : Int) → tt (gJArrays_fill_AII_Gr6 n 0 v1 v2 v3 o0) (QJArrays_fill_AII_Gr6 yv1 yo0))
set_option maxHeartbeats 4000000 in
set_option maxRecDepth 100000 in
theorem tJArrays_fill_AII_Gr6_5 {yv1 : Int32} {yo0 : cf_O} {n : Nat} (H : HJArrays_fill_AII_Gr6 yv1 yo0 n) (v1 : Int32) (v2 : Int32) (v3 : Int32) (o0 : cf_O) (k_o0 : okO I_Gr o0) (r_o0 : Fr (fr_M [] [6] []) yo0 o0) (i_v1 : (0 : Int) ≤ v1.toInt ∧ v1.toInt ≤ 0) (i_v2 : (0 : Int) ≤ v2.toInt ∧ v2.toInt ≤ 209) (i_v3 : (209 : Int) ≤ v3.toInt ∧ v3.toInt ≤ 209) (f_o0_2 : (0 : Int) ≤ (o0.1 2).toInt ∧ (o0.1 2).toInt ≤ 0) (f_o0_3 : (0 : Int) ≤ (o0.1 3).toInt ∧ (o0.1 3).toInt ≤ 0) (hm : 0 + (209 - v2.toInt) * 2 ≤ (n : Int)) : tt (fJArrays_fill_AII_Gr6_5 (gJArrays_fill_AII_Gr6 n) v1 v2 v3 o0) (QJArrays_fill_AII_Gr6 yv1 yo0) := by
  unfold fJArrays_fill_AII_Gr6_5
  refine tt_if (fun c1 => ?_) (fun c1 => ?_)
  · have i2 : (209 : Int) ≤ v2.toInt ∧ v2.toInt ≤ 209 := nr_ler c1 i_v3 i_v2 (by decide) (by decide)
    exact tt_some ⟨k_o0, r_o0, trivial⟩
  · have i3 : (0 : Int) ≤ v2.toInt ∧ v2.toInt ≤ 208 := nr_nlel c1 i_v2 i_v3 (by decide) (by decide)
    refine tt_n (ix_ok i3 (by decide) (by decide)) ?_
    refine tt_ko ?_
    have k4 := ok_xp (k := 6) (i := v2.toNatClampNeg) (v := v1) k_o0 (iv_w (a := (-2147483648)) (b := 2147483647) (by decide) (by decide) i_v1)
    have r5 := fr_xp (k := 6) (i := v2.toNatClampNeg) (v := v1) r_o0 rfl
    refine tt_kv (P := fun z => ((1 : Int) ≤ z.toInt ∧ z.toInt ≤ 209) ∧ z.toInt = v2.toInt + 1) ⟨iv_add i3 (show (1 : Int) ≤ (1 : Int32).toInt ∧ (1 : Int32).toInt ≤ 1 by decide) (by decide) (by decide) (by decide) (by decide), iq_add i3 (show (1 : Int) ≤ (1 : Int32).toInt ∧ (1 : Int32).toInt ≤ 1 by decide) (by decide) (by decide)⟩ (fun x6 qi7 => ?_)
    obtain ⟨i7, ei7⟩ := qi7
    exact H _ _ _ _ k4 r5 i_v1 (iv_w (a := 0) (b := 209) (by decide) (by decide) i7) i_v3 f_o0_2 f_o0_3 (show 0 + (209 - x6.toInt) * 2 < (n : Int) by omega)
set_option maxHeartbeats 4000000 in
set_option maxRecDepth 100000 in
theorem hJArrays_fill_AII_Gr6 (yv1 : Int32) (yo0 : cf_O) : ∀ n, HJArrays_fill_AII_Gr6 yv1 yo0 n := by
  intro n
  induction n with
  | zero => exact (fun v1 v2 v3 o0 k_o0 r_o0 i_v1 i_v2 i_v3 f_o0_2 f_o0_3 hm => by exact absurd (show 0 + (209 - v2.toInt) * 2 < (0 : Int) from hm) (by omega))
  | succ n ih => exact (fun v1 v2 v3 o0 k_o0 r_o0 i_v1 i_v2 i_v3 f_o0_2 f_o0_3 hm => tJArrays_fill_AII_Gr6_5 ih v1 v2 v3 o0 k_o0 r_o0 i_v1 i_v2 i_v3 f_o0_2 f_o0_3 (by omega))
set_option maxHeartbeats 4000000 in
set_option maxRecDepth 100000 in
theorem sJArrays_fill_AII_Gr6 (v1 : Int32) (o0 : cf_O) (k_o0 : okO I_Gr o0) (i_v1 : (0 : Int) ≤ v1.toInt ∧ v1.toInt ≤ 0) (f_o0_0 : (0 : Int) ≤ (o0.1 0).toInt ∧ (o0.1 0).toInt ≤ 8) (f_o0_1 : (0 : Int) ≤ (o0.1 1).toInt ∧ (o0.1 1).toInt ≤ 6) (f_o0_2 : (0 : Int) ≤ (o0.1 2).toInt ∧ (o0.1 2).toInt ≤ 0) (f_o0_3 : (0 : Int) ≤ (o0.1 3).toInt ∧ (o0.1 3).toInt ≤ 0) : tt (fJArrays_fill_AII_Gr6 v1 o0) (QJArrays_fill_AII_Gr6 v1 o0) := by
  have H := hJArrays_fill_AII_Gr6 v1 o0 cfFU
  have hm : (421 : Int) ≤ (cfFU : Nat) := by decide
  have r_o0 : Fr (fr_M [] [6] []) o0 o0 := fr_rfl
  unfold fJArrays_fill_AII_Gr6 fJArrays_fill_AII_Gr6_0
  exact H _ _ _ _ k_o0 r_o0 i_v1 (iv_w (a := 0) (b := 209) (by decide) (by decide) (show (0 : Int) ≤ (0 : Int32).toInt ∧ (0 : Int32).toInt ≤ 0 by decide)) (show (209 : Int) ≤ (209 : Int32).toInt ∧ (209 : Int32).toInt ≤ 209 by decide) f_o0_2 f_o0_3 (show 0 + (209 - 0) * 2 < ((cfFU : Nat) : Int) by omega)
def QGr_restart (v1 : Int32) (v2 : Int32) (o0 : cf_O) (r : (cf_O)) : Prop := (okO I_Gr r) ∧ (Fr (fr_M [0, 1, 2, 3] [6, 8] []) o0 r) ∧ ((0 : Int) ≤ (r.1 2).toInt ∧ (r.1 2).toInt ≤ 0) ∧ ((0 : Int) ≤ (r.1 3).toInt ∧ (r.1 3).toInt ≤ 0) ∧ (GI (v1.toInt + 1) 0 (r.2.1 4) (r.2.1 5) (r.2.1 8) (r.2.1 9)) ∧ ((r.1 0).toInt = v1.toInt) ∧ ((r.1 1).toInt = v2.toInt) ∧ ((r.1 2).toInt = 0) ∧ True
set_option maxHeartbeats 4000000 in
set_option maxRecDepth 100000 in
theorem sGr_restart (v1 : Int32) (v2 : Int32) (o0 : cf_O) (k_o0 : okO I_Gr o0) (i_v1 : (0 : Int) ≤ v1.toInt ∧ v1.toInt ≤ 8) (i_v2 : (0 : Int) ≤ v2.toInt ∧ v2.toInt ≤ 6) : tt (fGr_restart v1 v2 o0) (QGr_restart v1 v2 o0) := by
  have r_o0 : Fr (fr_M [0, 1, 2, 3] [6, 8] []) o0 o0 := fr_rfl
  unfold fGr_restart fGr_restart_0
  have g_o0_0 : (0 : Int) ≤ (o0.1 0).toInt ∧ (o0.1 0).toInt ≤ 8 := k_o0.1 0
  have g_o0_1 : (0 : Int) ≤ (o0.1 1).toInt ∧ (o0.1 1).toInt ≤ 6 := k_o0.1 1
  have g_o0_2 : (0 : Int) ≤ (o0.1 2).toInt ∧ (o0.1 2).toInt ≤ 200 := k_o0.1 2
  refine tt_ko ?_
  have k1 := ok_fp (k := 0) (v := v1) k_o0 i_v1
  have r2 := fr_fp (k := 0) (v := v1) r_o0 rfl
  refine tt_ko ?_
  have k3 := ok_fp (k := 1) (v := v2) k1 i_v2
  have r4 := fr_fp (k := 1) (v := v2) r2 rfl
  refine tt_ko ?_
  have k5 := ok_fp (k := 2) (v := 0) k3 (iv_w (a := 0) (b := 200) (by decide) (by decide) (show (0 : Int) ≤ (0 : Int32).toInt ∧ (0 : Int32).toInt ≤ 0 by decide))
  have r6 := fr_fp (k := 2) (v := 0) r4 rfl
  refine tt_ko ?_
  have k7 := ok_fp (k := 3) (v := 0) k5 (iv_w (a := 0) (b := 1) (by decide) (by decide) (show (0 : Int) ≤ (0 : Int32).toInt ∧ (0 : Int32).toInt ≤ 0 by decide))
  have r8 := fr_fp (k := 3) (v := 0) r6 rfl
  refine tt_b (sJArrays_fill_AII_Gr8 _ _ k7 (show (0 : Int) ≤ (0 : Int32).toInt ∧ (0 : Int32).toInt ≤ 0 by decide) i_v1 i_v2 (show (0 : Int) ≤ (0 : Int32).toInt ∧ (0 : Int32).toInt ≤ 0 by decide) (show (0 : Int) ≤ (0 : Int32).toInt ∧ (0 : Int32).toInt ≤ 0 by decide)) (fun q9 hq9 => ?_)
  obtain ⟨k_q9, n_q9, zq9_0, -⟩ := hq9
  have r_q9 := fr_tr r8 n_q9 rfl rfl rfl
  have f_q9_0 : (0 : Int) ≤ (q9.1 0).toInt ∧ (q9.1 0).toInt ≤ 8 := by rw [n_q9.1 0 rfl]; exact i_v1
  have f_q9_1 : (0 : Int) ≤ (q9.1 1).toInt ∧ (q9.1 1).toInt ≤ 6 := by rw [n_q9.1 1 rfl]; exact i_v2
  have f_q9_2 : (0 : Int) ≤ (q9.1 2).toInt ∧ (q9.1 2).toInt ≤ 0 := by rw [n_q9.1 2 rfl]; exact (show (0 : Int) ≤ (0 : Int32).toInt ∧ (0 : Int32).toInt ≤ 0 by decide)
  have f_q9_3 : (0 : Int) ≤ (q9.1 3).toInt ∧ (q9.1 3).toInt ≤ 0 := by rw [n_q9.1 3 rfl]; exact (show (0 : Int) ≤ (0 : Int32).toInt ∧ (0 : Int32).toInt ≤ 0 by decide)
  have e_q9_0 : (q9.1 0).toInt = v1.toInt := congrArg Int32.toInt (n_q9.1 0 rfl)
  have e_q9_1 : (q9.1 1).toInt = v2.toInt := congrArg Int32.toInt (n_q9.1 1 rfl)
  have e_q9_2 : (q9.1 2).toInt = (0 : Int32).toInt := congrArg Int32.toInt (n_q9.1 2 rfl)
  have zq9_0 : Fc 418 (q9.2.1 8) := zq9_0
  refine tt_b (sJArrays_fill_AII_Gr6 _ _ k_q9 (show (0 : Int) ≤ (0 : Int32).toInt ∧ (0 : Int32).toInt ≤ 0 by decide) f_q9_0 f_q9_1 f_q9_2 f_q9_3) (fun q10 hq10 => ?_)
  obtain ⟨k_q10, n_q10, -⟩ := hq10
  have r_q10 := fr_tr r_q9 n_q10 rfl rfl rfl
  have f_q10_0 : (0 : Int) ≤ (q10.1 0).toInt ∧ (q10.1 0).toInt ≤ 8 := by rw [n_q10.1 0 rfl]; exact f_q9_0
  have f_q10_1 : (0 : Int) ≤ (q10.1 1).toInt ∧ (q10.1 1).toInt ≤ 6 := by rw [n_q10.1 1 rfl]; exact f_q9_1
  have f_q10_2 : (0 : Int) ≤ (q10.1 2).toInt ∧ (q10.1 2).toInt ≤ 0 := by rw [n_q10.1 2 rfl]; exact f_q9_2
  have f_q10_3 : (0 : Int) ≤ (q10.1 3).toInt ∧ (q10.1 3).toInt ≤ 0 := by rw [n_q10.1 3 rfl]; exact f_q9_3
  have e_q10_0 : (q10.1 0).toInt = (q9.1 0).toInt := congrArg Int32.toInt (n_q10.1 0 rfl)
  have e_q10_1 : (q10.1 1).toInt = (q9.1 1).toInt := congrArg Int32.toInt (n_q10.1 1 rfl)
  have e_q10_2 : (q10.1 2).toInt = (q9.1 2).toInt := congrArg Int32.toInt (n_q10.1 2 rfl)
  have u11 : Fc 418 (q10.2.1 8) := by rw [n_q10.2.1 8 rfl]; exact zq9_0
  have p12 : GI (v1.toInt + 1) 0 (q10.2.1 4) (q10.2.1 5) (q10.2.1 8) (q10.2.1 9) := by exact GI_0 (by assumption)
  exact tt_some ⟨k_q10, r_q10, f_q10_2, f_q10_3, p12, (show (q10.1 0).toInt = v1.toInt by omega), (show (q10.1 1).toInt = v2.toInt by omega), (show (q10.1 2).toInt = 0 by omega), trivial⟩
def QGr_greatestLevel (o0 : cf_O) (r : (Int32)) : Prop := ((0 : Int) ≤ r.toInt ∧ r.toInt ≤ 2147483647) ∧ True
def HGr_greatestLevel (yo0 : cf_O) (n : Nat) : Prop := (∀ (v1 : Int32) (v2 : Int32) (o0 : cf_O), (okO I_Gr o0) → (Fr (fr_M [] [] []) yo0 o0) → ((0 : Int) ≤ v1.toInt ∧ v1.toInt ≤ 2147483647) → ((0 : Int) ≤ v2.toInt ∧ v2.toInt ≤ 6) → 0 + (6 - v2.toInt) * 2 < (n : Int) → tt (gGr_greatestLevel n 0 v1 v2 o0) (QGr_greatestLevel yo0))
set_option maxHeartbeats 4000000 in
set_option maxRecDepth 100000 in
theorem tGr_greatestLevel_4 {yo0 : cf_O} {n : Nat} (H : HGr_greatestLevel yo0 n) (v1 : Int32) (v2 : Int32) (o0 : cf_O) (k_o0 : okO I_Gr o0) (r_o0 : Fr (fr_M [] [] []) yo0 o0) (i_v1 : (0 : Int) ≤ v1.toInt ∧ v1.toInt ≤ 2147483647) (i_v2 : (0 : Int) ≤ v2.toInt ∧ v2.toInt ≤ 6) (hm : 0 + (6 - v2.toInt) * 2 ≤ (n : Int)) : tt (fGr_greatestLevel_4 (gGr_greatestLevel n) v1 v2 o0) (QGr_greatestLevel yo0) := by
  unfold fGr_greatestLevel_4
  refine tt_if (fun c1 => ?_) (fun c1 => ?_)
  · exact tt_some ⟨i_v1, trivial⟩
  · have i2 : (0 : Int) ≤ v2.toInt ∧ v2.toInt ≤ 5 := nr_nlel c1 i_v2 (k_o0.1 1) (by decide) (by decide)
    have i3 : (1 : Int) ≤ (o0.1 1).toInt ∧ (o0.1 1).toInt ≤ 6 := nr_nler c1 i_v2 (k_o0.1 1) (by decide) (by decide)
    refine tt_n (ix_ok i2 (by decide) (by decide)) ?_
    refine tt_kv (P := fun z => (0 : Int) ≤ z.toInt ∧ z.toInt ≤ 417) (k_o0.2 7 _) (fun x4 i5 => ?_)
    refine tt_kv (P := fun z => (0 : Int) ≤ z.toInt ∧ z.toInt ≤ 208) (iv_shr (p := 1) (q := 1) i5 (show (1 : Int) ≤ (1 : Int32).toInt ∧ (1 : Int32).toInt ≤ 1 by decide) (by decide) (by decide) (by decide) (by decide)) (fun x6 i7 => ?_)
    refine tt_n (ix_ok i7 (by decide) (by decide)) ?_
    refine tt_kv (P := fun z => ((-2147483648) : Int) ≤ z.toInt ∧ z.toInt ≤ 2147483647) (k_o0.2 6 _) (fun x8 i9 => ?_)
    refine tt_kv (P := fun z => (0 : Int) ≤ z.toInt ∧ z.toInt ≤ 2147483647) (iv_mx i_v1 i9 (by decide) (by decide) (by decide) (by decide)) (fun x10 i11 => ?_)
    refine tt_kv (P := fun z => ((1 : Int) ≤ z.toInt ∧ z.toInt ≤ 6) ∧ z.toInt = v2.toInt + 1) ⟨iv_add i2 (show (1 : Int) ≤ (1 : Int32).toInt ∧ (1 : Int32).toInt ≤ 1 by decide) (by decide) (by decide) (by decide) (by decide), iq_add i2 (show (1 : Int) ≤ (1 : Int32).toInt ∧ (1 : Int32).toInt ≤ 1 by decide) (by decide) (by decide)⟩ (fun x12 qi13 => ?_)
    obtain ⟨i13, ei13⟩ := qi13
    exact H _ _ _ k_o0 r_o0 i11 (iv_w (a := 0) (b := 6) (by decide) (by decide) i13) (show 0 + (6 - x12.toInt) * 2 < (n : Int) by omega)
set_option maxHeartbeats 4000000 in
set_option maxRecDepth 100000 in
theorem hGr_greatestLevel (yo0 : cf_O) : ∀ n, HGr_greatestLevel yo0 n := by
  intro n
  induction n with
  | zero => exact (fun v1 v2 o0 k_o0 r_o0 i_v1 i_v2 hm => by exact absurd (show 0 + (6 - v2.toInt) * 2 < (0 : Int) from hm) (by omega))
  | succ n ih => exact (fun v1 v2 o0 k_o0 r_o0 i_v1 i_v2 hm => tGr_greatestLevel_4 ih v1 v2 o0 k_o0 r_o0 i_v1 i_v2 (by omega))
set_option maxHeartbeats 4000000 in
set_option maxRecDepth 100000 in
theorem sGr_greatestLevel (o0 : cf_O) (k_o0 : okO I_Gr o0) : tt (fGr_greatestLevel o0) (QGr_greatestLevel o0) := by
  have H := hGr_greatestLevel o0 cfFU
  have hm : (15 : Int) ≤ (cfFU : Nat) := by decide
  have r_o0 : Fr (fr_M [] [] []) o0 o0 := fr_rfl
  unfold fGr_greatestLevel fGr_greatestLevel_0
  exact H _ _ _ k_o0 r_o0 (iv_w (a := 0) (b := 2147483647) (by decide) (by decide) (show (0 : Int) ≤ (0 : Int32).toInt ∧ (0 : Int32).toInt ≤ 0 by decide)) (iv_w (a := 0) (b := 6) (by decide) (by decide) (show (0 : Int) ≤ (0 : Int32).toInt ∧ (0 : Int32).toInt ≤ 0 by decide)) (show 0 + (6 - 0) * 2 < ((cfFU : Nat) : Int) by omega)
def QGr_gateThere (v1 : Int32) (v2 : Int32) (o0 : cf_O) (r : (Int32)) : Prop := ((0 : Int) ≤ r.toInt ∧ r.toInt ≤ 208) ∧ (Gt r.toInt ((o0.1 0).toInt + 1) (((o0.1 0).toInt + 1) + (o0.1 2).toInt) (o0.2.1 8) (o0.2.1 9)) ∧ True
def HGr_gateThere (yv1 : Int32) (yv2 : Int32) (yo0 : cf_O) (n : Nat) : Prop := (∀ (v2 : Int32) (v3 : Int32) (v4 : Int32) (o0 : cf_O), (okO I_Gr o0) → (Fr (fr_M [] [] []) yo0 o0) → ((0 : Int) ≤ v2.toInt ∧ v2.toInt ≤ 417) → ((0 : Int) ≤ v3.toInt ∧ v3.toInt ≤ 208) → ((0 : Int) ≤ v4.toInt ∧ v4.toInt ≤ 200) → (Gt v3.toInt ((o0.1 0).toInt + 1) (((o0.1 0).toInt + 1) + (o0.1 2).toInt) (o0.2.1 8) (o0.2.1 9)) → 0 + (200 - v4.toInt) * 2 < (n : Int) → tt (gGr_gateThere n 0 v2 v3 v4 o0) (QGr_gateThere yv1 yv2 yo0))
set_option maxHeartbeats 4000000 in
set_option maxRecDepth 100000 in
theorem tGr_gateThere_10 {yv1 : Int32} {yv2 : Int32} {yo0 : cf_O} {n : Nat} (H : HGr_gateThere yv1 yv2 yo0 n) (v2 : Int32) (v3 : Int32) (v4 : Int32) (o0 : cf_O) (k_o0 : okO I_Gr o0) (r_o0 : Fr (fr_M [] [] []) yo0 o0) (i_v2 : (0 : Int) ≤ v2.toInt ∧ v2.toInt ≤ 417) (i_v3 : (0 : Int) ≤ v3.toInt ∧ v3.toInt ≤ 208) (i_v4 : (0 : Int) ≤ v4.toInt ∧ v4.toInt ≤ 200) (x_0 : Gt v3.toInt ((o0.1 0).toInt + 1) (((o0.1 0).toInt + 1) + (o0.1 2).toInt) (o0.2.1 8) (o0.2.1 9)) (hm : 0 + (200 - v4.toInt) * 2 ≤ (n : Int)) : tt (fGr_gateThere_10 (gGr_gateThere n) v2 v3 v4 o0) (QGr_gateThere yv1 yv2 yo0) := by
  unfold fGr_gateThere_10
  have g_o0_0 : (0 : Int) ≤ (o0.1 0).toInt ∧ (o0.1 0).toInt ≤ 8 := k_o0.1 0
  have ey_o0_0 : (o0.1 0).toInt = (yo0.1 0).toInt := congrArg Int32.toInt (r_o0.1 0 rfl)
  have g_o0_2 : (0 : Int) ≤ (o0.1 2).toInt ∧ (o0.1 2).toInt ≤ 200 := k_o0.1 2
  have ey_o0_2 : (o0.1 2).toInt = (yo0.1 2).toInt := congrArg Int32.toInt (r_o0.1 2 rfl)
  refine tt_if (fun c1 => ?_) (fun c1 => ?_)
  · have wc1 : (200 : Int) ≤ v4.toInt := c_le c1
    have i2 : (200 : Int) ≤ v4.toInt ∧ v4.toInt ≤ 200 := nr_ler c1 (show (200 : Int) ≤ (200 : Int32).toInt ∧ (200 : Int32).toInt ≤ 200 by decide) i_v4 (by decide) (by decide)
    try unfold fGr_gateThere_45
    have p3 : Gt v3.toInt ((yo0.1 0).toInt + 1) (((yo0.1 0).toInt + 1) + (yo0.1 2).toInt) (yo0.2.1 8) (yo0.2.1 9) := by rw [← r_o0.1 0 rfl, ← r_o0.1 2 rfl, ← r_o0.2.1 8 rfl, ← r_o0.2.1 9 rfl]; exact x_0
    exact tt_some ⟨i_v3, p3, trivial⟩
  · have wc1 : v4.toInt < (200 : Int) := c_nle c1
    have i4 : (0 : Int) ≤ v4.toInt ∧ v4.toInt ≤ 199 := nr_nlel c1 i_v4 (show (200 : Int) ≤ (200 : Int32).toInt ∧ (200 : Int32).toInt ≤ 200 by decide) (by decide) (by decide)
    refine tt_if (fun c5 => ?_) (fun c5 => ?_)
    · have wc5 : v3.toInt = (0 : Int) := c_eq c5
      have i6 : (0 : Int) ≤ v3.toInt ∧ v3.toInt ≤ 0 := nr_eql c5 i_v3 (show (0 : Int) ≤ (0 : Int32).toInt ∧ (0 : Int32).toInt ≤ 0 by decide) (by decide) (by decide)
      try unfold fGr_gateThere_45
      have p7 : Gt v3.toInt ((yo0.1 0).toInt + 1) (((yo0.1 0).toInt + 1) + (yo0.1 2).toInt) (yo0.2.1 8) (yo0.2.1 9) := by rw [← r_o0.1 0 rfl, ← r_o0.1 2 rfl, ← r_o0.2.1 8 rfl, ← r_o0.2.1 9 rfl]; exact x_0
      exact tt_some ⟨(iv_w (a := 0) (b := 208) (by decide) (by decide) i6), p7, trivial⟩
    · have wc5 : ¬ v3.toInt = (0 : Int) := c_ne c5
      have i8 : (1 : Int) ≤ v3.toInt ∧ v3.toInt ≤ 208 := nr_nela c5 i_v3 (show (0 : Int) ≤ (0 : Int32).toInt ∧ (0 : Int32).toInt ≤ 0 by decide) (by decide) (by decide)
      refine tt_n (ix_ok i8 (by decide) (by decide)) ?_
      refine tt_kv (P := fun z => ((0 : Int) ≤ z.toInt ∧ z.toInt ≤ 417) ∧ z.toInt = (o0.2.1 5 v3.toNatClampNeg).toInt) ⟨(k_o0.2 5 _), rfl⟩ (fun x9 qi10 => ?_)
      obtain ⟨i10, ei10⟩ := qi10
      refine tt_if (fun c11 => ?_) (fun c11 => ?_)
      · have wc11 : x9.toInt = v2.toInt := c_eq c11
        try unfold fGr_gateThere_45
        have p12 : Gt v3.toInt ((yo0.1 0).toInt + 1) (((yo0.1 0).toInt + 1) + (yo0.1 2).toInt) (yo0.2.1 8) (yo0.2.1 9) := by rw [← r_o0.1 0 rfl, ← r_o0.1 2 rfl, ← r_o0.2.1 8 rfl, ← r_o0.2.1 9 rfl]; exact x_0
        exact tt_some ⟨(iv_w (a := 0) (b := 208) (by decide) (by decide) i8), p12, trivial⟩
      · have wc11 : ¬ x9.toInt = v2.toInt := c_ne c11
        refine tt_n (ix_ok i8 (by decide) (by decide)) ?_
        refine tt_kv (P := fun z => ((0 : Int) ≤ z.toInt ∧ z.toInt ≤ 208) ∧ z.toInt = (o0.2.1 9 v3.toNatClampNeg).toInt) ⟨(k_o0.2 9 _), rfl⟩ (fun x13 qi14 => ?_)
        obtain ⟨i14, ei14⟩ := qi14
        refine tt_kv (P := fun z => ((1 : Int) ≤ z.toInt ∧ z.toInt ≤ 200) ∧ z.toInt = v4.toInt + 1) ⟨iv_add i4 (show (1 : Int) ≤ (1 : Int32).toInt ∧ (1 : Int32).toInt ≤ 1 by decide) (by decide) (by decide) (by decide) (by decide), iq_add i4 (show (1 : Int) ≤ (1 : Int32).toInt ∧ (1 : Int32).toInt ≤ 1 by decide) (by decide) (by decide)⟩ (fun x15 qi16 => ?_)
        obtain ⟨i16, ei16⟩ := qi16
        have p17 : Gt x13.toInt ((o0.1 0).toInt + 1) (((o0.1 0).toInt + 1) + (o0.1 2).toInt) (o0.2.1 8) (o0.2.1 9) := by exact Gt_s x_0 (by omega) (by assumption) (by rw [tn_n]; omega)
        exact H _ _ _ _ k_o0 r_o0 i_v2 i14 (iv_w (a := 0) (b := 200) (by decide) (by decide) i16) p17 (show 0 + (200 - x15.toInt) * 2 < (n : Int) by omega)
set_option maxHeartbeats 4000000 in
set_option maxRecDepth 100000 in
theorem hGr_gateThere (yv1 : Int32) (yv2 : Int32) (yo0 : cf_O) : ∀ n, HGr_gateThere yv1 yv2 yo0 n := by
  intro n
  induction n with
  | zero => exact (fun v2 v3 v4 o0 k_o0 r_o0 i_v2 i_v3 i_v4 x_0 hm => by exact absurd (show 0 + (200 - v4.toInt) * 2 < (0 : Int) from hm) (by omega))
  | succ n ih => exact (fun v2 v3 v4 o0 k_o0 r_o0 i_v2 i_v3 i_v4 x_0 hm => tGr_gateThere_10 ih v2 v3 v4 o0 k_o0 r_o0 i_v2 i_v3 i_v4 x_0 (by omega))
set_option maxHeartbeats 4000000 in
set_option maxRecDepth 100000 in
theorem sGr_gateThere (v1 : Int32) (v2 : Int32) (o0 : cf_O) (k_o0 : okO I_Gr o0) (i_v1 : (0 : Int) ≤ v1.toInt ∧ v1.toInt ≤ 417) (i_v2 : (0 : Int) ≤ v2.toInt ∧ v2.toInt ≤ 417) : tt (fGr_gateThere v1 v2 o0) (QGr_gateThere v1 v2 o0) := by
  have H := hGr_gateThere v1 v2 o0 cfFU
  have hm : (403 : Int) ≤ (cfFU : Nat) := by decide
  have r_o0 : Fr (fr_M [] [] []) o0 o0 := fr_rfl
  unfold fGr_gateThere fGr_gateThere_0
  have g_o0_0 : (0 : Int) ≤ (o0.1 0).toInt ∧ (o0.1 0).toInt ≤ 8 := k_o0.1 0
  have g_o0_2 : (0 : Int) ≤ (o0.1 2).toInt ∧ (o0.1 2).toInt ≤ 200 := k_o0.1 2
  refine tt_n (ix_ok i_v1 (by decide) (by decide)) ?_
  refine tt_kv (P := fun z => ((0 : Int) ≤ z.toInt ∧ z.toInt ≤ 208) ∧ z.toInt = (o0.2.1 8 v1.toNatClampNeg).toInt) ⟨(k_o0.2 8 _), rfl⟩ (fun x1 qi2 => ?_)
  obtain ⟨i2, ei2⟩ := qi2
  have p3 : Gt x1.toInt ((o0.1 0).toInt + 1) (((o0.1 0).toInt + 1) + (o0.1 2).toInt) (o0.2.1 8) (o0.2.1 9) := by exact Gt_0 (by assumption) (by rw [tn_n]; omega)
  exact H _ _ _ _ k_o0 r_o0 i_v2 i2 (iv_w (a := 0) (b := 200) (by decide) (by decide) (show (0 : Int) ≤ (0 : Int32).toInt ∧ (0 : Int32).toInt ≤ 0 by decide)) p3 (show 0 + (200 - 0) * 2 < ((cfFU : Nat) : Int) by omega)
def QGr_newGate (v1 : Int32) (v2 : Int32) (o0 : cf_O) (r : (Int32 × cf_O)) : Prop := ((0 : Int) ≤ r.1.toInt ∧ r.1.toInt ≤ 208) ∧ (okO I_Gr r.2) ∧ (Fr (fr_M [2, 3] [4, 5, 6, 8, 9] []) o0 r.2) ∧ ((1 : Int) ≤ (r.2.1 2).toInt ∧ (r.2.1 2).toInt ≤ 200) ∧ (Ng v1.toInt v2.toInt r.1.toInt ((o0.1 0).toInt + 1) (o0.1 2).toInt (r.2.1 2).toInt (o0.2.1 4) (o0.2.1 5) (o0.2.1 8) (o0.2.1 9) (r.2.2.1 4) (r.2.2.1 5) (r.2.2.1 8) (r.2.2.1 9)) ∧ True
set_option maxHeartbeats 4000000 in
set_option maxRecDepth 100000 in
theorem sGr_newGate (v1 : Int32) (v2 : Int32) (o0 : cf_O) (k_o0 : okO I_Gr o0) (i_v1 : (0 : Int) ≤ v1.toInt ∧ v1.toInt ≤ 417) (i_v2 : (0 : Int) ≤ v2.toInt ∧ v2.toInt ≤ 417) : tt (fGr_newGate v1 v2 o0) (QGr_newGate v1 v2 o0) := by
  have r_o0 : Fr (fr_M [2, 3] [4, 5, 6, 8, 9] []) o0 o0 := fr_rfl
  unfold fGr_newGate fGr_newGate_0
  have g_o0_0 : (0 : Int) ≤ (o0.1 0).toInt ∧ (o0.1 0).toInt ≤ 8 := k_o0.1 0
  have g_o0_2 : (0 : Int) ≤ (o0.1 2).toInt ∧ (o0.1 2).toInt ≤ 200 := k_o0.1 2
  refine tt_if (fun c1 => ?_) (fun c1 => ?_)
  · have wc1 : (o0.1 2).toInt = (200 : Int) := c_eq c1
    have i2 : (200 : Int) ≤ (o0.1 2).toInt ∧ (o0.1 2).toInt ≤ 200 := nr_eql c1 (k_o0.1 2) (show (200 : Int) ≤ (200 : Int32).toInt ∧ (200 : Int32).toInt ≤ 200 by decide) (by decide) (by decide)
    refine tt_ko ?_
    have k3 := ok_fp (k := 3) (v := 1) k_o0 (iv_w (a := 0) (b := 1) (by decide) (by decide) (show (1 : Int) ≤ (1 : Int32).toInt ∧ (1 : Int32).toInt ≤ 1 by decide))
    have r4 := fr_fp (k := 3) (v := 1) r_o0 rfl
    have p5 : Ng v1.toInt v2.toInt 0 ((o0.1 0).toInt + 1) (o0.1 2).toInt (o0.1 2).toInt (o0.2.1 4) (o0.2.1 5) (o0.2.1 8) (o0.2.1 9) (o0.2.1 4) (o0.2.1 5) (o0.2.1 8) (o0.2.1 9) := by first | exact Ng_f (by omega) | exact Ng_s (by rw [tn_n]; omega) rfl rfl (by omega) (by omega) (by omega) (by omega) (by omega) (by rw [tn_n]; omega) (by assumption)
    exact tt_some ⟨(iv_w (a := 0) (b := 208) (by decide) (by decide) (show (0 : Int) ≤ (0 : Int32).toInt ∧ (0 : Int32).toInt ≤ 0 by decide)), k3, r4, (iv_w (a := 1) (b := 200) (by decide) (by decide) i2), p5, trivial⟩
  · have wc1 : ¬ (o0.1 2).toInt = (200 : Int) := c_ne c1
    have i6 : (0 : Int) ≤ (o0.1 2).toInt ∧ (o0.1 2).toInt ≤ 199 := nr_nelb c1 (k_o0.1 2) (show (200 : Int) ≤ (200 : Int32).toInt ∧ (200 : Int32).toInt ≤ 200 by decide) (by decide) (by decide)
    try unfold fGr_size
    try unfold fGr_size_0
    refine tt_bkv (P := fun z => ((1 : Int) ≤ z.toInt ∧ z.toInt ≤ 9) ∧ z.toInt = 1 + (o0.1 0).toInt) ⟨iv_add (show (1 : Int) ≤ (1 : Int32).toInt ∧ (1 : Int32).toInt ≤ 1 by decide) (k_o0.1 0) (by decide) (by decide) (by decide) (by decide), iq_add (show (1 : Int) ≤ (1 : Int32).toInt ∧ (1 : Int32).toInt ≤ 1 by decide) (k_o0.1 0) (by decide) (by decide)⟩ (fun x7 qi8 => ?_)
    obtain ⟨i8, ei8⟩ := qi8
    refine tt_bkv (P := fun z => ((1 : Int) ≤ z.toInt ∧ z.toInt ≤ 208) ∧ z.toInt = x7.toInt + (o0.1 2).toInt) ⟨iv_add i8 i6 (by decide) (by decide) (by decide) (by decide), iq_add i8 i6 (by decide) (by decide)⟩ (fun x9 qi10 => ?_)
    obtain ⟨i10, ei10⟩ := qi10
    refine tt_bs ?_
    refine tt_kv (P := fun z => ((1 : Int) ≤ z.toInt ∧ z.toInt ≤ 200) ∧ z.toInt = (o0.1 2).toInt + 1) ⟨iv_add i6 (show (1 : Int) ≤ (1 : Int32).toInt ∧ (1 : Int32).toInt ≤ 1 by decide) (by decide) (by decide) (by decide) (by decide), iq_add i6 (show (1 : Int) ≤ (1 : Int32).toInt ∧ (1 : Int32).toInt ≤ 1 by decide) (by decide) (by decide)⟩ (fun x11 qi12 => ?_)
    obtain ⟨i12, ei12⟩ := qi12
    refine tt_ko ?_
    have k13 := ok_fp (k := 2) (v := x11) k_o0 (iv_w (a := 0) (b := 200) (by decide) (by decide) i12)
    have r14 := fr_fp (k := 2) (v := x11) r_o0 rfl
    refine tt_n (ix_ok i10 (by decide) (by decide)) ?_
    refine tt_ko ?_
    have k15 := ok_xp (k := 4) (i := x9.toNatClampNeg) (v := v1) k13 i_v1
    have r16 := fr_xp (k := 4) (i := x9.toNatClampNeg) (v := v1) r14 rfl
    refine tt_n (ix_ok i10 (by decide) (by decide)) ?_
    refine tt_ko ?_
    have k17 := ok_xp (k := 5) (i := x9.toNatClampNeg) (v := v2) k15 i_v2
    have r18 := fr_xp (k := 5) (i := x9.toNatClampNeg) (v := v2) r16 rfl
    refine tt_kv (P := fun z => ((0 : Int) ≤ z.toInt ∧ z.toInt ≤ 208) ∧ z.toInt = v1.toInt / 2) ⟨iv_shr (p := 1) (q := 1) i_v1 (show (1 : Int) ≤ (1 : Int32).toInt ∧ (1 : Int32).toInt ≤ 1 by decide) (by decide) (by decide) (by decide) (by decide), i_s1 (Int.le_trans (by decide) i_v1.1)⟩ (fun x19 qi20 => ?_)
    obtain ⟨i20, ei20⟩ := qi20
    refine tt_n (ix_ok i20 (by decide) (by decide)) ?_
    refine tt_kv (P := fun z => (((-2147483648) : Int) ≤ z.toInt ∧ z.toInt ≤ 2147483647) ∧ z.toInt = (o0.2.1 6 x19.toNatClampNeg).toInt) ⟨(k17.2 6 _), rfl⟩ (fun x21 qi22 => ?_)
    obtain ⟨i22, ei22⟩ := qi22
    refine tt_kv (P := fun z => ((0 : Int) ≤ z.toInt ∧ z.toInt ≤ 208) ∧ z.toInt = v2.toInt / 2) ⟨iv_shr (p := 1) (q := 1) i_v2 (show (1 : Int) ≤ (1 : Int32).toInt ∧ (1 : Int32).toInt ≤ 1 by decide) (by decide) (by decide) (by decide) (by decide), i_s1 (Int.le_trans (by decide) i_v2.1)⟩ (fun x23 qi24 => ?_)
    obtain ⟨i24, ei24⟩ := qi24
    refine tt_n (ix_ok i24 (by decide) (by decide)) ?_
    refine tt_kv (P := fun z => (((-2147483648) : Int) ≤ z.toInt ∧ z.toInt ≤ 2147483647) ∧ z.toInt = (o0.2.1 6 x23.toNatClampNeg).toInt) ⟨(k17.2 6 _), rfl⟩ (fun x25 qi26 => ?_)
    obtain ⟨i26, ei26⟩ := qi26
    refine tt_kv (P := fun z => ((-2147483648) : Int) ≤ z.toInt ∧ z.toInt ≤ 2147483647) (iv_mx i22 i26 (by decide) (by decide) (by decide) (by decide)) (fun x27 i28 => ?_)
    refine tt_kv (P := fun z => ((-2147483648) : Int) ≤ z.toInt ∧ z.toInt ≤ 2147483647) (iv_top _) (fun x29 i30 => ?_)
    refine tt_n (ix_ok i10 (by decide) (by decide)) ?_
    refine tt_ko ?_
    have k31 := ok_xp (k := 6) (i := x9.toNatClampNeg) (v := x29) k17 i30
    have r32 := fr_xp (k := 6) (i := x9.toNatClampNeg) (v := x29) r18 rfl
    refine tt_n (ix_ok i_v1 (by decide) (by decide)) ?_
    refine tt_kv (P := fun z => ((0 : Int) ≤ z.toInt ∧ z.toInt ≤ 208) ∧ z.toInt = (o0.2.1 8 v1.toNatClampNeg).toInt) ⟨(k31.2 8 _), rfl⟩ (fun x33 qi34 => ?_)
    obtain ⟨i34, ei34⟩ := qi34
    refine tt_n (ix_ok i10 (by decide) (by decide)) ?_
    refine tt_ko ?_
    have k35 := ok_xp (k := 9) (i := x9.toNatClampNeg) (v := x33) k31 i34
    have r36 := fr_xp (k := 9) (i := x9.toNatClampNeg) (v := x33) r32 rfl
    refine tt_n (ix_ok i_v1 (by decide) (by decide)) ?_
    refine tt_ko ?_
    have k37 := ok_xp (k := 8) (i := v1.toNatClampNeg) (v := x9) k35 (iv_w (a := 0) (b := 208) (by decide) (by decide) i10)
    have r38 := fr_xp (k := 8) (i := v1.toNatClampNeg) (v := x9) r36 rfl
    have p39 : Ng v1.toInt v2.toInt x9.toInt ((o0.1 0).toInt + 1) (o0.1 2).toInt x11.toInt (o0.2.1 4) (o0.2.1 5) (o0.2.1 8) (o0.2.1 9) (upd (o0.2.1 4) (x9.toNatClampNeg) v1) (upd (o0.2.1 5) (x9.toNatClampNeg) v2) (upd (o0.2.1 8) (v1.toNatClampNeg) x9) (upd (o0.2.1 9) (x9.toNatClampNeg) x33) := by first | exact Ng_f (by omega) | exact Ng_s (by rw [tn_n]; omega) rfl rfl (by omega) (by omega) (by omega) (by omega) (by omega) (by rw [tn_n]; omega) (by assumption)
    exact tt_some ⟨(iv_w (a := 0) (b := 208) (by decide) (by decide) i10), k37, r38, i12, p39, trivial⟩
def QGr_and (v1 : Int32) (v2 : Int32) (o0 : cf_O) (r : (Int32 × cf_O)) : Prop := ((0 : Int) ≤ r.1.toInt ∧ r.1.toInt ≤ 417) ∧ (okO I_Gr r.2) ∧ (Fr (fr_M [2, 3] [4, 5, 6, 8, 9] []) o0 r.2) ∧ (Anc v1.toInt v2.toInt r.1.toInt ((o0.1 0).toInt + 1) (o0.1 2).toInt (r.2.1 2).toInt (o0.2.1 4) (o0.2.1 5) (o0.2.1 8) (o0.2.1 9) (r.2.2.1 4) (r.2.2.1 5) (r.2.2.1 8) (r.2.2.1 9)) ∧ True
set_option maxHeartbeats 4000000 in
set_option maxRecDepth 100000 in
theorem sGr_and (v1 : Int32) (v2 : Int32) (o0 : cf_O) (k_o0 : okO I_Gr o0) (i_v1 : (0 : Int) ≤ v1.toInt ∧ v1.toInt ≤ 417) (i_v2 : (0 : Int) ≤ v2.toInt ∧ v2.toInt ≤ 417) : tt (fGr_and v1 v2 o0) (QGr_and v1 v2 o0) := by
  have r_o0 : Fr (fr_M [2, 3] [4, 5, 6, 8, 9] []) o0 o0 := fr_rfl
  unfold fGr_and fGr_and_0
  have g_o0_0 : (0 : Int) ≤ (o0.1 0).toInt ∧ (o0.1 0).toInt ≤ 8 := k_o0.1 0
  have g_o0_2 : (0 : Int) ≤ (o0.1 2).toInt ∧ (o0.1 2).toInt ≤ 200 := k_o0.1 2
  refine tt_kv (P := fun z => ((0 : Int) ≤ z.toInt ∧ z.toInt ≤ 417) ∧ z.toInt = min v1.toInt v2.toInt) ⟨iv_mn i_v1 i_v2 (by decide) (by decide) (by decide) (by decide), i_mn _ _⟩ (fun x1 qi2 => ?_)
  obtain ⟨i2, ei2⟩ := qi2
  refine tt_kv (P := fun z => ((0 : Int) ≤ z.toInt ∧ z.toInt ≤ 417) ∧ z.toInt = max v1.toInt v2.toInt) ⟨iv_mx i_v1 i_v2 (by decide) (by decide) (by decide) (by decide), i_mx _ _⟩ (fun x3 qi4 => ?_)
  obtain ⟨i4, ei4⟩ := qi4
  refine tt_if (fun c5 => ?_) (fun c5 => ?_)
  · have wc5 : x1.toInt = (0 : Int) := c_eq c5
    have i6 : (0 : Int) ≤ x1.toInt ∧ x1.toInt ≤ 0 := nr_eql c5 i2 (show (0 : Int) ≤ (0 : Int32).toInt ∧ (0 : Int32).toInt ≤ 0 by decide) (by decide) (by decide)
    try unfold fGr_and_23
    have p7 : Anc v1.toInt v2.toInt x1.toInt ((o0.1 0).toInt + 1) (o0.1 2).toInt (o0.1 2).toInt (o0.2.1 4) (o0.2.1 5) (o0.2.1 8) (o0.2.1 9) (o0.2.1 4) (o0.2.1 5) (o0.2.1 8) (o0.2.1 9) := by first | exact Anc_m (by omega) | exact Anc_t (show Gt _ _ _ _ _ by assumption) (by omega) (by omega) (by omega) | exact Anc_n (show Ng _ _ _ _ _ _ _ _ _ _ _ _ _ _ by assumption) (by omega) (by omega) (by omega) (by omega)
    exact tt_some ⟨(iv_w (a := 0) (b := 417) (by decide) (by decide) i6), k_o0, r_o0, p7, trivial⟩
  · have wc5 : ¬ x1.toInt = (0 : Int) := c_ne c5
    have i8 : (1 : Int) ≤ x1.toInt ∧ x1.toInt ≤ 417 := nr_nela c5 i2 (show (0 : Int) ≤ (0 : Int32).toInt ∧ (0 : Int32).toInt ≤ 0 by decide) (by decide) (by decide)
    refine tt_if (fun c9 => ?_) (fun c9 => ?_)
    · have wc9 : x1.toInt = x3.toInt := c_eq c9
      have i10 : (1 : Int) ≤ x3.toInt ∧ x3.toInt ≤ 417 := nr_eqr c9 i8 i4 (by decide) (by decide)
      try unfold fGr_and_23
      have p11 : Anc v1.toInt v2.toInt x1.toInt ((o0.1 0).toInt + 1) (o0.1 2).toInt (o0.1 2).toInt (o0.2.1 4) (o0.2.1 5) (o0.2.1 8) (o0.2.1 9) (o0.2.1 4) (o0.2.1 5) (o0.2.1 8) (o0.2.1 9) := by first | exact Anc_m (by omega) | exact Anc_t (show Gt _ _ _ _ _ by assumption) (by omega) (by omega) (by omega) | exact Anc_n (show Ng _ _ _ _ _ _ _ _ _ _ _ _ _ _ by assumption) (by omega) (by omega) (by omega) (by omega)
      exact tt_some ⟨(iv_w (a := 0) (b := 417) (by decide) (by decide) i8), k_o0, r_o0, p11, trivial⟩
    · have wc9 : ¬ x1.toInt = x3.toInt := c_ne c9
      refine tt_if (fun c12 => ?_) (fun c12 => ?_)
      · have wc12 : x1.toInt = (1 : Int) := c_eq c12
        have i13 : (1 : Int) ≤ x1.toInt ∧ x1.toInt ≤ 1 := nr_eql c12 i8 (show (1 : Int) ≤ (1 : Int32).toInt ∧ (1 : Int32).toInt ≤ 1 by decide) (by decide) (by decide)
        have p14 : Anc v1.toInt v2.toInt x3.toInt ((o0.1 0).toInt + 1) (o0.1 2).toInt (o0.1 2).toInt (o0.2.1 4) (o0.2.1 5) (o0.2.1 8) (o0.2.1 9) (o0.2.1 4) (o0.2.1 5) (o0.2.1 8) (o0.2.1 9) := by first | exact Anc_m (by omega) | exact Anc_t (show Gt _ _ _ _ _ by assumption) (by omega) (by omega) (by omega) | exact Anc_n (show Ng _ _ _ _ _ _ _ _ _ _ _ _ _ _ by assumption) (by omega) (by omega) (by omega) (by omega)
        exact tt_some ⟨i4, k_o0, r_o0, p14, trivial⟩
      · have wc12 : ¬ x1.toInt = (1 : Int) := c_ne c12
        have i15 : (2 : Int) ≤ x1.toInt ∧ x1.toInt ≤ 417 := nr_nela c12 i8 (show (1 : Int) ≤ (1 : Int32).toInt ∧ (1 : Int32).toInt ≤ 1 by decide) (by decide) (by decide)
        refine tt_kv (P := fun z => ((2 : Int) ≤ z.toInt ∧ z.toInt ≤ 417) ∧ z.toInt = x1.toInt + 1 - 2 * (x1.toInt % 2)) ⟨iv_x1 i15 (show (1 : Int) ≤ (1 : Int32).toInt ∧ (1 : Int32).toInt ≤ 1 by decide) (by decide) (by decide) (by decide) (by decide) (by decide), i_x1 (Int.le_trans (by decide) i15.1)⟩ (fun x16 qi17 => ?_)
        obtain ⟨i17, ei17⟩ := qi17
        refine tt_if (fun c18 => ?_) (fun c18 => ?_)
        · have wc18 : x16.toInt = x3.toInt := c_eq c18
          have i19 : (2 : Int) ≤ x3.toInt ∧ x3.toInt ≤ 417 := nr_eqr c18 i17 i4 (by decide) (by decide)
          have p20 : Anc v1.toInt v2.toInt 0 ((o0.1 0).toInt + 1) (o0.1 2).toInt (o0.1 2).toInt (o0.2.1 4) (o0.2.1 5) (o0.2.1 8) (o0.2.1 9) (o0.2.1 4) (o0.2.1 5) (o0.2.1 8) (o0.2.1 9) := by first | exact Anc_m (by omega) | exact Anc_t (show Gt _ _ _ _ _ by assumption) (by omega) (by omega) (by omega) | exact Anc_n (show Ng _ _ _ _ _ _ _ _ _ _ _ _ _ _ by assumption) (by omega) (by omega) (by omega) (by omega)
          exact tt_some ⟨(iv_w (a := 0) (b := 417) (by decide) (by decide) (show (0 : Int) ≤ (0 : Int32).toInt ∧ (0 : Int32).toInt ≤ 0 by decide)), k_o0, r_o0, p20, trivial⟩
        · have wc18 : ¬ x16.toInt = x3.toInt := c_ne c18
          refine tt_b (sGr_gateThere _ _ _ k_o0 (iv_w (a := 0) (b := 417) (by decide) (by decide) i15) i4) (fun q21 hq21 => ?_)
          obtain ⟨i_q21, zq21_0, -⟩ := hq21
          refine tt_if (fun c22 => ?_) (fun c22 => ?_)
          · have wc22 : q21.toInt = (0 : Int) := c_eq c22
            have i23 : (0 : Int) ≤ q21.toInt ∧ q21.toInt ≤ 0 := nr_eql c22 i_q21 (show (0 : Int) ≤ (0 : Int32).toInt ∧ (0 : Int32).toInt ≤ 0 by decide) (by decide) (by decide)
            refine tt_b (sGr_newGate _ _ _ k_o0 (iv_w (a := 0) (b := 417) (by decide) (by decide) i15) i4) (fun q24 hq24 => ?_)
            obtain ⟨i_q24, k_q24_2, n_q24_2, f_q24_2_2, zq24_0, -⟩ := hq24
            have r_q24_2 := fr_tr r_o0 n_q24_2 rfl rfl rfl
            have e_q24_2_0 : (q24.2.1 0).toInt = (o0.1 0).toInt := congrArg Int32.toInt (n_q24_2.1 0 rfl)
            have g_q24_2_0 : (0 : Int) ≤ (q24.2.1 0).toInt ∧ (q24.2.1 0).toInt ≤ 8 := k_q24_2.1 0
            try unfold fGr_and_70
            refine tt_kv (P := fun z => ((0 : Int) ≤ z.toInt ∧ z.toInt ≤ 416) ∧ z.toInt = 2 * q24.1.toInt) ⟨iv_mul (show (2 : Int) ≤ (2 : Int32).toInt ∧ (2 : Int32).toInt ≤ 2 by decide) i_q24 (by decide) (by decide) (by decide) (by decide) (by decide), iq_mul (show (2 : Int) ≤ (2 : Int32).toInt ∧ (2 : Int32).toInt ≤ 2 by decide) i_q24 (by decide) (by decide) (by decide) (by decide)⟩ (fun x25 qi26 => ?_)
            obtain ⟨i26, ei26⟩ := qi26
            have p27 : Anc v1.toInt v2.toInt x25.toInt ((o0.1 0).toInt + 1) (o0.1 2).toInt (q24.2.1 2).toInt (o0.2.1 4) (o0.2.1 5) (o0.2.1 8) (o0.2.1 9) (q24.2.2.1 4) (q24.2.2.1 5) (q24.2.2.1 8) (q24.2.2.1 9) := by first | exact Anc_m (by omega) | exact Anc_t (show Gt _ _ _ _ _ by assumption) (by omega) (by omega) (by omega) | exact Anc_n (show Ng _ _ _ _ _ _ _ _ _ _ _ _ _ _ by assumption) (by omega) (by omega) (by omega) (by omega)
            exact tt_some ⟨(iv_w (a := 0) (b := 417) (by decide) (by decide) i26), k_q24_2, r_q24_2, p27, trivial⟩
          · have wc22 : ¬ q21.toInt = (0 : Int) := c_ne c22
            have i28 : (1 : Int) ≤ q21.toInt ∧ q21.toInt ≤ 208 := nr_nela c22 i_q21 (show (0 : Int) ≤ (0 : Int32).toInt ∧ (0 : Int32).toInt ≤ 0 by decide) (by decide) (by decide)
            try unfold fGr_and_70
            refine tt_kv (P := fun z => ((2 : Int) ≤ z.toInt ∧ z.toInt ≤ 416) ∧ z.toInt = 2 * q21.toInt) ⟨iv_mul (show (2 : Int) ≤ (2 : Int32).toInt ∧ (2 : Int32).toInt ≤ 2 by decide) i28 (by decide) (by decide) (by decide) (by decide) (by decide), iq_mul (show (2 : Int) ≤ (2 : Int32).toInt ∧ (2 : Int32).toInt ≤ 2 by decide) i28 (by decide) (by decide) (by decide) (by decide)⟩ (fun x29 qi30 => ?_)
            obtain ⟨i30, ei30⟩ := qi30
            have p31 : Anc v1.toInt v2.toInt x29.toInt ((o0.1 0).toInt + 1) (o0.1 2).toInt (o0.1 2).toInt (o0.2.1 4) (o0.2.1 5) (o0.2.1 8) (o0.2.1 9) (o0.2.1 4) (o0.2.1 5) (o0.2.1 8) (o0.2.1 9) := by first | exact Anc_m (by omega) | exact Anc_t (show Gt _ _ _ _ _ by assumption) (by omega) (by omega) (by omega) | exact Anc_n (show Ng _ _ _ _ _ _ _ _ _ _ _ _ _ _ by assumption) (by omega) (by omega) (by omega) (by omega)
            exact tt_some ⟨(iv_w (a := 0) (b := 417) (by decide) (by decide) i30), k_o0, r_o0, p31, trivial⟩
def QGr_or (v1 : Int32) (v2 : Int32) (o0 : cf_O) (r : (Int32 × cf_O)) : Prop := ((0 : Int) ≤ r.1.toInt ∧ r.1.toInt ≤ 417) ∧ (okO I_Gr r.2) ∧ (Fr (fr_M [2, 3] [4, 5, 6, 8, 9] []) o0 r.2) ∧ (Anc v1.toInt v2.toInt r.1.toInt ((o0.1 0).toInt + 1) (o0.1 2).toInt (r.2.1 2).toInt (o0.2.1 4) (o0.2.1 5) (o0.2.1 8) (o0.2.1 9) (r.2.2.1 4) (r.2.2.1 5) (r.2.2.1 8) (r.2.2.1 9)) ∧ True
set_option maxHeartbeats 4000000 in
set_option maxRecDepth 100000 in
theorem sGr_or (v1 : Int32) (v2 : Int32) (o0 : cf_O) (k_o0 : okO I_Gr o0) (i_v1 : (0 : Int) ≤ v1.toInt ∧ v1.toInt ≤ 417) (i_v2 : (0 : Int) ≤ v2.toInt ∧ v2.toInt ≤ 417) : tt (fGr_or v1 v2 o0) (QGr_or v1 v2 o0) := by
  have r_o0 : Fr (fr_M [2, 3] [4, 5, 6, 8, 9] []) o0 o0 := fr_rfl
  unfold fGr_or fGr_or_0
  have g_o0_0 : (0 : Int) ≤ (o0.1 0).toInt ∧ (o0.1 0).toInt ≤ 8 := k_o0.1 0
  have g_o0_2 : (0 : Int) ≤ (o0.1 2).toInt ∧ (o0.1 2).toInt ≤ 200 := k_o0.1 2
  refine tt_kv (P := fun z => ((0 : Int) ≤ z.toInt ∧ z.toInt ≤ 417) ∧ z.toInt = v1.toInt + 1 - 2 * (v1.toInt % 2)) ⟨iv_x1 i_v1 (show (1 : Int) ≤ (1 : Int32).toInt ∧ (1 : Int32).toInt ≤ 1 by decide) (by decide) (by decide) (by decide) (by decide) (by decide), i_x1 (Int.le_trans (by decide) i_v1.1)⟩ (fun x1 qi2 => ?_)
  obtain ⟨i2, ei2⟩ := qi2
  refine tt_kv (P := fun z => ((0 : Int) ≤ z.toInt ∧ z.toInt ≤ 417) ∧ z.toInt = v2.toInt + 1 - 2 * (v2.toInt % 2)) ⟨iv_x1 i_v2 (show (1 : Int) ≤ (1 : Int32).toInt ∧ (1 : Int32).toInt ≤ 1 by decide) (by decide) (by decide) (by decide) (by decide) (by decide), i_x1 (Int.le_trans (by decide) i_v2.1)⟩ (fun x3 qi4 => ?_)
  obtain ⟨i4, ei4⟩ := qi4
  refine tt_b (sGr_and _ _ _ k_o0 i2 i4) (fun q5 hq5 => ?_)
  obtain ⟨i_q5, k_q5_2, n_q5_2, zq5_0, -⟩ := hq5
  have r_q5_2 := fr_tr r_o0 n_q5_2 rfl rfl rfl
  have e_q5_2_0 : (q5.2.1 0).toInt = (o0.1 0).toInt := congrArg Int32.toInt (n_q5_2.1 0 rfl)
  have g_q5_2_0 : (0 : Int) ≤ (q5.2.1 0).toInt ∧ (q5.2.1 0).toInt ≤ 8 := k_q5_2.1 0
  have g_q5_2_2 : (0 : Int) ≤ (q5.2.1 2).toInt ∧ (q5.2.1 2).toInt ≤ 200 := k_q5_2.1 2
  refine tt_kv (P := fun z => ((0 : Int) ≤ z.toInt ∧ z.toInt ≤ 417) ∧ z.toInt = q5.1.toInt + 1 - 2 * (q5.1.toInt % 2)) ⟨iv_x1 i_q5 (show (1 : Int) ≤ (1 : Int32).toInt ∧ (1 : Int32).toInt ≤ 1 by decide) (by decide) (by decide) (by decide) (by decide) (by decide), i_x1 (Int.le_trans (by decide) i_q5.1)⟩ (fun x6 qi7 => ?_)
  obtain ⟨i7, ei7⟩ := qi7
  have p8 : Anc v1.toInt v2.toInt x6.toInt ((o0.1 0).toInt + 1) (o0.1 2).toInt (q5.2.1 2).toInt (o0.2.1 4) (o0.2.1 5) (o0.2.1 8) (o0.2.1 9) (q5.2.2.1 4) (q5.2.2.1 5) (q5.2.2.1 8) (q5.2.2.1 9) := by exact Anc_o (show Anc _ _ _ _ _ _ _ _ _ _ _ _ _ _ by assumption) (by omega) (by omega) (by omega)
  exact tt_some ⟨i7, k_q5_2, r_q5_2, p8, trivial⟩
def QTx_rewind (o0 : cf_O) (r : (cf_O)) : Prop := (okO I_Tx r) ∧ (Fr (fr_M [4, 6] [] []) o0 r) ∧ (((-1) : Int) ≤ (r.1 4).toInt ∧ (r.1 4).toInt ≤ (-1)) ∧ ((0 : Int) ≤ (r.1 6).toInt ∧ (r.1 6).toInt ≤ 0) ∧ True
set_option maxHeartbeats 4000000 in
set_option maxRecDepth 100000 in
theorem sTx_rewind (o0 : cf_O) (k_o0 : okO I_Tx o0) : tt (fTx_rewind o0) (QTx_rewind o0) := by
  have r_o0 : Fr (fr_M [4, 6] [] []) o0 o0 := fr_rfl
  unfold fTx_rewind fTx_rewind_0
  refine tt_ko ?_
  have k1 := ok_fp (k := 6) (v := 0) k_o0 (iv_w (a := 0) (b := 1601) (by decide) (by decide) (show (0 : Int) ≤ (0 : Int32).toInt ∧ (0 : Int32).toInt ≤ 0 by decide))
  have r2 := fr_fp (k := 6) (v := 0) r_o0 rfl
  refine tt_ko ?_
  have k3 := ok_fp (k := 4) (v := (-1)) k1 (iv_w (a := (-1)) (b := 1602) (by decide) (by decide) (show ((-1) : Int) ≤ ((-1) : Int32).toInt ∧ ((-1) : Int32).toInt ≤ (-1) by decide))
  have r4 := fr_fp (k := 4) (v := (-1)) r2 rfl
  exact tt_some ⟨k3, r4, (show ((-1) : Int) ≤ ((-1) : Int32).toInt ∧ ((-1) : Int32).toInt ≤ (-1) by decide), (show (0 : Int) ≤ (0 : Int32).toInt ∧ (0 : Int32).toInt ≤ 0 by decide), trivial⟩
def QTx_splitLine (o0 : cf_O) (r : (cf_O)) : Prop := (okO I_Tx r) ∧ (Fr (fr_M [5, 6] [1, 2] []) o0 r) ∧ ((1 : Int) ≤ (r.1 6).toInt ∧ (r.1 6).toInt ≤ 1601) ∧ ((o0.1 6).toInt + 1 ≤ (r.1 6).toInt) ∧ True
def HTx_splitLine (yo0 : cf_O) (n : Nat) : Prop := (∀ (v1 : Int32) (v2 : Int32) (v3 : Int32) (o0 : cf_O), (okO I_Tx o0) → (Fr (fr_M [5, 6] [1, 2] []) yo0 o0) → ((0 : Int) ≤ v1.toInt ∧ v1.toInt ≤ 1) → ((0 : Int) ≤ v2.toInt ∧ v2.toInt ≤ 1) → ((0 : Int) ≤ v3.toInt ∧ v3.toInt ≤ 1600) → ((0 : Int) ≤ (o0.1 4).toInt ∧ (o0.1 4).toInt ≤ 1602) → ((0 : Int) ≤ (o0.1 6).toInt ∧ (o0.1 6).toInt ≤ 1600) → (v2.toInt = 0 ∨ 1 ≤ (o0.1 5).toInt) → ((o0.1 6).toInt ≤ v3.toInt) → ((o0.1 6).toInt = (yo0.1 6).toInt) → 0 + (1600 - v3.toInt) * 2 < (n : Int) → tt (gTx_splitLine n 0 v1 v2 v3 o0) (QTx_splitLine yo0))
set_option maxHeartbeats 4000000 in
set_option maxRecDepth 100000 in
theorem tTx_splitLine_14 {yo0 : cf_O} {n : Nat} (H : HTx_splitLine yo0 n) (v1 : Int32) (v2 : Int32) (v3 : Int32) (o0 : cf_O) (k_o0 : okO I_Tx o0) (r_o0 : Fr (fr_M [5, 6] [1, 2] []) yo0 o0) (i_v1 : (0 : Int) ≤ v1.toInt ∧ v1.toInt ≤ 1) (i_v2 : (0 : Int) ≤ v2.toInt ∧ v2.toInt ≤ 1) (i_v3 : (0 : Int) ≤ v3.toInt ∧ v3.toInt ≤ 1600) (f_o0_4 : (0 : Int) ≤ (o0.1 4).toInt ∧ (o0.1 4).toInt ≤ 1602) (f_o0_6 : (0 : Int) ≤ (o0.1 6).toInt ∧ (o0.1 6).toInt ≤ 1600) (x_0 : v2.toInt = 0 ∨ 1 ≤ (o0.1 5).toInt) (x_1 : (o0.1 6).toInt ≤ v3.toInt) (x_2 : (o0.1 6).toInt = (yo0.1 6).toInt) (hm : 0 + (1600 - v3.toInt) * 2 ≤ (n : Int)) : tt (fTx_splitLine_14 (gTx_splitLine n) v1 v2 v3 o0) (QTx_splitLine yo0) := by
  unfold fTx_splitLine_14
  have g_o0_5 : (0 : Int) ≤ (o0.1 5).toInt ∧ (o0.1 5).toInt ≤ 10 := k_o0.1 5
  refine tt_if (fun c1 => ?_) (fun c1 => ?_)
  · have wc1 : (o0.1 3).toInt ≤ v3.toInt := c_le c1
    try unfold fTx_splitLine_142
    refine tt_kv (P := fun z => ((1 : Int) ≤ z.toInt ∧ z.toInt ≤ 1601) ∧ z.toInt = v3.toInt + 1) ⟨iv_add i_v3 (show (1 : Int) ≤ (1 : Int32).toInt ∧ (1 : Int32).toInt ≤ 1 by decide) (by decide) (by decide) (by decide) (by decide), iq_add i_v3 (show (1 : Int) ≤ (1 : Int32).toInt ∧ (1 : Int32).toInt ≤ 1 by decide) (by decide) (by decide)⟩ (fun x2 qi3 => ?_)
    obtain ⟨i3, ei3⟩ := qi3
    refine tt_ko ?_
    have k4 := ok_fp (k := 6) (v := x2) k_o0 (iv_w (a := 0) (b := 1601) (by decide) (by decide) i3)
    have r5 := fr_fp (k := 6) (v := x2) r_o0 rfl
    exact tt_some ⟨k4, r5, i3, (show (yo0.1 6).toInt + 1 ≤ x2.toInt by omega), trivial⟩
  · have wc1 : v3.toInt < (o0.1 3).toInt := c_nle c1
    have i6 : (0 : Int) ≤ v3.toInt ∧ v3.toInt ≤ 1599 := nr_nlel c1 i_v3 (k_o0.1 3) (by decide) (by decide)
    have i7 : (1 : Int) ≤ (o0.1 3).toInt ∧ (o0.1 3).toInt ≤ 1600 := nr_nler c1 i_v3 (k_o0.1 3) (by decide) (by decide)
    refine tt_n (ix_ok i6 (by decide) (by decide)) ?_
    refine tt_kv (P := fun z => (((-128) : Int) ≤ z.toInt ∧ z.toInt ≤ 127) ∧ z.toInt = (o0.2.1 0 v3.toNatClampNeg).toInt) ⟨(k_o0.2 0 _), rfl⟩ (fun x8 qi9 => ?_)
    obtain ⟨i9, ei9⟩ := qi9
    refine tt_if (fun c10 => ?_) (fun c10 => ?_)
    · have wc10 : x8.toInt = (10 : Int) := c_eq c10
      have i11 : (10 : Int) ≤ x8.toInt ∧ x8.toInt ≤ 10 := nr_eql c10 i9 (show (10 : Int) ≤ (10 : Int32).toInt ∧ (10 : Int32).toInt ≤ 10 by decide) (by decide) (by decide)
      try unfold fTx_splitLine_142
      refine tt_kv (P := fun z => ((1 : Int) ≤ z.toInt ∧ z.toInt ≤ 1600) ∧ z.toInt = v3.toInt + 1) ⟨iv_add i6 (show (1 : Int) ≤ (1 : Int32).toInt ∧ (1 : Int32).toInt ≤ 1 by decide) (by decide) (by decide) (by decide) (by decide), iq_add i6 (show (1 : Int) ≤ (1 : Int32).toInt ∧ (1 : Int32).toInt ≤ 1 by decide) (by decide) (by decide)⟩ (fun x12 qi13 => ?_)
      obtain ⟨i13, ei13⟩ := qi13
      refine tt_ko ?_
      have k14 := ok_fp (k := 6) (v := x12) k_o0 (iv_w (a := 0) (b := 1601) (by decide) (by decide) i13)
      have r15 := fr_fp (k := 6) (v := x12) r_o0 rfl
      exact tt_some ⟨k14, r15, (iv_w (a := 1) (b := 1601) (by decide) (by decide) i13), (show (yo0.1 6).toInt + 1 ≤ x12.toInt by omega), trivial⟩
    · have wc10 : ¬ x8.toInt = (10 : Int) := c_ne c10
      refine tt_if (fun c16 => ?_) (fun c16 => ?_)
      · have wc16 : v1.toInt = (0 : Int) := c_eq c16
        have i17 : (0 : Int) ≤ v1.toInt ∧ v1.toInt ≤ 0 := nr_eql c16 i_v1 (show (0 : Int) ≤ (0 : Int32).toInt ∧ (0 : Int32).toInt ≤ 0 by decide) (by decide) (by decide)
        try unfold fTx_splitLine_52
        try unfold fTx_splitLine_53
        refine tt_if (fun c18 => ?_) (fun c18 => ?_)
        · have wc18 : (0 : Int) = (0 : Int) := c_eq c18
          try unfold fTx_splitLine_73
          try unfold fTx_splitLine_74
          refine tt_if (fun c19 => ?_) (fun c19 => ?_)
          · have wc19 : (0 : Int) = (0 : Int) := c_eq c19
            try unfold fTx_splitLine_114
            refine tt_if (fun c20 => ?_) (fun c20 => ?_)
            · have wc20 : (0 : Int) = (0 : Int) := c_eq c20
              try unfold fTx_splitLine_133
              refine tt_kv (P := fun z => ((1 : Int) ≤ z.toInt ∧ z.toInt ≤ 1600) ∧ z.toInt = v3.toInt + 1) ⟨iv_add i6 (show (1 : Int) ≤ (1 : Int32).toInt ∧ (1 : Int32).toInt ≤ 1 by decide) (by decide) (by decide) (by decide) (by decide), iq_add i6 (show (1 : Int) ≤ (1 : Int32).toInt ∧ (1 : Int32).toInt ≤ 1 by decide) (by decide) (by decide)⟩ (fun x21 qi22 => ?_)
              obtain ⟨i22, ei22⟩ := qi22
              exact H _ _ _ _ k_o0 r_o0 (iv_w (a := 0) (b := 1) (by decide) (by decide) (show (0 : Int) ≤ (0 : Int32).toInt ∧ (0 : Int32).toInt ≤ 0 by decide)) (iv_w (a := 0) (b := 1) (by decide) (by decide) (show (0 : Int) ≤ (0 : Int32).toInt ∧ (0 : Int32).toInt ≤ 0 by decide)) (iv_w (a := 0) (b := 1600) (by decide) (by decide) i22) f_o0_4 f_o0_6 (show 0 = 0 ∨ 1 ≤ (o0.1 5).toInt by omega) (show (o0.1 6).toInt ≤ x21.toInt by omega) (show (o0.1 6).toInt = (yo0.1 6).toInt by omega) (show 0 + (1600 - x21.toInt) * 2 < (n : Int) by omega)
            · have wc20 : ¬ (0 : Int) = (0 : Int) := c_ne c20
              exact (dd_ne c20 (show (0 : Int) ≤ (0 : Int32).toInt ∧ (0 : Int32).toInt ≤ 0 by decide) (show (0 : Int) ≤ (0 : Int32).toInt ∧ (0 : Int32).toInt ≤ 0 by decide)).elim
          · have wc19 : ¬ (0 : Int) = (0 : Int) := c_ne c19
            exact (dd_ne c19 (show (0 : Int) ≤ (0 : Int32).toInt ∧ (0 : Int32).toInt ≤ 0 by decide) (show (0 : Int) ≤ (0 : Int32).toInt ∧ (0 : Int32).toInt ≤ 0 by decide)).elim
        · have wc18 : ¬ (0 : Int) = (0 : Int) := c_ne c18
          exact (dd_ne c18 (show (0 : Int) ≤ (0 : Int32).toInt ∧ (0 : Int32).toInt ≤ 0 by decide) (show (0 : Int) ≤ (0 : Int32).toInt ∧ (0 : Int32).toInt ≤ 0 by decide)).elim
      · have wc16 : ¬ v1.toInt = (0 : Int) := c_ne c16
        have i23 : (1 : Int) ≤ v1.toInt ∧ v1.toInt ≤ 1 := nr_nela c16 i_v1 (show (0 : Int) ≤ (0 : Int32).toInt ∧ (0 : Int32).toInt ≤ 0 by decide) (by decide) (by decide)
        refine tt_n (ix_ok i6 (by decide) (by decide)) ?_
        refine tt_kv (P := fun z => (((-128) : Int) ≤ z.toInt ∧ z.toInt ≤ 127) ∧ z.toInt = (o0.2.1 0 v3.toNatClampNeg).toInt) ⟨(k_o0.2 0 _), rfl⟩ (fun x24 qi25 => ?_)
        obtain ⟨i25, ei25⟩ := qi25
        refine tt_if (fun c26 => ?_) (fun c26 => ?_)
        · have wc26 : x24.toInt = (35 : Int) := c_eq c26
          have i27 : (35 : Int) ≤ x24.toInt ∧ x24.toInt ≤ 35 := nr_eql c26 i25 (show (35 : Int) ≤ (35 : Int32).toInt ∧ (35 : Int32).toInt ≤ 35 by decide) (by decide) (by decide)
          try unfold fTx_splitLine_52
          try unfold fTx_splitLine_53
          refine tt_if (fun c28 => ?_) (fun c28 => ?_)
          · have wc28 : (0 : Int) = (0 : Int) := c_eq c28
            try unfold fTx_splitLine_73
            try unfold fTx_splitLine_74
            refine tt_if (fun c29 => ?_) (fun c29 => ?_)
            · have wc29 : (0 : Int) = (0 : Int) := c_eq c29
              try unfold fTx_splitLine_114
              refine tt_if (fun c30 => ?_) (fun c30 => ?_)
              · have wc30 : (0 : Int) = (0 : Int) := c_eq c30
                try unfold fTx_splitLine_133
                refine tt_kv (P := fun z => ((1 : Int) ≤ z.toInt ∧ z.toInt ≤ 1600) ∧ z.toInt = v3.toInt + 1) ⟨iv_add i6 (show (1 : Int) ≤ (1 : Int32).toInt ∧ (1 : Int32).toInt ≤ 1 by decide) (by decide) (by decide) (by decide) (by decide), iq_add i6 (show (1 : Int) ≤ (1 : Int32).toInt ∧ (1 : Int32).toInt ≤ 1 by decide) (by decide) (by decide)⟩ (fun x31 qi32 => ?_)
                obtain ⟨i32, ei32⟩ := qi32
                exact H _ _ _ _ k_o0 r_o0 (iv_w (a := 0) (b := 1) (by decide) (by decide) (show (0 : Int) ≤ (0 : Int32).toInt ∧ (0 : Int32).toInt ≤ 0 by decide)) (iv_w (a := 0) (b := 1) (by decide) (by decide) (show (0 : Int) ≤ (0 : Int32).toInt ∧ (0 : Int32).toInt ≤ 0 by decide)) (iv_w (a := 0) (b := 1600) (by decide) (by decide) i32) f_o0_4 f_o0_6 (show 0 = 0 ∨ 1 ≤ (o0.1 5).toInt by omega) (show (o0.1 6).toInt ≤ x31.toInt by omega) (show (o0.1 6).toInt = (yo0.1 6).toInt by omega) (show 0 + (1600 - x31.toInt) * 2 < (n : Int) by omega)
              · have wc30 : ¬ (0 : Int) = (0 : Int) := c_ne c30
                exact (dd_ne c30 (show (0 : Int) ≤ (0 : Int32).toInt ∧ (0 : Int32).toInt ≤ 0 by decide) (show (0 : Int) ≤ (0 : Int32).toInt ∧ (0 : Int32).toInt ≤ 0 by decide)).elim
            · have wc29 : ¬ (0 : Int) = (0 : Int) := c_ne c29
              exact (dd_ne c29 (show (0 : Int) ≤ (0 : Int32).toInt ∧ (0 : Int32).toInt ≤ 0 by decide) (show (0 : Int) ≤ (0 : Int32).toInt ∧ (0 : Int32).toInt ≤ 0 by decide)).elim
          · have wc28 : ¬ (0 : Int) = (0 : Int) := c_ne c28
            exact (dd_ne c28 (show (0 : Int) ≤ (0 : Int32).toInt ∧ (0 : Int32).toInt ≤ 0 by decide) (show (0 : Int) ≤ (0 : Int32).toInt ∧ (0 : Int32).toInt ≤ 0 by decide)).elim
        · have wc26 : ¬ x24.toInt = (35 : Int) := c_ne c26
          try unfold fTx_splitLine_53
          refine tt_if (fun c33 => ?_) (fun c33 => ?_)
          · have wc33 : (1 : Int) = (0 : Int) := c_eq c33
            exact (dd_eq c33 (show (1 : Int) ≤ (1 : Int32).toInt ∧ (1 : Int32).toInt ≤ 1 by decide) (show (0 : Int) ≤ (0 : Int32).toInt ∧ (0 : Int32).toInt ≤ 0 by decide) (by decide)).elim
          · have wc33 : ¬ (1 : Int) = (0 : Int) := c_ne c33
            refine tt_n (ix_ok i6 (by decide) (by decide)) ?_
            refine tt_kv (P := fun z => (((-128) : Int) ≤ z.toInt ∧ z.toInt ≤ 127) ∧ z.toInt = (o0.2.1 0 v3.toNatClampNeg).toInt) ⟨(k_o0.2 0 _), rfl⟩ (fun x34 qi35 => ?_)
            obtain ⟨i35, ei35⟩ := qi35
            refine tt_if (fun c36 => ?_) (fun c36 => ?_)
            · have wc36 : x34.toInt = (32 : Int) := c_eq c36
              have i37 : (32 : Int) ≤ x34.toInt ∧ x34.toInt ≤ 32 := nr_eql c36 i35 (show (32 : Int) ≤ (32 : Int32).toInt ∧ (32 : Int32).toInt ≤ 32 by decide) (by decide) (by decide)
              try unfold fTx_splitLine_73
              try unfold fTx_splitLine_74
              refine tt_if (fun c38 => ?_) (fun c38 => ?_)
              · have wc38 : (0 : Int) = (0 : Int) := c_eq c38
                try unfold fTx_splitLine_114
                refine tt_if (fun c39 => ?_) (fun c39 => ?_)
                · have wc39 : (0 : Int) = (0 : Int) := c_eq c39
                  try unfold fTx_splitLine_133
                  refine tt_kv (P := fun z => ((1 : Int) ≤ z.toInt ∧ z.toInt ≤ 1600) ∧ z.toInt = v3.toInt + 1) ⟨iv_add i6 (show (1 : Int) ≤ (1 : Int32).toInt ∧ (1 : Int32).toInt ≤ 1 by decide) (by decide) (by decide) (by decide) (by decide), iq_add i6 (show (1 : Int) ≤ (1 : Int32).toInt ∧ (1 : Int32).toInt ≤ 1 by decide) (by decide) (by decide)⟩ (fun x40 qi41 => ?_)
                  obtain ⟨i41, ei41⟩ := qi41
                  exact H _ _ _ _ k_o0 r_o0 (iv_w (a := 0) (b := 1) (by decide) (by decide) (show (1 : Int) ≤ (1 : Int32).toInt ∧ (1 : Int32).toInt ≤ 1 by decide)) (iv_w (a := 0) (b := 1) (by decide) (by decide) (show (0 : Int) ≤ (0 : Int32).toInt ∧ (0 : Int32).toInt ≤ 0 by decide)) (iv_w (a := 0) (b := 1600) (by decide) (by decide) i41) f_o0_4 f_o0_6 (show 0 = 0 ∨ 1 ≤ (o0.1 5).toInt by omega) (show (o0.1 6).toInt ≤ x40.toInt by omega) (show (o0.1 6).toInt = (yo0.1 6).toInt by omega) (show 0 + (1600 - x40.toInt) * 2 < (n : Int) by omega)
                · have wc39 : ¬ (0 : Int) = (0 : Int) := c_ne c39
                  exact (dd_ne c39 (show (0 : Int) ≤ (0 : Int32).toInt ∧ (0 : Int32).toInt ≤ 0 by decide) (show (0 : Int) ≤ (0 : Int32).toInt ∧ (0 : Int32).toInt ≤ 0 by decide)).elim
              · have wc38 : ¬ (0 : Int) = (0 : Int) := c_ne c38
                exact (dd_ne c38 (show (0 : Int) ≤ (0 : Int32).toInt ∧ (0 : Int32).toInt ≤ 0 by decide) (show (0 : Int) ≤ (0 : Int32).toInt ∧ (0 : Int32).toInt ≤ 0 by decide)).elim
            · have wc36 : ¬ x34.toInt = (32 : Int) := c_ne c36
              try unfold fTx_splitLine_74
              refine tt_if (fun c42 => ?_) (fun c42 => ?_)
              · have wc42 : (1 : Int) = (0 : Int) := c_eq c42
                exact (dd_eq c42 (show (1 : Int) ≤ (1 : Int32).toInt ∧ (1 : Int32).toInt ≤ 1 by decide) (show (0 : Int) ≤ (0 : Int32).toInt ∧ (0 : Int32).toInt ≤ 0 by decide) (by decide)).elim
              · have wc42 : ¬ (1 : Int) = (0 : Int) := c_ne c42
                refine tt_if (fun c43 => ?_) (fun c43 => ?_)
                · have wc43 : v2.toInt = (0 : Int) := c_eq c43
                  have i44 : (0 : Int) ≤ v2.toInt ∧ v2.toInt ≤ 0 := nr_eql c43 i_v2 (show (0 : Int) ≤ (0 : Int32).toInt ∧ (0 : Int32).toInt ≤ 0 by decide) (by decide) (by decide)
                  refine tt_if (fun c45 => ?_) (fun c45 => ?_)
                  · have wc45 : (10 : Int) ≤ (o0.1 5).toInt := c_le c45
                    have i46 : (10 : Int) ≤ (o0.1 5).toInt ∧ (o0.1 5).toInt ≤ 10 := nr_ler c45 (show (10 : Int) ≤ (10 : Int32).toInt ∧ (10 : Int32).toInt ≤ 10 by decide) (k_o0.1 5) (by decide) (by decide)
                    try unfold fTx_splitLine_114
                    refine tt_if (fun c47 => ?_) (fun c47 => ?_)
                    · have wc47 : (1 : Int) = (0 : Int) := c_eq c47
                      exact (dd_eq c47 (show (1 : Int) ≤ (1 : Int32).toInt ∧ (1 : Int32).toInt ≤ 1 by decide) (show (0 : Int) ≤ (0 : Int32).toInt ∧ (0 : Int32).toInt ≤ 0 by decide) (by decide)).elim
                    · have wc47 : ¬ (1 : Int) = (0 : Int) := c_ne c47
                      refine tt_kv (P := fun z => ((9 : Int) ≤ z.toInt ∧ z.toInt ≤ 9) ∧ z.toInt = (o0.1 5).toInt - 1) ⟨iv_sub i46 (show (1 : Int) ≤ (1 : Int32).toInt ∧ (1 : Int32).toInt ≤ 1 by decide) (by decide) (by decide) (by decide) (by decide), iq_sub i46 (show (1 : Int) ≤ (1 : Int32).toInt ∧ (1 : Int32).toInt ≤ 1 by decide) (by decide) (by decide)⟩ (fun x48 qi49 => ?_)
                      obtain ⟨i49, ei49⟩ := qi49
                      refine tt_kv (P := fun z => ((1 : Int) ≤ z.toInt ∧ z.toInt ≤ 1600) ∧ z.toInt = v3.toInt + 1) ⟨iv_add i6 (show (1 : Int) ≤ (1 : Int32).toInt ∧ (1 : Int32).toInt ≤ 1 by decide) (by decide) (by decide) (by decide) (by decide), iq_add i6 (show (1 : Int) ≤ (1 : Int32).toInt ∧ (1 : Int32).toInt ≤ 1 by decide) (by decide) (by decide)⟩ (fun x50 qi51 => ?_)
                      obtain ⟨i51, ei51⟩ := qi51
                      refine tt_n (ix_ok i49 (by decide) (by decide)) ?_
                      refine tt_ko ?_
                      have k52 := ok_xp (k := 2) (i := x48.toNatClampNeg) (v := x50) k_o0 (iv_w (a := 0) (b := 1600) (by decide) (by decide) i51)
                      have r53 := fr_xp (k := 2) (i := x48.toNatClampNeg) (v := x50) r_o0 rfl
                      try unfold fTx_splitLine_133
                      refine tt_kv (P := fun z => ((1 : Int) ≤ z.toInt ∧ z.toInt ≤ 1600) ∧ z.toInt = v3.toInt + 1) ⟨iv_add i6 (show (1 : Int) ≤ (1 : Int32).toInt ∧ (1 : Int32).toInt ≤ 1 by decide) (by decide) (by decide) (by decide) (by decide), iq_add i6 (show (1 : Int) ≤ (1 : Int32).toInt ∧ (1 : Int32).toInt ≤ 1 by decide) (by decide) (by decide)⟩ (fun x54 qi55 => ?_)
                      obtain ⟨i55, ei55⟩ := qi55
                      exact H _ _ _ _ k52 r53 (iv_w (a := 0) (b := 1) (by decide) (by decide) (show (1 : Int) ≤ (1 : Int32).toInt ∧ (1 : Int32).toInt ≤ 1 by decide)) (iv_w (a := 0) (b := 1) (by decide) (by decide) (show (1 : Int) ≤ (1 : Int32).toInt ∧ (1 : Int32).toInt ≤ 1 by decide)) (iv_w (a := 0) (b := 1600) (by decide) (by decide) i55) f_o0_4 f_o0_6 (show 1 = 0 ∨ 1 ≤ (o0.1 5).toInt by omega) (show (o0.1 6).toInt ≤ x54.toInt by omega) (show (o0.1 6).toInt = (yo0.1 6).toInt by omega) (show 0 + (1600 - x54.toInt) * 2 < (n : Int) by omega)
                  · have wc45 : (o0.1 5).toInt < (10 : Int) := c_nle c45
                    have i56 : (0 : Int) ≤ (o0.1 5).toInt ∧ (o0.1 5).toInt ≤ 9 := nr_nlel c45 (k_o0.1 5) (show (10 : Int) ≤ (10 : Int32).toInt ∧ (10 : Int32).toInt ≤ 10 by decide) (by decide) (by decide)
                    refine tt_n (ix_ok i56 (by decide) (by decide)) ?_
                    refine tt_ko ?_
                    have k57 := ok_xp (k := 1) (i := (o0.1 5).toNatClampNeg) (v := v3) k_o0 i6
                    have r58 := fr_xp (k := 1) (i := (o0.1 5).toNatClampNeg) (v := v3) r_o0 rfl
                    refine tt_kv (P := fun z => ((1 : Int) ≤ z.toInt ∧ z.toInt ≤ 10) ∧ z.toInt = (o0.1 5).toInt + 1) ⟨iv_add i56 (show (1 : Int) ≤ (1 : Int32).toInt ∧ (1 : Int32).toInt ≤ 1 by decide) (by decide) (by decide) (by decide) (by decide), iq_add i56 (show (1 : Int) ≤ (1 : Int32).toInt ∧ (1 : Int32).toInt ≤ 1 by decide) (by decide) (by decide)⟩ (fun x59 qi60 => ?_)
                    obtain ⟨i60, ei60⟩ := qi60
                    refine tt_ko ?_
                    have k61 := ok_fp (k := 5) (v := x59) k57 (iv_w (a := 0) (b := 10) (by decide) (by decide) i60)
                    have r62 := fr_fp (k := 5) (v := x59) r58 rfl
                    try unfold fTx_splitLine_114
                    refine tt_if (fun c63 => ?_) (fun c63 => ?_)
                    · have wc63 : (1 : Int) = (0 : Int) := c_eq c63
                      exact (dd_eq c63 (show (1 : Int) ≤ (1 : Int32).toInt ∧ (1 : Int32).toInt ≤ 1 by decide) (show (0 : Int) ≤ (0 : Int32).toInt ∧ (0 : Int32).toInt ≤ 0 by decide) (by decide)).elim
                    · have wc63 : ¬ (1 : Int) = (0 : Int) := c_ne c63
                      refine tt_kv (P := fun z => ((0 : Int) ≤ z.toInt ∧ z.toInt ≤ 9) ∧ z.toInt = x59.toInt - 1) ⟨iv_sub i60 (show (1 : Int) ≤ (1 : Int32).toInt ∧ (1 : Int32).toInt ≤ 1 by decide) (by decide) (by decide) (by decide) (by decide), iq_sub i60 (show (1 : Int) ≤ (1 : Int32).toInt ∧ (1 : Int32).toInt ≤ 1 by decide) (by decide) (by decide)⟩ (fun x64 qi65 => ?_)
                      obtain ⟨i65, ei65⟩ := qi65
                      refine tt_kv (P := fun z => ((1 : Int) ≤ z.toInt ∧ z.toInt ≤ 1600) ∧ z.toInt = v3.toInt + 1) ⟨iv_add i6 (show (1 : Int) ≤ (1 : Int32).toInt ∧ (1 : Int32).toInt ≤ 1 by decide) (by decide) (by decide) (by decide) (by decide), iq_add i6 (show (1 : Int) ≤ (1 : Int32).toInt ∧ (1 : Int32).toInt ≤ 1 by decide) (by decide) (by decide)⟩ (fun x66 qi67 => ?_)
                      obtain ⟨i67, ei67⟩ := qi67
                      refine tt_n (ix_ok i65 (by decide) (by decide)) ?_
                      refine tt_ko ?_
                      have k68 := ok_xp (k := 2) (i := x64.toNatClampNeg) (v := x66) k61 (iv_w (a := 0) (b := 1600) (by decide) (by decide) i67)
                      have r69 := fr_xp (k := 2) (i := x64.toNatClampNeg) (v := x66) r62 rfl
                      try unfold fTx_splitLine_133
                      refine tt_kv (P := fun z => ((1 : Int) ≤ z.toInt ∧ z.toInt ≤ 1600) ∧ z.toInt = v3.toInt + 1) ⟨iv_add i6 (show (1 : Int) ≤ (1 : Int32).toInt ∧ (1 : Int32).toInt ≤ 1 by decide) (by decide) (by decide) (by decide) (by decide), iq_add i6 (show (1 : Int) ≤ (1 : Int32).toInt ∧ (1 : Int32).toInt ≤ 1 by decide) (by decide) (by decide)⟩ (fun x70 qi71 => ?_)
                      obtain ⟨i71, ei71⟩ := qi71
                      exact H _ _ _ _ k68 r69 (iv_w (a := 0) (b := 1) (by decide) (by decide) (show (1 : Int) ≤ (1 : Int32).toInt ∧ (1 : Int32).toInt ≤ 1 by decide)) (iv_w (a := 0) (b := 1) (by decide) (by decide) (show (1 : Int) ≤ (1 : Int32).toInt ∧ (1 : Int32).toInt ≤ 1 by decide)) (iv_w (a := 0) (b := 1600) (by decide) (by decide) i71) f_o0_4 f_o0_6 (show 1 = 0 ∨ 1 ≤ x59.toInt by omega) (show (o0.1 6).toInt ≤ x70.toInt by omega) (show (o0.1 6).toInt = (yo0.1 6).toInt by omega) (show 0 + (1600 - x70.toInt) * 2 < (n : Int) by omega)
                · have wc43 : ¬ v2.toInt = (0 : Int) := c_ne c43
                  have i72 : (1 : Int) ≤ v2.toInt ∧ v2.toInt ≤ 1 := nr_nela c43 i_v2 (show (0 : Int) ≤ (0 : Int32).toInt ∧ (0 : Int32).toInt ≤ 0 by decide) (by decide) (by decide)
                  try unfold fTx_splitLine_114
                  refine tt_if (fun c73 => ?_) (fun c73 => ?_)
                  · have wc73 : (1 : Int) = (0 : Int) := c_eq c73
                    exact (dd_eq c73 (show (1 : Int) ≤ (1 : Int32).toInt ∧ (1 : Int32).toInt ≤ 1 by decide) (show (0 : Int) ≤ (0 : Int32).toInt ∧ (0 : Int32).toInt ≤ 0 by decide) (by decide)).elim
                  · have wc73 : ¬ (1 : Int) = (0 : Int) := c_ne c73
                    refine tt_kv (P := fun z => (((-1) : Int) ≤ z.toInt ∧ z.toInt ≤ 9) ∧ z.toInt = (o0.1 5).toInt - 1) ⟨iv_sub (k_o0.1 5) (show (1 : Int) ≤ (1 : Int32).toInt ∧ (1 : Int32).toInt ≤ 1 by decide) (by decide) (by decide) (by decide) (by decide), iq_sub (k_o0.1 5) (show (1 : Int) ≤ (1 : Int32).toInt ∧ (1 : Int32).toInt ≤ 1 by decide) (by decide) (by decide)⟩ (fun x74 qi75 => ?_)
                    obtain ⟨i75, ei75⟩ := qi75
                    refine tt_kv (P := fun z => ((1 : Int) ≤ z.toInt ∧ z.toInt ≤ 1600) ∧ z.toInt = v3.toInt + 1) ⟨iv_add i6 (show (1 : Int) ≤ (1 : Int32).toInt ∧ (1 : Int32).toInt ≤ 1 by decide) (by decide) (by decide) (by decide) (by decide), iq_add i6 (show (1 : Int) ≤ (1 : Int32).toInt ∧ (1 : Int32).toInt ≤ 1 by decide) (by decide) (by decide)⟩ (fun x76 qi77 => ?_)
                    obtain ⟨i77, ei77⟩ := qi77
                    refine tt_n (ix_rel (by omega) (by omega)) ?_
                    have i78 : (0 : Int) ≤ x74.toInt ∧ x74.toInt ≤ 9 := (by omega)
                    have i79 : (1 : Int) ≤ (o0.1 5).toInt ∧ (o0.1 5).toInt ≤ 10 := by omega
                    refine tt_ko ?_
                    have k80 := ok_xp (k := 2) (i := x74.toNatClampNeg) (v := x76) k_o0 (iv_w (a := 0) (b := 1600) (by decide) (by decide) i77)
                    have r81 := fr_xp (k := 2) (i := x74.toNatClampNeg) (v := x76) r_o0 rfl
                    try unfold fTx_splitLine_133
                    refine tt_kv (P := fun z => ((1 : Int) ≤ z.toInt ∧ z.toInt ≤ 1600) ∧ z.toInt = v3.toInt + 1) ⟨iv_add i6 (show (1 : Int) ≤ (1 : Int32).toInt ∧ (1 : Int32).toInt ≤ 1 by decide) (by decide) (by decide) (by decide) (by decide), iq_add i6 (show (1 : Int) ≤ (1 : Int32).toInt ∧ (1 : Int32).toInt ≤ 1 by decide) (by decide) (by decide)⟩ (fun x82 qi83 => ?_)
                    obtain ⟨i83, ei83⟩ := qi83
                    exact H _ _ _ _ k80 r81 (iv_w (a := 0) (b := 1) (by decide) (by decide) (show (1 : Int) ≤ (1 : Int32).toInt ∧ (1 : Int32).toInt ≤ 1 by decide)) (iv_w (a := 0) (b := 1) (by decide) (by decide) (show (1 : Int) ≤ (1 : Int32).toInt ∧ (1 : Int32).toInt ≤ 1 by decide)) (iv_w (a := 0) (b := 1600) (by decide) (by decide) i83) f_o0_4 f_o0_6 (show 1 = 0 ∨ 1 ≤ (o0.1 5).toInt by omega) (show (o0.1 6).toInt ≤ x82.toInt by omega) (show (o0.1 6).toInt = (yo0.1 6).toInt by omega) (show 0 + (1600 - x82.toInt) * 2 < (n : Int) by omega)
set_option maxHeartbeats 4000000 in
set_option maxRecDepth 100000 in
theorem hTx_splitLine (yo0 : cf_O) : ∀ n, HTx_splitLine yo0 n := by
  intro n
  induction n with
  | zero => exact (fun v1 v2 v3 o0 k_o0 r_o0 i_v1 i_v2 i_v3 f_o0_4 f_o0_6 x_0 x_1 x_2 hm => by exact absurd (show 0 + (1600 - v3.toInt) * 2 < (0 : Int) from hm) (by omega))
  | succ n ih => exact (fun v1 v2 v3 o0 k_o0 r_o0 i_v1 i_v2 i_v3 f_o0_4 f_o0_6 x_0 x_1 x_2 hm => tTx_splitLine_14 ih v1 v2 v3 o0 k_o0 r_o0 i_v1 i_v2 i_v3 f_o0_4 f_o0_6 x_0 x_1 x_2 (by omega))
set_option maxHeartbeats 4000000 in
set_option maxRecDepth 100000 in
theorem sTx_splitLine (o0 : cf_O) (k_o0 : okO I_Tx o0) (f_o0_4 : (0 : Int) ≤ (o0.1 4).toInt ∧ (o0.1 4).toInt ≤ 1602) (f_o0_6 : (0 : Int) ≤ (o0.1 6).toInt ∧ (o0.1 6).toInt ≤ 1600) : tt (fTx_splitLine o0) (QTx_splitLine o0) := by
  have H := hTx_splitLine o0 cfFU
  have hm : (3203 : Int) ≤ (cfFU : Nat) := by decide
  have r_o0 : Fr (fr_M [5, 6] [1, 2] []) o0 o0 := fr_rfl
  unfold fTx_splitLine fTx_splitLine_0
  have g_o0_5 : (0 : Int) ≤ (o0.1 5).toInt ∧ (o0.1 5).toInt ≤ 10 := k_o0.1 5
  refine tt_ko ?_
  have k1 := ok_fp (k := 5) (v := 0) k_o0 (iv_w (a := 0) (b := 10) (by decide) (by decide) (show (0 : Int) ≤ (0 : Int32).toInt ∧ (0 : Int32).toInt ≤ 0 by decide))
  have r2 := fr_fp (k := 5) (v := 0) r_o0 rfl
  exact H _ _ _ _ k1 r2 (iv_w (a := 0) (b := 1) (by decide) (by decide) (show (1 : Int) ≤ (1 : Int32).toInt ∧ (1 : Int32).toInt ≤ 1 by decide)) (iv_w (a := 0) (b := 1) (by decide) (by decide) (show (0 : Int) ≤ (0 : Int32).toInt ∧ (0 : Int32).toInt ≤ 0 by decide)) f_o0_6 f_o0_4 f_o0_6 (show 0 = 0 ∨ 1 ≤ 0 by omega) (show (o0.1 6).toInt ≤ (o0.1 6).toInt by omega) (show (o0.1 6).toInt = (o0.1 6).toInt by omega) (show 0 + (1600 - (o0.1 6).toInt) * 2 < ((cfFU : Nat) : Int) by omega)
def QTx_toNextLine (o0 : cf_O) (r : (Int32 × cf_O)) : Prop := ((0 : Int) ≤ r.1.toInt ∧ r.1.toInt ≤ 1) ∧ (okO I_Tx r.2) ∧ (Fr (fr_M [4, 5, 6] [1, 2] []) o0 r.2) ∧ ((0 : Int) ≤ (r.2.1 4).toInt ∧ (r.2.1 4).toInt ≤ 1602) ∧ (r.1.toInt = 0 ∨ ((r.2.1 4).toInt + 1 ≤ (r.2.1 6).toInt ∧ 0 ≤ (r.2.1 4).toInt)) ∧ True
def HTx_toNextLine (yo0 : cf_O) (n : Nat) : Prop := (∀ (v1 : Int32) (o0 : cf_O), (okO I_Tx o0) → (Fr (fr_M [4, 5, 6] [1, 2] []) yo0 o0) → ((0 : Int) ≤ v1.toInt ∧ v1.toInt ≤ 1601) → ((o0.1 4).toInt + 1 ≤ (o0.1 6).toInt) → (-1 ≤ (o0.1 4).toInt) → 0 + (1601 - v1.toInt) * 2 < (n : Int) → tt (gTx_toNextLine n 0 v1 o0) (QTx_toNextLine yo0))
set_option maxHeartbeats 4000000 in
set_option maxRecDepth 100000 in
theorem tTx_toNextLine_2 {yo0 : cf_O} {n : Nat} (H : HTx_toNextLine yo0 n) (v1 : Int32) (o0 : cf_O) (k_o0 : okO I_Tx o0) (r_o0 : Fr (fr_M [4, 5, 6] [1, 2] []) yo0 o0) (i_v1 : (0 : Int) ≤ v1.toInt ∧ v1.toInt ≤ 1601) (x_0 : (o0.1 4).toInt + 1 ≤ (o0.1 6).toInt) (x_1 : -1 ≤ (o0.1 4).toInt) (hm : 0 + (1601 - v1.toInt) * 2 ≤ (n : Int)) : tt (fTx_toNextLine_2 (gTx_toNextLine n) v1 o0) (QTx_toNextLine yo0) := by
  unfold fTx_toNextLine_2
  have g_o0_3 : (0 : Int) ≤ (o0.1 3).toInt ∧ (o0.1 3).toInt ≤ 1600 := k_o0.1 3
  have ey_o0_3 : (o0.1 3).toInt = (yo0.1 3).toInt := congrArg Int32.toInt (r_o0.1 3 rfl)
  have g_o0_4 : ((-1) : Int) ≤ (o0.1 4).toInt ∧ (o0.1 4).toInt ≤ 1602 := k_o0.1 4
  have g_o0_6 : (0 : Int) ≤ (o0.1 6).toInt ∧ (o0.1 6).toInt ≤ 1601 := k_o0.1 6
  refine tt_if (fun c1 => ?_) (fun c1 => ?_)
  · have wc1 : (1600 : Int) < v1.toInt := c_lt c1
    have i2 : (1601 : Int) ≤ v1.toInt ∧ v1.toInt ≤ 1601 := nr_ltr c1 (show (1600 : Int) ≤ (1600 : Int32).toInt ∧ (1600 : Int32).toInt ≤ 1600 by decide) i_v1 (by decide) (by decide)
    try unfold fTx_toNextLine_49
    refine tt_kv (P := fun z => ((0 : Int) ≤ z.toInt ∧ z.toInt ≤ 1603) ∧ z.toInt = (o0.1 4).toInt + 1) ⟨iv_add (k_o0.1 4) (show (1 : Int) ≤ (1 : Int32).toInt ∧ (1 : Int32).toInt ≤ 1 by decide) (by decide) (by decide) (by decide) (by decide), iq_add (k_o0.1 4) (show (1 : Int) ≤ (1 : Int32).toInt ∧ (1 : Int32).toInt ≤ 1 by decide) (by decide) (by decide)⟩ (fun x3 qi4 => ?_)
    obtain ⟨i4, ei4⟩ := qi4
    refine tt_ko ?_
    have k5 := ok_fp (k := 4) (v := x3) k_o0 (show ((-1) : Int) ≤ _ ∧ _ ≤ (1602 : Int) by omega)
    have i6 : (0 : Int) ≤ x3.toInt ∧ x3.toInt ≤ 1602 := (by omega)
    have i7 : ((-1) : Int) ≤ (o0.1 4).toInt ∧ (o0.1 4).toInt ≤ 1601 := by omega
    have r8 := fr_fp (k := 4) (v := x3) r_o0 rfl
    exact tt_some ⟨(iv_w (a := 0) (b := 1) (by decide) (by decide) (show (0 : Int) ≤ (0 : Int32).toInt ∧ (0 : Int32).toInt ≤ 0 by decide)), k5, r8, i6, (show 0 = 0 ∨ (x3.toInt + 1 ≤ (o0.1 6).toInt ∧ 0 ≤ x3.toInt) by omega), trivial⟩
  · have wc1 : v1.toInt ≤ (1600 : Int) := c_nlt c1
    have i9 : (0 : Int) ≤ v1.toInt ∧ v1.toInt ≤ 1600 := nr_nltl c1 i_v1 (show (1600 : Int) ≤ (1600 : Int32).toInt ∧ (1600 : Int32).toInt ≤ 1600 by decide) (by decide) (by decide)
    refine tt_if (fun c10 => ?_) (fun c10 => ?_)
    · have wc10 : (o0.1 3).toInt < (o0.1 6).toInt := c_lt c10
      have i11 : (1 : Int) ≤ (o0.1 6).toInt ∧ (o0.1 6).toInt ≤ 1601 := nr_ltr c10 (k_o0.1 3) (k_o0.1 6) (by decide) (by decide)
      try unfold fTx_toNextLine_49
      refine tt_kv (P := fun z => ((0 : Int) ≤ z.toInt ∧ z.toInt ≤ 1603) ∧ z.toInt = (o0.1 4).toInt + 1) ⟨iv_add (k_o0.1 4) (show (1 : Int) ≤ (1 : Int32).toInt ∧ (1 : Int32).toInt ≤ 1 by decide) (by decide) (by decide) (by decide) (by decide), iq_add (k_o0.1 4) (show (1 : Int) ≤ (1 : Int32).toInt ∧ (1 : Int32).toInt ≤ 1 by decide) (by decide) (by decide)⟩ (fun x12 qi13 => ?_)
      obtain ⟨i13, ei13⟩ := qi13
      refine tt_ko ?_
      have k14 := ok_fp (k := 4) (v := x12) k_o0 (show ((-1) : Int) ≤ _ ∧ _ ≤ (1602 : Int) by omega)
      have i15 : (0 : Int) ≤ x12.toInt ∧ x12.toInt ≤ 1602 := (by omega)
      have i16 : ((-1) : Int) ≤ (o0.1 4).toInt ∧ (o0.1 4).toInt ≤ 1601 := by omega
      have r17 := fr_fp (k := 4) (v := x12) r_o0 rfl
      exact tt_some ⟨(iv_w (a := 0) (b := 1) (by decide) (by decide) (show (0 : Int) ≤ (0 : Int32).toInt ∧ (0 : Int32).toInt ≤ 0 by decide)), k14, r17, i15, (show 0 = 0 ∨ (x12.toInt + 1 ≤ (o0.1 6).toInt ∧ 0 ≤ x12.toInt) by omega), trivial⟩
    · have wc10 : (o0.1 6).toInt ≤ (o0.1 3).toInt := c_nlt c10
      have i18 : (0 : Int) ≤ (o0.1 6).toInt ∧ (o0.1 6).toInt ≤ 1600 := nr_nltl c10 (k_o0.1 6) (k_o0.1 3) (by decide) (by decide)
      refine tt_kv (P := fun z => ((0 : Int) ≤ z.toInt ∧ z.toInt ≤ 1603) ∧ z.toInt = (o0.1 4).toInt + 1) ⟨iv_add (k_o0.1 4) (show (1 : Int) ≤ (1 : Int32).toInt ∧ (1 : Int32).toInt ≤ 1 by decide) (by decide) (by decide) (by decide) (by decide), iq_add (k_o0.1 4) (show (1 : Int) ≤ (1 : Int32).toInt ∧ (1 : Int32).toInt ≤ 1 by decide) (by decide) (by decide)⟩ (fun x19 qi20 => ?_)
      obtain ⟨i20, ei20⟩ := qi20
      refine tt_ko ?_
      have k21 := ok_fp (k := 4) (v := x19) k_o0 (show ((-1) : Int) ≤ _ ∧ _ ≤ (1602 : Int) by omega)
      have i22 : (0 : Int) ≤ x19.toInt ∧ x19.toInt ≤ 1602 := (by omega)
      have i23 : ((-1) : Int) ≤ (o0.1 4).toInt ∧ (o0.1 4).toInt ≤ 1601 := by omega
      have r24 := fr_fp (k := 4) (v := x19) r_o0 rfl
      refine tt_b (sTx_splitLine _ k21 i22 i18) (fun q25 hq25 => ?_)
      obtain ⟨k_q25, n_q25, f_q25_6, zq25_0, -⟩ := hq25
      have r_q25 := fr_tr r24 n_q25 rfl rfl rfl
      have f_q25_4 : (0 : Int) ≤ (q25.1 4).toInt ∧ (q25.1 4).toInt ≤ 1602 := by rw [n_q25.1 4 rfl]; exact i22
      have e_q25_3 : (q25.1 3).toInt = (o0.1 3).toInt := congrArg Int32.toInt (n_q25.1 3 rfl)
      have g_q25_3 : (0 : Int) ≤ (q25.1 3).toInt ∧ (q25.1 3).toInt ≤ 1600 := k_q25.1 3
      have e_q25_4 : (q25.1 4).toInt = x19.toInt := congrArg Int32.toInt (n_q25.1 4 rfl)
      have zq25_0 : (o0.1 6).toInt + 1 ≤ (q25.1 6).toInt := zq25_0
      refine tt_if (fun c26 => ?_) (fun c26 => ?_)
      · have wc26 : (q25.1 5).toInt ≤ (0 : Int) := c_le c26
        have i27 : (0 : Int) ≤ (q25.1 5).toInt ∧ (q25.1 5).toInt ≤ 0 := nr_lel c26 (k_q25.1 5) (show (0 : Int) ≤ (0 : Int32).toInt ∧ (0 : Int32).toInt ≤ 0 by decide) (by decide) (by decide)
        refine tt_kv (P := fun z => ((1 : Int) ≤ z.toInt ∧ z.toInt ≤ 1601) ∧ z.toInt = v1.toInt + 1) ⟨iv_add i9 (show (1 : Int) ≤ (1 : Int32).toInt ∧ (1 : Int32).toInt ≤ 1 by decide) (by decide) (by decide) (by decide) (by decide), iq_add i9 (show (1 : Int) ≤ (1 : Int32).toInt ∧ (1 : Int32).toInt ≤ 1 by decide) (by decide) (by decide)⟩ (fun x28 qi29 => ?_)
        obtain ⟨i29, ei29⟩ := qi29
        exact H _ _ k_q25 r_q25 (iv_w (a := 0) (b := 1601) (by decide) (by decide) i29) (show (q25.1 4).toInt + 1 ≤ (q25.1 6).toInt by omega) (show -1 ≤ (q25.1 4).toInt by omega) (show 0 + (1601 - x28.toInt) * 2 < (n : Int) by omega)
      · have wc26 : (0 : Int) < (q25.1 5).toInt := c_nle c26
        have i30 : (1 : Int) ≤ (q25.1 5).toInt ∧ (q25.1 5).toInt ≤ 10 := nr_nler c26 (show (0 : Int) ≤ (0 : Int32).toInt ∧ (0 : Int32).toInt ≤ 0 by decide) (k_q25.1 5) (by decide) (by decide)
        exact tt_some ⟨(iv_w (a := 0) (b := 1) (by decide) (by decide) (show (1 : Int) ≤ (1 : Int32).toInt ∧ (1 : Int32).toInt ≤ 1 by decide)), k_q25, r_q25, f_q25_4, (show 1 = 0 ∨ ((q25.1 4).toInt + 1 ≤ (q25.1 6).toInt ∧ 0 ≤ (q25.1 4).toInt) by omega), trivial⟩
set_option maxHeartbeats 4000000 in
set_option maxRecDepth 100000 in
theorem hTx_toNextLine (yo0 : cf_O) : ∀ n, HTx_toNextLine yo0 n := by
  intro n
  induction n with
  | zero => exact (fun v1 o0 k_o0 r_o0 i_v1 x_0 x_1 hm => by exact absurd (show 0 + (1601 - v1.toInt) * 2 < (0 : Int) from hm) (by omega))
  | succ n ih => exact (fun v1 o0 k_o0 r_o0 i_v1 x_0 x_1 hm => tTx_toNextLine_2 ih v1 o0 k_o0 r_o0 i_v1 x_0 x_1 (by omega))
set_option maxHeartbeats 4000000 in
set_option maxRecDepth 100000 in
theorem sTx_toNextLine (o0 : cf_O) (k_o0 : okO I_Tx o0) (x_0 : (o0.1 4).toInt + 1 ≤ (o0.1 6).toInt) (x_1 : -1 ≤ (o0.1 4).toInt) : tt (fTx_toNextLine o0) (QTx_toNextLine o0) := by
  have H := hTx_toNextLine o0 cfFU
  have hm : (3205 : Int) ≤ (cfFU : Nat) := by decide
  have r_o0 : Fr (fr_M [4, 5, 6] [1, 2] []) o0 o0 := fr_rfl
  unfold fTx_toNextLine fTx_toNextLine_0
  have g_o0_3 : (0 : Int) ≤ (o0.1 3).toInt ∧ (o0.1 3).toInt ≤ 1600 := k_o0.1 3
  have g_o0_4 : ((-1) : Int) ≤ (o0.1 4).toInt ∧ (o0.1 4).toInt ≤ 1602 := k_o0.1 4
  have g_o0_6 : (0 : Int) ≤ (o0.1 6).toInt ∧ (o0.1 6).toInt ≤ 1601 := k_o0.1 6
  exact H _ _ k_o0 r_o0 (iv_w (a := 0) (b := 1601) (by decide) (by decide) (show (0 : Int) ≤ (0 : Int32).toInt ∧ (0 : Int32).toInt ≤ 0 by decide)) (show (o0.1 4).toInt + 1 ≤ (o0.1 6).toInt by omega) (show -1 ≤ (o0.1 4).toInt by omega) (show 0 + (1601 - 0) * 2 < ((cfFU : Nat) : Int) by omega)
def QTx_length (v1 : Int32) (o0 : cf_O) (r : (Int32)) : Prop := (((-1599) : Int) ≤ r.toInt ∧ r.toInt ≤ 1600) ∧ (r.toInt = (o0.2.1 2 v1.toNatClampNeg).toInt - (o0.2.1 1 v1.toNatClampNeg).toInt) ∧ True
set_option maxHeartbeats 4000000 in
set_option maxRecDepth 100000 in
theorem sTx_length (v1 : Int32) (o0 : cf_O) (k_o0 : okO I_Tx o0) (i_v1 : (0 : Int) ≤ v1.toInt ∧ v1.toInt ≤ 8) (f_o0_4 : (0 : Int) ≤ (o0.1 4).toInt ∧ (o0.1 4).toInt ≤ 1602) : tt (fTx_length v1 o0) (QTx_length v1 o0) := by
  have r_o0 : Fr (fr_M [] [] []) o0 o0 := fr_rfl
  unfold fTx_length fTx_length_0
  refine tt_n (ix_ok i_v1 (by decide) (by decide)) ?_
  refine tt_kv (P := fun z => ((0 : Int) ≤ z.toInt ∧ z.toInt ≤ 1600) ∧ z.toInt = (o0.2.1 2 v1.toNatClampNeg).toInt) ⟨(k_o0.2 2 _), rfl⟩ (fun x1 qi2 => ?_)
  obtain ⟨i2, ei2⟩ := qi2
  refine tt_n (ix_ok i_v1 (by decide) (by decide)) ?_
  refine tt_kv (P := fun z => ((0 : Int) ≤ z.toInt ∧ z.toInt ≤ 1599) ∧ z.toInt = (o0.2.1 1 v1.toNatClampNeg).toInt) ⟨(k_o0.2 1 _), rfl⟩ (fun x3 qi4 => ?_)
  obtain ⟨i4, ei4⟩ := qi4
  refine tt_kv (P := fun z => (((-1599) : Int) ≤ z.toInt ∧ z.toInt ≤ 1600) ∧ z.toInt = x1.toInt - x3.toInt) ⟨iv_sub i2 i4 (by decide) (by decide) (by decide) (by decide), iq_sub i2 i4 (by decide) (by decide)⟩ (fun x5 qi6 => ?_)
  obtain ⟨i6, ei6⟩ := qi6
  exact tt_some ⟨i6, (show x5.toInt = (o0.2.1 2 v1.toNatClampNeg).toInt - (o0.2.1 1 v1.toNatClampNeg).toInt by omega), trivial⟩
def QJString_coder__S0  (r : (Int32)) : Prop := ((0 : Int) ≤ r.toInt ∧ r.toInt ≤ 0) ∧ True
set_option maxHeartbeats 4000000 in
set_option maxRecDepth 100000 in
theorem sJString_coder__S0   : tt (fJString_coder__S0 ) (QJString_coder__S0 ) := by
  unfold fJString_coder__S0 fJString_coder__S0_0
  try unfold fJString_coder__S0_14
  refine tt_w (iv_nb (show (0 : Int) ≤ (0 : Int32).toInt ∧ (0 : Int32).toInt ≤ 0 by decide) (by decide) (by decide)) ?_
  exact tt_some ⟨(show (0 : Int) ≤ (0 : Int32).toInt ∧ (0 : Int32).toInt ≤ 0 by decide), trivial⟩
def QJString_length__S0  (r : (Int32)) : Prop := ((4 : Int) ≤ r.toInt ∧ r.toInt ≤ 4) ∧ True
set_option maxHeartbeats 4000000 in
set_option maxRecDepth 100000 in
theorem sJString_length__S0   : tt (fJString_length__S0 ) (QJString_length__S0 ) := by
  unfold fJString_length__S0 fJString_length__S0_0
  refine tt_b (sJString_coder__S0  ) (fun q1 hq1 => ?_)
  obtain ⟨i_q1, -⟩ := hq1
  refine tt_kv (P := fun z => (4 : Int) ≤ z.toInt ∧ z.toInt ≤ 4) (iv_shr (p := 0) (q := 0) (show (4 : Int) ≤ (4 : Int32).toInt ∧ (4 : Int32).toInt ≤ 4 by decide) i_q1 (by decide) (by decide) (by decide) (by decide)) (fun x2 i3 => ?_)
  exact tt_some ⟨i3, trivial⟩
def QTx_signOf (v1 : Int32) (v2 : Int32) (o0 : cf_O) (r : (Int32)) : Prop := (((-128) : Int) ≤ r.toInt ∧ r.toInt ≤ 127) ∧ True
set_option maxHeartbeats 4000000 in
set_option maxRecDepth 100000 in
theorem sTx_signOf (v1 : Int32) (v2 : Int32) (o0 : cf_O) (k_o0 : okO I_Tx o0) (i_v1 : (0 : Int) ≤ v1.toInt ∧ v1.toInt ≤ 8) (i_v2 : (0 : Int) ≤ v2.toInt ∧ v2.toInt ≤ 1599) (f_o0_4 : (0 : Int) ≤ (o0.1 4).toInt ∧ (o0.1 4).toInt ≤ 1602) (x_0 : 0 ≤ v2.toInt) (x_1 : v2.toInt < (o0.2.1 2 v1.toNatClampNeg).toInt - (o0.2.1 1 v1.toNatClampNeg).toInt) : tt (fTx_signOf v1 v2 o0) (QTx_signOf v1 v2 o0) := by
  have r_o0 : Fr (fr_M [] [] []) o0 o0 := fr_rfl
  unfold fTx_signOf fTx_signOf_0
  have t1 := (show (0 : Int) ≤ (o0.2.1 2 v1.toNatClampNeg).toInt ∧ (o0.2.1 2 v1.toNatClampNeg).toInt ≤ 1600 from k_o0.2 2 _)
  refine tt_n (ix_ok i_v1 (by decide) (by decide)) ?_
  refine tt_kv (P := fun z => ((0 : Int) ≤ z.toInt ∧ z.toInt ≤ 1599) ∧ z.toInt = (o0.2.1 1 v1.toNatClampNeg).toInt) ⟨(k_o0.2 1 _), rfl⟩ (fun x2 qi3 => ?_)
  obtain ⟨i3, ei3⟩ := qi3
  refine tt_kv (P := fun z => ((0 : Int) ≤ z.toInt ∧ z.toInt ≤ 3198) ∧ z.toInt = x2.toInt + v2.toInt) ⟨iv_add i3 i_v2 (by decide) (by decide) (by decide) (by decide), iq_add i3 i_v2 (by decide) (by decide)⟩ (fun x4 qi5 => ?_)
  obtain ⟨i5, ei5⟩ := qi5
  refine tt_n (ix_rel (by omega) (by omega)) ?_
  have i6 : (0 : Int) ≤ x4.toInt ∧ x4.toInt ≤ 1599 := (by omega)
  refine tt_kv (P := fun z => (((-128) : Int) ≤ z.toInt ∧ z.toInt ≤ 127) ∧ z.toInt = (o0.2.1 0 x4.toNatClampNeg).toInt) ⟨(k_o0.2 0 _), rfl⟩ (fun x7 qi8 => ?_)
  obtain ⟨i8, ei8⟩ := qi8
  exact tt_some ⟨i8, trivial⟩
def QJString_isLatin1__S0  (r : (Int32)) : Prop := ((1 : Int) ≤ r.toInt ∧ r.toInt ≤ 1) ∧ True
set_option maxHeartbeats 4000000 in
set_option maxRecDepth 100000 in
theorem sJString_isLatin1__S0   : tt (fJString_isLatin1__S0 ) (QJString_isLatin1__S0 ) := by
  unfold fJString_isLatin1__S0 fJString_isLatin1__S0_0
  try unfold fJString_isLatin1__S0_18
  refine tt_w (iv_b (show (1 : Int) ≤ (1 : Int32).toInt ∧ (1 : Int32).toInt ≤ 1 by decide) (by decide) (by decide)) ?_
  exact tt_some ⟨(show (1 : Int) ≤ (1 : Int32).toInt ∧ (1 : Int32).toInt ≤ 1 by decide), trivial⟩
def QJPreconditions_checkIndex_IILjavautilfunctionBiFunction_N0 (v0 : Int32) (v1 : Int32) (r : (Int32)) : Prop := ((0 : Int) ≤ r.toInt ∧ r.toInt ≤ 89999) ∧ True
set_option maxHeartbeats 4000000 in
set_option maxRecDepth 100000 in
theorem sJPreconditions_checkIndex_IILjavautilfunctionBiFunction_N0 (v0 : Int32) (v1 : Int32) (i_v0 : (0 : Int) ≤ v0.toInt ∧ v0.toInt ≤ 89999) (i_v1 : (0 : Int) ≤ v1.toInt ∧ v1.toInt ≤ 90000) (x_0 : 0 ≤ v0.toInt) (x_1 : v0.toInt < v1.toInt) : tt (fJPreconditions_checkIndex_IILjavautilfunctionBiFunction_N0 v0 v1) (QJPreconditions_checkIndex_IILjavautilfunctionBiFunction_N0 v0 v1) := by
  unfold fJPreconditions_checkIndex_IILjavautilfunctionBiFunction_N0 fJPreconditions_checkIndex_IILjavautilfunctionBiFunction_N0_0
  refine tt_if (fun c1 => ?_) (fun c1 => ?_)
  · have wc1 : v0.toInt < (0 : Int) := c_lt c1
    exact (dd_lt c1 i_v0 (show (0 : Int) ≤ (0 : Int32).toInt ∧ (0 : Int32).toInt ≤ 0 by decide) (by decide)).elim
  · have wc1 : (0 : Int) ≤ v0.toInt := c_nlt c1
    refine tt_if (fun c2 => ?_) (fun c2 => ?_)
    · have wc2 : v0.toInt < v1.toInt := c_lt c2
      have i3 : (1 : Int) ≤ v1.toInt ∧ v1.toInt ≤ 90000 := nr_ltr c2 i_v0 i_v1 (by decide) (by decide)
      exact tt_some ⟨i_v0, trivial⟩
    · have wc2 : v1.toInt ≤ v0.toInt := c_nlt c2
      have i4 : (0 : Int) ≤ v1.toInt ∧ v1.toInt ≤ 89999 := nr_nltl c2 i_v1 i_v0 (by decide) (by decide)
      try unfold fJPreconditions_checkIndex_IILjavautilfunctionBiFunction_N0_9
      exfalso; omega
def QJPreconditions_checkIndex_IILjavautilfunctionBiFunction_T0 (v0 : Int32) (v1 : Int32) (r : (Int32)) : Prop := ((0 : Int) ≤ r.toInt ∧ r.toInt ≤ 2147483646) ∧ True
set_option maxHeartbeats 4000000 in
set_option maxRecDepth 100000 in
theorem sJPreconditions_checkIndex_IILjavautilfunctionBiFunction_T0 (v0 : Int32) (v1 : Int32) (x_0 : 0 ≤ v0.toInt) (x_1 : v0.toInt < v1.toInt) : tt (fJPreconditions_checkIndex_IILjavautilfunctionBiFunction_T0 v0 v1) (QJPreconditions_checkIndex_IILjavautilfunctionBiFunction_T0 v0 v1) := by
  unfold fJPreconditions_checkIndex_IILjavautilfunctionBiFunction_T0 fJPreconditions_checkIndex_IILjavautilfunctionBiFunction_T0_0
  have i_v0 := iv_top v0
  have i_v1 := iv_top v1
  refine tt_if (fun c1 => ?_) (fun c1 => ?_)
  · have wc1 : v0.toInt < (0 : Int) := c_lt c1
    have i2 : ((-2147483648) : Int) ≤ v0.toInt ∧ v0.toInt ≤ (-1) := nr_ltl c1 (iv_top v0) (show (0 : Int) ≤ (0 : Int32).toInt ∧ (0 : Int32).toInt ≤ 0 by decide) (by decide) (by decide)
    try unfold fJPreconditions_checkIndex_IILjavautilfunctionBiFunction_T0_9
    exfalso; omega
  · have wc1 : (0 : Int) ≤ v0.toInt := c_nlt c1
    have i3 : (0 : Int) ≤ v0.toInt ∧ v0.toInt ≤ 2147483647 := nr_nltr c1 (show (0 : Int) ≤ (0 : Int32).toInt ∧ (0 : Int32).toInt ≤ 0 by decide) (iv_top v0) (by decide) (by decide)
    refine tt_if (fun c4 => ?_) (fun c4 => ?_)
    · have wc4 : v0.toInt < v1.toInt := c_lt c4
      have i5 : (0 : Int) ≤ v0.toInt ∧ v0.toInt ≤ 2147483646 := nr_ltl c4 i3 (iv_top v1) (by decide) (by decide)
      have i6 : (1 : Int) ≤ v1.toInt ∧ v1.toInt ≤ 2147483647 := nr_ltr c4 i3 (iv_top v1) (by decide) (by decide)
      exact tt_some ⟨i5, trivial⟩
    · have wc4 : v1.toInt ≤ v0.toInt := c_nlt c4
      try unfold fJPreconditions_checkIndex_IILjavautilfunctionBiFunction_T0_9
      exfalso; omega
def QJString_checkIndex_II (v0 : Int32) (v1 : Int32) (r : (Unit)) : Prop := True
set_option maxHeartbeats 4000000 in
set_option maxRecDepth 100000 in
theorem sJString_checkIndex_II (v0 : Int32) (v1 : Int32) (i_v0 : (0 : Int) ≤ v0.toInt ∧ v0.toInt ≤ 89999) (i_v1 : (0 : Int) ≤ v1.toInt ∧ v1.toInt ≤ 90000) (x_0 : 0 ≤ v0.toInt) (x_1 : v0.toInt < v1.toInt) : tt (fJString_checkIndex_II v0 v1) (QJString_checkIndex_II v0 v1) := by
  unfold fJString_checkIndex_II fJString_checkIndex_II_0
  refine tt_b (sJPreconditions_checkIndex_IILjavautilfunctionBiFunction_N0 _ _ i_v0 i_v1 (show 0 ≤ v0.toInt by omega) (show v0.toInt < v1.toInt by omega)) (fun q1 hq1 => ?_)
  obtain ⟨i_q1, -⟩ := hq1
  exact tt_some trivial
def QJStringLatin1_charAt_ABI_B0 (v1 : Int32) (r : (Int32)) : Prop := ((0 : Int) ≤ r.toInt ∧ r.toInt ≤ 255) ∧ True
set_option maxHeartbeats 4000000 in
set_option maxRecDepth 100000 in
theorem sJStringLatin1_charAt_ABI_B0 (v1 : Int32) (i_v1 : (0 : Int) ≤ v1.toInt ∧ v1.toInt ≤ 3) : tt (fJStringLatin1_charAt_ABI_B0 v1) (QJStringLatin1_charAt_ABI_B0 v1) := by
  unfold fJStringLatin1_charAt_ABI_B0 fJStringLatin1_charAt_ABI_B0_0
  refine tt_b (sJString_checkIndex_II _ _ (iv_w (a := 0) (b := 89999) (by decide) (by decide) i_v1) (iv_w (a := 0) (b := 90000) (by decide) (by decide) (show (4 : Int) ≤ (4 : Int32).toInt ∧ (4 : Int32).toInt ≤ 4 by decide)) (show 0 ≤ v1.toInt by omega) (show v1.toInt < 4 by omega)) (fun q1 hq1 => ?_)
  refine tt_n (ix_ok i_v1 (by decide) (by decide)) ?_
  refine tt_kv (P := fun z => (0 : Int) ≤ z.toInt ∧ z.toInt ≤ 127) (iv_sb _ _) (fun x2 i3 => ?_)
  refine tt_kv (P := fun z => (0 : Int) ≤ z.toInt ∧ z.toInt ≤ 255) (iv_and (show (255 : Int) ≤ (255 : Int32).toInt ∧ (255 : Int32).toInt ≤ 255 by decide) (by decide) (by decide) (by decide)) (fun x4 i5 => ?_)
  refine tt_kv (P := fun z => (0 : Int) ≤ z.toInt ∧ z.toInt ≤ 255) (iv_c16i i5 (by decide) (by decide)) (fun x6 i7 => ?_)
  refine tt_w (iv_nc i7 (by decide) (by decide)) ?_
  exact tt_some ⟨i7, trivial⟩
def QJString_charAt_I_S0 (v1 : Int32) (r : (Int32)) : Prop := ((0 : Int) ≤ r.toInt ∧ r.toInt ≤ 255) ∧ True
set_option maxHeartbeats 4000000 in
set_option maxRecDepth 100000 in
theorem sJString_charAt_I_S0 (v1 : Int32) (i_v1 : (0 : Int) ≤ v1.toInt ∧ v1.toInt ≤ 3) (x_0 : 0 ≤ v1.toInt) (x_1 : v1.toInt < 4) : tt (fJString_charAt_I_S0 v1) (QJString_charAt_I_S0 v1) := by
  unfold fJString_charAt_I_S0 fJString_charAt_I_S0_0
  refine tt_b (sJString_isLatin1__S0  ) (fun q1 hq1 => ?_)
  obtain ⟨i_q1, -⟩ := hq1
  refine tt_n (iv_nz0 i_q1 (by decide)) ?_
  refine tt_b (sJStringLatin1_charAt_ABI_B0 _ i_v1) (fun q2 hq2 => ?_)
  obtain ⟨i_q2, -⟩ := hq2
  refine tt_w (iv_nc i_q2 (by decide) (by decide)) ?_
  exact tt_some ⟨i_q2, trivial⟩
def QTx_isWord_S0 (v1 : Int32) (o0 : cf_O) (r : (Int32)) : Prop := ((0 : Int) ≤ r.toInt ∧ r.toInt ≤ 1) ∧ True
def HTx_isWord_S0 (yv1 : Int32) (yo0 : cf_O) (n : Nat) : Prop := (∀ (v1 : Int32) (v3 : Int32) (o0 : cf_O), (okO I_Tx o0) → (Fr (fr_M [] [] []) yo0 o0) → ((0 : Int) ≤ v1.toInt ∧ v1.toInt ≤ 0) → ((0 : Int) ≤ v3.toInt ∧ v3.toInt ≤ 4) → ((0 : Int) ≤ (o0.1 4).toInt ∧ (o0.1 4).toInt ≤ 1602) → ((o0.2.1 2 v1.toNatClampNeg).toInt - (o0.2.1 1 v1.toNatClampNeg).toInt = 4) → 0 + (4 - v3.toInt) * 2 < (n : Int) → tt (gTx_isWord_S0 n 0 v1 v3 o0) (QTx_isWord_S0 yv1 yo0))
set_option maxHeartbeats 4000000 in
set_option maxRecDepth 100000 in
theorem tTx_isWord_S0_16 {yv1 : Int32} {yo0 : cf_O} {n : Nat} (H : HTx_isWord_S0 yv1 yo0 n) (v1 : Int32) (v3 : Int32) (o0 : cf_O) (k_o0 : okO I_Tx o0) (r_o0 : Fr (fr_M [] [] []) yo0 o0) (i_v1 : (0 : Int) ≤ v1.toInt ∧ v1.toInt ≤ 0) (i_v3 : (0 : Int) ≤ v3.toInt ∧ v3.toInt ≤ 4) (f_o0_4 : (0 : Int) ≤ (o0.1 4).toInt ∧ (o0.1 4).toInt ≤ 1602) (x_0 : (o0.2.1 2 v1.toNatClampNeg).toInt - (o0.2.1 1 v1.toNatClampNeg).toInt = 4) (hm : 0 + (4 - v3.toInt) * 2 ≤ (n : Int)) : tt (fTx_isWord_S0_16 (gTx_isWord_S0 n) v1 v3 o0) (QTx_isWord_S0 yv1 yo0) := by
  unfold fTx_isWord_S0_16
  refine tt_b (sJString_length__S0  ) (fun q1 hq1 => ?_)
  obtain ⟨i_q1, -⟩ := hq1
  refine tt_if (fun c2 => ?_) (fun c2 => ?_)
  · have wc2 : q1.toInt ≤ v3.toInt := c_le c2
    have i3 : (4 : Int) ≤ v3.toInt ∧ v3.toInt ≤ 4 := nr_ler c2 i_q1 i_v3 (by decide) (by decide)
    exact tt_some ⟨(iv_w (a := 0) (b := 1) (by decide) (by decide) (show (1 : Int) ≤ (1 : Int32).toInt ∧ (1 : Int32).toInt ≤ 1 by decide)), trivial⟩
  · have wc2 : v3.toInt < q1.toInt := c_nle c2
    have i4 : (0 : Int) ≤ v3.toInt ∧ v3.toInt ≤ 3 := nr_nlel c2 i_v3 i_q1 (by decide) (by decide)
    have t5 : (0 : Int) ≤ (o0.2.1 2 v1.toNatClampNeg).toInt ∧ (o0.2.1 2 v1.toNatClampNeg).toInt ≤ 1600 := k_o0.2 2 _
    have t6 : (0 : Int) ≤ (o0.2.1 1 v1.toNatClampNeg).toInt ∧ (o0.2.1 1 v1.toNatClampNeg).toInt ≤ 1599 := k_o0.2 1 _
    refine tt_b (sTx_signOf _ _ _ k_o0 (iv_w (a := 0) (b := 8) (by decide) (by decide) i_v1) (iv_w (a := 0) (b := 1599) (by decide) (by decide) i4) f_o0_4 (show 0 ≤ v3.toInt by omega) (show v3.toInt < (o0.2.1 2 v1.toNatClampNeg).toInt - (o0.2.1 1 v1.toNatClampNeg).toInt by omega)) (fun q7 hq7 => ?_)
    obtain ⟨i_q7, -⟩ := hq7
    refine tt_b (sJString_charAt_I_S0 _ i4 (show 0 ≤ v3.toInt by omega) (show v3.toInt < 4 by omega)) (fun q8 hq8 => ?_)
    obtain ⟨i_q8, -⟩ := hq8
    refine tt_if (fun c9 => ?_) (fun c9 => ?_)
    · have wc9 : q7.toInt = q8.toInt := c_eq c9
      have i10 : (0 : Int) ≤ q7.toInt ∧ q7.toInt ≤ 127 := nr_eql c9 i_q7 i_q8 (by decide) (by decide)
      have i11 : (0 : Int) ≤ q8.toInt ∧ q8.toInt ≤ 127 := nr_eqr c9 i_q7 i_q8 (by decide) (by decide)
      refine tt_kv (P := fun z => ((1 : Int) ≤ z.toInt ∧ z.toInt ≤ 4) ∧ z.toInt = v3.toInt + 1) ⟨iv_add i4 (show (1 : Int) ≤ (1 : Int32).toInt ∧ (1 : Int32).toInt ≤ 1 by decide) (by decide) (by decide) (by decide) (by decide), iq_add i4 (show (1 : Int) ≤ (1 : Int32).toInt ∧ (1 : Int32).toInt ≤ 1 by decide) (by decide) (by decide)⟩ (fun x12 qi13 => ?_)
      obtain ⟨i13, ei13⟩ := qi13
      have t14 : (0 : Int) ≤ (o0.2.1 2 v1.toNatClampNeg).toInt ∧ (o0.2.1 2 v1.toNatClampNeg).toInt ≤ 1600 := k_o0.2 2 _
      have t15 : (0 : Int) ≤ (o0.2.1 1 v1.toNatClampNeg).toInt ∧ (o0.2.1 1 v1.toNatClampNeg).toInt ≤ 1599 := k_o0.2 1 _
      exact H _ _ _ k_o0 r_o0 i_v1 (iv_w (a := 0) (b := 4) (by decide) (by decide) i13) f_o0_4 (show (o0.2.1 2 v1.toNatClampNeg).toInt - (o0.2.1 1 v1.toNatClampNeg).toInt = 4 by omega) (show 0 + (4 - x12.toInt) * 2 < (n : Int) by omega)
    · have wc9 : ¬ q7.toInt = q8.toInt := c_ne c9
      exact tt_some ⟨(iv_w (a := 0) (b := 1) (by decide) (by decide) (show (0 : Int) ≤ (0 : Int32).toInt ∧ (0 : Int32).toInt ≤ 0 by decide)), trivial⟩
set_option maxHeartbeats 4000000 in
set_option maxRecDepth 100000 in
theorem hTx_isWord_S0 (yv1 : Int32) (yo0 : cf_O) : ∀ n, HTx_isWord_S0 yv1 yo0 n := by
  intro n
  induction n with
  | zero => exact (fun v1 v3 o0 k_o0 r_o0 i_v1 i_v3 f_o0_4 x_0 hm => by exact absurd (show 0 + (4 - v3.toInt) * 2 < (0 : Int) from hm) (by omega))
  | succ n ih => exact (fun v1 v3 o0 k_o0 r_o0 i_v1 i_v3 f_o0_4 x_0 hm => tTx_isWord_S0_16 ih v1 v3 o0 k_o0 r_o0 i_v1 i_v3 f_o0_4 x_0 (by omega))
set_option maxHeartbeats 4000000 in
set_option maxRecDepth 100000 in
theorem sTx_isWord_S0 (v1 : Int32) (o0 : cf_O) (k_o0 : okO I_Tx o0) (i_v1 : (0 : Int) ≤ v1.toInt ∧ v1.toInt ≤ 0) (f_o0_4 : (0 : Int) ≤ (o0.1 4).toInt ∧ (o0.1 4).toInt ≤ 1602) : tt (fTx_isWord_S0 v1 o0) (QTx_isWord_S0 v1 o0) := by
  have H := hTx_isWord_S0 v1 o0 cfFU
  have hm : (11 : Int) ≤ (cfFU : Nat) := by decide
  have r_o0 : Fr (fr_M [] [] []) o0 o0 := fr_rfl
  unfold fTx_isWord_S0 fTx_isWord_S0_0
  refine tt_b (sTx_length _ _ k_o0 (iv_w (a := 0) (b := 8) (by decide) (by decide) i_v1) f_o0_4) (fun q1 hq1 => ?_)
  obtain ⟨i_q1, zq1_0, -⟩ := hq1
  have zq1_0 : q1.toInt = (o0.2.1 2 v1.toNatClampNeg).toInt - (o0.2.1 1 v1.toNatClampNeg).toInt := zq1_0
  refine tt_b (sJString_length__S0  ) (fun q2 hq2 => ?_)
  obtain ⟨i_q2, -⟩ := hq2
  refine tt_if (fun c3 => ?_) (fun c3 => ?_)
  · have wc3 : q1.toInt = q2.toInt := c_eq c3
    have i4 : (4 : Int) ≤ q1.toInt ∧ q1.toInt ≤ 4 := nr_eql c3 i_q1 i_q2 (by decide) (by decide)
    have t5 : (0 : Int) ≤ (o0.2.1 2 v1.toNatClampNeg).toInt ∧ (o0.2.1 2 v1.toNatClampNeg).toInt ≤ 1600 := k_o0.2 2 _
    have t6 : (0 : Int) ≤ (o0.2.1 1 v1.toNatClampNeg).toInt ∧ (o0.2.1 1 v1.toNatClampNeg).toInt ≤ 1599 := k_o0.2 1 _
    exact H _ _ _ k_o0 r_o0 i_v1 (iv_w (a := 0) (b := 4) (by decide) (by decide) (show (0 : Int) ≤ (0 : Int32).toInt ∧ (0 : Int32).toInt ≤ 0 by decide)) f_o0_4 (show (o0.2.1 2 v1.toNatClampNeg).toInt - (o0.2.1 1 v1.toNatClampNeg).toInt = 4 by omega) (show 0 + (4 - 0) * 2 < ((cfFU : Nat) : Int) by omega)
  · have wc3 : ¬ q1.toInt = q2.toInt := c_ne c3
    exact tt_some ⟨(iv_w (a := 0) (b := 1) (by decide) (by decide) (show (0 : Int) ≤ (0 : Int32).toInt ∧ (0 : Int32).toInt ≤ 0 by decide)), trivial⟩
def QJString_coder__S1  (r : (Int32)) : Prop := ((0 : Int) ≤ r.toInt ∧ r.toInt ≤ 0) ∧ True
set_option maxHeartbeats 4000000 in
set_option maxRecDepth 100000 in
theorem sJString_coder__S1   : tt (fJString_coder__S1 ) (QJString_coder__S1 ) := by
  unfold fJString_coder__S1 fJString_coder__S1_0
  try unfold fJString_coder__S1_14
  refine tt_w (iv_nb (show (0 : Int) ≤ (0 : Int32).toInt ∧ (0 : Int32).toInt ≤ 0 by decide) (by decide) (by decide)) ?_
  exact tt_some ⟨(show (0 : Int) ≤ (0 : Int32).toInt ∧ (0 : Int32).toInt ≤ 0 by decide), trivial⟩
def QJString_length__S1  (r : (Int32)) : Prop := ((4 : Int) ≤ r.toInt ∧ r.toInt ≤ 4) ∧ True
set_option maxHeartbeats 4000000 in
set_option maxRecDepth 100000 in
theorem sJString_length__S1   : tt (fJString_length__S1 ) (QJString_length__S1 ) := by
  unfold fJString_length__S1 fJString_length__S1_0
  refine tt_b (sJString_coder__S1  ) (fun q1 hq1 => ?_)
  obtain ⟨i_q1, -⟩ := hq1
  refine tt_kv (P := fun z => (4 : Int) ≤ z.toInt ∧ z.toInt ≤ 4) (iv_shr (p := 0) (q := 0) (show (4 : Int) ≤ (4 : Int32).toInt ∧ (4 : Int32).toInt ≤ 4 by decide) i_q1 (by decide) (by decide) (by decide) (by decide)) (fun x2 i3 => ?_)
  exact tt_some ⟨i3, trivial⟩
def QJString_isLatin1__S1  (r : (Int32)) : Prop := ((1 : Int) ≤ r.toInt ∧ r.toInt ≤ 1) ∧ True
set_option maxHeartbeats 4000000 in
set_option maxRecDepth 100000 in
theorem sJString_isLatin1__S1   : tt (fJString_isLatin1__S1 ) (QJString_isLatin1__S1 ) := by
  unfold fJString_isLatin1__S1 fJString_isLatin1__S1_0
  try unfold fJString_isLatin1__S1_18
  refine tt_w (iv_b (show (1 : Int) ≤ (1 : Int32).toInt ∧ (1 : Int32).toInt ≤ 1 by decide) (by decide) (by decide)) ?_
  exact tt_some ⟨(show (1 : Int) ≤ (1 : Int32).toInt ∧ (1 : Int32).toInt ≤ 1 by decide), trivial⟩
def QJStringLatin1_charAt_ABI_B1 (v1 : Int32) (r : (Int32)) : Prop := ((0 : Int) ≤ r.toInt ∧ r.toInt ≤ 255) ∧ True
set_option maxHeartbeats 4000000 in
set_option maxRecDepth 100000 in
theorem sJStringLatin1_charAt_ABI_B1 (v1 : Int32) (i_v1 : (0 : Int) ≤ v1.toInt ∧ v1.toInt ≤ 3) : tt (fJStringLatin1_charAt_ABI_B1 v1) (QJStringLatin1_charAt_ABI_B1 v1) := by
  unfold fJStringLatin1_charAt_ABI_B1 fJStringLatin1_charAt_ABI_B1_0
  refine tt_b (sJString_checkIndex_II _ _ (iv_w (a := 0) (b := 89999) (by decide) (by decide) i_v1) (iv_w (a := 0) (b := 90000) (by decide) (by decide) (show (4 : Int) ≤ (4 : Int32).toInt ∧ (4 : Int32).toInt ≤ 4 by decide)) (show 0 ≤ v1.toInt by omega) (show v1.toInt < 4 by omega)) (fun q1 hq1 => ?_)
  refine tt_n (ix_ok i_v1 (by decide) (by decide)) ?_
  refine tt_kv (P := fun z => (0 : Int) ≤ z.toInt ∧ z.toInt ≤ 127) (iv_sb _ _) (fun x2 i3 => ?_)
  refine tt_kv (P := fun z => (0 : Int) ≤ z.toInt ∧ z.toInt ≤ 255) (iv_and (show (255 : Int) ≤ (255 : Int32).toInt ∧ (255 : Int32).toInt ≤ 255 by decide) (by decide) (by decide) (by decide)) (fun x4 i5 => ?_)
  refine tt_kv (P := fun z => (0 : Int) ≤ z.toInt ∧ z.toInt ≤ 255) (iv_c16i i5 (by decide) (by decide)) (fun x6 i7 => ?_)
  refine tt_w (iv_nc i7 (by decide) (by decide)) ?_
  exact tt_some ⟨i7, trivial⟩
def QJString_charAt_I_S1 (v1 : Int32) (r : (Int32)) : Prop := ((0 : Int) ≤ r.toInt ∧ r.toInt ≤ 255) ∧ True
set_option maxHeartbeats 4000000 in
set_option maxRecDepth 100000 in
theorem sJString_charAt_I_S1 (v1 : Int32) (i_v1 : (0 : Int) ≤ v1.toInt ∧ v1.toInt ≤ 3) (x_0 : 0 ≤ v1.toInt) (x_1 : v1.toInt < 4) : tt (fJString_charAt_I_S1 v1) (QJString_charAt_I_S1 v1) := by
  unfold fJString_charAt_I_S1 fJString_charAt_I_S1_0
  refine tt_b (sJString_isLatin1__S1  ) (fun q1 hq1 => ?_)
  obtain ⟨i_q1, -⟩ := hq1
  refine tt_n (iv_nz0 i_q1 (by decide)) ?_
  refine tt_b (sJStringLatin1_charAt_ABI_B1 _ i_v1) (fun q2 hq2 => ?_)
  obtain ⟨i_q2, -⟩ := hq2
  refine tt_w (iv_nc i_q2 (by decide) (by decide)) ?_
  exact tt_some ⟨i_q2, trivial⟩
def QTx_isWord_S1 (v1 : Int32) (o0 : cf_O) (r : (Int32)) : Prop := ((0 : Int) ≤ r.toInt ∧ r.toInt ≤ 1) ∧ True
def HTx_isWord_S1 (yv1 : Int32) (yo0 : cf_O) (n : Nat) : Prop := (∀ (v1 : Int32) (v3 : Int32) (o0 : cf_O), (okO I_Tx o0) → (Fr (fr_M [] [] []) yo0 o0) → ((0 : Int) ≤ v1.toInt ∧ v1.toInt ≤ 0) → ((0 : Int) ≤ v3.toInt ∧ v3.toInt ≤ 4) → ((0 : Int) ≤ (o0.1 4).toInt ∧ (o0.1 4).toInt ≤ 1602) → ((o0.2.1 2 v1.toNatClampNeg).toInt - (o0.2.1 1 v1.toNatClampNeg).toInt = 4) → 0 + (4 - v3.toInt) * 2 < (n : Int) → tt (gTx_isWord_S1 n 0 v1 v3 o0) (QTx_isWord_S1 yv1 yo0))
set_option maxHeartbeats 4000000 in
set_option maxRecDepth 100000 in
theorem tTx_isWord_S1_16 {yv1 : Int32} {yo0 : cf_O} {n : Nat} (H : HTx_isWord_S1 yv1 yo0 n) (v1 : Int32) (v3 : Int32) (o0 : cf_O) (k_o0 : okO I_Tx o0) (r_o0 : Fr (fr_M [] [] []) yo0 o0) (i_v1 : (0 : Int) ≤ v1.toInt ∧ v1.toInt ≤ 0) (i_v3 : (0 : Int) ≤ v3.toInt ∧ v3.toInt ≤ 4) (f_o0_4 : (0 : Int) ≤ (o0.1 4).toInt ∧ (o0.1 4).toInt ≤ 1602) (x_0 : (o0.2.1 2 v1.toNatClampNeg).toInt - (o0.2.1 1 v1.toNatClampNeg).toInt = 4) (hm : 0 + (4 - v3.toInt) * 2 ≤ (n : Int)) : tt (fTx_isWord_S1_16 (gTx_isWord_S1 n) v1 v3 o0) (QTx_isWord_S1 yv1 yo0) := by
  unfold fTx_isWord_S1_16
  refine tt_b (sJString_length__S1  ) (fun q1 hq1 => ?_)
  obtain ⟨i_q1, -⟩ := hq1
  refine tt_if (fun c2 => ?_) (fun c2 => ?_)
  · have wc2 : q1.toInt ≤ v3.toInt := c_le c2
    have i3 : (4 : Int) ≤ v3.toInt ∧ v3.toInt ≤ 4 := nr_ler c2 i_q1 i_v3 (by decide) (by decide)
    exact tt_some ⟨(iv_w (a := 0) (b := 1) (by decide) (by decide) (show (1 : Int) ≤ (1 : Int32).toInt ∧ (1 : Int32).toInt ≤ 1 by decide)), trivial⟩
  · have wc2 : v3.toInt < q1.toInt := c_nle c2
    have i4 : (0 : Int) ≤ v3.toInt ∧ v3.toInt ≤ 3 := nr_nlel c2 i_v3 i_q1 (by decide) (by decide)
    have t5 : (0 : Int) ≤ (o0.2.1 2 v1.toNatClampNeg).toInt ∧ (o0.2.1 2 v1.toNatClampNeg).toInt ≤ 1600 := k_o0.2 2 _
    have t6 : (0 : Int) ≤ (o0.2.1 1 v1.toNatClampNeg).toInt ∧ (o0.2.1 1 v1.toNatClampNeg).toInt ≤ 1599 := k_o0.2 1 _
    refine tt_b (sTx_signOf _ _ _ k_o0 (iv_w (a := 0) (b := 8) (by decide) (by decide) i_v1) (iv_w (a := 0) (b := 1599) (by decide) (by decide) i4) f_o0_4 (show 0 ≤ v3.toInt by omega) (show v3.toInt < (o0.2.1 2 v1.toNatClampNeg).toInt - (o0.2.1 1 v1.toNatClampNeg).toInt by omega)) (fun q7 hq7 => ?_)
    obtain ⟨i_q7, -⟩ := hq7
    refine tt_b (sJString_charAt_I_S1 _ i4 (show 0 ≤ v3.toInt by omega) (show v3.toInt < 4 by omega)) (fun q8 hq8 => ?_)
    obtain ⟨i_q8, -⟩ := hq8
    refine tt_if (fun c9 => ?_) (fun c9 => ?_)
    · have wc9 : q7.toInt = q8.toInt := c_eq c9
      have i10 : (0 : Int) ≤ q7.toInt ∧ q7.toInt ≤ 127 := nr_eql c9 i_q7 i_q8 (by decide) (by decide)
      have i11 : (0 : Int) ≤ q8.toInt ∧ q8.toInt ≤ 127 := nr_eqr c9 i_q7 i_q8 (by decide) (by decide)
      refine tt_kv (P := fun z => ((1 : Int) ≤ z.toInt ∧ z.toInt ≤ 4) ∧ z.toInt = v3.toInt + 1) ⟨iv_add i4 (show (1 : Int) ≤ (1 : Int32).toInt ∧ (1 : Int32).toInt ≤ 1 by decide) (by decide) (by decide) (by decide) (by decide), iq_add i4 (show (1 : Int) ≤ (1 : Int32).toInt ∧ (1 : Int32).toInt ≤ 1 by decide) (by decide) (by decide)⟩ (fun x12 qi13 => ?_)
      obtain ⟨i13, ei13⟩ := qi13
      have t14 : (0 : Int) ≤ (o0.2.1 2 v1.toNatClampNeg).toInt ∧ (o0.2.1 2 v1.toNatClampNeg).toInt ≤ 1600 := k_o0.2 2 _
      have t15 : (0 : Int) ≤ (o0.2.1 1 v1.toNatClampNeg).toInt ∧ (o0.2.1 1 v1.toNatClampNeg).toInt ≤ 1599 := k_o0.2 1 _
      exact H _ _ _ k_o0 r_o0 i_v1 (iv_w (a := 0) (b := 4) (by decide) (by decide) i13) f_o0_4 (show (o0.2.1 2 v1.toNatClampNeg).toInt - (o0.2.1 1 v1.toNatClampNeg).toInt = 4 by omega) (show 0 + (4 - x12.toInt) * 2 < (n : Int) by omega)
    · have wc9 : ¬ q7.toInt = q8.toInt := c_ne c9
      exact tt_some ⟨(iv_w (a := 0) (b := 1) (by decide) (by decide) (show (0 : Int) ≤ (0 : Int32).toInt ∧ (0 : Int32).toInt ≤ 0 by decide)), trivial⟩
set_option maxHeartbeats 4000000 in
set_option maxRecDepth 100000 in
theorem hTx_isWord_S1 (yv1 : Int32) (yo0 : cf_O) : ∀ n, HTx_isWord_S1 yv1 yo0 n := by
  intro n
  induction n with
  | zero => exact (fun v1 v3 o0 k_o0 r_o0 i_v1 i_v3 f_o0_4 x_0 hm => by exact absurd (show 0 + (4 - v3.toInt) * 2 < (0 : Int) from hm) (by omega))
  | succ n ih => exact (fun v1 v3 o0 k_o0 r_o0 i_v1 i_v3 f_o0_4 x_0 hm => tTx_isWord_S1_16 ih v1 v3 o0 k_o0 r_o0 i_v1 i_v3 f_o0_4 x_0 (by omega))
set_option maxHeartbeats 4000000 in
set_option maxRecDepth 100000 in
theorem sTx_isWord_S1 (v1 : Int32) (o0 : cf_O) (k_o0 : okO I_Tx o0) (i_v1 : (0 : Int) ≤ v1.toInt ∧ v1.toInt ≤ 0) (f_o0_4 : (0 : Int) ≤ (o0.1 4).toInt ∧ (o0.1 4).toInt ≤ 1602) : tt (fTx_isWord_S1 v1 o0) (QTx_isWord_S1 v1 o0) := by
  have H := hTx_isWord_S1 v1 o0 cfFU
  have hm : (11 : Int) ≤ (cfFU : Nat) := by decide
  have r_o0 : Fr (fr_M [] [] []) o0 o0 := fr_rfl
  unfold fTx_isWord_S1 fTx_isWord_S1_0
  refine tt_b (sTx_length _ _ k_o0 (iv_w (a := 0) (b := 8) (by decide) (by decide) i_v1) f_o0_4) (fun q1 hq1 => ?_)
  obtain ⟨i_q1, zq1_0, -⟩ := hq1
  have zq1_0 : q1.toInt = (o0.2.1 2 v1.toNatClampNeg).toInt - (o0.2.1 1 v1.toNatClampNeg).toInt := zq1_0
  refine tt_b (sJString_length__S1  ) (fun q2 hq2 => ?_)
  obtain ⟨i_q2, -⟩ := hq2
  refine tt_if (fun c3 => ?_) (fun c3 => ?_)
  · have wc3 : q1.toInt = q2.toInt := c_eq c3
    have i4 : (4 : Int) ≤ q1.toInt ∧ q1.toInt ≤ 4 := nr_eql c3 i_q1 i_q2 (by decide) (by decide)
    have t5 : (0 : Int) ≤ (o0.2.1 2 v1.toNatClampNeg).toInt ∧ (o0.2.1 2 v1.toNatClampNeg).toInt ≤ 1600 := k_o0.2 2 _
    have t6 : (0 : Int) ≤ (o0.2.1 1 v1.toNatClampNeg).toInt ∧ (o0.2.1 1 v1.toNatClampNeg).toInt ≤ 1599 := k_o0.2 1 _
    exact H _ _ _ k_o0 r_o0 i_v1 (iv_w (a := 0) (b := 4) (by decide) (by decide) (show (0 : Int) ≤ (0 : Int32).toInt ∧ (0 : Int32).toInt ≤ 0 by decide)) f_o0_4 (show (o0.2.1 2 v1.toNatClampNeg).toInt - (o0.2.1 1 v1.toNatClampNeg).toInt = 4 by omega) (show 0 + (4 - 0) * 2 < ((cfFU : Nat) : Int) by omega)
  · have wc3 : ¬ q1.toInt = q2.toInt := c_ne c3
    exact tt_some ⟨(iv_w (a := 0) (b := 1) (by decide) (by decide) (show (0 : Int) ≤ (0 : Int32).toInt ∧ (0 : Int32).toInt ≤ 0 by decide)), trivial⟩
def QTx_isNameSign (v0 : Int32) (r : (Int32)) : Prop := ((0 : Int) ≤ r.toInt ∧ r.toInt ≤ 1) ∧ True
set_option maxHeartbeats 4000000 in
set_option maxRecDepth 100000 in
theorem sTx_isNameSign (v0 : Int32) (i_v0 : ((-128) : Int) ≤ v0.toInt ∧ v0.toInt ≤ 127) : tt (fTx_isNameSign v0) (QTx_isNameSign v0) := by
  unfold fTx_isNameSign fTx_isNameSign_0
  refine tt_if (fun c1 => ?_) (fun c1 => ?_)
  · have i2 : ((-128) : Int) ≤ v0.toInt ∧ v0.toInt ≤ 96 := nr_ltl c1 i_v0 (show (97 : Int) ≤ (97 : Int32).toInt ∧ (97 : Int32).toInt ≤ 97 by decide) (by decide) (by decide)
    try unfold fTx_isNameSign_12
    refine tt_if (fun c3 => ?_) (fun c3 => ?_)
    · have i4 : ((-128) : Int) ≤ v0.toInt ∧ v0.toInt ≤ 64 := nr_ltl c3 i2 (show (65 : Int) ≤ (65 : Int32).toInt ∧ (65 : Int32).toInt ≤ 65 by decide) (by decide) (by decide)
      try unfold fTx_isNameSign_24
      refine tt_if (fun c5 => ?_) (fun c5 => ?_)
      · have i6 : ((-128) : Int) ≤ v0.toInt ∧ v0.toInt ≤ 47 := nr_ltl c5 i4 (show (48 : Int) ≤ (48 : Int32).toInt ∧ (48 : Int32).toInt ≤ 48 by decide) (by decide) (by decide)
        try unfold fTx_isNameSign_36
        refine tt_if (fun c7 => ?_) (fun c7 => ?_)
        · exact (dd_eq c7 i6 (show (95 : Int) ≤ (95 : Int32).toInt ∧ (95 : Int32).toInt ≤ 95 by decide) (by decide)).elim
        · try unfold fTx_isNameSign_47
          refine tt_w (iv_b (show (0 : Int) ≤ (0 : Int32).toInt ∧ (0 : Int32).toInt ≤ 0 by decide) (by decide) (by decide)) ?_
          exact tt_some ⟨(iv_w (a := 0) (b := 1) (by decide) (by decide) (show (0 : Int) ≤ (0 : Int32).toInt ∧ (0 : Int32).toInt ≤ 0 by decide)), trivial⟩
      · have i8 : (48 : Int) ≤ v0.toInt ∧ v0.toInt ≤ 64 := nr_nltr c5 (show (48 : Int) ≤ (48 : Int32).toInt ∧ (48 : Int32).toInt ≤ 48 by decide) i4 (by decide) (by decide)
        refine tt_if (fun c9 => ?_) (fun c9 => ?_)
        · have i10 : (48 : Int) ≤ v0.toInt ∧ v0.toInt ≤ 57 := nr_lel c9 i8 (show (57 : Int) ≤ (57 : Int32).toInt ∧ (57 : Int32).toInt ≤ 57 by decide) (by decide) (by decide)
          try unfold fTx_isNameSign_42
          try unfold fTx_isNameSign_47
          refine tt_w (iv_b (show (1 : Int) ≤ (1 : Int32).toInt ∧ (1 : Int32).toInt ≤ 1 by decide) (by decide) (by decide)) ?_
          exact tt_some ⟨(iv_w (a := 0) (b := 1) (by decide) (by decide) (show (1 : Int) ≤ (1 : Int32).toInt ∧ (1 : Int32).toInt ≤ 1 by decide)), trivial⟩
        · have i11 : (58 : Int) ≤ v0.toInt ∧ v0.toInt ≤ 64 := nr_nler c9 (show (57 : Int) ≤ (57 : Int32).toInt ∧ (57 : Int32).toInt ≤ 57 by decide) i8 (by decide) (by decide)
          try unfold fTx_isNameSign_36
          refine tt_if (fun c12 => ?_) (fun c12 => ?_)
          · exact (dd_eq c12 i11 (show (95 : Int) ≤ (95 : Int32).toInt ∧ (95 : Int32).toInt ≤ 95 by decide) (by decide)).elim
          · try unfold fTx_isNameSign_47
            refine tt_w (iv_b (show (0 : Int) ≤ (0 : Int32).toInt ∧ (0 : Int32).toInt ≤ 0 by decide) (by decide) (by decide)) ?_
            exact tt_some ⟨(iv_w (a := 0) (b := 1) (by decide) (by decide) (show (0 : Int) ≤ (0 : Int32).toInt ∧ (0 : Int32).toInt ≤ 0 by decide)), trivial⟩
    · have i13 : (65 : Int) ≤ v0.toInt ∧ v0.toInt ≤ 96 := nr_nltr c3 (show (65 : Int) ≤ (65 : Int32).toInt ∧ (65 : Int32).toInt ≤ 65 by decide) i2 (by decide) (by decide)
      refine tt_if (fun c14 => ?_) (fun c14 => ?_)
      · have i15 : (65 : Int) ≤ v0.toInt ∧ v0.toInt ≤ 90 := nr_lel c14 i13 (show (90 : Int) ≤ (90 : Int32).toInt ∧ (90 : Int32).toInt ≤ 90 by decide) (by decide) (by decide)
        try unfold fTx_isNameSign_42
        try unfold fTx_isNameSign_47
        refine tt_w (iv_b (show (1 : Int) ≤ (1 : Int32).toInt ∧ (1 : Int32).toInt ≤ 1 by decide) (by decide) (by decide)) ?_
        exact tt_some ⟨(iv_w (a := 0) (b := 1) (by decide) (by decide) (show (1 : Int) ≤ (1 : Int32).toInt ∧ (1 : Int32).toInt ≤ 1 by decide)), trivial⟩
      · have i16 : (91 : Int) ≤ v0.toInt ∧ v0.toInt ≤ 96 := nr_nler c14 (show (90 : Int) ≤ (90 : Int32).toInt ∧ (90 : Int32).toInt ≤ 90 by decide) i13 (by decide) (by decide)
        try unfold fTx_isNameSign_24
        refine tt_if (fun c17 => ?_) (fun c17 => ?_)
        · exact (dd_lt c17 i16 (show (48 : Int) ≤ (48 : Int32).toInt ∧ (48 : Int32).toInt ≤ 48 by decide) (by decide)).elim
        · refine tt_if (fun c18 => ?_) (fun c18 => ?_)
          · exact (dd_le c18 i16 (show (57 : Int) ≤ (57 : Int32).toInt ∧ (57 : Int32).toInt ≤ 57 by decide) (by decide)).elim
          · try unfold fTx_isNameSign_36
            refine tt_if (fun c19 => ?_) (fun c19 => ?_)
            · have i20 : (95 : Int) ≤ v0.toInt ∧ v0.toInt ≤ 95 := nr_eql c19 i16 (show (95 : Int) ≤ (95 : Int32).toInt ∧ (95 : Int32).toInt ≤ 95 by decide) (by decide) (by decide)
              try unfold fTx_isNameSign_42
              try unfold fTx_isNameSign_47
              refine tt_w (iv_b (show (1 : Int) ≤ (1 : Int32).toInt ∧ (1 : Int32).toInt ≤ 1 by decide) (by decide) (by decide)) ?_
              exact tt_some ⟨(iv_w (a := 0) (b := 1) (by decide) (by decide) (show (1 : Int) ≤ (1 : Int32).toInt ∧ (1 : Int32).toInt ≤ 1 by decide)), trivial⟩
            · try unfold fTx_isNameSign_47
              refine tt_w (iv_b (show (0 : Int) ≤ (0 : Int32).toInt ∧ (0 : Int32).toInt ≤ 0 by decide) (by decide) (by decide)) ?_
              exact tt_some ⟨(iv_w (a := 0) (b := 1) (by decide) (by decide) (show (0 : Int) ≤ (0 : Int32).toInt ∧ (0 : Int32).toInt ≤ 0 by decide)), trivial⟩
  · have i21 : (97 : Int) ≤ v0.toInt ∧ v0.toInt ≤ 127 := nr_nltr c1 (show (97 : Int) ≤ (97 : Int32).toInt ∧ (97 : Int32).toInt ≤ 97 by decide) i_v0 (by decide) (by decide)
    refine tt_if (fun c22 => ?_) (fun c22 => ?_)
    · have i23 : (97 : Int) ≤ v0.toInt ∧ v0.toInt ≤ 122 := nr_lel c22 i21 (show (122 : Int) ≤ (122 : Int32).toInt ∧ (122 : Int32).toInt ≤ 122 by decide) (by decide) (by decide)
      try unfold fTx_isNameSign_42
      try unfold fTx_isNameSign_47
      refine tt_w (iv_b (show (1 : Int) ≤ (1 : Int32).toInt ∧ (1 : Int32).toInt ≤ 1 by decide) (by decide) (by decide)) ?_
      exact tt_some ⟨(iv_w (a := 0) (b := 1) (by decide) (by decide) (show (1 : Int) ≤ (1 : Int32).toInt ∧ (1 : Int32).toInt ≤ 1 by decide)), trivial⟩
    · have i24 : (123 : Int) ≤ v0.toInt ∧ v0.toInt ≤ 127 := nr_nler c22 (show (122 : Int) ≤ (122 : Int32).toInt ∧ (122 : Int32).toInt ≤ 122 by decide) i21 (by decide) (by decide)
      try unfold fTx_isNameSign_12
      refine tt_if (fun c25 => ?_) (fun c25 => ?_)
      · exact (dd_lt c25 i24 (show (65 : Int) ≤ (65 : Int32).toInt ∧ (65 : Int32).toInt ≤ 65 by decide) (by decide)).elim
      · refine tt_if (fun c26 => ?_) (fun c26 => ?_)
        · exact (dd_le c26 i24 (show (90 : Int) ≤ (90 : Int32).toInt ∧ (90 : Int32).toInt ≤ 90 by decide) (by decide)).elim
        · try unfold fTx_isNameSign_24
          refine tt_if (fun c27 => ?_) (fun c27 => ?_)
          · exact (dd_lt c27 i24 (show (48 : Int) ≤ (48 : Int32).toInt ∧ (48 : Int32).toInt ≤ 48 by decide) (by decide)).elim
          · refine tt_if (fun c28 => ?_) (fun c28 => ?_)
            · exact (dd_le c28 i24 (show (57 : Int) ≤ (57 : Int32).toInt ∧ (57 : Int32).toInt ≤ 57 by decide) (by decide)).elim
            · try unfold fTx_isNameSign_36
              refine tt_if (fun c29 => ?_) (fun c29 => ?_)
              · exact (dd_eq c29 i24 (show (95 : Int) ≤ (95 : Int32).toInt ∧ (95 : Int32).toInt ≤ 95 by decide) (by decide)).elim
              · try unfold fTx_isNameSign_47
                refine tt_w (iv_b (show (0 : Int) ≤ (0 : Int32).toInt ∧ (0 : Int32).toInt ≤ 0 by decide) (by decide) (by decide)) ?_
                exact tt_some ⟨(iv_w (a := 0) (b := 1) (by decide) (by decide) (show (0 : Int) ≤ (0 : Int32).toInt ∧ (0 : Int32).toInt ≤ 0 by decide)), trivial⟩
def QTx_name (v1 : Int32) (o0 : cf_O) (r : (Int64)) : Prop := True
def HTx_name (yv1 : Int32) (yo0 : cf_O) (n : Nat) : Prop := (∀ (v1 : Int32) (v2 : Int64) (v4 : Int32) (o0 : cf_O), (okO I_Tx o0) → (Fr (fr_M [] [] []) yo0 o0) → ((1 : Int) ≤ v1.toInt ∧ v1.toInt ≤ 8) → ((0 : Int) ≤ v4.toInt ∧ v4.toInt ≤ 1600) → ((0 : Int) ≤ (o0.1 4).toInt ∧ (o0.1 4).toInt ≤ 1602) → ((2 : Int) ≤ (o0.1 5).toInt ∧ (o0.1 5).toInt ≤ 9) → 0 + (1600 - v4.toInt) * 2 < (n : Int) → tt (gTx_name n 0 v1 v2 v4 o0) (QTx_name yv1 yo0))
set_option maxHeartbeats 4000000 in
set_option maxRecDepth 100000 in
theorem tTx_name_17 {yv1 : Int32} {yo0 : cf_O} {n : Nat} (H : HTx_name yv1 yo0 n) (v1 : Int32) (v2 : Int64) (v4 : Int32) (o0 : cf_O) (k_o0 : okO I_Tx o0) (r_o0 : Fr (fr_M [] [] []) yo0 o0) (i_v1 : (1 : Int) ≤ v1.toInt ∧ v1.toInt ≤ 8) (i_v4 : (0 : Int) ≤ v4.toInt ∧ v4.toInt ≤ 1600) (f_o0_4 : (0 : Int) ≤ (o0.1 4).toInt ∧ (o0.1 4).toInt ≤ 1602) (f_o0_5 : (2 : Int) ≤ (o0.1 5).toInt ∧ (o0.1 5).toInt ≤ 9) (hm : 0 + (1600 - v4.toInt) * 2 ≤ (n : Int)) : tt (fTx_name_17 (gTx_name n) v1 v2 v4 o0) (QTx_name yv1 yo0) := by
  unfold fTx_name_17
  refine tt_b (sTx_length _ _ k_o0 (iv_w (a := 0) (b := 8) (by decide) (by decide) i_v1) f_o0_4) (fun q1 hq1 => ?_)
  obtain ⟨i_q1, zq1_0, -⟩ := hq1
  have zq1_0 : q1.toInt = (o0.2.1 2 v1.toNatClampNeg).toInt - (o0.2.1 1 v1.toNatClampNeg).toInt := zq1_0
  refine tt_if (fun c2 => ?_) (fun c2 => ?_)
  · have wc2 : q1.toInt ≤ v4.toInt := c_le c2
    exact tt_some trivial
  · have wc2 : v4.toInt < q1.toInt := c_nle c2
    have i3 : (0 : Int) ≤ v4.toInt ∧ v4.toInt ≤ 1599 := nr_nlel c2 i_v4 i_q1 (by decide) (by decide)
    have i4 : (1 : Int) ≤ q1.toInt ∧ q1.toInt ≤ 1600 := nr_nler c2 i_v4 i_q1 (by decide) (by decide)
    have t5 : (0 : Int) ≤ (o0.2.1 2 v1.toNatClampNeg).toInt ∧ (o0.2.1 2 v1.toNatClampNeg).toInt ≤ 1600 := k_o0.2 2 _
    have t6 : (0 : Int) ≤ (o0.2.1 1 v1.toNatClampNeg).toInt ∧ (o0.2.1 1 v1.toNatClampNeg).toInt ≤ 1599 := k_o0.2 1 _
    refine tt_b (sTx_signOf _ _ _ k_o0 (iv_w (a := 0) (b := 8) (by decide) (by decide) i_v1) i3 f_o0_4 (show 0 ≤ v4.toInt by omega) (show v4.toInt < (o0.2.1 2 v1.toNatClampNeg).toInt - (o0.2.1 1 v1.toNatClampNeg).toInt by omega)) (fun q7 hq7 => ?_)
    obtain ⟨i_q7, -⟩ := hq7
    refine tt_b (sTx_isNameSign _ i_q7) (fun q8 hq8 => ?_)
    obtain ⟨i_q8, -⟩ := hq8
    refine tt_if (fun c9 => ?_) (fun c9 => ?_)
    · have wc9 : q8.toInt = (0 : Int) := c_eq c9
      have i10 : (0 : Int) ≤ q8.toInt ∧ q8.toInt ≤ 0 := nr_eql c9 i_q8 (show (0 : Int) ≤ (0 : Int32).toInt ∧ (0 : Int32).toInt ≤ 0 by decide) (by decide) (by decide)
      exact tt_some trivial
    · have wc9 : ¬ q8.toInt = (0 : Int) := c_ne c9
      have i11 : (1 : Int) ≤ q8.toInt ∧ q8.toInt ≤ 1 := nr_nela c9 i_q8 (show (0 : Int) ≤ (0 : Int32).toInt ∧ (0 : Int32).toInt ≤ 0 by decide) (by decide) (by decide)
      refine tt_kl (fun x12 => ?_)
      refine tt_klv (P := fun z => ((-128) : Int) ≤ z.toInt ∧ z.toInt ≤ 127) (ivl_of i_q7) (fun x13 i14 => ?_)
      refine tt_kl (fun x15 => ?_)
      refine tt_kv (P := fun z => ((1 : Int) ≤ z.toInt ∧ z.toInt ≤ 1600) ∧ z.toInt = v4.toInt + 1) ⟨iv_add i3 (show (1 : Int) ≤ (1 : Int32).toInt ∧ (1 : Int32).toInt ≤ 1 by decide) (by decide) (by decide) (by decide) (by decide), iq_add i3 (show (1 : Int) ≤ (1 : Int32).toInt ∧ (1 : Int32).toInt ≤ 1 by decide) (by decide) (by decide)⟩ (fun x16 qi17 => ?_)
      obtain ⟨i17, ei17⟩ := qi17
      exact H _ _ _ _ k_o0 r_o0 i_v1 (iv_w (a := 0) (b := 1600) (by decide) (by decide) i17) f_o0_4 f_o0_5 (show 0 + (1600 - x16.toInt) * 2 < (n : Int) by omega)
set_option maxHeartbeats 4000000 in
set_option maxRecDepth 100000 in
theorem hTx_name (yv1 : Int32) (yo0 : cf_O) : ∀ n, HTx_name yv1 yo0 n := by
  intro n
  induction n with
  | zero => exact (fun v1 v2 v4 o0 k_o0 r_o0 i_v1 i_v4 f_o0_4 f_o0_5 hm => by exact absurd (show 0 + (1600 - v4.toInt) * 2 < (0 : Int) from hm) (by omega))
  | succ n ih => exact (fun v1 v2 v4 o0 k_o0 r_o0 i_v1 i_v4 f_o0_4 f_o0_5 hm => tTx_name_17 ih v1 v2 v4 o0 k_o0 r_o0 i_v1 i_v4 f_o0_4 f_o0_5 (by omega))
set_option maxHeartbeats 4000000 in
set_option maxRecDepth 100000 in
theorem sTx_name (v1 : Int32) (o0 : cf_O) (k_o0 : okO I_Tx o0) (i_v1 : (1 : Int) ≤ v1.toInt ∧ v1.toInt ≤ 8) (f_o0_4 : (0 : Int) ≤ (o0.1 4).toInt ∧ (o0.1 4).toInt ≤ 1602) (f_o0_5 : (2 : Int) ≤ (o0.1 5).toInt ∧ (o0.1 5).toInt ≤ 9) : tt (fTx_name v1 o0) (QTx_name v1 o0) := by
  have H := hTx_name v1 o0 cfFU
  have hm : (3203 : Int) ≤ (cfFU : Nat) := by decide
  have r_o0 : Fr (fr_M [] [] []) o0 o0 := fr_rfl
  unfold fTx_name fTx_name_0
  refine tt_b (sTx_length _ _ k_o0 (iv_w (a := 0) (b := 8) (by decide) (by decide) i_v1) f_o0_4) (fun q1 hq1 => ?_)
  obtain ⟨i_q1, zq1_0, -⟩ := hq1
  have zq1_0 : q1.toInt = (o0.2.1 2 v1.toNatClampNeg).toInt - (o0.2.1 1 v1.toNatClampNeg).toInt := zq1_0
  refine tt_if (fun c2 => ?_) (fun c2 => ?_)
  · have wc2 : q1.toInt ≤ (8 : Int) := c_le c2
    have i3 : ((-1599) : Int) ≤ q1.toInt ∧ q1.toInt ≤ 8 := nr_lel c2 i_q1 (show (8 : Int) ≤ (8 : Int32).toInt ∧ (8 : Int32).toInt ≤ 8 by decide) (by decide) (by decide)
    exact H _ _ _ _ k_o0 r_o0 i_v1 (iv_w (a := 0) (b := 1600) (by decide) (by decide) (show (0 : Int) ≤ (0 : Int32).toInt ∧ (0 : Int32).toInt ≤ 0 by decide)) f_o0_4 f_o0_5 (show 0 + (1600 - 0) * 2 < ((cfFU : Nat) : Int) by omega)
  · have wc2 : (8 : Int) < q1.toInt := c_nle c2
    have i4 : (9 : Int) ≤ q1.toInt ∧ q1.toInt ≤ 1600 := nr_nler c2 (show (8 : Int) ≤ (8 : Int32).toInt ∧ (8 : Int32).toInt ≤ 8 by decide) i_q1 (by decide) (by decide)
    exact tt_some trivial
def QTx_digits (v1 : Int32) (v2 : Int32) (o0 : cf_O) (r : (Int32)) : Prop := True
def HTx_digits (yv1 : Int32) (yv2 : Int32) (yo0 : cf_O) (n : Nat) : Prop := (∀ (v1 : Int32) (v3 : Int32) (v4 : Int32) (o0 : cf_O), (okO I_Tx o0) → (Fr (fr_M [] [] []) yo0 o0) → ((2 : Int) ≤ v1.toInt ∧ v1.toInt ≤ 3) → ((0 : Int) ≤ v4.toInt ∧ v4.toInt ≤ 1600) → ((0 : Int) ≤ (o0.1 4).toInt ∧ (o0.1 4).toInt ≤ 1602) → ((5 : Int) ≤ (o0.1 5).toInt ∧ (o0.1 5).toInt ≤ 5) → 0 + (1600 - v4.toInt) * 2 < (n : Int) → tt (gTx_digits n 0 v1 v3 v4 o0) (QTx_digits yv1 yv2 yo0))
set_option maxHeartbeats 4000000 in
set_option maxRecDepth 100000 in
theorem tTx_digits_16 {yv1 : Int32} {yv2 : Int32} {yo0 : cf_O} {n : Nat} (H : HTx_digits yv1 yv2 yo0 n) (v1 : Int32) (v3 : Int32) (v4 : Int32) (o0 : cf_O) (k_o0 : okO I_Tx o0) (r_o0 : Fr (fr_M [] [] []) yo0 o0) (i_v1 : (2 : Int) ≤ v1.toInt ∧ v1.toInt ≤ 3) (i_v4 : (0 : Int) ≤ v4.toInt ∧ v4.toInt ≤ 1600) (f_o0_4 : (0 : Int) ≤ (o0.1 4).toInt ∧ (o0.1 4).toInt ≤ 1602) (f_o0_5 : (5 : Int) ≤ (o0.1 5).toInt ∧ (o0.1 5).toInt ≤ 5) (hm : 0 + (1600 - v4.toInt) * 2 ≤ (n : Int)) : tt (fTx_digits_16 (gTx_digits n) v1 v3 v4 o0) (QTx_digits yv1 yv2 yo0) := by
  unfold fTx_digits_16
  have i_v3 := iv_top v3
  refine tt_b (sTx_length _ _ k_o0 (iv_w (a := 0) (b := 8) (by decide) (by decide) i_v1) f_o0_4) (fun q1 hq1 => ?_)
  obtain ⟨i_q1, zq1_0, -⟩ := hq1
  have zq1_0 : q1.toInt = (o0.2.1 2 v1.toNatClampNeg).toInt - (o0.2.1 1 v1.toNatClampNeg).toInt := zq1_0
  refine tt_if (fun c2 => ?_) (fun c2 => ?_)
  · have wc2 : q1.toInt ≤ v4.toInt := c_le c2
    exact tt_some trivial
  · have wc2 : v4.toInt < q1.toInt := c_nle c2
    have i3 : (0 : Int) ≤ v4.toInt ∧ v4.toInt ≤ 1599 := nr_nlel c2 i_v4 i_q1 (by decide) (by decide)
    have i4 : (1 : Int) ≤ q1.toInt ∧ q1.toInt ≤ 1600 := nr_nler c2 i_v4 i_q1 (by decide) (by decide)
    have t5 : (0 : Int) ≤ (o0.2.1 2 v1.toNatClampNeg).toInt ∧ (o0.2.1 2 v1.toNatClampNeg).toInt ≤ 1600 := k_o0.2 2 _
    have t6 : (0 : Int) ≤ (o0.2.1 1 v1.toNatClampNeg).toInt ∧ (o0.2.1 1 v1.toNatClampNeg).toInt ≤ 1599 := k_o0.2 1 _
    refine tt_b (sTx_signOf _ _ _ k_o0 (iv_w (a := 0) (b := 8) (by decide) (by decide) i_v1) i3 f_o0_4 (show 0 ≤ v4.toInt by omega) (show v4.toInt < (o0.2.1 2 v1.toNatClampNeg).toInt - (o0.2.1 1 v1.toNatClampNeg).toInt by omega)) (fun q7 hq7 => ?_)
    obtain ⟨i_q7, -⟩ := hq7
    refine tt_if (fun c8 => ?_) (fun c8 => ?_)
    · have wc8 : q7.toInt < (48 : Int) := c_lt c8
      have i9 : ((-128) : Int) ≤ q7.toInt ∧ q7.toInt ≤ 47 := nr_ltl c8 i_q7 (show (48 : Int) ≤ (48 : Int32).toInt ∧ (48 : Int32).toInt ≤ 48 by decide) (by decide) (by decide)
      try unfold fTx_digits_49
      exact tt_some trivial
    · have wc8 : (48 : Int) ≤ q7.toInt := c_nlt c8
      have i10 : (48 : Int) ≤ q7.toInt ∧ q7.toInt ≤ 127 := nr_nltr c8 (show (48 : Int) ≤ (48 : Int32).toInt ∧ (48 : Int32).toInt ≤ 48 by decide) i_q7 (by decide) (by decide)
      refine tt_if (fun c11 => ?_) (fun c11 => ?_)
      · have wc11 : q7.toInt ≤ (57 : Int) := c_le c11
        have i12 : (48 : Int) ≤ q7.toInt ∧ q7.toInt ≤ 57 := nr_lel c11 i10 (show (57 : Int) ≤ (57 : Int32).toInt ∧ (57 : Int32).toInt ≤ 57 by decide) (by decide) (by decide)
        refine tt_kv (P := fun z => ((-2147483648) : Int) ≤ z.toInt ∧ z.toInt ≤ 2147483647) (iv_top _) (fun x13 i14 => ?_)
        refine tt_kv (P := fun z => ((-2147483648) : Int) ≤ z.toInt ∧ z.toInt ≤ 2147483647) (iv_top _) (fun x15 i16 => ?_)
        refine tt_kv (P := fun z => ((-2147483648) : Int) ≤ z.toInt ∧ z.toInt ≤ 2147483647) (iv_top _) (fun x17 i18 => ?_)
        refine tt_kv (P := fun z => ((1 : Int) ≤ z.toInt ∧ z.toInt ≤ 1600) ∧ z.toInt = v4.toInt + 1) ⟨iv_add i3 (show (1 : Int) ≤ (1 : Int32).toInt ∧ (1 : Int32).toInt ≤ 1 by decide) (by decide) (by decide) (by decide) (by decide), iq_add i3 (show (1 : Int) ≤ (1 : Int32).toInt ∧ (1 : Int32).toInt ≤ 1 by decide) (by decide) (by decide)⟩ (fun x19 qi20 => ?_)
        obtain ⟨i20, ei20⟩ := qi20
        exact H _ _ _ _ k_o0 r_o0 i_v1 (iv_w (a := 0) (b := 1600) (by decide) (by decide) i20) f_o0_4 f_o0_5 (show 0 + (1600 - x19.toInt) * 2 < (n : Int) by omega)
      · have wc11 : (57 : Int) < q7.toInt := c_nle c11
        have i21 : (58 : Int) ≤ q7.toInt ∧ q7.toInt ≤ 127 := nr_nler c11 (show (57 : Int) ≤ (57 : Int32).toInt ∧ (57 : Int32).toInt ≤ 57 by decide) i10 (by decide) (by decide)
        try unfold fTx_digits_49
        exact tt_some trivial
set_option maxHeartbeats 4000000 in
set_option maxRecDepth 100000 in
theorem hTx_digits (yv1 : Int32) (yv2 : Int32) (yo0 : cf_O) : ∀ n, HTx_digits yv1 yv2 yo0 n := by
  intro n
  induction n with
  | zero => exact (fun v1 v3 v4 o0 k_o0 r_o0 i_v1 i_v4 f_o0_4 f_o0_5 hm => by exact absurd (show 0 + (1600 - v4.toInt) * 2 < (0 : Int) from hm) (by omega))
  | succ n ih => exact (fun v1 v3 v4 o0 k_o0 r_o0 i_v1 i_v4 f_o0_4 f_o0_5 hm => tTx_digits_16 ih v1 v3 v4 o0 k_o0 r_o0 i_v1 i_v4 f_o0_4 f_o0_5 (by omega))
set_option maxHeartbeats 4000000 in
set_option maxRecDepth 100000 in
theorem sTx_digits (v1 : Int32) (v2 : Int32) (o0 : cf_O) (k_o0 : okO I_Tx o0) (i_v1 : (2 : Int) ≤ v1.toInt ∧ v1.toInt ≤ 3) (i_v2 : (2 : Int) ≤ v2.toInt ∧ v2.toInt ≤ 3) (f_o0_4 : (0 : Int) ≤ (o0.1 4).toInt ∧ (o0.1 4).toInt ≤ 1602) (f_o0_5 : (5 : Int) ≤ (o0.1 5).toInt ∧ (o0.1 5).toInt ≤ 5) : tt (fTx_digits v1 v2 o0) (QTx_digits v1 v2 o0) := by
  have H := hTx_digits v1 v2 o0 cfFU
  have hm : (3203 : Int) ≤ (cfFU : Nat) := by decide
  have r_o0 : Fr (fr_M [] [] []) o0 o0 := fr_rfl
  unfold fTx_digits fTx_digits_0
  refine tt_b (sTx_length _ _ k_o0 (iv_w (a := 0) (b := 8) (by decide) (by decide) i_v1) f_o0_4) (fun q1 hq1 => ?_)
  obtain ⟨i_q1, zq1_0, -⟩ := hq1
  have zq1_0 : q1.toInt = (o0.2.1 2 v1.toNatClampNeg).toInt - (o0.2.1 1 v1.toNatClampNeg).toInt := zq1_0
  refine tt_if (fun c2 => ?_) (fun c2 => ?_)
  · have wc2 : q1.toInt ≤ v2.toInt := c_le c2
    have i3 : ((-1599) : Int) ≤ q1.toInt ∧ q1.toInt ≤ 3 := nr_lel c2 i_q1 i_v2 (by decide) (by decide)
    exact H _ _ _ _ k_o0 r_o0 i_v1 (iv_w (a := 0) (b := 1600) (by decide) (by decide) (show (0 : Int) ≤ (0 : Int32).toInt ∧ (0 : Int32).toInt ≤ 0 by decide)) f_o0_4 f_o0_5 (show 0 + (1600 - 0) * 2 < ((cfFU : Nat) : Int) by omega)
  · have wc2 : v2.toInt < q1.toInt := c_nle c2
    have i4 : (3 : Int) ≤ q1.toInt ∧ q1.toInt ≤ 1600 := nr_nler c2 i_v2 i_q1 (by decide) (by decide)
    exact tt_some trivial
def QTx_bits (v1 : Int32) (v2 : Int32) (o0 : cf_O) (r : (Int32)) : Prop := (((-1) : Int) ≤ r.toInt ∧ r.toInt ≤ 255) ∧ True
def HTx_bits (yv1 : Int32) (yv2 : Int32) (yo0 : cf_O) (n : Nat) : Prop := (∀ (v1 : Int32) (v2 : Int32) (v3 : Int32) (v4 : Int32) (o0 : cf_O), (okO I_Tx o0) → (Fr (fr_M [] [] []) yo0 o0) → ((0 : Int) ≤ v1.toInt ∧ v1.toInt ≤ 4) → ((1 : Int) ≤ v2.toInt ∧ v2.toInt ≤ 8) → ((0 : Int) ≤ v3.toInt ∧ v3.toInt ≤ 255) → ((0 : Int) ≤ v4.toInt ∧ v4.toInt ≤ 8) → ((0 : Int) ≤ (o0.1 4).toInt ∧ (o0.1 4).toInt ≤ 1602) → ((1 : Int) ≤ (o0.1 5).toInt ∧ (o0.1 5).toInt ≤ 5) → ((o0.2.1 2 v1.toNatClampNeg).toInt - (o0.2.1 1 v1.toNatClampNeg).toInt = v2.toInt) → 0 + (8 - v4.toInt) * 2 < (n : Int) → tt (gTx_bits n 0 v1 v2 v3 v4 o0) (QTx_bits yv1 yv2 yo0))
set_option maxHeartbeats 4000000 in
set_option maxRecDepth 100000 in
theorem tTx_bits_16 {yv1 : Int32} {yv2 : Int32} {yo0 : cf_O} {n : Nat} (H : HTx_bits yv1 yv2 yo0 n) (v1 : Int32) (v2 : Int32) (v3 : Int32) (v4 : Int32) (o0 : cf_O) (k_o0 : okO I_Tx o0) (r_o0 : Fr (fr_M [] [] []) yo0 o0) (i_v1 : (0 : Int) ≤ v1.toInt ∧ v1.toInt ≤ 4) (i_v2 : (1 : Int) ≤ v2.toInt ∧ v2.toInt ≤ 8) (i_v3 : (0 : Int) ≤ v3.toInt ∧ v3.toInt ≤ 255) (i_v4 : (0 : Int) ≤ v4.toInt ∧ v4.toInt ≤ 8) (f_o0_4 : (0 : Int) ≤ (o0.1 4).toInt ∧ (o0.1 4).toInt ≤ 1602) (f_o0_5 : (1 : Int) ≤ (o0.1 5).toInt ∧ (o0.1 5).toInt ≤ 5) (x_0 : (o0.2.1 2 v1.toNatClampNeg).toInt - (o0.2.1 1 v1.toNatClampNeg).toInt = v2.toInt) (hm : 0 + (8 - v4.toInt) * 2 ≤ (n : Int)) : tt (fTx_bits_16 (gTx_bits n) v1 v2 v3 v4 o0) (QTx_bits yv1 yv2 yo0) := by
  unfold fTx_bits_16
  refine tt_if (fun c1 => ?_) (fun c1 => ?_)
  · have wc1 : v2.toInt ≤ v4.toInt := c_le c1
    have i2 : (1 : Int) ≤ v4.toInt ∧ v4.toInt ≤ 8 := nr_ler c1 i_v2 i_v4 (by decide) (by decide)
    exact tt_some ⟨(iv_w (a := (-1)) (b := 255) (by decide) (by decide) i_v3), trivial⟩
  · have wc1 : v4.toInt < v2.toInt := c_nle c1
    have i3 : (0 : Int) ≤ v4.toInt ∧ v4.toInt ≤ 7 := nr_nlel c1 i_v4 i_v2 (by decide) (by decide)
    have t4 : (0 : Int) ≤ (o0.2.1 2 v1.toNatClampNeg).toInt ∧ (o0.2.1 2 v1.toNatClampNeg).toInt ≤ 1600 := k_o0.2 2 _
    have t5 : (0 : Int) ≤ (o0.2.1 1 v1.toNatClampNeg).toInt ∧ (o0.2.1 1 v1.toNatClampNeg).toInt ≤ 1599 := k_o0.2 1 _
    refine tt_b (sTx_signOf _ _ _ k_o0 (iv_w (a := 0) (b := 8) (by decide) (by decide) i_v1) (iv_w (a := 0) (b := 1599) (by decide) (by decide) i3) f_o0_4 (show 0 ≤ v4.toInt by omega) (show v4.toInt < (o0.2.1 2 v1.toNatClampNeg).toInt - (o0.2.1 1 v1.toNatClampNeg).toInt by omega)) (fun q6 hq6 => ?_)
    obtain ⟨i_q6, -⟩ := hq6
    refine tt_kv (P := fun z => (((-176) : Int) ≤ z.toInt ∧ z.toInt ≤ 79) ∧ z.toInt = q6.toInt - 48) ⟨iv_sub i_q6 (show (48 : Int) ≤ (48 : Int32).toInt ∧ (48 : Int32).toInt ≤ 48 by decide) (by decide) (by decide) (by decide) (by decide), iq_sub i_q6 (show (48 : Int) ≤ (48 : Int32).toInt ∧ (48 : Int32).toInt ≤ 48 by decide) (by decide) (by decide)⟩ (fun x7 qi8 => ?_)
    obtain ⟨i8, ei8⟩ := qi8
    refine tt_if (fun c9 => ?_) (fun c9 => ?_)
    · have wc9 : x7.toInt < (0 : Int) := c_lt c9
      have i10 : ((-176) : Int) ≤ x7.toInt ∧ x7.toInt ≤ (-1) := nr_ltl c9 i8 (show (0 : Int) ≤ (0 : Int32).toInt ∧ (0 : Int32).toInt ≤ 0 by decide) (by decide) (by decide)
      have i11 : ((-128) : Int) ≤ q6.toInt ∧ q6.toInt ≤ 47 := by omega
      try unfold fTx_bits_45
      exact tt_some ⟨(iv_w (a := (-1)) (b := 255) (by decide) (by decide) (show ((-1) : Int) ≤ ((-1) : Int32).toInt ∧ ((-1) : Int32).toInt ≤ (-1) by decide)), trivial⟩
    · have wc9 : (0 : Int) ≤ x7.toInt := c_nlt c9
      have i12 : (0 : Int) ≤ x7.toInt ∧ x7.toInt ≤ 79 := nr_nltr c9 (show (0 : Int) ≤ (0 : Int32).toInt ∧ (0 : Int32).toInt ≤ 0 by decide) i8 (by decide) (by decide)
      have i13 : (48 : Int) ≤ q6.toInt ∧ q6.toInt ≤ 127 := by omega
      refine tt_if (fun c14 => ?_) (fun c14 => ?_)
      · have wc14 : x7.toInt ≤ (1 : Int) := c_le c14
        have i15 : (0 : Int) ≤ x7.toInt ∧ x7.toInt ≤ 1 := nr_lel c14 i12 (show (1 : Int) ≤ (1 : Int32).toInt ∧ (1 : Int32).toInt ≤ 1 by decide) (by decide) (by decide)
        have i16 : (48 : Int) ≤ q6.toInt ∧ q6.toInt ≤ 49 := by omega
        refine tt_kv (P := fun z => (0 : Int) ≤ z.toInt ∧ z.toInt ≤ 128) (iv_shl (p := 0) (q := 7) i15 i3 (by decide) (by decide) (by decide) (by decide) (by decide)) (fun x17 i18 => ?_)
        refine tt_kv (P := fun z => (0 : Int) ≤ z.toInt ∧ z.toInt ≤ 255) (iv_or (w := 8) i_v3 i18 (by decide) (by decide) (by decide) (by decide) (by decide) (by decide) (by decide)) (fun x19 i20 => ?_)
        refine tt_kv (P := fun z => ((1 : Int) ≤ z.toInt ∧ z.toInt ≤ 8) ∧ z.toInt = v4.toInt + 1) ⟨iv_add i3 (show (1 : Int) ≤ (1 : Int32).toInt ∧ (1 : Int32).toInt ≤ 1 by decide) (by decide) (by decide) (by decide) (by decide), iq_add i3 (show (1 : Int) ≤ (1 : Int32).toInt ∧ (1 : Int32).toInt ≤ 1 by decide) (by decide) (by decide)⟩ (fun x21 qi22 => ?_)
        obtain ⟨i22, ei22⟩ := qi22
        have t23 : (0 : Int) ≤ (o0.2.1 2 v1.toNatClampNeg).toInt ∧ (o0.2.1 2 v1.toNatClampNeg).toInt ≤ 1600 := k_o0.2 2 _
        have t24 : (0 : Int) ≤ (o0.2.1 1 v1.toNatClampNeg).toInt ∧ (o0.2.1 1 v1.toNatClampNeg).toInt ≤ 1599 := k_o0.2 1 _
        exact H _ _ _ _ _ k_o0 r_o0 i_v1 i_v2 i20 (iv_w (a := 0) (b := 8) (by decide) (by decide) i22) f_o0_4 f_o0_5 (show (o0.2.1 2 v1.toNatClampNeg).toInt - (o0.2.1 1 v1.toNatClampNeg).toInt = v2.toInt by omega) (show 0 + (8 - x21.toInt) * 2 < (n : Int) by omega)
      · have wc14 : (1 : Int) < x7.toInt := c_nle c14
        have i25 : (2 : Int) ≤ x7.toInt ∧ x7.toInt ≤ 79 := nr_nler c14 (show (1 : Int) ≤ (1 : Int32).toInt ∧ (1 : Int32).toInt ≤ 1 by decide) i12 (by decide) (by decide)
        have i26 : (50 : Int) ≤ q6.toInt ∧ q6.toInt ≤ 127 := by omega
        try unfold fTx_bits_45
        exact tt_some ⟨(iv_w (a := (-1)) (b := 255) (by decide) (by decide) (show ((-1) : Int) ≤ ((-1) : Int32).toInt ∧ ((-1) : Int32).toInt ≤ (-1) by decide)), trivial⟩
set_option maxHeartbeats 4000000 in
set_option maxRecDepth 100000 in
theorem hTx_bits (yv1 : Int32) (yv2 : Int32) (yo0 : cf_O) : ∀ n, HTx_bits yv1 yv2 yo0 n := by
  intro n
  induction n with
  | zero => exact (fun v1 v2 v3 v4 o0 k_o0 r_o0 i_v1 i_v2 i_v3 i_v4 f_o0_4 f_o0_5 x_0 hm => by exact absurd (show 0 + (8 - v4.toInt) * 2 < (0 : Int) from hm) (by omega))
  | succ n ih => exact (fun v1 v2 v3 v4 o0 k_o0 r_o0 i_v1 i_v2 i_v3 i_v4 f_o0_4 f_o0_5 x_0 hm => tTx_bits_16 ih v1 v2 v3 v4 o0 k_o0 r_o0 i_v1 i_v2 i_v3 i_v4 f_o0_4 f_o0_5 x_0 (by omega))
set_option maxHeartbeats 4000000 in
set_option maxRecDepth 100000 in
theorem sTx_bits (v1 : Int32) (v2 : Int32) (o0 : cf_O) (k_o0 : okO I_Tx o0) (i_v1 : (0 : Int) ≤ v1.toInt ∧ v1.toInt ≤ 4) (i_v2 : (1 : Int) ≤ v2.toInt ∧ v2.toInt ≤ 8) (f_o0_4 : (0 : Int) ≤ (o0.1 4).toInt ∧ (o0.1 4).toInt ≤ 1602) (f_o0_5 : (1 : Int) ≤ (o0.1 5).toInt ∧ (o0.1 5).toInt ≤ 5) : tt (fTx_bits v1 v2 o0) (QTx_bits v1 v2 o0) := by
  have H := hTx_bits v1 v2 o0 cfFU
  have hm : (19 : Int) ≤ (cfFU : Nat) := by decide
  have r_o0 : Fr (fr_M [] [] []) o0 o0 := fr_rfl
  unfold fTx_bits fTx_bits_0
  refine tt_b (sTx_length _ _ k_o0 (iv_w (a := 0) (b := 8) (by decide) (by decide) i_v1) f_o0_4) (fun q1 hq1 => ?_)
  obtain ⟨i_q1, zq1_0, -⟩ := hq1
  have zq1_0 : q1.toInt = (o0.2.1 2 v1.toNatClampNeg).toInt - (o0.2.1 1 v1.toNatClampNeg).toInt := zq1_0
  refine tt_if (fun c2 => ?_) (fun c2 => ?_)
  · have wc2 : q1.toInt = v2.toInt := c_eq c2
    have i3 : (1 : Int) ≤ q1.toInt ∧ q1.toInt ≤ 8 := nr_eql c2 i_q1 i_v2 (by decide) (by decide)
    have t4 : (0 : Int) ≤ (o0.2.1 2 v1.toNatClampNeg).toInt ∧ (o0.2.1 2 v1.toNatClampNeg).toInt ≤ 1600 := k_o0.2 2 _
    have t5 : (0 : Int) ≤ (o0.2.1 1 v1.toNatClampNeg).toInt ∧ (o0.2.1 1 v1.toNatClampNeg).toInt ≤ 1599 := k_o0.2 1 _
    exact H _ _ _ _ _ k_o0 r_o0 i_v1 i_v2 (iv_w (a := 0) (b := 255) (by decide) (by decide) (show (0 : Int) ≤ (0 : Int32).toInt ∧ (0 : Int32).toInt ≤ 0 by decide)) (iv_w (a := 0) (b := 8) (by decide) (by decide) (show (0 : Int) ≤ (0 : Int32).toInt ∧ (0 : Int32).toInt ≤ 0 by decide)) f_o0_4 f_o0_5 (show (o0.2.1 2 v1.toNatClampNeg).toInt - (o0.2.1 1 v1.toNatClampNeg).toInt = v2.toInt by omega) (show 0 + (8 - 0) * 2 < ((cfFU : Nat) : Int) by omega)
  · have wc2 : ¬ q1.toInt = v2.toInt := c_ne c2
    exact tt_some ⟨(iv_w (a := (-1)) (b := 255) (by decide) (by decide) (show ((-1) : Int) ≤ ((-1) : Int32).toInt ∧ ((-1) : Int32).toInt ≤ (-1) by decide)), trivial⟩
def QLi_takeCell (o0 : cf_O) (o1 : cf_O) (r : (Int32 × cf_O)) : Prop := ((0 : Int) ≤ r.1.toInt ∧ r.1.toInt ≤ 1) ∧ (okO I_Li r.2) ∧ (Fr (fr_M [] [3, 4, 5, 6] [2]) o0 r.2) ∧ True
def HLi_takeCell (yo0 : cf_O) (yo1 : cf_O) (n : Nat) : Prop := (∀ (v2 : Int32) (o0 : cf_O) (o1 : cf_O), (okO I_Li o0) → (Fr (fr_M [] [3, 4, 5, 6] [2]) yo0 o0) → (okO I_Tx o1) → (Fr (fr_M [] [] []) yo1 o1) → ((1 : Int) ≤ v2.toInt ∧ v2.toInt ≤ 4) → ((0 : Int) ≤ (o0.1 0).toInt ∧ (o0.1 0).toInt ≤ 11) → ((0 : Int) ≤ (o1.1 4).toInt ∧ (o1.1 4).toInt ≤ 1602) → ((5 : Int) ≤ (o1.1 5).toInt ∧ (o1.1 5).toInt ≤ 5) → 0 + (4 - v2.toInt) * 2 < (n : Int) → tt (gLi_takeCell n 0 v2 o0 o1) (QLi_takeCell yo0 yo1))
set_option maxHeartbeats 4000000 in
set_option maxRecDepth 100000 in
theorem tLi_takeCell_46 {yo0 : cf_O} {yo1 : cf_O} {n : Nat} (H : HLi_takeCell yo0 yo1 n) (v2 : Int32) (o0 : cf_O) (o1 : cf_O) (k_o0 : okO I_Li o0) (r_o0 : Fr (fr_M [] [3, 4, 5, 6] [2]) yo0 o0) (k_o1 : okO I_Tx o1) (r_o1 : Fr (fr_M [] [] []) yo1 o1) (i_v2 : (1 : Int) ≤ v2.toInt ∧ v2.toInt ≤ 4) (f_o0_0 : (0 : Int) ≤ (o0.1 0).toInt ∧ (o0.1 0).toInt ≤ 11) (f_o1_4 : (0 : Int) ≤ (o1.1 4).toInt ∧ (o1.1 4).toInt ≤ 1602) (f_o1_5 : (5 : Int) ≤ (o1.1 5).toInt ∧ (o1.1 5).toInt ≤ 5) (hm : 0 + (4 - v2.toInt) * 2 ≤ (n : Int)) : tt (fLi_takeCell_46 (gLi_takeCell n) v2 o0 o1) (QLi_takeCell yo0 yo1) := by
  unfold fLi_takeCell_46
  refine tt_if (fun c1 => ?_) (fun c1 => ?_)
  · have i2 : (4 : Int) ≤ v2.toInt ∧ v2.toInt ≤ 4 := nr_ltr c1 (show (3 : Int) ≤ (3 : Int32).toInt ∧ (3 : Int32).toInt ≤ 3 by decide) i_v2 (by decide) (by decide)
    exact tt_some ⟨(iv_w (a := 0) (b := 1) (by decide) (by decide) (show (0 : Int) ≤ (0 : Int32).toInt ∧ (0 : Int32).toInt ≤ 0 by decide)), k_o0, r_o0, trivial⟩
  · have i3 : (1 : Int) ≤ v2.toInt ∧ v2.toInt ≤ 3 := nr_nltl c1 i_v2 (show (3 : Int) ≤ (3 : Int32).toInt ∧ (3 : Int32).toInt ≤ 3 by decide) (by decide) (by decide)
    refine tt_b (sTx_length _ _ k_o1 (iv_w (a := 0) (b := 8) (by decide) (by decide) (show (4 : Int) ≤ (4 : Int32).toInt ∧ (4 : Int32).toInt ≤ 4 by decide)) f_o1_4) (fun q4 hq4 => ?_)
    obtain ⟨i_q4, zq4_0, -⟩ := hq4
    have zq4_0 : q4.toInt = (o1.2.1 2 (4 : Int32).toNatClampNeg).toInt - (o1.2.1 1 (4 : Int32).toNatClampNeg).toInt := zq4_0
    refine tt_kv (P := fun z => (2 : Int) ≤ z.toInt ∧ z.toInt ≤ 8) (iv_shl (p := 1) (q := 3) (show (1 : Int) ≤ (1 : Int32).toInt ∧ (1 : Int32).toInt ≤ 1 by decide) i3 (by decide) (by decide) (by decide) (by decide) (by decide)) (fun x5 i6 => ?_)
    refine tt_if (fun c7 => ?_) (fun c7 => ?_)
    · have i8 : (2 : Int) ≤ q4.toInt ∧ q4.toInt ≤ 8 := nr_eql c7 i_q4 i6 (by decide) (by decide)
      refine tt_n (ix_ok f_o0_0 (by decide) (by decide)) ?_
      refine tt_ko ?_
      have k9 := ok_xp (k := 5) (i := (o0.1 0).toNatClampNeg) (v := v2) k_o0 (iv_w (a := 0) (b := 3) (by decide) (by decide) i3)
      have r10 := fr_xp (k := 5) (i := (o0.1 0).toNatClampNeg) (v := v2) r_o0 rfl
      refine tt_kv (P := fun z => (2 : Int) ≤ z.toInt ∧ z.toInt ≤ 8) (iv_shl (p := 1) (q := 3) (show (1 : Int) ≤ (1 : Int32).toInt ∧ (1 : Int32).toInt ≤ 1 by decide) i3 (by decide) (by decide) (by decide) (by decide) (by decide)) (fun x11 i12 => ?_)
      refine tt_b (sTx_bits _ _ _ k_o1 (iv_w (a := 0) (b := 4) (by decide) (by decide) (show (4 : Int) ≤ (4 : Int32).toInt ∧ (4 : Int32).toInt ≤ 4 by decide)) (iv_w (a := 1) (b := 8) (by decide) (by decide) i12) f_o1_4 (iv_w (a := 1) (b := 5) (by decide) (by decide) f_o1_5)) (fun q13 hq13 => ?_)
      obtain ⟨i_q13, -⟩ := hq13
      refine tt_n (ix_ok f_o0_0 (by decide) (by decide)) ?_
      refine tt_ko ?_
      have k14 := ok_xp (k := 6) (i := (o0.1 0).toNatClampNeg) (v := q13) k9 (iv_w (a := (-2147483648)) (b := 2147483647) (by decide) (by decide) i_q13)
      have r15 := fr_xp (k := 6) (i := (o0.1 0).toNatClampNeg) (v := q13) r10 rfl
      refine tt_n (ix_ok f_o0_0 (by decide) (by decide)) ?_
      refine tt_kl (fun x16 => ?_)
      refine tt_kv (P := fun z => ((-2147483648) : Int) ≤ z.toInt ∧ z.toInt ≤ 2147483647) (iv_top _) (fun x17 i18 => ?_)
      refine tt_if (fun c19 => ?_) (fun c19 => ?_)
      · have i20 : (0 : Int) ≤ x17.toInt ∧ x17.toInt ≤ 0 := nr_eql c19 i18 (show (0 : Int) ≤ (0 : Int32).toInt ∧ (0 : Int32).toInt ≤ 0 by decide) (by decide) (by decide)
        try unfold fLi_takeCell_145
        try unfold fLi_takeCell_146
        refine tt_w (iv_b (show (0 : Int) ≤ (0 : Int32).toInt ∧ (0 : Int32).toInt ≤ 0 by decide) (by decide) (by decide)) ?_
        exact tt_some ⟨(iv_w (a := 0) (b := 1) (by decide) (by decide) (show (0 : Int) ≤ (0 : Int32).toInt ∧ (0 : Int32).toInt ≤ 0 by decide)), k14, r15, trivial⟩
      · refine tt_n (ix_ok f_o0_0 (by decide) (by decide)) ?_
        refine tt_kv (P := fun z => ((-2147483648) : Int) ≤ z.toInt ∧ z.toInt ≤ 2147483647) (k14.2 3 _) (fun x21 i22 => ?_)
        refine tt_if (fun c23 => ?_) (fun c23 => ?_)
        · have i24 : ((-1) : Int) ≤ x21.toInt ∧ x21.toInt ≤ (-1) := nr_eql c23 i22 (show ((-1) : Int) ≤ ((-1) : Int32).toInt ∧ ((-1) : Int32).toInt ≤ (-1) by decide) (by decide) (by decide)
          try unfold fLi_takeCell_145
          try unfold fLi_takeCell_146
          refine tt_w (iv_b (show (0 : Int) ≤ (0 : Int32).toInt ∧ (0 : Int32).toInt ≤ 0 by decide) (by decide) (by decide)) ?_
          exact tt_some ⟨(iv_w (a := 0) (b := 1) (by decide) (by decide) (show (0 : Int) ≤ (0 : Int32).toInt ∧ (0 : Int32).toInt ≤ 0 by decide)), k14, r15, trivial⟩
        · refine tt_n (ix_ok f_o0_0 (by decide) (by decide)) ?_
          refine tt_kv (P := fun z => ((-2147483648) : Int) ≤ z.toInt ∧ z.toInt ≤ 2147483647) (k14.2 4 _) (fun x25 i26 => ?_)
          refine tt_if (fun c27 => ?_) (fun c27 => ?_)
          · have i28 : ((-2147483648) : Int) ≤ x25.toInt ∧ x25.toInt ≤ 0 := nr_lel c27 i26 (show (0 : Int) ≤ (0 : Int32).toInt ∧ (0 : Int32).toInt ≤ 0 by decide) (by decide) (by decide)
            try unfold fLi_takeCell_145
            try unfold fLi_takeCell_146
            refine tt_w (iv_b (show (0 : Int) ≤ (0 : Int32).toInt ∧ (0 : Int32).toInt ≤ 0 by decide) (by decide) (by decide)) ?_
            exact tt_some ⟨(iv_w (a := 0) (b := 1) (by decide) (by decide) (show (0 : Int) ≤ (0 : Int32).toInt ∧ (0 : Int32).toInt ≤ 0 by decide)), k14, r15, trivial⟩
          · have i29 : (1 : Int) ≤ x25.toInt ∧ x25.toInt ≤ 2147483647 := nr_nler c27 (show (0 : Int) ≤ (0 : Int32).toInt ∧ (0 : Int32).toInt ≤ 0 by decide) i26 (by decide) (by decide)
            refine tt_n (ix_ok f_o0_0 (by decide) (by decide)) ?_
            refine tt_kv (P := fun z => ((-2147483648) : Int) ≤ z.toInt ∧ z.toInt ≤ 2147483647) (k14.2 6 _) (fun x30 i31 => ?_)
            refine tt_if (fun c32 => ?_) (fun c32 => ?_)
            · have i33 : ((-1) : Int) ≤ x30.toInt ∧ x30.toInt ≤ (-1) := nr_eql c32 i31 (show ((-1) : Int) ≤ ((-1) : Int32).toInt ∧ ((-1) : Int32).toInt ≤ (-1) by decide) (by decide) (by decide)
              try unfold fLi_takeCell_145
              try unfold fLi_takeCell_146
              refine tt_w (iv_b (show (0 : Int) ≤ (0 : Int32).toInt ∧ (0 : Int32).toInt ≤ 0 by decide) (by decide) (by decide)) ?_
              exact tt_some ⟨(iv_w (a := 0) (b := 1) (by decide) (by decide) (show (0 : Int) ≤ (0 : Int32).toInt ∧ (0 : Int32).toInt ≤ 0 by decide)), k14, r15, trivial⟩
            · try unfold fLi_takeCell_146
              refine tt_w (iv_b (show (1 : Int) ≤ (1 : Int32).toInt ∧ (1 : Int32).toInt ≤ 1 by decide) (by decide) (by decide)) ?_
              exact tt_some ⟨(iv_w (a := 0) (b := 1) (by decide) (by decide) (show (1 : Int) ≤ (1 : Int32).toInt ∧ (1 : Int32).toInt ≤ 1 by decide)), k14, r15, trivial⟩
    · refine tt_kv (P := fun z => ((2 : Int) ≤ z.toInt ∧ z.toInt ≤ 4) ∧ z.toInt = v2.toInt + 1) ⟨iv_add i3 (show (1 : Int) ≤ (1 : Int32).toInt ∧ (1 : Int32).toInt ≤ 1 by decide) (by decide) (by decide) (by decide) (by decide), iq_add i3 (show (1 : Int) ≤ (1 : Int32).toInt ∧ (1 : Int32).toInt ≤ 1 by decide) (by decide) (by decide)⟩ (fun x34 qi35 => ?_)
      obtain ⟨i35, ei35⟩ := qi35
      exact H _ _ _ k_o0 r_o0 k_o1 r_o1 (iv_w (a := 1) (b := 4) (by decide) (by decide) i35) f_o0_0 f_o1_4 f_o1_5 (show 0 + (4 - x34.toInt) * 2 < (n : Int) by omega)
set_option maxHeartbeats 4000000 in
set_option maxRecDepth 100000 in
theorem hLi_takeCell (yo0 : cf_O) (yo1 : cf_O) : ∀ n, HLi_takeCell yo0 yo1 n := by
  intro n
  induction n with
  | zero => exact (fun v2 o0 o1 k_o0 r_o0 k_o1 r_o1 i_v2 f_o0_0 f_o1_4 f_o1_5 hm => by exact absurd (show 0 + (4 - v2.toInt) * 2 < (0 : Int) from hm) (by omega))
  | succ n ih => exact (fun v2 o0 o1 k_o0 r_o0 k_o1 r_o1 i_v2 f_o0_0 f_o1_4 f_o1_5 hm => tLi_takeCell_46 ih v2 o0 o1 k_o0 r_o0 k_o1 r_o1 i_v2 f_o0_0 f_o1_4 f_o1_5 (by omega))
set_option maxHeartbeats 4000000 in
set_option maxRecDepth 100000 in
theorem sLi_takeCell (o0 : cf_O) (o1 : cf_O) (k_o0 : okO I_Li o0) (k_o1 : okO I_Tx o1) (f_o0_0 : (0 : Int) ≤ (o0.1 0).toInt ∧ (o0.1 0).toInt ≤ 11) (f_o1_4 : (0 : Int) ≤ (o1.1 4).toInt ∧ (o1.1 4).toInt ≤ 1602) (f_o1_5 : (5 : Int) ≤ (o1.1 5).toInt ∧ (o1.1 5).toInt ≤ 5) : tt (fLi_takeCell o0 o1) (QLi_takeCell o0 o1) := by
  have H := hLi_takeCell o0 o1 cfFU
  have hm : (9 : Int) ≤ (cfFU : Nat) := by decide
  have r_o0 : Fr (fr_M [] [3, 4, 5, 6] [2]) o0 o0 := fr_rfl
  have r_o1 : Fr (fr_M [] [] []) o1 o1 := fr_rfl
  unfold fLi_takeCell fLi_takeCell_0
  refine tt_b (sTx_name _ _ k_o1 (iv_w (a := 1) (b := 8) (by decide) (by decide) (show (1 : Int) ≤ (1 : Int32).toInt ∧ (1 : Int32).toInt ≤ 1 by decide)) f_o1_4 (iv_w (a := 2) (b := 9) (by decide) (by decide) f_o1_5)) (fun q1 hq1 => ?_)
  refine tt_n (ix_ok f_o0_0 (by decide) (by decide)) ?_
  refine tt_ko ?_
  have k2 := ok_yp (k := 2) (i := (o0.1 0).toNatClampNeg) (v := q1) k_o0
  have r3 := fr_yp (k := 2) (i := (o0.1 0).toNatClampNeg) (v := q1) r_o0 rfl
  refine tt_b (sTx_digits _ _ _ k_o1 (iv_w (a := 2) (b := 3) (by decide) (by decide) (show (2 : Int) ≤ (2 : Int32).toInt ∧ (2 : Int32).toInt ≤ 2 by decide)) (iv_w (a := 2) (b := 3) (by decide) (by decide) (show (3 : Int) ≤ (3 : Int32).toInt ∧ (3 : Int32).toInt ≤ 3 by decide)) f_o1_4 f_o1_5) (fun q4 hq4 => ?_)
  refine tt_n (ix_ok f_o0_0 (by decide) (by decide)) ?_
  refine tt_ko ?_
  have k5 := ok_xp (k := 3) (i := (o0.1 0).toNatClampNeg) (v := q4) k2 (iv_top q4)
  have r6 := fr_xp (k := 3) (i := (o0.1 0).toNatClampNeg) (v := q4) r3 rfl
  refine tt_b (sTx_digits _ _ _ k_o1 (iv_w (a := 2) (b := 3) (by decide) (by decide) (show (3 : Int) ≤ (3 : Int32).toInt ∧ (3 : Int32).toInt ≤ 3 by decide)) (iv_w (a := 2) (b := 3) (by decide) (by decide) (show (2 : Int) ≤ (2 : Int32).toInt ∧ (2 : Int32).toInt ≤ 2 by decide)) f_o1_4 f_o1_5) (fun q7 hq7 => ?_)
  refine tt_n (ix_ok f_o0_0 (by decide) (by decide)) ?_
  refine tt_ko ?_
  have k8 := ok_xp (k := 4) (i := (o0.1 0).toNatClampNeg) (v := q7) k5 (iv_top q7)
  have r9 := fr_xp (k := 4) (i := (o0.1 0).toNatClampNeg) (v := q7) r6 rfl
  exact H _ _ _ k8 r9 k_o1 r_o1 (iv_w (a := 1) (b := 4) (by decide) (by decide) (show (1 : Int) ≤ (1 : Int32).toInt ∧ (1 : Int32).toInt ≤ 1 by decide)) f_o0_0 f_o1_4 f_o1_5 (show 0 + (4 - 1) * 2 < ((cfFU : Nat) : Int) by omega)
def QLi_scanLine (o0 : cf_O) (o1 : cf_O) (r : (Int32 × cf_O)) : Prop := ((0 : Int) ≤ r.1.toInt ∧ r.1.toInt ≤ 2) ∧ (okO I_Li r.2) ∧ (Fr (fr_M [0] [3, 4, 5, 6] [2]) o0 r.2) ∧ True
def HLi_scanLine (yo0 : cf_O) (yo1 : cf_O) (n : Nat) : Prop := (∀ (v2 : Int32) (o0 : cf_O) (o1 : cf_O), (okO I_Li o0) → (Fr (fr_M [0] [3, 4, 5, 6] [2]) yo0 o0) → (okO I_Tx o1) → (Fr (fr_M [] [] []) yo1 o1) → ((0 : Int) ≤ v2.toInt ∧ v2.toInt ≤ 11) → ((0 : Int) ≤ (o0.1 0).toInt ∧ (o0.1 0).toInt ≤ 11) → ((0 : Int) ≤ (o1.1 4).toInt ∧ (o1.1 4).toInt ≤ 1602) → ((5 : Int) ≤ (o1.1 5).toInt ∧ (o1.1 5).toInt ≤ 5) → 0 + (11 - v2.toInt) * 2 < (n : Int) → tt (gLi_scanLine n 0 v2 o0 o1) (QLi_scanLine yo0 yo1))
set_option maxHeartbeats 4000000 in
set_option maxRecDepth 100000 in
theorem tLi_scanLine_70 {yo0 : cf_O} {yo1 : cf_O} {n : Nat} (H : HLi_scanLine yo0 yo1 n) (v2 : Int32) (o0 : cf_O) (o1 : cf_O) (k_o0 : okO I_Li o0) (r_o0 : Fr (fr_M [0] [3, 4, 5, 6] [2]) yo0 o0) (k_o1 : okO I_Tx o1) (r_o1 : Fr (fr_M [] [] []) yo1 o1) (i_v2 : (0 : Int) ≤ v2.toInt ∧ v2.toInt ≤ 11) (f_o0_0 : (0 : Int) ≤ (o0.1 0).toInt ∧ (o0.1 0).toInt ≤ 11) (f_o1_4 : (0 : Int) ≤ (o1.1 4).toInt ∧ (o1.1 4).toInt ≤ 1602) (f_o1_5 : (5 : Int) ≤ (o1.1 5).toInt ∧ (o1.1 5).toInt ≤ 5) (hm : 0 + (11 - v2.toInt) * 2 ≤ (n : Int)) : tt (fLi_scanLine_70 (gLi_scanLine n) v2 o0 o1) (QLi_scanLine yo0 yo1) := by
  unfold fLi_scanLine_70
  refine tt_if (fun c1 => ?_) (fun c1 => ?_)
  · refine tt_kv (P := fun z => ((1 : Int) ≤ z.toInt ∧ z.toInt ≤ 12) ∧ z.toInt = (o0.1 0).toInt + 1) ⟨iv_add f_o0_0 (show (1 : Int) ≤ (1 : Int32).toInt ∧ (1 : Int32).toInt ≤ 1 by decide) (by decide) (by decide) (by decide) (by decide), iq_add f_o0_0 (show (1 : Int) ≤ (1 : Int32).toInt ∧ (1 : Int32).toInt ≤ 1 by decide) (by decide) (by decide)⟩ (fun x2 qi3 => ?_)
    obtain ⟨i3, ei3⟩ := qi3
    refine tt_ko ?_
    have k4 := ok_fp (k := 0) (v := x2) k_o0 (iv_w (a := 0) (b := 12) (by decide) (by decide) i3)
    have r5 := fr_fp (k := 0) (v := x2) r_o0 rfl
    exact tt_some ⟨(iv_w (a := 0) (b := 2) (by decide) (by decide) (show (0 : Int) ≤ (0 : Int32).toInt ∧ (0 : Int32).toInt ≤ 0 by decide)), k4, r5, trivial⟩
  · have i6 : (0 : Int) ≤ v2.toInt ∧ v2.toInt ≤ 10 := nr_nlel c1 i_v2 f_o0_0 (by decide) (by decide)
    have i7 : (1 : Int) ≤ (o0.1 0).toInt ∧ (o0.1 0).toInt ≤ 11 := nr_nler c1 i_v2 f_o0_0 (by decide) (by decide)
    refine tt_n (ix_ok i6 (by decide) (by decide)) ?_
    refine tt_kl (fun x8 => ?_)
    refine tt_n (ix_ok i7 (by decide) (by decide)) ?_
    refine tt_kl (fun x9 => ?_)
    refine tt_kv (P := fun z => ((-2147483648) : Int) ≤ z.toInt ∧ z.toInt ≤ 2147483647) (iv_top _) (fun x10 i11 => ?_)
    refine tt_if (fun c12 => ?_) (fun c12 => ?_)
    · have i13 : (0 : Int) ≤ x10.toInt ∧ x10.toInt ≤ 0 := nr_eql c12 i11 (show (0 : Int) ≤ (0 : Int32).toInt ∧ (0 : Int32).toInt ≤ 0 by decide) (by decide) (by decide)
      exact tt_some ⟨(iv_w (a := 0) (b := 2) (by decide) (by decide) (show (2 : Int) ≤ (2 : Int32).toInt ∧ (2 : Int32).toInt ≤ 2 by decide)), k_o0, r_o0, trivial⟩
    · refine tt_kv (P := fun z => ((1 : Int) ≤ z.toInt ∧ z.toInt ≤ 11) ∧ z.toInt = v2.toInt + 1) ⟨iv_add i6 (show (1 : Int) ≤ (1 : Int32).toInt ∧ (1 : Int32).toInt ≤ 1 by decide) (by decide) (by decide) (by decide) (by decide), iq_add i6 (show (1 : Int) ≤ (1 : Int32).toInt ∧ (1 : Int32).toInt ≤ 1 by decide) (by decide) (by decide)⟩ (fun x14 qi15 => ?_)
      obtain ⟨i15, ei15⟩ := qi15
      exact H _ _ _ k_o0 r_o0 k_o1 r_o1 (iv_w (a := 0) (b := 11) (by decide) (by decide) i15) (iv_w (a := 0) (b := 11) (by decide) (by decide) i7) f_o1_4 f_o1_5 (show 0 + (11 - x14.toInt) * 2 < (n : Int) by omega)
set_option maxHeartbeats 4000000 in
set_option maxRecDepth 100000 in
theorem hLi_scanLine (yo0 : cf_O) (yo1 : cf_O) : ∀ n, HLi_scanLine yo0 yo1 n := by
  intro n
  induction n with
  | zero => exact (fun v2 o0 o1 k_o0 r_o0 k_o1 r_o1 i_v2 f_o0_0 f_o1_4 f_o1_5 hm => by exact absurd (show 0 + (11 - v2.toInt) * 2 < (0 : Int) from hm) (by omega))
  | succ n ih => exact (fun v2 o0 o1 k_o0 r_o0 k_o1 r_o1 i_v2 f_o0_0 f_o1_4 f_o1_5 hm => tLi_scanLine_70 ih v2 o0 o1 k_o0 r_o0 k_o1 r_o1 i_v2 f_o0_0 f_o1_4 f_o1_5 (by omega))
set_option maxHeartbeats 4000000 in
set_option maxRecDepth 100000 in
theorem sLi_scanLine (o0 : cf_O) (o1 : cf_O) (k_o0 : okO I_Li o0) (k_o1 : okO I_Tx o1) (f_o1_4 : (0 : Int) ≤ (o1.1 4).toInt ∧ (o1.1 4).toInt ≤ 1602) : tt (fLi_scanLine o0 o1) (QLi_scanLine o0 o1) := by
  have H := hLi_scanLine o0 o1 cfFU
  have hm : (25 : Int) ≤ (cfFU : Nat) := by decide
  have r_o0 : Fr (fr_M [0] [3, 4, 5, 6] [2]) o0 o0 := fr_rfl
  have r_o1 : Fr (fr_M [] [] []) o1 o1 := fr_rfl
  unfold fLi_scanLine fLi_scanLine_0
  refine tt_b (sTx_isWord_S0 _ _ k_o1 (show (0 : Int) ≤ (0 : Int32).toInt ∧ (0 : Int32).toInt ≤ 0 by decide) f_o1_4) (fun q1 hq1 => ?_)
  obtain ⟨i_q1, -⟩ := hq1
  refine tt_if (fun c2 => ?_) (fun c2 => ?_)
  · have i3 : (0 : Int) ≤ q1.toInt ∧ q1.toInt ≤ 0 := nr_eql c2 i_q1 (show (0 : Int) ≤ (0 : Int32).toInt ∧ (0 : Int32).toInt ≤ 0 by decide) (by decide) (by decide)
    refine tt_b (sTx_isWord_S1 _ _ k_o1 (show (0 : Int) ≤ (0 : Int32).toInt ∧ (0 : Int32).toInt ≤ 0 by decide) f_o1_4) (fun q4 hq4 => ?_)
    obtain ⟨i_q4, -⟩ := hq4
    refine tt_if (fun c5 => ?_) (fun c5 => ?_)
    · have i6 : (0 : Int) ≤ q4.toInt ∧ q4.toInt ≤ 0 := nr_eql c5 i_q4 (show (0 : Int) ≤ (0 : Int32).toInt ∧ (0 : Int32).toInt ≤ 0 by decide) (by decide) (by decide)
      try unfold fLi_scanLine_66
      exact tt_some ⟨(iv_w (a := 0) (b := 2) (by decide) (by decide) (show (1 : Int) ≤ (1 : Int32).toInt ∧ (1 : Int32).toInt ≤ 1 by decide)), k_o0, r_o0, trivial⟩
    · have i7 : (1 : Int) ≤ q4.toInt ∧ q4.toInt ≤ 1 := nr_nela c5 i_q4 (show (0 : Int) ≤ (0 : Int32).toInt ∧ (0 : Int32).toInt ≤ 0 by decide) (by decide) (by decide)
      refine tt_if (fun c8 => ?_) (fun c8 => ?_)
      · have i9 : (5 : Int) ≤ (o1.1 5).toInt ∧ (o1.1 5).toInt ≤ 5 := nr_eql c8 (k_o1.1 5) (show (5 : Int) ≤ (5 : Int32).toInt ∧ (5 : Int32).toInt ≤ 5 by decide) (by decide) (by decide)
        refine tt_if (fun c10 => ?_) (fun c10 => ?_)
        · have i11 : (12 : Int) ≤ (o0.1 0).toInt ∧ (o0.1 0).toInt ≤ 12 := nr_eql c10 (k_o0.1 0) (show (12 : Int) ≤ (12 : Int32).toInt ∧ (12 : Int32).toInt ≤ 12 by decide) (by decide) (by decide)
          try unfold fLi_scanLine_66
          exact tt_some ⟨(iv_w (a := 0) (b := 2) (by decide) (by decide) (show (1 : Int) ≤ (1 : Int32).toInt ∧ (1 : Int32).toInt ≤ 1 by decide)), k_o0, r_o0, trivial⟩
        · have i12 : (0 : Int) ≤ (o0.1 0).toInt ∧ (o0.1 0).toInt ≤ 11 := nr_nelb c10 (k_o0.1 0) (show (12 : Int) ≤ (12 : Int32).toInt ∧ (12 : Int32).toInt ≤ 12 by decide) (by decide) (by decide)
          refine tt_b (sLi_takeCell _ _ k_o0 k_o1 i12 f_o1_4 i9) (fun q13 hq13 => ?_)
          obtain ⟨i_q13, k_q13_2, n_q13_2, -⟩ := hq13
          have r_q13_2 := fr_tr r_o0 n_q13_2 rfl rfl rfl
          have f_q13_2_0 : (0 : Int) ≤ (q13.2.1 0).toInt ∧ (q13.2.1 0).toInt ≤ 11 := by rw [n_q13_2.1 0 rfl]; exact i12
          refine tt_if (fun c14 => ?_) (fun c14 => ?_)
          · have i15 : (0 : Int) ≤ q13.1.toInt ∧ q13.1.toInt ≤ 0 := nr_eql c14 i_q13 (show (0 : Int) ≤ (0 : Int32).toInt ∧ (0 : Int32).toInt ≤ 0 by decide) (by decide) (by decide)
            try unfold fLi_scanLine_66
            exact tt_some ⟨(iv_w (a := 0) (b := 2) (by decide) (by decide) (show (1 : Int) ≤ (1 : Int32).toInt ∧ (1 : Int32).toInt ≤ 1 by decide)), k_q13_2, r_q13_2, trivial⟩
          · have i16 : (1 : Int) ≤ q13.1.toInt ∧ q13.1.toInt ≤ 1 := nr_nela c14 i_q13 (show (0 : Int) ≤ (0 : Int32).toInt ∧ (0 : Int32).toInt ≤ 0 by decide) (by decide) (by decide)
            exact H _ _ _ k_q13_2 r_q13_2 k_o1 r_o1 (iv_w (a := 0) (b := 11) (by decide) (by decide) (show (0 : Int) ≤ (0 : Int32).toInt ∧ (0 : Int32).toInt ≤ 0 by decide)) f_q13_2_0 f_o1_4 i9 (show 0 + (11 - 0) * 2 < ((cfFU : Nat) : Int) by omega)
      · try unfold fLi_scanLine_66
        exact tt_some ⟨(iv_w (a := 0) (b := 2) (by decide) (by decide) (show (1 : Int) ≤ (1 : Int32).toInt ∧ (1 : Int32).toInt ≤ 1 by decide)), k_o0, r_o0, trivial⟩
  · have i17 : (1 : Int) ≤ q1.toInt ∧ q1.toInt ≤ 1 := nr_nela c2 i_q1 (show (0 : Int) ≤ (0 : Int32).toInt ∧ (0 : Int32).toInt ≤ 0 by decide) (by decide) (by decide)
    refine tt_if (fun c18 => ?_) (fun c18 => ?_)
    · have i19 : (1 : Int) ≤ (o1.1 5).toInt ∧ (o1.1 5).toInt ≤ 1 := nr_eql c18 (k_o1.1 5) (show (1 : Int) ≤ (1 : Int32).toInt ∧ (1 : Int32).toInt ≤ 1 by decide) (by decide) (by decide)
      refine tt_if (fun c20 => ?_) (fun c20 => ?_)
      · have i21 : (0 : Int) ≤ (o0.1 0).toInt ∧ (o0.1 0).toInt ≤ 0 := nr_lel c20 (k_o0.1 0) (show (0 : Int) ≤ (0 : Int32).toInt ∧ (0 : Int32).toInt ≤ 0 by decide) (by decide) (by decide)
        try unfold fLi_scanLine_29
        try unfold fLi_scanLine_30
        exact tt_some ⟨(iv_w (a := 0) (b := 2) (by decide) (by decide) (show (1 : Int) ≤ (1 : Int32).toInt ∧ (1 : Int32).toInt ≤ 1 by decide)), k_o0, r_o0, trivial⟩
      · have i22 : (1 : Int) ≤ (o0.1 0).toInt ∧ (o0.1 0).toInt ≤ 12 := nr_nler c20 (show (0 : Int) ≤ (0 : Int32).toInt ∧ (0 : Int32).toInt ≤ 0 by decide) (k_o0.1 0) (by decide) (by decide)
        try unfold fLi_scanLine_30
        exact tt_some ⟨(iv_w (a := 0) (b := 2) (by decide) (by decide) (show (0 : Int) ≤ (0 : Int32).toInt ∧ (0 : Int32).toInt ≤ 0 by decide)), k_o0, r_o0, trivial⟩
    · try unfold fLi_scanLine_29
      try unfold fLi_scanLine_30
      exact tt_some ⟨(iv_w (a := 0) (b := 2) (by decide) (by decide) (show (1 : Int) ≤ (1 : Int32).toInt ∧ (1 : Int32).toInt ≤ 1 by decide)), k_o0, r_o0, trivial⟩
def QLi_isQuicker (v1 : Int32) (v2 : Int32) (o0 : cf_O) (r : (Int32)) : Prop := ((0 : Int) ≤ r.toInt ∧ r.toInt ≤ 1) ∧ True
set_option maxHeartbeats 4000000 in
set_option maxRecDepth 100000 in
theorem sLi_isQuicker (v1 : Int32) (v2 : Int32) (o0 : cf_O) (k_o0 : okO I_Li o0) (i_v1 : (0 : Int) ≤ v1.toInt ∧ v1.toInt ≤ 11) (i_v2 : (0 : Int) ≤ v2.toInt ∧ v2.toInt ≤ 11) (f_o0_0 : (1 : Int) ≤ (o0.1 0).toInt ∧ (o0.1 0).toInt ≤ 12) (f_o0_1 : (0 : Int) ≤ (o0.1 1).toInt ∧ (o0.1 1).toInt ≤ 11) : tt (fLi_isQuicker v1 v2 o0) (QLi_isQuicker v1 v2 o0) := by
  have r_o0 : Fr (fr_M [] [] []) o0 o0 := fr_rfl
  unfold fLi_isQuicker fLi_isQuicker_0
  refine tt_n (ix_ok i_v1 (by decide) (by decide)) ?_
  refine tt_kv (P := fun z => ((-2147483648) : Int) ≤ z.toInt ∧ z.toInt ≤ 2147483647) (k_o0.2 4 _) (fun x1 i2 => ?_)
  refine tt_n (ix_ok i_v2 (by decide) (by decide)) ?_
  refine tt_kv (P := fun z => ((-2147483648) : Int) ≤ z.toInt ∧ z.toInt ≤ 2147483647) (k_o0.2 4 _) (fun x3 i4 => ?_)
  refine tt_if (fun c5 => ?_) (fun c5 => ?_)
  · have i6 : ((-2147483648) : Int) ≤ x1.toInt ∧ x1.toInt ≤ 2147483646 := nr_ltl c5 i2 i4 (by decide) (by decide)
    have i7 : ((-2147483647) : Int) ≤ x3.toInt ∧ x3.toInt ≤ 2147483647 := nr_ltr c5 i2 i4 (by decide) (by decide)
    try unfold fLi_isQuicker_45
    try unfold fLi_isQuicker_50
    refine tt_w (iv_b (show (1 : Int) ≤ (1 : Int32).toInt ∧ (1 : Int32).toInt ≤ 1 by decide) (by decide) (by decide)) ?_
    exact tt_some ⟨(iv_w (a := 0) (b := 1) (by decide) (by decide) (show (1 : Int) ≤ (1 : Int32).toInt ∧ (1 : Int32).toInt ≤ 1 by decide)), trivial⟩
  · refine tt_n (ix_ok i_v1 (by decide) (by decide)) ?_
    refine tt_kv (P := fun z => ((-2147483648) : Int) ≤ z.toInt ∧ z.toInt ≤ 2147483647) (k_o0.2 4 _) (fun x8 i9 => ?_)
    refine tt_n (ix_ok i_v2 (by decide) (by decide)) ?_
    refine tt_kv (P := fun z => ((-2147483648) : Int) ≤ z.toInt ∧ z.toInt ≤ 2147483647) (k_o0.2 4 _) (fun x10 i11 => ?_)
    refine tt_if (fun c12 => ?_) (fun c12 => ?_)
    · refine tt_n (ix_ok i_v1 (by decide) (by decide)) ?_
      refine tt_kv (P := fun z => ((-2147483648) : Int) ≤ z.toInt ∧ z.toInt ≤ 2147483647) (k_o0.2 3 _) (fun x13 i14 => ?_)
      refine tt_n (ix_ok i_v2 (by decide) (by decide)) ?_
      refine tt_kv (P := fun z => ((-2147483648) : Int) ≤ z.toInt ∧ z.toInt ≤ 2147483647) (k_o0.2 3 _) (fun x15 i16 => ?_)
      refine tt_if (fun c17 => ?_) (fun c17 => ?_)
      · try unfold fLi_isQuicker_49
        try unfold fLi_isQuicker_50
        refine tt_w (iv_b (show (0 : Int) ≤ (0 : Int32).toInt ∧ (0 : Int32).toInt ≤ 0 by decide) (by decide) (by decide)) ?_
        exact tt_some ⟨(iv_w (a := 0) (b := 1) (by decide) (by decide) (show (0 : Int) ≤ (0 : Int32).toInt ∧ (0 : Int32).toInt ≤ 0 by decide)), trivial⟩
      · have i18 : ((-2147483648) : Int) ≤ x13.toInt ∧ x13.toInt ≤ 2147483646 := nr_nlel c17 i14 i16 (by decide) (by decide)
        have i19 : ((-2147483647) : Int) ≤ x15.toInt ∧ x15.toInt ≤ 2147483647 := nr_nler c17 i14 i16 (by decide) (by decide)
        try unfold fLi_isQuicker_45
        try unfold fLi_isQuicker_50
        refine tt_w (iv_b (show (1 : Int) ≤ (1 : Int32).toInt ∧ (1 : Int32).toInt ≤ 1 by decide) (by decide) (by decide)) ?_
        exact tt_some ⟨(iv_w (a := 0) (b := 1) (by decide) (by decide) (show (1 : Int) ≤ (1 : Int32).toInt ∧ (1 : Int32).toInt ≤ 1 by decide)), trivial⟩
    · try unfold fLi_isQuicker_49
      try unfold fLi_isQuicker_50
      refine tt_w (iv_b (show (0 : Int) ≤ (0 : Int32).toInt ∧ (0 : Int32).toInt ≤ 0 by decide) (by decide) (by decide)) ?_
      exact tt_some ⟨(iv_w (a := 0) (b := 1) (by decide) (by decide) (show (0 : Int) ≤ (0 : Int32).toInt ∧ (0 : Int32).toInt ≤ 0 by decide)), trivial⟩
def QLi_findInverter (o0 : cf_O) (r : (cf_O)) : Prop := (okO I_Li r) ∧ (Fr (fr_M [1] [] []) o0 r) ∧ (Ivr (r.1 1).toInt (r.2.1 5)) ∧ True
def HLi_findInverter (yo0 : cf_O) (n : Nat) : Prop := (∀ (v1 : Int32) (o0 : cf_O), (okO I_Li o0) → (Fr (fr_M [1] [] []) yo0 o0) → ((0 : Int) ≤ v1.toInt ∧ v1.toInt ≤ 12) → (Ivr (o0.1 1).toInt (o0.2.1 5)) → 0 + (12 - v1.toInt) * 2 < (n : Int) → tt (gLi_findInverter n 0 v1 o0) (QLi_findInverter yo0))
set_option maxHeartbeats 4000000 in
set_option maxRecDepth 100000 in
theorem tLi_findInverter_7 {yo0 : cf_O} {n : Nat} (H : HLi_findInverter yo0 n) (v1 : Int32) (o0 : cf_O) (k_o0 : okO I_Li o0) (r_o0 : Fr (fr_M [1] [] []) yo0 o0) (i_v1 : (0 : Int) ≤ v1.toInt ∧ v1.toInt ≤ 12) (x_0 : Ivr (o0.1 1).toInt (o0.2.1 5)) (hm : 0 + (12 - v1.toInt) * 2 ≤ (n : Int)) : tt (fLi_findInverter_7 (gLi_findInverter n) v1 o0) (QLi_findInverter yo0) := by
  unfold fLi_findInverter_7
  refine tt_if (fun c1 => ?_) (fun c1 => ?_)
  · have wc1 : (o0.1 0).toInt ≤ v1.toInt := c_le c1
    exact tt_some ⟨k_o0, r_o0, x_0, trivial⟩
  · have wc1 : v1.toInt < (o0.1 0).toInt := c_nle c1
    have i2 : (0 : Int) ≤ v1.toInt ∧ v1.toInt ≤ 11 := nr_nlel c1 i_v1 (k_o0.1 0) (by decide) (by decide)
    have i3 : (1 : Int) ≤ (o0.1 0).toInt ∧ (o0.1 0).toInt ≤ 12 := nr_nler c1 i_v1 (k_o0.1 0) (by decide) (by decide)
    refine tt_n (ix_ok i2 (by decide) (by decide)) ?_
    refine tt_kv (P := fun z => ((0 : Int) ≤ z.toInt ∧ z.toInt ≤ 3) ∧ z.toInt = (o0.2.1 5 v1.toNatClampNeg).toInt) ⟨(k_o0.2 5 _), rfl⟩ (fun x4 qi5 => ?_)
    obtain ⟨i5, ei5⟩ := qi5
    refine tt_if (fun c6 => ?_) (fun c6 => ?_)
    · have wc6 : x4.toInt = (1 : Int) := c_eq c6
      have i7 : (1 : Int) ≤ x4.toInt ∧ x4.toInt ≤ 1 := nr_eql c6 i5 (show (1 : Int) ≤ (1 : Int32).toInt ∧ (1 : Int32).toInt ≤ 1 by decide) (by decide) (by decide)
      refine tt_n (ix_ok i2 (by decide) (by decide)) ?_
      refine tt_kv (P := fun z => (((-2147483648) : Int) ≤ z.toInt ∧ z.toInt ≤ 2147483647) ∧ z.toInt = (o0.2.1 6 v1.toNatClampNeg).toInt) ⟨(k_o0.2 6 _), rfl⟩ (fun x8 qi9 => ?_)
      obtain ⟨i9, ei9⟩ := qi9
      refine tt_if (fun c10 => ?_) (fun c10 => ?_)
      · have wc10 : x8.toInt = (1 : Int) := c_eq c10
        have i11 : (1 : Int) ≤ x8.toInt ∧ x8.toInt ≤ 1 := nr_eql c10 i9 (show (1 : Int) ≤ (1 : Int32).toInt ∧ (1 : Int32).toInt ≤ 1 by decide) (by decide) (by decide)
        refine tt_if (fun c12 => ?_) (fun c12 => ?_)
        · have wc12 : (o0.1 1).toInt = ((-1) : Int) := c_eq c12
          have i13 : ((-1) : Int) ≤ (o0.1 1).toInt ∧ (o0.1 1).toInt ≤ (-1) := nr_eql c12 (k_o0.1 1) (show ((-1) : Int) ≤ ((-1) : Int32).toInt ∧ ((-1) : Int32).toInt ≤ (-1) by decide) (by decide) (by decide)
          try unfold fLi_findInverter_55
          refine tt_ko ?_
          have k14 := ok_fp (k := 1) (v := v1) k_o0 (iv_w (a := (-1)) (b := 11) (by decide) (by decide) i2)
          have r15 := fr_fp (k := 1) (v := v1) r_o0 rfl
          try unfold fLi_findInverter_60
          refine tt_kv (P := fun z => ((1 : Int) ≤ z.toInt ∧ z.toInt ≤ 12) ∧ z.toInt = v1.toInt + 1) ⟨iv_add i2 (show (1 : Int) ≤ (1 : Int32).toInt ∧ (1 : Int32).toInt ≤ 1 by decide) (by decide) (by decide) (by decide) (by decide), iq_add i2 (show (1 : Int) ≤ (1 : Int32).toInt ∧ (1 : Int32).toInt ≤ 1 by decide) (by decide) (by decide)⟩ (fun x16 qi17 => ?_)
          obtain ⟨i17, ei17⟩ := qi17
          have p18 : Ivr v1.toInt (o0.2.1 5) := by first | exact x_0 | exact Or.inr ⟨by omega, (show (o0.2.1 5 v1.toNatClampNeg).toInt = 1 by omega)⟩
          exact H _ _ k14 r15 (iv_w (a := 0) (b := 12) (by decide) (by decide) i17) p18 (show 0 + (12 - x16.toInt) * 2 < (n : Int) by omega)
        · have wc12 : ¬ (o0.1 1).toInt = ((-1) : Int) := c_ne c12
          have i19 : (0 : Int) ≤ (o0.1 1).toInt ∧ (o0.1 1).toInt ≤ 11 := nr_nela c12 (k_o0.1 1) (show ((-1) : Int) ≤ ((-1) : Int32).toInt ∧ ((-1) : Int32).toInt ≤ (-1) by decide) (by decide) (by decide)
          refine tt_b (sLi_isQuicker _ _ _ k_o0 i2 i19 i3 i19) (fun q20 hq20 => ?_)
          obtain ⟨i_q20, -⟩ := hq20
          refine tt_if (fun c21 => ?_) (fun c21 => ?_)
          · have wc21 : q20.toInt = (0 : Int) := c_eq c21
            have i22 : (0 : Int) ≤ q20.toInt ∧ q20.toInt ≤ 0 := nr_eql c21 i_q20 (show (0 : Int) ≤ (0 : Int32).toInt ∧ (0 : Int32).toInt ≤ 0 by decide) (by decide) (by decide)
            try unfold fLi_findInverter_60
            refine tt_kv (P := fun z => ((1 : Int) ≤ z.toInt ∧ z.toInt ≤ 12) ∧ z.toInt = v1.toInt + 1) ⟨iv_add i2 (show (1 : Int) ≤ (1 : Int32).toInt ∧ (1 : Int32).toInt ≤ 1 by decide) (by decide) (by decide) (by decide) (by decide), iq_add i2 (show (1 : Int) ≤ (1 : Int32).toInt ∧ (1 : Int32).toInt ≤ 1 by decide) (by decide) (by decide)⟩ (fun x23 qi24 => ?_)
            obtain ⟨i24, ei24⟩ := qi24
            exact H _ _ k_o0 r_o0 (iv_w (a := 0) (b := 12) (by decide) (by decide) i24) x_0 (show 0 + (12 - x23.toInt) * 2 < (n : Int) by omega)
          · have wc21 : ¬ q20.toInt = (0 : Int) := c_ne c21
            have i25 : (1 : Int) ≤ q20.toInt ∧ q20.toInt ≤ 1 := nr_nela c21 i_q20 (show (0 : Int) ≤ (0 : Int32).toInt ∧ (0 : Int32).toInt ≤ 0 by decide) (by decide) (by decide)
            try unfold fLi_findInverter_55
            refine tt_ko ?_
            have k26 := ok_fp (k := 1) (v := v1) k_o0 (iv_w (a := (-1)) (b := 11) (by decide) (by decide) i2)
            have r27 := fr_fp (k := 1) (v := v1) r_o0 rfl
            try unfold fLi_findInverter_60
            refine tt_kv (P := fun z => ((1 : Int) ≤ z.toInt ∧ z.toInt ≤ 12) ∧ z.toInt = v1.toInt + 1) ⟨iv_add i2 (show (1 : Int) ≤ (1 : Int32).toInt ∧ (1 : Int32).toInt ≤ 1 by decide) (by decide) (by decide) (by decide) (by decide), iq_add i2 (show (1 : Int) ≤ (1 : Int32).toInt ∧ (1 : Int32).toInt ≤ 1 by decide) (by decide) (by decide)⟩ (fun x28 qi29 => ?_)
            obtain ⟨i29, ei29⟩ := qi29
            have p30 : Ivr v1.toInt (o0.2.1 5) := by first | exact x_0 | exact Or.inr ⟨by omega, (show (o0.2.1 5 v1.toNatClampNeg).toInt = 1 by omega)⟩
            exact H _ _ k26 r27 (iv_w (a := 0) (b := 12) (by decide) (by decide) i29) p30 (show 0 + (12 - x28.toInt) * 2 < (n : Int) by omega)
      · have wc10 : ¬ x8.toInt = (1 : Int) := c_ne c10
        try unfold fLi_findInverter_60
        refine tt_kv (P := fun z => ((1 : Int) ≤ z.toInt ∧ z.toInt ≤ 12) ∧ z.toInt = v1.toInt + 1) ⟨iv_add i2 (show (1 : Int) ≤ (1 : Int32).toInt ∧ (1 : Int32).toInt ≤ 1 by decide) (by decide) (by decide) (by decide) (by decide), iq_add i2 (show (1 : Int) ≤ (1 : Int32).toInt ∧ (1 : Int32).toInt ≤ 1 by decide) (by decide) (by decide)⟩ (fun x31 qi32 => ?_)
        obtain ⟨i32, ei32⟩ := qi32
        exact H _ _ k_o0 r_o0 (iv_w (a := 0) (b := 12) (by decide) (by decide) i32) x_0 (show 0 + (12 - x31.toInt) * 2 < (n : Int) by omega)
    · have wc6 : ¬ x4.toInt = (1 : Int) := c_ne c6
      try unfold fLi_findInverter_60
      refine tt_kv (P := fun z => ((1 : Int) ≤ z.toInt ∧ z.toInt ≤ 12) ∧ z.toInt = v1.toInt + 1) ⟨iv_add i2 (show (1 : Int) ≤ (1 : Int32).toInt ∧ (1 : Int32).toInt ≤ 1 by decide) (by decide) (by decide) (by decide) (by decide), iq_add i2 (show (1 : Int) ≤ (1 : Int32).toInt ∧ (1 : Int32).toInt ≤ 1 by decide) (by decide) (by decide)⟩ (fun x33 qi34 => ?_)
      obtain ⟨i34, ei34⟩ := qi34
      exact H _ _ k_o0 r_o0 (iv_w (a := 0) (b := 12) (by decide) (by decide) i34) x_0 (show 0 + (12 - x33.toInt) * 2 < (n : Int) by omega)
set_option maxHeartbeats 4000000 in
set_option maxRecDepth 100000 in
theorem hLi_findInverter (yo0 : cf_O) : ∀ n, HLi_findInverter yo0 n := by
  intro n
  induction n with
  | zero => exact (fun v1 o0 k_o0 r_o0 i_v1 x_0 hm => by exact absurd (show 0 + (12 - v1.toInt) * 2 < (0 : Int) from hm) (by omega))
  | succ n ih => exact (fun v1 o0 k_o0 r_o0 i_v1 x_0 hm => tLi_findInverter_7 ih v1 o0 k_o0 r_o0 i_v1 x_0 (by omega))
set_option maxHeartbeats 4000000 in
set_option maxRecDepth 100000 in
theorem sLi_findInverter (o0 : cf_O) (k_o0 : okO I_Li o0) : tt (fLi_findInverter o0) (QLi_findInverter o0) := by
  have H := hLi_findInverter o0 cfFU
  have hm : (27 : Int) ≤ (cfFU : Nat) := by decide
  have r_o0 : Fr (fr_M [1] [] []) o0 o0 := fr_rfl
  unfold fLi_findInverter fLi_findInverter_0
  refine tt_ko ?_
  have k1 := ok_fp (k := 1) (v := (-1)) k_o0 (iv_w (a := (-1)) (b := 11) (by decide) (by decide) (show ((-1) : Int) ≤ ((-1) : Int32).toInt ∧ ((-1) : Int32).toInt ≤ (-1) by decide))
  have r2 := fr_fp (k := 1) (v := (-1)) r_o0 rfl
  have p3 : Ivr (-1) (o0.2.1 5) := by exact Or.inl rfl
  exact H _ _ k1 r2 (iv_w (a := 0) (b := 12) (by decide) (by decide) (show (0 : Int) ≤ (0 : Int32).toInt ∧ (0 : Int32).toInt ≤ 0 by decide)) p3 (show 0 + (12 - 0) * 2 < ((cfFU : Nat) : Int) by omega)
def QJArrays_fill_AII_Li11 (v1 : Int32) (o0 : cf_O) (r : (cf_O)) : Prop := (okO I_Li r) ∧ (Fr (fr_M [] [11] []) o0 r) ∧ (Fmo 512 (r.2.1 11)) ∧ True
def HJArrays_fill_AII_Li11 (yv1 : Int32) (yo0 : cf_O) (n : Nat) : Prop := (∀ (v1 : Int32) (v2 : Int32) (v3 : Int32) (o0 : cf_O), (okO I_Li o0) → (Fr (fr_M [] [11] []) yo0 o0) → (((-1) : Int) ≤ v1.toInt ∧ v1.toInt ≤ (-1)) → ((0 : Int) ≤ v2.toInt ∧ v2.toInt ≤ 512) → ((512 : Int) ≤ v3.toInt ∧ v3.toInt ≤ 512) → ((0 : Int) ≤ (o0.1 7).toInt ∧ (o0.1 7).toInt ≤ 0) → (Fmo v2.toInt (o0.2.1 11)) → 0 + (512 - v2.toInt) * 2 < (n : Int) → tt (gJArrays_fill_AII_Li11 n 0 v1 v2 v3 o0) (QJArrays_fill_AII_Li11 yv1 yo0))
set_option maxHeartbeats 4000000 in
set_option maxRecDepth 100000 in
theorem tJArrays_fill_AII_Li11_5 {yv1 : Int32} {yo0 : cf_O} {n : Nat} (H : HJArrays_fill_AII_Li11 yv1 yo0 n) (v1 : Int32) (v2 : Int32) (v3 : Int32) (o0 : cf_O) (k_o0 : okO I_Li o0) (r_o0 : Fr (fr_M [] [11] []) yo0 o0) (i_v1 : ((-1) : Int) ≤ v1.toInt ∧ v1.toInt ≤ (-1)) (i_v2 : (0 : Int) ≤ v2.toInt ∧ v2.toInt ≤ 512) (i_v3 : (512 : Int) ≤ v3.toInt ∧ v3.toInt ≤ 512) (f_o0_7 : (0 : Int) ≤ (o0.1 7).toInt ∧ (o0.1 7).toInt ≤ 0) (x_0 : Fmo v2.toInt (o0.2.1 11)) (hm : 0 + (512 - v2.toInt) * 2 ≤ (n : Int)) : tt (fJArrays_fill_AII_Li11_5 (gJArrays_fill_AII_Li11 n) v1 v2 v3 o0) (QJArrays_fill_AII_Li11 yv1 yo0) := by
  unfold fJArrays_fill_AII_Li11_5
  refine tt_if (fun c1 => ?_) (fun c1 => ?_)
  · have wc1 : v3.toInt ≤ v2.toInt := c_le c1
    have i2 : (512 : Int) ≤ v2.toInt ∧ v2.toInt ≤ 512 := nr_ler c1 i_v3 i_v2 (by decide) (by decide)
    have p3 : Fmo 512 (o0.2.1 11) := by exact Fmo_e x_0 (by omega)
    exact tt_some ⟨k_o0, r_o0, p3, trivial⟩
  · have wc1 : v2.toInt < v3.toInt := c_nle c1
    have i4 : (0 : Int) ≤ v2.toInt ∧ v2.toInt ≤ 511 := nr_nlel c1 i_v2 i_v3 (by decide) (by decide)
    refine tt_n (ix_ok i4 (by decide) (by decide)) ?_
    refine tt_ko ?_
    have k5 := ok_xp (k := 11) (i := v2.toNatClampNeg) (v := v1) k_o0 (iv_w (a := (-1)) (b := 575) (by decide) (by decide) i_v1)
    have r6 := fr_xp (k := 11) (i := v2.toNatClampNeg) (v := v1) r_o0 rfl
    refine tt_kv (P := fun z => ((1 : Int) ≤ z.toInt ∧ z.toInt ≤ 512) ∧ z.toInt = v2.toInt + 1) ⟨iv_add i4 (show (1 : Int) ≤ (1 : Int32).toInt ∧ (1 : Int32).toInt ≤ 1 by decide) (by decide) (by decide) (by decide) (by decide), iq_add i4 (show (1 : Int) ≤ (1 : Int32).toInt ∧ (1 : Int32).toInt ≤ 1 by decide) (by decide) (by decide)⟩ (fun x7 qi8 => ?_)
    obtain ⟨i8, ei8⟩ := qi8
    have p9 : Fmo x7.toInt (upd (o0.2.1 11) (v2.toNatClampNeg) v1) := by exact Fmo_s x_0 (by omega) (by rw [tn_n]; omega) (by omega)
    exact H _ _ _ _ k5 r6 i_v1 (iv_w (a := 0) (b := 512) (by decide) (by decide) i8) i_v3 f_o0_7 p9 (show 0 + (512 - x7.toInt) * 2 < (n : Int) by omega)
set_option maxHeartbeats 4000000 in
set_option maxRecDepth 100000 in
theorem hJArrays_fill_AII_Li11 (yv1 : Int32) (yo0 : cf_O) : ∀ n, HJArrays_fill_AII_Li11 yv1 yo0 n := by
  intro n
  induction n with
  | zero => exact (fun v1 v2 v3 o0 k_o0 r_o0 i_v1 i_v2 i_v3 f_o0_7 x_0 hm => by exact absurd (show 0 + (512 - v2.toInt) * 2 < (0 : Int) from hm) (by omega))
  | succ n ih => exact (fun v1 v2 v3 o0 k_o0 r_o0 i_v1 i_v2 i_v3 f_o0_7 x_0 hm => tJArrays_fill_AII_Li11_5 ih v1 v2 v3 o0 k_o0 r_o0 i_v1 i_v2 i_v3 f_o0_7 x_0 (by omega))
set_option maxHeartbeats 4000000 in
set_option maxRecDepth 100000 in
theorem sJArrays_fill_AII_Li11 (v1 : Int32) (o0 : cf_O) (k_o0 : okO I_Li o0) (i_v1 : ((-1) : Int) ≤ v1.toInt ∧ v1.toInt ≤ (-1)) (f_o0_7 : (0 : Int) ≤ (o0.1 7).toInt ∧ (o0.1 7).toInt ≤ 0) : tt (fJArrays_fill_AII_Li11 v1 o0) (QJArrays_fill_AII_Li11 v1 o0) := by
  have H := hJArrays_fill_AII_Li11 v1 o0 cfFU
  have hm : (1027 : Int) ≤ (cfFU : Nat) := by decide
  have r_o0 : Fr (fr_M [] [11] []) o0 o0 := fr_rfl
  unfold fJArrays_fill_AII_Li11 fJArrays_fill_AII_Li11_0
  have p1 : Fmo 0 (o0.2.1 11) := by exact Fmo_0 _
  exact H _ _ _ _ k_o0 r_o0 i_v1 (iv_w (a := 0) (b := 512) (by decide) (by decide) (show (0 : Int) ≤ (0 : Int32).toInt ∧ (0 : Int32).toInt ≤ 0 by decide)) (show (512 : Int) ≤ (512 : Int32).toInt ∧ (512 : Int32).toInt ≤ 512 by decide) f_o0_7 p1 (show 0 + (512 - 0) * 2 < ((cfFU : Nat) : Int) by omega)
def QLi_isEachOnce (v0 : Int32) (v1 : Int32) (r : (Int32)) : Prop := ((0 : Int) ≤ r.toInt ∧ r.toInt ≤ 1) ∧ (Ec r v0 v1) ∧ True
def HLi_isEachOnce (yv0 : Int32) (yv1 : Int32) (n : Nat) : Prop := (∀ (v0 : Int32) (v1 : Int32) (v2 : Int32) (v3 : Int32), ((0 : Int) ≤ v0.toInt ∧ v0.toInt ≤ 511) → ((0 : Int) ≤ v1.toInt ∧ v1.toInt ≤ 3) → ((0 : Int) ≤ v2.toInt ∧ v2.toInt ≤ 15) → ((0 : Int) ≤ v3.toInt ∧ v3.toInt ≤ 3) → (Sf v2 v0 v3) → ((v0 = yv0 ∧ v1 = yv1)) → (v3.toInt ≤ v1.toInt) → 0 + (3 - v3.toInt) * 2 < (n : Int) → tt (gLi_isEachOnce n 0 v0 v1 v2 v3) (QLi_isEachOnce yv0 yv1))
set_option maxHeartbeats 4000000 in
set_option maxRecDepth 100000 in
theorem tLi_isEachOnce_4 {yv0 : Int32} {yv1 : Int32} {n : Nat} (H : HLi_isEachOnce yv0 yv1 n) (v0 : Int32) (v1 : Int32) (v2 : Int32) (v3 : Int32) (i_v0 : (0 : Int) ≤ v0.toInt ∧ v0.toInt ≤ 511) (i_v1 : (0 : Int) ≤ v1.toInt ∧ v1.toInt ≤ 3) (i_v2 : (0 : Int) ≤ v2.toInt ∧ v2.toInt ≤ 15) (i_v3 : (0 : Int) ≤ v3.toInt ∧ v3.toInt ≤ 3) (x_0 : Sf v2 v0 v3) (x_1 : (v0 = yv0 ∧ v1 = yv1)) (x_2 : v3.toInt ≤ v1.toInt) (hm : 0 + (3 - v3.toInt) * 2 ≤ (n : Int)) : tt (fLi_isEachOnce_4 (gLi_isEachOnce n) v0 v1 v2 v3) (QLi_isEachOnce yv0 yv1) := by
  unfold fLi_isEachOnce_4
  refine tt_if (fun c1 => ?_) (fun c1 => ?_)
  · have wc1 : v1.toInt ≤ v3.toInt := c_le c1
    refine tt_kv (P := fun z => ((1 : Int) ≤ z.toInt ∧ z.toInt ≤ 8) ∧ z = ((1 : Int32) <<< (v1 &&& 31)) ∧ z.toInt = ((1 : Int32) <<< (v1 &&& (31 : Int32))).toInt) ⟨iv_shl (p := 0) (q := 3) (show (1 : Int) ≤ (1 : Int32).toInt ∧ (1 : Int32).toInt ≤ 1 by decide) i_v1 (by decide) (by decide) (by decide) (by decide) (by decide), rfl, rfl⟩ (fun x2 qi3 => ?_)
    obtain ⟨i3, ax2, ei3⟩ := qi3
    refine tt_kv (P := fun z => ((0 : Int) ≤ z.toInt ∧ z.toInt ≤ 7) ∧ z = (x2 - 1) ∧ z.toInt = x2.toInt - 1) ⟨iv_sub i3 (show (1 : Int) ≤ (1 : Int32).toInt ∧ (1 : Int32).toInt ≤ 1 by decide) (by decide) (by decide) (by decide) (by decide), rfl, iq_sub i3 (show (1 : Int) ≤ (1 : Int32).toInt ∧ (1 : Int32).toInt ≤ 1 by decide) (by decide) (by decide)⟩ (fun x4 qi5 => ?_)
    obtain ⟨i5, ax4, ei5⟩ := qi5
    refine tt_if (fun c6 => ?_) (fun c6 => ?_)
    · have wc6 : v2.toInt = x4.toInt := c_eq c6
      have i7 : (0 : Int) ≤ v2.toInt ∧ v2.toInt ≤ 7 := nr_eql c6 i_v2 i5 (by decide) (by decide)
      try unfold fLi_isEachOnce_43
      refine tt_w (iv_b (show (1 : Int) ≤ (1 : Int32).toInt ∧ (1 : Int32).toInt ≤ 1 by decide) (by decide) (by decide)) ?_
      have p8 : Ec (1 : Int32) yv0 yv1 := by rw [← x_1.1, ← x_1.2]; first | exact Ec_0 (by decide) | exact Ec_i x_0 (by omega) (show _ = (1 : Int32) <<< _ by assumption) (show _ = _ - (1 : Int32) by assumption) (by assumption)
      exact tt_some ⟨(iv_w (a := 0) (b := 1) (by decide) (by decide) (show (1 : Int) ≤ (1 : Int32).toInt ∧ (1 : Int32).toInt ≤ 1 by decide)), p8, trivial⟩
    · have wc6 : ¬ v2.toInt = x4.toInt := c_ne c6
      try unfold fLi_isEachOnce_43
      refine tt_w (iv_b (show (0 : Int) ≤ (0 : Int32).toInt ∧ (0 : Int32).toInt ≤ 0 by decide) (by decide) (by decide)) ?_
      have p9 : Ec (0 : Int32) yv0 yv1 := by rw [← x_1.1, ← x_1.2]; first | exact Ec_0 (by decide) | exact Ec_i x_0 (by omega) (show _ = (1 : Int32) <<< _ by assumption) (show _ = _ - (1 : Int32) by assumption) (by assumption)
      exact tt_some ⟨(iv_w (a := 0) (b := 1) (by decide) (by decide) (show (0 : Int) ≤ (0 : Int32).toInt ∧ (0 : Int32).toInt ≤ 0 by decide)), p9, trivial⟩
  · have wc1 : v3.toInt < v1.toInt := c_nle c1
    have i10 : (0 : Int) ≤ v3.toInt ∧ v3.toInt ≤ 2 := nr_nlel c1 i_v3 i_v1 (by decide) (by decide)
    have i11 : (1 : Int) ≤ v1.toInt ∧ v1.toInt ≤ 3 := nr_nler c1 i_v3 i_v1 (by decide) (by decide)
    refine tt_kv (P := fun z => ((0 : Int) ≤ z.toInt ∧ z.toInt ≤ 6) ∧ z = (3 * v3) ∧ z.toInt = 3 * v3.toInt) ⟨iv_mul (show (3 : Int) ≤ (3 : Int32).toInt ∧ (3 : Int32).toInt ≤ 3 by decide) i10 (by decide) (by decide) (by decide) (by decide) (by decide), rfl, iq_mul (show (3 : Int) ≤ (3 : Int32).toInt ∧ (3 : Int32).toInt ≤ 3 by decide) i10 (by decide) (by decide) (by decide) (by decide)⟩ (fun x12 qi13 => ?_)
    obtain ⟨i13, ax12, ei13⟩ := qi13
    refine tt_kv (P := fun z => ((1 : Int) ≤ z.toInt ∧ z.toInt ≤ 7) ∧ z = (x12 + 1) ∧ z.toInt = x12.toInt + 1) ⟨iv_add i13 (show (1 : Int) ≤ (1 : Int32).toInt ∧ (1 : Int32).toInt ≤ 1 by decide) (by decide) (by decide) (by decide) (by decide), rfl, iq_add i13 (show (1 : Int) ≤ (1 : Int32).toInt ∧ (1 : Int32).toInt ≤ 1 by decide) (by decide) (by decide)⟩ (fun x14 qi15 => ?_)
    obtain ⟨i15, ax14, ei15⟩ := qi15
    refine tt_kv (P := fun z => ((0 : Int) ≤ z.toInt ∧ z.toInt ≤ 255) ∧ z = (v0 >>> (x14 &&& 31))) ⟨iv_shr (p := 1) (q := 7) i_v0 i15 (by decide) (by decide) (by decide) (by decide), rfl⟩ (fun x16 qi17 => ?_)
    obtain ⟨i17, ax16⟩ := qi17
    refine tt_kv (P := fun z => ((0 : Int) ≤ z.toInt ∧ z.toInt ≤ 3) ∧ z = (x16 &&& 3)) ⟨iv_and (show (3 : Int) ≤ (3 : Int32).toInt ∧ (3 : Int32).toInt ≤ 3 by decide) (by decide) (by decide) (by decide), rfl⟩ (fun x18 qi19 => ?_)
    obtain ⟨i19, ax18⟩ := qi19
    refine tt_kv (P := fun z => ((1 : Int) ≤ z.toInt ∧ z.toInt ≤ 8) ∧ z = ((1 : Int32) <<< (x18 &&& 31)) ∧ z.toInt = ((1 : Int32) <<< (x18 &&& (31 : Int32))).toInt) ⟨iv_shl (p := 0) (q := 3) (show (1 : Int) ≤ (1 : Int32).toInt ∧ (1 : Int32).toInt ≤ 1 by decide) i19 (by decide) (by decide) (by decide) (by decide) (by decide), rfl, rfl⟩ (fun x20 qi21 => ?_)
    obtain ⟨i21, ax20, ei21⟩ := qi21
    refine tt_kv (P := fun z => ((0 : Int) ≤ z.toInt ∧ z.toInt ≤ 15) ∧ z = (v2 ||| x20)) ⟨iv_or (w := 4) i_v2 i21 (by decide) (by decide) (by decide) (by decide) (by decide) (by decide) (by decide), rfl⟩ (fun x22 qi23 => ?_)
    obtain ⟨i23, ax22⟩ := qi23
    refine tt_kv (P := fun z => ((1 : Int) ≤ z.toInt ∧ z.toInt ≤ 3) ∧ z = (v3 + 1) ∧ z.toInt = v3.toInt + 1) ⟨iv_add i10 (show (1 : Int) ≤ (1 : Int32).toInt ∧ (1 : Int32).toInt ≤ 1 by decide) (by decide) (by decide) (by decide) (by decide), rfl, iq_add i10 (show (1 : Int) ≤ (1 : Int32).toInt ∧ (1 : Int32).toInt ≤ 1 by decide) (by decide) (by decide)⟩ (fun x24 qi25 => ?_)
    obtain ⟨i25, ax24, ei25⟩ := qi25
    have p26 : Sf x22 v0 x24 := by exact Sf_s x_0 (show _ = 3 * v3 by assumption) (show _ = _ + (1 : Int32) by assumption) (show _ = v0 >>> _ by assumption) (show _ = _ &&& (3 : Int32) by assumption) (show _ = (1 : Int32) <<< _ by assumption) (show _ = v2 ||| _ by assumption) (by omega) (by omega)
    exact H _ _ _ _ i_v0 (iv_w (a := 0) (b := 3) (by decide) (by decide) i11) i23 (iv_w (a := 0) (b := 3) (by decide) (by decide) i25) p26 x_1 (show x24.toInt ≤ v1.toInt by omega) (show 0 + (3 - x24.toInt) * 2 < (n : Int) by omega)
set_option maxHeartbeats 4000000 in
set_option maxRecDepth 100000 in
theorem hLi_isEachOnce (yv0 : Int32) (yv1 : Int32) : ∀ n, HLi_isEachOnce yv0 yv1 n := by
  intro n
  induction n with
  | zero => exact (fun v0 v1 v2 v3 i_v0 i_v1 i_v2 i_v3 x_0 x_1 x_2 hm => by exact absurd (show 0 + (3 - v3.toInt) * 2 < (0 : Int) from hm) (by omega))
  | succ n ih => exact (fun v0 v1 v2 v3 i_v0 i_v1 i_v2 i_v3 x_0 x_1 x_2 hm => tLi_isEachOnce_4 ih v0 v1 v2 v3 i_v0 i_v1 i_v2 i_v3 x_0 x_1 x_2 (by omega))
set_option maxHeartbeats 4000000 in
set_option maxRecDepth 100000 in
theorem sLi_isEachOnce (v0 : Int32) (v1 : Int32) (i_v0 : (0 : Int) ≤ v0.toInt ∧ v0.toInt ≤ 511) (i_v1 : (0 : Int) ≤ v1.toInt ∧ v1.toInt ≤ 3) : tt (fLi_isEachOnce v0 v1) (QLi_isEachOnce v0 v1) := by
  have H := hLi_isEachOnce v0 v1 cfFU
  have hm : (9 : Int) ≤ (cfFU : Nat) := by decide
  unfold fLi_isEachOnce fLi_isEachOnce_0
  have p1 : Sf (0 : Int32) v0 (0 : Int32) := by exact Sf_0 v0
  have p2 : (v0 = v0 ∧ v1 = v1) := by exact ⟨rfl, rfl⟩
  exact H _ _ _ _ i_v0 i_v1 (iv_w (a := 0) (b := 15) (by decide) (by decide) (show (0 : Int) ≤ (0 : Int32).toInt ∧ (0 : Int32).toInt ≤ 0 by decide)) (iv_w (a := 0) (b := 3) (by decide) (by decide) (show (0 : Int) ≤ (0 : Int32).toInt ∧ (0 : Int32).toInt ≤ 0 by decide)) p1 p2 (show 0 ≤ v1.toInt by omega) (show 0 + (3 - 0) * 2 < ((cfFU : Nat) : Int) by omega)
def QLi_listOf (v0 : Int32) (v1 : Int32) (r : (Int32)) : Prop := ((2 : Int) ≤ r.toInt ∧ r.toInt ≤ 511) ∧ True
set_option maxHeartbeats 4000000 in
set_option maxRecDepth 100000 in
theorem sLi_listOf (v0 : Int32) (v1 : Int32) (i_v0 : (0 : Int) ≤ v0.toInt ∧ v0.toInt ≤ 3) (i_v1 : (0 : Int) ≤ v1.toInt ∧ v1.toInt ≤ 255) : tt (fLi_listOf v0 v1) (QLi_listOf v0 v1) := by
  unfold fLi_listOf fLi_listOf_0
  refine tt_kv (P := fun z => (1 : Int) ≤ z.toInt ∧ z.toInt ≤ 8) (iv_shl (p := 0) (q := 3) (show (1 : Int) ≤ (1 : Int32).toInt ∧ (1 : Int32).toInt ≤ 1 by decide) i_v0 (by decide) (by decide) (by decide) (by decide) (by decide)) (fun x1 i2 => ?_)
  refine tt_kv (P := fun z => (2 : Int) ≤ z.toInt ∧ z.toInt ≤ 256) (iv_shl (p := 1) (q := 8) (show (1 : Int) ≤ (1 : Int32).toInt ∧ (1 : Int32).toInt ≤ 1 by decide) i2 (by decide) (by decide) (by decide) (by decide) (by decide)) (fun x3 i4 => ?_)
  refine tt_kv (P := fun z => (2 : Int) ≤ z.toInt ∧ z.toInt ≤ 511) (iv_add i4 i_v1 (by decide) (by decide) (by decide) (by decide)) (fun x5 i6 => ?_)
  exact tt_some ⟨i6, trivial⟩
def QLi_addWay (v1 : Int32) (v2 : Int32) (o0 : cf_O) (r : (cf_O)) : Prop := (okO I_Li r) ∧ (Fr (fr_M [7] [8, 9, 10, 11] []) o0 r) ∧ ((1 : Int) ≤ (r.1 7).toInt ∧ (r.1 7).toInt ≤ 576) ∧ (Lwy (r.1 7).toInt (r.2.1 8) (r.2.1 9) (r.2.1 10) (r.2.1 11) (r.2.1 5)) ∧ ((r.1 7).toInt = (o0.1 7).toInt + 1) ∧ True
def HLi_addWay (yv1 : Int32) (yv2 : Int32) (yo0 : cf_O) (n : Nat) : Prop := (∀ (v1 : Int32) (v2 : Int32) (v3 : Int32) (v4 : Int32) (o0 : cf_O), (okO I_Li o0) → (Fr (fr_M [7] [8, 9, 10, 11] []) yo0 o0) → ((0 : Int) ≤ v1.toInt ∧ v1.toInt ≤ 11) → ((0 : Int) ≤ v2.toInt ∧ v2.toInt ≤ 511) → ((0 : Int) ≤ v3.toInt ∧ v3.toInt ≤ 255) → ((0 : Int) ≤ v4.toInt ∧ v4.toInt ≤ 8) → ((1 : Int) ≤ (o0.1 0).toInt ∧ (o0.1 0).toInt ≤ 12) → (Lwy (o0.1 7).toInt (o0.2.1 8) (o0.2.1 9) (o0.2.1 10) (o0.2.1 11) (o0.2.1 5)) → (Pcs v2 ((o0.2.1 5) v1.toNatClampNeg).toInt) → (Tb v3.toInt v4.toInt ((o0.2.1 5) v1.toNatClampNeg)) → ((o0.1 7).toInt ≤ 575) → ((o0.1 7).toInt = (yo0.1 7).toInt) → (1 < (o0.2.1 5 v1.toNatClampNeg).toInt) → 0 + (8 - v4.toInt) * 10 < (n : Int) → tt (gLi_addWay n 0 v1 v2 v3 v4 0 0 o0) (QLi_addWay yv1 yv2 yo0)) ∧ (∀ (v1 : Int32) (v2 : Int32) (v3 : Int32) (v4 : Int32) (v5 : Int32) (v6 : Int32) (o0 : cf_O), (okO I_Li o0) → (Fr (fr_M [7] [8, 9, 10, 11] []) yo0 o0) → ((0 : Int) ≤ v1.toInt ∧ v1.toInt ≤ 11) → ((0 : Int) ≤ v2.toInt ∧ v2.toInt ≤ 511) → ((0 : Int) ≤ v3.toInt ∧ v3.toInt ≤ 255) → ((0 : Int) ≤ v4.toInt ∧ v4.toInt ≤ 7) → ((0 : Int) ≤ v5.toInt ∧ v5.toInt ≤ 7) → ((0 : Int) ≤ v6.toInt ∧ v6.toInt ≤ 3) → ((1 : Int) ≤ (o0.1 0).toInt ∧ (o0.1 0).toInt ≤ 12) → (Lwy (o0.1 7).toInt (o0.2.1 8) (o0.2.1 9) (o0.2.1 10) (o0.2.1 11) (o0.2.1 5)) → (Pcs v2 ((o0.2.1 5) v1.toNatClampNeg).toInt) → (Tbc v3.toInt v4.toInt ((o0.2.1 5) v1.toNatClampNeg)) → ((o0.1 7).toInt ≤ 575) → ((o0.1 7).toInt = (yo0.1 7).toInt) → (1 < (o0.2.1 5 v1.toNatClampNeg).toInt) → 0 + (8 - v4.toInt - 1) * 10 + 1 + (3 - v6.toInt) * 2 < (n : Int) → tt (gLi_addWay n 1 v1 v2 v3 v4 v5 v6 o0) (QLi_addWay yv1 yv2 yo0))
set_option maxHeartbeats 4000000 in
set_option maxRecDepth 100000 in
theorem tLi_addWay_24 {yv1 : Int32} {yv2 : Int32} {yo0 : cf_O} {n : Nat} (H : HLi_addWay yv1 yv2 yo0 n) (v1 : Int32) (v2 : Int32) (v3 : Int32) (v4 : Int32) (v5 : Int32) (v6 : Int32) (o0 : cf_O) (k_o0 : okO I_Li o0) (r_o0 : Fr (fr_M [7] [8, 9, 10, 11] []) yo0 o0) (i_v1 : (0 : Int) ≤ v1.toInt ∧ v1.toInt ≤ 11) (i_v2 : (0 : Int) ≤ v2.toInt ∧ v2.toInt ≤ 511) (i_v3 : (0 : Int) ≤ v3.toInt ∧ v3.toInt ≤ 255) (i_v4 : (0 : Int) ≤ v4.toInt ∧ v4.toInt ≤ 7) (i_v5 : (0 : Int) ≤ v5.toInt ∧ v5.toInt ≤ 7) (i_v6 : (0 : Int) ≤ v6.toInt ∧ v6.toInt ≤ 3) (f_o0_0 : (1 : Int) ≤ (o0.1 0).toInt ∧ (o0.1 0).toInt ≤ 12) (x_0 : Lwy (o0.1 7).toInt (o0.2.1 8) (o0.2.1 9) (o0.2.1 10) (o0.2.1 11) (o0.2.1 5)) (x_1 : Pcs v2 ((o0.2.1 5) v1.toNatClampNeg).toInt) (x_2 : Tbc v3.toInt v4.toInt ((o0.2.1 5) v1.toNatClampNeg)) (x_3 : (o0.1 7).toInt ≤ 575) (x_4 : (o0.1 7).toInt = (yo0.1 7).toInt) (x_5 : 1 < (o0.2.1 5 v1.toNatClampNeg).toInt) (hm : 0 + (8 - v4.toInt - 1) * 10 + 1 + (3 - v6.toInt) * 2 ≤ (n : Int)) : tt (fLi_addWay_24 (gLi_addWay n) v1 v2 v3 v4 v5 v6 o0) (QLi_addWay yv1 yv2 yo0) := by
  unfold fLi_addWay_24
  have g_o0_7 : (0 : Int) ≤ (o0.1 7).toInt ∧ (o0.1 7).toInt ≤ 576 := k_o0.1 7
  refine tt_n (ix_ok i_v1 (by decide) (by decide)) ?_
  refine tt_kv (P := fun z => ((0 : Int) ≤ z.toInt ∧ z.toInt ≤ 3) ∧ z = (o0.2.1 5 v1.toNatClampNeg) ∧ z.toInt = (o0.2.1 5 v1.toNatClampNeg).toInt) ⟨(k_o0.2 5 _), rfl, rfl⟩ (fun x1 qi2 => ?_)
  obtain ⟨i2, ax1, ei2⟩ := qi2
  refine tt_if (fun c3 => ?_) (fun c3 => ?_)
  · have wc3 : x1.toInt ≤ v6.toInt := c_le c3
    refine tt_n (ix_ok i_v1 (by decide) (by decide)) ?_
    refine tt_kv (P := fun z => (((-2147483648) : Int) ≤ z.toInt ∧ z.toInt ≤ 2147483647) ∧ z = (o0.2.1 6 v1.toNatClampNeg) ∧ z.toInt = (o0.2.1 6 v1.toNatClampNeg).toInt) ⟨(k_o0.2 6 _), rfl, rfl⟩ (fun x4 qi5 => ?_)
    obtain ⟨i5, ax4, ei5⟩ := qi5
    refine tt_kv (P := fun z => (((-2147483648) : Int) ≤ z.toInt ∧ z.toInt ≤ 2147483647) ∧ z = (x4 >>> (v5 &&& 31))) ⟨iv_top _, rfl⟩ (fun x6 qi7 => ?_)
    obtain ⟨i7, ax6⟩ := qi7
    refine tt_kv (P := fun z => ((0 : Int) ≤ z.toInt ∧ z.toInt ≤ 1) ∧ z = (x6 &&& 1)) ⟨iv_and (show (1 : Int) ≤ (1 : Int32).toInt ∧ (1 : Int32).toInt ≤ 1 by decide) (by decide) (by decide) (by decide), rfl⟩ (fun x8 qi9 => ?_)
    obtain ⟨i9, ax8⟩ := qi9
    refine tt_kv (P := fun z => ((0 : Int) ≤ z.toInt ∧ z.toInt ≤ 128) ∧ z = (x8 <<< (v4 &&& 31))) ⟨iv_shl (p := 0) (q := 7) i9 i_v4 (by decide) (by decide) (by decide) (by decide) (by decide), rfl⟩ (fun x10 qi11 => ?_)
    obtain ⟨i11, ax10⟩ := qi11
    refine tt_kv (P := fun z => ((0 : Int) ≤ z.toInt ∧ z.toInt ≤ 255) ∧ z = (v3 ||| x10)) ⟨iv_or (w := 8) i_v3 i11 (by decide) (by decide) (by decide) (by decide) (by decide) (by decide) (by decide), rfl⟩ (fun x12 qi13 => ?_)
    obtain ⟨i13, ax12⟩ := qi13
    refine tt_kv (P := fun z => ((1 : Int) ≤ z.toInt ∧ z.toInt ≤ 8) ∧ z = (v4 + 1) ∧ z.toInt = v4.toInt + 1) ⟨iv_add i_v4 (show (1 : Int) ≤ (1 : Int32).toInt ∧ (1 : Int32).toInt ≤ 1 by decide) (by decide) (by decide) (by decide) (by decide), rfl, iq_add i_v4 (show (1 : Int) ≤ (1 : Int32).toInt ∧ (1 : Int32).toInt ≤ 1 by decide) (by decide) (by decide)⟩ (fun x14 qi15 => ?_)
    obtain ⟨i15, ax14, ei15⟩ := qi15
    have p16 : Tb x12.toInt x14.toInt ((o0.2.1 5) v1.toNatClampNeg) := by exact Tb_n x_2 (show _ = v3 ||| _ by assumption) (show _ = _ <<< _ by assumption) (show _ = _ &&& 1 by assumption) (by omega) (by omega) (by omega)
    have t17 : (0 : Int) ≤ (o0.2.1 5 v1.toNatClampNeg).toInt ∧ (o0.2.1 5 v1.toNatClampNeg).toInt ≤ 3 := k_o0.2 5 _
    exact H.1 _ _ _ _ _ k_o0 r_o0 i_v1 i_v2 i13 (iv_w (a := 0) (b := 8) (by decide) (by decide) i15) f_o0_0 x_0 x_1 p16 (show (o0.1 7).toInt ≤ 575 by omega) (show (o0.1 7).toInt = (yo0.1 7).toInt by omega) (show 1 < (o0.2.1 5 v1.toNatClampNeg).toInt by omega) (show 0 + (8 - x14.toInt) * 10 < (n : Int) by omega)
  · have wc3 : v6.toInt < x1.toInt := c_nle c3
    have i18 : (0 : Int) ≤ v6.toInt ∧ v6.toInt ≤ 2 := nr_nlel c3 i_v6 i2 (by decide) (by decide)
    have i19 : (1 : Int) ≤ x1.toInt ∧ x1.toInt ≤ 3 := nr_nler c3 i_v6 i2 (by decide) (by decide)
    refine tt_kv (P := fun z => ((0 : Int) ≤ z.toInt ∧ z.toInt ≤ 6) ∧ z = (3 * v6) ∧ z.toInt = 3 * v6.toInt) ⟨iv_mul (show (3 : Int) ≤ (3 : Int32).toInt ∧ (3 : Int32).toInt ≤ 3 by decide) i18 (by decide) (by decide) (by decide) (by decide) (by decide), rfl, iq_mul (show (3 : Int) ≤ (3 : Int32).toInt ∧ (3 : Int32).toInt ≤ 3 by decide) i18 (by decide) (by decide) (by decide) (by decide)⟩ (fun x20 qi21 => ?_)
    obtain ⟨i21, ax20, ei21⟩ := qi21
    refine tt_kv (P := fun z => ((0 : Int) ≤ z.toInt ∧ z.toInt ≤ 511) ∧ z = (v2 >>> (x20 &&& 31))) ⟨iv_shr (p := 0) (q := 6) i_v2 i21 (by decide) (by decide) (by decide) (by decide), rfl⟩ (fun x22 qi23 => ?_)
    obtain ⟨i23, ax22⟩ := qi23
    refine tt_kv (P := fun z => ((0 : Int) ≤ z.toInt ∧ z.toInt ≤ 7) ∧ z = (x22 &&& 7)) ⟨iv_and (show (7 : Int) ≤ (7 : Int32).toInt ∧ (7 : Int32).toInt ≤ 7 by decide) (by decide) (by decide) (by decide), rfl⟩ (fun x24 qi25 => ?_)
    obtain ⟨i25, ax24⟩ := qi25
    refine tt_kv (P := fun z => ((0 : Int) ≤ z.toInt ∧ z.toInt ≤ 3) ∧ z = (x24 >>> (1 &&& 31)) ∧ z.toInt = x24.toInt / 2) ⟨iv_shr (p := 1) (q := 1) i25 (show (1 : Int) ≤ (1 : Int32).toInt ∧ (1 : Int32).toInt ≤ 1 by decide) (by decide) (by decide) (by decide) (by decide), rfl, i_s1 (Int.le_trans (by decide) i25.1)⟩ (fun x26 qi27 => ?_)
    obtain ⟨i27, ax26, ei27⟩ := qi27
    refine tt_kv (P := fun z => ((0 : Int) ≤ z.toInt ∧ z.toInt ≤ 7) ∧ z = (v4 >>> (x26 &&& 31))) ⟨iv_shr (p := 0) (q := 3) i_v4 i27 (by decide) (by decide) (by decide) (by decide), rfl⟩ (fun x28 qi29 => ?_)
    obtain ⟨i29, ax28⟩ := qi29
    refine tt_kv (P := fun z => ((0 : Int) ≤ z.toInt ∧ z.toInt ≤ 1) ∧ z = (x28 &&& 1) ∧ z.toInt = x28.toInt % 2) ⟨iv_and (show (1 : Int) ≤ (1 : Int32).toInt ∧ (1 : Int32).toInt ≤ 1 by decide) (by decide) (by decide) (by decide), rfl, i_a1 (Int.le_trans (by decide) i29.1)⟩ (fun x30 qi31 => ?_)
    obtain ⟨i31, ax30, ei31⟩ := qi31
    refine tt_kv (P := fun z => ((0 : Int) ≤ z.toInt ∧ z.toInt ≤ 1) ∧ z = (x24 &&& 1) ∧ z.toInt = x24.toInt % 2) ⟨iv_and (show (1 : Int) ≤ (1 : Int32).toInt ∧ (1 : Int32).toInt ≤ 1 by decide) (by decide) (by decide) (by decide), rfl, i_a1 (Int.le_trans (by decide) i25.1)⟩ (fun x32 qi33 => ?_)
    obtain ⟨i33, ax32, ei33⟩ := qi33
    refine tt_kv (P := fun z => ((0 : Int) ≤ z.toInt ∧ z.toInt ≤ 1) ∧ z = (x30 ^^^ x32) ∧ z.toInt = x30.toInt - x30.toInt % 2 + (x30.toInt + x32.toInt) % 2) ⟨iv_x1 i31 i33 (by decide) (by decide) (by decide) (by decide) (by decide), rfl, i_xb (Int.le_trans (by decide) i31.1) (Int.le_trans (by decide) i33.1) (Int.le_trans i33.2 (by decide))⟩ (fun x34 qi35 => ?_)
    obtain ⟨i35, ax34, ei35⟩ := qi35
    refine tt_kv (P := fun z => ((0 : Int) ≤ z.toInt ∧ z.toInt ≤ 4) ∧ z = (x34 <<< (v6 &&& 31))) ⟨iv_shl (p := 0) (q := 2) i35 i18 (by decide) (by decide) (by decide) (by decide) (by decide), rfl⟩ (fun x36 qi37 => ?_)
    obtain ⟨i37, ax36⟩ := qi37
    refine tt_kv (P := fun z => ((0 : Int) ≤ z.toInt ∧ z.toInt ≤ 7) ∧ z = (v5 ||| x36)) ⟨iv_or (w := 3) i_v5 i37 (by decide) (by decide) (by decide) (by decide) (by decide) (by decide) (by decide), rfl⟩ (fun x38 qi39 => ?_)
    obtain ⟨i39, ax38⟩ := qi39
    refine tt_kv (P := fun z => ((1 : Int) ≤ z.toInt ∧ z.toInt ≤ 3) ∧ z = (v6 + 1) ∧ z.toInt = v6.toInt + 1) ⟨iv_add i18 (show (1 : Int) ≤ (1 : Int32).toInt ∧ (1 : Int32).toInt ≤ 1 by decide) (by decide) (by decide) (by decide) (by decide), rfl, iq_add i18 (show (1 : Int) ≤ (1 : Int32).toInt ∧ (1 : Int32).toInt ≤ 1 by decide) (by decide) (by decide)⟩ (fun x40 qi41 => ?_)
    obtain ⟨i41, ax40, ei41⟩ := qi41
    have t42 : (0 : Int) ≤ (o0.2.1 5 v1.toNatClampNeg).toInt ∧ (o0.2.1 5 v1.toNatClampNeg).toInt ≤ 3 := k_o0.2 5 _
    exact H.2 _ _ _ _ _ _ _ k_o0 r_o0 i_v1 i_v2 i_v3 i_v4 i39 (iv_w (a := 0) (b := 3) (by decide) (by decide) i41) f_o0_0 x_0 x_1 x_2 (show (o0.1 7).toInt ≤ 575 by omega) (show (o0.1 7).toInt = (yo0.1 7).toInt by omega) (show 1 < (o0.2.1 5 v1.toNatClampNeg).toInt by omega) (show 0 + (8 - v4.toInt - 1) * 10 + 1 + (3 - x40.toInt) * 2 < (n : Int) by omega)
set_option maxHeartbeats 4000000 in
set_option maxRecDepth 100000 in
theorem tLi_addWay_5 {yv1 : Int32} {yv2 : Int32} {yo0 : cf_O} {n : Nat} (H : HLi_addWay yv1 yv2 yo0 n) (v1 : Int32) (v2 : Int32) (v3 : Int32) (v4 : Int32) (o0 : cf_O) (k_o0 : okO I_Li o0) (r_o0 : Fr (fr_M [7] [8, 9, 10, 11] []) yo0 o0) (i_v1 : (0 : Int) ≤ v1.toInt ∧ v1.toInt ≤ 11) (i_v2 : (0 : Int) ≤ v2.toInt ∧ v2.toInt ≤ 511) (i_v3 : (0 : Int) ≤ v3.toInt ∧ v3.toInt ≤ 255) (i_v4 : (0 : Int) ≤ v4.toInt ∧ v4.toInt ≤ 8) (f_o0_0 : (1 : Int) ≤ (o0.1 0).toInt ∧ (o0.1 0).toInt ≤ 12) (x_0 : Lwy (o0.1 7).toInt (o0.2.1 8) (o0.2.1 9) (o0.2.1 10) (o0.2.1 11) (o0.2.1 5)) (x_1 : Pcs v2 ((o0.2.1 5) v1.toNatClampNeg).toInt) (x_2 : Tb v3.toInt v4.toInt ((o0.2.1 5) v1.toNatClampNeg)) (x_3 : (o0.1 7).toInt ≤ 575) (x_4 : (o0.1 7).toInt = (yo0.1 7).toInt) (x_5 : 1 < (o0.2.1 5 v1.toNatClampNeg).toInt) (hm : 0 + (8 - v4.toInt) * 10 ≤ (n : Int)) : tt (fLi_addWay_5 (gLi_addWay n) v1 v2 v3 v4 o0) (QLi_addWay yv1 yv2 yo0) := by
  unfold fLi_addWay_5
  have g_o0_7 : (0 : Int) ≤ (o0.1 7).toInt ∧ (o0.1 7).toInt ≤ 576 := k_o0.1 7
  refine tt_n (ix_ok i_v1 (by decide) (by decide)) ?_
  refine tt_kv (P := fun z => ((0 : Int) ≤ z.toInt ∧ z.toInt ≤ 3) ∧ z = (o0.2.1 5 v1.toNatClampNeg) ∧ z.toInt = (o0.2.1 5 v1.toNatClampNeg).toInt) ⟨(k_o0.2 5 _), rfl, rfl⟩ (fun x1 qi2 => ?_)
  obtain ⟨i2, ax1, ei2⟩ := qi2
  refine tt_kv (P := fun z => ((1 : Int) ≤ z.toInt ∧ z.toInt ≤ 8) ∧ z = ((1 : Int32) <<< (x1 &&& 31)) ∧ z.toInt = ((1 : Int32) <<< (x1 &&& (31 : Int32))).toInt) ⟨iv_shl (p := 0) (q := 3) (show (1 : Int) ≤ (1 : Int32).toInt ∧ (1 : Int32).toInt ≤ 1 by decide) i2 (by decide) (by decide) (by decide) (by decide) (by decide), rfl, rfl⟩ (fun x3 qi4 => ?_)
  obtain ⟨i4, ax3, ei4⟩ := qi4
  refine tt_if (fun c5 => ?_) (fun c5 => ?_)
  · have wc5 : x3.toInt ≤ v4.toInt := c_le c5
    have i6 : (1 : Int) ≤ v4.toInt ∧ v4.toInt ≤ 8 := nr_ler c5 i4 i_v4 (by decide) (by decide)
    refine tt_n (ix_ok i_v1 (by decide) (by decide)) ?_
    refine tt_kv (P := fun z => ((0 : Int) ≤ z.toInt ∧ z.toInt ≤ 3) ∧ z = (o0.2.1 5 v1.toNatClampNeg) ∧ z.toInt = (o0.2.1 5 v1.toNatClampNeg).toInt) ⟨(k_o0.2 5 _), rfl, rfl⟩ (fun x7 qi8 => ?_)
    obtain ⟨i8, ax7, ei8⟩ := qi8
    refine tt_be (sLi_listOf _ _ i8 i_v3) (fun q9 hq9 eq9 => ?_)
    obtain ⟨i_q9, -⟩ := hq9
    have t10 := Tb_l x_2 (show _ = (1 : Int32) <<< (_ &&& 31) by assumption) (by omega) (by omega) (by omega) (by omega) eq9 (by omega)
    refine tt_n (ix_rel (x := (o0.1 7)) (by omega) (by omega)) ?_
    have i11 : (0 : Int) ≤ (o0.1 7).toInt ∧ (o0.1 7).toInt ≤ 575 := (by omega)
    refine tt_ko ?_
    have k12 := ok_xp (k := 8) (i := (o0.1 7).toNatClampNeg) (v := v1) k_o0 i_v1
    have r13 := fr_xp (k := 8) (i := (o0.1 7).toNatClampNeg) (v := v1) r_o0 rfl
    refine tt_n (ix_ok i11 (by decide) (by decide)) ?_
    refine tt_ko ?_
    have k14 := ok_xp (k := 9) (i := (o0.1 7).toNatClampNeg) (v := v2) k12 i_v2
    have r15 := fr_xp (k := 9) (i := (o0.1 7).toNatClampNeg) (v := v2) r13 rfl
    refine tt_n (ix_ok i_q9 (by decide) (by decide)) ?_
    refine tt_kv (P := fun z => (((-1) : Int) ≤ z.toInt ∧ z.toInt ≤ 575) ∧ z = (o0.2.1 11 q9.toNatClampNeg) ∧ z.toInt = (o0.2.1 11 q9.toNatClampNeg).toInt) ⟨(k14.2 11 _), rfl, rfl⟩ (fun x16 qi17 => ?_)
    obtain ⟨i17, ax16, ei17⟩ := qi17
    refine tt_n (ix_ok i11 (by decide) (by decide)) ?_
    refine tt_ko ?_
    have k18 := ok_xp (k := 10) (i := (o0.1 7).toNatClampNeg) (v := x16) k14 i17
    have r19 := fr_xp (k := 10) (i := (o0.1 7).toNatClampNeg) (v := x16) r15 rfl
    refine tt_n (ix_ok i_q9 (by decide) (by decide)) ?_
    refine tt_ko ?_
    have k20 := ok_xp (k := 11) (i := q9.toNatClampNeg) (v := (o0.1 7)) k18 (iv_w (a := (-1)) (b := 575) (by decide) (by decide) i11)
    have r21 := fr_xp (k := 11) (i := q9.toNatClampNeg) (v := (o0.1 7)) r19 rfl
    refine tt_kv (P := fun z => ((1 : Int) ≤ z.toInt ∧ z.toInt ≤ 576) ∧ z = ((o0.1 7) + 1) ∧ z.toInt = (o0.1 7).toInt + 1) ⟨iv_add i11 (show (1 : Int) ≤ (1 : Int32).toInt ∧ (1 : Int32).toInt ≤ 1 by decide) (by decide) (by decide) (by decide) (by decide), rfl, iq_add i11 (show (1 : Int) ≤ (1 : Int32).toInt ∧ (1 : Int32).toInt ≤ 1 by decide) (by decide) (by decide)⟩ (fun x22 qi23 => ?_)
    obtain ⟨i23, ax22, ei23⟩ := qi23
    refine tt_ko ?_
    have k24 := ok_fp (k := 7) (v := x22) k20 (iv_w (a := 0) (b := 576) (by decide) (by decide) i23)
    have r25 := fr_fp (k := 7) (v := x22) r21 rfl
    have p26 : Lwy x22.toInt (upd (o0.2.1 8) ((o0.1 7).toNatClampNeg) v1) (upd (o0.2.1 9) ((o0.1 7).toNatClampNeg) v2) (upd (o0.2.1 10) ((o0.1 7).toNatClampNeg) x16) (upd (o0.2.1 11) (q9.toNatClampNeg) (o0.1 7)) (o0.2.1 5) := by exact Lwy_a x_0 x_1 (show rngL _ = _ ∧ _ by assumption).1 (by assumption) rfl (by omega) (by rw [tn_n]; omega) (by rw [tn_n]; omega) (by rw [tn_n]; omega) (by omega)
    exact tt_some ⟨k24, r25, i23, p26, (show x22.toInt = (yo0.1 7).toInt + 1 by omega), trivial⟩
  · have wc5 : v4.toInt < x3.toInt := c_nle c5
    have i27 : (0 : Int) ≤ v4.toInt ∧ v4.toInt ≤ 7 := nr_nlel c5 i_v4 i4 (by decide) (by decide)
    have p28 : Tbc v3.toInt v4.toInt ((o0.2.1 5) v1.toNatClampNeg) := by exact Tb_g x_2 (show _ = (1 : Int32) <<< (_ &&& 31) by assumption) (by omega) (by omega) (by omega) (by omega)
    have t29 : (0 : Int) ≤ (o0.2.1 5 v1.toNatClampNeg).toInt ∧ (o0.2.1 5 v1.toNatClampNeg).toInt ≤ 3 := k_o0.2 5 _
    exact H.2 _ _ _ _ _ _ _ k_o0 r_o0 i_v1 i_v2 i_v3 i27 (iv_w (a := 0) (b := 7) (by decide) (by decide) (show (0 : Int) ≤ (0 : Int32).toInt ∧ (0 : Int32).toInt ≤ 0 by decide)) (iv_w (a := 0) (b := 3) (by decide) (by decide) (show (0 : Int) ≤ (0 : Int32).toInt ∧ (0 : Int32).toInt ≤ 0 by decide)) f_o0_0 x_0 x_1 p28 (show (o0.1 7).toInt ≤ 575 by omega) (show (o0.1 7).toInt = (yo0.1 7).toInt by omega) (show 1 < (o0.2.1 5 v1.toNatClampNeg).toInt by omega) (show 0 + (8 - v4.toInt - 1) * 10 + 1 + (3 - 0) * 2 < (n : Int) by omega)
set_option maxHeartbeats 4000000 in
set_option maxRecDepth 100000 in
theorem hLi_addWay (yv1 : Int32) (yv2 : Int32) (yo0 : cf_O) : ∀ n, HLi_addWay yv1 yv2 yo0 n := by
  intro n
  induction n with
  | zero => exact ⟨(fun v1 v2 v3 v4 o0 k_o0 r_o0 i_v1 i_v2 i_v3 i_v4 f_o0_0 x_0 x_1 x_2 x_3 x_4 x_5 hm => by exact absurd (show 0 + (8 - v4.toInt) * 10 < (0 : Int) from hm) (by omega)), (fun v1 v2 v3 v4 v5 v6 o0 k_o0 r_o0 i_v1 i_v2 i_v3 i_v4 i_v5 i_v6 f_o0_0 x_0 x_1 x_2 x_3 x_4 x_5 hm => by exact absurd (show 0 + (8 - v4.toInt - 1) * 10 + 1 + (3 - v6.toInt) * 2 < (0 : Int) from hm) (by omega))⟩
  | succ n ih => exact ⟨(fun v1 v2 v3 v4 o0 k_o0 r_o0 i_v1 i_v2 i_v3 i_v4 f_o0_0 x_0 x_1 x_2 x_3 x_4 x_5 hm => tLi_addWay_5 ih v1 v2 v3 v4 o0 k_o0 r_o0 i_v1 i_v2 i_v3 i_v4 f_o0_0 x_0 x_1 x_2 x_3 x_4 x_5 (by omega)), (fun v1 v2 v3 v4 v5 v6 o0 k_o0 r_o0 i_v1 i_v2 i_v3 i_v4 i_v5 i_v6 f_o0_0 x_0 x_1 x_2 x_3 x_4 x_5 hm => tLi_addWay_24 ih v1 v2 v3 v4 v5 v6 o0 k_o0 r_o0 i_v1 i_v2 i_v3 i_v4 i_v5 i_v6 f_o0_0 x_0 x_1 x_2 x_3 x_4 x_5 (by omega))⟩
set_option maxHeartbeats 4000000 in
set_option maxRecDepth 100000 in
theorem sLi_addWay (v1 : Int32) (v2 : Int32) (o0 : cf_O) (k_o0 : okO I_Li o0) (i_v1 : (0 : Int) ≤ v1.toInt ∧ v1.toInt ≤ 11) (i_v2 : (0 : Int) ≤ v2.toInt ∧ v2.toInt ≤ 511) (f_o0_0 : (1 : Int) ≤ (o0.1 0).toInt ∧ (o0.1 0).toInt ≤ 12) (x_0 : Lwy (o0.1 7).toInt (o0.2.1 8) (o0.2.1 9) (o0.2.1 10) (o0.2.1 11) (o0.2.1 5)) (x_1 : Pcs v2 ((o0.2.1 5) v1.toNatClampNeg).toInt) (x_2 : (o0.1 7).toInt ≤ 575) (x_3 : 1 < (o0.2.1 5 v1.toNatClampNeg).toInt) : tt (fLi_addWay v1 v2 o0) (QLi_addWay v1 v2 o0) := by
  have H := hLi_addWay v1 v2 o0 cfFU
  have hm : (83 : Int) ≤ (cfFU : Nat) := by decide
  have r_o0 : Fr (fr_M [7] [8, 9, 10, 11] []) o0 o0 := fr_rfl
  unfold fLi_addWay fLi_addWay_0
  have g_o0_7 : (0 : Int) ≤ (o0.1 7).toInt ∧ (o0.1 7).toInt ≤ 576 := k_o0.1 7
  have p1 : Tb 0 0 ((o0.2.1 5) v1.toNatClampNeg) := by exact Tb_0
  have t2 : (0 : Int) ≤ (o0.2.1 5 v1.toNatClampNeg).toInt ∧ (o0.2.1 5 v1.toNatClampNeg).toInt ≤ 3 := k_o0.2 5 _
  exact H.1 _ _ _ _ _ k_o0 r_o0 i_v1 i_v2 (iv_w (a := 0) (b := 255) (by decide) (by decide) (show (0 : Int) ≤ (0 : Int32).toInt ∧ (0 : Int32).toInt ≤ 0 by decide)) (iv_w (a := 0) (b := 8) (by decide) (by decide) (show (0 : Int) ≤ (0 : Int32).toInt ∧ (0 : Int32).toInt ≤ 0 by decide)) f_o0_0 x_0 x_1 p1 (show (o0.1 7).toInt ≤ 575 by omega) (show (o0.1 7).toInt = (o0.1 7).toInt by omega) (show 1 < (o0.2.1 5 v1.toNatClampNeg).toInt by omega) (show 0 + (8 - 0) * 10 < ((cfFU : Nat) : Int) by omega)
def QLi_findWays (o0 : cf_O) (r : (cf_O)) : Prop := (okO I_Li r) ∧ (Fr (fr_M [7] [8, 9, 10, 11] []) o0 r) ∧ (Lwy (r.1 7).toInt (r.2.1 8) (r.2.1 9) (r.2.1 10) (r.2.1 11) (r.2.1 5)) ∧ True
def HLi_findWays (yo0 : cf_O) (n : Nat) : Prop := (∀ (v1 : Int32) (o0 : cf_O), (okO I_Li o0) → (Fr (fr_M [7] [8, 9, 10, 11] []) yo0 o0) → ((0 : Int) ≤ v1.toInt ∧ v1.toInt ≤ 12) → ((o0.1 7).toInt ≤ 48 * v1.toInt) → (Lwy (o0.1 7).toInt (o0.2.1 8) (o0.2.1 9) (o0.2.1 10) (o0.2.1 11) (o0.2.1 5)) → 0 + (12 - v1.toInt) * 1028 < (n : Int) → tt (gLi_findWays n 0 v1 0 o0) (QLi_findWays yo0)) ∧ (∀ (v1 : Int32) (v2 : Int32) (o0 : cf_O), (okO I_Li o0) → (Fr (fr_M [7] [8, 9, 10, 11] []) yo0 o0) → ((0 : Int) ≤ v1.toInt ∧ v1.toInt ≤ 11) → ((0 : Int) ≤ v2.toInt ∧ v2.toInt ≤ 512) → ((1 : Int) ≤ (o0.1 0).toInt ∧ (o0.1 0).toInt ≤ 12) → (Wy (o0.1 7).toInt v1.toInt v2 ((o0.2.1 5) v1.toNatClampNeg)) → (Lwy (o0.1 7).toInt (o0.2.1 8) (o0.2.1 9) (o0.2.1 10) (o0.2.1 11) (o0.2.1 5)) → 0 + (12 - v1.toInt - 1) * 1028 + 1 + (512 - v2.toInt) * 2 < (n : Int) → tt (gLi_findWays n 1 v1 v2 o0) (QLi_findWays yo0))
set_option maxHeartbeats 4000000 in
set_option maxRecDepth 100000 in
theorem tLi_findWays_25 {yo0 : cf_O} {n : Nat} (H : HLi_findWays yo0 n) (v1 : Int32) (v2 : Int32) (o0 : cf_O) (k_o0 : okO I_Li o0) (r_o0 : Fr (fr_M [7] [8, 9, 10, 11] []) yo0 o0) (i_v1 : (0 : Int) ≤ v1.toInt ∧ v1.toInt ≤ 11) (i_v2 : (0 : Int) ≤ v2.toInt ∧ v2.toInt ≤ 512) (f_o0_0 : (1 : Int) ≤ (o0.1 0).toInt ∧ (o0.1 0).toInt ≤ 12) (x_0 : Wy (o0.1 7).toInt v1.toInt v2 ((o0.2.1 5) v1.toNatClampNeg)) (x_1 : Lwy (o0.1 7).toInt (o0.2.1 8) (o0.2.1 9) (o0.2.1 10) (o0.2.1 11) (o0.2.1 5)) (hm : 0 + (12 - v1.toInt - 1) * 1028 + 1 + (512 - v2.toInt) * 2 ≤ (n : Int)) : tt (fLi_findWays_25 (gLi_findWays n) v1 v2 o0) (QLi_findWays yo0) := by
  unfold fLi_findWays_25
  have ey_o0_0 : (o0.1 0).toInt = (yo0.1 0).toInt := congrArg Int32.toInt (r_o0.1 0 rfl)
  have g_o0_7 : (0 : Int) ≤ (o0.1 7).toInt ∧ (o0.1 7).toInt ≤ 576 := k_o0.1 7
  have t1 := Wy_e x_0
  refine tt_n (ix_ok i_v1 (by decide) (by decide)) ?_
  refine tt_kv (P := fun z => ((0 : Int) ≤ z.toInt ∧ z.toInt ≤ 3) ∧ z.toInt = (o0.2.1 5 v1.toNatClampNeg).toInt) ⟨(k_o0.2 5 _), rfl⟩ (fun x2 qi3 => ?_)
  obtain ⟨i3, ei3⟩ := qi3
  refine tt_if (fun c4 => ?_) (fun c4 => ?_)
  · have wc4 : x2.toInt ≤ (1 : Int) := c_le c4
    have i5 : (0 : Int) ≤ x2.toInt ∧ x2.toInt ≤ 1 := nr_lel c4 i3 (show (1 : Int) ≤ (1 : Int32).toInt ∧ (1 : Int32).toInt ≤ 1 by decide) (by decide) (by decide)
    try unfold fLi_findWays_74
    refine tt_kv (P := fun z => ((1 : Int) ≤ z.toInt ∧ z.toInt ≤ 12) ∧ z.toInt = v1.toInt + 1) ⟨iv_add i_v1 (show (1 : Int) ≤ (1 : Int32).toInt ∧ (1 : Int32).toInt ≤ 1 by decide) (by decide) (by decide) (by decide) (by decide), iq_add i_v1 (show (1 : Int) ≤ (1 : Int32).toInt ∧ (1 : Int32).toInt ≤ 1 by decide) (by decide) (by decide)⟩ (fun x6 qi7 => ?_)
    obtain ⟨i7, ei7⟩ := qi7
    exact H.1 _ _ k_o0 r_o0 (iv_w (a := 0) (b := 12) (by decide) (by decide) i7) (show (o0.1 7).toInt ≤ 48 * x6.toInt by omega) x_1 (show 0 + (12 - x6.toInt) * 1028 < (n : Int) by omega)
  · have wc4 : (1 : Int) < x2.toInt := c_nle c4
    have i8 : (2 : Int) ≤ x2.toInt ∧ x2.toInt ≤ 3 := nr_nler c4 (show (1 : Int) ≤ (1 : Int32).toInt ∧ (1 : Int32).toInt ≤ 1 by decide) i3 (by decide) (by decide)
    refine tt_n (ix_ok i_v1 (by decide) (by decide)) ?_
    refine tt_kv (P := fun z => ((0 : Int) ≤ z.toInt ∧ z.toInt ≤ 3) ∧ z.toInt = (o0.2.1 5 v1.toNatClampNeg).toInt) ⟨(k_o0.2 5 _), rfl⟩ (fun x9 qi10 => ?_)
    obtain ⟨i10, ei10⟩ := qi10
    refine tt_kv (P := fun z => ((0 : Int) ≤ z.toInt ∧ z.toInt ≤ 9) ∧ z.toInt = 3 * x9.toInt) ⟨iv_mul (show (3 : Int) ≤ (3 : Int32).toInt ∧ (3 : Int32).toInt ≤ 3 by decide) i10 (by decide) (by decide) (by decide) (by decide) (by decide), iq_mul (show (3 : Int) ≤ (3 : Int32).toInt ∧ (3 : Int32).toInt ≤ 3 by decide) i10 (by decide) (by decide) (by decide) (by decide)⟩ (fun x11 qi12 => ?_)
    obtain ⟨i12, ei12⟩ := qi12
    refine tt_kv (P := fun z => ((1 : Int) ≤ z.toInt ∧ z.toInt ≤ 512) ∧ z.toInt = ((1 : Int32) <<< (x11 &&& (31 : Int32))).toInt) ⟨iv_shl (p := 0) (q := 9) (show (1 : Int) ≤ (1 : Int32).toInt ∧ (1 : Int32).toInt ≤ 1 by decide) i12 (by decide) (by decide) (by decide) (by decide) (by decide), rfl⟩ (fun x13 qi14 => ?_)
    obtain ⟨i14, ei14⟩ := qi14
    refine tt_if (fun c15 => ?_) (fun c15 => ?_)
    · have wc15 : x13.toInt ≤ v2.toInt := c_le c15
      have i16 : (1 : Int) ≤ v2.toInt ∧ v2.toInt ≤ 512 := nr_ler c15 i14 i_v2 (by decide) (by decide)
      try unfold fLi_findWays_74
      refine tt_kv (P := fun z => ((1 : Int) ≤ z.toInt ∧ z.toInt ≤ 12) ∧ z.toInt = v1.toInt + 1) ⟨iv_add i_v1 (show (1 : Int) ≤ (1 : Int32).toInt ∧ (1 : Int32).toInt ≤ 1 by decide) (by decide) (by decide) (by decide) (by decide), iq_add i_v1 (show (1 : Int) ≤ (1 : Int32).toInt ∧ (1 : Int32).toInt ≤ 1 by decide) (by decide) (by decide)⟩ (fun x17 qi18 => ?_)
      obtain ⟨i18, ei18⟩ := qi18
      exact H.1 _ _ k_o0 r_o0 (iv_w (a := 0) (b := 12) (by decide) (by decide) i18) (show (o0.1 7).toInt ≤ 48 * x17.toInt by omega) x_1 (show 0 + (12 - x17.toInt) * 1028 < (n : Int) by omega)
    · have wc15 : v2.toInt < x13.toInt := c_nle c15
      have i19 : (0 : Int) ≤ v2.toInt ∧ v2.toInt ≤ 511 := nr_nlel c15 i_v2 i14 (by decide) (by decide)
      refine tt_n (ix_ok i_v1 (by decide) (by decide)) ?_
      refine tt_kv (P := fun z => ((0 : Int) ≤ z.toInt ∧ z.toInt ≤ 3) ∧ z.toInt = (o0.2.1 5 v1.toNatClampNeg).toInt) ⟨(k_o0.2 5 _), rfl⟩ (fun x20 qi21 => ?_)
      obtain ⟨i21, ei21⟩ := qi21
      refine tt_b (sLi_isEachOnce _ _ i19 i21) (fun q22 hq22 => ?_)
      obtain ⟨i_q22, zq22_0, -⟩ := hq22
      have t23 := Wy_t (p := o0.2.1 5 v1.toNatClampNeg) (k := v2) (show Int32.toInt _ = ((1 : Int32) <<< (_ &&& (31 : Int32))).toInt by assumption) (by omega) (by omega) (by omega) (by omega)
      have t24 := Ec_p (p := o0.2.1 5 v1.toNatClampNeg) (show Ec q22 v2 _ by assumption) (by omega)
      have t25 := Wy_l x_0 (show ctF _ _ ≤ 48 by assumption) (show Ec q22 v2 (o0.2.1 5 _) by assumption) i_v2.1
      have t26 := Pcs_i (p := o0.2.1 5 v1.toNatClampNeg) (show Ec q22 v2 (o0.2.1 5 v1.toNatClampNeg) by assumption) (show Int32.toInt _ = ((1 : Int32) <<< (_ &&& (31 : Int32))).toInt by assumption) (by omega) (by omega) (by omega) (by omega) (by omega)
      refine tt_if (fun c27 => ?_) (fun c27 => ?_)
      · have wc27 : q22.toInt = (0 : Int) := c_eq c27
        have i28 : (0 : Int) ≤ q22.toInt ∧ q22.toInt ≤ 0 := nr_eql c27 i_q22 (show (0 : Int) ≤ (0 : Int32).toInt ∧ (0 : Int32).toInt ≤ 0 by decide) (by decide) (by decide)
        try unfold fLi_findWays_68
        refine tt_kv (P := fun z => ((1 : Int) ≤ z.toInt ∧ z.toInt ≤ 512) ∧ z.toInt = v2.toInt + 1) ⟨iv_add i19 (show (1 : Int) ≤ (1 : Int32).toInt ∧ (1 : Int32).toInt ≤ 1 by decide) (by decide) (by decide) (by decide) (by decide), iq_add i19 (show (1 : Int) ≤ (1 : Int32).toInt ∧ (1 : Int32).toInt ≤ 1 by decide) (by decide) (by decide)⟩ (fun x29 qi30 => ?_)
        obtain ⟨i30, ei30⟩ := qi30
        have p31 : Wy (o0.1 7).toInt v1.toInt x29 ((o0.2.1 5) v1.toNatClampNeg) := by exact Wy_n x_0 (show ctF _ _ ≤ 48 by assumption) i_v2.1 (by omega)
        exact H.2 _ _ _ k_o0 r_o0 i_v1 (iv_w (a := 0) (b := 512) (by decide) (by decide) i30) f_o0_0 p31 x_1 (show 0 + (12 - v1.toInt - 1) * 1028 + 1 + (512 - x29.toInt) * 2 < (n : Int) by omega)
      · have wc27 : ¬ q22.toInt = (0 : Int) := c_ne c27
        have i32 : (1 : Int) ≤ q22.toInt ∧ q22.toInt ≤ 1 := nr_nela c27 i_q22 (show (0 : Int) ≤ (0 : Int32).toInt ∧ (0 : Int32).toInt ≤ 0 by decide) (by decide) (by decide)
        have p33 : Pcs v2 ((o0.2.1 5) v1.toNatClampNeg).toInt := by exact (show _ ∨ Pcs _ _ by assumption).resolve_left (by omega)
        have t34 : (0 : Int) ≤ (o0.2.1 5 v1.toNatClampNeg).toInt ∧ (o0.2.1 5 v1.toNatClampNeg).toInt ≤ 3 := k_o0.2 5 _
        refine tt_b (sLi_addWay _ _ _ k_o0 i_v1 i19 f_o0_0 x_1 p33 (show (o0.1 7).toInt ≤ 575 by omega) (show 1 < (o0.2.1 5 v1.toNatClampNeg).toInt by omega)) (fun q35 hq35 => ?_)
        obtain ⟨k_q35, n_q35, f_q35_7, zq35_0, zq35_1, -⟩ := hq35
        have r_q35 := fr_tr r_o0 n_q35 rfl rfl rfl
        have f_q35_0 : (1 : Int) ≤ (q35.1 0).toInt ∧ (q35.1 0).toInt ≤ 12 := by rw [n_q35.1 0 rfl]; exact f_o0_0
        have e_q35_0 : (q35.1 0).toInt = (o0.1 0).toInt := congrArg Int32.toInt (n_q35.1 0 rfl)
        have zq35_1 : (q35.1 7).toInt = (o0.1 7).toInt + 1 := zq35_1
        try unfold fLi_findWays_68
        refine tt_kv (P := fun z => ((1 : Int) ≤ z.toInt ∧ z.toInt ≤ 512) ∧ z.toInt = v2.toInt + 1) ⟨iv_add i19 (show (1 : Int) ≤ (1 : Int32).toInt ∧ (1 : Int32).toInt ≤ 1 by decide) (by decide) (by decide) (by decide) (by decide), iq_add i19 (show (1 : Int) ≤ (1 : Int32).toInt ∧ (1 : Int32).toInt ≤ 1 by decide) (by decide) (by decide)⟩ (fun x36 qi37 => ?_)
        obtain ⟨i37, ei37⟩ := qi37
        have p38 : Wy (q35.1 7).toInt v1.toInt x36 ((q35.2.1 5) v1.toNatClampNeg) := by rw [n_q35.2.1 5 rfl]; exact Wy_c x_0 (show ctF _ _ ≤ 48 by assumption) (show Ec _ v2 (o0.2.1 5 _) by assumption) (by omega) i_v2.1 (by omega) (by assumption)
        exact H.2 _ _ _ k_q35 r_q35 i_v1 (iv_w (a := 0) (b := 512) (by decide) (by decide) i37) f_q35_0 p38 zq35_0 (show 0 + (12 - v1.toInt - 1) * 1028 + 1 + (512 - x36.toInt) * 2 < (n : Int) by omega)
set_option maxHeartbeats 4000000 in
set_option maxRecDepth 100000 in
theorem tLi_findWays_15 {yo0 : cf_O} {n : Nat} (H : HLi_findWays yo0 n) (v1 : Int32) (o0 : cf_O) (k_o0 : okO I_Li o0) (r_o0 : Fr (fr_M [7] [8, 9, 10, 11] []) yo0 o0) (i_v1 : (0 : Int) ≤ v1.toInt ∧ v1.toInt ≤ 12) (x_0 : (o0.1 7).toInt ≤ 48 * v1.toInt) (x_1 : Lwy (o0.1 7).toInt (o0.2.1 8) (o0.2.1 9) (o0.2.1 10) (o0.2.1 11) (o0.2.1 5)) (hm : 0 + (12 - v1.toInt) * 1028 ≤ (n : Int)) : tt (fLi_findWays_15 (gLi_findWays n) v1 o0) (QLi_findWays yo0) := by
  unfold fLi_findWays_15
  have g_o0_0 : (0 : Int) ≤ (o0.1 0).toInt ∧ (o0.1 0).toInt ≤ 12 := k_o0.1 0
  have ey_o0_0 : (o0.1 0).toInt = (yo0.1 0).toInt := congrArg Int32.toInt (r_o0.1 0 rfl)
  have g_o0_7 : (0 : Int) ≤ (o0.1 7).toInt ∧ (o0.1 7).toInt ≤ 576 := k_o0.1 7
  refine tt_if (fun c1 => ?_) (fun c1 => ?_)
  · have wc1 : (o0.1 0).toInt ≤ v1.toInt := c_le c1
    exact tt_some ⟨k_o0, r_o0, x_1, trivial⟩
  · have wc1 : v1.toInt < (o0.1 0).toInt := c_nle c1
    have i2 : (0 : Int) ≤ v1.toInt ∧ v1.toInt ≤ 11 := nr_nlel c1 i_v1 (k_o0.1 0) (by decide) (by decide)
    have i3 : (1 : Int) ≤ (o0.1 0).toInt ∧ (o0.1 0).toInt ≤ 12 := nr_nler c1 i_v1 (k_o0.1 0) (by decide) (by decide)
    have p4 : Wy (o0.1 7).toInt v1.toInt (0 : Int32) ((o0.2.1 5) v1.toNatClampNeg) := by exact Wy_0 (by omega)
    exact H.2 _ _ _ k_o0 r_o0 i2 (iv_w (a := 0) (b := 512) (by decide) (by decide) (show (0 : Int) ≤ (0 : Int32).toInt ∧ (0 : Int32).toInt ≤ 0 by decide)) i3 p4 x_1 (show 0 + (12 - v1.toInt - 1) * 1028 + 1 + (512 - 0) * 2 < (n : Int) by omega)
set_option maxHeartbeats 4000000 in
set_option maxRecDepth 100000 in
theorem hLi_findWays (yo0 : cf_O) : ∀ n, HLi_findWays yo0 n := by
  intro n
  induction n with
  | zero => exact ⟨(fun v1 o0 k_o0 r_o0 i_v1 x_0 x_1 hm => by exact absurd (show 0 + (12 - v1.toInt) * 1028 < (0 : Int) from hm) (by omega)), (fun v1 v2 o0 k_o0 r_o0 i_v1 i_v2 f_o0_0 x_0 x_1 hm => by exact absurd (show 0 + (12 - v1.toInt - 1) * 1028 + 1 + (512 - v2.toInt) * 2 < (0 : Int) from hm) (by omega))⟩
  | succ n ih => exact ⟨(fun v1 o0 k_o0 r_o0 i_v1 x_0 x_1 hm => tLi_findWays_15 ih v1 o0 k_o0 r_o0 i_v1 x_0 x_1 (by omega)), (fun v1 v2 o0 k_o0 r_o0 i_v1 i_v2 f_o0_0 x_0 x_1 hm => tLi_findWays_25 ih v1 v2 o0 k_o0 r_o0 i_v1 i_v2 f_o0_0 x_0 x_1 (by omega))⟩
set_option maxHeartbeats 4000000 in
set_option maxRecDepth 100000 in
theorem sLi_findWays (o0 : cf_O) (k_o0 : okO I_Li o0) : tt (fLi_findWays o0) (QLi_findWays o0) := by
  have H := hLi_findWays o0 cfFU
  have hm : (12339 : Int) ≤ (cfFU : Nat) := by decide
  have r_o0 : Fr (fr_M [7] [8, 9, 10, 11] []) o0 o0 := fr_rfl
  unfold fLi_findWays fLi_findWays_0
  have g_o0_0 : (0 : Int) ≤ (o0.1 0).toInt ∧ (o0.1 0).toInt ≤ 12 := k_o0.1 0
  have g_o0_7 : (0 : Int) ≤ (o0.1 7).toInt ∧ (o0.1 7).toInt ≤ 576 := k_o0.1 7
  refine tt_ko ?_
  have k1 := ok_fp (k := 7) (v := 0) k_o0 (iv_w (a := 0) (b := 576) (by decide) (by decide) (show (0 : Int) ≤ (0 : Int32).toInt ∧ (0 : Int32).toInt ≤ 0 by decide))
  have r2 := fr_fp (k := 7) (v := 0) r_o0 rfl
  refine tt_b (sJArrays_fill_AII_Li11 _ _ k1 (show ((-1) : Int) ≤ ((-1) : Int32).toInt ∧ ((-1) : Int32).toInt ≤ (-1) by decide) (show (0 : Int) ≤ (0 : Int32).toInt ∧ (0 : Int32).toInt ≤ 0 by decide)) (fun q3 hq3 => ?_)
  obtain ⟨k_q3, n_q3, zq3_0, -⟩ := hq3
  have r_q3 := fr_tr r2 n_q3 rfl rfl rfl
  have f_q3_7 : (0 : Int) ≤ (q3.1 7).toInt ∧ (q3.1 7).toInt ≤ 0 := by rw [n_q3.1 7 rfl]; exact (show (0 : Int) ≤ (0 : Int32).toInt ∧ (0 : Int32).toInt ≤ 0 by decide)
  have e_q3_0 : (q3.1 0).toInt = (o0.1 0).toInt := congrArg Int32.toInt (n_q3.1 0 rfl)
  have g_q3_0 : (0 : Int) ≤ (q3.1 0).toInt ∧ (q3.1 0).toInt ≤ 12 := k_q3.1 0
  have e_q3_7 : (q3.1 7).toInt = (0 : Int32).toInt := congrArg Int32.toInt (n_q3.1 7 rfl)
  have zq3_0 : Fmo 512 (q3.2.1 11) := zq3_0
  have p4 : Lwy (q3.1 7).toInt (q3.2.1 8) (q3.2.1 9) (q3.2.1 10) (q3.2.1 11) (q3.2.1 5) := by first | exact Lwy_0 (show Fmo _ _ by assumption) rfl | exact Lwy_0 (show Fmo _ _ by assumption) (by omega)
  exact H.1 _ _ k_q3 r_q3 (iv_w (a := 0) (b := 12) (by decide) (by decide) (show (0 : Int) ≤ (0 : Int32).toInt ∧ (0 : Int32).toInt ≤ 0 by decide)) (show (q3.1 7).toInt ≤ 48 * 0 by omega) p4 (show 0 + (12 - 0) * 1028 < ((cfFU : Nat) : Int) by omega)
def QLi_scan (o0 : cf_O) (o1 : cf_O) (r : (Int32 × cf_O × cf_O)) : Prop := ((0 : Int) ≤ r.1.toInt ∧ r.1.toInt ≤ 2) ∧ (okO I_Li r.2.1) ∧ (Fr (fr_M [0, 1, 7] [3, 4, 5, 6, 8, 9, 10, 11] [2]) o0 r.2.1) ∧ (okO I_Tx r.2.2) ∧ (Fr (fr_M [4, 5, 6] [1, 2] []) o1 r.2.2) ∧ (Lbs r.1.toInt (r.2.1.1 7).toInt (r.2.1.1 1).toInt (r.2.1.2.1 8) (r.2.1.2.1 9) (r.2.1.2.1 10) (r.2.1.2.1 11) (r.2.1.2.1 5)) ∧ True
def HLi_scan (yo0 : cf_O) (yo1 : cf_O) (n : Nat) : Prop := (∀ (v2 : Int32) (v3 : Int32) (o0 : cf_O) (o1 : cf_O), (okO I_Li o0) → (Fr (fr_M [0, 1, 7] [3, 4, 5, 6, 8, 9, 10, 11] [2]) yo0 o0) → (okO I_Tx o1) → (Fr (fr_M [4, 5, 6] [1, 2] []) yo1 o1) → ((0 : Int) ≤ v2.toInt ∧ v2.toInt ≤ 1) → ((0 : Int) ≤ v3.toInt ∧ v3.toInt ≤ 1601) → ((o1.1 4).toInt + 1 ≤ (o1.1 6).toInt) → (-1 ≤ (o1.1 4).toInt) → 0 + (1601 - v3.toInt) * 2 < (n : Int) → tt (gLi_scan n 0 v2 v3 o0 o1) (QLi_scan yo0 yo1))
set_option maxHeartbeats 4000000 in
set_option maxRecDepth 100000 in
theorem tLi_scan_13 {yo0 : cf_O} {yo1 : cf_O} {n : Nat} (H : HLi_scan yo0 yo1 n) (v2 : Int32) (v3 : Int32) (o0 : cf_O) (o1 : cf_O) (k_o0 : okO I_Li o0) (r_o0 : Fr (fr_M [0, 1, 7] [3, 4, 5, 6, 8, 9, 10, 11] [2]) yo0 o0) (k_o1 : okO I_Tx o1) (r_o1 : Fr (fr_M [4, 5, 6] [1, 2] []) yo1 o1) (i_v2 : (0 : Int) ≤ v2.toInt ∧ v2.toInt ≤ 1) (i_v3 : (0 : Int) ≤ v3.toInt ∧ v3.toInt ≤ 1601) (x_0 : (o1.1 4).toInt + 1 ≤ (o1.1 6).toInt) (x_1 : -1 ≤ (o1.1 4).toInt) (hm : 0 + (1601 - v3.toInt) * 2 ≤ (n : Int)) : tt (fLi_scan_13 (gLi_scan n) v2 v3 o0 o1) (QLi_scan yo0 yo1) := by
  unfold fLi_scan_13
  have g_o0_4 : (0 : Int) ≤ (o0.1 4).toInt ∧ (o0.1 4).toInt ≤ 0 := k_o0.1 4
  have ey_o0_4 : (o0.1 4).toInt = (yo0.1 4).toInt := congrArg Int32.toInt (r_o0.1 4 rfl)
  have g_o0_6 : (0 : Int) ≤ (o0.1 6).toInt ∧ (o0.1 6).toInt ≤ 0 := k_o0.1 6
  have ey_o0_6 : (o0.1 6).toInt = (yo0.1 6).toInt := congrArg Int32.toInt (r_o0.1 6 rfl)
  have g_o1_4 : ((-1) : Int) ≤ (o1.1 4).toInt ∧ (o1.1 4).toInt ≤ 1602 := k_o1.1 4
  have g_o1_6 : (0 : Int) ≤ (o1.1 6).toInt ∧ (o1.1 6).toInt ≤ 1601 := k_o1.1 6
  refine tt_if (fun c1 => ?_) (fun c1 => ?_)
  · have wc1 : (1600 : Int) < v3.toInt := c_lt c1
    have i2 : (1601 : Int) ≤ v3.toInt ∧ v3.toInt ≤ 1601 := nr_ltr c1 (show (1600 : Int) ≤ (1600 : Int32).toInt ∧ (1600 : Int32).toInt ≤ 1600 by decide) i_v3 (by decide) (by decide)
    try unfold fLi_scan_64
    refine tt_if (fun c3 => ?_) (fun c3 => ?_)
    · have wc3 : v2.toInt = (0 : Int) := c_eq c3
      have i4 : (0 : Int) ≤ v2.toInt ∧ v2.toInt ≤ 0 := nr_eql c3 i_v2 (show (0 : Int) ≤ (0 : Int32).toInt ∧ (0 : Int32).toInt ≤ 0 by decide) (by decide) (by decide)
      have p5 : Lbs 1 (o0.1 7).toInt (o0.1 1).toInt (o0.2.1 8) (o0.2.1 9) (o0.2.1 10) (o0.2.1 11) (o0.2.1 5) := by first | exact Or.inl (by decide) | exact Or.inl (by omega) | exact Or.inr ⟨by assumption, by assumption⟩
      exact tt_some ⟨(iv_w (a := 0) (b := 2) (by decide) (by decide) (show (1 : Int) ≤ (1 : Int32).toInt ∧ (1 : Int32).toInt ≤ 1 by decide)), k_o0, r_o0, k_o1, r_o1, p5, trivial⟩
    · have wc3 : ¬ v2.toInt = (0 : Int) := c_ne c3
      have i6 : (1 : Int) ≤ v2.toInt ∧ v2.toInt ≤ 1 := nr_nela c3 i_v2 (show (0 : Int) ≤ (0 : Int32).toInt ∧ (0 : Int32).toInt ≤ 0 by decide) (by decide) (by decide)
      refine tt_b (sLi_findInverter _ k_o0) (fun q7 hq7 => ?_)
      obtain ⟨k_q7, n_q7, zq7_0, -⟩ := hq7
      have r_q7 := fr_tr r_o0 n_q7 rfl rfl rfl
      have e_q7_4 : (q7.1 4).toInt = (o0.1 4).toInt := congrArg Int32.toInt (n_q7.1 4 rfl)
      have g_q7_4 : (0 : Int) ≤ (q7.1 4).toInt ∧ (q7.1 4).toInt ≤ 0 := k_q7.1 4
      have e_q7_6 : (q7.1 6).toInt = (o0.1 6).toInt := congrArg Int32.toInt (n_q7.1 6 rfl)
      have g_q7_6 : (0 : Int) ≤ (q7.1 6).toInt ∧ (q7.1 6).toInt ≤ 0 := k_q7.1 6
      refine tt_b (sLi_findWays _ k_q7) (fun q8 hq8 => ?_)
      obtain ⟨k_q8, n_q8, zq8_0, -⟩ := hq8
      have r_q8 := fr_tr r_q7 n_q8 rfl rfl rfl
      have e_q8_4 : (q8.1 4).toInt = (q7.1 4).toInt := congrArg Int32.toInt (n_q8.1 4 rfl)
      have g_q8_4 : (0 : Int) ≤ (q8.1 4).toInt ∧ (q8.1 4).toInt ≤ 0 := k_q8.1 4
      have e_q8_6 : (q8.1 6).toInt = (q7.1 6).toInt := congrArg Int32.toInt (n_q8.1 6 rfl)
      have g_q8_6 : (0 : Int) ≤ (q8.1 6).toInt ∧ (q8.1 6).toInt ≤ 0 := k_q8.1 6
      have u9 : Ivr (q8.1 1).toInt (q8.2.1 5) := by rw [n_q8.1 1 rfl, n_q8.2.1 5 rfl]; exact zq7_0
      have p10 : Lbs 0 (q8.1 7).toInt (q8.1 1).toInt (q8.2.1 8) (q8.2.1 9) (q8.2.1 10) (q8.2.1 11) (q8.2.1 5) := by first | exact Or.inl (by decide) | exact Or.inl (by omega) | exact Or.inr ⟨by assumption, by assumption⟩
      exact tt_some ⟨(iv_w (a := 0) (b := 2) (by decide) (by decide) (show (0 : Int) ≤ (0 : Int32).toInt ∧ (0 : Int32).toInt ≤ 0 by decide)), k_q8, r_q8, k_o1, r_o1, p10, trivial⟩
  · have wc1 : v3.toInt ≤ (1600 : Int) := c_nlt c1
    have i11 : (0 : Int) ≤ v3.toInt ∧ v3.toInt ≤ 1600 := nr_nltl c1 i_v3 (show (1600 : Int) ≤ (1600 : Int32).toInt ∧ (1600 : Int32).toInt ≤ 1600 by decide) (by decide) (by decide)
    refine tt_b (sTx_toNextLine _ k_o1 (show (o1.1 4).toInt + 1 ≤ (o1.1 6).toInt by omega) (show -1 ≤ (o1.1 4).toInt by omega)) (fun q12 hq12 => ?_)
    obtain ⟨i_q12, k_q12_2, n_q12_2, f_q12_2_4, zq12_0, -⟩ := hq12
    have r_q12_2 := fr_tr r_o1 n_q12_2 rfl rfl rfl
    have g_q12_2_6 : (0 : Int) ≤ (q12.2.1 6).toInt ∧ (q12.2.1 6).toInt ≤ 1601 := k_q12_2.1 6
    have zq12_0 : q12.1.toInt = 0 ∨ ((q12.2.1 4).toInt + 1 ≤ (q12.2.1 6).toInt ∧ 0 ≤ (q12.2.1 4).toInt) := zq12_0
    refine tt_if (fun c13 => ?_) (fun c13 => ?_)
    · have wc13 : q12.1.toInt = (0 : Int) := c_eq c13
      have i14 : (0 : Int) ≤ q12.1.toInt ∧ q12.1.toInt ≤ 0 := nr_eql c13 i_q12 (show (0 : Int) ≤ (0 : Int32).toInt ∧ (0 : Int32).toInt ≤ 0 by decide) (by decide) (by decide)
      try unfold fLi_scan_64
      refine tt_if (fun c15 => ?_) (fun c15 => ?_)
      · have wc15 : v2.toInt = (0 : Int) := c_eq c15
        have i16 : (0 : Int) ≤ v2.toInt ∧ v2.toInt ≤ 0 := nr_eql c15 i_v2 (show (0 : Int) ≤ (0 : Int32).toInt ∧ (0 : Int32).toInt ≤ 0 by decide) (by decide) (by decide)
        have p17 : Lbs 1 (o0.1 7).toInt (o0.1 1).toInt (o0.2.1 8) (o0.2.1 9) (o0.2.1 10) (o0.2.1 11) (o0.2.1 5) := by first | exact Or.inl (by decide) | exact Or.inl (by omega) | exact Or.inr ⟨by assumption, by assumption⟩
        exact tt_some ⟨(iv_w (a := 0) (b := 2) (by decide) (by decide) (show (1 : Int) ≤ (1 : Int32).toInt ∧ (1 : Int32).toInt ≤ 1 by decide)), k_o0, r_o0, k_q12_2, r_q12_2, p17, trivial⟩
      · have wc15 : ¬ v2.toInt = (0 : Int) := c_ne c15
        have i18 : (1 : Int) ≤ v2.toInt ∧ v2.toInt ≤ 1 := nr_nela c15 i_v2 (show (0 : Int) ≤ (0 : Int32).toInt ∧ (0 : Int32).toInt ≤ 0 by decide) (by decide) (by decide)
        refine tt_b (sLi_findInverter _ k_o0) (fun q19 hq19 => ?_)
        obtain ⟨k_q19, n_q19, zq19_0, -⟩ := hq19
        have r_q19 := fr_tr r_o0 n_q19 rfl rfl rfl
        have e_q19_4 : (q19.1 4).toInt = (o0.1 4).toInt := congrArg Int32.toInt (n_q19.1 4 rfl)
        have g_q19_4 : (0 : Int) ≤ (q19.1 4).toInt ∧ (q19.1 4).toInt ≤ 0 := k_q19.1 4
        have e_q19_6 : (q19.1 6).toInt = (o0.1 6).toInt := congrArg Int32.toInt (n_q19.1 6 rfl)
        have g_q19_6 : (0 : Int) ≤ (q19.1 6).toInt ∧ (q19.1 6).toInt ≤ 0 := k_q19.1 6
        refine tt_b (sLi_findWays _ k_q19) (fun q20 hq20 => ?_)
        obtain ⟨k_q20, n_q20, zq20_0, -⟩ := hq20
        have r_q20 := fr_tr r_q19 n_q20 rfl rfl rfl
        have e_q20_4 : (q20.1 4).toInt = (q19.1 4).toInt := congrArg Int32.toInt (n_q20.1 4 rfl)
        have g_q20_4 : (0 : Int) ≤ (q20.1 4).toInt ∧ (q20.1 4).toInt ≤ 0 := k_q20.1 4
        have e_q20_6 : (q20.1 6).toInt = (q19.1 6).toInt := congrArg Int32.toInt (n_q20.1 6 rfl)
        have g_q20_6 : (0 : Int) ≤ (q20.1 6).toInt ∧ (q20.1 6).toInt ≤ 0 := k_q20.1 6
        have u21 : Ivr (q20.1 1).toInt (q20.2.1 5) := by rw [n_q20.1 1 rfl, n_q20.2.1 5 rfl]; exact zq19_0
        have p22 : Lbs 0 (q20.1 7).toInt (q20.1 1).toInt (q20.2.1 8) (q20.2.1 9) (q20.2.1 10) (q20.2.1 11) (q20.2.1 5) := by first | exact Or.inl (by decide) | exact Or.inl (by omega) | exact Or.inr ⟨by assumption, by assumption⟩
        exact tt_some ⟨(iv_w (a := 0) (b := 2) (by decide) (by decide) (show (0 : Int) ≤ (0 : Int32).toInt ∧ (0 : Int32).toInt ≤ 0 by decide)), k_q20, r_q20, k_q12_2, r_q12_2, p22, trivial⟩
    · have wc13 : ¬ q12.1.toInt = (0 : Int) := c_ne c13
      have i23 : (1 : Int) ≤ q12.1.toInt ∧ q12.1.toInt ≤ 1 := nr_nela c13 i_q12 (show (0 : Int) ≤ (0 : Int32).toInt ∧ (0 : Int32).toInt ≤ 0 by decide) (by decide) (by decide)
      refine tt_if (fun c24 => ?_) (fun c24 => ?_)
      · have wc24 : v2.toInt = (0 : Int) := c_eq c24
        have i25 : (0 : Int) ≤ v2.toInt ∧ v2.toInt ≤ 0 := nr_eql c24 i_v2 (show (0 : Int) ≤ (0 : Int32).toInt ∧ (0 : Int32).toInt ≤ 0 by decide) (by decide) (by decide)
        refine tt_b (sLi_scanLine _ _ k_o0 k_q12_2 f_q12_2_4) (fun q26 hq26 => ?_)
        obtain ⟨i_q26, k_q26_2, n_q26_2, -⟩ := hq26
        have r_q26_2 := fr_tr r_o0 n_q26_2 rfl rfl rfl
        have e_q26_2_4 : (q26.2.1 4).toInt = (o0.1 4).toInt := congrArg Int32.toInt (n_q26_2.1 4 rfl)
        have g_q26_2_4 : (0 : Int) ≤ (q26.2.1 4).toInt ∧ (q26.2.1 4).toInt ≤ 0 := k_q26_2.1 4
        have e_q26_2_6 : (q26.2.1 6).toInt = (o0.1 6).toInt := congrArg Int32.toInt (n_q26_2.1 6 rfl)
        have g_q26_2_6 : (0 : Int) ≤ (q26.2.1 6).toInt ∧ (q26.2.1 6).toInt ≤ 0 := k_q26_2.1 6
        try unfold fLi_scan_40
        refine tt_if (fun c27 => ?_) (fun c27 => ?_)
        · have wc27 : q26.1.toInt = (0 : Int) := c_eq c27
          have i28 : (0 : Int) ≤ q26.1.toInt ∧ q26.1.toInt ≤ 0 := nr_eql c27 i_q26 (show (0 : Int) ≤ (0 : Int32).toInt ∧ (0 : Int32).toInt ≤ 0 by decide) (by decide) (by decide)
          refine tt_b (sTx_isWord_S0 _ _ k_q12_2 (show (0 : Int) ≤ (0 : Int32).toInt ∧ (0 : Int32).toInt ≤ 0 by decide) f_q12_2_4) (fun q29 hq29 => ?_)
          obtain ⟨i_q29, -⟩ := hq29
          refine tt_kv (P := fun z => ((1 : Int) ≤ z.toInt ∧ z.toInt ≤ 1601) ∧ z.toInt = v3.toInt + 1) ⟨iv_add i11 (show (1 : Int) ≤ (1 : Int32).toInt ∧ (1 : Int32).toInt ≤ 1 by decide) (by decide) (by decide) (by decide) (by decide), iq_add i11 (show (1 : Int) ≤ (1 : Int32).toInt ∧ (1 : Int32).toInt ≤ 1 by decide) (by decide) (by decide)⟩ (fun x30 qi31 => ?_)
          obtain ⟨i31, ei31⟩ := qi31
          exact H _ _ _ _ k_q26_2 r_q26_2 k_q12_2 r_q12_2 i_q29 (iv_w (a := 0) (b := 1601) (by decide) (by decide) i31) (show (q12.2.1 4).toInt + 1 ≤ (q12.2.1 6).toInt by omega) (show -1 ≤ (q12.2.1 4).toInt by omega) (show 0 + (1601 - x30.toInt) * 2 < (n : Int) by omega)
        · have wc27 : ¬ q26.1.toInt = (0 : Int) := c_ne c27
          have i32 : (1 : Int) ≤ q26.1.toInt ∧ q26.1.toInt ≤ 2 := nr_nela c27 i_q26 (show (0 : Int) ≤ (0 : Int32).toInt ∧ (0 : Int32).toInt ≤ 0 by decide) (by decide) (by decide)
          have p33 : Lbs q26.1.toInt (q26.2.1 7).toInt (q26.2.1 1).toInt (q26.2.2.1 8) (q26.2.2.1 9) (q26.2.2.1 10) (q26.2.2.1 11) (q26.2.2.1 5) := by first | exact Or.inl (by decide) | exact Or.inl (by omega) | exact Or.inr ⟨by assumption, by assumption⟩
          exact tt_some ⟨(iv_w (a := 0) (b := 2) (by decide) (by decide) i32), k_q26_2, r_q26_2, k_q12_2, r_q12_2, p33, trivial⟩
      · have wc24 : ¬ v2.toInt = (0 : Int) := c_ne c24
        have i34 : (1 : Int) ≤ v2.toInt ∧ v2.toInt ≤ 1 := nr_nela c24 i_v2 (show (0 : Int) ≤ (0 : Int32).toInt ∧ (0 : Int32).toInt ≤ 0 by decide) (by decide) (by decide)
        try unfold fLi_scan_40
        refine tt_if (fun c35 => ?_) (fun c35 => ?_)
        · have wc35 : (1 : Int) = (0 : Int) := c_eq c35
          exact (dd_eq c35 (show (1 : Int) ≤ (1 : Int32).toInt ∧ (1 : Int32).toInt ≤ 1 by decide) (show (0 : Int) ≤ (0 : Int32).toInt ∧ (0 : Int32).toInt ≤ 0 by decide) (by decide)).elim
        · have wc35 : ¬ (1 : Int) = (0 : Int) := c_ne c35
          have p36 : Lbs 1 (o0.1 7).toInt (o0.1 1).toInt (o0.2.1 8) (o0.2.1 9) (o0.2.1 10) (o0.2.1 11) (o0.2.1 5) := by first | exact Or.inl (by decide) | exact Or.inl (by omega) | exact Or.inr ⟨by assumption, by assumption⟩
          exact tt_some ⟨(iv_w (a := 0) (b := 2) (by decide) (by decide) (show (1 : Int) ≤ (1 : Int32).toInt ∧ (1 : Int32).toInt ≤ 1 by decide)), k_o0, r_o0, k_q12_2, r_q12_2, p36, trivial⟩
set_option maxHeartbeats 4000000 in
set_option maxRecDepth 100000 in
theorem hLi_scan (yo0 : cf_O) (yo1 : cf_O) : ∀ n, HLi_scan yo0 yo1 n := by
  intro n
  induction n with
  | zero => exact (fun v2 v3 o0 o1 k_o0 r_o0 k_o1 r_o1 i_v2 i_v3 x_0 x_1 hm => by exact absurd (show 0 + (1601 - v3.toInt) * 2 < (0 : Int) from hm) (by omega))
  | succ n ih => exact (fun v2 v3 o0 o1 k_o0 r_o0 k_o1 r_o1 i_v2 i_v3 x_0 x_1 hm => tLi_scan_13 ih v2 v3 o0 o1 k_o0 r_o0 k_o1 r_o1 i_v2 i_v3 x_0 x_1 (by omega))
set_option maxHeartbeats 4000000 in
set_option maxRecDepth 100000 in
theorem sLi_scan (o0 : cf_O) (o1 : cf_O) (k_o0 : okO I_Li o0) (k_o1 : okO I_Tx o1) : tt (fLi_scan o0 o1) (QLi_scan o0 o1) := by
  have H := hLi_scan o0 o1 cfFU
  have hm : (3205 : Int) ≤ (cfFU : Nat) := by decide
  have r_o0 : Fr (fr_M [0, 1, 7] [3, 4, 5, 6, 8, 9, 10, 11] [2]) o0 o0 := fr_rfl
  have r_o1 : Fr (fr_M [4, 5, 6] [1, 2] []) o1 o1 := fr_rfl
  unfold fLi_scan fLi_scan_0
  have g_o0_4 : (0 : Int) ≤ (o0.1 4).toInt ∧ (o0.1 4).toInt ≤ 0 := k_o0.1 4
  have g_o0_6 : (0 : Int) ≤ (o0.1 6).toInt ∧ (o0.1 6).toInt ≤ 0 := k_o0.1 6
  have g_o1_4 : ((-1) : Int) ≤ (o1.1 4).toInt ∧ (o1.1 4).toInt ≤ 1602 := k_o1.1 4
  have g_o1_6 : (0 : Int) ≤ (o1.1 6).toInt ∧ (o1.1 6).toInt ≤ 1601 := k_o1.1 6
  refine tt_ko ?_
  have k1 := ok_fp (k := 0) (v := 0) k_o0 (iv_w (a := 0) (b := 12) (by decide) (by decide) (show (0 : Int) ≤ (0 : Int32).toInt ∧ (0 : Int32).toInt ≤ 0 by decide))
  have r2 := fr_fp (k := 0) (v := 0) r_o0 rfl
  refine tt_b (sTx_rewind _ k_o1) (fun q3 hq3 => ?_)
  obtain ⟨k_q3, n_q3, f_q3_4, f_q3_6, -⟩ := hq3
  have r_q3 := fr_tr r_o1 n_q3 rfl rfl rfl
  exact H _ _ _ _ k1 r2 k_q3 r_q3 (iv_w (a := 0) (b := 1) (by decide) (by decide) (show (0 : Int) ≤ (0 : Int32).toInt ∧ (0 : Int32).toInt ≤ 0 by decide)) (iv_w (a := 0) (b := 1601) (by decide) (by decide) (show (0 : Int) ≤ (0 : Int32).toInt ∧ (0 : Int32).toInt ≤ 0 by decide)) (show (q3.1 4).toInt + 1 ≤ (q3.1 6).toInt by omega) (show -1 ≤ (q3.1 4).toInt by omega) (show 0 + (1601 - 0) * 2 < ((cfFU : Nat) : Int) by omega)
def QMp_timeOf (v0 : Int64) (r : (Int32)) : Prop := ((0 : Int) ≤ r.toInt ∧ r.toInt ≤ 1048575) ∧ True
set_option maxHeartbeats 4000000 in
set_option maxRecDepth 100000 in
theorem sMp_timeOf (v0 : Int64)  : tt (fMp_timeOf v0) (QMp_timeOf v0) := by
  unfold fMp_timeOf fMp_timeOf_0
  refine tt_klv (P := fun z => (0 : Int) ≤ z.toInt ∧ z.toInt ≤ 1048575) (ivl_shr (k := 44) (by decide) (by decide) (by decide) (by decide)) (fun x1 i2 => ?_)
  refine tt_kv (P := fun z => (0 : Int) ≤ z.toInt ∧ z.toInt ≤ 1048575) (ivl_i i2 (by decide) (by decide)) (fun x3 i4 => ?_)
  exact tt_some ⟨i4, trivial⟩
def QMp_cellOf (v0 : Int64) (r : (Int32)) : Prop := ((0 : Int) ≤ r.toInt ∧ r.toInt ≤ 15) ∧ True
set_option maxHeartbeats 4000000 in
set_option maxRecDepth 100000 in
theorem sMp_cellOf (v0 : Int64)  : tt (fMp_cellOf v0) (QMp_cellOf v0) := by
  unfold fMp_cellOf fMp_cellOf_0
  refine tt_klv (P := fun z => (0 : Int) ≤ z.toInt ∧ z.toInt ≤ 17179869183) (ivl_shr (k := 30) (by decide) (by decide) (by decide) (by decide)) (fun x1 i2 => ?_)
  refine tt_klv (P := fun z => (0 : Int) ≤ z.toInt ∧ z.toInt ≤ 15) (ivl_and (by decide) (by decide) (by decide)) (fun x3 i4 => ?_)
  refine tt_kv (P := fun z => (0 : Int) ≤ z.toInt ∧ z.toInt ≤ 15) (ivl_i i4 (by decide) (by decide)) (fun x5 i6 => ?_)
  exact tt_some ⟨i6, trivial⟩
def QMp_pinOf (v0 : Int64) (v2 : Int32) (r : (Int32)) : Prop := ((0 : Int) ≤ r.toInt ∧ r.toInt ≤ 1023) ∧ True
set_option maxHeartbeats 4000000 in
set_option maxRecDepth 100000 in
theorem sMp_pinOf (v0 : Int64) (v2 : Int32) (i_v2 : (0 : Int) ≤ v2.toInt ∧ v2.toInt ≤ 2) : tt (fMp_pinOf v0 v2) (QMp_pinOf v0 v2) := by
  unfold fMp_pinOf fMp_pinOf_0
  refine tt_kv (P := fun z => ((1 : Int) ≤ z.toInt ∧ z.toInt ≤ 3) ∧ z.toInt = v2.toInt + 1) ⟨iv_add i_v2 (show (1 : Int) ≤ (1 : Int32).toInt ∧ (1 : Int32).toInt ≤ 1 by decide) (by decide) (by decide) (by decide) (by decide), iq_add i_v2 (show (1 : Int) ≤ (1 : Int32).toInt ∧ (1 : Int32).toInt ≤ 1 by decide) (by decide) (by decide)⟩ (fun x1 qi2 => ?_)
  obtain ⟨i2, ei2⟩ := qi2
  refine tt_kv (P := fun z => (10 : Int) ≤ z.toInt ∧ z.toInt ≤ 30) (iv_mul (show (10 : Int) ≤ (10 : Int32).toInt ∧ (10 : Int32).toInt ≤ 10 by decide) i2 (by decide) (by decide) (by decide) (by decide) (by decide)) (fun x3 i4 => ?_)
  refine tt_kv (P := fun z => (0 : Int) ≤ z.toInt ∧ z.toInt ≤ 20) (iv_sub (show (30 : Int) ≤ (30 : Int32).toInt ∧ (30 : Int32).toInt ≤ 30 by decide) i4 (by decide) (by decide) (by decide) (by decide)) (fun x5 i6 => ?_)
  refine tt_kl (fun x7 => ?_)
  refine tt_klv (P := fun z => (0 : Int) ≤ z.toInt ∧ z.toInt ≤ 1023) (ivl_and (by decide) (by decide) (by decide)) (fun x8 i9 => ?_)
  refine tt_kv (P := fun z => (0 : Int) ≤ z.toInt ∧ z.toInt ≤ 1023) (ivl_i i9 (by decide) (by decide)) (fun x10 i11 => ?_)
  exact tt_some ⟨i11, trivial⟩
def QMp_pack (v0 : Int32) (v1 : Int32) (v2 : Int64) (o0 : cf_O) (r : (Int64)) : Prop := True
set_option maxHeartbeats 4000000 in
set_option maxRecDepth 100000 in
theorem sMp_pack (v0 : Int32) (v1 : Int32) (v2 : Int64) (o0 : cf_O) (k_o0 : okO I_Li o0) (i_v0 : (0 : Int) ≤ v0.toInt ∧ v0.toInt ≤ 11) (i_v1 : (0 : Int) ≤ v1.toInt ∧ v1.toInt ≤ 1048575) (f_o0_0 : (1 : Int) ≤ (o0.1 0).toInt ∧ (o0.1 0).toInt ≤ 12) : tt (fMp_pack v0 v1 v2 o0) (QMp_pack v0 v1 v2 o0) := by
  have r_o0 : Fr (fr_M [] [] []) o0 o0 := fr_rfl
  unfold fMp_pack fMp_pack_0
  refine tt_n (ix_ok i_v0 (by decide) (by decide)) ?_
  refine tt_kv (P := fun z => ((-2147483648) : Int) ≤ z.toInt ∧ z.toInt ≤ 2147483647) (k_o0.2 4 _) (fun x1 i2 => ?_)
  refine tt_kv (P := fun z => ((-2147483648) : Int) ≤ z.toInt ∧ z.toInt ≤ 2147483647) (iv_top _) (fun x3 i4 => ?_)
  refine tt_klv (P := fun z => ((-2147483648) : Int) ≤ z.toInt ∧ z.toInt ≤ 2147483647) (ivl_of i4) (fun x5 i6 => ?_)
  refine tt_kl (fun x7 => ?_)
  refine tt_n (ix_ok i_v0 (by decide) (by decide)) ?_
  refine tt_kv (P := fun z => ((-2147483648) : Int) ≤ z.toInt ∧ z.toInt ≤ 2147483647) (k_o0.2 3 _) (fun x8 i9 => ?_)
  refine tt_klv (P := fun z => ((-2147483648) : Int) ≤ z.toInt ∧ z.toInt ≤ 2147483647) (ivl_of i9) (fun x10 i11 => ?_)
  refine tt_kl (fun x12 => ?_)
  refine tt_kl (fun x13 => ?_)
  refine tt_klv (P := fun z => (0 : Int) ≤ z.toInt ∧ z.toInt ≤ 11) (ivl_of i_v0) (fun x14 i15 => ?_)
  refine tt_kl (fun x16 => ?_)
  refine tt_kl (fun x17 => ?_)
  refine tt_kl (fun x18 => ?_)
  exact tt_some trivial
def QMp_matchOf (v1 : Int32) (o0 : cf_O) (o1 : cf_O) (o2 : cf_O) (r : (Int64)) : Prop := (Mgc r (o1.1 0).toInt (o1.2.1 2) (o0.2.2 4) (o2.2.1 5)) ∧ True
def HMp_matchOf (yv1 : Int32) (yo0 : cf_O) (yo1 : cf_O) (yo2 : cf_O) (n : Nat) : Prop := (∀ (v1 : Int32) (v4 : Int32) (v5 : Int32) (v6 : Int64) (v8 : Int32) (o0 : cf_O) (o1 : cf_O) (o2 : cf_O), (okO I_Mp o0) → (Fr (fr_M [] [] []) yo0 o0) → (okO I_Co o1) → (Fr (fr_M [] [] []) yo1 o1) → (okO I_Li o2) → (Fr (fr_M [] [] []) yo2 o2) → ((0 : Int) ≤ v1.toInt ∧ v1.toInt ≤ 575) → ((0 : Int) ≤ v4.toInt ∧ v4.toInt ≤ 11) → ((0 : Int) ≤ v5.toInt ∧ v5.toInt ≤ 1048575) → ((0 : Int) ≤ v8.toInt ∧ v8.toInt ≤ 3) → ((1 : Int) ≤ (o2.1 0).toInt ∧ (o2.1 0).toInt ≤ 12) → (Pkq (o1.1 0).toInt (o1.2.1 2) (o0.2.2 4) v8.toInt v6) → (Pls ((o2.2.1 9) v1.toNatClampNeg) ((o2.2.1 5) v4.toNatClampNeg) (o1.1 0).toInt) → 0 + (3 - v8.toInt) * 2 < (n : Int) → tt (gMp_matchOf n 0 v1 v4 v5 v6 v8 o0 o1 o2) (QMp_matchOf yv1 yo0 yo1 yo2))
set_option maxHeartbeats 4000000 in
set_option maxRecDepth 100000 in
theorem tMp_matchOf_17 {yv1 : Int32} {yo0 : cf_O} {yo1 : cf_O} {yo2 : cf_O} {n : Nat} (H : HMp_matchOf yv1 yo0 yo1 yo2 n) (v1 : Int32) (v4 : Int32) (v5 : Int32) (v6 : Int64) (v8 : Int32) (o0 : cf_O) (o1 : cf_O) (o2 : cf_O) (k_o0 : okO I_Mp o0) (r_o0 : Fr (fr_M [] [] []) yo0 o0) (k_o1 : okO I_Co o1) (r_o1 : Fr (fr_M [] [] []) yo1 o1) (k_o2 : okO I_Li o2) (r_o2 : Fr (fr_M [] [] []) yo2 o2) (i_v1 : (0 : Int) ≤ v1.toInt ∧ v1.toInt ≤ 575) (i_v4 : (0 : Int) ≤ v4.toInt ∧ v4.toInt ≤ 11) (i_v5 : (0 : Int) ≤ v5.toInt ∧ v5.toInt ≤ 1048575) (i_v8 : (0 : Int) ≤ v8.toInt ∧ v8.toInt ≤ 3) (f_o2_0 : (1 : Int) ≤ (o2.1 0).toInt ∧ (o2.1 0).toInt ≤ 12) (x_0 : Pkq (o1.1 0).toInt (o1.2.1 2) (o0.2.2 4) v8.toInt v6) (x_1 : Pls ((o2.2.1 9) v1.toNatClampNeg) ((o2.2.1 5) v4.toNatClampNeg) (o1.1 0).toInt) (hm : 0 + (3 - v8.toInt) * 2 ≤ (n : Int)) : tt (fMp_matchOf_17 (gMp_matchOf n) v1 v4 v5 v6 v8 o0 o1 o2) (QMp_matchOf yv1 yo0 yo1 yo2) := by
  unfold fMp_matchOf_17
  have g_o0_0 : (0 : Int) ≤ (o0.1 0).toInt ∧ (o0.1 0).toInt ≤ 418 := k_o0.1 0
  have ey_o0_0 : (o0.1 0).toInt = (yo0.1 0).toInt := congrArg Int32.toInt (r_o0.1 0 rfl)
  have g_o0_7 : (0 : Int) ≤ (o0.1 7).toInt ∧ (o0.1 7).toInt ≤ 0 := k_o0.1 7
  have ey_o0_7 : (o0.1 7).toInt = (yo0.1 7).toInt := congrArg Int32.toInt (r_o0.1 7 rfl)
  have g_o1_0 : (0 : Int) ≤ (o1.1 0).toInt ∧ (o1.1 0).toInt ≤ 5 := k_o1.1 0
  have ey_o1_0 : (o1.1 0).toInt = (yo1.1 0).toInt := congrArg Int32.toInt (r_o1.1 0 rfl)
  have g_o1_7 : (0 : Int) ≤ (o1.1 7).toInt ∧ (o1.1 7).toInt ≤ 0 := k_o1.1 7
  have ey_o1_7 : (o1.1 7).toInt = (yo1.1 7).toInt := congrArg Int32.toInt (r_o1.1 7 rfl)
  have ey_o2_0 : (o2.1 0).toInt = (yo2.1 0).toInt := congrArg Int32.toInt (r_o2.1 0 rfl)
  have g_o2_7 : (0 : Int) ≤ (o2.1 7).toInt ∧ (o2.1 7).toInt ≤ 576 := k_o2.1 7
  have ey_o2_7 : (o2.1 7).toInt = (yo2.1 7).toInt := congrArg Int32.toInt (r_o2.1 7 rfl)
  refine tt_n (ix_ok i_v4 (by decide) (by decide)) ?_
  refine tt_kv (P := fun z => ((0 : Int) ≤ z.toInt ∧ z.toInt ≤ 3) ∧ z = (o2.2.1 5 v4.toNatClampNeg) ∧ z.toInt = (o2.2.1 5 v4.toNatClampNeg).toInt) ⟨(k_o2.2 5 _), rfl, rfl⟩ (fun x1 qi2 => ?_)
  obtain ⟨i2, ax1, ei2⟩ := qi2
  refine tt_if (fun c3 => ?_) (fun c3 => ?_)
  · have wc3 : x1.toInt ≤ v8.toInt := c_le c3
    refine tt_be (sMp_pack _ _ _ _ k_o2 i_v4 i_v5 f_o2_0) (fun q4 hq4 eq4 => ?_)
    have p5 : Mgc q4 (yo1.1 0).toInt (yo1.2.1 2) (yo0.2.2 4) (yo2.2.1 5) := by first | exact Or.inl rfl | (rw [← r_o1.1 0 rfl, ← r_o1.2.1 2 rfl, ← r_o0.2.2 4 rfl, ← r_o2.2.1 5 rfl]; exact Pkq_g x_0 eq4 (by assumption) (by omega) (by omega))
    exact tt_some ⟨p5, trivial⟩
  · have wc3 : v8.toInt < x1.toInt := c_nle c3
    have i6 : (0 : Int) ≤ v8.toInt ∧ v8.toInt ≤ 2 := nr_nlel c3 i_v8 i2 (by decide) (by decide)
    have i7 : (1 : Int) ≤ x1.toInt ∧ x1.toInt ≤ 3 := nr_nler c3 i_v8 i2 (by decide) (by decide)
    refine tt_n (ix_ok i_v1 (by decide) (by decide)) ?_
    refine tt_kv (P := fun z => ((0 : Int) ≤ z.toInt ∧ z.toInt ≤ 511) ∧ z = (o2.2.1 9 v1.toNatClampNeg) ∧ z.toInt = (o2.2.1 9 v1.toNatClampNeg).toInt) ⟨(k_o2.2 9 _), rfl, rfl⟩ (fun x8 qi9 => ?_)
    obtain ⟨i9, ax8, ei9⟩ := qi9
    refine tt_kv (P := fun z => ((0 : Int) ≤ z.toInt ∧ z.toInt ≤ 6) ∧ z = (3 * v8) ∧ z.toInt = 3 * v8.toInt) ⟨iv_mul (show (3 : Int) ≤ (3 : Int32).toInt ∧ (3 : Int32).toInt ≤ 3 by decide) i6 (by decide) (by decide) (by decide) (by decide) (by decide), rfl, iq_mul (show (3 : Int) ≤ (3 : Int32).toInt ∧ (3 : Int32).toInt ≤ 3 by decide) i6 (by decide) (by decide) (by decide) (by decide)⟩ (fun x10 qi11 => ?_)
    obtain ⟨i11, ax10, ei11⟩ := qi11
    refine tt_kv (P := fun z => ((0 : Int) ≤ z.toInt ∧ z.toInt ≤ 511) ∧ z = (x8 >>> (x10 &&& 31))) ⟨iv_shr (p := 0) (q := 6) i9 i11 (by decide) (by decide) (by decide) (by decide), rfl⟩ (fun x12 qi13 => ?_)
    obtain ⟨i13, ax12⟩ := qi13
    refine tt_kv (P := fun z => ((0 : Int) ≤ z.toInt ∧ z.toInt ≤ 7) ∧ z = (x12 &&& 7)) ⟨iv_and (show (7 : Int) ≤ (7 : Int32).toInt ∧ (7 : Int32).toInt ≤ 7 by decide) (by decide) (by decide) (by decide), rfl⟩ (fun x14 qi15 => ?_)
    obtain ⟨i15, ax14⟩ := qi15
    refine tt_kv (P := fun z => ((0 : Int) ≤ z.toInt ∧ z.toInt ≤ 3) ∧ z = (x14 >>> (1 &&& 31)) ∧ z.toInt = x14.toInt / 2) ⟨iv_shr (p := 1) (q := 1) i15 (show (1 : Int) ≤ (1 : Int32).toInt ∧ (1 : Int32).toInt ≤ 1 by decide) (by decide) (by decide) (by decide) (by decide), rfl, i_s1 (Int.le_trans (by decide) i15.1)⟩ (fun x16 qi17 => ?_)
    obtain ⟨i17, ax16, ei17⟩ := qi17
    refine tt_n (ix_ok i17 (by decide) (by decide)) ?_
    refine tt_kv (P := fun z => ((0 : Int) ≤ z.toInt ∧ z.toInt ≤ 208) ∧ z = (o1.2.1 2 x16.toNatClampNeg) ∧ z.toInt = (o1.2.1 2 x16.toNatClampNeg).toInt) ⟨(k_o1.2 2 _), rfl, rfl⟩ (fun x18 qi19 => ?_)
    obtain ⟨i19, ax18, ei19⟩ := qi19
    refine tt_kv (P := fun z => ((0 : Int) ≤ z.toInt ∧ z.toInt ≤ 416) ∧ z = (2 * x18) ∧ z.toInt = 2 * x18.toInt) ⟨iv_mul (show (2 : Int) ≤ (2 : Int32).toInt ∧ (2 : Int32).toInt ≤ 2 by decide) i19 (by decide) (by decide) (by decide) (by decide) (by decide), rfl, iq_mul (show (2 : Int) ≤ (2 : Int32).toInt ∧ (2 : Int32).toInt ≤ 2 by decide) i19 (by decide) (by decide) (by decide) (by decide)⟩ (fun x20 qi21 => ?_)
    obtain ⟨i21, ax20, ei21⟩ := qi21
    refine tt_kv (P := fun z => ((0 : Int) ≤ z.toInt ∧ z.toInt ≤ 1) ∧ z = (x14 &&& 1) ∧ z.toInt = x14.toInt % 2) ⟨iv_and (show (1 : Int) ≤ (1 : Int32).toInt ∧ (1 : Int32).toInt ≤ 1 by decide) (by decide) (by decide) (by decide), rfl, i_a1 (Int.le_trans (by decide) i15.1)⟩ (fun x22 qi23 => ?_)
    obtain ⟨i23, ax22, ei23⟩ := qi23
    refine tt_kv (P := fun z => ((0 : Int) ≤ z.toInt ∧ z.toInt ≤ 417) ∧ z = (x20 + x22) ∧ z.toInt = x20.toInt + x22.toInt) ⟨iv_add i21 i23 (by decide) (by decide) (by decide) (by decide), rfl, iq_add i21 i23 (by decide) (by decide)⟩ (fun x24 qi25 => ?_)
    obtain ⟨i25, ax24, ei25⟩ := qi25
    refine tt_n (ix_ok i25 (by decide) (by decide)) ?_
    refine tt_klr (fun x26 ax26 => ?_)
    refine tt_kv (P := fun z => (((-2147483648) : Int) ≤ z.toInt ∧ z.toInt ≤ 2147483647) ∧ z = (lg_cmp x26 (9223372036854775807 : Int64))) ⟨iv_top _, rfl⟩ (fun x27 qi28 => ?_)
    obtain ⟨i28, ax27⟩ := qi28
    refine tt_if (fun c29 => ?_) (fun c29 => ?_)
    · have wc29 : x27.toInt = (0 : Int) := c_eq c29
      have i30 : (0 : Int) ≤ x27.toInt ∧ x27.toInt ≤ 0 := nr_eql c29 i28 (show (0 : Int) ≤ (0 : Int32).toInt ∧ (0 : Int32).toInt ≤ 0 by decide) (by decide) (by decide)
      have p31 : Mgc (9223372036854775807 : Int64) (yo1.1 0).toInt (yo1.2.1 2) (yo0.2.2 4) (yo2.2.1 5) := by first | exact Or.inl rfl | (rw [← r_o1.1 0 rfl, ← r_o1.2.1 2 rfl, ← r_o0.2.2 4 rfl, ← r_o2.2.1 5 rfl]; exact Pkq_g x_0 eq4 (by assumption) (by omega) (by omega))
      exact tt_some ⟨p31, trivial⟩
    · have wc29 : ¬ x27.toInt = (0 : Int) := c_ne c29
      refine tt_n (ix_ok i25 (by decide) (by decide)) ?_
      refine tt_klr (fun x32 ax32 => ?_)
      refine tt_b (sMp_timeOf _ ) (fun q33 hq33 => ?_)
      obtain ⟨i_q33, -⟩ := hq33
      refine tt_kv (P := fun z => ((0 : Int) ≤ z.toInt ∧ z.toInt ≤ 1048575) ∧ z = (op_mx v5 q33)) ⟨iv_mx i_v5 i_q33 (by decide) (by decide) (by decide) (by decide), rfl⟩ (fun x34 qi35 => ?_)
      obtain ⟨i35, ax34⟩ := qi35
      refine tt_klr (fun x36 ax36 => ?_)
      refine tt_kv (P := fun z => ((1 : Int) ≤ z.toInt ∧ z.toInt ≤ 3) ∧ z = (v8 + 1) ∧ z.toInt = v8.toInt + 1) ⟨iv_add i6 (show (1 : Int) ≤ (1 : Int32).toInt ∧ (1 : Int32).toInt ≤ 1 by decide) (by decide) (by decide) (by decide) (by decide), rfl, iq_add i6 (show (1 : Int) ≤ (1 : Int32).toInt ∧ (1 : Int32).toInt ≤ 1 by decide) (by decide) (by decide)⟩ (fun x37 qi38 => ?_)
      obtain ⟨i38, ax37, ei38⟩ := qi38
      refine tt_kv (P := fun z => ((10 : Int) ≤ z.toInt ∧ z.toInt ≤ 30) ∧ z = (10 * x37) ∧ z.toInt = 10 * x37.toInt) ⟨iv_mul (show (10 : Int) ≤ (10 : Int32).toInt ∧ (10 : Int32).toInt ≤ 10 by decide) i38 (by decide) (by decide) (by decide) (by decide) (by decide), rfl, iq_mul (show (10 : Int) ≤ (10 : Int32).toInt ∧ (10 : Int32).toInt ≤ 10 by decide) i38 (by decide) (by decide) (by decide) (by decide)⟩ (fun x39 qi40 => ?_)
      obtain ⟨i40, ax39, ei40⟩ := qi40
      refine tt_kv (P := fun z => ((0 : Int) ≤ z.toInt ∧ z.toInt ≤ 20) ∧ z = (30 - x39) ∧ z.toInt = 30 - x39.toInt) ⟨iv_sub (show (30 : Int) ≤ (30 : Int32).toInt ∧ (30 : Int32).toInt ≤ 30 by decide) i40 (by decide) (by decide) (by decide) (by decide), rfl, iq_sub (show (30 : Int) ≤ (30 : Int32).toInt ∧ (30 : Int32).toInt ≤ 30 by decide) i40 (by decide) (by decide)⟩ (fun x41 qi42 => ?_)
      obtain ⟨i42, ax41, ei42⟩ := qi42
      refine tt_klr (fun x43 ax43 => ?_)
      refine tt_klr (fun x44 ax44 => ?_)
      refine tt_kv (P := fun z => ((1 : Int) ≤ z.toInt ∧ z.toInt ≤ 3) ∧ z = (v8 + 1) ∧ z.toInt = v8.toInt + 1) ⟨iv_add i6 (show (1 : Int) ≤ (1 : Int32).toInt ∧ (1 : Int32).toInt ≤ 1 by decide) (by decide) (by decide) (by decide) (by decide), rfl, iq_add i6 (show (1 : Int) ≤ (1 : Int32).toInt ∧ (1 : Int32).toInt ≤ 1 by decide) (by decide) (by decide)⟩ (fun x45 qi46 => ?_)
      obtain ⟨i46, ax45, ei46⟩ := qi46
      have p47 : Pkq (o1.1 0).toInt (o1.2.1 2) (o0.2.2 4) x45.toInt x44 := by exact Pkq_t (k := v8) x_0 (show _ = v6 ||| _ by assumption) (show _ = _ <<< _ by assumption) (show _ = Int32.toInt64 _ by assumption) (show _ = 30 - _ by assumption) (show _ = 10 * _ by assumption) (by assumption) (Qp_i x_1 (by assumption) (by assumption) (by assumption) (by assumption) (by assumption) (by assumption) (by assumption) (by assumption) (show _ = lg_cmp _ _ by assumption) (by assumption) (by omega) (by omega) (by omega) (by omega) (by omega) (by omega) (by assumption)) (by omega) (by omega) (by omega) (by omega) (by omega)
      exact H _ _ _ _ _ _ _ _ k_o0 r_o0 k_o1 r_o1 k_o2 r_o2 i_v1 i_v4 i35 (iv_w (a := 0) (b := 3) (by decide) (by decide) i46) f_o2_0 p47 x_1 (show 0 + (3 - x45.toInt) * 2 < (n : Int) by omega)
set_option maxHeartbeats 4000000 in
set_option maxRecDepth 100000 in
theorem hMp_matchOf (yv1 : Int32) (yo0 : cf_O) (yo1 : cf_O) (yo2 : cf_O) : ∀ n, HMp_matchOf yv1 yo0 yo1 yo2 n := by
  intro n
  induction n with
  | zero => exact (fun v1 v4 v5 v6 v8 o0 o1 o2 k_o0 r_o0 k_o1 r_o1 k_o2 r_o2 i_v1 i_v4 i_v5 i_v8 f_o2_0 x_0 x_1 hm => by exact absurd (show 0 + (3 - v8.toInt) * 2 < (0 : Int) from hm) (by omega))
  | succ n ih => exact (fun v1 v4 v5 v6 v8 o0 o1 o2 k_o0 r_o0 k_o1 r_o1 k_o2 r_o2 i_v1 i_v4 i_v5 i_v8 f_o2_0 x_0 x_1 hm => tMp_matchOf_17 ih v1 v4 v5 v6 v8 o0 o1 o2 k_o0 r_o0 k_o1 r_o1 k_o2 r_o2 i_v1 i_v4 i_v5 i_v8 f_o2_0 x_0 x_1 (by omega))
set_option maxHeartbeats 4000000 in
set_option maxRecDepth 100000 in
theorem sMp_matchOf (v1 : Int32) (o0 : cf_O) (o1 : cf_O) (o2 : cf_O) (k_o0 : okO I_Mp o0) (k_o1 : okO I_Co o1) (k_o2 : okO I_Li o2) (i_v1 : (0 : Int) ≤ v1.toInt ∧ v1.toInt ≤ 575) (f_o2_0 : (1 : Int) ≤ (o2.1 0).toInt ∧ (o2.1 0).toInt ≤ 12) (x_0 : Lwy (o2.1 7).toInt (o2.2.1 8) (o2.2.1 9) (o2.2.1 10) (o2.2.1 11) (o2.2.1 5)) (x_1 : Wok v1.toInt (o2.1 7).toInt (o1.1 0).toInt (o2.2.1 8) (o2.2.1 5)) : tt (fMp_matchOf v1 o0 o1 o2) (QMp_matchOf v1 o0 o1 o2) := by
  have H := hMp_matchOf v1 o0 o1 o2 cfFU
  have hm : (9 : Int) ≤ (cfFU : Nat) := by decide
  have r_o0 : Fr (fr_M [] [] []) o0 o0 := fr_rfl
  have r_o1 : Fr (fr_M [] [] []) o1 o1 := fr_rfl
  have r_o2 : Fr (fr_M [] [] []) o2 o2 := fr_rfl
  unfold fMp_matchOf fMp_matchOf_0
  have g_o0_0 : (0 : Int) ≤ (o0.1 0).toInt ∧ (o0.1 0).toInt ≤ 418 := k_o0.1 0
  have g_o0_7 : (0 : Int) ≤ (o0.1 7).toInt ∧ (o0.1 7).toInt ≤ 0 := k_o0.1 7
  have g_o1_0 : (0 : Int) ≤ (o1.1 0).toInt ∧ (o1.1 0).toInt ≤ 5 := k_o1.1 0
  have g_o1_7 : (0 : Int) ≤ (o1.1 7).toInt ∧ (o1.1 7).toInt ≤ 0 := k_o1.1 7
  have g_o2_7 : (0 : Int) ≤ (o2.1 7).toInt ∧ (o2.1 7).toInt ≤ 576 := k_o2.1 7
  refine tt_n (ix_ok i_v1 (by decide) (by decide)) ?_
  refine tt_kv (P := fun z => ((0 : Int) ≤ z.toInt ∧ z.toInt ≤ 11) ∧ z = (o2.2.1 8 v1.toNatClampNeg) ∧ z.toInt = (o2.2.1 8 v1.toNatClampNeg).toInt) ⟨(k_o2.2 8 _), rfl, rfl⟩ (fun x1 qi2 => ?_)
  obtain ⟨i2, ax1, ei2⟩ := qi2
  have p3 : Pkq (o1.1 0).toInt (o1.2.1 2) (o0.2.2 4) 0 (0 : Int64) := by exact Pkq_0
  have p4 : Pls ((o2.2.1 9) v1.toNatClampNeg) ((o2.2.1 5) x1.toNatClampNeg) (o1.1 0).toInt := by exact Pls_i x_0 x_1 (by assumption) (by omega)
  exact H _ _ _ _ _ _ _ _ k_o0 r_o0 k_o1 r_o1 k_o2 r_o2 i_v1 i2 (iv_w (a := 0) (b := 1048575) (by decide) (by decide) (show (0 : Int) ≤ (0 : Int32).toInt ∧ (0 : Int32).toInt ≤ 0 by decide)) (iv_w (a := 0) (b := 3) (by decide) (by decide) (show (0 : Int) ≤ (0 : Int32).toInt ∧ (0 : Int32).toInt ≤ 0 by decide)) f_o2_0 p3 p4 (show 0 + (3 - 0) * 2 < ((cfFU : Nat) : Int) by omega)
def QMp_leastMatch (v1 : Int32) (o0 : cf_O) (o1 : cf_O) (o2 : cf_O) (r : (Int64)) : Prop := (Mgc r (o1.1 0).toInt (o1.2.1 2) (o0.2.2 4) (o2.2.1 5)) ∧ True
def HMp_leastMatch (yv1 : Int32) (yo0 : cf_O) (yo1 : cf_O) (yo2 : cf_O) (n : Nat) : Prop := (∀ (v4 : Int64) (v6 : Int32) (v7 : Int32) (o0 : cf_O) (o1 : cf_O) (o2 : cf_O), (okO I_Mp o0) → (Fr (fr_M [] [] []) yo0 o0) → (okO I_Co o1) → (Fr (fr_M [] [] []) yo1 o1) → (okO I_Li o2) → (Fr (fr_M [] [] []) yo2 o2) → (((-1) : Int) ≤ v6.toInt ∧ v6.toInt ≤ 575) → ((0 : Int) ≤ v7.toInt ∧ v7.toInt ≤ 576) → ((1 : Int) ≤ (o2.1 0).toInt ∧ (o2.1 0).toInt ≤ 12) → (Lwy (o2.1 7).toInt (o2.2.1 8) (o2.2.1 9) (o2.2.1 10) (o2.2.1 11) (o2.2.1 5)) → (Mgc v4 (o1.1 0).toInt (o1.2.1 2) (o0.2.2 4) (o2.2.1 5)) → ((v6.toInt = -1 ∨ Wok v6.toInt (o2.1 7).toInt (o1.1 0).toInt (o2.2.1 8) (o2.2.1 5))) → 0 + (576 - v7.toInt) * 2 < (n : Int) → tt (gMp_leastMatch n 0 v4 v6 v7 o0 o1 o2) (QMp_leastMatch yv1 yo0 yo1 yo2))
set_option maxHeartbeats 4000000 in
set_option maxRecDepth 100000 in
theorem tMp_leastMatch_23 {yv1 : Int32} {yo0 : cf_O} {yo1 : cf_O} {yo2 : cf_O} {n : Nat} (H : HMp_leastMatch yv1 yo0 yo1 yo2 n) (v4 : Int64) (v6 : Int32) (v7 : Int32) (o0 : cf_O) (o1 : cf_O) (o2 : cf_O) (k_o0 : okO I_Mp o0) (r_o0 : Fr (fr_M [] [] []) yo0 o0) (k_o1 : okO I_Co o1) (r_o1 : Fr (fr_M [] [] []) yo1 o1) (k_o2 : okO I_Li o2) (r_o2 : Fr (fr_M [] [] []) yo2 o2) (i_v6 : ((-1) : Int) ≤ v6.toInt ∧ v6.toInt ≤ 575) (i_v7 : (0 : Int) ≤ v7.toInt ∧ v7.toInt ≤ 576) (f_o2_0 : (1 : Int) ≤ (o2.1 0).toInt ∧ (o2.1 0).toInt ≤ 12) (x_0 : Lwy (o2.1 7).toInt (o2.2.1 8) (o2.2.1 9) (o2.2.1 10) (o2.2.1 11) (o2.2.1 5)) (x_1 : Mgc v4 (o1.1 0).toInt (o1.2.1 2) (o0.2.2 4) (o2.2.1 5)) (x_2 : (v6.toInt = -1 ∨ Wok v6.toInt (o2.1 7).toInt (o1.1 0).toInt (o2.2.1 8) (o2.2.1 5))) (hm : 0 + (576 - v7.toInt) * 2 ≤ (n : Int)) : tt (fMp_leastMatch_23 (gMp_leastMatch n) v4 v6 v7 o0 o1 o2) (QMp_leastMatch yv1 yo0 yo1 yo2) := by
  unfold fMp_leastMatch_23
  have g_o0_0 : (0 : Int) ≤ (o0.1 0).toInt ∧ (o0.1 0).toInt ≤ 418 := k_o0.1 0
  have ey_o0_0 : (o0.1 0).toInt = (yo0.1 0).toInt := congrArg Int32.toInt (r_o0.1 0 rfl)
  have g_o0_7 : (0 : Int) ≤ (o0.1 7).toInt ∧ (o0.1 7).toInt ≤ 0 := k_o0.1 7
  have ey_o0_7 : (o0.1 7).toInt = (yo0.1 7).toInt := congrArg Int32.toInt (r_o0.1 7 rfl)
  have g_o1_0 : (0 : Int) ≤ (o1.1 0).toInt ∧ (o1.1 0).toInt ≤ 5 := k_o1.1 0
  have ey_o1_0 : (o1.1 0).toInt = (yo1.1 0).toInt := congrArg Int32.toInt (r_o1.1 0 rfl)
  have g_o1_7 : (0 : Int) ≤ (o1.1 7).toInt ∧ (o1.1 7).toInt ≤ 0 := k_o1.1 7
  have ey_o1_7 : (o1.1 7).toInt = (yo1.1 7).toInt := congrArg Int32.toInt (r_o1.1 7 rfl)
  have ey_o2_0 : (o2.1 0).toInt = (yo2.1 0).toInt := congrArg Int32.toInt (r_o2.1 0 rfl)
  have g_o2_7 : (0 : Int) ≤ (o2.1 7).toInt ∧ (o2.1 7).toInt ≤ 576 := k_o2.1 7
  have ey_o2_7 : (o2.1 7).toInt = (yo2.1 7).toInt := congrArg Int32.toInt (r_o2.1 7 rfl)
  refine tt_if (fun c1 => ?_) (fun c1 => ?_)
  · have wc1 : (576 : Int) ≤ v7.toInt := c_le c1
    have i2 : (576 : Int) ≤ v7.toInt ∧ v7.toInt ≤ 576 := nr_ler c1 (show (576 : Int) ≤ (576 : Int32).toInt ∧ (576 : Int32).toInt ≤ 576 by decide) i_v7 (by decide) (by decide)
    try unfold fMp_leastMatch_67
    have p3 : Mgc v4 (yo1.1 0).toInt (yo1.2.1 2) (yo0.2.2 4) (yo2.2.1 5) := by rw [← r_o1.1 0 rfl, ← r_o1.2.1 2 rfl, ← r_o0.2.2 4 rfl, ← r_o2.2.1 5 rfl]; exact x_1
    exact tt_some ⟨p3, trivial⟩
  · have wc1 : v7.toInt < (576 : Int) := c_nle c1
    have i4 : (0 : Int) ≤ v7.toInt ∧ v7.toInt ≤ 575 := nr_nlel c1 i_v7 (show (576 : Int) ≤ (576 : Int32).toInt ∧ (576 : Int32).toInt ≤ 576 by decide) (by decide) (by decide)
    refine tt_if (fun c5 => ?_) (fun c5 => ?_)
    · have wc5 : v6.toInt = ((-1) : Int) := c_eq c5
      have i6 : ((-1) : Int) ≤ v6.toInt ∧ v6.toInt ≤ (-1) := nr_eql c5 i_v6 (show ((-1) : Int) ≤ ((-1) : Int32).toInt ∧ ((-1) : Int32).toInt ≤ (-1) by decide) (by decide) (by decide)
      try unfold fMp_leastMatch_67
      have p7 : Mgc v4 (yo1.1 0).toInt (yo1.2.1 2) (yo0.2.2 4) (yo2.2.1 5) := by rw [← r_o1.1 0 rfl, ← r_o1.2.1 2 rfl, ← r_o0.2.2 4 rfl, ← r_o2.2.1 5 rfl]; exact x_1
      exact tt_some ⟨p7, trivial⟩
    · have wc5 : ¬ v6.toInt = ((-1) : Int) := c_ne c5
      have i8 : (0 : Int) ≤ v6.toInt ∧ v6.toInt ≤ 575 := nr_nela c5 i_v6 (show ((-1) : Int) ≤ ((-1) : Int32).toInt ∧ ((-1) : Int32).toInt ≤ (-1) by decide) (by decide) (by decide)
      have p9 : Wok v6.toInt (o2.1 7).toInt (o1.1 0).toInt (o2.2.1 8) (o2.2.1 5) := by exact x_2.resolve_left (by omega)
      refine tt_b (sMp_matchOf _ _ _ _ k_o0 k_o1 k_o2 i8 f_o2_0 x_0 p9) (fun q10 hq10 => ?_)
      obtain ⟨zq10_0, -⟩ := hq10
      refine tt_klr (fun x11 ax11 => ?_)
      refine tt_n (ix_ok i8 (by decide) (by decide)) ?_
      refine tt_kv (P := fun z => (((-1) : Int) ≤ z.toInt ∧ z.toInt ≤ 575) ∧ z = (o2.2.1 10 v6.toNatClampNeg) ∧ z.toInt = (o2.2.1 10 v6.toNatClampNeg).toInt) ⟨(k_o2.2 10 _), rfl, rfl⟩ (fun x12 qi13 => ?_)
      obtain ⟨i13, ax12, ei13⟩ := qi13
      refine tt_kv (P := fun z => ((1 : Int) ≤ z.toInt ∧ z.toInt ≤ 576) ∧ z = (v7 + 1) ∧ z.toInt = v7.toInt + 1) ⟨iv_add i4 (show (1 : Int) ≤ (1 : Int32).toInt ∧ (1 : Int32).toInt ≤ 1 by decide) (by decide) (by decide) (by decide) (by decide), rfl, iq_add i4 (show (1 : Int) ≤ (1 : Int32).toInt ∧ (1 : Int32).toInt ≤ 1 by decide) (by decide) (by decide)⟩ (fun x14 qi15 => ?_)
      obtain ⟨i15, ax14, ei15⟩ := qi15
      have p16 : Mgc x11 (o1.1 0).toInt (o1.2.1 2) (o0.2.2 4) (o2.2.1 5) := by exact Mgc_m (by assumption) x_1 (show Mgc _ _ _ _ _ by assumption)
      have p17 : (x12.toInt = -1 ∨ Wok x12.toInt (o2.1 7).toInt (o1.1 0).toInt (o2.2.1 8) (o2.2.1 5)) := by exact Wok_n x_0 (x_2.resolve_left (by omega)) (by omega) (by assumption)
      exact H _ _ _ _ _ _ k_o0 r_o0 k_o1 r_o1 k_o2 r_o2 i13 (iv_w (a := 0) (b := 576) (by decide) (by decide) i15) f_o2_0 x_0 p16 p17 (show 0 + (576 - x14.toInt) * 2 < (n : Int) by omega)
set_option maxHeartbeats 4000000 in
set_option maxRecDepth 100000 in
theorem hMp_leastMatch (yv1 : Int32) (yo0 : cf_O) (yo1 : cf_O) (yo2 : cf_O) : ∀ n, HMp_leastMatch yv1 yo0 yo1 yo2 n := by
  intro n
  induction n with
  | zero => exact (fun v4 v6 v7 o0 o1 o2 k_o0 r_o0 k_o1 r_o1 k_o2 r_o2 i_v6 i_v7 f_o2_0 x_0 x_1 x_2 hm => by exact absurd (show 0 + (576 - v7.toInt) * 2 < (0 : Int) from hm) (by omega))
  | succ n ih => exact (fun v4 v6 v7 o0 o1 o2 k_o0 r_o0 k_o1 r_o1 k_o2 r_o2 i_v6 i_v7 f_o2_0 x_0 x_1 x_2 hm => tMp_leastMatch_23 ih v4 v6 v7 o0 o1 o2 k_o0 r_o0 k_o1 r_o1 k_o2 r_o2 i_v6 i_v7 f_o2_0 x_0 x_1 x_2 (by omega))
set_option maxHeartbeats 4000000 in
set_option maxRecDepth 100000 in
theorem sMp_leastMatch (v1 : Int32) (o0 : cf_O) (o1 : cf_O) (o2 : cf_O) (k_o0 : okO I_Mp o0) (k_o1 : okO I_Co o1) (k_o2 : okO I_Li o2) (f_o2_0 : (1 : Int) ≤ (o2.1 0).toInt ∧ (o2.1 0).toInt ≤ 12) (x_0 : Lwy (o2.1 7).toInt (o2.2.1 8) (o2.2.1 9) (o2.2.1 10) (o2.2.1 11) (o2.2.1 5)) (x_1 : Ful v1.toInt (o1.1 0).toInt) (x_2 : (o1.1 0).toInt ≤ 3) (x_3 : 0 ≤ v1.toInt) (x_4 : v1.toInt ≤ 255) : tt (fMp_leastMatch v1 o0 o1 o2) (QMp_leastMatch v1 o0 o1 o2) := by
  have H := hMp_leastMatch v1 o0 o1 o2 cfFU
  have hm : (1155 : Int) ≤ (cfFU : Nat) := by decide
  have r_o0 : Fr (fr_M [] [] []) o0 o0 := fr_rfl
  have r_o1 : Fr (fr_M [] [] []) o1 o1 := fr_rfl
  have r_o2 : Fr (fr_M [] [] []) o2 o2 := fr_rfl
  unfold fMp_leastMatch fMp_leastMatch_0
  have i_v1 := iv_top v1
  have g_o0_0 : (0 : Int) ≤ (o0.1 0).toInt ∧ (o0.1 0).toInt ≤ 418 := k_o0.1 0
  have g_o0_7 : (0 : Int) ≤ (o0.1 7).toInt ∧ (o0.1 7).toInt ≤ 0 := k_o0.1 7
  have g_o1_0 : (0 : Int) ≤ (o1.1 0).toInt ∧ (o1.1 0).toInt ≤ 5 := k_o1.1 0
  have g_o1_7 : (0 : Int) ≤ (o1.1 7).toInt ∧ (o1.1 7).toInt ≤ 0 := k_o1.1 7
  have g_o2_7 : (0 : Int) ≤ (o2.1 7).toInt ∧ (o2.1 7).toInt ≤ 576 := k_o2.1 7
  refine tt_be (sLi_listOf _ _ (show (0 : Int) ≤ _ ∧ _ ≤ (3 : Int) by omega) (show (0 : Int) ≤ _ ∧ _ ≤ (255 : Int) by omega)) (fun q1 hq1 eq1 => ?_)
  obtain ⟨i_q1, -⟩ := hq1
  refine tt_n (ix_ok i_q1 (by decide) (by decide)) ?_
  refine tt_kv (P := fun z => (((-1) : Int) ≤ z.toInt ∧ z.toInt ≤ 575) ∧ z = (o2.2.1 11 q1.toNatClampNeg) ∧ z.toInt = (o2.2.1 11 q1.toNatClampNeg).toInt) ⟨(k_o2.2 11 _), rfl, rfl⟩ (fun x2 qi3 => ?_)
  obtain ⟨i3, ax2, ei3⟩ := qi3
  have p4 : Mgc (9223372036854775807 : Int64) (o1.1 0).toInt (o1.2.1 2) (o0.2.2 4) (o2.2.1 5) := by exact Or.inl rfl
  have p5 : (x2.toInt = -1 ∨ Wok x2.toInt (o2.1 7).toInt (o1.1 0).toInt (o2.2.1 8) (o2.2.1 5)) := by exact Wok_0 x_0 x_1 eq1 rfl (by omega) (by omega) (by assumption) (by omega) (by omega)
  exact H _ _ _ _ _ _ k_o0 r_o0 k_o1 r_o1 k_o2 r_o2 i3 (iv_w (a := 0) (b := 576) (by decide) (by decide) (show (0 : Int) ≤ (0 : Int32).toInt ∧ (0 : Int32).toInt ≤ 0 by decide)) f_o2_0 x_0 p4 p5 (show 0 + (576 - 0) * 2 < ((cfFU : Nat) : Int) by omega)
def QMp_findPlain (v2 : Int32) (o0 : cf_O) (o1 : cf_O) (o2 : cf_O) (o3 : cf_O) (o4 : cf_O) (r : (cf_O × cf_O)) : Prop := (okO I_Mp r.1) ∧ (Fr (fr_M [] [] [5]) o0 r.1) ∧ (okO I_Co r.2) ∧ (Fr (fr_M [0, 1] [2, 3, 4] []) o3 r.2) ∧ (Pln v2.toInt (r.1.2.2 5) (o0.2.2 4) (o4.2.1 5)) ∧ True
def HMp_findPlain (yv2 : Int32) (yo0 : cf_O) (yo1 : cf_O) (yo2 : cf_O) (yo3 : cf_O) (yo4 : cf_O) (n : Nat) : Prop := (∀ (v2 : Int32) (v6 : Int32) (o0 : cf_O) (o1 : cf_O) (o2 : cf_O) (o3 : cf_O) (o4 : cf_O), (okO I_Mp o0) → (Fr (fr_M [] [] [5]) yo0 o0) → (okO I_Gr o1) → (Fr (fr_M [] [] []) yo1 o1) → (okO I_Cu o2) → (Fr (fr_M [] [] []) yo2 o2) → (okO I_Co o3) → (Fr (fr_M [0, 1] [2, 3, 4] []) yo3 o3) → (okO I_Li o4) → (Fr (fr_M [] [] []) yo4 o4) → ((1 : Int) ≤ v2.toInt ∧ v2.toInt ≤ 208) → ((1 : Int) ≤ v6.toInt ∧ v6.toInt ≤ 62910) → ((0 : Int) ≤ (o2.1 0).toInt ∧ (o2.1 0).toInt ≤ 5) → ((1 : Int) ≤ (o4.1 0).toInt ∧ (o4.1 0).toInt ≤ 12) → (Brw v2.toInt (o2.1 3).toInt (o2.2.1 2) (o2.2.1 1) (o2.2.2 4)) → (Lmp 3 (o2.1 3).toInt (o2.2.2 4)) → ((o2.1 3).toInt ≤ (o2.1 4).toInt) → ((o2.2.1 2 v2.toNatClampNeg).toInt + 1 ≤ v6.toInt) → (Lwy (o4.1 7).toInt (o4.2.1 8) (o4.2.1 9) (o4.2.1 10) (o4.2.1 11) (o4.2.1 5)) → (Pln v2.toInt (o0.2.2 5) (o0.2.2 4) (o4.2.1 5)) → ((v2 = yv2)) → 0 + (62910 - v6.toInt) * 2 < (n : Int) → tt (gMp_findPlain n 0 v2 v6 o0 o1 o2 o3 o4) (QMp_findPlain yv2 yo0 yo1 yo2 yo3 yo4))
set_option maxHeartbeats 4000000 in
set_option maxRecDepth 100000 in
theorem tMp_findPlain_7 {yv2 : Int32} {yo0 : cf_O} {yo1 : cf_O} {yo2 : cf_O} {yo3 : cf_O} {yo4 : cf_O} {n : Nat} (H : HMp_findPlain yv2 yo0 yo1 yo2 yo3 yo4 n) (v2 : Int32) (v6 : Int32) (o0 : cf_O) (o1 : cf_O) (o2 : cf_O) (o3 : cf_O) (o4 : cf_O) (k_o0 : okO I_Mp o0) (r_o0 : Fr (fr_M [] [] [5]) yo0 o0) (k_o1 : okO I_Gr o1) (r_o1 : Fr (fr_M [] [] []) yo1 o1) (k_o2 : okO I_Cu o2) (r_o2 : Fr (fr_M [] [] []) yo2 o2) (k_o3 : okO I_Co o3) (r_o3 : Fr (fr_M [0, 1] [2, 3, 4] []) yo3 o3) (k_o4 : okO I_Li o4) (r_o4 : Fr (fr_M [] [] []) yo4 o4) (i_v2 : (1 : Int) ≤ v2.toInt ∧ v2.toInt ≤ 208) (i_v6 : (1 : Int) ≤ v6.toInt ∧ v6.toInt ≤ 62910) (f_o2_0 : (0 : Int) ≤ (o2.1 0).toInt ∧ (o2.1 0).toInt ≤ 5) (f_o4_0 : (1 : Int) ≤ (o4.1 0).toInt ∧ (o4.1 0).toInt ≤ 12) (x_0 : Brw v2.toInt (o2.1 3).toInt (o2.2.1 2) (o2.2.1 1) (o2.2.2 4)) (x_1 : Lmp 3 (o2.1 3).toInt (o2.2.2 4)) (x_2 : (o2.1 3).toInt ≤ (o2.1 4).toInt) (x_3 : (o2.2.1 2 v2.toNatClampNeg).toInt + 1 ≤ v6.toInt) (x_4 : Lwy (o4.1 7).toInt (o4.2.1 8) (o4.2.1 9) (o4.2.1 10) (o4.2.1 11) (o4.2.1 5)) (x_5 : Pln v2.toInt (o0.2.2 5) (o0.2.2 4) (o4.2.1 5)) (x_6 : (v2 = yv2)) (hm : 0 + (62910 - v6.toInt) * 2 ≤ (n : Int)) : tt (fMp_findPlain_7 (gMp_findPlain n) v2 v6 o0 o1 o2 o3 o4) (QMp_findPlain yv2 yo0 yo1 yo2 yo3 yo4) := by
  unfold fMp_findPlain_7
  have g_o0_0 : (0 : Int) ≤ (o0.1 0).toInt ∧ (o0.1 0).toInt ≤ 418 := k_o0.1 0
  have ey_o0_0 : (o0.1 0).toInt = (yo0.1 0).toInt := congrArg Int32.toInt (r_o0.1 0 rfl)
  have g_o0_1 : ((-2147483648) : Int) ≤ (o0.1 1).toInt ∧ (o0.1 1).toInt ≤ 2147483647 := k_o0.1 1
  have ey_o0_1 : (o0.1 1).toInt = (yo0.1 1).toInt := congrArg Int32.toInt (r_o0.1 1 rfl)
  have g_o0_3 : (0 : Int) ≤ (o0.1 3).toInt ∧ (o0.1 3).toInt ≤ 0 := k_o0.1 3
  have ey_o0_3 : (o0.1 3).toInt = (yo0.1 3).toInt := congrArg Int32.toInt (r_o0.1 3 rfl)
  have g_o0_4 : (0 : Int) ≤ (o0.1 4).toInt ∧ (o0.1 4).toInt ≤ 0 := k_o0.1 4
  have ey_o0_4 : (o0.1 4).toInt = (yo0.1 4).toInt := congrArg Int32.toInt (r_o0.1 4 rfl)
  have g_o0_7 : (0 : Int) ≤ (o0.1 7).toInt ∧ (o0.1 7).toInt ≤ 0 := k_o0.1 7
  have ey_o0_7 : (o0.1 7).toInt = (yo0.1 7).toInt := congrArg Int32.toInt (r_o0.1 7 rfl)
  have g_o1_0 : (0 : Int) ≤ (o1.1 0).toInt ∧ (o1.1 0).toInt ≤ 8 := k_o1.1 0
  have ey_o1_0 : (o1.1 0).toInt = (yo1.1 0).toInt := congrArg Int32.toInt (r_o1.1 0 rfl)
  have g_o1_1 : (0 : Int) ≤ (o1.1 1).toInt ∧ (o1.1 1).toInt ≤ 6 := k_o1.1 1
  have ey_o1_1 : (o1.1 1).toInt = (yo1.1 1).toInt := congrArg Int32.toInt (r_o1.1 1 rfl)
  have g_o1_3 : (0 : Int) ≤ (o1.1 3).toInt ∧ (o1.1 3).toInt ≤ 1 := k_o1.1 3
  have ey_o1_3 : (o1.1 3).toInt = (yo1.1 3).toInt := congrArg Int32.toInt (r_o1.1 3 rfl)
  have g_o1_4 : (0 : Int) ≤ (o1.1 4).toInt ∧ (o1.1 4).toInt ≤ 0 := k_o1.1 4
  have ey_o1_4 : (o1.1 4).toInt = (yo1.1 4).toInt := congrArg Int32.toInt (r_o1.1 4 rfl)
  have g_o1_7 : (0 : Int) ≤ (o1.1 7).toInt ∧ (o1.1 7).toInt ≤ 0 := k_o1.1 7
  have ey_o1_7 : (o1.1 7).toInt = (yo1.1 7).toInt := congrArg Int32.toInt (r_o1.1 7 rfl)
  have ey_o2_0 : (o2.1 0).toInt = (yo2.1 0).toInt := congrArg Int32.toInt (r_o2.1 0 rfl)
  have g_o2_1 : (0 : Int) ≤ (o2.1 1).toInt ∧ (o2.1 1).toInt ≤ 0 := k_o2.1 1
  have ey_o2_1 : (o2.1 1).toInt = (yo2.1 1).toInt := congrArg Int32.toInt (r_o2.1 1 rfl)
  have g_o2_3 : (0 : Int) ≤ (o2.1 3).toInt ∧ (o2.1 3).toInt ≤ 62909 := k_o2.1 3
  have ey_o2_3 : (o2.1 3).toInt = (yo2.1 3).toInt := congrArg Int32.toInt (r_o2.1 3 rfl)
  have g_o2_4 : (1024 : Int) ≤ (o2.1 4).toInt ∧ (o2.1 4).toInt ≤ 131072 := k_o2.1 4
  have ey_o2_4 : (o2.1 4).toInt = (yo2.1 4).toInt := congrArg Int32.toInt (r_o2.1 4 rfl)
  have g_o2_7 : (0 : Int) ≤ (o2.1 7).toInt ∧ (o2.1 7).toInt ≤ 0 := k_o2.1 7
  have ey_o2_7 : (o2.1 7).toInt = (yo2.1 7).toInt := congrArg Int32.toInt (r_o2.1 7 rfl)
  have g_o3_0 : (0 : Int) ≤ (o3.1 0).toInt ∧ (o3.1 0).toInt ≤ 5 := k_o3.1 0
  have g_o3_1 : ((-2147483648) : Int) ≤ (o3.1 1).toInt ∧ (o3.1 1).toInt ≤ 2147483647 := k_o3.1 1
  have g_o3_3 : (0 : Int) ≤ (o3.1 3).toInt ∧ (o3.1 3).toInt ≤ 0 := k_o3.1 3
  have ey_o3_3 : (o3.1 3).toInt = (yo3.1 3).toInt := congrArg Int32.toInt (r_o3.1 3 rfl)
  have g_o3_4 : (0 : Int) ≤ (o3.1 4).toInt ∧ (o3.1 4).toInt ≤ 0 := k_o3.1 4
  have ey_o3_4 : (o3.1 4).toInt = (yo3.1 4).toInt := congrArg Int32.toInt (r_o3.1 4 rfl)
  have g_o3_7 : (0 : Int) ≤ (o3.1 7).toInt ∧ (o3.1 7).toInt ≤ 0 := k_o3.1 7
  have ey_o3_7 : (o3.1 7).toInt = (yo3.1 7).toInt := congrArg Int32.toInt (r_o3.1 7 rfl)
  have ey_o4_0 : (o4.1 0).toInt = (yo4.1 0).toInt := congrArg Int32.toInt (r_o4.1 0 rfl)
  have g_o4_1 : ((-1) : Int) ≤ (o4.1 1).toInt ∧ (o4.1 1).toInt ≤ 11 := k_o4.1 1
  have ey_o4_1 : (o4.1 1).toInt = (yo4.1 1).toInt := congrArg Int32.toInt (r_o4.1 1 rfl)
  have g_o4_3 : (0 : Int) ≤ (o4.1 3).toInt ∧ (o4.1 3).toInt ≤ 0 := k_o4.1 3
  have ey_o4_3 : (o4.1 3).toInt = (yo4.1 3).toInt := congrArg Int32.toInt (r_o4.1 3 rfl)
  have g_o4_4 : (0 : Int) ≤ (o4.1 4).toInt ∧ (o4.1 4).toInt ≤ 0 := k_o4.1 4
  have ey_o4_4 : (o4.1 4).toInt = (yo4.1 4).toInt := congrArg Int32.toInt (r_o4.1 4 rfl)
  have g_o4_7 : (0 : Int) ≤ (o4.1 7).toInt ∧ (o4.1 7).toInt ≤ 576 := k_o4.1 7
  have ey_o4_7 : (o4.1 7).toInt = (yo4.1 7).toInt := congrArg Int32.toInt (r_o4.1 7 rfl)
  refine tt_b (sCu_behindLastOf _ _ k_o2 i_v2 f_o2_0) (fun q1 hq1 => ?_)
  obtain ⟨i_q1, zq1_0, -⟩ := hq1
  have t2 := Brw_l x_0 (show Bhl _ _ _ by assumption)
  refine tt_if (fun c3 => ?_) (fun c3 => ?_)
  · have wc3 : q1.toInt ≤ v6.toInt := c_le c3
    have p4 : Pln yv2.toInt (o0.2.2 5) (yo0.2.2 4) (yo4.2.1 5) := by rw [← x_6, ← r_o0.2.2 4 rfl, ← r_o4.2.1 5 rfl]; exact x_5
    exact tt_some ⟨k_o0, r_o0, k_o3, r_o3, p4, trivial⟩
  · have wc3 : v6.toInt < q1.toInt := c_nle c3
    have i5 : (1 : Int) ≤ v6.toInt ∧ v6.toInt ≤ 62908 := nr_nlel c3 i_v6 i_q1 (by decide) (by decide)
    have i6 : (2 : Int) ≤ q1.toInt ∧ q1.toInt ≤ 62909 := nr_nler c3 i_v6 i_q1 (by decide) (by decide)
    refine tt_b (sCu_cutAt _ _ k_o2 i5 f_o2_0 (show v6.toInt < (o2.1 4).toInt by omega)) (fun q7 hq7 => ?_)
    obtain ⟨zq7_0, -⟩ := hq7
    have p8 : Bk q7 := by exact Cn_k (Brw_at (a := v6.toInt) (i := v6.toNatClampNeg) x_0 (show Bhl _ _ _ by assumption) (by rw [tn_n]; omega) (show (o2.2.1 2 v2.toNatClampNeg).toInt + 1 ≤ _ by omega) (by omega) (by assumption)) (by omega)
    refine tt_b (sCo_find _ _ _ _ k_o3 k_o1 i_v2 p8) (fun q9 hq9 => ?_)
    obtain ⟨k_q9, n_q9, zq9_0, zq9_1, zq9_2, -⟩ := hq9
    have r_q9 := fr_tr r_o3 n_q9 rfl rfl rfl
    have g_q9_0 : (0 : Int) ≤ (q9.1 0).toInt ∧ (q9.1 0).toInt ≤ 5 := k_q9.1 0
    have g_q9_1 : ((-2147483648) : Int) ≤ (q9.1 1).toInt ∧ (q9.1 1).toInt ≤ 2147483647 := k_q9.1 1
    have e_q9_3 : (q9.1 3).toInt = (o3.1 3).toInt := congrArg Int32.toInt (n_q9.1 3 rfl)
    have g_q9_3 : (0 : Int) ≤ (q9.1 3).toInt ∧ (q9.1 3).toInt ≤ 0 := k_q9.1 3
    have e_q9_4 : (q9.1 4).toInt = (o3.1 4).toInt := congrArg Int32.toInt (n_q9.1 4 rfl)
    have g_q9_4 : (0 : Int) ≤ (q9.1 4).toInt ∧ (q9.1 4).toInt ≤ 0 := k_q9.1 4
    have e_q9_7 : (q9.1 7).toInt = (o3.1 7).toInt := congrArg Int32.toInt (n_q9.1 7 rfl)
    have g_q9_7 : (0 : Int) ≤ (q9.1 7).toInt ∧ (q9.1 7).toInt ≤ 0 := k_q9.1 7
    have t10 := (S34_3 (show S34 (q9.1 0).toInt _ by assumption) x_1 rfl (show _ = o2.2.2 4 v6.toNatClampNeg by assumption) (by rw [tn_n]; omega))
    have t11 := Ful_b (show Ful (q9.1 1).toInt (q9.1 0).toInt by assumption) (S34_3 (show S34 (q9.1 0).toInt _ by assumption) x_1 rfl (show _ = o2.2.2 4 v6.toNatClampNeg by assumption) (by rw [tn_n]; omega))
    refine tt_b (sCo_full _ (k_q9.1 0)) (fun q12 hq12 => ?_)
    obtain ⟨i_q12, zq12_0, -⟩ := hq12
    refine tt_kv (P := fun z => (((-2147483648) : Int) ≤ z.toInt ∧ z.toInt ≤ 2147483647) ∧ z = ((q9.1 1) ^^^ q12)) ⟨iv_top _, rfl⟩ (fun x13 qi14 => ?_)
    obtain ⟨i14, ax13⟩ := qi14
    have t15 := Ful_x ax13 (show Ful _ _ by assumption) (show Ful _ _ by assumption)
    have t16 := Ful_b t15 (by omega)
    refine tt_kv (P := fun z => ((2 : Int) ≤ z.toInt ∧ z.toInt ≤ 416) ∧ z = (2 * v2) ∧ z.toInt = 2 * v2.toInt) ⟨iv_mul (show (2 : Int) ≤ (2 : Int32).toInt ∧ (2 : Int32).toInt ≤ 2 by decide) i_v2 (by decide) (by decide) (by decide) (by decide) (by decide), rfl, iq_mul (show (2 : Int) ≤ (2 : Int32).toInt ∧ (2 : Int32).toInt ≤ 2 by decide) i_v2 (by decide) (by decide) (by decide) (by decide)⟩ (fun x17 qi18 => ?_)
    obtain ⟨i18, ax17, ei18⟩ := qi18
    refine tt_kv (P := fun z => ((2 : Int) ≤ z.toInt ∧ z.toInt ≤ 416) ∧ z = (2 * v2) ∧ z.toInt = 2 * v2.toInt) ⟨iv_mul (show (2 : Int) ≤ (2 : Int32).toInt ∧ (2 : Int32).toInt ≤ 2 by decide) i_v2 (by decide) (by decide) (by decide) (by decide) (by decide), rfl, iq_mul (show (2 : Int) ≤ (2 : Int32).toInt ∧ (2 : Int32).toInt ≤ 2 by decide) i_v2 (by decide) (by decide) (by decide) (by decide)⟩ (fun x19 qi20 => ?_)
    obtain ⟨i20, ax19, ei20⟩ := qi20
    refine tt_n (ix_ok i20 (by decide) (by decide)) ?_
    refine tt_klr (fun x21 ax21 => ?_)
    refine tt_b (sMp_leastMatch _ _ _ _ k_o0 k_q9 k_o4 f_o4_0 x_4 zq9_1 (show (q9.1 0).toInt ≤ 3 by omega) (show 0 ≤ (q9.1 1).toInt by omega) (show (q9.1 1).toInt ≤ 255 by omega)) (fun q22 hq22 => ?_)
    obtain ⟨zq22_0, -⟩ := hq22
    refine tt_klr (fun x23 ax23 => ?_)
    refine tt_n (ix_ok i18 (by decide) (by decide)) ?_
    refine tt_ko ?_
    have k24 := ok_yp (k := 5) (i := x17.toNatClampNeg) (v := x23) k_o0
    have r25 := fr_yp (k := 5) (i := x17.toNatClampNeg) (v := x23) r_o0 rfl
    refine tt_kv (P := fun z => ((2 : Int) ≤ z.toInt ∧ z.toInt ≤ 416) ∧ z = (2 * v2) ∧ z.toInt = 2 * v2.toInt) ⟨iv_mul (show (2 : Int) ≤ (2 : Int32).toInt ∧ (2 : Int32).toInt ≤ 2 by decide) i_v2 (by decide) (by decide) (by decide) (by decide) (by decide), rfl, iq_mul (show (2 : Int) ≤ (2 : Int32).toInt ∧ (2 : Int32).toInt ≤ 2 by decide) i_v2 (by decide) (by decide) (by decide) (by decide)⟩ (fun x26 qi27 => ?_)
    obtain ⟨i27, ax26, ei27⟩ := qi27
    refine tt_kv (P := fun z => ((3 : Int) ≤ z.toInt ∧ z.toInt ≤ 417) ∧ z = (x26 + 1) ∧ z.toInt = x26.toInt + 1) ⟨iv_add i27 (show (1 : Int) ≤ (1 : Int32).toInt ∧ (1 : Int32).toInt ≤ 1 by decide) (by decide) (by decide) (by decide) (by decide), rfl, iq_add i27 (show (1 : Int) ≤ (1 : Int32).toInt ∧ (1 : Int32).toInt ≤ 1 by decide) (by decide) (by decide)⟩ (fun x28 qi29 => ?_)
    obtain ⟨i29, ax28, ei29⟩ := qi29
    refine tt_kv (P := fun z => ((2 : Int) ≤ z.toInt ∧ z.toInt ≤ 416) ∧ z = (2 * v2) ∧ z.toInt = 2 * v2.toInt) ⟨iv_mul (show (2 : Int) ≤ (2 : Int32).toInt ∧ (2 : Int32).toInt ≤ 2 by decide) i_v2 (by decide) (by decide) (by decide) (by decide) (by decide), rfl, iq_mul (show (2 : Int) ≤ (2 : Int32).toInt ∧ (2 : Int32).toInt ≤ 2 by decide) i_v2 (by decide) (by decide) (by decide) (by decide)⟩ (fun x30 qi31 => ?_)
    obtain ⟨i31, ax30, ei31⟩ := qi31
    refine tt_kv (P := fun z => ((3 : Int) ≤ z.toInt ∧ z.toInt ≤ 417) ∧ z = (x30 + 1) ∧ z.toInt = x30.toInt + 1) ⟨iv_add i31 (show (1 : Int) ≤ (1 : Int32).toInt ∧ (1 : Int32).toInt ≤ 1 by decide) (by decide) (by decide) (by decide) (by decide), rfl, iq_add i31 (show (1 : Int) ≤ (1 : Int32).toInt ∧ (1 : Int32).toInt ≤ 1 by decide) (by decide) (by decide)⟩ (fun x32 qi33 => ?_)
    obtain ⟨i33, ax32, ei33⟩ := qi33
    refine tt_n (ix_ok i33 (by decide) (by decide)) ?_
    refine tt_klr (fun x34 ax34 => ?_)
    have p35 : Ful x13.toInt (q9.1 0).toInt := by assumption
    refine tt_b (sMp_leastMatch _ _ _ _ k24 k_q9 k_o4 f_o4_0 x_4 p35 (show (q9.1 0).toInt ≤ 3 by omega) (show 0 ≤ x13.toInt by omega) (show x13.toInt ≤ 255 by omega)) (fun q36 hq36 => ?_)
    obtain ⟨zq36_0, -⟩ := hq36
    refine tt_klr (fun x37 ax37 => ?_)
    refine tt_n (ix_ok i29 (by decide) (by decide)) ?_
    refine tt_ko ?_
    have k38 := ok_yp (k := 5) (i := x28.toNatClampNeg) (v := x37) k24
    have r39 := fr_yp (k := 5) (i := x28.toNatClampNeg) (v := x37) r25 rfl
    refine tt_kv (P := fun z => ((2 : Int) ≤ z.toInt ∧ z.toInt ≤ 62909) ∧ z = (v6 + 1) ∧ z.toInt = v6.toInt + 1) ⟨iv_add i5 (show (1 : Int) ≤ (1 : Int32).toInt ∧ (1 : Int32).toInt ≤ 1 by decide) (by decide) (by decide) (by decide) (by decide), rfl, iq_add i5 (show (1 : Int) ≤ (1 : Int32).toInt ∧ (1 : Int32).toInt ≤ 1 by decide) (by decide) (by decide)⟩ (fun x40 qi41 => ?_)
    obtain ⟨i41, ax40, ei41⟩ := qi41
    have t42 : (0 : Int) ≤ (o2.2.1 2 v2.toNatClampNeg).toInt ∧ (o2.2.1 2 v2.toNatClampNeg).toInt ≤ 62909 := k_o2.2 2 _
    have p43 : Pln v2.toInt (vp_updL (vp_updL (o0.2.2 5) (x17.toNatClampNeg) x23) (x28.toNatClampNeg) x37) (o0.2.2 4) (o4.2.1 5) := by exact Pln_s x_5 (show _ = op_mnl _ _ by assumption) (show _ = vp_updL _ _ _ _ by assumption) (show _ = op_mnl _ _ by assumption) (by assumption) (Mgc_o (show Mgc _ _ _ _ _ by assumption) (show Cnd _ _ _ by assumption) (Brw_at (a := v6.toInt) (i := v6.toNatClampNeg) x_0 (show Bhl _ _ _ by assumption) (by rw [tn_n]; omega) (show (o2.2.1 2 v2.toNatClampNeg).toInt + 1 ≤ _ by omega) (by omega) (by assumption)) (by omega) (by omega)) (Mgc_o (show Mgc _ _ _ _ _ by assumption) (show Cnd _ _ _ by assumption) (Brw_at (a := v6.toInt) (i := v6.toNatClampNeg) x_0 (show Bhl _ _ _ by assumption) (by rw [tn_n]; omega) (show (o2.2.1 2 v2.toNatClampNeg).toInt + 1 ≤ _ by omega) (by omega) (by assumption)) (by omega) (by omega)) (by rw [tn_n]; omega) (by rw [tn_n]; omega) (by rw [tn_n]; omega) (by rw [tn_n]; omega)
    exact H _ _ _ _ _ _ _ k38 r39 k_o1 r_o1 k_o2 r_o2 k_q9 r_q9 k_o4 r_o4 i_v2 (iv_w (a := 1) (b := 62910) (by decide) (by decide) i41) f_o2_0 f_o4_0 x_0 x_1 (show (o2.1 3).toInt ≤ (o2.1 4).toInt by omega) (show (o2.2.1 2 v2.toNatClampNeg).toInt + 1 ≤ x40.toInt by omega) x_4 p43 x_6 (show 0 + (62910 - x40.toInt) * 2 < (n : Int) by omega)
set_option maxHeartbeats 4000000 in
set_option maxRecDepth 100000 in
theorem hMp_findPlain (yv2 : Int32) (yo0 : cf_O) (yo1 : cf_O) (yo2 : cf_O) (yo3 : cf_O) (yo4 : cf_O) : ∀ n, HMp_findPlain yv2 yo0 yo1 yo2 yo3 yo4 n := by
  intro n
  induction n with
  | zero => exact (fun v2 v6 o0 o1 o2 o3 o4 k_o0 r_o0 k_o1 r_o1 k_o2 r_o2 k_o3 r_o3 k_o4 r_o4 i_v2 i_v6 f_o2_0 f_o4_0 x_0 x_1 x_2 x_3 x_4 x_5 x_6 hm => by exact absurd (show 0 + (62910 - v6.toInt) * 2 < (0 : Int) from hm) (by omega))
  | succ n ih => exact (fun v2 v6 o0 o1 o2 o3 o4 k_o0 r_o0 k_o1 r_o1 k_o2 r_o2 k_o3 r_o3 k_o4 r_o4 i_v2 i_v6 f_o2_0 f_o4_0 x_0 x_1 x_2 x_3 x_4 x_5 x_6 hm => tMp_findPlain_7 ih v2 v6 o0 o1 o2 o3 o4 k_o0 r_o0 k_o1 r_o1 k_o2 r_o2 k_o3 r_o3 k_o4 r_o4 i_v2 i_v6 f_o2_0 f_o4_0 x_0 x_1 x_2 x_3 x_4 x_5 x_6 (by omega))
set_option maxHeartbeats 4000000 in
set_option maxRecDepth 100000 in
theorem sMp_findPlain (v2 : Int32) (o0 : cf_O) (o1 : cf_O) (o2 : cf_O) (o3 : cf_O) (o4 : cf_O) (k_o0 : okO I_Mp o0) (k_o1 : okO I_Gr o1) (k_o2 : okO I_Cu o2) (k_o3 : okO I_Co o3) (k_o4 : okO I_Li o4) (i_v2 : (1 : Int) ≤ v2.toInt ∧ v2.toInt ≤ 208) (f_o2_0 : (0 : Int) ≤ (o2.1 0).toInt ∧ (o2.1 0).toInt ≤ 5) (f_o4_0 : (1 : Int) ≤ (o4.1 0).toInt ∧ (o4.1 0).toInt ≤ 12) (x_0 : Brw v2.toInt (o2.1 3).toInt (o2.2.1 2) (o2.2.1 1) (o2.2.2 4)) (x_1 : Lmp 3 (o2.1 3).toInt (o2.2.2 4)) (x_2 : (o2.1 3).toInt ≤ (o2.1 4).toInt) (x_3 : Lwy (o4.1 7).toInt (o4.2.1 8) (o4.2.1 9) (o4.2.1 10) (o4.2.1 11) (o4.2.1 5)) (x_4 : Pln v2.toInt (o0.2.2 5) (o0.2.2 4) (o4.2.1 5)) : tt (fMp_findPlain v2 o0 o1 o2 o3 o4) (QMp_findPlain v2 o0 o1 o2 o3 o4) := by
  have H := hMp_findPlain v2 o0 o1 o2 o3 o4 cfFU
  have hm : (125821 : Int) ≤ (cfFU : Nat) := by decide
  have r_o0 : Fr (fr_M [] [] [5]) o0 o0 := fr_rfl
  have r_o1 : Fr (fr_M [] [] []) o1 o1 := fr_rfl
  have r_o2 : Fr (fr_M [] [] []) o2 o2 := fr_rfl
  have r_o3 : Fr (fr_M [0, 1] [2, 3, 4] []) o3 o3 := fr_rfl
  have r_o4 : Fr (fr_M [] [] []) o4 o4 := fr_rfl
  unfold fMp_findPlain fMp_findPlain_0
  have g_o0_0 : (0 : Int) ≤ (o0.1 0).toInt ∧ (o0.1 0).toInt ≤ 418 := k_o0.1 0
  have g_o0_1 : ((-2147483648) : Int) ≤ (o0.1 1).toInt ∧ (o0.1 1).toInt ≤ 2147483647 := k_o0.1 1
  have g_o0_3 : (0 : Int) ≤ (o0.1 3).toInt ∧ (o0.1 3).toInt ≤ 0 := k_o0.1 3
  have g_o0_4 : (0 : Int) ≤ (o0.1 4).toInt ∧ (o0.1 4).toInt ≤ 0 := k_o0.1 4
  have g_o0_7 : (0 : Int) ≤ (o0.1 7).toInt ∧ (o0.1 7).toInt ≤ 0 := k_o0.1 7
  have g_o1_0 : (0 : Int) ≤ (o1.1 0).toInt ∧ (o1.1 0).toInt ≤ 8 := k_o1.1 0
  have g_o1_1 : (0 : Int) ≤ (o1.1 1).toInt ∧ (o1.1 1).toInt ≤ 6 := k_o1.1 1
  have g_o1_3 : (0 : Int) ≤ (o1.1 3).toInt ∧ (o1.1 3).toInt ≤ 1 := k_o1.1 3
  have g_o1_4 : (0 : Int) ≤ (o1.1 4).toInt ∧ (o1.1 4).toInt ≤ 0 := k_o1.1 4
  have g_o1_7 : (0 : Int) ≤ (o1.1 7).toInt ∧ (o1.1 7).toInt ≤ 0 := k_o1.1 7
  have g_o2_1 : (0 : Int) ≤ (o2.1 1).toInt ∧ (o2.1 1).toInt ≤ 0 := k_o2.1 1
  have g_o2_3 : (0 : Int) ≤ (o2.1 3).toInt ∧ (o2.1 3).toInt ≤ 62909 := k_o2.1 3
  have g_o2_4 : (1024 : Int) ≤ (o2.1 4).toInt ∧ (o2.1 4).toInt ≤ 131072 := k_o2.1 4
  have g_o2_7 : (0 : Int) ≤ (o2.1 7).toInt ∧ (o2.1 7).toInt ≤ 0 := k_o2.1 7
  have g_o3_0 : (0 : Int) ≤ (o3.1 0).toInt ∧ (o3.1 0).toInt ≤ 5 := k_o3.1 0
  have g_o3_1 : ((-2147483648) : Int) ≤ (o3.1 1).toInt ∧ (o3.1 1).toInt ≤ 2147483647 := k_o3.1 1
  have g_o3_3 : (0 : Int) ≤ (o3.1 3).toInt ∧ (o3.1 3).toInt ≤ 0 := k_o3.1 3
  have g_o3_4 : (0 : Int) ≤ (o3.1 4).toInt ∧ (o3.1 4).toInt ≤ 0 := k_o3.1 4
  have g_o3_7 : (0 : Int) ≤ (o3.1 7).toInt ∧ (o3.1 7).toInt ≤ 0 := k_o3.1 7
  have g_o4_1 : ((-1) : Int) ≤ (o4.1 1).toInt ∧ (o4.1 1).toInt ≤ 11 := k_o4.1 1
  have g_o4_3 : (0 : Int) ≤ (o4.1 3).toInt ∧ (o4.1 3).toInt ≤ 0 := k_o4.1 3
  have g_o4_4 : (0 : Int) ≤ (o4.1 4).toInt ∧ (o4.1 4).toInt ≤ 0 := k_o4.1 4
  have g_o4_7 : (0 : Int) ≤ (o4.1 7).toInt ∧ (o4.1 7).toInt ≤ 576 := k_o4.1 7
  refine tt_b (sCu_firstOf _ _ k_o2 i_v2 f_o2_0) (fun q1 hq1 => ?_)
  obtain ⟨i_q1, zq1_0, -⟩ := hq1
  have zq1_0 : q1.toInt = (o2.2.1 2 v2.toNatClampNeg).toInt + 1 := zq1_0
  have t2 : (0 : Int) ≤ (o2.2.1 2 v2.toNatClampNeg).toInt ∧ (o2.2.1 2 v2.toNatClampNeg).toInt ≤ 62909 := k_o2.2 2 _
  have p3 : (v2 = v2) := by exact rfl
  exact H _ _ _ _ _ _ _ k_o0 r_o0 k_o1 r_o1 k_o2 r_o2 k_o3 r_o3 k_o4 r_o4 i_v2 i_q1 f_o2_0 f_o4_0 x_0 x_1 (show (o2.1 3).toInt ≤ (o2.1 4).toInt by omega) (show (o2.2.1 2 v2.toNatClampNeg).toInt + 1 ≤ q1.toInt by omega) x_3 x_4 p3 (show 0 + (62910 - q1.toInt) * 2 < ((cfFU : Nat) : Int) by omega)
def QMp_madeBy (v1 : Int32) (o0 : cf_O) (o1 : cf_O) (r : (Int64)) : Prop := (Mby r ((o0.2.2 5) v1.toNatClampNeg) ((o0.2.2 5) (v1 ^^^ 1).toNatClampNeg) (v1 ^^^ 1).toInt (o1.2.1 5)) ∧ True
set_option maxHeartbeats 4000000 in
set_option maxRecDepth 100000 in
theorem sMp_madeBy (v1 : Int32) (o0 : cf_O) (o1 : cf_O) (k_o0 : okO I_Mp o0) (k_o1 : okO I_Li o1) (i_v1 : (2 : Int) ≤ v1.toInt ∧ v1.toInt ≤ 417) (f_o1_0 : (1 : Int) ≤ (o1.1 0).toInt ∧ (o1.1 0).toInt ≤ 12) (x_0 : Ivr (o1.1 1).toInt (o1.2.1 5)) : tt (fMp_madeBy v1 o0 o1) (QMp_madeBy v1 o0 o1) := by
  have r_o0 : Fr (fr_M [] [] []) o0 o0 := fr_rfl
  have r_o1 : Fr (fr_M [] [] []) o1 o1 := fr_rfl
  unfold fMp_madeBy fMp_madeBy_0
  have g_o0_1 : ((-2147483648) : Int) ≤ (o0.1 1).toInt ∧ (o0.1 1).toInt ≤ 2147483647 := k_o0.1 1
  have g_o1_1 : ((-1) : Int) ≤ (o1.1 1).toInt ∧ (o1.1 1).toInt ≤ 11 := k_o1.1 1
  refine tt_n (ix_ok i_v1 (by decide) (by decide)) ?_
  refine tt_klr (fun x1 ax1 => ?_)
  refine tt_kv (P := fun z => ((2 : Int) ≤ z.toInt ∧ z.toInt ≤ 417) ∧ z = (v1 ^^^ 1) ∧ z.toInt = v1.toInt + 1 - 2 * (v1.toInt % 2)) ⟨iv_x1 i_v1 (show (1 : Int) ≤ (1 : Int32).toInt ∧ (1 : Int32).toInt ≤ 1 by decide) (by decide) (by decide) (by decide) (by decide) (by decide), rfl, i_x1 (Int.le_trans (by decide) i_v1.1)⟩ (fun x2 qi3 => ?_)
  obtain ⟨i3, ax2, ei3⟩ := qi3
  refine tt_n (ix_ok i3 (by decide) (by decide)) ?_
  refine tt_klr (fun x4 ax4 => ?_)
  refine tt_kv (P := fun z => (((-2147483648) : Int) ≤ z.toInt ∧ z.toInt ≤ 2147483647) ∧ z = (lg_cmp x1 (0 : Int64))) ⟨iv_top _, rfl⟩ (fun x5 qi6 => ?_)
  obtain ⟨i6, ax5⟩ := qi6
  refine tt_if (fun c7 => ?_) (fun c7 => ?_)
  · have wc7 : x5.toInt = (0 : Int) := c_eq c7
    have i8 : (0 : Int) ≤ x5.toInt ∧ x5.toInt ≤ 0 := nr_eql c7 i6 (show (0 : Int) ≤ (0 : Int32).toInt ∧ (0 : Int32).toInt ≤ 0 by decide) (by decide) (by decide)
    try unfold fMp_madeBy_40
    have p9 : Mby x1 ((o0.2.2 5) v1.toNatClampNeg) ((o0.2.2 5) (v1 ^^^ 1).toNatClampNeg) (v1 ^^^ 1).toInt (o1.2.1 5) := by first | exact Or.inl (by assumption) | exact (Mby_i none (by assumption) (by assumption) (show Ivr _ _ by assumption) (by omega) (show _ = lg_cmp _ 9223372036854775807 by assumption) (by assumption) (by assumption) (by assumption) (by omega) (by omega) (by omega))
    exact tt_some ⟨p9, trivial⟩
  · have wc7 : ¬ x5.toInt = (0 : Int) := c_ne c7
    refine tt_kv (P := fun z => (((-2147483648) : Int) ≤ z.toInt ∧ z.toInt ≤ 2147483647) ∧ z = (lg_cmp x4 (9223372036854775807 : Int64))) ⟨iv_top _, rfl⟩ (fun x10 qi11 => ?_)
    obtain ⟨i11, ax10⟩ := qi11
    refine tt_if (fun c12 => ?_) (fun c12 => ?_)
    · have wc12 : x10.toInt = (0 : Int) := c_eq c12
      have i13 : (0 : Int) ≤ x10.toInt ∧ x10.toInt ≤ 0 := nr_eql c12 i11 (show (0 : Int) ≤ (0 : Int32).toInt ∧ (0 : Int32).toInt ≤ 0 by decide) (by decide) (by decide)
      try unfold fMp_madeBy_40
      have p14 : Mby x1 ((o0.2.2 5) v1.toNatClampNeg) ((o0.2.2 5) (v1 ^^^ 1).toNatClampNeg) (v1 ^^^ 1).toInt (o1.2.1 5) := by first | exact Or.inl (by assumption) | exact (Mby_i none (by assumption) (by assumption) (show Ivr _ _ by assumption) (by omega) (show _ = lg_cmp _ 9223372036854775807 by assumption) (by assumption) (by assumption) (by assumption) (by omega) (by omega) (by omega))
      exact tt_some ⟨p14, trivial⟩
    · have wc12 : ¬ x10.toInt = (0 : Int) := c_ne c12
      refine tt_if (fun c15 => ?_) (fun c15 => ?_)
      · have wc15 : (o1.1 1).toInt = ((-1) : Int) := c_eq c15
        have i16 : ((-1) : Int) ≤ (o1.1 1).toInt ∧ (o1.1 1).toInt ≤ (-1) := nr_eql c15 (k_o1.1 1) (show ((-1) : Int) ≤ ((-1) : Int32).toInt ∧ ((-1) : Int32).toInt ≤ (-1) by decide) (by decide) (by decide)
        try unfold fMp_madeBy_40
        have p17 : Mby x1 ((o0.2.2 5) v1.toNatClampNeg) ((o0.2.2 5) (v1 ^^^ 1).toNatClampNeg) (v1 ^^^ 1).toInt (o1.2.1 5) := by first | exact Or.inl (by assumption) | exact (Mby_i none (by assumption) (by assumption) (show Ivr _ _ by assumption) (by omega) (show _ = lg_cmp _ 9223372036854775807 by assumption) (by assumption) (by assumption) (by assumption) (by omega) (by omega) (by omega))
        exact tt_some ⟨p17, trivial⟩
      · have wc15 : ¬ (o1.1 1).toInt = ((-1) : Int) := c_ne c15
        have i18 : (0 : Int) ≤ (o1.1 1).toInt ∧ (o1.1 1).toInt ≤ 11 := nr_nela c15 (k_o1.1 1) (show ((-1) : Int) ≤ ((-1) : Int32).toInt ∧ ((-1) : Int32).toInt ≤ (-1) by decide) (by decide) (by decide)
        refine tt_kv (P := fun z => ((2 : Int) ≤ z.toInt ∧ z.toInt ≤ 417) ∧ z = (v1 ^^^ 1) ∧ z.toInt = v1.toInt + 1 - 2 * (v1.toInt % 2)) ⟨iv_x1 i_v1 (show (1 : Int) ≤ (1 : Int32).toInt ∧ (1 : Int32).toInt ≤ 1 by decide) (by decide) (by decide) (by decide) (by decide) (by decide), rfl, i_x1 (Int.le_trans (by decide) i_v1.1)⟩ (fun x19 qi20 => ?_)
        obtain ⟨i20, ax19, ei20⟩ := qi20
        refine tt_klr (fun x21 ax21 => ?_)
        refine tt_klr (fun x22 ax22 => ?_)
        refine tt_b (sMp_timeOf _ ) (fun q23 hq23 => ?_)
        obtain ⟨i_q23, -⟩ := hq23
        refine tt_be (sMp_pack _ _ _ _ k_o1 i18 i_q23 f_o1_0) (fun q24 hq24 eq24 => ?_)
        refine tt_klr (fun x25 ax25 => ?_)
        refine tt_klr (fun x26 ax26 => ?_)
        refine tt_kv (P := fun z => (((-2147483648) : Int) ≤ z.toInt ∧ z.toInt ≤ 2147483647) ∧ z = (lg_cmp x25 x26)) ⟨iv_top _, rfl⟩ (fun x27 qi28 => ?_)
        obtain ⟨i28, ax27⟩ := qi28
        refine tt_if (fun c29 => ?_) (fun c29 => ?_)
        · have wc29 : (0 : Int) ≤ x27.toInt := c_le c29
          have i30 : (0 : Int) ≤ x27.toInt ∧ x27.toInt ≤ 2147483647 := nr_ler c29 (show (0 : Int) ≤ (0 : Int32).toInt ∧ (0 : Int32).toInt ≤ 0 by decide) i28 (by decide) (by decide)
          try unfold fMp_madeBy_87
          have p31 : Mby x1 ((o0.2.2 5) v1.toNatClampNeg) ((o0.2.2 5) (v1 ^^^ 1).toNatClampNeg) (v1 ^^^ 1).toInt (o1.2.1 5) := by first | exact Or.inl (by assumption) | exact (Mby_i eq24 (by assumption) (by assumption) (show Ivr _ _ by assumption) (by omega) (show _ = lg_cmp _ 9223372036854775807 by assumption) (by assumption) (by assumption) (by assumption) (by omega) (by omega) (by omega))
          exact tt_some ⟨p31, trivial⟩
        · have wc29 : x27.toInt < (0 : Int) := c_nle c29
          have i32 : ((-2147483648) : Int) ≤ x27.toInt ∧ x27.toInt ≤ (-1) := nr_nlel c29 i28 (show (0 : Int) ≤ (0 : Int32).toInt ∧ (0 : Int32).toInt ≤ 0 by decide) (by decide) (by decide)
          try unfold fMp_madeBy_87
          have p33 : Mby q24 ((o0.2.2 5) v1.toNatClampNeg) ((o0.2.2 5) (v1 ^^^ 1).toNatClampNeg) (v1 ^^^ 1).toInt (o1.2.1 5) := by first | exact Or.inl (by assumption) | exact (Mby_i eq24 (by assumption) (by assumption) (show Ivr _ _ by assumption) (by omega) (show _ = lg_cmp _ 9223372036854775807 by assumption) (by assumption) (by assumption) (by assumption) (by omega) (by omega) (by omega))
          exact tt_some ⟨p33, trivial⟩
def QMp_findMatches (o0 : cf_O) (o1 : cf_O) (o2 : cf_O) (o3 : cf_O) (o4 : cf_O) (r : (cf_O × cf_O)) : Prop := (okO I_Mp r.1) ∧ (Fr (fr_M [] [] [4, 5]) o0 r.1) ∧ (okO I_Co r.2) ∧ (Fr (fr_M [0, 1] [2, 3, 4] []) o3 r.2) ∧ (Mal (((o1.1 0).toInt + 1) + (o1.1 2).toInt) (r.1.2.2 4) (o4.2.1 5)) ∧ True
def HMp_findMatches (yo0 : cf_O) (yo1 : cf_O) (yo2 : cf_O) (yo3 : cf_O) (yo4 : cf_O) (n : Nat) : Prop := (∀ (v5 : Int32) (o0 : cf_O) (o1 : cf_O) (o2 : cf_O) (o3 : cf_O) (o4 : cf_O), (okO I_Mp o0) → (Fr (fr_M [] [] [4, 5]) yo0 o0) → (okO I_Gr o1) → (Fr (fr_M [] [] []) yo1 o1) → (okO I_Cu o2) → (Fr (fr_M [] [] []) yo2 o2) → (okO I_Co o3) → (Fr (fr_M [0, 1] [2, 3, 4] []) yo3 o3) → (okO I_Li o4) → (Fr (fr_M [] [] []) yo4 o4) → ((1 : Int) ≤ v5.toInt ∧ v5.toInt ≤ 209) → ((0 : Int) ≤ (o2.1 0).toInt ∧ (o2.1 0).toInt ≤ 5) → ((1 : Int) ≤ (o4.1 0).toInt ∧ (o4.1 0).toInt ≤ 12) → (Fqs (o2.1 0).toInt (o1.1 0).toInt (((o1.1 0).toInt + 1) + (o1.1 2).toInt) (o2.1 3).toInt (o2.2.1 2) (o2.2.1 1) (o2.2.2 4)) → ((o2.1 0).toInt = 3) → ((o2.1 3).toInt ≤ (o2.1 4).toInt) → (Lbr (o4.1 7).toInt (o4.1 1).toInt (o4.2.1 8) (o4.2.1 9) (o4.2.1 10) (o4.2.1 11) (o4.2.1 5)) → (Mal v5.toInt (o0.2.2 4) (o4.2.1 5)) → (1 ≤ v5.toInt) → (v5.toInt ≤ (((o1.1 0).toInt + 1) + (o1.1 2).toInt)) → 0 + (209 - v5.toInt) * 2 < (n : Int) → tt (gMp_findMatches n 0 v5 o0 o1 o2 o3 o4) (QMp_findMatches yo0 yo1 yo2 yo3 yo4))
set_option maxHeartbeats 4000000 in
set_option maxRecDepth 100000 in
theorem tMp_findMatches_3 {yo0 : cf_O} {yo1 : cf_O} {yo2 : cf_O} {yo3 : cf_O} {yo4 : cf_O} {n : Nat} (H : HMp_findMatches yo0 yo1 yo2 yo3 yo4 n) (v5 : Int32) (o0 : cf_O) (o1 : cf_O) (o2 : cf_O) (o3 : cf_O) (o4 : cf_O) (k_o0 : okO I_Mp o0) (r_o0 : Fr (fr_M [] [] [4, 5]) yo0 o0) (k_o1 : okO I_Gr o1) (r_o1 : Fr (fr_M [] [] []) yo1 o1) (k_o2 : okO I_Cu o2) (r_o2 : Fr (fr_M [] [] []) yo2 o2) (k_o3 : okO I_Co o3) (r_o3 : Fr (fr_M [0, 1] [2, 3, 4] []) yo3 o3) (k_o4 : okO I_Li o4) (r_o4 : Fr (fr_M [] [] []) yo4 o4) (i_v5 : (1 : Int) ≤ v5.toInt ∧ v5.toInt ≤ 209) (f_o2_0 : (0 : Int) ≤ (o2.1 0).toInt ∧ (o2.1 0).toInt ≤ 5) (f_o4_0 : (1 : Int) ≤ (o4.1 0).toInt ∧ (o4.1 0).toInt ≤ 12) (x_0 : Fqs (o2.1 0).toInt (o1.1 0).toInt (((o1.1 0).toInt + 1) + (o1.1 2).toInt) (o2.1 3).toInt (o2.2.1 2) (o2.2.1 1) (o2.2.2 4)) (x_1 : (o2.1 0).toInt = 3) (x_2 : (o2.1 3).toInt ≤ (o2.1 4).toInt) (x_3 : Lbr (o4.1 7).toInt (o4.1 1).toInt (o4.2.1 8) (o4.2.1 9) (o4.2.1 10) (o4.2.1 11) (o4.2.1 5)) (x_4 : Mal v5.toInt (o0.2.2 4) (o4.2.1 5)) (x_5 : 1 ≤ v5.toInt) (x_6 : v5.toInt ≤ (((o1.1 0).toInt + 1) + (o1.1 2).toInt)) (hm : 0 + (209 - v5.toInt) * 2 ≤ (n : Int)) : tt (fMp_findMatches_3 (gMp_findMatches n) v5 o0 o1 o2 o3 o4) (QMp_findMatches yo0 yo1 yo2 yo3 yo4) := by
  unfold fMp_findMatches_3
  have g_o0_0 : (0 : Int) ≤ (o0.1 0).toInt ∧ (o0.1 0).toInt ≤ 418 := k_o0.1 0
  have ey_o0_0 : (o0.1 0).toInt = (yo0.1 0).toInt := congrArg Int32.toInt (r_o0.1 0 rfl)
  have g_o0_1 : ((-2147483648) : Int) ≤ (o0.1 1).toInt ∧ (o0.1 1).toInt ≤ 2147483647 := k_o0.1 1
  have ey_o0_1 : (o0.1 1).toInt = (yo0.1 1).toInt := congrArg Int32.toInt (r_o0.1 1 rfl)
  have g_o0_2 : ((-2147483648) : Int) ≤ (o0.1 2).toInt ∧ (o0.1 2).toInt ≤ 2147483647 := k_o0.1 2
  have ey_o0_2 : (o0.1 2).toInt = (yo0.1 2).toInt := congrArg Int32.toInt (r_o0.1 2 rfl)
  have g_o0_3 : (0 : Int) ≤ (o0.1 3).toInt ∧ (o0.1 3).toInt ≤ 0 := k_o0.1 3
  have ey_o0_3 : (o0.1 3).toInt = (yo0.1 3).toInt := congrArg Int32.toInt (r_o0.1 3 rfl)
  have g_o0_4 : (0 : Int) ≤ (o0.1 4).toInt ∧ (o0.1 4).toInt ≤ 0 := k_o0.1 4
  have ey_o0_4 : (o0.1 4).toInt = (yo0.1 4).toInt := congrArg Int32.toInt (r_o0.1 4 rfl)
  have g_o0_7 : (0 : Int) ≤ (o0.1 7).toInt ∧ (o0.1 7).toInt ≤ 0 := k_o0.1 7
  have ey_o0_7 : (o0.1 7).toInt = (yo0.1 7).toInt := congrArg Int32.toInt (r_o0.1 7 rfl)
  have g_o1_0 : (0 : Int) ≤ (o1.1 0).toInt ∧ (o1.1 0).toInt ≤ 8 := k_o1.1 0
  have ey_o1_0 : (o1.1 0).toInt = (yo1.1 0).toInt := congrArg Int32.toInt (r_o1.1 0 rfl)
  have g_o1_1 : (0 : Int) ≤ (o1.1 1).toInt ∧ (o1.1 1).toInt ≤ 6 := k_o1.1 1
  have ey_o1_1 : (o1.1 1).toInt = (yo1.1 1).toInt := congrArg Int32.toInt (r_o1.1 1 rfl)
  have g_o1_2 : (0 : Int) ≤ (o1.1 2).toInt ∧ (o1.1 2).toInt ≤ 200 := k_o1.1 2
  have ey_o1_2 : (o1.1 2).toInt = (yo1.1 2).toInt := congrArg Int32.toInt (r_o1.1 2 rfl)
  have g_o1_3 : (0 : Int) ≤ (o1.1 3).toInt ∧ (o1.1 3).toInt ≤ 1 := k_o1.1 3
  have ey_o1_3 : (o1.1 3).toInt = (yo1.1 3).toInt := congrArg Int32.toInt (r_o1.1 3 rfl)
  have g_o1_4 : (0 : Int) ≤ (o1.1 4).toInt ∧ (o1.1 4).toInt ≤ 0 := k_o1.1 4
  have ey_o1_4 : (o1.1 4).toInt = (yo1.1 4).toInt := congrArg Int32.toInt (r_o1.1 4 rfl)
  have g_o1_7 : (0 : Int) ≤ (o1.1 7).toInt ∧ (o1.1 7).toInt ≤ 0 := k_o1.1 7
  have ey_o1_7 : (o1.1 7).toInt = (yo1.1 7).toInt := congrArg Int32.toInt (r_o1.1 7 rfl)
  have ey_o2_0 : (o2.1 0).toInt = (yo2.1 0).toInt := congrArg Int32.toInt (r_o2.1 0 rfl)
  have g_o2_1 : (0 : Int) ≤ (o2.1 1).toInt ∧ (o2.1 1).toInt ≤ 0 := k_o2.1 1
  have ey_o2_1 : (o2.1 1).toInt = (yo2.1 1).toInt := congrArg Int32.toInt (r_o2.1 1 rfl)
  have g_o2_2 : (0 : Int) ≤ (o2.1 2).toInt ∧ (o2.1 2).toInt ≤ 0 := k_o2.1 2
  have ey_o2_2 : (o2.1 2).toInt = (yo2.1 2).toInt := congrArg Int32.toInt (r_o2.1 2 rfl)
  have g_o2_3 : (0 : Int) ≤ (o2.1 3).toInt ∧ (o2.1 3).toInt ≤ 62909 := k_o2.1 3
  have ey_o2_3 : (o2.1 3).toInt = (yo2.1 3).toInt := congrArg Int32.toInt (r_o2.1 3 rfl)
  have g_o2_4 : (1024 : Int) ≤ (o2.1 4).toInt ∧ (o2.1 4).toInt ≤ 131072 := k_o2.1 4
  have ey_o2_4 : (o2.1 4).toInt = (yo2.1 4).toInt := congrArg Int32.toInt (r_o2.1 4 rfl)
  have g_o2_7 : (0 : Int) ≤ (o2.1 7).toInt ∧ (o2.1 7).toInt ≤ 0 := k_o2.1 7
  have ey_o2_7 : (o2.1 7).toInt = (yo2.1 7).toInt := congrArg Int32.toInt (r_o2.1 7 rfl)
  have g_o3_0 : (0 : Int) ≤ (o3.1 0).toInt ∧ (o3.1 0).toInt ≤ 5 := k_o3.1 0
  have g_o3_1 : ((-2147483648) : Int) ≤ (o3.1 1).toInt ∧ (o3.1 1).toInt ≤ 2147483647 := k_o3.1 1
  have g_o3_2 : (0 : Int) ≤ (o3.1 2).toInt ∧ (o3.1 2).toInt ≤ 0 := k_o3.1 2
  have ey_o3_2 : (o3.1 2).toInt = (yo3.1 2).toInt := congrArg Int32.toInt (r_o3.1 2 rfl)
  have g_o3_3 : (0 : Int) ≤ (o3.1 3).toInt ∧ (o3.1 3).toInt ≤ 0 := k_o3.1 3
  have ey_o3_3 : (o3.1 3).toInt = (yo3.1 3).toInt := congrArg Int32.toInt (r_o3.1 3 rfl)
  have g_o3_4 : (0 : Int) ≤ (o3.1 4).toInt ∧ (o3.1 4).toInt ≤ 0 := k_o3.1 4
  have ey_o3_4 : (o3.1 4).toInt = (yo3.1 4).toInt := congrArg Int32.toInt (r_o3.1 4 rfl)
  have g_o3_7 : (0 : Int) ≤ (o3.1 7).toInt ∧ (o3.1 7).toInt ≤ 0 := k_o3.1 7
  have ey_o3_7 : (o3.1 7).toInt = (yo3.1 7).toInt := congrArg Int32.toInt (r_o3.1 7 rfl)
  have ey_o4_0 : (o4.1 0).toInt = (yo4.1 0).toInt := congrArg Int32.toInt (r_o4.1 0 rfl)
  have g_o4_1 : ((-1) : Int) ≤ (o4.1 1).toInt ∧ (o4.1 1).toInt ≤ 11 := k_o4.1 1
  have ey_o4_1 : (o4.1 1).toInt = (yo4.1 1).toInt := congrArg Int32.toInt (r_o4.1 1 rfl)
  have g_o4_2 : (0 : Int) ≤ (o4.1 2).toInt ∧ (o4.1 2).toInt ≤ 0 := k_o4.1 2
  have ey_o4_2 : (o4.1 2).toInt = (yo4.1 2).toInt := congrArg Int32.toInt (r_o4.1 2 rfl)
  have g_o4_3 : (0 : Int) ≤ (o4.1 3).toInt ∧ (o4.1 3).toInt ≤ 0 := k_o4.1 3
  have ey_o4_3 : (o4.1 3).toInt = (yo4.1 3).toInt := congrArg Int32.toInt (r_o4.1 3 rfl)
  have g_o4_4 : (0 : Int) ≤ (o4.1 4).toInt ∧ (o4.1 4).toInt ≤ 0 := k_o4.1 4
  have ey_o4_4 : (o4.1 4).toInt = (yo4.1 4).toInt := congrArg Int32.toInt (r_o4.1 4 rfl)
  have g_o4_7 : (0 : Int) ≤ (o4.1 7).toInt ∧ (o4.1 7).toInt ≤ 576 := k_o4.1 7
  have ey_o4_7 : (o4.1 7).toInt = (yo4.1 7).toInt := congrArg Int32.toInt (r_o4.1 7 rfl)
  try unfold fGr_size
  try unfold fGr_size_0
  refine tt_bkv (P := fun z => ((1 : Int) ≤ z.toInt ∧ z.toInt ≤ 9) ∧ z = (1 + (o1.1 0)) ∧ z.toInt = 1 + (o1.1 0).toInt) ⟨iv_add (show (1 : Int) ≤ (1 : Int32).toInt ∧ (1 : Int32).toInt ≤ 1 by decide) (k_o1.1 0) (by decide) (by decide) (by decide) (by decide), rfl, iq_add (show (1 : Int) ≤ (1 : Int32).toInt ∧ (1 : Int32).toInt ≤ 1 by decide) (k_o1.1 0) (by decide) (by decide)⟩ (fun x1 qi2 => ?_)
  obtain ⟨i2, ax1, ei2⟩ := qi2
  refine tt_bkv (P := fun z => ((1 : Int) ≤ z.toInt ∧ z.toInt ≤ 209) ∧ z = (x1 + (o1.1 2)) ∧ z.toInt = x1.toInt + (o1.1 2).toInt) ⟨iv_add i2 (k_o1.1 2) (by decide) (by decide) (by decide) (by decide), rfl, iq_add i2 (k_o1.1 2) (by decide) (by decide)⟩ (fun x3 qi4 => ?_)
  obtain ⟨i4, ax3, ei4⟩ := qi4
  refine tt_bs ?_
  refine tt_if (fun c5 => ?_) (fun c5 => ?_)
  · have wc5 : x3.toInt ≤ v5.toInt := c_le c5
    have p6 : Mal (((yo1.1 0).toInt + 1) + (yo1.1 2).toInt) (o0.2.2 4) (yo4.2.1 5) := by rw [← r_o1.1 0 rfl, ← r_o1.1 2 rfl, ← r_o4.2.1 5 rfl]; exact Mal_e x_4 (by omega)
    exact tt_some ⟨k_o0, r_o0, k_o3, r_o3, p6, trivial⟩
  · have wc5 : v5.toInt < x3.toInt := c_nle c5
    have i7 : (1 : Int) ≤ v5.toInt ∧ v5.toInt ≤ 208 := nr_nlel c5 i_v5 i4 (by decide) (by decide)
    have i8 : (2 : Int) ≤ x3.toInt ∧ x3.toInt ≤ 209 := nr_nler c5 i_v5 i4 (by decide) (by decide)
    refine tt_kv (P := fun z => ((2 : Int) ≤ z.toInt ∧ z.toInt ≤ 416) ∧ z = (2 * v5) ∧ z.toInt = 2 * v5.toInt) ⟨iv_mul (show (2 : Int) ≤ (2 : Int32).toInt ∧ (2 : Int32).toInt ≤ 2 by decide) i7 (by decide) (by decide) (by decide) (by decide) (by decide), rfl, iq_mul (show (2 : Int) ≤ (2 : Int32).toInt ∧ (2 : Int32).toInt ≤ 2 by decide) i7 (by decide) (by decide) (by decide) (by decide)⟩ (fun x9 qi10 => ?_)
    obtain ⟨i10, ax9, ei10⟩ := qi10
    refine tt_n (ix_ok i10 (by decide) (by decide)) ?_
    refine tt_ko ?_
    have k11 := ok_yp (k := 5) (i := x9.toNatClampNeg) (v := 9223372036854775807) k_o0
    have r12 := fr_yp (k := 5) (i := x9.toNatClampNeg) (v := 9223372036854775807) r_o0 rfl
    refine tt_kv (P := fun z => ((2 : Int) ≤ z.toInt ∧ z.toInt ≤ 416) ∧ z = (2 * v5) ∧ z.toInt = 2 * v5.toInt) ⟨iv_mul (show (2 : Int) ≤ (2 : Int32).toInt ∧ (2 : Int32).toInt ≤ 2 by decide) i7 (by decide) (by decide) (by decide) (by decide) (by decide), rfl, iq_mul (show (2 : Int) ≤ (2 : Int32).toInt ∧ (2 : Int32).toInt ≤ 2 by decide) i7 (by decide) (by decide) (by decide) (by decide)⟩ (fun x13 qi14 => ?_)
    obtain ⟨i14, ax13, ei14⟩ := qi14
    refine tt_kv (P := fun z => ((3 : Int) ≤ z.toInt ∧ z.toInt ≤ 417) ∧ z = (x13 + 1) ∧ z.toInt = x13.toInt + 1) ⟨iv_add i14 (show (1 : Int) ≤ (1 : Int32).toInt ∧ (1 : Int32).toInt ≤ 1 by decide) (by decide) (by decide) (by decide) (by decide), rfl, iq_add i14 (show (1 : Int) ≤ (1 : Int32).toInt ∧ (1 : Int32).toInt ≤ 1 by decide) (by decide) (by decide)⟩ (fun x15 qi16 => ?_)
    obtain ⟨i16, ax15, ei16⟩ := qi16
    refine tt_n (ix_ok i16 (by decide) (by decide)) ?_
    refine tt_ko ?_
    have k17 := ok_yp (k := 5) (i := x15.toNatClampNeg) (v := 9223372036854775807) k11
    have r18 := fr_yp (k := 5) (i := x15.toNatClampNeg) (v := 9223372036854775807) r12 rfl
    refine tt_b (sGr_isGate _ _ k_o1) (fun q19 hq19 => ?_)
    obtain ⟨i_q19, zq19_0, zq19_1, -⟩ := hq19
    have zq19_0 : q19.toInt = 0 ∨ ((o1.1 0).toInt < v5.toInt ∧ v5.toInt < 1 + (o1.1 0).toInt + (o1.1 2).toInt) := zq19_0
    refine tt_if (fun c20 => ?_) (fun c20 => ?_)
    · have wc20 : q19.toInt = (0 : Int) := c_eq c20
      have i21 : (0 : Int) ≤ q19.toInt ∧ q19.toInt ≤ 0 := nr_eql c20 i_q19 (show (0 : Int) ≤ (0 : Int32).toInt ∧ (0 : Int32).toInt ≤ 0 by decide) (by decide) (by decide)
      refine tt_kv (P := fun z => ((2 : Int) ≤ z.toInt ∧ z.toInt ≤ 416) ∧ z = (2 * v5) ∧ z.toInt = 2 * v5.toInt) ⟨iv_mul (show (2 : Int) ≤ (2 : Int32).toInt ∧ (2 : Int32).toInt ≤ 2 by decide) i7 (by decide) (by decide) (by decide) (by decide) (by decide), rfl, iq_mul (show (2 : Int) ≤ (2 : Int32).toInt ∧ (2 : Int32).toInt ≤ 2 by decide) i7 (by decide) (by decide) (by decide) (by decide)⟩ (fun x22 qi23 => ?_)
      obtain ⟨i23, ax22, ei23⟩ := qi23
      refine tt_n (ix_ok i23 (by decide) (by decide)) ?_
      refine tt_ko ?_
      have k24 := ok_yp (k := 5) (i := x22.toNatClampNeg) (v := 0) k17
      have r25 := fr_yp (k := 5) (i := x22.toNatClampNeg) (v := 0) r18 rfl
      try unfold fMp_findMatches_71
      refine tt_kv (P := fun z => ((2 : Int) ≤ z.toInt ∧ z.toInt ≤ 416) ∧ z = (2 * v5) ∧ z.toInt = 2 * v5.toInt) ⟨iv_mul (show (2 : Int) ≤ (2 : Int32).toInt ∧ (2 : Int32).toInt ≤ 2 by decide) i7 (by decide) (by decide) (by decide) (by decide) (by decide), rfl, iq_mul (show (2 : Int) ≤ (2 : Int32).toInt ∧ (2 : Int32).toInt ≤ 2 by decide) i7 (by decide) (by decide) (by decide) (by decide)⟩ (fun x26 qi27 => ?_)
      obtain ⟨i27, ax26, ei27⟩ := qi27
      refine tt_kv (P := fun z => ((2 : Int) ≤ z.toInt ∧ z.toInt ≤ 416) ∧ z = (2 * v5) ∧ z.toInt = 2 * v5.toInt) ⟨iv_mul (show (2 : Int) ≤ (2 : Int32).toInt ∧ (2 : Int32).toInt ≤ 2 by decide) i7 (by decide) (by decide) (by decide) (by decide) (by decide), rfl, iq_mul (show (2 : Int) ≤ (2 : Int32).toInt ∧ (2 : Int32).toInt ≤ 2 by decide) i7 (by decide) (by decide) (by decide) (by decide)⟩ (fun x28 qi29 => ?_)
      obtain ⟨i29, ax28, ei29⟩ := qi29
      have p30 : Ivr (o4.1 1).toInt (o4.2.1 5) := by exact x_3.2
      refine tt_b (sMp_madeBy _ _ _ k24 k_o4 (iv_w (a := 2) (b := 417) (by decide) (by decide) i29) f_o4_0 p30) (fun q31 hq31 => ?_)
      obtain ⟨zq31_0, -⟩ := hq31
      refine tt_n (ix_ok i27 (by decide) (by decide)) ?_
      refine tt_ko ?_
      have k32 := ok_yp (k := 4) (i := x26.toNatClampNeg) (v := q31) k24
      have r33 := fr_yp (k := 4) (i := x26.toNatClampNeg) (v := q31) r25 rfl
      refine tt_kv (P := fun z => ((2 : Int) ≤ z.toInt ∧ z.toInt ≤ 416) ∧ z = (2 * v5) ∧ z.toInt = 2 * v5.toInt) ⟨iv_mul (show (2 : Int) ≤ (2 : Int32).toInt ∧ (2 : Int32).toInt ≤ 2 by decide) i7 (by decide) (by decide) (by decide) (by decide) (by decide), rfl, iq_mul (show (2 : Int) ≤ (2 : Int32).toInt ∧ (2 : Int32).toInt ≤ 2 by decide) i7 (by decide) (by decide) (by decide) (by decide)⟩ (fun x34 qi35 => ?_)
      obtain ⟨i35, ax34, ei35⟩ := qi35
      refine tt_kv (P := fun z => ((3 : Int) ≤ z.toInt ∧ z.toInt ≤ 417) ∧ z = (x34 + 1) ∧ z.toInt = x34.toInt + 1) ⟨iv_add i35 (show (1 : Int) ≤ (1 : Int32).toInt ∧ (1 : Int32).toInt ≤ 1 by decide) (by decide) (by decide) (by decide) (by decide), rfl, iq_add i35 (show (1 : Int) ≤ (1 : Int32).toInt ∧ (1 : Int32).toInt ≤ 1 by decide) (by decide) (by decide)⟩ (fun x36 qi37 => ?_)
      obtain ⟨i37, ax36, ei37⟩ := qi37
      refine tt_kv (P := fun z => ((2 : Int) ≤ z.toInt ∧ z.toInt ≤ 416) ∧ z = (2 * v5) ∧ z.toInt = 2 * v5.toInt) ⟨iv_mul (show (2 : Int) ≤ (2 : Int32).toInt ∧ (2 : Int32).toInt ≤ 2 by decide) i7 (by decide) (by decide) (by decide) (by decide) (by decide), rfl, iq_mul (show (2 : Int) ≤ (2 : Int32).toInt ∧ (2 : Int32).toInt ≤ 2 by decide) i7 (by decide) (by decide) (by decide) (by decide)⟩ (fun x38 qi39 => ?_)
      obtain ⟨i39, ax38, ei39⟩ := qi39
      refine tt_kv (P := fun z => ((3 : Int) ≤ z.toInt ∧ z.toInt ≤ 417) ∧ z = (x38 + 1) ∧ z.toInt = x38.toInt + 1) ⟨iv_add i39 (show (1 : Int) ≤ (1 : Int32).toInt ∧ (1 : Int32).toInt ≤ 1 by decide) (by decide) (by decide) (by decide) (by decide), rfl, iq_add i39 (show (1 : Int) ≤ (1 : Int32).toInt ∧ (1 : Int32).toInt ≤ 1 by decide) (by decide) (by decide)⟩ (fun x40 qi41 => ?_)
      obtain ⟨i41, ax40, ei41⟩ := qi41
      have p42 : Ivr (o4.1 1).toInt (o4.2.1 5) := by exact x_3.2
      refine tt_b (sMp_madeBy _ _ _ k32 k_o4 (iv_w (a := 2) (b := 417) (by decide) (by decide) i41) f_o4_0 p42) (fun q43 hq43 => ?_)
      obtain ⟨zq43_0, -⟩ := hq43
      refine tt_n (ix_ok i37 (by decide) (by decide)) ?_
      refine tt_ko ?_
      have k44 := ok_yp (k := 4) (i := x36.toNatClampNeg) (v := q43) k32
      have r45 := fr_yp (k := 4) (i := x36.toNatClampNeg) (v := q43) r33 rfl
      refine tt_kv (P := fun z => ((2 : Int) ≤ z.toInt ∧ z.toInt ≤ 209) ∧ z = (v5 + 1) ∧ z.toInt = v5.toInt + 1) ⟨iv_add i7 (show (1 : Int) ≤ (1 : Int32).toInt ∧ (1 : Int32).toInt ≤ 1 by decide) (by decide) (by decide) (by decide) (by decide), rfl, iq_add i7 (show (1 : Int) ≤ (1 : Int32).toInt ∧ (1 : Int32).toInt ≤ 1 by decide) (by decide) (by decide)⟩ (fun x46 qi47 => ?_)
      obtain ⟨i47, ax46, ei47⟩ := qi47
      have p48 : Mal x46.toInt (vp_updL (vp_updL (o0.2.2 4) (x26.toNatClampNeg) q31) (x36.toNatClampNeg) q43) (o4.2.1 5) := by exact Mal_s (p := vp_updL (vp_updL (vp_updL (o0.2.2 5) (x9.toNatClampNeg) 9223372036854775807) (x15.toNatClampNeg) 9223372036854775807) (x22.toNatClampNeg) 0) x_4 (show Mby q31 ((vp_updL (vp_updL (vp_updL (o0.2.2 5) (x9.toNatClampNeg) 9223372036854775807) (x15.toNatClampNeg) 9223372036854775807) (x22.toNatClampNeg) 0) x28.toNatClampNeg) ((vp_updL (vp_updL (vp_updL (o0.2.2 5) (x9.toNatClampNeg) 9223372036854775807) (x15.toNatClampNeg) 9223372036854775807) (x22.toNatClampNeg) 0) (x28 ^^^ 1).toNatClampNeg) (x28 ^^^ 1).toInt (o4.2.1 5) from zq31_0) (show Mby q43 ((vp_updL (vp_updL (vp_updL (o0.2.2 5) (x9.toNatClampNeg) 9223372036854775807) (x15.toNatClampNeg) 9223372036854775807) (x22.toNatClampNeg) 0) x40.toNatClampNeg) ((vp_updL (vp_updL (vp_updL (o0.2.2 5) (x9.toNatClampNeg) 9223372036854775807) (x15.toNatClampNeg) 9223372036854775807) (x22.toNatClampNeg) 0) (x40 ^^^ 1).toNatClampNeg) (x40 ^^^ 1).toInt (o4.2.1 5) from zq43_0) (by first | exact (show Pln _ _ _ _ by assumption) | exact Pln_g (by rw [tn_n]; omega) (by rw [tn_n]; omega) (by rw [tn_n]; omega)) (by omega) (by omega) (by rw [tn_n]; omega) (by rw [tn_n]; omega) (by omega) (by omega) (by omega)
      exact H _ _ _ _ _ _ k44 r45 k_o1 r_o1 k_o2 r_o2 k_o3 r_o3 k_o4 r_o4 (iv_w (a := 1) (b := 209) (by decide) (by decide) i47) f_o2_0 f_o4_0 x_0 (show (o2.1 0).toInt = 3 by omega) (show (o2.1 3).toInt ≤ (o2.1 4).toInt by omega) x_3 p48 (show 1 ≤ x46.toInt by omega) (show x46.toInt ≤ (((o1.1 0).toInt + 1) + (o1.1 2).toInt) by omega) (show 0 + (209 - x46.toInt) * 2 < (n : Int) by omega)
    · have wc20 : ¬ q19.toInt = (0 : Int) := c_ne c20
      have i49 : (1 : Int) ≤ q19.toInt ∧ q19.toInt ≤ 1 := nr_nela c20 i_q19 (show (0 : Int) ≤ (0 : Int32).toInt ∧ (0 : Int32).toInt ≤ 0 by decide) (by decide) (by decide)
      have p50 : Brw v5.toInt (o2.1 3).toInt (o2.2.1 2) (o2.2.1 1) (o2.2.2 4) := by exact Brw_i x_0.1 (by omega) (by omega) (by omega) (by omega) (by omega)
      have p51 : Lmp 3 (o2.1 3).toInt (o2.2.2 4) := by exact Fqs_l x_0 (by omega) (by omega)
      have p52 : Lwy (o4.1 7).toInt (o4.2.1 8) (o4.2.1 9) (o4.2.1 10) (o4.2.1 11) (o4.2.1 5) := by exact x_3.1
      have p53 : Pln v5.toInt (vp_updL (vp_updL (o0.2.2 5) (x9.toNatClampNeg) 9223372036854775807) (x15.toNatClampNeg) 9223372036854775807) (o0.2.2 4) (o4.2.1 5) := by exact Pln_0 (by rw [tn_n]; omega) (by rw [tn_n]; omega)
      refine tt_b (sMp_findPlain _ _ _ _ _ _ k17 k_o1 k_o2 k_o3 k_o4 i7 f_o2_0 f_o4_0 p50 p51 (show (o2.1 3).toInt ≤ (o2.1 4).toInt by omega) p52 p53) (fun q54 hq54 => ?_)
      obtain ⟨k_q54_1, n_q54_1, k_q54_2, n_q54_2, zq54_0, -⟩ := hq54
      have r_q54_1 := fr_tr r18 n_q54_1 rfl rfl rfl
      have e_q54_1_0 : (q54.1.1 0).toInt = (o0.1 0).toInt := congrArg Int32.toInt (n_q54_1.1 0 rfl)
      have g_q54_1_0 : (0 : Int) ≤ (q54.1.1 0).toInt ∧ (q54.1.1 0).toInt ≤ 418 := k_q54_1.1 0
      have e_q54_1_1 : (q54.1.1 1).toInt = (o0.1 1).toInt := congrArg Int32.toInt (n_q54_1.1 1 rfl)
      have g_q54_1_1 : ((-2147483648) : Int) ≤ (q54.1.1 1).toInt ∧ (q54.1.1 1).toInt ≤ 2147483647 := k_q54_1.1 1
      have e_q54_1_2 : (q54.1.1 2).toInt = (o0.1 2).toInt := congrArg Int32.toInt (n_q54_1.1 2 rfl)
      have g_q54_1_2 : ((-2147483648) : Int) ≤ (q54.1.1 2).toInt ∧ (q54.1.1 2).toInt ≤ 2147483647 := k_q54_1.1 2
      have e_q54_1_3 : (q54.1.1 3).toInt = (o0.1 3).toInt := congrArg Int32.toInt (n_q54_1.1 3 rfl)
      have g_q54_1_3 : (0 : Int) ≤ (q54.1.1 3).toInt ∧ (q54.1.1 3).toInt ≤ 0 := k_q54_1.1 3
      have e_q54_1_4 : (q54.1.1 4).toInt = (o0.1 4).toInt := congrArg Int32.toInt (n_q54_1.1 4 rfl)
      have g_q54_1_4 : (0 : Int) ≤ (q54.1.1 4).toInt ∧ (q54.1.1 4).toInt ≤ 0 := k_q54_1.1 4
      have e_q54_1_7 : (q54.1.1 7).toInt = (o0.1 7).toInt := congrArg Int32.toInt (n_q54_1.1 7 rfl)
      have g_q54_1_7 : (0 : Int) ≤ (q54.1.1 7).toInt ∧ (q54.1.1 7).toInt ≤ 0 := k_q54_1.1 7
      have r_q54_2 := fr_tr r_o3 n_q54_2 rfl rfl rfl
      have g_q54_2_0 : (0 : Int) ≤ (q54.2.1 0).toInt ∧ (q54.2.1 0).toInt ≤ 5 := k_q54_2.1 0
      have g_q54_2_1 : ((-2147483648) : Int) ≤ (q54.2.1 1).toInt ∧ (q54.2.1 1).toInt ≤ 2147483647 := k_q54_2.1 1
      have e_q54_2_2 : (q54.2.1 2).toInt = (o3.1 2).toInt := congrArg Int32.toInt (n_q54_2.1 2 rfl)
      have g_q54_2_2 : (0 : Int) ≤ (q54.2.1 2).toInt ∧ (q54.2.1 2).toInt ≤ 0 := k_q54_2.1 2
      have e_q54_2_3 : (q54.2.1 3).toInt = (o3.1 3).toInt := congrArg Int32.toInt (n_q54_2.1 3 rfl)
      have g_q54_2_3 : (0 : Int) ≤ (q54.2.1 3).toInt ∧ (q54.2.1 3).toInt ≤ 0 := k_q54_2.1 3
      have e_q54_2_4 : (q54.2.1 4).toInt = (o3.1 4).toInt := congrArg Int32.toInt (n_q54_2.1 4 rfl)
      have g_q54_2_4 : (0 : Int) ≤ (q54.2.1 4).toInt ∧ (q54.2.1 4).toInt ≤ 0 := k_q54_2.1 4
      have e_q54_2_7 : (q54.2.1 7).toInt = (o3.1 7).toInt := congrArg Int32.toInt (n_q54_2.1 7 rfl)
      have g_q54_2_7 : (0 : Int) ≤ (q54.2.1 7).toInt ∧ (q54.2.1 7).toInt ≤ 0 := k_q54_2.1 7
      have u55 : Mal v5.toInt (q54.1.2.2 4) (o4.2.1 5) := by rw [n_q54_1.2.2 4 rfl]; exact x_4
      try unfold fMp_findMatches_71
      refine tt_kv (P := fun z => ((2 : Int) ≤ z.toInt ∧ z.toInt ≤ 416) ∧ z = (2 * v5) ∧ z.toInt = 2 * v5.toInt) ⟨iv_mul (show (2 : Int) ≤ (2 : Int32).toInt ∧ (2 : Int32).toInt ≤ 2 by decide) i7 (by decide) (by decide) (by decide) (by decide) (by decide), rfl, iq_mul (show (2 : Int) ≤ (2 : Int32).toInt ∧ (2 : Int32).toInt ≤ 2 by decide) i7 (by decide) (by decide) (by decide) (by decide)⟩ (fun x56 qi57 => ?_)
      obtain ⟨i57, ax56, ei57⟩ := qi57
      refine tt_kv (P := fun z => ((2 : Int) ≤ z.toInt ∧ z.toInt ≤ 416) ∧ z = (2 * v5) ∧ z.toInt = 2 * v5.toInt) ⟨iv_mul (show (2 : Int) ≤ (2 : Int32).toInt ∧ (2 : Int32).toInt ≤ 2 by decide) i7 (by decide) (by decide) (by decide) (by decide) (by decide), rfl, iq_mul (show (2 : Int) ≤ (2 : Int32).toInt ∧ (2 : Int32).toInt ≤ 2 by decide) i7 (by decide) (by decide) (by decide) (by decide)⟩ (fun x58 qi59 => ?_)
      obtain ⟨i59, ax58, ei59⟩ := qi59
      have p60 : Ivr (o4.1 1).toInt (o4.2.1 5) := by exact x_3.2
      refine tt_b (sMp_madeBy _ _ _ k_q54_1 k_o4 (iv_w (a := 2) (b := 417) (by decide) (by decide) i59) f_o4_0 p60) (fun q61 hq61 => ?_)
      obtain ⟨zq61_0, -⟩ := hq61
      refine tt_n (ix_ok i57 (by decide) (by decide)) ?_
      refine tt_ko ?_
      have k62 := ok_yp (k := 4) (i := x56.toNatClampNeg) (v := q61) k_q54_1
      have r63 := fr_yp (k := 4) (i := x56.toNatClampNeg) (v := q61) r_q54_1 rfl
      refine tt_kv (P := fun z => ((2 : Int) ≤ z.toInt ∧ z.toInt ≤ 416) ∧ z = (2 * v5) ∧ z.toInt = 2 * v5.toInt) ⟨iv_mul (show (2 : Int) ≤ (2 : Int32).toInt ∧ (2 : Int32).toInt ≤ 2 by decide) i7 (by decide) (by decide) (by decide) (by decide) (by decide), rfl, iq_mul (show (2 : Int) ≤ (2 : Int32).toInt ∧ (2 : Int32).toInt ≤ 2 by decide) i7 (by decide) (by decide) (by decide) (by decide)⟩ (fun x64 qi65 => ?_)
      obtain ⟨i65, ax64, ei65⟩ := qi65
      refine tt_kv (P := fun z => ((3 : Int) ≤ z.toInt ∧ z.toInt ≤ 417) ∧ z = (x64 + 1) ∧ z.toInt = x64.toInt + 1) ⟨iv_add i65 (show (1 : Int) ≤ (1 : Int32).toInt ∧ (1 : Int32).toInt ≤ 1 by decide) (by decide) (by decide) (by decide) (by decide), rfl, iq_add i65 (show (1 : Int) ≤ (1 : Int32).toInt ∧ (1 : Int32).toInt ≤ 1 by decide) (by decide) (by decide)⟩ (fun x66 qi67 => ?_)
      obtain ⟨i67, ax66, ei67⟩ := qi67
      refine tt_kv (P := fun z => ((2 : Int) ≤ z.toInt ∧ z.toInt ≤ 416) ∧ z = (2 * v5) ∧ z.toInt = 2 * v5.toInt) ⟨iv_mul (show (2 : Int) ≤ (2 : Int32).toInt ∧ (2 : Int32).toInt ≤ 2 by decide) i7 (by decide) (by decide) (by decide) (by decide) (by decide), rfl, iq_mul (show (2 : Int) ≤ (2 : Int32).toInt ∧ (2 : Int32).toInt ≤ 2 by decide) i7 (by decide) (by decide) (by decide) (by decide)⟩ (fun x68 qi69 => ?_)
      obtain ⟨i69, ax68, ei69⟩ := qi69
      refine tt_kv (P := fun z => ((3 : Int) ≤ z.toInt ∧ z.toInt ≤ 417) ∧ z = (x68 + 1) ∧ z.toInt = x68.toInt + 1) ⟨iv_add i69 (show (1 : Int) ≤ (1 : Int32).toInt ∧ (1 : Int32).toInt ≤ 1 by decide) (by decide) (by decide) (by decide) (by decide), rfl, iq_add i69 (show (1 : Int) ≤ (1 : Int32).toInt ∧ (1 : Int32).toInt ≤ 1 by decide) (by decide) (by decide)⟩ (fun x70 qi71 => ?_)
      obtain ⟨i71, ax70, ei71⟩ := qi71
      have p72 : Ivr (o4.1 1).toInt (o4.2.1 5) := by exact x_3.2
      refine tt_b (sMp_madeBy _ _ _ k62 k_o4 (iv_w (a := 2) (b := 417) (by decide) (by decide) i71) f_o4_0 p72) (fun q73 hq73 => ?_)
      obtain ⟨zq73_0, -⟩ := hq73
      refine tt_n (ix_ok i67 (by decide) (by decide)) ?_
      refine tt_ko ?_
      have k74 := ok_yp (k := 4) (i := x66.toNatClampNeg) (v := q73) k62
      have r75 := fr_yp (k := 4) (i := x66.toNatClampNeg) (v := q73) r63 rfl
      refine tt_kv (P := fun z => ((2 : Int) ≤ z.toInt ∧ z.toInt ≤ 209) ∧ z = (v5 + 1) ∧ z.toInt = v5.toInt + 1) ⟨iv_add i7 (show (1 : Int) ≤ (1 : Int32).toInt ∧ (1 : Int32).toInt ≤ 1 by decide) (by decide) (by decide) (by decide) (by decide), rfl, iq_add i7 (show (1 : Int) ≤ (1 : Int32).toInt ∧ (1 : Int32).toInt ≤ 1 by decide) (by decide) (by decide)⟩ (fun x76 qi77 => ?_)
      obtain ⟨i77, ax76, ei77⟩ := qi77
      have p78 : Mal x76.toInt (vp_updL (vp_updL (q54.1.2.2 4) (x56.toNatClampNeg) q61) (x66.toNatClampNeg) q73) (o4.2.1 5) := by rw [show (q54.1.2.2 4) = o0.2.2 4 from n_q54_1.2.2 4 rfl]; exact Mal_s (p := q54.1.2.2 5) x_4 (show Mby q61 ((q54.1.2.2 5) x58.toNatClampNeg) ((q54.1.2.2 5) (x58 ^^^ 1).toNatClampNeg) (x58 ^^^ 1).toInt (o4.2.1 5) from zq61_0) (show Mby q73 ((q54.1.2.2 5) x70.toNatClampNeg) ((q54.1.2.2 5) (x70 ^^^ 1).toNatClampNeg) (x70 ^^^ 1).toInt (o4.2.1 5) from zq73_0) (by first | exact (show Pln _ _ _ _ by assumption) | exact Pln_g (by rw [tn_n]; omega) (by rw [tn_n]; omega) (by rw [tn_n]; omega)) (by omega) (by omega) (by rw [tn_n]; omega) (by rw [tn_n]; omega) (by omega) (by omega) (by omega)
      exact H _ _ _ _ _ _ k74 r75 k_o1 r_o1 k_o2 r_o2 k_q54_2 r_q54_2 k_o4 r_o4 (iv_w (a := 1) (b := 209) (by decide) (by decide) i77) f_o2_0 f_o4_0 x_0 (show (o2.1 0).toInt = 3 by omega) (show (o2.1 3).toInt ≤ (o2.1 4).toInt by omega) x_3 p78 (show 1 ≤ x76.toInt by omega) (show x76.toInt ≤ (((o1.1 0).toInt + 1) + (o1.1 2).toInt) by omega) (show 0 + (209 - x76.toInt) * 2 < (n : Int) by omega)
set_option maxHeartbeats 4000000 in
set_option maxRecDepth 100000 in
theorem hMp_findMatches (yo0 : cf_O) (yo1 : cf_O) (yo2 : cf_O) (yo3 : cf_O) (yo4 : cf_O) : ∀ n, HMp_findMatches yo0 yo1 yo2 yo3 yo4 n := by
  intro n
  induction n with
  | zero => exact (fun v5 o0 o1 o2 o3 o4 k_o0 r_o0 k_o1 r_o1 k_o2 r_o2 k_o3 r_o3 k_o4 r_o4 i_v5 f_o2_0 f_o4_0 x_0 x_1 x_2 x_3 x_4 x_5 x_6 hm => by exact absurd (show 0 + (209 - v5.toInt) * 2 < (0 : Int) from hm) (by omega))
  | succ n ih => exact (fun v5 o0 o1 o2 o3 o4 k_o0 r_o0 k_o1 r_o1 k_o2 r_o2 k_o3 r_o3 k_o4 r_o4 i_v5 f_o2_0 f_o4_0 x_0 x_1 x_2 x_3 x_4 x_5 x_6 hm => tMp_findMatches_3 ih v5 o0 o1 o2 o3 o4 k_o0 r_o0 k_o1 r_o1 k_o2 r_o2 k_o3 r_o3 k_o4 r_o4 i_v5 f_o2_0 f_o4_0 x_0 x_1 x_2 x_3 x_4 x_5 x_6 (by omega))
set_option maxHeartbeats 4000000 in
set_option maxRecDepth 100000 in
theorem sMp_findMatches (o0 : cf_O) (o1 : cf_O) (o2 : cf_O) (o3 : cf_O) (o4 : cf_O) (k_o0 : okO I_Mp o0) (k_o1 : okO I_Gr o1) (k_o2 : okO I_Cu o2) (k_o3 : okO I_Co o3) (k_o4 : okO I_Li o4) (f_o2_0 : (0 : Int) ≤ (o2.1 0).toInt ∧ (o2.1 0).toInt ≤ 5) (f_o4_0 : (1 : Int) ≤ (o4.1 0).toInt ∧ (o4.1 0).toInt ≤ 12) (x_0 : Fqs (o2.1 0).toInt (o1.1 0).toInt (((o1.1 0).toInt + 1) + (o1.1 2).toInt) (o2.1 3).toInt (o2.2.1 2) (o2.2.1 1) (o2.2.2 4)) (x_1 : (o2.1 0).toInt = 3) (x_2 : (o2.1 3).toInt ≤ (o2.1 4).toInt) (x_3 : Lbr (o4.1 7).toInt (o4.1 1).toInt (o4.2.1 8) (o4.2.1 9) (o4.2.1 10) (o4.2.1 11) (o4.2.1 5)) : tt (fMp_findMatches o0 o1 o2 o3 o4) (QMp_findMatches o0 o1 o2 o3 o4) := by
  have H := hMp_findMatches o0 o1 o2 o3 o4 cfFU
  have hm : (419 : Int) ≤ (cfFU : Nat) := by decide
  have r_o0 : Fr (fr_M [] [] [4, 5]) o0 o0 := fr_rfl
  have r_o1 : Fr (fr_M [] [] []) o1 o1 := fr_rfl
  have r_o2 : Fr (fr_M [] [] []) o2 o2 := fr_rfl
  have r_o3 : Fr (fr_M [0, 1] [2, 3, 4] []) o3 o3 := fr_rfl
  have r_o4 : Fr (fr_M [] [] []) o4 o4 := fr_rfl
  unfold fMp_findMatches fMp_findMatches_0
  have g_o0_0 : (0 : Int) ≤ (o0.1 0).toInt ∧ (o0.1 0).toInt ≤ 418 := k_o0.1 0
  have g_o0_1 : ((-2147483648) : Int) ≤ (o0.1 1).toInt ∧ (o0.1 1).toInt ≤ 2147483647 := k_o0.1 1
  have g_o0_2 : ((-2147483648) : Int) ≤ (o0.1 2).toInt ∧ (o0.1 2).toInt ≤ 2147483647 := k_o0.1 2
  have g_o0_3 : (0 : Int) ≤ (o0.1 3).toInt ∧ (o0.1 3).toInt ≤ 0 := k_o0.1 3
  have g_o0_4 : (0 : Int) ≤ (o0.1 4).toInt ∧ (o0.1 4).toInt ≤ 0 := k_o0.1 4
  have g_o0_7 : (0 : Int) ≤ (o0.1 7).toInt ∧ (o0.1 7).toInt ≤ 0 := k_o0.1 7
  have g_o1_0 : (0 : Int) ≤ (o1.1 0).toInt ∧ (o1.1 0).toInt ≤ 8 := k_o1.1 0
  have g_o1_1 : (0 : Int) ≤ (o1.1 1).toInt ∧ (o1.1 1).toInt ≤ 6 := k_o1.1 1
  have g_o1_2 : (0 : Int) ≤ (o1.1 2).toInt ∧ (o1.1 2).toInt ≤ 200 := k_o1.1 2
  have g_o1_3 : (0 : Int) ≤ (o1.1 3).toInt ∧ (o1.1 3).toInt ≤ 1 := k_o1.1 3
  have g_o1_4 : (0 : Int) ≤ (o1.1 4).toInt ∧ (o1.1 4).toInt ≤ 0 := k_o1.1 4
  have g_o1_7 : (0 : Int) ≤ (o1.1 7).toInt ∧ (o1.1 7).toInt ≤ 0 := k_o1.1 7
  have g_o2_1 : (0 : Int) ≤ (o2.1 1).toInt ∧ (o2.1 1).toInt ≤ 0 := k_o2.1 1
  have g_o2_2 : (0 : Int) ≤ (o2.1 2).toInt ∧ (o2.1 2).toInt ≤ 0 := k_o2.1 2
  have g_o2_3 : (0 : Int) ≤ (o2.1 3).toInt ∧ (o2.1 3).toInt ≤ 62909 := k_o2.1 3
  have g_o2_4 : (1024 : Int) ≤ (o2.1 4).toInt ∧ (o2.1 4).toInt ≤ 131072 := k_o2.1 4
  have g_o2_7 : (0 : Int) ≤ (o2.1 7).toInt ∧ (o2.1 7).toInt ≤ 0 := k_o2.1 7
  have g_o3_0 : (0 : Int) ≤ (o3.1 0).toInt ∧ (o3.1 0).toInt ≤ 5 := k_o3.1 0
  have g_o3_1 : ((-2147483648) : Int) ≤ (o3.1 1).toInt ∧ (o3.1 1).toInt ≤ 2147483647 := k_o3.1 1
  have g_o3_2 : (0 : Int) ≤ (o3.1 2).toInt ∧ (o3.1 2).toInt ≤ 0 := k_o3.1 2
  have g_o3_3 : (0 : Int) ≤ (o3.1 3).toInt ∧ (o3.1 3).toInt ≤ 0 := k_o3.1 3
  have g_o3_4 : (0 : Int) ≤ (o3.1 4).toInt ∧ (o3.1 4).toInt ≤ 0 := k_o3.1 4
  have g_o3_7 : (0 : Int) ≤ (o3.1 7).toInt ∧ (o3.1 7).toInt ≤ 0 := k_o3.1 7
  have g_o4_1 : ((-1) : Int) ≤ (o4.1 1).toInt ∧ (o4.1 1).toInt ≤ 11 := k_o4.1 1
  have g_o4_2 : (0 : Int) ≤ (o4.1 2).toInt ∧ (o4.1 2).toInt ≤ 0 := k_o4.1 2
  have g_o4_3 : (0 : Int) ≤ (o4.1 3).toInt ∧ (o4.1 3).toInt ≤ 0 := k_o4.1 3
  have g_o4_4 : (0 : Int) ≤ (o4.1 4).toInt ∧ (o4.1 4).toInt ≤ 0 := k_o4.1 4
  have g_o4_7 : (0 : Int) ≤ (o4.1 7).toInt ∧ (o4.1 7).toInt ≤ 576 := k_o4.1 7
  have p1 : Mal 1 (o0.2.2 4) (o4.2.1 5) := by exact Mal_0
  exact H _ _ _ _ _ _ k_o0 r_o0 k_o1 r_o1 k_o2 r_o2 k_o3 r_o3 k_o4 r_o4 (iv_w (a := 1) (b := 209) (by decide) (by decide) (show (1 : Int) ≤ (1 : Int32).toInt ∧ (1 : Int32).toInt ≤ 1 by decide)) f_o2_0 f_o4_0 x_0 (show (o2.1 0).toInt = 3 by omega) (show (o2.1 3).toInt ≤ (o2.1 4).toInt by omega) x_3 p1 (show 1 ≤ 1 by omega) (show 1 ≤ (((o1.1 0).toInt + 1) + (o1.1 2).toInt) by omega) (show 0 + (209 - 1) * 2 < ((cfFU : Nat) : Int) by omega)
