noncomputable def fCo_full_16 (s0 : Int32) : Option (Int32) :=
  some s0
noncomputable def fCo_full_0 (v0 : Int32) : Option (Int32) :=
  (if v0 = (5 : Int32) then fCo_full_16 (-1) else op_k ((1 : Int32) <<< (v0 &&& 31)) (fun x_2 => op_k ((1 : Int32) <<< (x_2 &&& 31)) (fun x_3 => op_k (x_3 - 1) (fun x_4 => fCo_full_16 x_4))))
noncomputable def fCo_full (v0 : Int32) : Option (Int32) := fCo_full_0 v0
noncomputable def fCo_isBetween_15 (s0 : Int32) (o0 : cf_O) : Option (Int32) :=
  (if ¬ (s0 = 0 ∨ s0 = 1) then none else some s0)
noncomputable def fCo_isBetween_0 (v1 : Int32) (o0 : cf_O) : Option (Int32) :=
  (if v1 < 0 ∨ 209 ≤ v1.toNatClampNeg then none else op_k (o0.2.1 3 v1.toNatClampNeg) (fun x_2 => (if x_2 = (1 : Int32) then fCo_isBetween_15 1 o0 else fCo_isBetween_15 0 o0)))
noncomputable def fCo_isBetween (v1 : Int32) (o0 : cf_O) : Option (Int32) := fCo_isBetween_0 v1 o0
noncomputable def fJArrays_fill_AII_Co3_5 (rc : Nat → Int32 → Int32 → Int32 → cf_O → Option (cf_O)) (v1 : Int32) (v2 : Int32) (v3 : Int32) (o0 : cf_O) : Option (cf_O) :=
  (if v3 ≤ v2 then some o0 else (if v2 < 0 ∨ 209 ≤ v2.toNatClampNeg then none else op_k (xp o0 3 v2.toNatClampNeg v1) (fun o_3 => op_k (v2 + 1) (fun x_4 => rc 0 v1 x_4 v3 o_3))))
noncomputable def fJArrays_fill_AII_Co3_0 (rc : Nat → Int32 → Int32 → Int32 → cf_O → Option (cf_O)) (v1 : Int32) (o0 : cf_O) : Option (cf_O) :=
  rc 0 v1 0 209 o0
noncomputable def gJArrays_fill_AII_Co3 (n : Nat) : Nat → Int32 → Int32 → Int32 → cf_O → Option (cf_O) := Nat.rec (motive := fun _ => Nat → Int32 → Int32 → Int32 → cf_O → Option (cf_O)) (fun _ _ _ _ _ => none) (fun _ rc => fun k u1i u2i u3i o0 => Nat.rec (motive := fun _ => Option (cf_O)) (fJArrays_fill_AII_Co3_5 rc u1i u2i u3i o0) (fun k _ => none) k) n
noncomputable def fJArrays_fill_AII_Co3 (v1 : Int32) (o0 : cf_O) : Option (cf_O) := fJArrays_fill_AII_Co3_0 (gJArrays_fill_AII_Co3 cfFU) v1 o0
noncomputable def fJInteger_numberOfLeadingZeros_I_73 (v0 : Int32) (v1 : Int32) : Option (Int32) :=
  op_k ((v0.toUInt32 >>> ((1 : Int32).toUInt32 &&& Int32.toUInt32 31)).toInt32) (fun x_1 => op_k (v1 - x_1) (fun x_2 => some x_2))
noncomputable def fJInteger_numberOfLeadingZeros_I_61 (v0 : Int32) (v1 : Int32) : Option (Int32) :=
  (if v0 < (4 : Int32) then fJInteger_numberOfLeadingZeros_I_73 v0 v1 else op_k (v1 + (-2)) (fun x_2 => op_k ((v0.toUInt32 >>> ((2 : Int32).toUInt32 &&& Int32.toUInt32 31)).toInt32) (fun x_3 => fJInteger_numberOfLeadingZeros_I_73 x_3 x_2)))
noncomputable def fJInteger_numberOfLeadingZeros_I_48 (v0 : Int32) (v1 : Int32) : Option (Int32) :=
  (if v0 < (16 : Int32) then fJInteger_numberOfLeadingZeros_I_61 v0 v1 else op_k (v1 + (-4)) (fun x_2 => op_k ((v0.toUInt32 >>> ((4 : Int32).toUInt32 &&& Int32.toUInt32 31)).toInt32) (fun x_3 => fJInteger_numberOfLeadingZeros_I_61 x_3 x_2)))
noncomputable def fJInteger_numberOfLeadingZeros_I_33 (v0 : Int32) (v1 : Int32) : Option (Int32) :=
  (if v0 < (256 : Int32) then fJInteger_numberOfLeadingZeros_I_48 v0 v1 else op_k (v1 + (-8)) (fun x_2 => op_k ((v0.toUInt32 >>> ((8 : Int32).toUInt32 &&& Int32.toUInt32 31)).toInt32) (fun x_3 => fJInteger_numberOfLeadingZeros_I_48 x_3 x_2)))
noncomputable def fJInteger_numberOfLeadingZeros_I_14 (s0 : Int32) : Option (Int32) :=
  some s0
noncomputable def fJInteger_numberOfLeadingZeros_I_0 (v0 : Int32) : Option (Int32) :=
  (if (0 : Int32) < v0 then (if v0 < (65536 : Int32) then fJInteger_numberOfLeadingZeros_I_33 v0 31 else op_k ((v0.toUInt32 >>> ((16 : Int32).toUInt32 &&& Int32.toUInt32 31)).toInt32) (fun x_3 => fJInteger_numberOfLeadingZeros_I_33 x_3 15)) else (if v0 = (0 : Int32) then fJInteger_numberOfLeadingZeros_I_14 32 else fJInteger_numberOfLeadingZeros_I_14 0))
noncomputable def fJInteger_numberOfLeadingZeros_I (v0 : Int32) : Option (Int32) := fJInteger_numberOfLeadingZeros_I_0 v0
noncomputable def fJLong_numberOfLeadingZeros_J_25 (s0 : Int32) : Option (Int32) :=
  some s0
noncomputable def fJLong_numberOfLeadingZeros_J_0 (v0 : Int64) : Option (Int32) :=
  op_k ((v0.toUInt64 >>> ((32 : Int32).toInt64.toUInt64 &&& Int64.toUInt64 63)).toInt64) (fun x_1 => op_k (x_1.toInt32) (fun x_2 => (if x_2 = (0 : Int32) then op_k (v0.toInt32) (fun x_7 => Option.bind (fJInteger_numberOfLeadingZeros_I x_7) (fun q_8 => op_k (32 + q_8) (fun x_11 => fJLong_numberOfLeadingZeros_J_25 x_11))) else Option.bind (fJInteger_numberOfLeadingZeros_I x_2) (fun q_4 => fJLong_numberOfLeadingZeros_J_25 q_4))))
noncomputable def fJLong_numberOfLeadingZeros_J (v0 : Int64) : Option (Int32) := fJLong_numberOfLeadingZeros_J_0 v0
noncomputable def fCu_sizeOf_0 (v0 : Int64) : Option (Int32) :=
  Option.bind (fJLong_numberOfLeadingZeros_J v0) (fun q_1 => op_k (q_1 / 8) (fun x_4 => op_k (8 - x_4) (fun x_5 => some x_5)))
noncomputable def fCu_sizeOf (v0 : Int64) : Option (Int32) := fCu_sizeOf_0 v0
noncomputable def fCo_takeCut_18 (rc : Nat → Int64 → Int32 → cf_O → Option (cf_O)) (v1 : Int64) (v3 : Int32) (o0 : cf_O) : Option (cf_O) :=
  (if (o0.1 0) ≤ v3 then some o0 else op_k ((o0.1 0) - 1) (fun x_2 => op_k (x_2 - v3) (fun x_3 => op_k (8 * x_3) (fun x_4 => op_k ((v1.toUInt64 >>> (x_4.toInt64.toUInt64 &&& Int64.toUInt64 63)).toInt64) (fun x_5 => op_k (x_5 &&& 255) (fun x_6 => op_k (x_6.toInt32) (fun x_7 => (if v3 < 0 ∨ 5 ≤ v3.toNatClampNeg then none else op_k (xp o0 2 v3.toNatClampNeg x_7) (fun o_9 => (if x_7 < 0 ∨ 209 ≤ x_7.toNatClampNeg then none else op_k (xp o_9 3 x_7.toNatClampNeg 2) (fun o_11 => (if v3 < 0 ∨ 5 ≤ v3.toNatClampNeg then none else op_k (cf_patterns v3.toNatClampNeg) (fun x_13 => (if x_7 < 0 ∨ 209 ≤ x_7.toNatClampNeg then none else op_k (xp o_11 4 x_7.toNatClampNeg x_13) (fun o_15 => op_k (v3 + 1) (fun x_16 => rc 0 v1 x_16 o_15))))))))))))))))
noncomputable def fCo_takeCut_0 (rc : Nat → Int64 → Int32 → cf_O → Option (cf_O)) (v1 : Int64) (o0 : cf_O) : Option (cf_O) :=
  Option.bind (fJArrays_fill_AII_Co3 0 o0) (fun q_1 => Option.bind (fCu_sizeOf v1) (fun q_3 => op_k (fp q_1 0 q_3) (fun o_6 => rc 0 v1 0 o_6)))
noncomputable def gCo_takeCut (n : Nat) : Nat → Int64 → Int32 → cf_O → Option (cf_O) := Nat.rec (motive := fun _ => Nat → Int64 → Int32 → cf_O → Option (cf_O)) (fun _ _ _ _ => none) (fun _ rc => fun k u1l u3i o0 => Nat.rec (motive := fun _ => Option (cf_O)) (fCo_takeCut_18 rc u1l u3i o0) (fun k _ => none) k) n
noncomputable def fCo_takeCut (v1 : Int64) (o0 : cf_O) : Option (cf_O) := fCo_takeCut_0 (gCo_takeCut cfFU) v1 o0
noncomputable def fCo_reach_16 (o0 : cf_O) : Option (cf_O) :=
  some o0
noncomputable def fCo_reach_0 (v1 : Int32) (o0 : cf_O) : Option (cf_O) :=
  (if v1 < 0 ∨ 209 ≤ v1.toNatClampNeg then none else op_k (o0.2.1 3 v1.toNatClampNeg) (fun x_2 => (if x_2 = (0 : Int32) then (if v1 < 0 ∨ 209 ≤ v1.toNatClampNeg then none else op_k (xp o0 3 v1.toNatClampNeg 1) (fun o_5 => fCo_reach_16 o_5)) else fCo_reach_16 o0)))
noncomputable def fCo_reach (v1 : Int32) (o0 : cf_O) : Option (cf_O) := fCo_reach_0 v1 o0
noncomputable def fCo_valueOf_0 (v1 : Int32) (o0 : cf_O) : Option (Int32) :=
  op_k (v1 >>> ((1 : Int32) &&& 31)) (fun x_1 => (if x_1 < 0 ∨ 209 ≤ x_1.toNatClampNeg then none else op_k (o0.2.1 4 x_1.toNatClampNeg) (fun x_3 => op_k (v1 &&& 1) (fun x_4 => op_k (-x_4) (fun x_5 => op_k (x_3 ^^^ x_5) (fun x_6 => some x_6))))))
noncomputable def fCo_valueOf (v1 : Int32) (o0 : cf_O) : Option (Int32) := fCo_valueOf_0 v1 o0
noncomputable def fCo_find_126 (rc : Nat → Int32 → Int32 → cf_O → cf_O → Option (cf_O)) (v2 : Int32) (v5 : Int32) (o0 : cf_O) (o1 : cf_O) : Option (cf_O) :=
  op_k (v5 + 1) (fun x_1 => rc 1 v2 x_1 o0 o1)
noncomputable def fCo_find_79 (rc : Nat → Int32 → Int32 → cf_O → cf_O → Option (cf_O)) (v2 : Int32) (v5 : Int32) (o0 : cf_O) (o1 : cf_O) : Option (cf_O) :=
  (if v2 < v5 then (if v2 < 0 ∨ 209 ≤ v2.toNatClampNeg then none else op_k (o0.2.1 4 v2.toNatClampNeg) (fun x_3 => Option.bind (fCo_full (o0.1 0)) (fun q_4 => op_k (x_3 &&& q_4) (fun x_7 => op_k (fp o0 1 x_7) (fun o_8 => some o_8))))) else (if v5 < 0 ∨ 209 ≤ v5.toNatClampNeg then none else op_k (o0.2.1 3 v5.toNatClampNeg) (fun x_10 => (if x_10 = (1 : Int32) then (if v5 < 0 ∨ 209 ≤ v5.toNatClampNeg then none else op_k (o1.2.1 4 v5.toNatClampNeg) (fun x_13 => Option.bind (fCo_valueOf x_13 o0) (fun q_14 => (if v5 < 0 ∨ 209 ≤ v5.toNatClampNeg then none else op_k (o1.2.1 5 v5.toNatClampNeg) (fun x_18 => Option.bind (fCo_valueOf x_18 o0) (fun q_19 => op_k (q_14 &&& q_19) (fun x_22 => (if v5 < 0 ∨ 209 ≤ v5.toNatClampNeg then none else op_k (xp o0 4 v5.toNatClampNeg x_22) (fun o_24 => fCo_find_126 rc v2 v5 o_24 o1))))))))) else fCo_find_126 rc v2 v5 o0 o1))))
noncomputable def fCo_find_63 (rc : Nat → Int32 → Int32 → cf_O → cf_O → Option (cf_O)) (v2 : Int32) (v5 : Int32) (o0 : cf_O) (o1 : cf_O) : Option (cf_O) :=
  op_k (v5 + (-1)) (fun x_1 => rc 0 v2 x_1 o0 o1)
noncomputable def fCo_find_15 (rc : Nat → Int32 → Int32 → cf_O → cf_O → Option (cf_O)) (v2 : Int32) (v5 : Int32) (o0 : cf_O) (o1 : cf_O) : Option (cf_O) :=
  (if (0 : Int32) < 0 ∨ 5 ≤ (0 : Int32).toNatClampNeg then none else op_k (o0.2.1 2 (0 : Int32).toNatClampNeg) (fun x_2 => (if v5 ≤ x_2 then (if (0 : Int32) < 0 ∨ 5 ≤ (0 : Int32).toNatClampNeg then none else op_k (o0.2.1 2 (0 : Int32).toNatClampNeg) (fun x_5 => op_k (x_5 + 1) (fun x_6 => rc 1 v2 x_6 o0 o1))) else (if v5 < 0 ∨ 209 ≤ v5.toNatClampNeg then none else op_k (o0.2.1 3 v5.toNatClampNeg) (fun x_8 => (if x_8 = (1 : Int32) then (if v5 < 0 ∨ 209 ≤ v5.toNatClampNeg then none else op_k (o1.2.1 4 v5.toNatClampNeg) (fun x_11 => op_k (x_11 >>> ((1 : Int32) &&& 31)) (fun x_12 => Option.bind (fCo_reach x_12 o0) (fun q_13 => (if v5 < 0 ∨ 209 ≤ v5.toNatClampNeg then none else op_k (o1.2.1 5 v5.toNatClampNeg) (fun x_16 => op_k (x_16 >>> ((1 : Int32) &&& 31)) (fun x_17 => Option.bind (fCo_reach x_17 q_13) (fun q_18 => fCo_find_63 rc v2 v5 q_18 o1)))))))) else fCo_find_63 rc v2 v5 o0 o1))))))
noncomputable def fCo_find_0 (rc : Nat → Int32 → Int32 → cf_O → cf_O → Option (cf_O)) (v2 : Int32) (v3 : Int64) (o0 : cf_O) (o1 : cf_O) : Option (cf_O) :=
  Option.bind (fCo_takeCut v3 o0) (fun q_1 => (if v2 < 0 ∨ 209 ≤ v2.toNatClampNeg then none else op_k (xp q_1 3 v2.toNatClampNeg 1) (fun o_4 => rc 0 v2 v2 o_4 o1)))
noncomputable def gCo_find (n : Nat) : Nat → Int32 → Int32 → cf_O → cf_O → Option (cf_O) := Nat.rec (motive := fun _ => Nat → Int32 → Int32 → cf_O → cf_O → Option (cf_O)) (fun _ _ _ _ _ => none) (fun _ rc => fun k u2i u5i o0 o1 => Nat.rec (motive := fun _ => Option (cf_O)) (fCo_find_15 rc u2i u5i o0 o1) (fun k _ => Nat.rec (motive := fun _ => Option (cf_O)) (fCo_find_79 rc u2i u5i o0 o1) (fun k _ => none) k) k) n
noncomputable def fCo_find (v2 : Int32) (v3 : Int64) (o0 : cf_O) (o1 : cf_O) : Option (cf_O) := fCo_find_0 (gCo_find cfFU) v2 v3 o0 o1
noncomputable def fCv_cutOf_0 (v1 : Int32) (o0 : cf_O) : Option (Int64) :=
  (if v1 < 0 ∨ 200 ≤ v1.toNatClampNeg then none else op_k (o0.2.1 2 v1.toNatClampNeg) (fun x_2 => (if x_2 < 0 ∨ 209 ≤ x_2.toNatClampNeg then none else op_k (o0.2.2 5 x_2.toNatClampNeg) (fun x_4 => some x_4))))
noncomputable def fCv_cutOf (v1 : Int32) (o0 : cf_O) : Option (Int64) := fCv_cutOf_0 v1 o0
noncomputable def fJArrays_fill_AII_Cv6_5 (rc : Nat → Int32 → Int32 → Int32 → cf_O → Option (cf_O)) (v1 : Int32) (v2 : Int32) (v3 : Int32) (o0 : cf_O) : Option (cf_O) :=
  (if v3 ≤ v2 then some o0 else (if v2 < 0 ∨ 209 ≤ v2.toNatClampNeg then none else op_k (xp o0 6 v2.toNatClampNeg v1) (fun o_3 => op_k (v2 + 1) (fun x_4 => rc 0 v1 x_4 v3 o_3))))
noncomputable def fJArrays_fill_AII_Cv6_0 (rc : Nat → Int32 → Int32 → Int32 → cf_O → Option (cf_O)) (v1 : Int32) (o0 : cf_O) : Option (cf_O) :=
  rc 0 v1 0 209 o0
noncomputable def gJArrays_fill_AII_Cv6 (n : Nat) : Nat → Int32 → Int32 → Int32 → cf_O → Option (cf_O) := Nat.rec (motive := fun _ => Nat → Int32 → Int32 → Int32 → cf_O → Option (cf_O)) (fun _ _ _ _ _ => none) (fun _ rc => fun k u1i u2i u3i o0 => Nat.rec (motive := fun _ => Option (cf_O)) (fJArrays_fill_AII_Cv6_5 rc u1i u2i u3i o0) (fun k _ => none) k) n
noncomputable def fJArrays_fill_AII_Cv6 (v1 : Int32) (o0 : cf_O) : Option (cf_O) := fJArrays_fill_AII_Cv6_0 (gJArrays_fill_AII_Cv6 cfFU) v1 o0
noncomputable def fGr_size_0 (o0 : cf_O) : Option (Int32) :=
  op_k (1 + (o0.1 0)) (fun x_1 => op_k (x_1 + (o0.1 2)) (fun x_2 => some x_2))
noncomputable def fGr_size (o0 : cf_O) : Option (Int32) := fGr_size_0 o0
noncomputable def fGr_isGate_21 (s0 : Int32) (o0 : cf_O) : Option (Int32) :=
  (if ¬ (s0 = 0 ∨ s0 = 1) then none else some s0)
noncomputable def fGr_isGate_20 (o0 : cf_O) : Option (Int32) :=
  fGr_isGate_21 0 o0
noncomputable def fGr_isGate_0 (v1 : Int32) (o0 : cf_O) : Option (Int32) :=
  (if v1 ≤ (o0.1 0) then fGr_isGate_20 o0 else Option.bind (fGr_size o0) (fun q_2 => (if q_2 ≤ v1 then fGr_isGate_20 o0 else fGr_isGate_21 1 o0)))
noncomputable def fGr_isGate (v1 : Int32) (o0 : cf_O) : Option (Int32) := fGr_isGate_0 v1 o0
noncomputable def fCv_wantOutputs_93 (rc : Nat → Int32 → cf_O → cf_O → cf_O → Option (cf_O)) (v3 : Int32) (o0 : cf_O) (o1 : cf_O) (o2 : cf_O) : Option (cf_O) :=
  op_k (v3 + 1) (fun x_1 => rc 1 x_1 o0 o1 o2)
noncomputable def fCv_wantOutputs_55 (rc : Nat → Int32 → cf_O → cf_O → cf_O → Option (cf_O)) (v3 : Int32) (o0 : cf_O) (o1 : cf_O) (o2 : cf_O) : Option (cf_O) :=
  (if (o1.1 1) ≤ v3 then some o0 else (if v3 < 0 ∨ 6 ≤ v3.toNatClampNeg then none else op_k (o1.2.1 7 v3.toNatClampNeg) (fun x_3 => op_k (x_3 >>> ((1 : Int32) &&& 31)) (fun x_4 => Option.bind (fGr_isGate x_4 o1) (fun q_5 => (if q_5 = (0 : Int32) then fCv_wantOutputs_93 rc v3 o0 o1 o2 else (if x_4 < 0 ∨ 209 ≤ x_4.toNatClampNeg then none else op_k (xp o0 6 x_4.toNatClampNeg (o0.1 1)) (fun o_10 => fCv_wantOutputs_93 rc v3 o_10 o1 o2))))))))
noncomputable def fCv_wantOutputs_15 (rc : Nat → Int32 → cf_O → cf_O → cf_O → Option (cf_O)) (v3 : Int32) (o0 : cf_O) (o1 : cf_O) (o2 : cf_O) : Option (cf_O) :=
  (if (o1.1 1) ≤ v3 then rc 1 0 o0 o1 o2 else (if v3 < 0 ∨ 6 ≤ v3.toNatClampNeg then none else op_k (o1.2.1 7 v3.toNatClampNeg) (fun x_3 => op_k (x_3 >>> ((1 : Int32) &&& 31)) (fun x_4 => (if x_4 < 0 ∨ 209 ≤ x_4.toNatClampNeg then none else op_k (o2.2.1 1 x_4.toNatClampNeg) (fun x_6 => op_k (op_mx (o0.1 1) x_6) (fun x_7 => op_k (fp o0 1 x_7) (fun o_8 => op_k (v3 + 1) (fun x_9 => rc 0 x_9 o_8 o1 o2)))))))))
noncomputable def fCv_wantOutputs_0 (rc : Nat → Int32 → cf_O → cf_O → cf_O → Option (cf_O)) (o0 : cf_O) (o1 : cf_O) (o2 : cf_O) : Option (cf_O) :=
  Option.bind (fJArrays_fill_AII_Cv6 (-1) o0) (fun q_1 => op_k (fp q_1 1 0) (fun o_3 => rc 0 0 o_3 o1 o2))
noncomputable def gCv_wantOutputs (n : Nat) : Nat → Int32 → cf_O → cf_O → cf_O → Option (cf_O) := Nat.rec (motive := fun _ => Nat → Int32 → cf_O → cf_O → cf_O → Option (cf_O)) (fun _ _ _ _ _ => none) (fun _ rc => fun k u3i o0 o1 o2 => Nat.rec (motive := fun _ => Option (cf_O)) (fCv_wantOutputs_15 rc u3i o0 o1 o2) (fun k _ => Nat.rec (motive := fun _ => Option (cf_O)) (fCv_wantOutputs_55 rc u3i o0 o1 o2) (fun k _ => none) k) k) n
noncomputable def fCv_wantOutputs (o0 : cf_O) (o1 : cf_O) (o2 : cf_O) : Option (cf_O) := fCv_wantOutputs_0 (gCv_wantOutputs cfFU) o0 o1 o2
noncomputable def fCu_firstOf_0 (v1 : Int32) (o0 : cf_O) : Option (Int32) :=
  (if v1 < 0 ∨ 210 ≤ v1.toNatClampNeg then none else op_k (o0.2.1 2 v1.toNatClampNeg) (fun x_2 => op_k (x_2 + 1) (fun x_3 => some x_3)))
noncomputable def fCu_firstOf (v1 : Int32) (o0 : cf_O) : Option (Int32) := fCu_firstOf_0 v1 o0
noncomputable def fCu_behindLastOf_0 (v1 : Int32) (o0 : cf_O) : Option (Int32) :=
  op_k (v1 + 1) (fun x_1 => (if x_1 < 0 ∨ 210 ≤ x_1.toNatClampNeg then none else op_k (o0.2.1 2 x_1.toNatClampNeg) (fun x_3 => some x_3)))
noncomputable def fCu_behindLastOf (v1 : Int32) (o0 : cf_O) : Option (Int32) := fCu_behindLastOf_0 v1 o0
noncomputable def fCu_cutAt_0 (v1 : Int32) (o0 : cf_O) : Option (Int64) :=
  (if v1 < 0 ∨ (o0.1 4).toNatClampNeg ≤ v1.toNatClampNeg then none else op_k (o0.2.2 4 v1.toNatClampNeg) (fun x_2 => some x_2))
noncomputable def fCu_cutAt (v1 : Int32) (o0 : cf_O) : Option (Int64) := fCu_cutAt_0 v1 o0
noncomputable def fCu_depthOf_5 (rc : Nat → Int32 → Int64 → cf_O → Option (Int32)) (v3 : Int32) (v4 : Int64) (o0 : cf_O) : Option (Int32) :=
  op_k (lg_cmp v4 (0 : Int64)) (fun x_1 => (if x_1 = (0 : Int32) then op_k (v3 + 1) (fun x_3 => some x_3) else op_k (v4 &&& 255) (fun x_4 => op_k (x_4.toInt32) (fun x_5 => (if x_5 < 0 ∨ 209 ≤ x_5.toNatClampNeg then none else op_k (o0.2.1 1 x_5.toNatClampNeg) (fun x_7 => op_k (op_mx v3 x_7) (fun x_8 => op_k ((v4.toUInt64 >>> ((8 : Int32).toInt64.toUInt64 &&& Int64.toUInt64 63)).toInt64) (fun x_9 => rc 0 x_8 x_9 o0))))))))
noncomputable def fCu_depthOf_0 (rc : Nat → Int32 → Int64 → cf_O → Option (Int32)) (v1 : Int64) (o0 : cf_O) : Option (Int32) :=
  rc 0 0 v1 o0
noncomputable def gCu_depthOf (n : Nat) : Nat → Int32 → Int64 → cf_O → Option (Int32) := Nat.rec (motive := fun _ => Nat → Int32 → Int64 → cf_O → Option (Int32)) (fun _ _ _ _ => none) (fun _ rc => fun k u3i u4l o0 => Nat.rec (motive := fun _ => Option (Int32)) (fCu_depthOf_5 rc u3i u4l o0) (fun k _ => none) k) n
noncomputable def fCu_depthOf (v1 : Int64) (o0 : cf_O) : Option (Int32) := fCu_depthOf_0 (gCu_depthOf cfFU) v1 o0
noncomputable def fCv_unwantedIn_49 (rc : Nat → Int32 → Int64 → cf_O → cf_O → Option (Int32)) (v5 : Int64) (s0 : Int32) (s1 : Int32) (o0 : cf_O) (o1 : cf_O) : Option (Int32) :=
  op_k (s0 + s1) (fun x_1 => op_k ((v5.toUInt64 >>> ((8 : Int32).toInt64.toUInt64 &&& Int64.toUInt64 63)).toInt64) (fun x_2 => rc 0 x_1 x_2 o0 o1))
noncomputable def fCv_unwantedIn_48 (rc : Nat → Int32 → Int64 → cf_O → cf_O → Option (Int32)) (v5 : Int64) (s0 : Int32) (o0 : cf_O) (o1 : cf_O) : Option (Int32) :=
  fCv_unwantedIn_49 rc v5 s0 0 o0 o1
noncomputable def fCv_unwantedIn_6 (rc : Nat → Int32 → Int64 → cf_O → cf_O → Option (Int32)) (v4 : Int32) (v5 : Int64) (o0 : cf_O) (o1 : cf_O) : Option (Int32) :=
  op_k (lg_cmp v5 (0 : Int64)) (fun x_1 => (if x_1 = (0 : Int32) then some v4 else op_k (v5 &&& 255) (fun x_3 => op_k (x_3.toInt32) (fun x_4 => Option.bind (fGr_isGate x_4 o1) (fun q_5 => (if q_5 = (0 : Int32) then fCv_unwantedIn_48 rc v5 v4 o0 o1 else (if x_4 < 0 ∨ 209 ≤ x_4.toNatClampNeg then none else op_k (o0.2.1 6 x_4.toNatClampNeg) (fun x_10 => (if x_10 = ((-1) : Int32) then fCv_unwantedIn_49 rc v5 v4 1 o0 o1 else fCv_unwantedIn_48 rc v5 v4 o0 o1)))))))))
noncomputable def fCv_unwantedIn_0 (rc : Nat → Int32 → Int64 → cf_O → cf_O → Option (Int32)) (v2 : Int64) (o0 : cf_O) (o1 : cf_O) : Option (Int32) :=
  rc 0 0 v2 o0 o1
noncomputable def gCv_unwantedIn (n : Nat) : Nat → Int32 → Int64 → cf_O → cf_O → Option (Int32) := Nat.rec (motive := fun _ => Nat → Int32 → Int64 → cf_O → cf_O → Option (Int32)) (fun _ _ _ _ _ => none) (fun _ rc => fun k u4i u5l o0 o1 => Nat.rec (motive := fun _ => Option (Int32)) (fCv_unwantedIn_6 rc u4i u5l o0 o1) (fun k _ => none) k) n
noncomputable def fCv_unwantedIn (v2 : Int64) (o0 : cf_O) (o1 : cf_O) : Option (Int32) := fCv_unwantedIn_0 (gCv_unwantedIn cfFU) v2 o0 o1
noncomputable def fCv_fewest_92 (rc : Nat → Int32 → Int64 → Int32 → Int32 → cf_O → cf_O → cf_O → Option (Int64)) (v3 : Int32) (v4 : Int64) (v6 : Int32) (v7 : Int32) (o0 : cf_O) (o1 : cf_O) (o2 : cf_O) : Option (Int64) :=
  op_k (v7 + 1) (fun x_1 => rc 0 v3 v4 v6 x_1 o0 o1 o2)
noncomputable def fCv_fewest_84 (rc : Nat → Int32 → Int64 → Int32 → Int32 → cf_O → cf_O → cf_O → Option (Int64)) (v3 : Int32) (v7 : Int32) (v8 : Int64) (v10 : Int32) (o0 : cf_O) (o1 : cf_O) (o2 : cf_O) : Option (Int64) :=
  fCv_fewest_92 rc v3 v8 v10 v7 o0 o1 o2
noncomputable def fCv_fewest_17 (rc : Nat → Int32 → Int64 → Int32 → Int32 → cf_O → cf_O → cf_O → Option (Int64)) (v3 : Int32) (v4 : Int64) (v6 : Int32) (v7 : Int32) (o0 : cf_O) (o1 : cf_O) (o2 : cf_O) : Option (Int64) :=
  Option.bind (fCu_behindLastOf v3 o2) (fun q_1 => (if q_1 ≤ v7 then some v4 else Option.bind (fCu_cutAt v7 o2) (fun q_5 => Option.bind (fCu_depthOf q_5 o2) (fun q_8 => (if v3 < 0 ∨ 209 ≤ v3.toNatClampNeg then none else op_k (o0.2.1 6 v3.toNatClampNeg) (fun x_12 => (if q_8 ≤ x_12 then Option.bind (fCv_unwantedIn q_5 o0 o1) (fun q_14 => (if q_14 < v6 then fCv_fewest_84 rc v3 v7 q_5 q_14 o0 o1 o2 else (if q_14 = v6 then op_k (lg_cmp q_5 v4) (fun x_19 => (if (0 : Int32) ≤ x_19 then fCv_fewest_92 rc v3 v4 v6 v7 o0 o1 o2 else fCv_fewest_84 rc v3 v7 q_5 q_14 o0 o1 o2)) else fCv_fewest_92 rc v3 v4 v6 v7 o0 o1 o2))) else fCv_fewest_92 rc v3 v4 v6 v7 o0 o1 o2)))))))
noncomputable def fCv_fewest_0 (rc : Nat → Int32 → Int64 → Int32 → Int32 → cf_O → cf_O → cf_O → Option (Int64)) (v3 : Int32) (o0 : cf_O) (o1 : cf_O) (o2 : cf_O) : Option (Int64) :=
  Option.bind (fCu_firstOf v3 o2) (fun q_1 => rc 0 v3 9223372036854775807 209 q_1 o0 o1 o2)
noncomputable def gCv_fewest (n : Nat) : Nat → Int32 → Int64 → Int32 → Int32 → cf_O → cf_O → cf_O → Option (Int64) := Nat.rec (motive := fun _ => Nat → Int32 → Int64 → Int32 → Int32 → cf_O → cf_O → cf_O → Option (Int64)) (fun _ _ _ _ _ _ _ _ => none) (fun _ rc => fun k u3i u4l u6i u7i o0 o1 o2 => Nat.rec (motive := fun _ => Option (Int64)) (fCv_fewest_17 rc u3i u4l u6i u7i o0 o1 o2) (fun k _ => none) k) n
noncomputable def fCv_fewest (v3 : Int32) (o0 : cf_O) (o1 : cf_O) (o2 : cf_O) : Option (Int64) := fCv_fewest_0 (gCv_fewest cfFU) v3 o0 o1 o2
noncomputable def fCu_bestOf_61 (rc : Nat → Int32 → Int64 → Int32 → cf_O → Option (Int64)) (v1 : Int32) (v2 : Int64) (v4 : Int32) (o0 : cf_O) : Option (Int64) :=
  op_k (v4 + 1) (fun x_1 => rc 0 v1 v2 x_1 o0)
noncomputable def fCu_bestOf_11 (rc : Nat → Int32 → Int64 → Int32 → cf_O → Option (Int64)) (v1 : Int32) (v2 : Int64) (v4 : Int32) (o0 : cf_O) : Option (Int64) :=
  Option.bind (fCu_behindLastOf v1 o0) (fun q_1 => (if q_1 ≤ v4 then some v2 else (if v4 < 0 ∨ (o0.1 4).toNatClampNeg ≤ v4.toNatClampNeg then none else op_k (o0.2.2 4 v4.toNatClampNeg) (fun x_6 => op_k (lg_cmp x_6 v2) (fun x_7 => (if (0 : Int32) ≤ x_7 then fCu_bestOf_61 rc v1 v2 v4 o0 else (if v4 < 0 ∨ (o0.1 4).toNatClampNeg ≤ v4.toNatClampNeg then none else op_k (o0.2.2 4 v4.toNatClampNeg) (fun x_10 => Option.bind (fCu_depthOf x_10 o0) (fun q_11 => (if v1 < 0 ∨ 209 ≤ v1.toNatClampNeg then none else op_k (o0.2.1 1 v1.toNatClampNeg) (fun x_15 => (if q_11 = x_15 then (if v4 < 0 ∨ (o0.1 4).toNatClampNeg ≤ v4.toNatClampNeg then none else op_k (o0.2.2 4 v4.toNatClampNeg) (fun x_18 => fCu_bestOf_61 rc v1 x_18 v4 o0)) else fCu_bestOf_61 rc v1 v2 v4 o0))))))))))))
noncomputable def fCu_bestOf_0 (rc : Nat → Int32 → Int64 → Int32 → cf_O → Option (Int64)) (v1 : Int32) (o0 : cf_O) : Option (Int64) :=
  Option.bind (fCu_firstOf v1 o0) (fun q_1 => rc 0 v1 9223372036854775807 q_1 o0)
noncomputable def gCu_bestOf (n : Nat) : Nat → Int32 → Int64 → Int32 → cf_O → Option (Int64) := Nat.rec (motive := fun _ => Nat → Int32 → Int64 → Int32 → cf_O → Option (Int64)) (fun _ _ _ _ _ => none) (fun _ rc => fun k u1i u2l u4i o0 => Nat.rec (motive := fun _ => Option (Int64)) (fCu_bestOf_11 rc u1i u2l u4i o0) (fun k _ => none) k) n
noncomputable def fCu_bestOf (v1 : Int32) (o0 : cf_O) : Option (Int64) := fCu_bestOf_0 (gCu_bestOf cfFU) v1 o0
noncomputable def fCu_nodeAt_0 (v0 : Int64) (v2 : Int32) : Option (Int32) :=
  Option.bind (fCu_sizeOf v0) (fun q_1 => op_k (q_1 - 1) (fun x_4 => op_k (x_4 - v2) (fun x_5 => op_k (8 * x_5) (fun x_6 => op_k ((v0.toUInt64 >>> (x_6.toInt64.toUInt64 &&& Int64.toUInt64 63)).toInt64) (fun x_7 => op_k (x_7 &&& 255) (fun x_8 => op_k (x_8.toInt32) (fun x_9 => some x_9)))))))
noncomputable def fCu_nodeAt (v0 : Int64) (v2 : Int32) : Option (Int32) := fCu_nodeAt_0 v0 v2
noncomputable def fCv_wantNodes_64 (rc : Nat → Int64 → Int32 → Int32 → cf_O → cf_O → Option (cf_O)) (v2 : Int64) (v4 : Int32) (v5 : Int32) (o0 : cf_O) (o1 : cf_O) : Option (cf_O) :=
  op_k (v5 + 1) (fun x_1 => rc 0 v2 v4 x_1 o0 o1)
noncomputable def fCv_wantNodes_63 (rc : Nat → Int64 → Int32 → Int32 → cf_O → cf_O → Option (cf_O)) (v2 : Int64) (v4 : Int32) (v5 : Int32) (s1 : Int32) (s2 : Int32) (o0 : cf_O) (o1 : cf_O) : Option (cf_O) :=
  (if s1 < 0 ∨ 209 ≤ s1.toNatClampNeg then none else op_k (xp o0 6 s1.toNatClampNeg s2) (fun o_2 => fCv_wantNodes_64 rc v2 v4 v5 o_2 o1))
noncomputable def fCv_wantNodes_3 (rc : Nat → Int64 → Int32 → Int32 → cf_O → cf_O → Option (cf_O)) (v2 : Int64) (v4 : Int32) (v5 : Int32) (o0 : cf_O) (o1 : cf_O) : Option (cf_O) :=
  Option.bind (fCu_sizeOf v2) (fun q_1 => (if q_1 ≤ v5 then some o0 else Option.bind (fCu_nodeAt v2 v5) (fun q_5 => Option.bind (fGr_isGate q_5 o1) (fun q_8 => (if q_8 = (0 : Int32) then fCv_wantNodes_64 rc v2 v4 v5 o0 o1 else (if q_5 < 0 ∨ 209 ≤ q_5.toNatClampNeg then none else op_k (o0.2.1 6 q_5.toNatClampNeg) (fun x_13 => (if x_13 = ((-1) : Int32) then fCv_wantNodes_63 rc v2 v4 v5 q_5 v4 o0 o1 else (if q_5 < 0 ∨ 209 ≤ q_5.toNatClampNeg then none else op_k (o0.2.1 6 q_5.toNatClampNeg) (fun x_16 => op_k (op_mn x_16 v4) (fun x_17 => fCv_wantNodes_63 rc v2 v4 v5 q_5 x_17 o0 o1)))))))))))
noncomputable def fCv_wantNodes_0 (rc : Nat → Int64 → Int32 → Int32 → cf_O → cf_O → Option (cf_O)) (v2 : Int64) (v4 : Int32) (o0 : cf_O) (o1 : cf_O) : Option (cf_O) :=
  rc 0 v2 v4 0 o0 o1
noncomputable def gCv_wantNodes (n : Nat) : Nat → Int64 → Int32 → Int32 → cf_O → cf_O → Option (cf_O) := Nat.rec (motive := fun _ => Nat → Int64 → Int32 → Int32 → cf_O → cf_O → Option (cf_O)) (fun _ _ _ _ _ _ => none) (fun _ rc => fun k u2l u4i u5i o0 o1 => Nat.rec (motive := fun _ => Option (cf_O)) (fCv_wantNodes_3 rc u2l u4i u5i o0 o1) (fun k _ => none) k) n
noncomputable def fCv_wantNodes (v2 : Int64) (v4 : Int32) (o0 : cf_O) (o1 : cf_O) : Option (cf_O) := fCv_wantNodes_0 (gCv_wantNodes cfFU) v2 v4 o0 o1
noncomputable def fCv_choose_187 (rc : Nat → Int32 → Int32 → cf_O → cf_O → cf_O → cf_O → Option (cf_O × cf_O)) (v5 : Int32) (o0 : cf_O) (o1 : cf_O) (o2 : cf_O) (o3 : cf_O) : Option (cf_O × cf_O) :=
  op_k (v5 + 1) (fun x_1 => rc 1 0 x_1 o0 o1 o2 o3)
noncomputable def fCv_choose_103 (rc : Nat → Int32 → Int32 → cf_O → cf_O → cf_O → cf_O → Option (cf_O × cf_O)) (v5 : Int32) (o0 : cf_O) (o1 : cf_O) (o2 : cf_O) (o3 : cf_O) : Option (cf_O × cf_O) :=
  Option.bind (fGr_size o1) (fun q_1 => (if q_1 ≤ v5 then some (o0, o3) else (if v5 < 0 ∨ 209 ≤ v5.toNatClampNeg then none else op_k (o0.2.1 6 v5.toNatClampNeg) (fun x_6 => (if x_6 = ((-1) : Int32) then fCv_choose_187 rc v5 o0 o1 o2 o3 else (if v5 < 0 ∨ 209 ≤ v5.toNatClampNeg then none else op_k (o0.2.2 5 v5.toNatClampNeg) (fun x_9 => Option.bind (fCo_find v5 x_9 o3 o1) (fun q_10 => (if (o0.1 0) < 0 ∨ 200 ≤ (o0.1 0).toNatClampNeg then none else op_k (xp o0 2 (o0.1 0).toNatClampNeg v5) (fun o_13 => (if (o_13.1 0) < 0 ∨ 200 ≤ (o_13.1 0).toNatClampNeg then none else op_k (xp o_13 3 (o_13.1 0).toNatClampNeg (q_10.1 1)) (fun o_15 => (if v5 < 0 ∨ 209 ≤ v5.toNatClampNeg then none else op_k (o2.2.1 1 v5.toNatClampNeg) (fun x_17 => (if (o_15.1 0) < 0 ∨ 200 ≤ (o_15.1 0).toNatClampNeg then none else op_k (xp o_15 4 (o_15.1 0).toNatClampNeg x_17) (fun o_19 => op_k ((o_19.1 0) + 1) (fun x_20 => op_k (fp o_19 0 x_20) (fun o_21 => fCv_choose_187 rc v5 o_21 o1 o2 q_10))))))))))))))))))
noncomputable def fCv_choose_84 (rc : Nat → Int32 → Int32 → cf_O → cf_O → cf_O → cf_O → Option (cf_O × cf_O)) (v4 : Int32) (v5 : Int32) (o0 : cf_O) (o1 : cf_O) (o2 : cf_O) (o3 : cf_O) : Option (cf_O × cf_O) :=
  op_k (v5 + (-1)) (fun x_1 => rc 0 v4 x_1 o0 o1 o2 o3)
noncomputable def fCv_choose_62 (rc : Nat → Int32 → Int32 → cf_O → cf_O → cf_O → cf_O → Option (cf_O × cf_O)) (v4 : Int32) (v5 : Int32) (s1 : Int32) (s2 : Int64) (o0 : cf_O) (o1 : cf_O) (o2 : cf_O) (o3 : cf_O) : Option (cf_O × cf_O) :=
  (if s1 < 0 ∨ 209 ≤ s1.toNatClampNeg then none else op_k (yp o0 5 s1.toNatClampNeg s2) (fun o_2 => (if v5 < 0 ∨ 209 ≤ v5.toNatClampNeg then none else op_k (o_2.2.2 5 v5.toNatClampNeg) (fun x_4 => (if v5 < 0 ∨ 209 ≤ v5.toNatClampNeg then none else op_k (o_2.2.1 6 v5.toNatClampNeg) (fun x_6 => op_k (x_6 - 1) (fun x_7 => Option.bind (fCv_wantNodes x_4 x_7 o_2 o1) (fun q_8 => fCv_choose_84 rc v4 v5 q_8 o1 o2 o3))))))))
noncomputable def fCv_choose_14 (rc : Nat → Int32 → Int32 → cf_O → cf_O → cf_O → cf_O → Option (cf_O × cf_O)) (v4 : Int32) (v5 : Int32) (o0 : cf_O) (o1 : cf_O) (o2 : cf_O) (o3 : cf_O) : Option (cf_O × cf_O) :=
  (if v5 ≤ (o1.1 0) then op_k (fp o0 0 0) (fun o_2 => op_k ((o1.1 0) + 1) (fun x_3 => rc 1 0 x_3 o_2 o1 o2 o3)) else (if v5 < 0 ∨ 209 ≤ v5.toNatClampNeg then none else op_k (o0.2.1 6 v5.toNatClampNeg) (fun x_5 => (if x_5 = ((-1) : Int32) then fCv_choose_84 rc v4 v5 o0 o1 o2 o3 else (if v4 = (0 : Int32) then Option.bind (fCu_bestOf v5 o2) (fun q_8 => fCv_choose_62 rc v4 v5 v5 q_8 o0 o1 o2 o3) else Option.bind (fCv_fewest v5 o0 o1 o2) (fun q_11 => fCv_choose_62 rc v4 v5 v5 q_11 o0 o1 o2 o3))))))
noncomputable def fCv_choose_0 (rc : Nat → Int32 → Int32 → cf_O → cf_O → cf_O → cf_O → Option (cf_O × cf_O)) (v4 : Int32) (o0 : cf_O) (o1 : cf_O) (o2 : cf_O) (o3 : cf_O) : Option (cf_O × cf_O) :=
  Option.bind (fCv_wantOutputs o0 o1 o2) (fun q_1 => Option.bind (fGr_size o1) (fun q_3 => op_k (q_3 - 1) (fun x_6 => rc 0 v4 x_6 q_1 o1 o2 o3)))
noncomputable def gCv_choose (n : Nat) : Nat → Int32 → Int32 → cf_O → cf_O → cf_O → cf_O → Option (cf_O × cf_O) := Nat.rec (motive := fun _ => Nat → Int32 → Int32 → cf_O → cf_O → cf_O → cf_O → Option (cf_O × cf_O)) (fun _ _ _ _ _ _ _ => none) (fun _ rc => fun k u4i u5i o0 o1 o2 o3 => Nat.rec (motive := fun _ => Option (cf_O × cf_O)) (fCv_choose_14 rc u4i u5i o0 o1 o2 o3) (fun k _ => Nat.rec (motive := fun _ => Option (cf_O × cf_O)) (fCv_choose_103 rc u5i o0 o1 o2 o3) (fun k _ => none) k) k) n
noncomputable def fCv_choose (v4 : Int32) (o0 : cf_O) (o1 : cf_O) (o2 : cf_O) (o3 : cf_O) : Option (cf_O × cf_O) := fCv_choose_0 (gCv_choose cfFU) v4 o0 o1 o2 o3
noncomputable def fJArraysSupport_newLength_III_21 (v0 : Int32) (v1 : Int32) : Option (Int32) :=
  none
noncomputable def fJArraysSupport_newLength_III_0 (v0 : Int32) (v1 : Int32) (v2 : Int32) : Option (Int32) :=
  op_k (op_mx v1 v2) (fun x_1 => op_k (v0 + x_1) (fun x_2 => (if x_2 ≤ (0 : Int32) then fJArraysSupport_newLength_III_21 v0 v1 else (if (2147483639 : Int32) < x_2 then fJArraysSupport_newLength_III_21 v0 v1 else some x_2))))
noncomputable def fJArraysSupport_newLength_III (v0 : Int32) (v1 : Int32) (v2 : Int32) : Option (Int32) := fJArraysSupport_newLength_III_0 v0 v1 v2
noncomputable def fAS_newCapacity_0 (v1 : Int32) (o0 : cf_O) : Option (Int32) :=
  (if (o0.1 0) < 0 then none else op_k (o0.1 0) (fun x_2 => op_k (v1 <<< ((o0.1 1) &&& 31)) (fun x_3 => op_k (x_3 - x_2) (fun x_4 => op_k ((2 : Int32) <<< ((o0.1 1) &&& 31)) (fun x_5 => op_k (x_2 + x_5) (fun x_6 => Option.bind (fJArraysSupport_newLength_III x_2 x_4 x_6) (fun q_7 => (if q_7 = (2147483647 : Int32) then none else op_k (q_7 >>> ((o0.1 1) &&& 31)) (fun x_11 => some x_11)))))))))
noncomputable def fAS_newCapacity (v1 : Int32) (o0 : cf_O) : Option (Int32) := fAS_newCapacity_0 v1 o0
noncomputable def fAS_ensureCapacityInternal_38 (o0 : cf_O) : Option (cf_O) :=
  some o0
noncomputable def fAS_ensureCapacityInternal_27 (s2 : Int32) (o0 : cf_O) : Option (cf_O) :=
  op_k (s2 <<< ((o0.1 1) &&& 31)) (fun x_1 => (if ((o0.1 0) < 0) ∨ (x_1 < 0) ∨ (x_1.toNatClampNeg < (o0.1 0).toNatClampNeg + 16) ∨ (x_1.toNatClampNeg < 2 * (o0.1 0).toNatClampNeg) ∨ (67108864 < x_1.toNatClampNeg) ∨ (¬ ∀ i, i < (o0.1 0).toNatClampNeg → vp_nar .byte ((o0.2.1 0) i) = (o0.2.1 0) i) then none else op_k (gb o0 0 x_1) (fun o_3 => fAS_ensureCapacityInternal_38 o_3)))
noncomputable def fAS_ensureCapacityInternal_0 (v1 : Int32) (o0 : cf_O) : Option (cf_O) :=
  (if (o0.1 0) < 0 then none else op_k (o0.1 0) (fun x_2 => op_k (x_2 >>> ((o0.1 1) &&& 31)) (fun x_3 => op_k (v1 - x_3) (fun x_4 => (if x_4 ≤ (0 : Int32) then fAS_ensureCapacityInternal_38 o0 else Option.bind (fAS_newCapacity v1 o0) (fun q_6 => fAS_ensureCapacityInternal_27 q_6 o0))))))
noncomputable def fAS_ensureCapacityInternal (v1 : Int32) (o0 : cf_O) : Option (cf_O) := fAS_ensureCapacityInternal_0 v1 o0
noncomputable def fAS_isLatin1_18 (s0 : Int32) (o0 : cf_O) : Option (Int32) :=
  (if ¬ (s0 = 0 ∨ s0 = 1) then none else some s0)
noncomputable def fAS_isLatin1_17 (o0 : cf_O) : Option (Int32) :=
  fAS_isLatin1_18 0 o0
noncomputable def fAS_isLatin1_0 (o0 : cf_O) : Option (Int32) :=
  (if (o0.1 1) = (0 : Int32) then fAS_isLatin1_18 1 o0 else fAS_isLatin1_17 o0)
noncomputable def fAS_isLatin1 (o0 : cf_O) : Option (Int32) := fAS_isLatin1_0 o0
noncomputable def fAS_setLength_76 (v1 : Int32) (o0 : cf_O) : Option (cf_O) :=
  op_k (fp o0 3 v1) (fun o_1 => some o_1)
noncomputable def fAS_setLength_30 (v1 : Int32) (s0 : Int32) (o0 : cf_O) : Option (cf_O) :=
  (if s0 = (0 : Int32) then none else none)
noncomputable def fAS_setLength_18 (v1 : Int32) (o0 : cf_O) : Option (cf_O) :=
  (if v1 ≤ (o0.1 3) then (if (o0.1 3) ≤ v1 then fAS_setLength_76 v1 o0 else op_k (fp o0 2 1) (fun o_3 => fAS_setLength_76 v1 o_3)) else Option.bind (fAS_isLatin1 o0) (fun q_5 => fAS_setLength_30 v1 q_5 o0))
noncomputable def fAS_setLength_0 (v1 : Int32) (o0 : cf_O) : Option (cf_O) :=
  (if (0 : Int32) ≤ v1 then Option.bind (fAS_ensureCapacityInternal v1 o0) (fun q_2 => fAS_setLength_18 v1 q_2) else none)
noncomputable def fAS_setLength (v1 : Int32) (o0 : cf_O) : Option (cf_O) := fAS_setLength_0 v1 o0
noncomputable def fSB_setLength_5 (o0 : cf_O) : Option (cf_O) :=
  some o0
noncomputable def fSB_setLength_0 (v1 : Int32) (o0 : cf_O) : Option (cf_O) :=
  Option.bind (fAS_setLength v1 o0) (fun q_1 => fSB_setLength_5 q_1)
noncomputable def fSB_setLength (v1 : Int32) (o0 : cf_O) : Option (cf_O) := fSB_setLength_0 v1 o0
noncomputable def fJString_coder__S6_14 (s0 : Int32) : Option (Int32) :=
  (if ¬ (vp_nar .byte s0 = s0) then none else some s0)
noncomputable def fJString_coder__S6_0 : Option (Int32) :=
  fJString_coder__S6_14 0
noncomputable def fJString_coder__S6 : Option (Int32) := fJString_coder__S6_0
noncomputable def fJString_length__S6_0 : Option (Int32) :=
  Option.bind (fJString_coder__S6) (fun q_1 => op_k ((7 : Int32) >>> (q_1 &&& 31)) (fun x_4 => some x_4))
noncomputable def fJString_length__S6 : Option (Int32) := fJString_length__S6_0
noncomputable def fAS_inflateIfNeededFor_S6_21 (o0 : cf_O) : Option (Unit) :=
  some ()
noncomputable def fAS_inflateIfNeededFor_S6_0 (o0 : cf_O) : Option (Unit) :=
  Option.bind (fJString_coder__S6) (fun q_2 => (if (o0.1 1) = q_2 then fAS_inflateIfNeededFor_S6_21 o0 else none))
noncomputable def fAS_inflateIfNeededFor_S6 (o0 : cf_O) : Option (Unit) := fAS_inflateIfNeededFor_S6_0 o0
noncomputable def fJString_getBytes_ABIB_S6_SB0_0 (v2 : Int32) (v3 : Int32) (o0 : cf_O) : Option (cf_O) :=
  Option.bind (fJString_coder__S6) (fun q_1 => (if q_1 = v3 then op_k (v2 <<< (v3 &&& 31)) (fun x_5 => (if x_5 < 0 ∨ (o0.1 0).toNatClampNeg < x_5.toNatClampNeg + 7 then none else op_k (cb o0 0 6 x_5 7) (fun o_7 => some o_7))) else none))
noncomputable def fJString_getBytes_ABIB_S6_SB0 (v2 : Int32) (v3 : Int32) (o0 : cf_O) : Option (cf_O) := fJString_getBytes_ABIB_S6_SB0_0 v2 v3 o0
noncomputable def fAS_putStringAt_S6_0 (v1 : Int32) (o0 : cf_O) : Option (cf_O) :=
  Option.bind (fAS_inflateIfNeededFor_S6 o0) (fun q_1 => Option.bind (fJString_getBytes_ABIB_S6_SB0 v1 (o0.1 1) o0) (fun q_3 => some q_3))
noncomputable def fAS_putStringAt_S6 (v1 : Int32) (o0 : cf_O) : Option (cf_O) := fAS_putStringAt_S6_0 v1 o0
noncomputable def fAS_appendS_S6_33 (v2 : Int32) (o0 : cf_O) : Option (cf_O) :=
  op_k ((o0.1 3) + v2) (fun x_1 => op_k (fp o0 3 x_1) (fun o_2 => some o_2))
noncomputable def fAS_appendS_S6_24 (v2 : Int32) (o0 : cf_O) : Option (cf_O) :=
  Option.bind (fAS_putStringAt_S6 (o0.1 3) o0) (fun q_1 => fAS_appendS_S6_33 v2 q_1)
noncomputable def fAS_appendS_S6_13 (s0 : Int32) (o0 : cf_O) : Option (cf_O) :=
  op_k ((o0.1 3) + s0) (fun x_1 => Option.bind (fAS_ensureCapacityInternal x_1 o0) (fun q_2 => fAS_appendS_S6_24 s0 q_2))
noncomputable def fAS_appendS_S6_0 (o0 : cf_O) : Option (cf_O) :=
  Option.bind (fJString_length__S6) (fun q_1 => fAS_appendS_S6_13 q_1 o0)
noncomputable def fAS_appendS_S6 (o0 : cf_O) : Option (cf_O) := fAS_appendS_S6_0 o0
noncomputable def fSB_appendS_S6_5 (o0 : cf_O) : Option (cf_O) :=
  some o0
noncomputable def fSB_appendS_S6_0 (o0 : cf_O) : Option (cf_O) :=
  Option.bind (fAS_appendS_S6 o0) (fun q_1 => fSB_appendS_S6_5 q_1)
noncomputable def fSB_appendS_S6 (o0 : cf_O) : Option (cf_O) := fSB_appendS_S6_0 o0
noncomputable def fJStringLatin1_canEncode_C_12 (s0 : Int32) : Option (Int32) :=
  (if ¬ (s0 = 0 ∨ s0 = 1) then none else some s0)
noncomputable def fJStringLatin1_canEncode_C_0 (v0 : Int32) : Option (Int32) :=
  (if (255 : Int32) < v0 then fJStringLatin1_canEncode_C_12 0 else fJStringLatin1_canEncode_C_12 1)
noncomputable def fJStringLatin1_canEncode_C (v0 : Int32) : Option (Int32) := fJStringLatin1_canEncode_C_0 v0
noncomputable def fAS_appendC_49 (v1 : Int32) (s0 : Int32) (o0 : cf_O) : Option (cf_O) :=
  (if s0 = (0 : Int32) then op_k ((o0.1 3) + 1) (fun x_2 => op_k (fp o0 3 x_2) (fun o_3 => none)) else none)
noncomputable def fAS_appendC_45 (v1 : Int32) (o0 : cf_O) : Option (cf_O) :=
  Option.bind (fAS_isLatin1 o0) (fun q_1 => fAS_appendC_49 v1 q_1 o0)
noncomputable def fAS_appendC_21 (v1 : Int32) (s0 : Int32) (o0 : cf_O) : Option (cf_O) :=
  (if s0 = (0 : Int32) then fAS_appendC_45 v1 o0 else op_k ((o0.1 3) + 1) (fun x_2 => op_k (fp o0 3 x_2) (fun o_3 => op_k (v1.toInt8.toInt32) (fun x_5 => (if (o0.1 3) < 0 ∨ (o_3.1 0).toNatClampNeg ≤ (o0.1 3).toNatClampNeg then none else op_k (xp o_3 0 (o0.1 3).toNatClampNeg (vp_nar .byte x_5)) (fun o_7 => some o_7))))))
noncomputable def fAS_appendC_14 (v1 : Int32) (s0 : Int32) (o0 : cf_O) : Option (cf_O) :=
  (if s0 = (0 : Int32) then fAS_appendC_45 v1 o0 else Option.bind (fJStringLatin1_canEncode_C v1) (fun q_2 => fAS_appendC_21 v1 q_2 o0))
noncomputable def fAS_appendC_10 (v1 : Int32) (o0 : cf_O) : Option (cf_O) :=
  Option.bind (fAS_isLatin1 o0) (fun q_1 => fAS_appendC_14 v1 q_1 o0)
noncomputable def fAS_appendC_0 (v1 : Int32) (o0 : cf_O) : Option (cf_O) :=
  op_k ((o0.1 3) + 1) (fun x_1 => Option.bind (fAS_ensureCapacityInternal x_1 o0) (fun q_2 => fAS_appendC_10 v1 q_2))
noncomputable def fAS_appendC (v1 : Int32) (o0 : cf_O) : Option (cf_O) := fAS_appendC_0 v1 o0
noncomputable def fSB_appendC_5 (o0 : cf_O) : Option (cf_O) :=
  some o0
noncomputable def fSB_appendC_0 (v1 : Int32) (o0 : cf_O) : Option (cf_O) :=
  Option.bind (fAS_appendC v1 o0) (fun q_1 => fSB_appendC_5 q_1)
noncomputable def fSB_appendC (v1 : Int32) (o0 : cf_O) : Option (cf_O) := fSB_appendC_0 v1 o0
noncomputable def fSc_writeName_43 (rc : Nat → Int64 → Int32 → cf_O → cf_O → Option (cf_O)) (v1 : Int64) (v3 : Int32) (o0 : cf_O) (o1 : cf_O) : Option (cf_O) :=
  op_k (v3 + (-8)) (fun x_1 => rc 0 v1 x_1 o0 o1)
noncomputable def fSc_writeName_42 (rc : Nat → Int64 → Int32 → cf_O → cf_O → Option (cf_O)) (v1 : Int64) (v3 : Int32) (o0 : cf_O) (o1 : cf_O) : Option (cf_O) :=
  fSc_writeName_43 rc v1 v3 o0 o1
noncomputable def fSc_writeName_13 (rc : Nat → Int64 → Int32 → cf_O → cf_O → Option (cf_O)) (v1 : Int64) (v3 : Int32) (o0 : cf_O) (o1 : cf_O) : Option (cf_O) :=
  (if v3 < (0 : Int32) then some o1 else op_k ((v1.toUInt64 >>> (v3.toInt64.toUInt64 &&& Int64.toUInt64 63)).toInt64) (fun x_2 => op_k (x_2 &&& 255) (fun x_3 => op_k (x_3.toInt32) (fun x_4 => (if x_4 = (0 : Int32) then fSc_writeName_43 rc v1 v3 o0 o1 else op_k ((x_4.toUInt32 % 65536).toInt32) (fun x_6 => Option.bind (fSB_appendC x_6 o1) (fun q_7 => fSc_writeName_42 rc v1 v3 o0 q_7)))))))
noncomputable def fSc_writeName_9 (rc : Nat → Int64 → Int32 → cf_O → cf_O → Option (cf_O)) (v1 : Int64) (o0 : cf_O) (o1 : cf_O) : Option (cf_O) :=
  rc 0 v1 56 o0 o1
noncomputable def fSc_writeName_0 (rc : Nat → Int64 → Int32 → cf_O → cf_O → Option (cf_O)) (v1 : Int64) (o0 : cf_O) (o1 : cf_O) : Option (cf_O) :=
  Option.bind (fSB_appendC 32 o1) (fun q_1 => fSc_writeName_9 rc v1 o0 q_1)
noncomputable def gSc_writeName (n : Nat) : Nat → Int64 → Int32 → cf_O → cf_O → Option (cf_O) := Nat.rec (motive := fun _ => Nat → Int64 → Int32 → cf_O → cf_O → Option (cf_O)) (fun _ _ _ _ _ => none) (fun _ rc => fun k u1l u3i o0 o1 => Nat.rec (motive := fun _ => Option (cf_O)) (fSc_writeName_13 rc u1l u3i o0 o1) (fun k _ => none) k) n
noncomputable def fSc_writeName (v1 : Int64) (o0 : cf_O) (o1 : cf_O) : Option (cf_O) := fSc_writeName_0 (gSc_writeName cfFU) v1 o0 o1
noncomputable def fJString_coder__S7_14 (s0 : Int32) : Option (Int32) :=
  (if ¬ (vp_nar .byte s0 = s0) then none else some s0)
noncomputable def fJString_coder__S7_0 : Option (Int32) :=
  fJString_coder__S7_14 0
noncomputable def fJString_coder__S7 : Option (Int32) := fJString_coder__S7_0
noncomputable def fJString_length__S7_0 : Option (Int32) :=
  Option.bind (fJString_coder__S7) (fun q_1 => op_k ((9 : Int32) >>> (q_1 &&& 31)) (fun x_4 => some x_4))
noncomputable def fJString_length__S7 : Option (Int32) := fJString_length__S7_0
noncomputable def fAS_inflateIfNeededFor_S7_21 (o0 : cf_O) : Option (Unit) :=
  some ()
noncomputable def fAS_inflateIfNeededFor_S7_0 (o0 : cf_O) : Option (Unit) :=
  Option.bind (fJString_coder__S7) (fun q_2 => (if (o0.1 1) = q_2 then fAS_inflateIfNeededFor_S7_21 o0 else none))
noncomputable def fAS_inflateIfNeededFor_S7 (o0 : cf_O) : Option (Unit) := fAS_inflateIfNeededFor_S7_0 o0
noncomputable def fJString_getBytes_ABIB_S7_SB0_0 (v2 : Int32) (v3 : Int32) (o0 : cf_O) : Option (cf_O) :=
  Option.bind (fJString_coder__S7) (fun q_1 => (if q_1 = v3 then op_k (v2 <<< (v3 &&& 31)) (fun x_5 => (if x_5 < 0 ∨ (o0.1 0).toNatClampNeg < x_5.toNatClampNeg + 9 then none else op_k (cb o0 0 7 x_5 9) (fun o_7 => some o_7))) else none))
noncomputable def fJString_getBytes_ABIB_S7_SB0 (v2 : Int32) (v3 : Int32) (o0 : cf_O) : Option (cf_O) := fJString_getBytes_ABIB_S7_SB0_0 v2 v3 o0
noncomputable def fAS_putStringAt_S7_0 (v1 : Int32) (o0 : cf_O) : Option (cf_O) :=
  Option.bind (fAS_inflateIfNeededFor_S7 o0) (fun q_1 => Option.bind (fJString_getBytes_ABIB_S7_SB0 v1 (o0.1 1) o0) (fun q_3 => some q_3))
noncomputable def fAS_putStringAt_S7 (v1 : Int32) (o0 : cf_O) : Option (cf_O) := fAS_putStringAt_S7_0 v1 o0
noncomputable def fAS_appendS_S7_33 (v2 : Int32) (o0 : cf_O) : Option (cf_O) :=
  op_k ((o0.1 3) + v2) (fun x_1 => op_k (fp o0 3 x_1) (fun o_2 => some o_2))
noncomputable def fAS_appendS_S7_24 (v2 : Int32) (o0 : cf_O) : Option (cf_O) :=
  Option.bind (fAS_putStringAt_S7 (o0.1 3) o0) (fun q_1 => fAS_appendS_S7_33 v2 q_1)
noncomputable def fAS_appendS_S7_13 (s0 : Int32) (o0 : cf_O) : Option (cf_O) :=
  op_k ((o0.1 3) + s0) (fun x_1 => Option.bind (fAS_ensureCapacityInternal x_1 o0) (fun q_2 => fAS_appendS_S7_24 s0 q_2))
noncomputable def fAS_appendS_S7_0 (o0 : cf_O) : Option (cf_O) :=
  Option.bind (fJString_length__S7) (fun q_1 => fAS_appendS_S7_13 q_1 o0)
noncomputable def fAS_appendS_S7 (o0 : cf_O) : Option (cf_O) := fAS_appendS_S7_0 o0
noncomputable def fSB_appendS_S7_5 (o0 : cf_O) : Option (cf_O) :=
  some o0
noncomputable def fSB_appendS_S7_0 (o0 : cf_O) : Option (cf_O) :=
  Option.bind (fAS_appendS_S7 o0) (fun q_1 => fSB_appendS_S7_5 q_1)
noncomputable def fSB_appendS_S7 (o0 : cf_O) : Option (cf_O) := fSB_appendS_S7_0 o0
noncomputable def fSc_writeHead_89 (rc : Nat → Int32 → cf_O → cf_O → cf_O → Option (cf_O)) (o0 : cf_O) (o1 : cf_O) (o2 : cf_O) : Option (cf_O) :=
  some o2
noncomputable def fSc_writeHead_74 (rc : Nat → Int32 → cf_O → cf_O → cf_O → Option (cf_O)) (v2 : Int32) (o0 : cf_O) (o1 : cf_O) (o2 : cf_O) : Option (cf_O) :=
  op_k (v2 + 1) (fun x_1 => rc 1 x_1 o0 o1 o2)
noncomputable def fSc_writeHead_56 (rc : Nat → Int32 → cf_O → cf_O → cf_O → Option (cf_O)) (v2 : Int32) (o0 : cf_O) (o1 : cf_O) (o2 : cf_O) : Option (cf_O) :=
  (if (o1.1 1) ≤ v2 then Option.bind (fSB_appendC 10 o2) (fun q_2 => fSc_writeHead_89 rc o0 o1 q_2) else (if v2 < 0 ∨ 6 ≤ v2.toNatClampNeg then none else op_k (o1.2.2 4 v2.toNatClampNeg) (fun x_8 => Option.bind (fSc_writeName x_8 o0 o2) (fun q_9 => fSc_writeHead_74 rc v2 o0 o1 q_9))))
noncomputable def fSc_writeHead_53 (rc : Nat → Int32 → cf_O → cf_O → cf_O → Option (cf_O)) (o0 : cf_O) (o1 : cf_O) (o2 : cf_O) : Option (cf_O) :=
  rc 1 0 o0 o1 o2
noncomputable def fSc_writeHead_38 (rc : Nat → Int32 → cf_O → cf_O → cf_O → Option (cf_O)) (v2 : Int32) (o0 : cf_O) (o1 : cf_O) (o2 : cf_O) : Option (cf_O) :=
  op_k (v2 + 1) (fun x_1 => rc 0 x_1 o0 o1 o2)
noncomputable def fSc_writeHead_20 (rc : Nat → Int32 → cf_O → cf_O → cf_O → Option (cf_O)) (v2 : Int32) (o0 : cf_O) (o1 : cf_O) (o2 : cf_O) : Option (cf_O) :=
  (if (o1.1 0) ≤ v2 then Option.bind (fSB_appendS_S7 o2) (fun q_2 => fSc_writeHead_53 rc o0 o1 q_2) else (if v2 < 0 ∨ 8 ≤ v2.toNatClampNeg then none else op_k (o1.2.2 3 v2.toNatClampNeg) (fun x_8 => Option.bind (fSc_writeName x_8 o0 o2) (fun q_9 => fSc_writeHead_38 rc v2 o0 o1 q_9))))
noncomputable def fSc_writeHead_17 (rc : Nat → Int32 → cf_O → cf_O → cf_O → Option (cf_O)) (o0 : cf_O) (o1 : cf_O) (o2 : cf_O) : Option (cf_O) :=
  rc 0 0 o0 o1 o2
noncomputable def fSc_writeHead_8 (rc : Nat → Int32 → cf_O → cf_O → cf_O → Option (cf_O)) (o0 : cf_O) (o1 : cf_O) (o2 : cf_O) : Option (cf_O) :=
  Option.bind (fSB_appendS_S6 o2) (fun q_1 => fSc_writeHead_17 rc o0 o1 q_1)
noncomputable def fSc_writeHead_0 (rc : Nat → Int32 → cf_O → cf_O → cf_O → Option (cf_O)) (o0 : cf_O) (o1 : cf_O) (o2 : cf_O) : Option (cf_O) :=
  Option.bind (fSB_setLength 0 o2) (fun q_1 => fSc_writeHead_8 rc o0 o1 q_1)
noncomputable def gSc_writeHead (n : Nat) : Nat → Int32 → cf_O → cf_O → cf_O → Option (cf_O) := Nat.rec (motive := fun _ => Nat → Int32 → cf_O → cf_O → cf_O → Option (cf_O)) (fun _ _ _ _ _ => none) (fun _ rc => fun k u2i o0 o1 o2 => Nat.rec (motive := fun _ => Option (cf_O)) (fSc_writeHead_20 rc u2i o0 o1 o2) (fun k _ => Nat.rec (motive := fun _ => Option (cf_O)) (fSc_writeHead_56 rc u2i o0 o1 o2) (fun k _ => none) k) k) n
noncomputable def fSc_writeHead (o0 : cf_O) (o1 : cf_O) (o2 : cf_O) : Option (cf_O) := fSc_writeHead_0 (gSc_writeHead cfFU) o0 o1 o2
noncomputable def fJString_coder__S8_14 (s0 : Int32) : Option (Int32) :=
  (if ¬ (vp_nar .byte s0 = s0) then none else some s0)
noncomputable def fJString_coder__S8_0 : Option (Int32) :=
  fJString_coder__S8_14 0
noncomputable def fJString_coder__S8 : Option (Int32) := fJString_coder__S8_0
noncomputable def fJString_length__S8_0 : Option (Int32) :=
  Option.bind (fJString_coder__S8) (fun q_1 => op_k ((6 : Int32) >>> (q_1 &&& 31)) (fun x_4 => some x_4))
noncomputable def fJString_length__S8 : Option (Int32) := fJString_length__S8_0
noncomputable def fAS_inflateIfNeededFor_S8_21 (o0 : cf_O) : Option (Unit) :=
  some ()
noncomputable def fAS_inflateIfNeededFor_S8_0 (o0 : cf_O) : Option (Unit) :=
  Option.bind (fJString_coder__S8) (fun q_2 => (if (o0.1 1) = q_2 then fAS_inflateIfNeededFor_S8_21 o0 else none))
noncomputable def fAS_inflateIfNeededFor_S8 (o0 : cf_O) : Option (Unit) := fAS_inflateIfNeededFor_S8_0 o0
noncomputable def fJString_getBytes_ABIB_S8_SB0_0 (v2 : Int32) (v3 : Int32) (o0 : cf_O) : Option (cf_O) :=
  Option.bind (fJString_coder__S8) (fun q_1 => (if q_1 = v3 then op_k (v2 <<< (v3 &&& 31)) (fun x_5 => (if x_5 < 0 ∨ (o0.1 0).toNatClampNeg < x_5.toNatClampNeg + 6 then none else op_k (cb o0 0 8 x_5 6) (fun o_7 => some o_7))) else none))
noncomputable def fJString_getBytes_ABIB_S8_SB0 (v2 : Int32) (v3 : Int32) (o0 : cf_O) : Option (cf_O) := fJString_getBytes_ABIB_S8_SB0_0 v2 v3 o0
noncomputable def fAS_putStringAt_S8_0 (v1 : Int32) (o0 : cf_O) : Option (cf_O) :=
  Option.bind (fAS_inflateIfNeededFor_S8 o0) (fun q_1 => Option.bind (fJString_getBytes_ABIB_S8_SB0 v1 (o0.1 1) o0) (fun q_3 => some q_3))
noncomputable def fAS_putStringAt_S8 (v1 : Int32) (o0 : cf_O) : Option (cf_O) := fAS_putStringAt_S8_0 v1 o0
noncomputable def fAS_appendS_S8_33 (v2 : Int32) (o0 : cf_O) : Option (cf_O) :=
  op_k ((o0.1 3) + v2) (fun x_1 => op_k (fp o0 3 x_1) (fun o_2 => some o_2))
noncomputable def fAS_appendS_S8_24 (v2 : Int32) (o0 : cf_O) : Option (cf_O) :=
  Option.bind (fAS_putStringAt_S8 (o0.1 3) o0) (fun q_1 => fAS_appendS_S8_33 v2 q_1)
noncomputable def fAS_appendS_S8_13 (s0 : Int32) (o0 : cf_O) : Option (cf_O) :=
  op_k ((o0.1 3) + s0) (fun x_1 => Option.bind (fAS_ensureCapacityInternal x_1 o0) (fun q_2 => fAS_appendS_S8_24 s0 q_2))
noncomputable def fAS_appendS_S8_0 (o0 : cf_O) : Option (cf_O) :=
  Option.bind (fJString_length__S8) (fun q_1 => fAS_appendS_S8_13 q_1 o0)
noncomputable def fAS_appendS_S8 (o0 : cf_O) : Option (cf_O) := fAS_appendS_S8_0 o0
noncomputable def fSB_appendS_S8_5 (o0 : cf_O) : Option (cf_O) :=
  some o0
noncomputable def fSB_appendS_S8_0 (o0 : cf_O) : Option (cf_O) :=
  Option.bind (fAS_appendS_S8 o0) (fun q_1 => fSB_appendS_S8_5 q_1)
noncomputable def fSB_appendS_S8 (o0 : cf_O) : Option (cf_O) := fSB_appendS_S8_0 o0
noncomputable def fJString_coder__S10_14 (s0 : Int32) : Option (Int32) :=
  (if ¬ (vp_nar .byte s0 = s0) then none else some s0)
noncomputable def fJString_coder__S10_0 : Option (Int32) :=
  fJString_coder__S10_14 0
noncomputable def fJString_coder__S10 : Option (Int32) := fJString_coder__S10_0
noncomputable def fJString_length__S10_0 : Option (Int32) :=
  Option.bind (fJString_coder__S10) (fun q_1 => op_k ((3 : Int32) >>> (q_1 &&& 31)) (fun x_4 => some x_4))
noncomputable def fJString_length__S10 : Option (Int32) := fJString_length__S10_0
noncomputable def fAS_inflateIfNeededFor_S10_21 (o0 : cf_O) : Option (Unit) :=
  some ()
noncomputable def fAS_inflateIfNeededFor_S10_0 (o0 : cf_O) : Option (Unit) :=
  Option.bind (fJString_coder__S10) (fun q_2 => (if (o0.1 1) = q_2 then fAS_inflateIfNeededFor_S10_21 o0 else none))
noncomputable def fAS_inflateIfNeededFor_S10 (o0 : cf_O) : Option (Unit) := fAS_inflateIfNeededFor_S10_0 o0
noncomputable def fJString_getBytes_ABIB_S10_SB0_0 (v2 : Int32) (v3 : Int32) (o0 : cf_O) : Option (cf_O) :=
  Option.bind (fJString_coder__S10) (fun q_1 => (if q_1 = v3 then op_k (v2 <<< (v3 &&& 31)) (fun x_5 => (if x_5 < 0 ∨ (o0.1 0).toNatClampNeg < x_5.toNatClampNeg + 3 then none else op_k (cb o0 0 10 x_5 3) (fun o_7 => some o_7))) else none))
noncomputable def fJString_getBytes_ABIB_S10_SB0 (v2 : Int32) (v3 : Int32) (o0 : cf_O) : Option (cf_O) := fJString_getBytes_ABIB_S10_SB0_0 v2 v3 o0
noncomputable def fAS_putStringAt_S10_0 (v1 : Int32) (o0 : cf_O) : Option (cf_O) :=
  Option.bind (fAS_inflateIfNeededFor_S10 o0) (fun q_1 => Option.bind (fJString_getBytes_ABIB_S10_SB0 v1 (o0.1 1) o0) (fun q_3 => some q_3))
noncomputable def fAS_putStringAt_S10 (v1 : Int32) (o0 : cf_O) : Option (cf_O) := fAS_putStringAt_S10_0 v1 o0
noncomputable def fAS_appendS_S10_33 (v2 : Int32) (o0 : cf_O) : Option (cf_O) :=
  op_k ((o0.1 3) + v2) (fun x_1 => op_k (fp o0 3 x_1) (fun o_2 => some o_2))
noncomputable def fAS_appendS_S10_24 (v2 : Int32) (o0 : cf_O) : Option (cf_O) :=
  Option.bind (fAS_putStringAt_S10 (o0.1 3) o0) (fun q_1 => fAS_appendS_S10_33 v2 q_1)
noncomputable def fAS_appendS_S10_13 (s0 : Int32) (o0 : cf_O) : Option (cf_O) :=
  op_k ((o0.1 3) + s0) (fun x_1 => Option.bind (fAS_ensureCapacityInternal x_1 o0) (fun q_2 => fAS_appendS_S10_24 s0 q_2))
noncomputable def fAS_appendS_S10_0 (o0 : cf_O) : Option (cf_O) :=
  Option.bind (fJString_length__S10) (fun q_1 => fAS_appendS_S10_13 q_1 o0)
noncomputable def fAS_appendS_S10 (o0 : cf_O) : Option (cf_O) := fAS_appendS_S10_0 o0
noncomputable def fSB_appendS_S10_5 (o0 : cf_O) : Option (cf_O) :=
  some o0
noncomputable def fSB_appendS_S10_0 (o0 : cf_O) : Option (cf_O) :=
  Option.bind (fAS_appendS_S10 o0) (fun q_1 => fSB_appendS_S10_5 q_1)
noncomputable def fSB_appendS_S10 (o0 : cf_O) : Option (cf_O) := fSB_appendS_S10_0 o0
noncomputable def fJString_coder__S9_14 (s0 : Int32) : Option (Int32) :=
  (if ¬ (vp_nar .byte s0 = s0) then none else some s0)
noncomputable def fJString_coder__S9_0 : Option (Int32) :=
  fJString_coder__S9_14 0
noncomputable def fJString_coder__S9 : Option (Int32) := fJString_coder__S9_0
noncomputable def fJString_length__S9_0 : Option (Int32) :=
  Option.bind (fJString_coder__S9) (fun q_1 => op_k ((3 : Int32) >>> (q_1 &&& 31)) (fun x_4 => some x_4))
noncomputable def fJString_length__S9 : Option (Int32) := fJString_length__S9_0
noncomputable def fAS_inflateIfNeededFor_S9_21 (o0 : cf_O) : Option (Unit) :=
  some ()
noncomputable def fAS_inflateIfNeededFor_S9_0 (o0 : cf_O) : Option (Unit) :=
  Option.bind (fJString_coder__S9) (fun q_2 => (if (o0.1 1) = q_2 then fAS_inflateIfNeededFor_S9_21 o0 else none))
noncomputable def fAS_inflateIfNeededFor_S9 (o0 : cf_O) : Option (Unit) := fAS_inflateIfNeededFor_S9_0 o0
noncomputable def fJString_getBytes_ABIB_S9_SB0_0 (v2 : Int32) (v3 : Int32) (o0 : cf_O) : Option (cf_O) :=
  Option.bind (fJString_coder__S9) (fun q_1 => (if q_1 = v3 then op_k (v2 <<< (v3 &&& 31)) (fun x_5 => (if x_5 < 0 ∨ (o0.1 0).toNatClampNeg < x_5.toNatClampNeg + 3 then none else op_k (cb o0 0 9 x_5 3) (fun o_7 => some o_7))) else none))
noncomputable def fJString_getBytes_ABIB_S9_SB0 (v2 : Int32) (v3 : Int32) (o0 : cf_O) : Option (cf_O) := fJString_getBytes_ABIB_S9_SB0_0 v2 v3 o0
noncomputable def fAS_putStringAt_S9_0 (v1 : Int32) (o0 : cf_O) : Option (cf_O) :=
  Option.bind (fAS_inflateIfNeededFor_S9 o0) (fun q_1 => Option.bind (fJString_getBytes_ABIB_S9_SB0 v1 (o0.1 1) o0) (fun q_3 => some q_3))
noncomputable def fAS_putStringAt_S9 (v1 : Int32) (o0 : cf_O) : Option (cf_O) := fAS_putStringAt_S9_0 v1 o0
noncomputable def fAS_appendS_S9_33 (v2 : Int32) (o0 : cf_O) : Option (cf_O) :=
  op_k ((o0.1 3) + v2) (fun x_1 => op_k (fp o0 3 x_1) (fun o_2 => some o_2))
noncomputable def fAS_appendS_S9_24 (v2 : Int32) (o0 : cf_O) : Option (cf_O) :=
  Option.bind (fAS_putStringAt_S9 (o0.1 3) o0) (fun q_1 => fAS_appendS_S9_33 v2 q_1)
noncomputable def fAS_appendS_S9_13 (s0 : Int32) (o0 : cf_O) : Option (cf_O) :=
  op_k ((o0.1 3) + s0) (fun x_1 => Option.bind (fAS_ensureCapacityInternal x_1 o0) (fun q_2 => fAS_appendS_S9_24 s0 q_2))
noncomputable def fAS_appendS_S9_0 (o0 : cf_O) : Option (cf_O) :=
  Option.bind (fJString_length__S9) (fun q_1 => fAS_appendS_S9_13 q_1 o0)
noncomputable def fAS_appendS_S9 (o0 : cf_O) : Option (cf_O) := fAS_appendS_S9_0 o0
noncomputable def fSB_appendS_S9_5 (o0 : cf_O) : Option (cf_O) :=
  some o0
noncomputable def fSB_appendS_S9_0 (o0 : cf_O) : Option (cf_O) :=
  Option.bind (fAS_appendS_S9 o0) (fun q_1 => fSB_appendS_S9_5 q_1)
noncomputable def fSB_appendS_S9 (o0 : cf_O) : Option (cf_O) := fSB_appendS_S9_0 o0
noncomputable def fJInteger_stringSize_I_16 (rc : Nat → Int32 → Int32 → Int32 → Int32 → Option (Int32)) (v0 : Int32) (v1 : Int32) (v2 : Int32) (v3 : Int32) : Option (Int32) :=
  (if (10 : Int32) ≤ v3 then op_k (10 + v1) (fun x_2 => some x_2) else (if v0 ≤ v2 then op_k (10 * v2) (fun x_4 => op_k (v3 + 1) (fun x_5 => rc 0 v0 v1 x_4 x_5)) else op_k (v3 + v1) (fun x_6 => some x_6)))
noncomputable def fJInteger_stringSize_I_11 (rc : Nat → Int32 → Int32 → Int32 → Int32 → Option (Int32)) (v0 : Int32) (v1 : Int32) : Option (Int32) :=
  rc 0 v0 v1 (-10) 1
noncomputable def fJInteger_stringSize_I_0 (rc : Nat → Int32 → Int32 → Int32 → Int32 → Option (Int32)) (v0 : Int32) : Option (Int32) :=
  (if v0 < (0 : Int32) then fJInteger_stringSize_I_11 rc v0 1 else op_k (-v0) (fun x_2 => fJInteger_stringSize_I_11 rc x_2 0))
noncomputable def gJInteger_stringSize_I (n : Nat) : Nat → Int32 → Int32 → Int32 → Int32 → Option (Int32) := Nat.rec (motive := fun _ => Nat → Int32 → Int32 → Int32 → Int32 → Option (Int32)) (fun _ _ _ _ _ => none) (fun _ rc => fun k u0i u1i u2i u3i => Nat.rec (motive := fun _ => Option (Int32)) (fJInteger_stringSize_I_16 rc u0i u1i u2i u3i) (fun k _ => none) k) n
noncomputable def fJInteger_stringSize_I (v0 : Int32) : Option (Int32) := fJInteger_stringSize_I_0 (gJInteger_stringSize_I cfFU) v0
noncomputable def fJInteger_getChars_IIAB_SB0_118 (rc : Nat → Int32 → Int32 → Int32 → cf_O → Option (Int32 × cf_O)) (v5 : Int32) (o0 : cf_O) : Option (Int32 × cf_O) :=
  some (v5, o0)
noncomputable def fJInteger_getChars_IIAB_SB0_104 (rc : Nat → Int32 → Int32 → Int32 → cf_O → Option (Int32 × cf_O)) (v5 : Int32) (v6 : Int32) (o0 : cf_O) : Option (Int32 × cf_O) :=
  (if v6 = (0 : Int32) then fJInteger_getChars_IIAB_SB0_118 rc v5 o0 else op_k (v5 + (-1)) (fun x_2 => (if x_2 < 0 ∨ (o0.1 0).toNatClampNeg ≤ x_2.toNatClampNeg then none else op_k (xp o0 0 x_2.toNatClampNeg (vp_nar .byte 45)) (fun o_4 => fJInteger_getChars_IIAB_SB0_118 rc x_2 o_4))))
noncomputable def fJInteger_getChars_IIAB_SB0_22 (rc : Nat → Int32 → Int32 → Int32 → cf_O → Option (Int32 × cf_O)) (v0 : Int32) (v5 : Int32) (v6 : Int32) (o0 : cf_O) : Option (Int32 × cf_O) :=
  (if ((-100) : Int32) < v0 then op_k (v5 + (-1)) (fun x_2 => op_k (-v0) (fun x_3 => (if x_3 < 0 ∨ 100 ≤ x_3.toNatClampNeg then none else op_k (cf_ones x_3.toNatClampNeg) (fun x_5 => (if x_2 < 0 ∨ (o0.1 0).toNatClampNeg ≤ x_2.toNatClampNeg then none else op_k (xp o0 0 x_2.toNatClampNeg (vp_nar .byte x_5)) (fun o_7 => (if ((-9) : Int32) ≤ v0 then fJInteger_getChars_IIAB_SB0_104 rc x_2 v6 o_7 else op_k (x_2 + (-1)) (fun x_9 => op_k (-v0) (fun x_10 => (if x_10 < 0 ∨ 100 ≤ x_10.toNatClampNeg then none else op_k (cf_tens x_10.toNatClampNeg) (fun x_12 => (if x_9 < 0 ∨ (o_7.1 0).toNatClampNeg ≤ x_9.toNatClampNeg then none else op_k (xp o_7 0 x_9.toNatClampNeg (vp_nar .byte x_12)) (fun o_14 => fJInteger_getChars_IIAB_SB0_104 rc x_9 v6 o_14))))))))))))) else op_k (v0 / 100) (fun x_15 => op_k (x_15 * 100) (fun x_16 => op_k (x_16 - v0) (fun x_17 => op_k (v5 + (-1)) (fun x_18 => (if x_17 < 0 ∨ 100 ≤ x_17.toNatClampNeg then none else op_k (cf_ones x_17.toNatClampNeg) (fun x_20 => (if x_18 < 0 ∨ (o0.1 0).toNatClampNeg ≤ x_18.toNatClampNeg then none else op_k (xp o0 0 x_18.toNatClampNeg (vp_nar .byte x_20)) (fun o_22 => op_k (x_18 + (-1)) (fun x_23 => (if x_17 < 0 ∨ 100 ≤ x_17.toNatClampNeg then none else op_k (cf_tens x_17.toNatClampNeg) (fun x_25 => (if x_23 < 0 ∨ (o_22.1 0).toNatClampNeg ≤ x_23.toNatClampNeg then none else op_k (xp o_22 0 x_23.toNatClampNeg (vp_nar .byte x_25)) (fun o_27 => rc 0 x_15 x_23 v6 o_27))))))))))))))
noncomputable def fJInteger_getChars_IIAB_SB0_12 (rc : Nat → Int32 → Int32 → Int32 → cf_O → Option (Int32 × cf_O)) (v0 : Int32) (v5 : Int32) (s0 : Int32) (o0 : cf_O) : Option (Int32 × cf_O) :=
  (if s0 = (0 : Int32) then op_k (-v0) (fun x_2 => rc 0 x_2 v5 s0 o0) else rc 0 v0 v5 s0 o0)
noncomputable def fJInteger_getChars_IIAB_SB0_0 (rc : Nat → Int32 → Int32 → Int32 → cf_O → Option (Int32 × cf_O)) (v0 : Int32) (v1 : Int32) (o0 : cf_O) : Option (Int32 × cf_O) :=
  (if (0 : Int32) ≤ v0 then fJInteger_getChars_IIAB_SB0_12 rc v0 v1 0 o0 else fJInteger_getChars_IIAB_SB0_12 rc v0 v1 1 o0)
noncomputable def gJInteger_getChars_IIAB_SB0 (n : Nat) : Nat → Int32 → Int32 → Int32 → cf_O → Option (Int32 × cf_O) := Nat.rec (motive := fun _ => Nat → Int32 → Int32 → Int32 → cf_O → Option (Int32 × cf_O)) (fun _ _ _ _ _ => none) (fun _ rc => fun k u0i u5i u6i o0 => Nat.rec (motive := fun _ => Option (Int32 × cf_O)) (fJInteger_getChars_IIAB_SB0_22 rc u0i u5i u6i o0) (fun k _ => none) k) n
noncomputable def fJInteger_getChars_IIAB_SB0 (v0 : Int32) (v1 : Int32) (o0 : cf_O) : Option (Int32 × cf_O) := fJInteger_getChars_IIAB_SB0_0 (gJInteger_getChars_IIAB_SB0 cfFU) v0 v1 o0
noncomputable def fAS_appendI_33 (v3 : Int32) (s0 : Int32) (o0 : cf_O) : Option (cf_O) :=
  op_k (fp o0 3 v3) (fun o_1 => some o_1)
noncomputable def fAS_appendI_21 (v1 : Int32) (v2 : Int32) (v3 : Int32) (s0 : Int32) (o0 : cf_O) : Option (cf_O) :=
  (if s0 = (0 : Int32) then none else Option.bind (fJInteger_getChars_IIAB_SB0 v1 v3 o0) (fun q_2 => fAS_appendI_33 v3 q_2.1 q_2.2))
noncomputable def fAS_appendI_17 (v1 : Int32) (v2 : Int32) (v3 : Int32) (o0 : cf_O) : Option (cf_O) :=
  Option.bind (fAS_isLatin1 o0) (fun q_1 => fAS_appendI_21 v1 v2 v3 q_1 o0)
noncomputable def fAS_appendI_10 (v1 : Int32) (v2 : Int32) (s0 : Int32) (s1 : Int32) (o0 : cf_O) : Option (cf_O) :=
  op_k (s0 + s1) (fun x_1 => Option.bind (fAS_ensureCapacityInternal x_1 o0) (fun q_2 => fAS_appendI_17 v1 v2 x_1 q_2))
noncomputable def fAS_appendI_0 (v1 : Int32) (o0 : cf_O) : Option (cf_O) :=
  Option.bind (fJInteger_stringSize_I v1) (fun q_1 => fAS_appendI_10 v1 (o0.1 3) (o0.1 3) q_1 o0)
noncomputable def fAS_appendI (v1 : Int32) (o0 : cf_O) : Option (cf_O) := fAS_appendI_0 v1 o0
noncomputable def fSB_appendI_5 (o0 : cf_O) : Option (cf_O) :=
  some o0
noncomputable def fSB_appendI_0 (v1 : Int32) (o0 : cf_O) : Option (cf_O) :=
  Option.bind (fAS_appendI v1 o0) (fun q_1 => fSB_appendI_5 q_1)
noncomputable def fSB_appendI (v1 : Int32) (o0 : cf_O) : Option (cf_O) := fSB_appendI_0 v1 o0
noncomputable def fSc_writeLiteral_65 (o0 : cf_O) (o1 : cf_O) (o2 : cf_O) : Option (cf_O) :=
  some o2
noncomputable def fSc_writeLiteral_56 (v3 : Int32) (o0 : cf_O) (o1 : cf_O) (o2 : cf_O) : Option (cf_O) :=
  Option.bind (fSB_appendI v3 o2) (fun q_1 => fSc_writeLiteral_65 o0 o1 q_1)
noncomputable def fSc_writeLiteral_36 (v2 : Int32) (v3 : Int32) (o0 : cf_O) (o1 : cf_O) (o2 : cf_O) : Option (cf_O) :=
  op_k (v2 &&& 1) (fun x_1 => (if x_1 = (0 : Int32) then Option.bind (fSB_appendS_S9 o2) (fun q_8 => fSc_writeLiteral_56 v3 o0 o1 q_8) else Option.bind (fSB_appendS_S10 o2) (fun q_3 => fSc_writeLiteral_56 v3 o0 o1 q_3)))
noncomputable def fSc_writeLiteral_35 (o0 : cf_O) (o1 : cf_O) (o2 : cf_O) : Option (cf_O) :=
  some o2
noncomputable def fSc_writeLiteral_0 (v2 : Int32) (o0 : cf_O) (o1 : cf_O) (o2 : cf_O) : Option (cf_O) :=
  op_k (v2 >>> ((1 : Int32) &&& 31)) (fun x_1 => op_k (v2 &&& 1) (fun x_2 => (if x_2 = (0 : Int32) then (if x_1 < (1 : Int32) then fSc_writeLiteral_36 v2 x_1 o0 o1 o2 else (if (o1.1 0) < x_1 then fSc_writeLiteral_36 v2 x_1 o0 o1 o2 else op_k (x_1 - 1) (fun x_6 => (if x_6 < 0 ∨ 8 ≤ x_6.toNatClampNeg then none else op_k (o1.2.2 3 x_6.toNatClampNeg) (fun x_8 => Option.bind (fSc_writeName x_8 o0 o2) (fun q_9 => fSc_writeLiteral_35 o0 o1 q_9)))))) else fSc_writeLiteral_36 v2 x_1 o0 o1 o2)))
noncomputable def fSc_writeLiteral (v2 : Int32) (o0 : cf_O) (o1 : cf_O) (o2 : cf_O) : Option (cf_O) := fSc_writeLiteral_0 v2 o0 o1 o2
noncomputable def fSc_writeNode_8 (o0 : cf_O) (o1 : cf_O) (o2 : cf_O) : Option (cf_O) :=
  some o2
noncomputable def fSc_writeNode_0 (v2 : Int32) (o0 : cf_O) (o1 : cf_O) (o2 : cf_O) : Option (cf_O) :=
  op_k (2 * v2) (fun x_1 => Option.bind (fSc_writeLiteral x_1 o0 o1 o2) (fun q_2 => fSc_writeNode_8 o0 o1 q_2))
noncomputable def fSc_writeNode (v2 : Int32) (o0 : cf_O) (o1 : cf_O) (o2 : cf_O) : Option (cf_O) := fSc_writeNode_0 v2 o0 o1 o2
noncomputable def fJString_coder__S11_14 (s0 : Int32) : Option (Int32) :=
  (if ¬ (vp_nar .byte s0 = s0) then none else some s0)
noncomputable def fJString_coder__S11_0 : Option (Int32) :=
  fJString_coder__S11_14 0
noncomputable def fJString_coder__S11 : Option (Int32) := fJString_coder__S11_0
noncomputable def fJString_length__S11_0 : Option (Int32) :=
  Option.bind (fJString_coder__S11) (fun q_1 => op_k ((3 : Int32) >>> (q_1 &&& 31)) (fun x_4 => some x_4))
noncomputable def fJString_length__S11 : Option (Int32) := fJString_length__S11_0
noncomputable def fAS_inflateIfNeededFor_S11_21 (o0 : cf_O) : Option (Unit) :=
  some ()
noncomputable def fAS_inflateIfNeededFor_S11_0 (o0 : cf_O) : Option (Unit) :=
  Option.bind (fJString_coder__S11) (fun q_2 => (if (o0.1 1) = q_2 then fAS_inflateIfNeededFor_S11_21 o0 else none))
noncomputable def fAS_inflateIfNeededFor_S11 (o0 : cf_O) : Option (Unit) := fAS_inflateIfNeededFor_S11_0 o0
noncomputable def fJString_getBytes_ABIB_S11_SB0_0 (v2 : Int32) (v3 : Int32) (o0 : cf_O) : Option (cf_O) :=
  Option.bind (fJString_coder__S11) (fun q_1 => (if q_1 = v3 then op_k (v2 <<< (v3 &&& 31)) (fun x_5 => (if x_5 < 0 ∨ (o0.1 0).toNatClampNeg < x_5.toNatClampNeg + 3 then none else op_k (cb o0 0 11 x_5 3) (fun o_7 => some o_7))) else none))
noncomputable def fJString_getBytes_ABIB_S11_SB0 (v2 : Int32) (v3 : Int32) (o0 : cf_O) : Option (cf_O) := fJString_getBytes_ABIB_S11_SB0_0 v2 v3 o0
noncomputable def fAS_putStringAt_S11_0 (v1 : Int32) (o0 : cf_O) : Option (cf_O) :=
  Option.bind (fAS_inflateIfNeededFor_S11 o0) (fun q_1 => Option.bind (fJString_getBytes_ABIB_S11_SB0 v1 (o0.1 1) o0) (fun q_3 => some q_3))
noncomputable def fAS_putStringAt_S11 (v1 : Int32) (o0 : cf_O) : Option (cf_O) := fAS_putStringAt_S11_0 v1 o0
noncomputable def fAS_appendS_S11_33 (v2 : Int32) (o0 : cf_O) : Option (cf_O) :=
  op_k ((o0.1 3) + v2) (fun x_1 => op_k (fp o0 3 x_1) (fun o_2 => some o_2))
noncomputable def fAS_appendS_S11_24 (v2 : Int32) (o0 : cf_O) : Option (cf_O) :=
  Option.bind (fAS_putStringAt_S11 (o0.1 3) o0) (fun q_1 => fAS_appendS_S11_33 v2 q_1)
noncomputable def fAS_appendS_S11_13 (s0 : Int32) (o0 : cf_O) : Option (cf_O) :=
  op_k ((o0.1 3) + s0) (fun x_1 => Option.bind (fAS_ensureCapacityInternal x_1 o0) (fun q_2 => fAS_appendS_S11_24 s0 q_2))
noncomputable def fAS_appendS_S11_0 (o0 : cf_O) : Option (cf_O) :=
  Option.bind (fJString_length__S11) (fun q_1 => fAS_appendS_S11_13 q_1 o0)
noncomputable def fAS_appendS_S11 (o0 : cf_O) : Option (cf_O) := fAS_appendS_S11_0 o0
noncomputable def fSB_appendS_S11_5 (o0 : cf_O) : Option (cf_O) :=
  some o0
noncomputable def fSB_appendS_S11_0 (o0 : cf_O) : Option (cf_O) :=
  Option.bind (fAS_appendS_S11 o0) (fun q_1 => fSB_appendS_S11_5 q_1)
noncomputable def fSB_appendS_S11 (o0 : cf_O) : Option (cf_O) := fSB_appendS_S11_0 o0
noncomputable def fCv_writeRows_69 (rc : Nat → Int32 → Int32 → Int32 → Int32 → cf_O → cf_O → Option (cf_O)) (v1 : Int32) (v2 : Int32) (v3 : Int32) (o0 : cf_O) (o1 : cf_O) : Option (cf_O) :=
  op_k (v3 + 1) (fun x_1 => rc 0 v1 v2 x_1 0 o0 o1)
noncomputable def fCv_writeRows_68 (rc : Nat → Int32 → Int32 → Int32 → Int32 → cf_O → cf_O → Option (cf_O)) (v1 : Int32) (v2 : Int32) (v3 : Int32) (o0 : cf_O) (o1 : cf_O) : Option (cf_O) :=
  fCv_writeRows_69 rc v1 v2 v3 o0 o1
noncomputable def fCv_writeRows_52 (rc : Nat → Int32 → Int32 → Int32 → Int32 → cf_O → cf_O → Option (cf_O)) (v1 : Int32) (v2 : Int32) (v3 : Int32) (v4 : Int32) (o0 : cf_O) (o1 : cf_O) : Option (cf_O) :=
  op_k (v4 + 1) (fun x_1 => rc 1 v1 v2 v3 x_1 o0 o1)
noncomputable def fCv_writeRows_49 (rc : Nat → Int32 → Int32 → Int32 → Int32 → cf_O → cf_O → Option (cf_O)) (v1 : Int32) (v2 : Int32) (v3 : Int32) (v4 : Int32) (s1 : Int32) (o0 : cf_O) (o1 : cf_O) : Option (cf_O) :=
  Option.bind (fSB_appendC s1 o1) (fun q_1 => fCv_writeRows_52 rc v1 v2 v3 v4 o0 q_1)
noncomputable def fCv_writeRows_23 (rc : Nat → Int32 → Int32 → Int32 → Int32 → cf_O → cf_O → Option (cf_O)) (v1 : Int32) (v2 : Int32) (v3 : Int32) (v4 : Int32) (o0 : cf_O) (o1 : cf_O) : Option (cf_O) :=
  (if v2 ≤ v4 then Option.bind (fSB_appendS_S11 o1) (fun q_2 => fCv_writeRows_68 rc v1 v2 v3 o0 q_2) else op_k (v3 >>> (v4 &&& 31)) (fun x_7 => op_k (x_7 &&& 1) (fun x_8 => (if x_8 = (0 : Int32) then fCv_writeRows_49 rc v1 v2 v3 v4 48 o0 o1 else fCv_writeRows_49 rc v1 v2 v3 v4 49 o0 o1))))
noncomputable def fCv_writeRows_2 (rc : Nat → Int32 → Int32 → Int32 → Int32 → cf_O → cf_O → Option (cf_O)) (v1 : Int32) (v2 : Int32) (v3 : Int32) (o0 : cf_O) (o1 : cf_O) : Option (cf_O) :=
  op_k ((1 : Int32) <<< (v2 &&& 31)) (fun x_1 => (if x_1 ≤ v3 then some o1 else op_k ((v1.toUInt32 >>> (v3.toUInt32 &&& Int32.toUInt32 31)).toInt32) (fun x_3 => op_k (x_3 &&& 1) (fun x_4 => (if x_4 = (0 : Int32) then fCv_writeRows_69 rc v1 v2 v3 o0 o1 else rc 1 v1 v2 v3 0 o0 o1)))))
noncomputable def fCv_writeRows_0 (rc : Nat → Int32 → Int32 → Int32 → Int32 → cf_O → cf_O → Option (cf_O)) (v1 : Int32) (v2 : Int32) (o0 : cf_O) (o1 : cf_O) : Option (cf_O) :=
  rc 0 v1 v2 0 0 o0 o1
noncomputable def gCv_writeRows (n : Nat) : Nat → Int32 → Int32 → Int32 → Int32 → cf_O → cf_O → Option (cf_O) := Nat.rec (motive := fun _ => Nat → Int32 → Int32 → Int32 → Int32 → cf_O → cf_O → Option (cf_O)) (fun _ _ _ _ _ _ _ => none) (fun _ rc => fun k u1i u2i u3i u4i o0 o1 => Nat.rec (motive := fun _ => Option (cf_O)) (fCv_writeRows_2 rc u1i u2i u3i o0 o1) (fun k _ => Nat.rec (motive := fun _ => Option (cf_O)) (fCv_writeRows_23 rc u1i u2i u3i u4i o0 o1) (fun k _ => none) k) k) n
noncomputable def fCv_writeRows (v1 : Int32) (v2 : Int32) (o0 : cf_O) (o1 : cf_O) : Option (cf_O) := fCv_writeRows_0 (gCv_writeRows cfFU) v1 v2 o0 o1
noncomputable def fJString_coder__S12_14 (s0 : Int32) : Option (Int32) :=
  (if ¬ (vp_nar .byte s0 = s0) then none else some s0)
noncomputable def fJString_coder__S12_0 : Option (Int32) :=
  fJString_coder__S12_14 0
noncomputable def fJString_coder__S12 : Option (Int32) := fJString_coder__S12_0
noncomputable def fJString_length__S12_0 : Option (Int32) :=
  Option.bind (fJString_coder__S12) (fun q_1 => op_k ((6 : Int32) >>> (q_1 &&& 31)) (fun x_4 => some x_4))
noncomputable def fJString_length__S12 : Option (Int32) := fJString_length__S12_0
noncomputable def fAS_inflateIfNeededFor_S12_21 (o0 : cf_O) : Option (Unit) :=
  some ()
noncomputable def fAS_inflateIfNeededFor_S12_0 (o0 : cf_O) : Option (Unit) :=
  Option.bind (fJString_coder__S12) (fun q_2 => (if (o0.1 1) = q_2 then fAS_inflateIfNeededFor_S12_21 o0 else none))
noncomputable def fAS_inflateIfNeededFor_S12 (o0 : cf_O) : Option (Unit) := fAS_inflateIfNeededFor_S12_0 o0
noncomputable def fJString_getBytes_ABIB_S12_SB0_0 (v2 : Int32) (v3 : Int32) (o0 : cf_O) : Option (cf_O) :=
  Option.bind (fJString_coder__S12) (fun q_1 => (if q_1 = v3 then op_k (v2 <<< (v3 &&& 31)) (fun x_5 => (if x_5 < 0 ∨ (o0.1 0).toNatClampNeg < x_5.toNatClampNeg + 6 then none else op_k (cb o0 0 12 x_5 6) (fun o_7 => some o_7))) else none))
noncomputable def fJString_getBytes_ABIB_S12_SB0 (v2 : Int32) (v3 : Int32) (o0 : cf_O) : Option (cf_O) := fJString_getBytes_ABIB_S12_SB0_0 v2 v3 o0
noncomputable def fAS_putStringAt_S12_0 (v1 : Int32) (o0 : cf_O) : Option (cf_O) :=
  Option.bind (fAS_inflateIfNeededFor_S12 o0) (fun q_1 => Option.bind (fJString_getBytes_ABIB_S12_SB0 v1 (o0.1 1) o0) (fun q_3 => some q_3))
noncomputable def fAS_putStringAt_S12 (v1 : Int32) (o0 : cf_O) : Option (cf_O) := fAS_putStringAt_S12_0 v1 o0
noncomputable def fAS_appendS_S12_33 (v2 : Int32) (o0 : cf_O) : Option (cf_O) :=
  op_k ((o0.1 3) + v2) (fun x_1 => op_k (fp o0 3 x_1) (fun o_2 => some o_2))
noncomputable def fAS_appendS_S12_24 (v2 : Int32) (o0 : cf_O) : Option (cf_O) :=
  Option.bind (fAS_putStringAt_S12 (o0.1 3) o0) (fun q_1 => fAS_appendS_S12_33 v2 q_1)
noncomputable def fAS_appendS_S12_13 (s0 : Int32) (o0 : cf_O) : Option (cf_O) :=
  op_k ((o0.1 3) + s0) (fun x_1 => Option.bind (fAS_ensureCapacityInternal x_1 o0) (fun q_2 => fAS_appendS_S12_24 s0 q_2))
noncomputable def fAS_appendS_S12_0 (o0 : cf_O) : Option (cf_O) :=
  Option.bind (fJString_length__S12) (fun q_1 => fAS_appendS_S12_13 q_1 o0)
noncomputable def fAS_appendS_S12 (o0 : cf_O) : Option (cf_O) := fAS_appendS_S12_0 o0
noncomputable def fSB_appendS_S12_5 (o0 : cf_O) : Option (cf_O) :=
  some o0
noncomputable def fSB_appendS_S12_0 (o0 : cf_O) : Option (cf_O) :=
  Option.bind (fAS_appendS_S12 o0) (fun q_1 => fSB_appendS_S12_5 q_1)
noncomputable def fSB_appendS_S12 (o0 : cf_O) : Option (cf_O) := fSB_appendS_S12_0 o0
noncomputable def fJString_coder__S14_14 (s0 : Int32) : Option (Int32) :=
  (if ¬ (vp_nar .byte s0 = s0) then none else some s0)
noncomputable def fJString_coder__S14_0 : Option (Int32) :=
  fJString_coder__S14_14 0
noncomputable def fJString_coder__S14 : Option (Int32) := fJString_coder__S14_0
noncomputable def fJString_length__S14_0 : Option (Int32) :=
  Option.bind (fJString_coder__S14) (fun q_1 => op_k ((4 : Int32) >>> (q_1 &&& 31)) (fun x_4 => some x_4))
noncomputable def fJString_length__S14 : Option (Int32) := fJString_length__S14_0
noncomputable def fAS_inflateIfNeededFor_S14_21 (o0 : cf_O) : Option (Unit) :=
  some ()
noncomputable def fAS_inflateIfNeededFor_S14_0 (o0 : cf_O) : Option (Unit) :=
  Option.bind (fJString_coder__S14) (fun q_2 => (if (o0.1 1) = q_2 then fAS_inflateIfNeededFor_S14_21 o0 else none))
noncomputable def fAS_inflateIfNeededFor_S14 (o0 : cf_O) : Option (Unit) := fAS_inflateIfNeededFor_S14_0 o0
noncomputable def fJString_getBytes_ABIB_S14_SB0_0 (v2 : Int32) (v3 : Int32) (o0 : cf_O) : Option (cf_O) :=
  Option.bind (fJString_coder__S14) (fun q_1 => (if q_1 = v3 then op_k (v2 <<< (v3 &&& 31)) (fun x_5 => (if x_5 < 0 ∨ (o0.1 0).toNatClampNeg < x_5.toNatClampNeg + 4 then none else op_k (cb o0 0 14 x_5 4) (fun o_7 => some o_7))) else none))
noncomputable def fJString_getBytes_ABIB_S14_SB0 (v2 : Int32) (v3 : Int32) (o0 : cf_O) : Option (cf_O) := fJString_getBytes_ABIB_S14_SB0_0 v2 v3 o0
noncomputable def fAS_putStringAt_S14_0 (v1 : Int32) (o0 : cf_O) : Option (cf_O) :=
  Option.bind (fAS_inflateIfNeededFor_S14 o0) (fun q_1 => Option.bind (fJString_getBytes_ABIB_S14_SB0 v1 (o0.1 1) o0) (fun q_3 => some q_3))
noncomputable def fAS_putStringAt_S14 (v1 : Int32) (o0 : cf_O) : Option (cf_O) := fAS_putStringAt_S14_0 v1 o0
noncomputable def fAS_appendS_S14_33 (v2 : Int32) (o0 : cf_O) : Option (cf_O) :=
  op_k ((o0.1 3) + v2) (fun x_1 => op_k (fp o0 3 x_1) (fun o_2 => some o_2))
noncomputable def fAS_appendS_S14_24 (v2 : Int32) (o0 : cf_O) : Option (cf_O) :=
  Option.bind (fAS_putStringAt_S14 (o0.1 3) o0) (fun q_1 => fAS_appendS_S14_33 v2 q_1)
noncomputable def fAS_appendS_S14_13 (s0 : Int32) (o0 : cf_O) : Option (cf_O) :=
  op_k ((o0.1 3) + s0) (fun x_1 => Option.bind (fAS_ensureCapacityInternal x_1 o0) (fun q_2 => fAS_appendS_S14_24 s0 q_2))
noncomputable def fAS_appendS_S14_0 (o0 : cf_O) : Option (cf_O) :=
  Option.bind (fJString_length__S14) (fun q_1 => fAS_appendS_S14_13 q_1 o0)
noncomputable def fAS_appendS_S14 (o0 : cf_O) : Option (cf_O) := fAS_appendS_S14_0 o0
noncomputable def fSB_appendS_S14_5 (o0 : cf_O) : Option (cf_O) :=
  some o0
noncomputable def fSB_appendS_S14_0 (o0 : cf_O) : Option (cf_O) :=
  Option.bind (fAS_appendS_S14 o0) (fun q_1 => fSB_appendS_S14_5 q_1)
noncomputable def fSB_appendS_S14 (o0 : cf_O) : Option (cf_O) := fSB_appendS_S14_0 o0
noncomputable def fJString_coder__S13_14 (s0 : Int32) : Option (Int32) :=
  (if ¬ (vp_nar .byte s0 = s0) then none else some s0)
noncomputable def fJString_coder__S13_0 : Option (Int32) :=
  fJString_coder__S13_14 0
noncomputable def fJString_coder__S13 : Option (Int32) := fJString_coder__S13_0
noncomputable def fJString_length__S13_0 : Option (Int32) :=
  Option.bind (fJString_coder__S13) (fun q_1 => op_k ((4 : Int32) >>> (q_1 &&& 31)) (fun x_4 => some x_4))
noncomputable def fJString_length__S13 : Option (Int32) := fJString_length__S13_0
noncomputable def fAS_inflateIfNeededFor_S13_21 (o0 : cf_O) : Option (Unit) :=
  some ()
noncomputable def fAS_inflateIfNeededFor_S13_0 (o0 : cf_O) : Option (Unit) :=
  Option.bind (fJString_coder__S13) (fun q_2 => (if (o0.1 1) = q_2 then fAS_inflateIfNeededFor_S13_21 o0 else none))
noncomputable def fAS_inflateIfNeededFor_S13 (o0 : cf_O) : Option (Unit) := fAS_inflateIfNeededFor_S13_0 o0
noncomputable def fJString_getBytes_ABIB_S13_SB0_0 (v2 : Int32) (v3 : Int32) (o0 : cf_O) : Option (cf_O) :=
  Option.bind (fJString_coder__S13) (fun q_1 => (if q_1 = v3 then op_k (v2 <<< (v3 &&& 31)) (fun x_5 => (if x_5 < 0 ∨ (o0.1 0).toNatClampNeg < x_5.toNatClampNeg + 4 then none else op_k (cb o0 0 13 x_5 4) (fun o_7 => some o_7))) else none))
noncomputable def fJString_getBytes_ABIB_S13_SB0 (v2 : Int32) (v3 : Int32) (o0 : cf_O) : Option (cf_O) := fJString_getBytes_ABIB_S13_SB0_0 v2 v3 o0
noncomputable def fAS_putStringAt_S13_0 (v1 : Int32) (o0 : cf_O) : Option (cf_O) :=
  Option.bind (fAS_inflateIfNeededFor_S13 o0) (fun q_1 => Option.bind (fJString_getBytes_ABIB_S13_SB0 v1 (o0.1 1) o0) (fun q_3 => some q_3))
noncomputable def fAS_putStringAt_S13 (v1 : Int32) (o0 : cf_O) : Option (cf_O) := fAS_putStringAt_S13_0 v1 o0
noncomputable def fAS_appendS_S13_33 (v2 : Int32) (o0 : cf_O) : Option (cf_O) :=
  op_k ((o0.1 3) + v2) (fun x_1 => op_k (fp o0 3 x_1) (fun o_2 => some o_2))
noncomputable def fAS_appendS_S13_24 (v2 : Int32) (o0 : cf_O) : Option (cf_O) :=
  Option.bind (fAS_putStringAt_S13 (o0.1 3) o0) (fun q_1 => fAS_appendS_S13_33 v2 q_1)
noncomputable def fAS_appendS_S13_13 (s0 : Int32) (o0 : cf_O) : Option (cf_O) :=
  op_k ((o0.1 3) + s0) (fun x_1 => Option.bind (fAS_ensureCapacityInternal x_1 o0) (fun q_2 => fAS_appendS_S13_24 s0 q_2))
noncomputable def fAS_appendS_S13_0 (o0 : cf_O) : Option (cf_O) :=
  Option.bind (fJString_length__S13) (fun q_1 => fAS_appendS_S13_13 q_1 o0)
noncomputable def fAS_appendS_S13 (o0 : cf_O) : Option (cf_O) := fAS_appendS_S13_0 o0
noncomputable def fSB_appendS_S13_5 (o0 : cf_O) : Option (cf_O) :=
  some o0
noncomputable def fSB_appendS_S13_0 (o0 : cf_O) : Option (cf_O) :=
  Option.bind (fAS_appendS_S13 o0) (fun q_1 => fSB_appendS_S13_5 q_1)
noncomputable def fSB_appendS_S13 (o0 : cf_O) : Option (cf_O) := fSB_appendS_S13_0 o0
noncomputable def fJString_coder__S15_14 (s0 : Int32) : Option (Int32) :=
  (if ¬ (vp_nar .byte s0 = s0) then none else some s0)
noncomputable def fJString_coder__S15_0 : Option (Int32) :=
  fJString_coder__S15_14 0
noncomputable def fJString_coder__S15 : Option (Int32) := fJString_coder__S15_0
noncomputable def fJString_length__S15_0 : Option (Int32) :=
  Option.bind (fJString_coder__S15) (fun q_1 => op_k ((2 : Int32) >>> (q_1 &&& 31)) (fun x_4 => some x_4))
noncomputable def fJString_length__S15 : Option (Int32) := fJString_length__S15_0
noncomputable def fAS_inflateIfNeededFor_S15_21 (o0 : cf_O) : Option (Unit) :=
  some ()
noncomputable def fAS_inflateIfNeededFor_S15_0 (o0 : cf_O) : Option (Unit) :=
  Option.bind (fJString_coder__S15) (fun q_2 => (if (o0.1 1) = q_2 then fAS_inflateIfNeededFor_S15_21 o0 else none))
noncomputable def fAS_inflateIfNeededFor_S15 (o0 : cf_O) : Option (Unit) := fAS_inflateIfNeededFor_S15_0 o0
noncomputable def fJString_getBytes_ABIB_S15_SB0_0 (v2 : Int32) (v3 : Int32) (o0 : cf_O) : Option (cf_O) :=
  Option.bind (fJString_coder__S15) (fun q_1 => (if q_1 = v3 then op_k (v2 <<< (v3 &&& 31)) (fun x_5 => (if x_5 < 0 ∨ (o0.1 0).toNatClampNeg < x_5.toNatClampNeg + 2 then none else op_k (cb o0 0 15 x_5 2) (fun o_7 => some o_7))) else none))
noncomputable def fJString_getBytes_ABIB_S15_SB0 (v2 : Int32) (v3 : Int32) (o0 : cf_O) : Option (cf_O) := fJString_getBytes_ABIB_S15_SB0_0 v2 v3 o0
noncomputable def fAS_putStringAt_S15_0 (v1 : Int32) (o0 : cf_O) : Option (cf_O) :=
  Option.bind (fAS_inflateIfNeededFor_S15 o0) (fun q_1 => Option.bind (fJString_getBytes_ABIB_S15_SB0 v1 (o0.1 1) o0) (fun q_3 => some q_3))
noncomputable def fAS_putStringAt_S15 (v1 : Int32) (o0 : cf_O) : Option (cf_O) := fAS_putStringAt_S15_0 v1 o0
noncomputable def fAS_appendS_S15_33 (v2 : Int32) (o0 : cf_O) : Option (cf_O) :=
  op_k ((o0.1 3) + v2) (fun x_1 => op_k (fp o0 3 x_1) (fun o_2 => some o_2))
noncomputable def fAS_appendS_S15_24 (v2 : Int32) (o0 : cf_O) : Option (cf_O) :=
  Option.bind (fAS_putStringAt_S15 (o0.1 3) o0) (fun q_1 => fAS_appendS_S15_33 v2 q_1)
noncomputable def fAS_appendS_S15_13 (s0 : Int32) (o0 : cf_O) : Option (cf_O) :=
  op_k ((o0.1 3) + s0) (fun x_1 => Option.bind (fAS_ensureCapacityInternal x_1 o0) (fun q_2 => fAS_appendS_S15_24 s0 q_2))
noncomputable def fAS_appendS_S15_0 (o0 : cf_O) : Option (cf_O) :=
  Option.bind (fJString_length__S15) (fun q_1 => fAS_appendS_S15_13 q_1 o0)
noncomputable def fAS_appendS_S15 (o0 : cf_O) : Option (cf_O) := fAS_appendS_S15_0 o0
noncomputable def fSB_appendS_S15_5 (o0 : cf_O) : Option (cf_O) :=
  some o0
noncomputable def fSB_appendS_S15_0 (o0 : cf_O) : Option (cf_O) :=
  Option.bind (fAS_appendS_S15 o0) (fun q_1 => fSB_appendS_S15_5 q_1)
noncomputable def fSB_appendS_S15 (o0 : cf_O) : Option (cf_O) := fSB_appendS_S15_0 o0
noncomputable def fSc_writeResult_101 (o0 : cf_O) (o1 : cf_O) (o2 : cf_O) : Option (cf_O) :=
  some o2
noncomputable def fSc_writeResult_100 (o0 : cf_O) (o1 : cf_O) (o2 : cf_O) : Option (cf_O) :=
  fSc_writeResult_101 o0 o1 o2
noncomputable def fSc_writeResult_91 (o0 : cf_O) (o1 : cf_O) (o2 : cf_O) : Option (cf_O) :=
  Option.bind (fSB_appendS_S15 o2) (fun q_1 => fSc_writeResult_100 o0 o1 q_1)
noncomputable def fSc_writeResult_77 (o0 : cf_O) (o1 : cf_O) (o2 : cf_O) : Option (cf_O) :=
  fSc_writeResult_101 o0 o1 o2
noncomputable def fSc_writeResult_52 (v3 : Int32) (v4 : Int32) (v5 : Int32) (o0 : cf_O) (o1 : cf_O) (o2 : cf_O) : Option (cf_O) :=
  (if v5 = (0 : Int32) then (if v4 = (0 : Int32) then Option.bind (fSB_appendS_S14 o2) (fun q_5 => fSc_writeResult_77 o0 o1 q_5) else Option.bind (fSB_appendS_S13 o2) (fun q_10 => fSc_writeResult_77 o0 o1 q_10)) else (if v3 = (1 : Int32) then fSc_writeResult_91 o0 o1 o2 else (if v4 = (0 : Int32) then fSc_writeResult_101 o0 o1 o2 else fSc_writeResult_91 o0 o1 o2)))
noncomputable def fSc_writeResult_43 (v3 : Int32) (v4 : Int32) (v5 : Int32) (o0 : cf_O) (o1 : cf_O) (o2 : cf_O) : Option (cf_O) :=
  Option.bind (fSB_appendC 10 o2) (fun q_1 => fSc_writeResult_52 v3 v4 v5 o0 o1 q_1)
noncomputable def fSc_writeResult_33 (v2 : Int32) (v3 : Int32) (v4 : Int32) (v5 : Int32) (o0 : cf_O) (o1 : cf_O) (o2 : cf_O) : Option (cf_O) :=
  (if v2 < 0 ∨ 6 ≤ v2.toNatClampNeg then none else op_k (o1.2.2 4 v2.toNatClampNeg) (fun x_2 => Option.bind (fSc_writeName x_2 o0 o2) (fun q_3 => fSc_writeResult_43 v3 v4 v5 o0 o1 q_3)))
noncomputable def fSc_writeResult_21 (v2 : Int32) (v3 : Int32) (v4 : Int32) (v5 : Int32) (o0 : cf_O) (o1 : cf_O) (o2 : cf_O) : Option (cf_O) :=
  (if v5 = (0 : Int32) then Option.bind (fSc_writeLiteral v3 o0 o1 o2) (fun q_2 => fSc_writeResult_33 v2 v3 v4 v5 o0 o1 q_2) else fSc_writeResult_33 v2 v3 v4 v5 o0 o1 o2)
noncomputable def fSc_writeResult_10 (v2 : Int32) (v3 : Int32) (v4 : Int32) (s0 : Int32) (o0 : cf_O) (o1 : cf_O) (o2 : cf_O) : Option (cf_O) :=
  Option.bind (fSB_appendS_S12 o2) (fun q_1 => fSc_writeResult_21 v2 v3 v4 s0 o0 o1 q_1)
noncomputable def fSc_writeResult_0 (v2 : Int32) (v3 : Int32) (v4 : Int32) (o0 : cf_O) (o1 : cf_O) (o2 : cf_O) : Option (cf_O) :=
  (if (2 : Int32) ≤ v3 then fSc_writeResult_10 v2 v3 v4 0 o0 o1 o2 else fSc_writeResult_10 v2 v3 v4 1 o0 o1 o2)
noncomputable def fSc_writeResult (v2 : Int32) (v3 : Int32) (v4 : Int32) (o0 : cf_O) (o1 : cf_O) (o2 : cf_O) : Option (cf_O) := fSc_writeResult_0 v2 v3 v4 o0 o1 o2
noncomputable def fJString_coder__S16_14 (s0 : Int32) : Option (Int32) :=
  (if ¬ (vp_nar .byte s0 = s0) then none else some s0)
noncomputable def fJString_coder__S16_0 : Option (Int32) :=
  fJString_coder__S16_14 0
noncomputable def fJString_coder__S16 : Option (Int32) := fJString_coder__S16_0
noncomputable def fJString_length__S16_0 : Option (Int32) :=
  Option.bind (fJString_coder__S16) (fun q_1 => op_k ((5 : Int32) >>> (q_1 &&& 31)) (fun x_4 => some x_4))
noncomputable def fJString_length__S16 : Option (Int32) := fJString_length__S16_0
noncomputable def fAS_inflateIfNeededFor_S16_21 (o0 : cf_O) : Option (Unit) :=
  some ()
noncomputable def fAS_inflateIfNeededFor_S16_0 (o0 : cf_O) : Option (Unit) :=
  Option.bind (fJString_coder__S16) (fun q_2 => (if (o0.1 1) = q_2 then fAS_inflateIfNeededFor_S16_21 o0 else none))
noncomputable def fAS_inflateIfNeededFor_S16 (o0 : cf_O) : Option (Unit) := fAS_inflateIfNeededFor_S16_0 o0
noncomputable def fJString_getBytes_ABIB_S16_SB0_0 (v2 : Int32) (v3 : Int32) (o0 : cf_O) : Option (cf_O) :=
  Option.bind (fJString_coder__S16) (fun q_1 => (if q_1 = v3 then op_k (v2 <<< (v3 &&& 31)) (fun x_5 => (if x_5 < 0 ∨ (o0.1 0).toNatClampNeg < x_5.toNatClampNeg + 5 then none else op_k (cb o0 0 16 x_5 5) (fun o_7 => some o_7))) else none))
noncomputable def fJString_getBytes_ABIB_S16_SB0 (v2 : Int32) (v3 : Int32) (o0 : cf_O) : Option (cf_O) := fJString_getBytes_ABIB_S16_SB0_0 v2 v3 o0
noncomputable def fAS_putStringAt_S16_0 (v1 : Int32) (o0 : cf_O) : Option (cf_O) :=
  Option.bind (fAS_inflateIfNeededFor_S16 o0) (fun q_1 => Option.bind (fJString_getBytes_ABIB_S16_SB0 v1 (o0.1 1) o0) (fun q_3 => some q_3))
noncomputable def fAS_putStringAt_S16 (v1 : Int32) (o0 : cf_O) : Option (cf_O) := fAS_putStringAt_S16_0 v1 o0
noncomputable def fAS_appendS_S16_33 (v2 : Int32) (o0 : cf_O) : Option (cf_O) :=
  op_k ((o0.1 3) + v2) (fun x_1 => op_k (fp o0 3 x_1) (fun o_2 => some o_2))
noncomputable def fAS_appendS_S16_24 (v2 : Int32) (o0 : cf_O) : Option (cf_O) :=
  Option.bind (fAS_putStringAt_S16 (o0.1 3) o0) (fun q_1 => fAS_appendS_S16_33 v2 q_1)
noncomputable def fAS_appendS_S16_13 (s0 : Int32) (o0 : cf_O) : Option (cf_O) :=
  op_k ((o0.1 3) + s0) (fun x_1 => Option.bind (fAS_ensureCapacityInternal x_1 o0) (fun q_2 => fAS_appendS_S16_24 s0 q_2))
noncomputable def fAS_appendS_S16_0 (o0 : cf_O) : Option (cf_O) :=
  Option.bind (fJString_length__S16) (fun q_1 => fAS_appendS_S16_13 q_1 o0)
noncomputable def fAS_appendS_S16 (o0 : cf_O) : Option (cf_O) := fAS_appendS_S16_0 o0
noncomputable def fSB_appendS_S16_5 (o0 : cf_O) : Option (cf_O) :=
  some o0
noncomputable def fSB_appendS_S16_0 (o0 : cf_O) : Option (cf_O) :=
  Option.bind (fAS_appendS_S16 o0) (fun q_1 => fSB_appendS_S16_5 q_1)
noncomputable def fSB_appendS_S16 (o0 : cf_O) : Option (cf_O) := fSB_appendS_S16_0 o0
noncomputable def fSc_close_9 (o0 : cf_O) (o1 : cf_O) : Option (cf_O × cf_O) :=
  op_k (fp o0 0 1) (fun o_1 => some (o_1, o1))
noncomputable def fSc_close_0 (o0 : cf_O) (o1 : cf_O) : Option (cf_O × cf_O) :=
  Option.bind (fSB_appendS_S16 o1) (fun q_1 => fSc_close_9 o0 q_1)
noncomputable def fSc_close (o0 : cf_O) (o1 : cf_O) : Option (cf_O × cf_O) := fSc_close_0 o0 o1
noncomputable def fCv_writeTo_166 (rc : Nat → Int32 → Int32 → Int32 → cf_O → cf_O → cf_O → cf_O → cf_O → Option (cf_O × cf_O)) (o0 : cf_O) (o1 : cf_O) (o2 : cf_O) (o3 : cf_O) (o4 : cf_O) : Option (cf_O × cf_O) :=
  some (o1, o4)
noncomputable def fCv_writeTo_156 (rc : Nat → Int32 → Int32 → Int32 → cf_O → cf_O → cf_O → cf_O → cf_O → Option (cf_O × cf_O)) (v4 : Int32) (o0 : cf_O) (o1 : cf_O) (o2 : cf_O) (o3 : cf_O) (o4 : cf_O) : Option (cf_O × cf_O) :=
  op_k (v4 + 1) (fun x_1 => rc 2 x_1 0 0 o0 o1 o2 o3 o4)
noncomputable def fCv_writeTo_153 (rc : Nat → Int32 → Int32 → Int32 → cf_O → cf_O → cf_O → cf_O → cf_O → Option (cf_O × cf_O)) (v4 : Int32) (s2 : Int32) (s3 : Int32) (s4 : Int32) (o0 : cf_O) (o1 : cf_O) (o2 : cf_O) (o3 : cf_O) (o4 : cf_O) : Option (cf_O × cf_O) :=
  Option.bind (fSc_writeResult s2 s3 s4 o1 o2 o4) (fun q_1 => fCv_writeTo_156 rc v4 o0 o1 o2 o3 q_1)
noncomputable def fCv_writeTo_114 (rc : Nat → Int32 → Int32 → Int32 → cf_O → cf_O → cf_O → cf_O → cf_O → Option (cf_O × cf_O)) (v4 : Int32) (o0 : cf_O) (o1 : cf_O) (o2 : cf_O) (o3 : cf_O) (o4 : cf_O) : Option (cf_O × cf_O) :=
  (if (o3.1 1) ≤ v4 then Option.bind (fSc_close o1 o4) (fun q_2 => fCv_writeTo_166 rc o0 q_2.1 o2 o3 q_2.2) else (if v4 < 0 ∨ 6 ≤ v4.toNatClampNeg then none else op_k (o3.2.1 7 v4.toNatClampNeg) (fun x_8 => op_k (x_8 &&& (-2)) (fun x_9 => op_k (x_8 &&& 1) (fun x_10 => (if x_10 = (0 : Int32) then fCv_writeTo_153 rc v4 v4 x_9 0 o0 o1 o2 o3 o4 else fCv_writeTo_153 rc v4 v4 x_9 1 o0 o1 o2 o3 o4))))))
noncomputable def fCv_writeTo_105 (rc : Nat → Int32 → Int32 → Int32 → cf_O → cf_O → cf_O → cf_O → cf_O → Option (cf_O × cf_O)) (v4 : Int32) (o0 : cf_O) (o1 : cf_O) (o2 : cf_O) (o3 : cf_O) (o4 : cf_O) : Option (cf_O × cf_O) :=
  op_k (v4 + 1) (fun x_1 => rc 0 x_1 0 0 o0 o1 o2 o3 o4)
noncomputable def fCv_writeTo_91 (rc : Nat → Int32 → Int32 → Int32 → cf_O → cf_O → cf_O → cf_O → cf_O → Option (cf_O × cf_O)) (v4 : Int32) (v5 : Int32) (o0 : cf_O) (o1 : cf_O) (o2 : cf_O) (o3 : cf_O) (o4 : cf_O) : Option (cf_O × cf_O) :=
  (if v4 < 0 ∨ 200 ≤ v4.toNatClampNeg then none else op_k (o0.2.1 3 v4.toNatClampNeg) (fun x_2 => Option.bind (fCv_writeRows x_2 v5 o1 o4) (fun q_3 => fCv_writeTo_105 rc v4 o0 o1 o2 o3 q_3)))
noncomputable def fCv_writeTo_82 (rc : Nat → Int32 → Int32 → Int32 → cf_O → cf_O → cf_O → cf_O → cf_O → Option (cf_O × cf_O)) (v4 : Int32) (v5 : Int32) (o0 : cf_O) (o1 : cf_O) (o2 : cf_O) (o3 : cf_O) (o4 : cf_O) : Option (cf_O × cf_O) :=
  Option.bind (fSB_appendC 10 o4) (fun q_1 => fCv_writeTo_91 rc v4 v5 o0 o1 o2 o3 q_1)
noncomputable def fCv_writeTo_64 (rc : Nat → Int32 → Int32 → Int32 → cf_O → cf_O → cf_O → cf_O → cf_O → Option (cf_O × cf_O)) (v4 : Int32) (v5 : Int32) (v6 : Int32) (o0 : cf_O) (o1 : cf_O) (o2 : cf_O) (o3 : cf_O) (o4 : cf_O) : Option (cf_O × cf_O) :=
  op_k (v6 + 1) (fun x_1 => rc 1 v4 v5 x_1 o0 o1 o2 o3 o4)
noncomputable def fCv_writeTo_61 (rc : Nat → Int32 → Int32 → Int32 → cf_O → cf_O → cf_O → cf_O → cf_O → Option (cf_O × cf_O)) (v4 : Int32) (v5 : Int32) (v6 : Int32) (s2 : Int32) (o0 : cf_O) (o1 : cf_O) (o2 : cf_O) (o3 : cf_O) (o4 : cf_O) : Option (cf_O × cf_O) :=
  Option.bind (fSc_writeNode s2 o1 o2 o4) (fun q_1 => fCv_writeTo_64 rc v4 v5 v6 o0 o1 o2 o3 q_1)
noncomputable def fCv_writeTo_56 (rc : Nat → Int32 → Int32 → Int32 → cf_O → cf_O → cf_O → cf_O → cf_O → Option (cf_O × cf_O)) (v4 : Int32) (v5 : Int32) (v6 : Int32) (s2 : Int64) (o0 : cf_O) (o1 : cf_O) (o2 : cf_O) (o3 : cf_O) (o4 : cf_O) : Option (cf_O × cf_O) :=
  Option.bind (fCu_nodeAt s2 v6) (fun q_1 => fCv_writeTo_61 rc v4 v5 v6 q_1 o0 o1 o2 o3 o4)
noncomputable def fCv_writeTo_41 (rc : Nat → Int32 → Int32 → Int32 → cf_O → cf_O → cf_O → cf_O → cf_O → Option (cf_O × cf_O)) (v4 : Int32) (v5 : Int32) (v6 : Int32) (o0 : cf_O) (o1 : cf_O) (o2 : cf_O) (o3 : cf_O) (o4 : cf_O) : Option (cf_O × cf_O) :=
  (if v5 ≤ v6 then (if v4 < 0 ∨ 200 ≤ v4.toNatClampNeg then none else op_k (o0.2.1 2 v4.toNatClampNeg) (fun x_3 => Option.bind (fSc_writeNode x_3 o1 o2 o4) (fun q_4 => fCv_writeTo_82 rc v4 v5 o0 o1 o2 o3 q_4))) else Option.bind (fCv_cutOf v4 o0) (fun q_9 => fCv_writeTo_56 rc v4 v5 v6 q_9 o0 o1 o2 o3 o4))
noncomputable def fCv_writeTo_37 (rc : Nat → Int32 → Int32 → Int32 → cf_O → cf_O → cf_O → cf_O → cf_O → Option (cf_O × cf_O)) (v4 : Int32) (v5 : Int32) (o0 : cf_O) (o1 : cf_O) (o2 : cf_O) (o3 : cf_O) (o4 : cf_O) : Option (cf_O × cf_O) :=
  rc 1 v4 v5 0 o0 o1 o2 o3 o4
noncomputable def fCv_writeTo_26 (rc : Nat → Int32 → Int32 → Int32 → cf_O → cf_O → cf_O → cf_O → cf_O → Option (cf_O × cf_O)) (v4 : Int32) (s0 : Int32) (o0 : cf_O) (o1 : cf_O) (o2 : cf_O) (o3 : cf_O) (o4 : cf_O) : Option (cf_O × cf_O) :=
  Option.bind (fSB_appendS_S8 o4) (fun q_1 => fCv_writeTo_37 rc v4 s0 o0 o1 o2 o3 q_1)
noncomputable def fCv_writeTo_23 (rc : Nat → Int32 → Int32 → Int32 → cf_O → cf_O → cf_O → cf_O → cf_O → Option (cf_O × cf_O)) (v4 : Int32) (s0 : Int64) (o0 : cf_O) (o1 : cf_O) (o2 : cf_O) (o3 : cf_O) (o4 : cf_O) : Option (cf_O × cf_O) :=
  Option.bind (fCu_sizeOf s0) (fun q_1 => fCv_writeTo_26 rc v4 q_1 o0 o1 o2 o3 o4)
noncomputable def fCv_writeTo_8 (rc : Nat → Int32 → Int32 → Int32 → cf_O → cf_O → cf_O → cf_O → cf_O → Option (cf_O × cf_O)) (v4 : Int32) (o0 : cf_O) (o1 : cf_O) (o2 : cf_O) (o3 : cf_O) (o4 : cf_O) : Option (cf_O × cf_O) :=
  (if (o0.1 0) ≤ v4 then rc 2 0 0 0 o0 o1 o2 o3 o4 else Option.bind (fCv_cutOf v4 o0) (fun q_2 => fCv_writeTo_23 rc v4 q_2 o0 o1 o2 o3 o4))
noncomputable def fCv_writeTo_5 (rc : Nat → Int32 → Int32 → Int32 → cf_O → cf_O → cf_O → cf_O → cf_O → Option (cf_O × cf_O)) (o0 : cf_O) (o1 : cf_O) (o2 : cf_O) (o3 : cf_O) (o4 : cf_O) : Option (cf_O × cf_O) :=
  rc 0 0 0 0 o0 o1 o2 o3 o4
noncomputable def fCv_writeTo_0 (rc : Nat → Int32 → Int32 → Int32 → cf_O → cf_O → cf_O → cf_O → cf_O → Option (cf_O × cf_O)) (o0 : cf_O) (o1 : cf_O) (o2 : cf_O) (o3 : cf_O) (o4 : cf_O) : Option (cf_O × cf_O) :=
  Option.bind (fSc_writeHead o1 o2 o4) (fun q_1 => fCv_writeTo_5 rc o0 o1 o2 o3 q_1)
noncomputable def gCv_writeTo (n : Nat) : Nat → Int32 → Int32 → Int32 → cf_O → cf_O → cf_O → cf_O → cf_O → Option (cf_O × cf_O) := Nat.rec (motive := fun _ => Nat → Int32 → Int32 → Int32 → cf_O → cf_O → cf_O → cf_O → cf_O → Option (cf_O × cf_O)) (fun _ _ _ _ _ _ _ _ _ => none) (fun _ rc => fun k u4i u5i u6i o0 o1 o2 o3 o4 => Nat.rec (motive := fun _ => Option (cf_O × cf_O)) (fCv_writeTo_8 rc u4i o0 o1 o2 o3 o4) (fun k _ => Nat.rec (motive := fun _ => Option (cf_O × cf_O)) (fCv_writeTo_41 rc u4i u5i u6i o0 o1 o2 o3 o4) (fun k _ => Nat.rec (motive := fun _ => Option (cf_O × cf_O)) (fCv_writeTo_114 rc u4i o0 o1 o2 o3 o4) (fun k _ => none) k) k) k) n
noncomputable def fCv_writeTo (o0 : cf_O) (o1 : cf_O) (o2 : cf_O) (o3 : cf_O) (o4 : cf_O) : Option (cf_O × cf_O) := fCv_writeTo_0 (gCv_writeTo cfFU) o0 o1 o2 o3 o4
noncomputable def fCu_add_46 (v1 : Int64) (v3 : Int64) (o0 : cf_O) : Option (cf_O) :=
  (if (o0.1 3) < 0 ∨ (o0.1 4).toNatClampNeg ≤ (o0.1 3).toNatClampNeg then none else op_k (yp o0 4 (o0.1 3).toNatClampNeg v1) (fun o_2 => (if (o_2.1 3) < 0 ∨ (o_2.1 5).toNatClampNeg ≤ (o_2.1 3).toNatClampNeg then none else op_k (yp o_2 5 (o_2.1 3).toNatClampNeg v3) (fun o_5 => op_k ((o_5.1 3) + 1) (fun x_7 => op_k (fp o_5 3 x_7) (fun o_8 => some o_8))))))
noncomputable def fCu_add_29 (v1 : Int64) (v3 : Int64) (o0 : cf_O) : Option (cf_O) :=
  op_k (2 * (o0.1 3)) (fun x_1 => (if ((o0.1 5) < 0) ∨ (x_1 < 0) ∨ (x_1.toNatClampNeg < (o0.1 5).toNatClampNeg + 16) ∨ (x_1.toNatClampNeg < 2 * (o0.1 5).toNatClampNeg) ∨ (67108864 < x_1.toNatClampNeg) then none else op_k (gp o0 5 x_1) (fun o_3 => fCu_add_46 v1 v3 o_3)))
noncomputable def fCu_add_0 (v1 : Int64) (v3 : Int64) (o0 : cf_O) : Option (cf_O) :=
  (if (o0.1 4) < 0 then none else op_k (o0.1 4) (fun x_2 => (if (o0.1 3) = x_2 then op_k (2 * (o0.1 3)) (fun x_4 => (if ((o0.1 4) < 0) ∨ (x_4 < 0) ∨ (x_4.toNatClampNeg < (o0.1 4).toNatClampNeg + 16) ∨ (x_4.toNatClampNeg < 2 * (o0.1 4).toNatClampNeg) ∨ (67108864 < x_4.toNatClampNeg) then none else op_k (gp o0 4 x_4) (fun o_6 => fCu_add_29 v1 v3 o_6))) else fCu_add_46 v1 v3 o0)))
noncomputable def fCu_add (v1 : Int64) (v3 : Int64) (o0 : cf_O) : Option (cf_O) := fCu_add_0 v1 v3 o0
noncomputable def fJLong_bitCount_J_0 (v0 : Int64) : Option (Int32) :=
  op_k ((v0.toUInt64 >>> ((1 : Int32).toInt64.toUInt64 &&& Int64.toUInt64 63)).toInt64) (fun x_1 => op_k (x_1 &&& 6148914691236517205) (fun x_2 => op_k (v0 - x_2) (fun x_3 => op_k (x_3 &&& 3689348814741910323) (fun x_4 => op_k ((x_3.toUInt64 >>> ((2 : Int32).toInt64.toUInt64 &&& Int64.toUInt64 63)).toInt64) (fun x_5 => op_k (x_5 &&& 3689348814741910323) (fun x_6 => op_k (x_4 + x_6) (fun x_7 => op_k ((x_7.toUInt64 >>> ((4 : Int32).toInt64.toUInt64 &&& Int64.toUInt64 63)).toInt64) (fun x_8 => op_k (x_7 + x_8) (fun x_9 => op_k (x_9 &&& 1085102592571150095) (fun x_10 => op_k ((x_10.toUInt64 >>> ((8 : Int32).toInt64.toUInt64 &&& Int64.toUInt64 63)).toInt64) (fun x_11 => op_k (x_10 + x_11) (fun x_12 => op_k ((x_12.toUInt64 >>> ((16 : Int32).toInt64.toUInt64 &&& Int64.toUInt64 63)).toInt64) (fun x_13 => op_k (x_12 + x_13) (fun x_14 => op_k ((x_14.toUInt64 >>> ((32 : Int32).toInt64.toUInt64 &&& Int64.toUInt64 63)).toInt64) (fun x_15 => op_k (x_14 + x_15) (fun x_16 => op_k (x_16.toInt32) (fun x_17 => op_k (x_17 &&& 127) (fun x_18 => some x_18))))))))))))))))))
noncomputable def fJLong_bitCount_J (v0 : Int64) : Option (Int32) := fJLong_bitCount_J_0 v0
noncomputable def fCu_join_123 (rc : Nat → Int32 → Int64 → Int64 → Int64 → Int32 → Option (Int64)) (s0 : Int64) : Option (Int64) :=
  some s0
noncomputable def fCu_join_122 (rc : Nat → Int32 → Int64 → Int64 → Int64 → Int32 → Option (Int64)) : Option (Int64) :=
  fCu_join_123 rc 0
noncomputable def fCu_join_95 (rc : Nat → Int32 → Int64 → Int64 → Int64 → Int32 → Option (Int64)) (v4 : Int32) (v5 : Int64) (v9 : Int64) (v11 : Int32) (s0 : Int64) : Option (Int64) :=
  op_k (v11 + 1) (fun x_1 => rc 0 v4 v5 s0 v9 x_1)
noncomputable def fCu_join_71 (rc : Nat → Int32 → Int64 → Int64 → Int64 → Int32 → Option (Int64)) (v4 : Int32) (v7 : Int64) (v9 : Int64) (v11 : Int32) (v12 : Int64) (s0 : Int64) : Option (Int64) :=
  op_k (v7 &&& 255) (fun x_1 => op_k (lg_cmp x_1 v12) (fun x_2 => (if x_2 = (0 : Int32) then op_k ((v7.toUInt64 >>> ((8 : Int32).toInt64.toUInt64 &&& Int64.toUInt64 63)).toInt64) (fun x_4 => fCu_join_95 rc v4 s0 v9 v11 x_4) else fCu_join_95 rc v4 s0 v9 v11 v7)))
noncomputable def fCu_join_12 (rc : Nat → Int32 → Int64 → Int64 → Int64 → Int32 → Option (Int64)) (v4 : Int32) (v5 : Int64) (v7 : Int64) (v9 : Int64) (v11 : Int32) : Option (Int64) :=
  (if v4 ≤ v11 then op_k (lg_cmp v5 (0 : Int64)) (fun x_2 => (if x_2 = (0 : Int32) then op_k (lg_cmp v7 (0 : Int64)) (fun x_4 => (if x_4 = (0 : Int32) then fCu_join_123 rc v9 else fCu_join_122 rc)) else fCu_join_122 rc)) else op_k (v5 &&& 255) (fun x_6 => op_k (v7 &&& 255) (fun x_7 => op_k (op_mxl x_6 x_7) (fun x_8 => op_k (8 * v11) (fun x_9 => op_k (x_8 <<< (x_9.toInt64 &&& 63)) (fun x_10 => op_k (v9 ||| x_10) (fun x_11 => op_k (v5 &&& 255) (fun x_12 => op_k (lg_cmp x_12 x_8) (fun x_13 => (if x_13 = (0 : Int32) then op_k ((v5.toUInt64 >>> ((8 : Int32).toInt64.toUInt64 &&& Int64.toUInt64 63)).toInt64) (fun x_15 => fCu_join_71 rc v4 v7 x_11 v11 x_8 x_15) else fCu_join_71 rc v4 v7 x_11 v11 x_8 v5))))))))))
noncomputable def fCu_join_0 (rc : Nat → Int32 → Int64 → Int64 → Int64 → Int32 → Option (Int64)) (v0 : Int64) (v2 : Int64) (v4 : Int32) : Option (Int64) :=
  rc 0 v4 v0 v2 0 0
noncomputable def gCu_join (n : Nat) : Nat → Int32 → Int64 → Int64 → Int64 → Int32 → Option (Int64) := Nat.rec (motive := fun _ => Nat → Int32 → Int64 → Int64 → Int64 → Int32 → Option (Int64)) (fun _ _ _ _ _ _ => none) (fun _ rc => fun k u4i u5l u7l u9l u11i => Nat.rec (motive := fun _ => Option (Int64)) (fCu_join_12 rc u4i u5l u7l u9l u11i) (fun k _ => none) k) n
noncomputable def fCu_join (v0 : Int64) (v2 : Int64) (v4 : Int32) : Option (Int64) := fCu_join_0 (gCu_join cfFU) v0 v2 v4
noncomputable def fCu_isPart_58 (rc : Nat → Int64 → Int64 → Option (Int32)) (s0 : Int32) : Option (Int32) :=
  (if ¬ (s0 = 0 ∨ s0 = 1) then none else some s0)
noncomputable def fCu_isPart_36 (rc : Nat → Int64 → Int64 → Option (Int32)) (v4 : Int64) (v6 : Int64) : Option (Int32) :=
  op_k ((v6.toUInt64 >>> ((8 : Int32).toInt64.toUInt64 &&& Int64.toUInt64 63)).toInt64) (fun x_1 => rc 0 v4 x_1)
noncomputable def fCu_isPart_6 (rc : Nat → Int64 → Int64 → Option (Int32)) (v4 : Int64) (v6 : Int64) : Option (Int32) :=
  op_k (lg_cmp v6 (0 : Int64)) (fun x_1 => (if x_1 = (0 : Int32) then op_k (lg_cmp v4 (0 : Int64)) (fun x_3 => (if x_3 = (0 : Int32) then fCu_isPart_58 rc 1 else fCu_isPart_58 rc 0)) else op_k (v4 &&& 255) (fun x_5 => op_k (v6 &&& 255) (fun x_6 => op_k (lg_cmp x_5 x_6) (fun x_7 => (if x_7 = (0 : Int32) then op_k ((v4.toUInt64 >>> ((8 : Int32).toInt64.toUInt64 &&& Int64.toUInt64 63)).toInt64) (fun x_9 => fCu_isPart_36 rc x_9 v6) else fCu_isPart_36 rc v4 v6))))))
noncomputable def fCu_isPart_0 (rc : Nat → Int64 → Int64 → Option (Int32)) (v0 : Int64) (v2 : Int64) : Option (Int32) :=
  rc 0 v0 v2
noncomputable def gCu_isPart (n : Nat) : Nat → Int64 → Int64 → Option (Int32) := Nat.rec (motive := fun _ => Nat → Int64 → Int64 → Option (Int32)) (fun _ _ _ => none) (fun _ rc => fun k u4l u6l => Nat.rec (motive := fun _ => Option (Int32)) (fCu_isPart_6 rc u4l u6l) (fun k _ => none) k) n
noncomputable def fCu_isPart (v0 : Int64) (v2 : Int64) : Option (Int32) := fCu_isPart_0 (gCu_isPart cfFU) v0 v2
noncomputable def fCu_hasPart_47 (rc : Nat → Int64 → Int64 → Int32 → cf_O → Option (Int32)) (v1 : Int64) (v3 : Int64) (v6 : Int32) (o0 : cf_O) : Option (Int32) :=
  op_k (v6 + 1) (fun x_1 => rc 0 v1 v3 x_1 o0)
noncomputable def fCu_hasPart_4 (rc : Nat → Int64 → Int64 → Int32 → cf_O → Option (Int32)) (v1 : Int64) (v3 : Int64) (v6 : Int32) (o0 : cf_O) : Option (Int32) :=
  (if (o0.1 3) ≤ v6 then some (0 : Int32) else (if v6 < 0 ∨ (o0.1 5).toNatClampNeg ≤ v6.toNatClampNeg then none else op_k (o0.2.2 5 v6.toNatClampNeg) (fun x_3 => op_k (v3 ^^^ (-1)) (fun x_4 => op_k (x_3 &&& x_4) (fun x_5 => op_k (lg_cmp x_5 (0 : Int64)) (fun x_6 => (if x_6 = (0 : Int32) then (if v6 < 0 ∨ (o0.1 4).toNatClampNeg ≤ v6.toNatClampNeg then none else op_k (o0.2.2 4 v6.toNatClampNeg) (fun x_9 => Option.bind (fCu_isPart x_9 v1) (fun q_10 => (if q_10 = (0 : Int32) then fCu_hasPart_47 rc v1 v3 v6 o0 else some (1 : Int32))))) else fCu_hasPart_47 rc v1 v3 v6 o0)))))))
noncomputable def fCu_hasPart_0 (rc : Nat → Int64 → Int64 → Int32 → cf_O → Option (Int32)) (v1 : Int64) (v3 : Int64) (v5 : Int32) (o0 : cf_O) : Option (Int32) :=
  rc 0 v1 v3 v5 o0
noncomputable def gCu_hasPart (n : Nat) : Nat → Int64 → Int64 → Int32 → cf_O → Option (Int32) := Nat.rec (motive := fun _ => Nat → Int64 → Int64 → Int32 → cf_O → Option (Int32)) (fun _ _ _ _ _ => none) (fun _ rc => fun k u1l u3l u6i o0 => Nat.rec (motive := fun _ => Option (Int32)) (fCu_hasPart_4 rc u1l u3l u6i o0) (fun k _ => none) k) n
noncomputable def fCu_hasPart (v1 : Int64) (v3 : Int64) (v5 : Int32) (o0 : cf_O) : Option (Int32) := fCu_hasPart_0 (gCu_hasPart cfFU) v1 v3 v5 o0
noncomputable def fCu_joinAll_191 (rc : Nat → Int32 → Int32 → Int32 → Int32 → Int64 → Int32 → Int32 → cf_O → Option (Int32 × cf_O)) (o0 : cf_O) : Option (Int32 × cf_O) :=
  some ((1 : Int32), o0)
noncomputable def fCu_joinAll_185 (rc : Nat → Int32 → Int32 → Int32 → Int32 → Int64 → Int32 → Int32 → cf_O → Option (Int32 × cf_O)) (v1 : Int32) (v2 : Int32) (v3 : Int32) (v4 : Int32) (v5 : Int64) (v7 : Int32) (o0 : cf_O) : Option (Int32 × cf_O) :=
  op_k (v7 + 1) (fun x_1 => rc 0 v1 v2 v3 v4 v5 x_1 0 o0)
noncomputable def fCu_joinAll_179 (rc : Nat → Int32 → Int32 → Int32 → Int32 → Int64 → Int32 → Int32 → cf_O → Option (Int32 × cf_O)) (v1 : Int32) (v2 : Int32) (v3 : Int32) (v4 : Int32) (v5 : Int64) (v7 : Int32) (v8 : Int32) (o0 : cf_O) : Option (Int32 × cf_O) :=
  op_k (v8 + 1) (fun x_1 => rc 1 v1 v2 v3 v4 v5 v7 x_1 o0)
noncomputable def fCu_joinAll_150 (rc : Nat → Int32 → Int32 → Int32 → Int32 → Int64 → Int32 → Int32 → cf_O → Option (Int32 × cf_O)) (v1 : Int32) (v2 : Int32) (v3 : Int32) (v4 : Int32) (v5 : Int64) (v7 : Int32) (v8 : Int32) (v9 : Int64) (v11 : Int64) (s0 : Int32) (o0 : cf_O) : Option (Int32 × cf_O) :=
  (if s0 = (0 : Int32) then op_k ((o0.1 3) - v4) (fun x_2 => (if x_2 = (300 : Int32) then some ((0 : Int32), o0) else Option.bind (fCu_add v11 v9 o0) (fun q_4 => fCu_joinAll_179 rc v1 v2 v3 v4 v5 v7 v8 q_4))) else fCu_joinAll_179 rc v1 v2 v3 v4 v5 v7 v8 o0)
noncomputable def fCu_joinAll_124 (rc : Nat → Int32 → Int32 → Int32 → Int32 → Int64 → Int32 → Int32 → cf_O → Option (Int32 × cf_O)) (v1 : Int32) (v2 : Int32) (v3 : Int32) (v4 : Int32) (v5 : Int64) (v7 : Int32) (v8 : Int32) (v9 : Int64) (s0 : Int64) (o0 : cf_O) : Option (Int32 × cf_O) :=
  op_k (v3 - 1) (fun x_1 => op_k (8 * x_1) (fun x_2 => op_k ((s0.toUInt64 >>> (x_2.toInt64.toUInt64 &&& Int64.toUInt64 63)).toInt64) (fun x_3 => op_k (lg_cmp x_3 (0 : Int64)) (fun x_4 => (if x_4 = (0 : Int32) then fCu_joinAll_179 rc v1 v2 v3 v4 v5 v7 v8 o0 else Option.bind (fCu_hasPart s0 v9 v4 o0) (fun q_6 => fCu_joinAll_150 rc v1 v2 v3 v4 v5 v7 v8 v9 s0 q_6 o0))))))
noncomputable def fCu_joinAll_98 (rc : Nat → Int32 → Int32 → Int32 → Int32 → Int64 → Int32 → Int32 → cf_O → Option (Int32 × cf_O)) (v1 : Int32) (v2 : Int32) (v3 : Int32) (v4 : Int32) (v5 : Int64) (v7 : Int32) (v8 : Int32) (v9 : Int64) (s0 : Int32) (o0 : cf_O) : Option (Int32 × cf_O) :=
  (if s0 ≤ v3 then (if v7 < 0 ∨ (o0.1 4).toNatClampNeg ≤ v7.toNatClampNeg then none else op_k (o0.2.2 4 v7.toNatClampNeg) (fun x_3 => (if v8 < 0 ∨ (o0.1 4).toNatClampNeg ≤ v8.toNatClampNeg then none else op_k (o0.2.2 4 v8.toNatClampNeg) (fun x_5 => Option.bind (fCu_join x_3 x_5 v3) (fun q_6 => fCu_joinAll_124 rc v1 v2 v3 v4 v5 v7 v8 v9 q_6 o0))))) else fCu_joinAll_124 rc v1 v2 v3 v4 v5 v7 v8 v9 0 o0)
noncomputable def fCu_joinAll_50 (rc : Nat → Int32 → Int32 → Int32 → Int32 → Int64 → Int32 → Int32 → cf_O → Option (Int32 × cf_O)) (v1 : Int32) (v2 : Int32) (v3 : Int32) (v4 : Int32) (v5 : Int64) (v7 : Int32) (v8 : Int32) (o0 : cf_O) : Option (Int32 × cf_O) :=
  op_k (v2 + 1) (fun x_1 => (if x_1 < 0 ∨ 210 ≤ x_1.toNatClampNeg then none else op_k (o0.2.1 2 x_1.toNatClampNeg) (fun x_3 => (if x_3 ≤ v8 then fCu_joinAll_185 rc v1 v2 v3 v4 v5 v7 o0 else (if v8 < 0 ∨ (o0.1 4).toNatClampNeg ≤ v8.toNatClampNeg then none else op_k (o0.2.2 4 v8.toNatClampNeg) (fun x_6 => op_k (lg_cmp x_6 v5) (fun x_7 => (if (0 : Int32) ≤ x_7 then fCu_joinAll_185 rc v1 v2 v3 v4 v5 v7 o0 else (if v7 < 0 ∨ (o0.1 5).toNatClampNeg ≤ v7.toNatClampNeg then none else op_k (o0.2.2 5 v7.toNatClampNeg) (fun x_10 => (if v8 < 0 ∨ (o0.1 5).toNatClampNeg ≤ v8.toNatClampNeg then none else op_k (o0.2.2 5 v8.toNatClampNeg) (fun x_12 => op_k (x_10 ||| x_12) (fun x_13 => Option.bind (fJLong_bitCount_J x_13) (fun q_14 => fCu_joinAll_98 rc v1 v2 v3 v4 v5 v7 v8 x_13 q_14 o0))))))))))))))
noncomputable def fCu_joinAll_16 (rc : Nat → Int32 → Int32 → Int32 → Int32 → Int64 → Int32 → Int32 → cf_O → Option (Int32 × cf_O)) (v1 : Int32) (v2 : Int32) (v3 : Int32) (v4 : Int32) (v5 : Int64) (v7 : Int32) (o0 : cf_O) : Option (Int32 × cf_O) :=
  op_k (v1 + 1) (fun x_1 => (if x_1 < 0 ∨ 210 ≤ x_1.toNatClampNeg then none else op_k (o0.2.1 2 x_1.toNatClampNeg) (fun x_3 => (if x_3 ≤ v7 then fCu_joinAll_191 rc o0 else (if v7 < 0 ∨ (o0.1 4).toNatClampNeg ≤ v7.toNatClampNeg then none else op_k (o0.2.2 4 v7.toNatClampNeg) (fun x_6 => op_k (lg_cmp x_6 v5) (fun x_7 => (if (0 : Int32) ≤ x_7 then fCu_joinAll_191 rc o0 else (if v2 < 0 ∨ 210 ≤ v2.toNatClampNeg then none else op_k (o0.2.1 2 v2.toNatClampNeg) (fun x_10 => rc 1 v1 v2 v3 v4 v5 v7 x_10 o0))))))))))
noncomputable def fCu_joinAll_0 (rc : Nat → Int32 → Int32 → Int32 → Int32 → Int64 → Int32 → Int32 → cf_O → Option (Int32 × cf_O)) (v1 : Int32) (v2 : Int32) (v3 : Int32) (v4 : Int32) (o0 : cf_O) : Option (Int32 × cf_O) :=
  op_k (8 * v3) (fun x_1 => op_k ((1 : Int64) <<< (x_1.toInt64 &&& 63)) (fun x_2 => (if v1 < 0 ∨ 210 ≤ v1.toNatClampNeg then none else op_k (o0.2.1 2 v1.toNatClampNeg) (fun x_4 => rc 0 v1 v2 v3 v4 x_2 x_4 0 o0))))
noncomputable def gCu_joinAll (n : Nat) : Nat → Int32 → Int32 → Int32 → Int32 → Int64 → Int32 → Int32 → cf_O → Option (Int32 × cf_O) := Nat.rec (motive := fun _ => Nat → Int32 → Int32 → Int32 → Int32 → Int64 → Int32 → Int32 → cf_O → Option (Int32 × cf_O)) (fun _ _ _ _ _ _ _ _ _ => none) (fun _ rc => fun k u1i u2i u3i u4i u5l u7i u8i o0 => Nat.rec (motive := fun _ => Option (Int32 × cf_O)) (fCu_joinAll_16 rc u1i u2i u3i u4i u5l u7i o0) (fun k _ => Nat.rec (motive := fun _ => Option (Int32 × cf_O)) (fCu_joinAll_50 rc u1i u2i u3i u4i u5l u7i u8i o0) (fun k _ => none) k) k) n
noncomputable def fCu_joinAll (v1 : Int32) (v2 : Int32) (v3 : Int32) (v4 : Int32) (o0 : cf_O) : Option (Int32 × cf_O) := fCu_joinAll_0 (gCu_joinAll cfFU) v1 v2 v3 v4 o0
noncomputable def fCu_findOf_90 (rc : Nat → Int32 → Int32 → Int32 → Int32 → cf_O → cf_O → Option (Int32 × cf_O)) (v2 : Int32) (v5 : Int32) (s0 : Int32) (o0 : cf_O) (o1 : cf_O) : Option (Int32 × cf_O) :=
  op_k (v5 + 1) (fun x_1 => rc 1 v2 0 s0 x_1 o0 o1)
noncomputable def fCu_findOf_87 (rc : Nat → Int32 → Int32 → Int32 → Int32 → cf_O → cf_O → Option (Int32 × cf_O)) (v2 : Int32) (v5 : Int32) (s0 : Int32) (s1 : Int32) (o0 : cf_O) (o1 : cf_O) : Option (Int32 × cf_O) :=
  op_k (op_mn s0 s1) (fun x_2 => fCu_findOf_90 rc v2 v5 x_2 o0 o1)
noncomputable def fCu_findOf_65 (rc : Nat → Int32 → Int32 → Int32 → Int32 → cf_O → cf_O → Option (Int32 × cf_O)) (v2 : Int32) (v4 : Int32) (v5 : Int32) (o0 : cf_O) (o1 : cf_O) : Option (Int32 × cf_O) :=
  (if (o0.1 3) ≤ v5 then (if v2 < 0 ∨ 209 ≤ v2.toNatClampNeg then none else op_k (xp o0 1 v2.toNatClampNeg v4) (fun o_3 => some ((1 : Int32), o_3))) else (if v5 < 0 ∨ (o0.1 4).toNatClampNeg ≤ v5.toNatClampNeg then none else op_k (o0.2.2 4 v5.toNatClampNeg) (fun x_6 => Option.bind (fCu_depthOf x_6 o0) (fun q_7 => fCu_findOf_87 rc v2 v5 v4 q_7 o0 o1))))
noncomputable def fCu_findOf_39 (rc : Nat → Int32 → Int32 → Int32 → Int32 → cf_O → cf_O → Option (Int32 × cf_O)) (v2 : Int32) (v3 : Int32) (v4 : Int32) (s0 : Int32) (o0 : cf_O) (o1 : cf_O) : Option (Int32 × cf_O) :=
  (if s0 = (0 : Int32) then some ((0 : Int32), o0) else op_k (v4 + 1) (fun x_2 => rc 0 v2 v3 x_2 0 o0 o1))
noncomputable def fCu_findOf_3 (rc : Nat → Int32 → Int32 → Int32 → Int32 → cf_O → cf_O → Option (Int32 × cf_O)) (v2 : Int32) (v3 : Int32) (v4 : Int32) (o0 : cf_O) (o1 : cf_O) : Option (Int32 × cf_O) :=
  (if v3 < v4 then (if v2 < 0 ∨ 210 ≤ v2.toNatClampNeg then none else op_k (o0.2.1 2 v2.toNatClampNeg) (fun x_3 => op_k (x_3 + 1) (fun x_4 => rc 1 v2 0 209 x_4 o0 o1))) else (if v2 < 0 ∨ 209 ≤ v2.toNatClampNeg then none else op_k (o1.2.1 4 v2.toNatClampNeg) (fun x_6 => op_k (x_6 >>> ((1 : Int32) &&& 31)) (fun x_7 => (if v2 < 0 ∨ 209 ≤ v2.toNatClampNeg then none else op_k (o1.2.1 5 v2.toNatClampNeg) (fun x_9 => op_k (x_9 >>> ((1 : Int32) &&& 31)) (fun x_10 => (if v2 < 0 ∨ 210 ≤ v2.toNatClampNeg then none else op_k (o0.2.1 2 v2.toNatClampNeg) (fun x_12 => op_k (x_12 + 1) (fun x_13 => Option.bind (fCu_joinAll x_7 x_10 v4 x_13 o0) (fun q_14 => fCu_findOf_39 rc v2 v3 v4 q_14.1 q_14.2 o1)))))))))))
noncomputable def fCu_findOf_0 (rc : Nat → Int32 → Int32 → Int32 → Int32 → cf_O → cf_O → Option (Int32 × cf_O)) (v2 : Int32) (v3 : Int32) (o0 : cf_O) (o1 : cf_O) : Option (Int32 × cf_O) :=
  rc 0 v2 v3 2 0 o0 o1
noncomputable def gCu_findOf (n : Nat) : Nat → Int32 → Int32 → Int32 → Int32 → cf_O → cf_O → Option (Int32 × cf_O) := Nat.rec (motive := fun _ => Nat → Int32 → Int32 → Int32 → Int32 → cf_O → cf_O → Option (Int32 × cf_O)) (fun _ _ _ _ _ _ _ => none) (fun _ rc => fun k u2i u3i u4i u5i o0 o1 => Nat.rec (motive := fun _ => Option (Int32 × cf_O)) (fCu_findOf_3 rc u2i u3i u4i o0 o1) (fun k _ => Nat.rec (motive := fun _ => Option (Int32 × cf_O)) (fCu_findOf_65 rc u2i u4i u5i o0 o1) (fun k _ => none) k) k) n
noncomputable def fCu_findOf (v2 : Int32) (v3 : Int32) (o0 : cf_O) (o1 : cf_O) : Option (Int32 × cf_O) := fCu_findOf_0 (gCu_findOf cfFU) v2 v3 o0 o1
noncomputable def fCu_find_79 (rc : Nat → Int32 → Int32 → cf_O → cf_O → Option (Int32 × cf_O)) (v2 : Int32) (v3 : Int32) (o0 : cf_O) (o1 : cf_O) : Option (Int32 × cf_O) :=
  op_k (v3 + 1) (fun x_1 => (if x_1 < 0 ∨ 210 ≤ x_1.toNatClampNeg then none else op_k (xp o0 2 x_1.toNatClampNeg (o0.1 3)) (fun o_3 => op_k (v3 + 1) (fun x_5 => rc 0 v2 x_5 o_3 o1))))
noncomputable def fCu_find_74 (rc : Nat → Int32 → Int32 → cf_O → cf_O → Option (Int32 × cf_O)) (v2 : Int32) (v3 : Int32) (s0 : Int32) (o0 : cf_O) (o1 : cf_O) : Option (Int32 × cf_O) :=
  (if s0 = (0 : Int32) then some ((0 : Int32), o0) else fCu_find_79 rc v2 v3 o0 o1)
noncomputable def fCu_find_64 (rc : Nat → Int32 → Int32 → cf_O → cf_O → Option (Int32 × cf_O)) (v2 : Int32) (v3 : Int32) (s0 : Int32) (o0 : cf_O) (o1 : cf_O) : Option (Int32 × cf_O) :=
  (if s0 = (0 : Int32) then fCu_find_79 rc v2 v3 o0 o1 else Option.bind (fCu_findOf v3 v2 o0 o1) (fun q_2 => fCu_find_74 rc v2 v3 q_2.1 q_2.2 o1))
noncomputable def fCu_find_59 (rc : Nat → Int32 → Int32 → cf_O → cf_O → Option (Int32 × cf_O)) (v2 : Int32) (v3 : Int32) (o0 : cf_O) (o1 : cf_O) : Option (Int32 × cf_O) :=
  Option.bind (fGr_isGate v3 o1) (fun q_1 => fCu_find_64 rc v2 v3 q_1 o0 o1)
noncomputable def fCu_find_27 (rc : Nat → Int32 → Int32 → cf_O → cf_O → Option (Int32 × cf_O)) (v2 : Int32) (v3 : Int32) (s0 : Int32) (s1 : Int32) (o0 : cf_O) (o1 : cf_O) : Option (Int32 × cf_O) :=
  (if s1 ≤ s0 then op_k (fp o0 0 v2) (fun o_2 => some ((1 : Int32), o_2)) else (if v3 < 0 ∨ 210 ≤ v3.toNatClampNeg then none else op_k (xp o0 2 v3.toNatClampNeg (o0.1 3)) (fun o_5 => (if v3 < 0 ∨ 209 ≤ v3.toNatClampNeg then none else op_k (xp o_5 1 v3.toNatClampNeg 0) (fun o_8 => op_k (v3.toInt64) (fun x_10 => op_k (v3 &&& 63) (fun x_11 => op_k ((1 : Int64) <<< (x_11.toInt64 &&& 63)) (fun x_12 => Option.bind (fCu_add x_10 x_12 o_8) (fun q_13 => fCu_find_59 rc v2 v3 q_13 o1)))))))))
noncomputable def fCu_find_22 (rc : Nat → Int32 → Int32 → cf_O → cf_O → Option (Int32 × cf_O)) (v2 : Int32) (v3 : Int32) (o0 : cf_O) (o1 : cf_O) : Option (Int32 × cf_O) :=
  Option.bind (fGr_size o1) (fun q_1 => fCu_find_27 rc v2 v3 v3 q_1 o0 o1)
noncomputable def fCu_find_0 (rc : Nat → Int32 → Int32 → cf_O → cf_O → Option (Int32 × cf_O)) (v2 : Int32) (o0 : cf_O) (o1 : cf_O) : Option (Int32 × cf_O) :=
  (if (o0.1 0) = v2 then some ((1 : Int32), o0) else op_k (fp o0 0 0) (fun o_2 => op_k (fp o_2 3 0) (fun o_4 => rc 0 v2 1 o_4 o1)))
noncomputable def gCu_find (n : Nat) : Nat → Int32 → Int32 → cf_O → cf_O → Option (Int32 × cf_O) := Nat.rec (motive := fun _ => Nat → Int32 → Int32 → cf_O → cf_O → Option (Int32 × cf_O)) (fun _ _ _ _ _ => none) (fun _ rc => fun k u2i u3i o0 o1 => Nat.rec (motive := fun _ => Option (Int32 × cf_O)) (fCu_find_22 rc u2i u3i o0 o1) (fun k _ => none) k) n
noncomputable def fCu_find (v2 : Int32) (o0 : cf_O) (o1 : cf_O) : Option (Int32 × cf_O) := fCu_find_0 (gCu_find cfFU) v2 o0 o1
noncomputable def fFu_inputWord_0 (v0 : Int32) (v1 : Int32) : Option (Int64) :=
  (if (6 : Int32) ≤ v0 then op_k (v0 - 6) (fun x_2 => op_k (v1 >>> (x_2 &&& 31)) (fun x_3 => op_k (x_3 &&& 1) (fun x_4 => op_k (x_4.toInt64) (fun x_5 => op_k (-x_5) (fun x_6 => some x_6))))) else (if v0 < 0 ∨ 6 ≤ v0.toNatClampNeg then none else op_k (cf_fpats v0.toNatClampNeg) (fun x_8 => some x_8)))
noncomputable def fFu_inputWord (v0 : Int32) (v1 : Int32) : Option (Int64) := fFu_inputWord_0 v0 v1
noncomputable def fFu_word_0 (v1 : Int32) (v2 : Int32) (o0 : cf_O) : Option (Int64) :=
  op_k (v1 >>> ((1 : Int32) &&& 31)) (fun x_1 => op_k (x_1 * 4) (fun x_2 => op_k (x_2 + v2) (fun x_3 => (if x_3 < 0 ∨ 836 ≤ x_3.toNatClampNeg then none else op_k (o0.2.2 1 x_3.toNatClampNeg) (fun x_5 => op_k (v1 &&& 1) (fun x_6 => op_k (x_6.toInt64) (fun x_7 => op_k (-x_7) (fun x_8 => op_k (x_5 ^^^ x_8) (fun x_9 => some x_9)))))))))
noncomputable def fFu_word (v1 : Int32) (v2 : Int32) (o0 : cf_O) : Option (Int64) := fFu_word_0 v1 v2 o0
noncomputable def fFu_find_55 (rc : Nat → Int32 → Int32 → cf_O → cf_O → Option (cf_O)) (v2 : Int32) (v3 : Int32) (o0 : cf_O) (o1 : cf_O) : Option (cf_O) :=
  Option.bind (fGr_size o1) (fun q_1 => (if q_1 ≤ v3 then op_k (v2 + 1) (fun x_5 => rc 0 x_5 0 o0 o1) else op_k (v3 * 4) (fun x_6 => op_k (x_6 + v2) (fun x_7 => (if v3 < 0 ∨ 209 ≤ v3.toNatClampNeg then none else op_k (o1.2.1 4 v3.toNatClampNeg) (fun x_9 => Option.bind (fFu_word x_9 v2 o0) (fun q_10 => (if v3 < 0 ∨ 209 ≤ v3.toNatClampNeg then none else op_k (o1.2.1 5 v3.toNatClampNeg) (fun x_14 => Option.bind (fFu_word x_14 v2 o0) (fun q_15 => op_k (q_10 &&& q_15) (fun x_18 => (if x_7 < 0 ∨ 836 ≤ x_7.toNatClampNeg then none else op_k (yp o0 1 x_7.toNatClampNeg x_18) (fun o_20 => op_k (v3 + 1) (fun x_21 => rc 2 v2 x_21 o_20 o1))))))))))))))
noncomputable def fFu_find_17 (rc : Nat → Int32 → Int32 → cf_O → cf_O → Option (cf_O)) (v2 : Int32) (v3 : Int32) (o0 : cf_O) (o1 : cf_O) : Option (cf_O) :=
  (if (o1.1 0) ≤ v3 then op_k ((o1.1 0) + 1) (fun x_2 => rc 2 v2 x_2 o0 o1) else op_k (v3 + 1) (fun x_3 => op_k (x_3 * 4) (fun x_4 => op_k (x_4 + v2) (fun x_5 => Option.bind (fFu_inputWord v3 v2) (fun q_6 => (if x_5 < 0 ∨ 836 ≤ x_5.toNatClampNeg then none else op_k (yp o0 1 x_5.toNatClampNeg q_6) (fun o_10 => op_k (v3 + 1) (fun x_11 => rc 1 v2 x_11 o_10 o1))))))))
noncomputable def fFu_find_10 (rc : Nat → Int32 → Int32 → cf_O → cf_O → Option (cf_O)) (v2 : Int32) (o0 : cf_O) (o1 : cf_O) : Option (cf_O) :=
  (if (4 : Int32) ≤ v2 then op_k (fp o0 0 1) (fun o_2 => some o_2) else rc 1 v2 0 o0 o1)
noncomputable def fFu_find_0 (rc : Nat → Int32 → Int32 → cf_O → cf_O → Option (cf_O)) (o0 : cf_O) (o1 : cf_O) : Option (cf_O) :=
  (if (o0.1 0) = (0 : Int32) then rc 0 0 0 o0 o1 else some o0)
noncomputable def gFu_find (n : Nat) : Nat → Int32 → Int32 → cf_O → cf_O → Option (cf_O) := Nat.rec (motive := fun _ => Nat → Int32 → Int32 → cf_O → cf_O → Option (cf_O)) (fun _ _ _ _ _ => none) (fun _ rc => fun k u2i u3i o0 o1 => Nat.rec (motive := fun _ => Option (cf_O)) (fFu_find_10 rc u2i o0 o1) (fun k _ => Nat.rec (motive := fun _ => Option (cf_O)) (fFu_find_17 rc u2i u3i o0 o1) (fun k _ => Nat.rec (motive := fun _ => Option (cf_O)) (fFu_find_55 rc u2i u3i o0 o1) (fun k _ => none) k) k) k) n
noncomputable def fFu_find (o0 : cf_O) (o1 : cf_O) : Option (cf_O) := fFu_find_0 (gFu_find cfFU) o0 o1
noncomputable def fFu_bit_0 (v1 : Int32) (v2 : Int32) (o0 : cf_O) : Option (Int32) :=
  op_k (v2 >>> ((6 : Int32) &&& 31)) (fun x_1 => Option.bind (fFu_word v1 x_1 o0) (fun q_2 => op_k (v2 &&& 63) (fun x_5 => op_k ((q_2.toUInt64 >>> (x_5.toInt64.toUInt64 &&& Int64.toUInt64 63)).toInt64) (fun x_6 => op_k (x_6 &&& 1) (fun x_7 => op_k (x_7.toInt32) (fun x_8 => some x_8))))))
noncomputable def fFu_bit (v1 : Int32) (v2 : Int32) (o0 : cf_O) : Option (Int32) := fFu_bit_0 v1 v2 o0
noncomputable def fJInteger_numberOfTrailingZeros_I_74 (v0 : Int32) (v1 : Int32) : Option (Int32) :=
  op_k ((v0.toUInt32 >>> ((1 : Int32).toUInt32 &&& Int32.toUInt32 31)).toInt32) (fun x_1 => op_k (v1 + x_1) (fun x_2 => some x_2))
noncomputable def fJInteger_numberOfTrailingZeros_I_62 (v0 : Int32) (v1 : Int32) : Option (Int32) :=
  (if v0 ≤ (4 : Int32) then fJInteger_numberOfTrailingZeros_I_74 v0 v1 else op_k (v1 + 2) (fun x_2 => op_k ((v0.toUInt32 >>> ((2 : Int32).toUInt32 &&& Int32.toUInt32 31)).toInt32) (fun x_3 => fJInteger_numberOfTrailingZeros_I_74 x_3 x_2)))
noncomputable def fJInteger_numberOfTrailingZeros_I_49 (v0 : Int32) (v1 : Int32) : Option (Int32) :=
  (if v0 ≤ (16 : Int32) then fJInteger_numberOfTrailingZeros_I_62 v0 v1 else op_k (v1 + 4) (fun x_2 => op_k ((v0.toUInt32 >>> ((4 : Int32).toUInt32 &&& Int32.toUInt32 31)).toInt32) (fun x_3 => fJInteger_numberOfTrailingZeros_I_62 x_3 x_2)))
noncomputable def fJInteger_numberOfTrailingZeros_I_34 (v0 : Int32) (v1 : Int32) : Option (Int32) :=
  (if v0 ≤ (256 : Int32) then fJInteger_numberOfTrailingZeros_I_49 v0 v1 else op_k (v1 + 8) (fun x_2 => op_k ((v0.toUInt32 >>> ((8 : Int32).toUInt32 &&& Int32.toUInt32 31)).toInt32) (fun x_3 => fJInteger_numberOfTrailingZeros_I_49 x_3 x_2)))
noncomputable def fJInteger_numberOfTrailingZeros_I_0 (v0 : Int32) : Option (Int32) :=
  op_k (v0 ^^^ (-1)) (fun x_1 => op_k (v0 - 1) (fun x_2 => op_k (x_1 &&& x_2) (fun x_3 => (if (0 : Int32) < x_3 then (if x_3 ≤ (65536 : Int32) then fJInteger_numberOfTrailingZeros_I_34 x_3 1 else op_k ((x_3.toUInt32 >>> ((16 : Int32).toUInt32 &&& Int32.toUInt32 31)).toInt32) (fun x_6 => fJInteger_numberOfTrailingZeros_I_34 x_6 17)) else op_k (x_3 &&& 32) (fun x_7 => some x_7)))))
noncomputable def fJInteger_numberOfTrailingZeros_I (v0 : Int32) : Option (Int32) := fJInteger_numberOfTrailingZeros_I_0 v0
noncomputable def fJLong_numberOfTrailingZeros_J_25 (s0 : Int32) : Option (Int32) :=
  some s0
noncomputable def fJLong_numberOfTrailingZeros_J_0 (v0 : Int64) : Option (Int32) :=
  op_k (v0.toInt32) (fun x_1 => (if x_1 = (0 : Int32) then op_k ((v0.toUInt64 >>> ((32 : Int32).toInt64.toUInt64 &&& Int64.toUInt64 63)).toInt64) (fun x_6 => op_k (x_6.toInt32) (fun x_7 => Option.bind (fJInteger_numberOfTrailingZeros_I x_7) (fun q_8 => op_k (32 + q_8) (fun x_11 => fJLong_numberOfTrailingZeros_J_25 x_11)))) else Option.bind (fJInteger_numberOfTrailingZeros_I x_1) (fun q_3 => fJLong_numberOfTrailingZeros_J_25 q_3)))
noncomputable def fJLong_numberOfTrailingZeros_J (v0 : Int64) : Option (Int32) := fJLong_numberOfTrailingZeros_J_0 v0
noncomputable def fFu_leastUnlike_2 (rc : Nat → Int32 → Int32 → Int32 → cf_O → Option (Int32)) (v1 : Int32) (v2 : Int32) (v3 : Int32) (o0 : cf_O) : Option (Int32) :=
  (if (4 : Int32) ≤ v3 then some ((-1) : Int32) else Option.bind (fFu_word v1 v3 o0) (fun q_2 => Option.bind (fFu_word v2 v3 o0) (fun q_5 => op_k (q_2 ^^^ q_5) (fun x_8 => op_k (lg_cmp x_8 (0 : Int64)) (fun x_9 => (if x_9 = (0 : Int32) then op_k (v3 + 1) (fun x_11 => rc 0 v1 v2 x_11 o0) else op_k (64 * v3) (fun x_12 => Option.bind (fJLong_numberOfTrailingZeros_J x_8) (fun q_13 => op_k (x_12 + q_13) (fun x_16 => some x_16)))))))))
noncomputable def fFu_leastUnlike_0 (rc : Nat → Int32 → Int32 → Int32 → cf_O → Option (Int32)) (v1 : Int32) (v2 : Int32) (o0 : cf_O) : Option (Int32) :=
  rc 0 v1 v2 0 o0
noncomputable def gFu_leastUnlike (n : Nat) : Nat → Int32 → Int32 → Int32 → cf_O → Option (Int32) := Nat.rec (motive := fun _ => Nat → Int32 → Int32 → Int32 → cf_O → Option (Int32)) (fun _ _ _ _ _ => none) (fun _ rc => fun k u1i u2i u3i o0 => Nat.rec (motive := fun _ => Option (Int32)) (fFu_leastUnlike_2 rc u1i u2i u3i o0) (fun k _ => none) k) n
noncomputable def fFu_leastUnlike (v1 : Int32) (v2 : Int32) (o0 : cf_O) : Option (Int32) := fFu_leastUnlike_0 (gFu_leastUnlike cfFU) v1 v2 o0
noncomputable def fFu_areSame_15 (s0 : Int32) (o0 : cf_O) : Option (Int32) :=
  (if ¬ (s0 = 0 ∨ s0 = 1) then none else some s0)
noncomputable def fFu_areSame_0 (v1 : Int32) (v2 : Int32) (o0 : cf_O) : Option (Int32) :=
  Option.bind (fFu_leastUnlike v1 v2 o0) (fun q_1 => (if q_1 = ((-1) : Int32) then fFu_areSame_15 1 o0 else fFu_areSame_15 0 o0))
noncomputable def fFu_areSame (v1 : Int32) (v2 : Int32) (o0 : cf_O) : Option (Int32) := fFu_areSame_0 v1 v2 o0
noncomputable def fFu_ones_5 (rc : Nat → Int32 → Int32 → Int32 → Int32 → cf_O → Option (Int32)) (v1 : Int32) (v2 : Int32) (v3 : Int32) (v4 : Int32) (o0 : cf_O) : Option (Int32) :=
  (if (4 : Int32) ≤ v4 then op_k (8 - v2) (fun x_2 => op_k (v3 >>> (x_2 &&& 31)) (fun x_3 => some x_3)) else Option.bind (fFu_word v1 v4 o0) (fun q_4 => Option.bind (fJLong_bitCount_J q_4) (fun q_7 => op_k (v3 + q_7) (fun x_10 => op_k (v4 + 1) (fun x_11 => rc 0 v1 v2 x_10 x_11 o0)))))
noncomputable def fFu_ones_0 (rc : Nat → Int32 → Int32 → Int32 → Int32 → cf_O → Option (Int32)) (v1 : Int32) (v2 : Int32) (o0 : cf_O) : Option (Int32) :=
  rc 0 v1 v2 0 0 o0
noncomputable def gFu_ones (n : Nat) : Nat → Int32 → Int32 → Int32 → Int32 → cf_O → Option (Int32) := Nat.rec (motive := fun _ => Nat → Int32 → Int32 → Int32 → Int32 → cf_O → Option (Int32)) (fun _ _ _ _ _ _ => none) (fun _ rc => fun k u1i u2i u3i u4i o0 => Nat.rec (motive := fun _ => Option (Int32)) (fFu_ones_5 rc u1i u2i u3i u4i o0) (fun k _ => none) k) n
noncomputable def fFu_ones (v1 : Int32) (v2 : Int32) (o0 : cf_O) : Option (Int32) := fFu_ones_0 (gFu_ones cfFU) v1 v2 o0
noncomputable def fFu_firstAsked_10 (rc : Nat → Int32 → Int32 → Int32 → Int32 → cf_O → Option (Int32)) (v1 : Int32) (v2 : Int32) (v3 : Int32) (v4 : Int32) (o0 : cf_O) : Option (Int32) :=
  op_k ((1 : Int32) <<< (v2 &&& 31)) (fun x_1 => (if x_1 ≤ v4 then op_k (v3 + 1) (fun x_3 => rc 0 v1 v2 x_3 0 o0) else Option.bind (fFu_bit v1 v4 o0) (fun q_4 => op_k ((1 : Int32) <<< (v3 &&& 31)) (fun x_7 => op_k (v4 ^^^ x_7) (fun x_8 => Option.bind (fFu_bit v1 x_8 o0) (fun q_9 => (if q_4 = q_9 then op_k (v4 + 1) (fun x_13 => rc 1 v1 v2 v3 x_13 o0) else some v3)))))))
noncomputable def fFu_firstAsked_2 (rc : Nat → Int32 → Int32 → Int32 → Int32 → cf_O → Option (Int32)) (v1 : Int32) (v2 : Int32) (v3 : Int32) (o0 : cf_O) : Option (Int32) :=
  (if v2 ≤ v3 then some ((-1) : Int32) else rc 1 v1 v2 v3 0 o0)
noncomputable def fFu_firstAsked_0 (rc : Nat → Int32 → Int32 → Int32 → Int32 → cf_O → Option (Int32)) (v1 : Int32) (v2 : Int32) (o0 : cf_O) : Option (Int32) :=
  rc 0 v1 v2 0 0 o0
noncomputable def gFu_firstAsked (n : Nat) : Nat → Int32 → Int32 → Int32 → Int32 → cf_O → Option (Int32) := Nat.rec (motive := fun _ => Nat → Int32 → Int32 → Int32 → Int32 → cf_O → Option (Int32)) (fun _ _ _ _ _ _ => none) (fun _ rc => fun k u1i u2i u3i u4i o0 => Nat.rec (motive := fun _ => Option (Int32)) (fFu_firstAsked_2 rc u1i u2i u3i o0) (fun k _ => Nat.rec (motive := fun _ => Option (Int32)) (fFu_firstAsked_10 rc u1i u2i u3i u4i o0) (fun k _ => none) k) k) n
noncomputable def fFu_firstAsked (v1 : Int32) (v2 : Int32) (o0 : cf_O) : Option (Int32) := fFu_firstAsked_0 (gFu_firstAsked cfFU) v1 v2 o0
noncomputable def fFu_questionOf_34 (rc : Nat → Int32 → Int32 → Int32 → Int32 → cf_O → Option (Int32)) (v1 : Int32) (v2 : Int32) (v3 : Int32) (v4 : Int32) (o0 : cf_O) : Option (Int32) :=
  op_k (v4 + 1) (fun x_1 => rc 0 v1 v2 v3 x_1 o0)
noncomputable def fFu_questionOf_3 (rc : Nat → Int32 → Int32 → Int32 → Int32 → cf_O → Option (Int32)) (v1 : Int32) (v2 : Int32) (v3 : Int32) (v4 : Int32) (o0 : cf_O) : Option (Int32) :=
  (if v3 ≤ v4 then some v3 else (if v4 < 0 ∨ 128 ≤ v4.toNatClampNeg then none else op_k (o0.2.1 3 v4.toNatClampNeg) (fun x_3 => (if x_3 = v1 then (if v4 < 0 ∨ 128 ≤ v4.toNatClampNeg then none else op_k (o0.2.1 4 v4.toNatClampNeg) (fun x_6 => (if x_6 = v2 then some v4 else fFu_questionOf_34 rc v1 v2 v3 v4 o0))) else fFu_questionOf_34 rc v1 v2 v3 v4 o0))))
noncomputable def fFu_questionOf_0 (rc : Nat → Int32 → Int32 → Int32 → Int32 → cf_O → Option (Int32)) (v1 : Int32) (v2 : Int32) (v3 : Int32) (o0 : cf_O) : Option (Int32) :=
  rc 0 v1 v2 v3 0 o0
noncomputable def gFu_questionOf (n : Nat) : Nat → Int32 → Int32 → Int32 → Int32 → cf_O → Option (Int32) := Nat.rec (motive := fun _ => Nat → Int32 → Int32 → Int32 → Int32 → cf_O → Option (Int32)) (fun _ _ _ _ _ _ => none) (fun _ rc => fun k u1i u2i u3i u4i o0 => Nat.rec (motive := fun _ => Option (Int32)) (fFu_questionOf_3 rc u1i u2i u3i u4i o0) (fun k _ => none) k) n
noncomputable def fFu_questionOf (v1 : Int32) (v2 : Int32) (v3 : Int32) (o0 : cf_O) : Option (Int32) := fFu_questionOf_0 (gFu_questionOf cfFU) v1 v2 v3 o0
noncomputable def fFu_askInput_92 (rc : Nat → Int32 → Int32 → Int32 → Int32 → cf_O → Option (Int32 × cf_O)) (v1 : Int32) (v2 : Int32) (v3 : Int32) (v4 : Int32) (o0 : cf_O) : Option (Int32 × cf_O) :=
  op_k (v4 + 1) (fun x_1 => rc 0 v1 v2 v3 x_1 o0)
noncomputable def fFu_askInput_81 (rc : Nat → Int32 → Int32 → Int32 → Int32 → cf_O → Option (Int32 × cf_O)) (v1 : Int32) (v2 : Int32) (v3 : Int32) (v4 : Int32) (v7 : Int32) (o0 : cf_O) : Option (Int32 × cf_O) :=
  op_k (v2 + v7) (fun x_1 => (if v4 < 0 ∨ 256 ≤ v4.toNatClampNeg then none else op_k (xp o0 2 v4.toNatClampNeg x_1) (fun o_3 => fFu_askInput_92 rc v1 v2 v3 v4 o_3)))
noncomputable def fFu_askInput_5 (rc : Nat → Int32 → Int32 → Int32 → Int32 → cf_O → Option (Int32 × cf_O)) (v1 : Int32) (v2 : Int32) (v3 : Int32) (v4 : Int32) (o0 : cf_O) : Option (Int32 × cf_O) :=
  op_k ((1 : Int32) <<< (v1 &&& 31)) (fun x_1 => (if x_1 ≤ v4 then some (v3, o0) else (if v4 < 0 ∨ 256 ≤ v4.toNatClampNeg then none else op_k (o0.2.1 2 v4.toNatClampNeg) (fun x_4 => op_k ((1 : Int32) <<< (v1 &&& 31)) (fun x_5 => op_k (v4 + x_5) (fun x_6 => (if x_6 < 0 ∨ 256 ≤ x_6.toNatClampNeg then none else op_k (o0.2.1 2 x_6.toNatClampNeg) (fun x_8 => (if x_4 = x_8 then fFu_askInput_92 rc v1 v2 v3 v4 o0 else Option.bind (fFu_questionOf x_4 x_8 v3 o0) (fun q_10 => (if q_10 = v3 then (if v3 < 0 ∨ 128 ≤ v3.toNatClampNeg then none else op_k (xp o0 3 v3.toNatClampNeg x_4) (fun o_15 => (if v3 < 0 ∨ 128 ≤ v3.toNatClampNeg then none else op_k (xp o_15 4 v3.toNatClampNeg x_8) (fun o_17 => op_k (v3 + 1) (fun x_18 => fFu_askInput_81 rc v1 v2 x_18 v4 q_10 o_17))))) else fFu_askInput_81 rc v1 v2 v3 v4 q_10 o0)))))))))))
noncomputable def fFu_askInput_0 (rc : Nat → Int32 → Int32 → Int32 → Int32 → cf_O → Option (Int32 × cf_O)) (v1 : Int32) (v2 : Int32) (o0 : cf_O) : Option (Int32 × cf_O) :=
  rc 0 v1 v2 0 0 o0
noncomputable def gFu_askInput (n : Nat) : Nat → Int32 → Int32 → Int32 → Int32 → cf_O → Option (Int32 × cf_O) := Nat.rec (motive := fun _ => Nat → Int32 → Int32 → Int32 → Int32 → cf_O → Option (Int32 × cf_O)) (fun _ _ _ _ _ _ => none) (fun _ rc => fun k u1i u2i u3i u4i o0 => Nat.rec (motive := fun _ => Option (Int32 × cf_O)) (fFu_askInput_5 rc u1i u2i u3i u4i o0) (fun k _ => none) k) n
noncomputable def fFu_askInput (v1 : Int32) (v2 : Int32) (o0 : cf_O) : Option (Int32 × cf_O) := fFu_askInput_0 (gFu_askInput cfFU) v1 v2 o0
noncomputable def fFu_questions_34 (rc : Nat → Int32 → Int32 → Int32 → Int32 → cf_O → Option (Int32 × cf_O)) (v3 : Int32) (v4 : Int32) (o0 : cf_O) : Option (Int32 × cf_O) :=
  (if v4 < (0 : Int32) then some (v3, o0) else op_k (v3 + 2) (fun x_2 => Option.bind (fFu_askInput v4 x_2 o0) (fun q_3 => op_k (v3 + q_3.1) (fun x_6 => op_k (v4 + (-1)) (fun x_7 => rc 1 0 0 x_6 x_7 q_3.2)))))
noncomputable def fFu_questions_2 (rc : Nat → Int32 → Int32 → Int32 → Int32 → cf_O → Option (Int32 × cf_O)) (v1 : Int32) (v2 : Int32) (v3 : Int32) (o0 : cf_O) : Option (Int32 × cf_O) :=
  op_k ((1 : Int32) <<< (v2 &&& 31)) (fun x_1 => (if x_1 ≤ v3 then op_k (v2 - 1) (fun x_3 => rc 1 0 0 0 x_3 o0) else Option.bind (fFu_bit v1 v3 o0) (fun q_4 => (if v3 < 0 ∨ 256 ≤ v3.toNatClampNeg then none else op_k (xp o0 2 v3.toNatClampNeg q_4) (fun o_8 => op_k (v3 + 1) (fun x_9 => rc 0 v1 v2 x_9 0 o_8))))))
noncomputable def fFu_questions_0 (rc : Nat → Int32 → Int32 → Int32 → Int32 → cf_O → Option (Int32 × cf_O)) (v1 : Int32) (v2 : Int32) (o0 : cf_O) : Option (Int32 × cf_O) :=
  rc 0 v1 v2 0 0 o0
noncomputable def gFu_questions (n : Nat) : Nat → Int32 → Int32 → Int32 → Int32 → cf_O → Option (Int32 × cf_O) := Nat.rec (motive := fun _ => Nat → Int32 → Int32 → Int32 → Int32 → cf_O → Option (Int32 × cf_O)) (fun _ _ _ _ _ _ => none) (fun _ rc => fun k u1i u2i u3i u4i o0 => Nat.rec (motive := fun _ => Option (Int32 × cf_O)) (fFu_questions_2 rc u1i u2i u3i o0) (fun k _ => Nat.rec (motive := fun _ => Option (Int32 × cf_O)) (fFu_questions_34 rc u3i u4i o0) (fun k _ => none) k) k) n
noncomputable def fFu_questions (v1 : Int32) (v2 : Int32) (o0 : cf_O) : Option (Int32 × cf_O) := fFu_questions_0 (gFu_questions cfFU) v1 v2 o0
noncomputable def fJArrays_fill_AII_Gr8_5 (rc : Nat → Int32 → Int32 → Int32 → cf_O → Option (cf_O)) (v1 : Int32) (v2 : Int32) (v3 : Int32) (o0 : cf_O) : Option (cf_O) :=
  (if v3 ≤ v2 then some o0 else (if v2 < 0 ∨ 418 ≤ v2.toNatClampNeg then none else op_k (xp o0 8 v2.toNatClampNeg v1) (fun o_3 => op_k (v2 + 1) (fun x_4 => rc 0 v1 x_4 v3 o_3))))
noncomputable def fJArrays_fill_AII_Gr8_0 (rc : Nat → Int32 → Int32 → Int32 → cf_O → Option (cf_O)) (v1 : Int32) (o0 : cf_O) : Option (cf_O) :=
  rc 0 v1 0 418 o0
noncomputable def gJArrays_fill_AII_Gr8 (n : Nat) : Nat → Int32 → Int32 → Int32 → cf_O → Option (cf_O) := Nat.rec (motive := fun _ => Nat → Int32 → Int32 → Int32 → cf_O → Option (cf_O)) (fun _ _ _ _ _ => none) (fun _ rc => fun k u1i u2i u3i o0 => Nat.rec (motive := fun _ => Option (cf_O)) (fJArrays_fill_AII_Gr8_5 rc u1i u2i u3i o0) (fun k _ => none) k) n
noncomputable def fJArrays_fill_AII_Gr8 (v1 : Int32) (o0 : cf_O) : Option (cf_O) := fJArrays_fill_AII_Gr8_0 (gJArrays_fill_AII_Gr8 cfFU) v1 o0
noncomputable def fJArrays_fill_AII_Gr6_5 (rc : Nat → Int32 → Int32 → Int32 → cf_O → Option (cf_O)) (v1 : Int32) (v2 : Int32) (v3 : Int32) (o0 : cf_O) : Option (cf_O) :=
  (if v3 ≤ v2 then some o0 else (if v2 < 0 ∨ 209 ≤ v2.toNatClampNeg then none else op_k (xp o0 6 v2.toNatClampNeg v1) (fun o_3 => op_k (v2 + 1) (fun x_4 => rc 0 v1 x_4 v3 o_3))))
noncomputable def fJArrays_fill_AII_Gr6_0 (rc : Nat → Int32 → Int32 → Int32 → cf_O → Option (cf_O)) (v1 : Int32) (o0 : cf_O) : Option (cf_O) :=
  rc 0 v1 0 209 o0
noncomputable def gJArrays_fill_AII_Gr6 (n : Nat) : Nat → Int32 → Int32 → Int32 → cf_O → Option (cf_O) := Nat.rec (motive := fun _ => Nat → Int32 → Int32 → Int32 → cf_O → Option (cf_O)) (fun _ _ _ _ _ => none) (fun _ rc => fun k u1i u2i u3i o0 => Nat.rec (motive := fun _ => Option (cf_O)) (fJArrays_fill_AII_Gr6_5 rc u1i u2i u3i o0) (fun k _ => none) k) n
noncomputable def fJArrays_fill_AII_Gr6 (v1 : Int32) (o0 : cf_O) : Option (cf_O) := fJArrays_fill_AII_Gr6_0 (gJArrays_fill_AII_Gr6 cfFU) v1 o0
noncomputable def fGr_restart_0 (v1 : Int32) (v2 : Int32) (o0 : cf_O) : Option (cf_O) :=
  op_k (fp o0 0 v1) (fun o_1 => op_k (fp o_1 1 v2) (fun o_2 => op_k (fp o_2 2 0) (fun o_3 => op_k (fp o_3 3 0) (fun o_4 => Option.bind (fJArrays_fill_AII_Gr8 0 o_4) (fun q_5 => Option.bind (fJArrays_fill_AII_Gr6 0 q_5) (fun q_7 => some q_7))))))
noncomputable def fGr_restart (v1 : Int32) (v2 : Int32) (o0 : cf_O) : Option (cf_O) := fGr_restart_0 v1 v2 o0
noncomputable def fGr_greatestLevel_4 (rc : Nat → Int32 → Int32 → cf_O → Option (Int32)) (v1 : Int32) (v2 : Int32) (o0 : cf_O) : Option (Int32) :=
  (if (o0.1 1) ≤ v2 then some v1 else (if v2 < 0 ∨ 6 ≤ v2.toNatClampNeg then none else op_k (o0.2.1 7 v2.toNatClampNeg) (fun x_3 => op_k (x_3 >>> ((1 : Int32) &&& 31)) (fun x_4 => (if x_4 < 0 ∨ 209 ≤ x_4.toNatClampNeg then none else op_k (o0.2.1 6 x_4.toNatClampNeg) (fun x_6 => op_k (op_mx v1 x_6) (fun x_7 => op_k (v2 + 1) (fun x_8 => rc 0 x_7 x_8 o0))))))))
noncomputable def fGr_greatestLevel_0 (rc : Nat → Int32 → Int32 → cf_O → Option (Int32)) (o0 : cf_O) : Option (Int32) :=
  rc 0 0 0 o0
noncomputable def gGr_greatestLevel (n : Nat) : Nat → Int32 → Int32 → cf_O → Option (Int32) := Nat.rec (motive := fun _ => Nat → Int32 → Int32 → cf_O → Option (Int32)) (fun _ _ _ _ => none) (fun _ rc => fun k u1i u2i o0 => Nat.rec (motive := fun _ => Option (Int32)) (fGr_greatestLevel_4 rc u1i u2i o0) (fun k _ => none) k) n
noncomputable def fGr_greatestLevel (o0 : cf_O) : Option (Int32) := fGr_greatestLevel_0 (gGr_greatestLevel cfFU) o0
noncomputable def fGr_gateThere_45 (rc : Nat → Int32 → Int32 → Int32 → cf_O → Option (Int32)) (v3 : Int32) (o0 : cf_O) : Option (Int32) :=
  some v3
noncomputable def fGr_gateThere_10 (rc : Nat → Int32 → Int32 → Int32 → cf_O → Option (Int32)) (v2 : Int32) (v3 : Int32) (v4 : Int32) (o0 : cf_O) : Option (Int32) :=
  (if (200 : Int32) ≤ v4 then fGr_gateThere_45 rc v3 o0 else (if v3 = (0 : Int32) then fGr_gateThere_45 rc v3 o0 else (if v3 < 0 ∨ 209 ≤ v3.toNatClampNeg then none else op_k (o0.2.1 5 v3.toNatClampNeg) (fun x_4 => (if x_4 = v2 then fGr_gateThere_45 rc v3 o0 else (if v3 < 0 ∨ 209 ≤ v3.toNatClampNeg then none else op_k (o0.2.1 9 v3.toNatClampNeg) (fun x_7 => op_k (v4 + 1) (fun x_8 => rc 0 v2 x_7 x_8 o0))))))))
noncomputable def fGr_gateThere_0 (rc : Nat → Int32 → Int32 → Int32 → cf_O → Option (Int32)) (v1 : Int32) (v2 : Int32) (o0 : cf_O) : Option (Int32) :=
  (if v1 < 0 ∨ 418 ≤ v1.toNatClampNeg then none else op_k (o0.2.1 8 v1.toNatClampNeg) (fun x_2 => rc 0 v2 x_2 0 o0))
noncomputable def gGr_gateThere (n : Nat) : Nat → Int32 → Int32 → Int32 → cf_O → Option (Int32) := Nat.rec (motive := fun _ => Nat → Int32 → Int32 → Int32 → cf_O → Option (Int32)) (fun _ _ _ _ _ => none) (fun _ rc => fun k u2i u3i u4i o0 => Nat.rec (motive := fun _ => Option (Int32)) (fGr_gateThere_10 rc u2i u3i u4i o0) (fun k _ => none) k) n
noncomputable def fGr_gateThere (v1 : Int32) (v2 : Int32) (o0 : cf_O) : Option (Int32) := fGr_gateThere_0 (gGr_gateThere cfFU) v1 v2 o0
noncomputable def fGr_newGate_0 (v1 : Int32) (v2 : Int32) (o0 : cf_O) : Option (Int32 × cf_O) :=
  (if (o0.1 2) = (200 : Int32) then op_k (fp o0 3 1) (fun o_27 => some ((0 : Int32), o_27)) else Option.bind (fGr_size o0) (fun q_2 => op_k ((o0.1 2) + 1) (fun x_5 => op_k (fp o0 2 x_5) (fun o_6 => (if q_2 < 0 ∨ 209 ≤ q_2.toNatClampNeg then none else op_k (xp o_6 4 q_2.toNatClampNeg v1) (fun o_8 => (if q_2 < 0 ∨ 209 ≤ q_2.toNatClampNeg then none else op_k (xp o_8 5 q_2.toNatClampNeg v2) (fun o_10 => op_k (v1 >>> ((1 : Int32) &&& 31)) (fun x_11 => (if x_11 < 0 ∨ 209 ≤ x_11.toNatClampNeg then none else op_k (o_10.2.1 6 x_11.toNatClampNeg) (fun x_13 => op_k (v2 >>> ((1 : Int32) &&& 31)) (fun x_14 => (if x_14 < 0 ∨ 209 ≤ x_14.toNatClampNeg then none else op_k (o_10.2.1 6 x_14.toNatClampNeg) (fun x_16 => op_k (op_mx x_13 x_16) (fun x_17 => op_k (1 + x_17) (fun x_18 => (if q_2 < 0 ∨ 209 ≤ q_2.toNatClampNeg then none else op_k (xp o_10 6 q_2.toNatClampNeg x_18) (fun o_20 => (if v1 < 0 ∨ 418 ≤ v1.toNatClampNeg then none else op_k (o_20.2.1 8 v1.toNatClampNeg) (fun x_22 => (if q_2 < 0 ∨ 209 ≤ q_2.toNatClampNeg then none else op_k (xp o_20 9 q_2.toNatClampNeg x_22) (fun o_24 => (if v1 < 0 ∨ 418 ≤ v1.toNatClampNeg then none else op_k (xp o_24 8 v1.toNatClampNeg q_2) (fun o_26 => some (q_2, o_26)))))))))))))))))))))))))
noncomputable def fGr_newGate (v1 : Int32) (v2 : Int32) (o0 : cf_O) : Option (Int32 × cf_O) := fGr_newGate_0 v1 v2 o0
noncomputable def fGr_and_70 (s0 : Int32) (s1 : Int32) (o0 : cf_O) : Option (Int32 × cf_O) :=
  op_k (s0 * s1) (fun x_1 => some (x_1, o0))
noncomputable def fGr_and_23 (v3 : Int32) (o0 : cf_O) : Option (Int32 × cf_O) :=
  some (v3, o0)
noncomputable def fGr_and_0 (v1 : Int32) (v2 : Int32) (o0 : cf_O) : Option (Int32 × cf_O) :=
  op_k (op_mn v1 v2) (fun x_1 => op_k (op_mx v1 v2) (fun x_2 => (if x_1 = (0 : Int32) then fGr_and_23 x_1 o0 else (if x_1 = x_2 then fGr_and_23 x_1 o0 else (if x_1 = (1 : Int32) then some (x_2, o0) else op_k (x_1 ^^^ 1) (fun x_6 => (if x_6 = x_2 then some ((0 : Int32), o0) else Option.bind (fGr_gateThere x_1 x_2 o0) (fun q_8 => (if q_8 = (0 : Int32) then Option.bind (fGr_newGate x_1 x_2 o0) (fun q_12 => fGr_and_70 2 q_12.1 q_12.2) else fGr_and_70 2 q_8 o0)))))))))
noncomputable def fGr_and (v1 : Int32) (v2 : Int32) (o0 : cf_O) : Option (Int32 × cf_O) := fGr_and_0 v1 v2 o0
noncomputable def fGr_or_0 (v1 : Int32) (v2 : Int32) (o0 : cf_O) : Option (Int32 × cf_O) :=
  op_k (v1 ^^^ 1) (fun x_1 => op_k (v2 ^^^ 1) (fun x_2 => Option.bind (fGr_and x_1 x_2 o0) (fun q_3 => op_k (q_3.1 ^^^ 1) (fun x_6 => some (x_6, q_3.2)))))
noncomputable def fGr_or (v1 : Int32) (v2 : Int32) (o0 : cf_O) : Option (Int32 × cf_O) := fGr_or_0 v1 v2 o0
noncomputable def fTx_rewind_0 (o0 : cf_O) : Option (cf_O) :=
  op_k (fp o0 6 0) (fun o_1 => op_k (fp o_1 4 (-1)) (fun o_2 => some o_2))
noncomputable def fTx_rewind (o0 : cf_O) : Option (cf_O) := fTx_rewind_0 o0
noncomputable def fTx_splitLine_142 (rc : Nat → Int32 → Int32 → Int32 → cf_O → Option (cf_O)) (v3 : Int32) (o0 : cf_O) : Option (cf_O) :=
  op_k (v3 + 1) (fun x_1 => op_k (fp o0 6 x_1) (fun o_2 => some o_2))
noncomputable def fTx_splitLine_133 (rc : Nat → Int32 → Int32 → Int32 → cf_O → Option (cf_O)) (v1 : Int32) (v3 : Int32) (v4 : Int32) (o0 : cf_O) : Option (cf_O) :=
  op_k (v3 + 1) (fun x_1 => rc 0 v1 v4 x_1 o0)
noncomputable def fTx_splitLine_114 (rc : Nat → Int32 → Int32 → Int32 → cf_O → Option (cf_O)) (v1 : Int32) (v3 : Int32) (v4 : Int32) (o0 : cf_O) : Option (cf_O) :=
  (if v4 = (0 : Int32) then fTx_splitLine_133 rc v1 v3 v4 o0 else op_k ((o0.1 5) - 1) (fun x_2 => op_k (v3 + 1) (fun x_3 => (if x_2 < 0 ∨ 10 ≤ x_2.toNatClampNeg then none else op_k (xp o0 2 x_2.toNatClampNeg x_3) (fun o_5 => fTx_splitLine_133 rc v1 v3 v4 o_5)))))
noncomputable def fTx_splitLine_74 (rc : Nat → Int32 → Int32 → Int32 → cf_O → Option (cf_O)) (v1 : Int32) (v2 : Int32) (v3 : Int32) (s0 : Int32) (o0 : cf_O) : Option (cf_O) :=
  (if s0 = (0 : Int32) then fTx_splitLine_114 rc v1 v3 s0 o0 else (if v2 = (0 : Int32) then (if (10 : Int32) ≤ (o0.1 5) then fTx_splitLine_114 rc v1 v3 s0 o0 else (if (o0.1 5) < 0 ∨ 10 ≤ (o0.1 5).toNatClampNeg then none else op_k (xp o0 1 (o0.1 5).toNatClampNeg v3) (fun o_5 => op_k ((o_5.1 5) + 1) (fun x_6 => op_k (fp o_5 5 x_6) (fun o_7 => fTx_splitLine_114 rc v1 v3 s0 o_7))))) else fTx_splitLine_114 rc v1 v3 s0 o0))
noncomputable def fTx_splitLine_73 (rc : Nat → Int32 → Int32 → Int32 → cf_O → Option (cf_O)) (v1 : Int32) (v2 : Int32) (v3 : Int32) (o0 : cf_O) : Option (cf_O) :=
  fTx_splitLine_74 rc v1 v2 v3 0 o0
noncomputable def fTx_splitLine_53 (rc : Nat → Int32 → Int32 → Int32 → cf_O → Option (cf_O)) (v2 : Int32) (v3 : Int32) (s0 : Int32) (o0 : cf_O) : Option (cf_O) :=
  (if s0 = (0 : Int32) then fTx_splitLine_73 rc s0 v2 v3 o0 else (if v3 < 0 ∨ 1600 ≤ v3.toNatClampNeg then none else op_k (o0.2.1 0 v3.toNatClampNeg) (fun x_3 => (if x_3 = (32 : Int32) then fTx_splitLine_73 rc s0 v2 v3 o0 else fTx_splitLine_74 rc s0 v2 v3 1 o0))))
noncomputable def fTx_splitLine_52 (rc : Nat → Int32 → Int32 → Int32 → cf_O → Option (cf_O)) (v2 : Int32) (v3 : Int32) (o0 : cf_O) : Option (cf_O) :=
  fTx_splitLine_53 rc v2 v3 0 o0
noncomputable def fTx_splitLine_14 (rc : Nat → Int32 → Int32 → Int32 → cf_O → Option (cf_O)) (v1 : Int32) (v2 : Int32) (v3 : Int32) (o0 : cf_O) : Option (cf_O) :=
  (if (o0.1 3) ≤ v3 then fTx_splitLine_142 rc v3 o0 else (if v3 < 0 ∨ 1600 ≤ v3.toNatClampNeg then none else op_k (o0.2.1 0 v3.toNatClampNeg) (fun x_3 => (if x_3 = (10 : Int32) then fTx_splitLine_142 rc v3 o0 else (if v1 = (0 : Int32) then fTx_splitLine_52 rc v2 v3 o0 else (if v3 < 0 ∨ 1600 ≤ v3.toNatClampNeg then none else op_k (o0.2.1 0 v3.toNatClampNeg) (fun x_7 => (if x_7 = (35 : Int32) then fTx_splitLine_52 rc v2 v3 o0 else fTx_splitLine_53 rc v2 v3 1 o0))))))))
noncomputable def fTx_splitLine_0 (rc : Nat → Int32 → Int32 → Int32 → cf_O → Option (cf_O)) (o0 : cf_O) : Option (cf_O) :=
  op_k (fp o0 5 0) (fun o_1 => rc 0 1 0 (o0.1 6) o_1)
noncomputable def gTx_splitLine (n : Nat) : Nat → Int32 → Int32 → Int32 → cf_O → Option (cf_O) := Nat.rec (motive := fun _ => Nat → Int32 → Int32 → Int32 → cf_O → Option (cf_O)) (fun _ _ _ _ _ => none) (fun _ rc => fun k u1i u2i u3i o0 => Nat.rec (motive := fun _ => Option (cf_O)) (fTx_splitLine_14 rc u1i u2i u3i o0) (fun k _ => none) k) n
noncomputable def fTx_splitLine (o0 : cf_O) : Option (cf_O) := fTx_splitLine_0 (gTx_splitLine cfFU) o0
noncomputable def fTx_toNextLine_49 (rc : Nat → Int32 → cf_O → Option (Int32 × cf_O)) (o0 : cf_O) : Option (Int32 × cf_O) :=
  op_k ((o0.1 4) + 1) (fun x_1 => op_k (fp o0 4 x_1) (fun o_2 => some ((0 : Int32), o_2)))
noncomputable def fTx_toNextLine_2 (rc : Nat → Int32 → cf_O → Option (Int32 × cf_O)) (v1 : Int32) (o0 : cf_O) : Option (Int32 × cf_O) :=
  (if (1600 : Int32) < v1 then fTx_toNextLine_49 rc o0 else (if (o0.1 3) < (o0.1 6) then fTx_toNextLine_49 rc o0 else op_k ((o0.1 4) + 1) (fun x_3 => op_k (fp o0 4 x_3) (fun o_4 => Option.bind (fTx_splitLine o_4) (fun q_5 => (if (q_5.1 5) ≤ (0 : Int32) then op_k (v1 + 1) (fun x_8 => rc 0 x_8 q_5) else some ((1 : Int32), q_5)))))))
noncomputable def fTx_toNextLine_0 (rc : Nat → Int32 → cf_O → Option (Int32 × cf_O)) (o0 : cf_O) : Option (Int32 × cf_O) :=
  rc 0 0 o0
noncomputable def gTx_toNextLine (n : Nat) : Nat → Int32 → cf_O → Option (Int32 × cf_O) := Nat.rec (motive := fun _ => Nat → Int32 → cf_O → Option (Int32 × cf_O)) (fun _ _ _ => none) (fun _ rc => fun k u1i o0 => Nat.rec (motive := fun _ => Option (Int32 × cf_O)) (fTx_toNextLine_2 rc u1i o0) (fun k _ => none) k) n
noncomputable def fTx_toNextLine (o0 : cf_O) : Option (Int32 × cf_O) := fTx_toNextLine_0 (gTx_toNextLine cfFU) o0
noncomputable def fTx_length_0 (v1 : Int32) (o0 : cf_O) : Option (Int32) :=
  (if v1 < 0 ∨ 10 ≤ v1.toNatClampNeg then none else op_k (o0.2.1 2 v1.toNatClampNeg) (fun x_2 => (if v1 < 0 ∨ 10 ≤ v1.toNatClampNeg then none else op_k (o0.2.1 1 v1.toNatClampNeg) (fun x_4 => op_k (x_2 - x_4) (fun x_5 => some x_5)))))
noncomputable def fTx_length (v1 : Int32) (o0 : cf_O) : Option (Int32) := fTx_length_0 v1 o0
noncomputable def fJString_coder__S0_14 (s0 : Int32) : Option (Int32) :=
  (if ¬ (vp_nar .byte s0 = s0) then none else some s0)
noncomputable def fJString_coder__S0_0 : Option (Int32) :=
  fJString_coder__S0_14 0
noncomputable def fJString_coder__S0 : Option (Int32) := fJString_coder__S0_0
noncomputable def fJString_length__S0_0 : Option (Int32) :=
  Option.bind (fJString_coder__S0) (fun q_1 => op_k ((4 : Int32) >>> (q_1 &&& 31)) (fun x_4 => some x_4))
noncomputable def fJString_length__S0 : Option (Int32) := fJString_length__S0_0
noncomputable def fTx_signOf_0 (v1 : Int32) (v2 : Int32) (o0 : cf_O) : Option (Int32) :=
  (if v1 < 0 ∨ 10 ≤ v1.toNatClampNeg then none else op_k (o0.2.1 1 v1.toNatClampNeg) (fun x_2 => op_k (x_2 + v2) (fun x_3 => (if x_3 < 0 ∨ 1600 ≤ x_3.toNatClampNeg then none else op_k (o0.2.1 0 x_3.toNatClampNeg) (fun x_5 => some x_5)))))
noncomputable def fTx_signOf (v1 : Int32) (v2 : Int32) (o0 : cf_O) : Option (Int32) := fTx_signOf_0 v1 v2 o0
noncomputable def fJString_isLatin1__S0_18 (s0 : Int32) : Option (Int32) :=
  (if ¬ (s0 = 0 ∨ s0 = 1) then none else some s0)
noncomputable def fJString_isLatin1__S0_17 : Option (Int32) :=
  fJString_isLatin1__S0_18 0
noncomputable def fJString_isLatin1__S0_0 : Option (Int32) :=
  fJString_isLatin1__S0_18 1
noncomputable def fJString_isLatin1__S0 : Option (Int32) := fJString_isLatin1__S0_0
noncomputable def fJPreconditions_checkIndex_IILjavautilfunctionBiFunction_N0_9 (v0 : Int32) (v1 : Int32) : Option (Int32) :=
  none
noncomputable def fJPreconditions_checkIndex_IILjavautilfunctionBiFunction_N0_0 (v0 : Int32) (v1 : Int32) : Option (Int32) :=
  (if v0 < (0 : Int32) then fJPreconditions_checkIndex_IILjavautilfunctionBiFunction_N0_9 v0 v1 else (if v0 < v1 then some v0 else fJPreconditions_checkIndex_IILjavautilfunctionBiFunction_N0_9 v0 v1))
noncomputable def fJPreconditions_checkIndex_IILjavautilfunctionBiFunction_N0 (v0 : Int32) (v1 : Int32) : Option (Int32) := fJPreconditions_checkIndex_IILjavautilfunctionBiFunction_N0_0 v0 v1
noncomputable def fJPreconditions_checkIndex_IILjavautilfunctionBiFunction_T0_9 (v0 : Int32) (v1 : Int32) : Option (Int32) :=
  none
noncomputable def fJPreconditions_checkIndex_IILjavautilfunctionBiFunction_T0_0 (v0 : Int32) (v1 : Int32) : Option (Int32) :=
  (if v0 < (0 : Int32) then fJPreconditions_checkIndex_IILjavautilfunctionBiFunction_T0_9 v0 v1 else (if v0 < v1 then some v0 else fJPreconditions_checkIndex_IILjavautilfunctionBiFunction_T0_9 v0 v1))
noncomputable def fJPreconditions_checkIndex_IILjavautilfunctionBiFunction_T0 (v0 : Int32) (v1 : Int32) : Option (Int32) := fJPreconditions_checkIndex_IILjavautilfunctionBiFunction_T0_0 v0 v1
noncomputable def fJString_checkIndex_II_0 (v0 : Int32) (v1 : Int32) : Option (Unit) :=
  Option.bind (fJPreconditions_checkIndex_IILjavautilfunctionBiFunction_N0 v0 v1) (fun q_1 => some ())
noncomputable def fJString_checkIndex_II (v0 : Int32) (v1 : Int32) : Option (Unit) := fJString_checkIndex_II_0 v0 v1
noncomputable def fJStringLatin1_charAt_ABI_B0_0 (v1 : Int32) : Option (Int32) :=
  Option.bind (fJString_checkIndex_II v1 4) (fun q_1 => (if v1 < 0 ∨ 4 ≤ v1.toNatClampNeg then none else op_k (cf_sb 0 v1.toNatClampNeg) (fun x_4 => op_k (x_4 &&& 255) (fun x_5 => op_k ((x_5.toUInt32 % 65536).toInt32) (fun x_6 => (if ¬ (vp_nar .char x_6 = x_6) then none else some x_6))))))
noncomputable def fJStringLatin1_charAt_ABI_B0 (v1 : Int32) : Option (Int32) := fJStringLatin1_charAt_ABI_B0_0 v1
noncomputable def fJString_charAt_I_S0_0 (v1 : Int32) : Option (Int32) :=
  Option.bind (fJString_isLatin1__S0) (fun q_1 => (if q_1 = (0 : Int32) then none else Option.bind (fJStringLatin1_charAt_ABI_B0 v1) (fun q_5 => (if ¬ (vp_nar .char q_5 = q_5) then none else some q_5))))
noncomputable def fJString_charAt_I_S0 (v1 : Int32) : Option (Int32) := fJString_charAt_I_S0_0 v1
noncomputable def fTx_isWord_S0_16 (rc : Nat → Int32 → Int32 → cf_O → Option (Int32)) (v1 : Int32) (v3 : Int32) (o0 : cf_O) : Option (Int32) :=
  Option.bind (fJString_length__S0) (fun q_1 => (if q_1 ≤ v3 then some (1 : Int32) else Option.bind (fTx_signOf v1 v3 o0) (fun q_5 => Option.bind (fJString_charAt_I_S0 v3) (fun q_8 => (if q_5 = q_8 then op_k (v3 + 1) (fun x_12 => rc 0 v1 x_12 o0) else some (0 : Int32))))))
noncomputable def fTx_isWord_S0_0 (rc : Nat → Int32 → Int32 → cf_O → Option (Int32)) (v1 : Int32) (o0 : cf_O) : Option (Int32) :=
  Option.bind (fTx_length v1 o0) (fun q_1 => Option.bind (fJString_length__S0) (fun q_4 => (if q_1 = q_4 then rc 0 v1 0 o0 else some (0 : Int32))))
noncomputable def gTx_isWord_S0 (n : Nat) : Nat → Int32 → Int32 → cf_O → Option (Int32) := Nat.rec (motive := fun _ => Nat → Int32 → Int32 → cf_O → Option (Int32)) (fun _ _ _ _ => none) (fun _ rc => fun k u1i u3i o0 => Nat.rec (motive := fun _ => Option (Int32)) (fTx_isWord_S0_16 rc u1i u3i o0) (fun k _ => none) k) n
noncomputable def fTx_isWord_S0 (v1 : Int32) (o0 : cf_O) : Option (Int32) := fTx_isWord_S0_0 (gTx_isWord_S0 cfFU) v1 o0
noncomputable def fJString_coder__S1_14 (s0 : Int32) : Option (Int32) :=
  (if ¬ (vp_nar .byte s0 = s0) then none else some s0)
noncomputable def fJString_coder__S1_0 : Option (Int32) :=
  fJString_coder__S1_14 0
noncomputable def fJString_coder__S1 : Option (Int32) := fJString_coder__S1_0
noncomputable def fJString_length__S1_0 : Option (Int32) :=
  Option.bind (fJString_coder__S1) (fun q_1 => op_k ((4 : Int32) >>> (q_1 &&& 31)) (fun x_4 => some x_4))
noncomputable def fJString_length__S1 : Option (Int32) := fJString_length__S1_0
noncomputable def fJString_isLatin1__S1_18 (s0 : Int32) : Option (Int32) :=
  (if ¬ (s0 = 0 ∨ s0 = 1) then none else some s0)
noncomputable def fJString_isLatin1__S1_17 : Option (Int32) :=
  fJString_isLatin1__S1_18 0
noncomputable def fJString_isLatin1__S1_0 : Option (Int32) :=
  fJString_isLatin1__S1_18 1
noncomputable def fJString_isLatin1__S1 : Option (Int32) := fJString_isLatin1__S1_0
noncomputable def fJStringLatin1_charAt_ABI_B1_0 (v1 : Int32) : Option (Int32) :=
  Option.bind (fJString_checkIndex_II v1 4) (fun q_1 => (if v1 < 0 ∨ 4 ≤ v1.toNatClampNeg then none else op_k (cf_sb 1 v1.toNatClampNeg) (fun x_4 => op_k (x_4 &&& 255) (fun x_5 => op_k ((x_5.toUInt32 % 65536).toInt32) (fun x_6 => (if ¬ (vp_nar .char x_6 = x_6) then none else some x_6))))))
noncomputable def fJStringLatin1_charAt_ABI_B1 (v1 : Int32) : Option (Int32) := fJStringLatin1_charAt_ABI_B1_0 v1
noncomputable def fJString_charAt_I_S1_0 (v1 : Int32) : Option (Int32) :=
  Option.bind (fJString_isLatin1__S1) (fun q_1 => (if q_1 = (0 : Int32) then none else Option.bind (fJStringLatin1_charAt_ABI_B1 v1) (fun q_5 => (if ¬ (vp_nar .char q_5 = q_5) then none else some q_5))))
noncomputable def fJString_charAt_I_S1 (v1 : Int32) : Option (Int32) := fJString_charAt_I_S1_0 v1
noncomputable def fTx_isWord_S1_16 (rc : Nat → Int32 → Int32 → cf_O → Option (Int32)) (v1 : Int32) (v3 : Int32) (o0 : cf_O) : Option (Int32) :=
  Option.bind (fJString_length__S1) (fun q_1 => (if q_1 ≤ v3 then some (1 : Int32) else Option.bind (fTx_signOf v1 v3 o0) (fun q_5 => Option.bind (fJString_charAt_I_S1 v3) (fun q_8 => (if q_5 = q_8 then op_k (v3 + 1) (fun x_12 => rc 0 v1 x_12 o0) else some (0 : Int32))))))
noncomputable def fTx_isWord_S1_0 (rc : Nat → Int32 → Int32 → cf_O → Option (Int32)) (v1 : Int32) (o0 : cf_O) : Option (Int32) :=
  Option.bind (fTx_length v1 o0) (fun q_1 => Option.bind (fJString_length__S1) (fun q_4 => (if q_1 = q_4 then rc 0 v1 0 o0 else some (0 : Int32))))
noncomputable def gTx_isWord_S1 (n : Nat) : Nat → Int32 → Int32 → cf_O → Option (Int32) := Nat.rec (motive := fun _ => Nat → Int32 → Int32 → cf_O → Option (Int32)) (fun _ _ _ _ => none) (fun _ rc => fun k u1i u3i o0 => Nat.rec (motive := fun _ => Option (Int32)) (fTx_isWord_S1_16 rc u1i u3i o0) (fun k _ => none) k) n
noncomputable def fTx_isWord_S1 (v1 : Int32) (o0 : cf_O) : Option (Int32) := fTx_isWord_S1_0 (gTx_isWord_S1 cfFU) v1 o0
noncomputable def fTx_isNameSign_47 (s0 : Int32) : Option (Int32) :=
  (if ¬ (s0 = 0 ∨ s0 = 1) then none else some s0)
noncomputable def fTx_isNameSign_42 : Option (Int32) :=
  fTx_isNameSign_47 1
noncomputable def fTx_isNameSign_36 (v0 : Int32) : Option (Int32) :=
  (if v0 = (95 : Int32) then fTx_isNameSign_42 else fTx_isNameSign_47 0)
noncomputable def fTx_isNameSign_24 (v0 : Int32) : Option (Int32) :=
  (if v0 < (48 : Int32) then fTx_isNameSign_36 v0 else (if v0 ≤ (57 : Int32) then fTx_isNameSign_42 else fTx_isNameSign_36 v0))
noncomputable def fTx_isNameSign_12 (v0 : Int32) : Option (Int32) :=
  (if v0 < (65 : Int32) then fTx_isNameSign_24 v0 else (if v0 ≤ (90 : Int32) then fTx_isNameSign_42 else fTx_isNameSign_24 v0))
noncomputable def fTx_isNameSign_0 (v0 : Int32) : Option (Int32) :=
  (if v0 < (97 : Int32) then fTx_isNameSign_12 v0 else (if v0 ≤ (122 : Int32) then fTx_isNameSign_42 else fTx_isNameSign_12 v0))
noncomputable def fTx_isNameSign (v0 : Int32) : Option (Int32) := fTx_isNameSign_0 v0
noncomputable def fTx_name_17 (rc : Nat → Int32 → Int64 → Int32 → cf_O → Option (Int64)) (v1 : Int32) (v2 : Int64) (v4 : Int32) (o0 : cf_O) : Option (Int64) :=
  Option.bind (fTx_length v1 o0) (fun q_1 => (if q_1 ≤ v4 then some v2 else Option.bind (fTx_signOf v1 v4 o0) (fun q_5 => Option.bind (fTx_isNameSign q_5) (fun q_8 => (if q_8 = (0 : Int32) then some (0 : Int64) else op_k (v2 <<< ((8 : Int32).toInt64 &&& 63)) (fun x_12 => op_k (q_5.toInt64) (fun x_13 => op_k (x_12 ||| x_13) (fun x_14 => op_k (v4 + 1) (fun x_15 => rc 0 v1 x_14 x_15 o0)))))))))
noncomputable def fTx_name_0 (rc : Nat → Int32 → Int64 → Int32 → cf_O → Option (Int64)) (v1 : Int32) (o0 : cf_O) : Option (Int64) :=
  Option.bind (fTx_length v1 o0) (fun q_1 => (if q_1 ≤ (8 : Int32) then rc 0 v1 0 0 o0 else some (0 : Int64)))
noncomputable def gTx_name (n : Nat) : Nat → Int32 → Int64 → Int32 → cf_O → Option (Int64) := Nat.rec (motive := fun _ => Nat → Int32 → Int64 → Int32 → cf_O → Option (Int64)) (fun _ _ _ _ _ => none) (fun _ rc => fun k u1i u2l u4i o0 => Nat.rec (motive := fun _ => Option (Int64)) (fTx_name_17 rc u1i u2l u4i o0) (fun k _ => none) k) n
noncomputable def fTx_name (v1 : Int32) (o0 : cf_O) : Option (Int64) := fTx_name_0 (gTx_name cfFU) v1 o0
noncomputable def fTx_digits_49 (rc : Nat → Int32 → Int32 → Int32 → cf_O → Option (Int32)) (o0 : cf_O) : Option (Int32) :=
  some ((-1) : Int32)
noncomputable def fTx_digits_16 (rc : Nat → Int32 → Int32 → Int32 → cf_O → Option (Int32)) (v1 : Int32) (v3 : Int32) (v4 : Int32) (o0 : cf_O) : Option (Int32) :=
  Option.bind (fTx_length v1 o0) (fun q_1 => (if q_1 ≤ v4 then some v3 else Option.bind (fTx_signOf v1 v4 o0) (fun q_5 => (if q_5 < (48 : Int32) then fTx_digits_49 rc o0 else (if q_5 ≤ (57 : Int32) then op_k (10 * v3) (fun x_10 => op_k (x_10 + q_5) (fun x_11 => op_k (x_11 - 48) (fun x_12 => op_k (v4 + 1) (fun x_13 => rc 0 v1 x_12 x_13 o0)))) else fTx_digits_49 rc o0)))))
noncomputable def fTx_digits_0 (rc : Nat → Int32 → Int32 → Int32 → cf_O → Option (Int32)) (v1 : Int32) (v2 : Int32) (o0 : cf_O) : Option (Int32) :=
  Option.bind (fTx_length v1 o0) (fun q_1 => (if q_1 ≤ v2 then rc 0 v1 0 0 o0 else some ((-1) : Int32)))
noncomputable def gTx_digits (n : Nat) : Nat → Int32 → Int32 → Int32 → cf_O → Option (Int32) := Nat.rec (motive := fun _ => Nat → Int32 → Int32 → Int32 → cf_O → Option (Int32)) (fun _ _ _ _ _ => none) (fun _ rc => fun k u1i u3i u4i o0 => Nat.rec (motive := fun _ => Option (Int32)) (fTx_digits_16 rc u1i u3i u4i o0) (fun k _ => none) k) n
noncomputable def fTx_digits (v1 : Int32) (v2 : Int32) (o0 : cf_O) : Option (Int32) := fTx_digits_0 (gTx_digits cfFU) v1 v2 o0
noncomputable def fTx_bits_45 (rc : Nat → Int32 → Int32 → Int32 → Int32 → cf_O → Option (Int32)) (o0 : cf_O) : Option (Int32) :=
  some ((-1) : Int32)
noncomputable def fTx_bits_16 (rc : Nat → Int32 → Int32 → Int32 → Int32 → cf_O → Option (Int32)) (v1 : Int32) (v2 : Int32) (v3 : Int32) (v4 : Int32) (o0 : cf_O) : Option (Int32) :=
  (if v2 ≤ v4 then some v3 else Option.bind (fTx_signOf v1 v4 o0) (fun q_2 => op_k (q_2 - 48) (fun x_5 => (if x_5 < (0 : Int32) then fTx_bits_45 rc o0 else (if x_5 ≤ (1 : Int32) then op_k (x_5 <<< (v4 &&& 31)) (fun x_8 => op_k (v3 ||| x_8) (fun x_9 => op_k (v4 + 1) (fun x_10 => rc 0 v1 v2 x_9 x_10 o0))) else fTx_bits_45 rc o0)))))
noncomputable def fTx_bits_0 (rc : Nat → Int32 → Int32 → Int32 → Int32 → cf_O → Option (Int32)) (v1 : Int32) (v2 : Int32) (o0 : cf_O) : Option (Int32) :=
  Option.bind (fTx_length v1 o0) (fun q_1 => (if q_1 = v2 then rc 0 v1 v2 0 0 o0 else some ((-1) : Int32)))
noncomputable def gTx_bits (n : Nat) : Nat → Int32 → Int32 → Int32 → Int32 → cf_O → Option (Int32) := Nat.rec (motive := fun _ => Nat → Int32 → Int32 → Int32 → Int32 → cf_O → Option (Int32)) (fun _ _ _ _ _ _ => none) (fun _ rc => fun k u1i u2i u3i u4i o0 => Nat.rec (motive := fun _ => Option (Int32)) (fTx_bits_16 rc u1i u2i u3i u4i o0) (fun k _ => none) k) n
noncomputable def fTx_bits (v1 : Int32) (v2 : Int32) (o0 : cf_O) : Option (Int32) := fTx_bits_0 (gTx_bits cfFU) v1 v2 o0
noncomputable def fLi_takeCell_146 (rc : Nat → Int32 → cf_O → cf_O → Option (Int32 × cf_O)) (s0 : Int32) (o0 : cf_O) (o1 : cf_O) : Option (Int32 × cf_O) :=
  (if ¬ (s0 = 0 ∨ s0 = 1) then none else some (s0, o0))
noncomputable def fLi_takeCell_145 (rc : Nat → Int32 → cf_O → cf_O → Option (Int32 × cf_O)) (o0 : cf_O) (o1 : cf_O) : Option (Int32 × cf_O) :=
  fLi_takeCell_146 rc 0 o0 o1
noncomputable def fLi_takeCell_46 (rc : Nat → Int32 → cf_O → cf_O → Option (Int32 × cf_O)) (v2 : Int32) (o0 : cf_O) (o1 : cf_O) : Option (Int32 × cf_O) :=
  (if (3 : Int32) < v2 then some ((0 : Int32), o0) else Option.bind (fTx_length 4 o1) (fun q_2 => op_k ((1 : Int32) <<< (v2 &&& 31)) (fun x_5 => (if q_2 = x_5 then (if (o0.1 0) < 0 ∨ 12 ≤ (o0.1 0).toNatClampNeg then none else op_k (xp o0 5 (o0.1 0).toNatClampNeg v2) (fun o_9 => op_k ((1 : Int32) <<< (v2 &&& 31)) (fun x_10 => Option.bind (fTx_bits 4 x_10 o1) (fun q_11 => (if (o_9.1 0) < 0 ∨ 12 ≤ (o_9.1 0).toNatClampNeg then none else op_k (xp o_9 6 (o_9.1 0).toNatClampNeg q_11) (fun o_15 => (if (o_15.1 0) < 0 ∨ 12 ≤ (o_15.1 0).toNatClampNeg then none else op_k (o_15.2.2 2 (o_15.1 0).toNatClampNeg) (fun x_17 => op_k (lg_cmp x_17 (0 : Int64)) (fun x_18 => (if x_18 = (0 : Int32) then fLi_takeCell_145 rc o_15 o1 else (if (o_15.1 0) < 0 ∨ 12 ≤ (o_15.1 0).toNatClampNeg then none else op_k (o_15.2.1 3 (o_15.1 0).toNatClampNeg) (fun x_21 => (if x_21 = ((-1) : Int32) then fLi_takeCell_145 rc o_15 o1 else (if (o_15.1 0) < 0 ∨ 12 ≤ (o_15.1 0).toNatClampNeg then none else op_k (o_15.2.1 4 (o_15.1 0).toNatClampNeg) (fun x_24 => (if x_24 ≤ (0 : Int32) then fLi_takeCell_145 rc o_15 o1 else (if (o_15.1 0) < 0 ∨ 12 ≤ (o_15.1 0).toNatClampNeg then none else op_k (o_15.2.1 6 (o_15.1 0).toNatClampNeg) (fun x_27 => (if x_27 = ((-1) : Int32) then fLi_takeCell_145 rc o_15 o1 else fLi_takeCell_146 rc 1 o_15 o1))))))))))))))))))) else op_k (v2 + 1) (fun x_7 => rc 0 x_7 o0 o1)))))
noncomputable def fLi_takeCell_0 (rc : Nat → Int32 → cf_O → cf_O → Option (Int32 × cf_O)) (o0 : cf_O) (o1 : cf_O) : Option (Int32 × cf_O) :=
  Option.bind (fTx_name 1 o1) (fun q_1 => (if (o0.1 0) < 0 ∨ 12 ≤ (o0.1 0).toNatClampNeg then none else op_k (yp o0 2 (o0.1 0).toNatClampNeg q_1) (fun o_5 => Option.bind (fTx_digits 2 3 o1) (fun q_6 => (if (o_5.1 0) < 0 ∨ 12 ≤ (o_5.1 0).toNatClampNeg then none else op_k (xp o_5 3 (o_5.1 0).toNatClampNeg q_6) (fun o_10 => Option.bind (fTx_digits 3 2 o1) (fun q_11 => (if (o_10.1 0) < 0 ∨ 12 ≤ (o_10.1 0).toNatClampNeg then none else op_k (xp o_10 4 (o_10.1 0).toNatClampNeg q_11) (fun o_15 => rc 0 1 o_15 o1)))))))))
noncomputable def gLi_takeCell (n : Nat) : Nat → Int32 → cf_O → cf_O → Option (Int32 × cf_O) := Nat.rec (motive := fun _ => Nat → Int32 → cf_O → cf_O → Option (Int32 × cf_O)) (fun _ _ _ _ => none) (fun _ rc => fun k u2i o0 o1 => Nat.rec (motive := fun _ => Option (Int32 × cf_O)) (fLi_takeCell_46 rc u2i o0 o1) (fun k _ => none) k) n
noncomputable def fLi_takeCell (o0 : cf_O) (o1 : cf_O) : Option (Int32 × cf_O) := fLi_takeCell_0 (gLi_takeCell cfFU) o0 o1
noncomputable def fLi_scanLine_70 (rc : Nat → Int32 → cf_O → cf_O → Option (Int32 × cf_O)) (v2 : Int32) (o0 : cf_O) (o1 : cf_O) : Option (Int32 × cf_O) :=
  (if (o0.1 0) ≤ v2 then op_k ((o0.1 0) + 1) (fun x_2 => op_k (fp o0 0 x_2) (fun o_3 => some ((0 : Int32), o_3))) else (if v2 < 0 ∨ 12 ≤ v2.toNatClampNeg then none else op_k (o0.2.2 2 v2.toNatClampNeg) (fun x_5 => (if (o0.1 0) < 0 ∨ 12 ≤ (o0.1 0).toNatClampNeg then none else op_k (o0.2.2 2 (o0.1 0).toNatClampNeg) (fun x_7 => op_k (lg_cmp x_5 x_7) (fun x_8 => (if x_8 = (0 : Int32) then some ((2 : Int32), o0) else op_k (v2 + 1) (fun x_10 => rc 0 x_10 o0 o1))))))))
noncomputable def fLi_scanLine_66 (rc : Nat → Int32 → cf_O → cf_O → Option (Int32 × cf_O)) (o0 : cf_O) (o1 : cf_O) : Option (Int32 × cf_O) :=
  some ((1 : Int32), o0)
noncomputable def fLi_scanLine_30 (rc : Nat → Int32 → cf_O → cf_O → Option (Int32 × cf_O)) (s0 : Int32) (o0 : cf_O) (o1 : cf_O) : Option (Int32 × cf_O) :=
  some (s0, o0)
noncomputable def fLi_scanLine_29 (rc : Nat → Int32 → cf_O → cf_O → Option (Int32 × cf_O)) (o0 : cf_O) (o1 : cf_O) : Option (Int32 × cf_O) :=
  fLi_scanLine_30 rc 1 o0 o1
noncomputable def fLi_scanLine_0 (rc : Nat → Int32 → cf_O → cf_O → Option (Int32 × cf_O)) (o0 : cf_O) (o1 : cf_O) : Option (Int32 × cf_O) :=
  Option.bind (fTx_isWord_S0 0 o1) (fun q_1 => (if q_1 = (0 : Int32) then Option.bind (fTx_isWord_S1 0 o1) (fun q_5 => (if q_5 = (0 : Int32) then fLi_scanLine_66 rc o0 o1 else (if (o1.1 5) = (5 : Int32) then (if (o0.1 0) = (12 : Int32) then fLi_scanLine_66 rc o0 o1 else Option.bind (fLi_takeCell o0 o1) (fun q_11 => (if q_11.1 = (0 : Int32) then fLi_scanLine_66 rc q_11.2 o1 else rc 0 0 q_11.2 o1))) else fLi_scanLine_66 rc o0 o1))) else (if (o1.1 5) = (1 : Int32) then (if (o0.1 0) ≤ (0 : Int32) then fLi_scanLine_29 rc o0 o1 else fLi_scanLine_30 rc 0 o0 o1) else fLi_scanLine_29 rc o0 o1)))
noncomputable def gLi_scanLine (n : Nat) : Nat → Int32 → cf_O → cf_O → Option (Int32 × cf_O) := Nat.rec (motive := fun _ => Nat → Int32 → cf_O → cf_O → Option (Int32 × cf_O)) (fun _ _ _ _ => none) (fun _ rc => fun k u2i o0 o1 => Nat.rec (motive := fun _ => Option (Int32 × cf_O)) (fLi_scanLine_70 rc u2i o0 o1) (fun k _ => none) k) n
noncomputable def fLi_scanLine (o0 : cf_O) (o1 : cf_O) : Option (Int32 × cf_O) := fLi_scanLine_0 (gLi_scanLine cfFU) o0 o1
noncomputable def fLi_isQuicker_50 (s0 : Int32) (o0 : cf_O) : Option (Int32) :=
  (if ¬ (s0 = 0 ∨ s0 = 1) then none else some s0)
noncomputable def fLi_isQuicker_49 (o0 : cf_O) : Option (Int32) :=
  fLi_isQuicker_50 0 o0
noncomputable def fLi_isQuicker_45 (o0 : cf_O) : Option (Int32) :=
  fLi_isQuicker_50 1 o0
noncomputable def fLi_isQuicker_0 (v1 : Int32) (v2 : Int32) (o0 : cf_O) : Option (Int32) :=
  (if v1 < 0 ∨ 12 ≤ v1.toNatClampNeg then none else op_k (o0.2.1 4 v1.toNatClampNeg) (fun x_2 => (if v2 < 0 ∨ 12 ≤ v2.toNatClampNeg then none else op_k (o0.2.1 4 v2.toNatClampNeg) (fun x_4 => (if x_2 < x_4 then fLi_isQuicker_45 o0 else (if v1 < 0 ∨ 12 ≤ v1.toNatClampNeg then none else op_k (o0.2.1 4 v1.toNatClampNeg) (fun x_7 => (if v2 < 0 ∨ 12 ≤ v2.toNatClampNeg then none else op_k (o0.2.1 4 v2.toNatClampNeg) (fun x_9 => (if x_7 = x_9 then (if v1 < 0 ∨ 12 ≤ v1.toNatClampNeg then none else op_k (o0.2.1 3 v1.toNatClampNeg) (fun x_12 => (if v2 < 0 ∨ 12 ≤ v2.toNatClampNeg then none else op_k (o0.2.1 3 v2.toNatClampNeg) (fun x_14 => (if x_14 ≤ x_12 then fLi_isQuicker_49 o0 else fLi_isQuicker_45 o0))))) else fLi_isQuicker_49 o0))))))))))
noncomputable def fLi_isQuicker (v1 : Int32) (v2 : Int32) (o0 : cf_O) : Option (Int32) := fLi_isQuicker_0 v1 v2 o0
noncomputable def fLi_findInverter_60 (rc : Nat → Int32 → cf_O → Option (cf_O)) (v1 : Int32) (o0 : cf_O) : Option (cf_O) :=
  op_k (v1 + 1) (fun x_1 => rc 0 x_1 o0)
noncomputable def fLi_findInverter_55 (rc : Nat → Int32 → cf_O → Option (cf_O)) (v1 : Int32) (o0 : cf_O) : Option (cf_O) :=
  op_k (fp o0 1 v1) (fun o_1 => fLi_findInverter_60 rc v1 o_1)
noncomputable def fLi_findInverter_7 (rc : Nat → Int32 → cf_O → Option (cf_O)) (v1 : Int32) (o0 : cf_O) : Option (cf_O) :=
  (if (o0.1 0) ≤ v1 then some o0 else (if v1 < 0 ∨ 12 ≤ v1.toNatClampNeg then none else op_k (o0.2.1 5 v1.toNatClampNeg) (fun x_3 => (if x_3 = (1 : Int32) then (if v1 < 0 ∨ 12 ≤ v1.toNatClampNeg then none else op_k (o0.2.1 6 v1.toNatClampNeg) (fun x_6 => (if x_6 = (1 : Int32) then (if (o0.1 1) = ((-1) : Int32) then fLi_findInverter_55 rc v1 o0 else Option.bind (fLi_isQuicker v1 (o0.1 1) o0) (fun q_9 => (if q_9 = (0 : Int32) then fLi_findInverter_60 rc v1 o0 else fLi_findInverter_55 rc v1 o0))) else fLi_findInverter_60 rc v1 o0))) else fLi_findInverter_60 rc v1 o0))))
noncomputable def fLi_findInverter_0 (rc : Nat → Int32 → cf_O → Option (cf_O)) (o0 : cf_O) : Option (cf_O) :=
  op_k (fp o0 1 (-1)) (fun o_1 => rc 0 0 o_1)
noncomputable def gLi_findInverter (n : Nat) : Nat → Int32 → cf_O → Option (cf_O) := Nat.rec (motive := fun _ => Nat → Int32 → cf_O → Option (cf_O)) (fun _ _ _ => none) (fun _ rc => fun k u1i o0 => Nat.rec (motive := fun _ => Option (cf_O)) (fLi_findInverter_7 rc u1i o0) (fun k _ => none) k) n
noncomputable def fLi_findInverter (o0 : cf_O) : Option (cf_O) := fLi_findInverter_0 (gLi_findInverter cfFU) o0
noncomputable def fJArrays_fill_AII_Li11_5 (rc : Nat → Int32 → Int32 → Int32 → cf_O → Option (cf_O)) (v1 : Int32) (v2 : Int32) (v3 : Int32) (o0 : cf_O) : Option (cf_O) :=
  (if v3 ≤ v2 then some o0 else (if v2 < 0 ∨ 512 ≤ v2.toNatClampNeg then none else op_k (xp o0 11 v2.toNatClampNeg v1) (fun o_3 => op_k (v2 + 1) (fun x_4 => rc 0 v1 x_4 v3 o_3))))
noncomputable def fJArrays_fill_AII_Li11_0 (rc : Nat → Int32 → Int32 → Int32 → cf_O → Option (cf_O)) (v1 : Int32) (o0 : cf_O) : Option (cf_O) :=
  rc 0 v1 0 512 o0
noncomputable def gJArrays_fill_AII_Li11 (n : Nat) : Nat → Int32 → Int32 → Int32 → cf_O → Option (cf_O) := Nat.rec (motive := fun _ => Nat → Int32 → Int32 → Int32 → cf_O → Option (cf_O)) (fun _ _ _ _ _ => none) (fun _ rc => fun k u1i u2i u3i o0 => Nat.rec (motive := fun _ => Option (cf_O)) (fJArrays_fill_AII_Li11_5 rc u1i u2i u3i o0) (fun k _ => none) k) n
noncomputable def fJArrays_fill_AII_Li11 (v1 : Int32) (o0 : cf_O) : Option (cf_O) := fJArrays_fill_AII_Li11_0 (gJArrays_fill_AII_Li11 cfFU) v1 o0
noncomputable def fLi_isEachOnce_43 (rc : Nat → Int32 → Int32 → Int32 → Int32 → Option (Int32)) (s0 : Int32) : Option (Int32) :=
  (if ¬ (s0 = 0 ∨ s0 = 1) then none else some s0)
noncomputable def fLi_isEachOnce_4 (rc : Nat → Int32 → Int32 → Int32 → Int32 → Option (Int32)) (v0 : Int32) (v1 : Int32) (v2 : Int32) (v3 : Int32) : Option (Int32) :=
  (if v1 ≤ v3 then op_k ((1 : Int32) <<< (v1 &&& 31)) (fun x_2 => op_k (x_2 - 1) (fun x_3 => (if v2 = x_3 then fLi_isEachOnce_43 rc 1 else fLi_isEachOnce_43 rc 0))) else op_k (3 * v3) (fun x_5 => op_k (x_5 + 1) (fun x_6 => op_k (v0 >>> (x_6 &&& 31)) (fun x_7 => op_k (x_7 &&& 3) (fun x_8 => op_k ((1 : Int32) <<< (x_8 &&& 31)) (fun x_9 => op_k (v2 ||| x_9) (fun x_10 => op_k (v3 + 1) (fun x_11 => rc 0 v0 v1 x_10 x_11))))))))
noncomputable def fLi_isEachOnce_0 (rc : Nat → Int32 → Int32 → Int32 → Int32 → Option (Int32)) (v0 : Int32) (v1 : Int32) : Option (Int32) :=
  rc 0 v0 v1 0 0
noncomputable def gLi_isEachOnce (n : Nat) : Nat → Int32 → Int32 → Int32 → Int32 → Option (Int32) := Nat.rec (motive := fun _ => Nat → Int32 → Int32 → Int32 → Int32 → Option (Int32)) (fun _ _ _ _ _ => none) (fun _ rc => fun k u0i u1i u2i u3i => Nat.rec (motive := fun _ => Option (Int32)) (fLi_isEachOnce_4 rc u0i u1i u2i u3i) (fun k _ => none) k) n
noncomputable def fLi_isEachOnce (v0 : Int32) (v1 : Int32) : Option (Int32) := fLi_isEachOnce_0 (gLi_isEachOnce cfFU) v0 v1
noncomputable def fLi_listOf_0 (v0 : Int32) (v1 : Int32) : Option (Int32) :=
  op_k ((1 : Int32) <<< (v0 &&& 31)) (fun x_1 => op_k ((1 : Int32) <<< (x_1 &&& 31)) (fun x_2 => op_k (x_2 + v1) (fun x_3 => some x_3)))
noncomputable def fLi_listOf (v0 : Int32) (v1 : Int32) : Option (Int32) := fLi_listOf_0 v0 v1
noncomputable def fLi_addWay_24 (rc : Nat → Int32 → Int32 → Int32 → Int32 → Int32 → Int32 → cf_O → Option (cf_O)) (v1 : Int32) (v2 : Int32) (v3 : Int32) (v4 : Int32) (v5 : Int32) (v6 : Int32) (o0 : cf_O) : Option (cf_O) :=
  (if v1 < 0 ∨ 12 ≤ v1.toNatClampNeg then none else op_k (o0.2.1 5 v1.toNatClampNeg) (fun x_2 => (if x_2 ≤ v6 then (if v1 < 0 ∨ 12 ≤ v1.toNatClampNeg then none else op_k (o0.2.1 6 v1.toNatClampNeg) (fun x_5 => op_k (x_5 >>> (v5 &&& 31)) (fun x_6 => op_k (x_6 &&& 1) (fun x_7 => op_k (x_7 <<< (v4 &&& 31)) (fun x_8 => op_k (v3 ||| x_8) (fun x_9 => op_k (v4 + 1) (fun x_10 => rc 0 v1 v2 x_9 x_10 0 0 o0))))))) else op_k (3 * v6) (fun x_11 => op_k (v2 >>> (x_11 &&& 31)) (fun x_12 => op_k (x_12 &&& 7) (fun x_13 => op_k (x_13 >>> ((1 : Int32) &&& 31)) (fun x_14 => op_k (v4 >>> (x_14 &&& 31)) (fun x_15 => op_k (x_15 &&& 1) (fun x_16 => op_k (x_13 &&& 1) (fun x_17 => op_k (x_16 ^^^ x_17) (fun x_18 => op_k (x_18 <<< (v6 &&& 31)) (fun x_19 => op_k (v5 ||| x_19) (fun x_20 => op_k (v6 + 1) (fun x_21 => rc 1 v1 v2 v3 v4 x_20 x_21 o0))))))))))))))
noncomputable def fLi_addWay_5 (rc : Nat → Int32 → Int32 → Int32 → Int32 → Int32 → Int32 → cf_O → Option (cf_O)) (v1 : Int32) (v2 : Int32) (v3 : Int32) (v4 : Int32) (o0 : cf_O) : Option (cf_O) :=
  (if v1 < 0 ∨ 12 ≤ v1.toNatClampNeg then none else op_k (o0.2.1 5 v1.toNatClampNeg) (fun x_2 => op_k ((1 : Int32) <<< (x_2 &&& 31)) (fun x_3 => (if x_3 ≤ v4 then (if v1 < 0 ∨ 12 ≤ v1.toNatClampNeg then none else op_k (o0.2.1 5 v1.toNatClampNeg) (fun x_6 => Option.bind (fLi_listOf x_6 v3) (fun q_7 => (if (o0.1 7) < 0 ∨ 576 ≤ (o0.1 7).toNatClampNeg then none else op_k (xp o0 8 (o0.1 7).toNatClampNeg v1) (fun o_11 => (if (o_11.1 7) < 0 ∨ 576 ≤ (o_11.1 7).toNatClampNeg then none else op_k (xp o_11 9 (o_11.1 7).toNatClampNeg v2) (fun o_13 => (if q_7 < 0 ∨ 512 ≤ q_7.toNatClampNeg then none else op_k (o_13.2.1 11 q_7.toNatClampNeg) (fun x_15 => (if (o_13.1 7) < 0 ∨ 576 ≤ (o_13.1 7).toNatClampNeg then none else op_k (xp o_13 10 (o_13.1 7).toNatClampNeg x_15) (fun o_17 => (if q_7 < 0 ∨ 512 ≤ q_7.toNatClampNeg then none else op_k (xp o_17 11 q_7.toNatClampNeg (o_17.1 7)) (fun o_19 => op_k ((o_19.1 7) + 1) (fun x_20 => op_k (fp o_19 7 x_20) (fun o_21 => some o_21))))))))))))))) else rc 1 v1 v2 v3 v4 0 0 o0))))
noncomputable def fLi_addWay_0 (rc : Nat → Int32 → Int32 → Int32 → Int32 → Int32 → Int32 → cf_O → Option (cf_O)) (v1 : Int32) (v2 : Int32) (o0 : cf_O) : Option (cf_O) :=
  rc 0 v1 v2 0 0 0 0 o0
noncomputable def gLi_addWay (n : Nat) : Nat → Int32 → Int32 → Int32 → Int32 → Int32 → Int32 → cf_O → Option (cf_O) := Nat.rec (motive := fun _ => Nat → Int32 → Int32 → Int32 → Int32 → Int32 → Int32 → cf_O → Option (cf_O)) (fun _ _ _ _ _ _ _ _ => none) (fun _ rc => fun k u1i u2i u3i u4i u5i u6i o0 => Nat.rec (motive := fun _ => Option (cf_O)) (fLi_addWay_5 rc u1i u2i u3i u4i o0) (fun k _ => Nat.rec (motive := fun _ => Option (cf_O)) (fLi_addWay_24 rc u1i u2i u3i u4i u5i u6i o0) (fun k _ => none) k) k) n
noncomputable def fLi_addWay (v1 : Int32) (v2 : Int32) (o0 : cf_O) : Option (cf_O) := fLi_addWay_0 (gLi_addWay cfFU) v1 v2 o0
noncomputable def fLi_findWays_74 (rc : Nat → Int32 → Int32 → cf_O → Option (cf_O)) (v1 : Int32) (o0 : cf_O) : Option (cf_O) :=
  op_k (v1 + 1) (fun x_1 => rc 0 x_1 0 o0)
noncomputable def fLi_findWays_68 (rc : Nat → Int32 → Int32 → cf_O → Option (cf_O)) (v1 : Int32) (v2 : Int32) (o0 : cf_O) : Option (cf_O) :=
  op_k (v2 + 1) (fun x_1 => rc 1 v1 x_1 o0)
noncomputable def fLi_findWays_25 (rc : Nat → Int32 → Int32 → cf_O → Option (cf_O)) (v1 : Int32) (v2 : Int32) (o0 : cf_O) : Option (cf_O) :=
  (if v1 < 0 ∨ 12 ≤ v1.toNatClampNeg then none else op_k (o0.2.1 5 v1.toNatClampNeg) (fun x_2 => (if x_2 ≤ (1 : Int32) then fLi_findWays_74 rc v1 o0 else (if v1 < 0 ∨ 12 ≤ v1.toNatClampNeg then none else op_k (o0.2.1 5 v1.toNatClampNeg) (fun x_5 => op_k (3 * x_5) (fun x_6 => op_k ((1 : Int32) <<< (x_6 &&& 31)) (fun x_7 => (if x_7 ≤ v2 then fLi_findWays_74 rc v1 o0 else (if v1 < 0 ∨ 12 ≤ v1.toNatClampNeg then none else op_k (o0.2.1 5 v1.toNatClampNeg) (fun x_10 => Option.bind (fLi_isEachOnce v2 x_10) (fun q_11 => (if q_11 = (0 : Int32) then fLi_findWays_68 rc v1 v2 o0 else Option.bind (fLi_addWay v1 v2 o0) (fun q_15 => fLi_findWays_68 rc v1 v2 q_15)))))))))))))
noncomputable def fLi_findWays_15 (rc : Nat → Int32 → Int32 → cf_O → Option (cf_O)) (v1 : Int32) (o0 : cf_O) : Option (cf_O) :=
  (if (o0.1 0) ≤ v1 then some o0 else rc 1 v1 0 o0)
noncomputable def fLi_findWays_0 (rc : Nat → Int32 → Int32 → cf_O → Option (cf_O)) (o0 : cf_O) : Option (cf_O) :=
  op_k (fp o0 7 0) (fun o_1 => Option.bind (fJArrays_fill_AII_Li11 (-1) o_1) (fun q_2 => rc 0 0 0 q_2))
noncomputable def gLi_findWays (n : Nat) : Nat → Int32 → Int32 → cf_O → Option (cf_O) := Nat.rec (motive := fun _ => Nat → Int32 → Int32 → cf_O → Option (cf_O)) (fun _ _ _ _ => none) (fun _ rc => fun k u1i u2i o0 => Nat.rec (motive := fun _ => Option (cf_O)) (fLi_findWays_15 rc u1i o0) (fun k _ => Nat.rec (motive := fun _ => Option (cf_O)) (fLi_findWays_25 rc u1i u2i o0) (fun k _ => none) k) k) n
noncomputable def fLi_findWays (o0 : cf_O) : Option (cf_O) := fLi_findWays_0 (gLi_findWays cfFU) o0
noncomputable def fLi_scan_64 (rc : Nat → Int32 → Int32 → cf_O → cf_O → Option (Int32 × cf_O × cf_O)) (v2 : Int32) (o0 : cf_O) (o1 : cf_O) : Option (Int32 × cf_O × cf_O) :=
  (if v2 = (0 : Int32) then some ((1 : Int32), o0, o1) else Option.bind (fLi_findInverter o0) (fun q_2 => Option.bind (fLi_findWays q_2) (fun q_4 => some ((0 : Int32), q_4, o1))))
noncomputable def fLi_scan_40 (rc : Nat → Int32 → Int32 → cf_O → cf_O → Option (Int32 × cf_O × cf_O)) (v3 : Int32) (s0 : Int32) (o0 : cf_O) (o1 : cf_O) : Option (Int32 × cf_O × cf_O) :=
  (if s0 = (0 : Int32) then Option.bind (fTx_isWord_S0 0 o1) (fun q_2 => op_k (v3 + 1) (fun x_5 => rc 0 q_2 x_5 o0 o1)) else some (s0, o0, o1))
noncomputable def fLi_scan_13 (rc : Nat → Int32 → Int32 → cf_O → cf_O → Option (Int32 × cf_O × cf_O)) (v2 : Int32) (v3 : Int32) (o0 : cf_O) (o1 : cf_O) : Option (Int32 × cf_O × cf_O) :=
  (if (1600 : Int32) < v3 then fLi_scan_64 rc v2 o0 o1 else Option.bind (fTx_toNextLine o1) (fun q_2 => (if q_2.1 = (0 : Int32) then fLi_scan_64 rc v2 o0 q_2.2 else (if v2 = (0 : Int32) then Option.bind (fLi_scanLine o0 q_2.2) (fun q_7 => fLi_scan_40 rc v3 q_7.1 q_7.2 q_2.2) else fLi_scan_40 rc v3 1 o0 q_2.2))))
noncomputable def fLi_scan_0 (rc : Nat → Int32 → Int32 → cf_O → cf_O → Option (Int32 × cf_O × cf_O)) (o0 : cf_O) (o1 : cf_O) : Option (Int32 × cf_O × cf_O) :=
  op_k (fp o0 0 0) (fun o_1 => Option.bind (fTx_rewind o1) (fun q_2 => rc 0 0 0 o_1 q_2))
noncomputable def gLi_scan (n : Nat) : Nat → Int32 → Int32 → cf_O → cf_O → Option (Int32 × cf_O × cf_O) := Nat.rec (motive := fun _ => Nat → Int32 → Int32 → cf_O → cf_O → Option (Int32 × cf_O × cf_O)) (fun _ _ _ _ _ => none) (fun _ rc => fun k u2i u3i o0 o1 => Nat.rec (motive := fun _ => Option (Int32 × cf_O × cf_O)) (fLi_scan_13 rc u2i u3i o0 o1) (fun k _ => none) k) n
noncomputable def fLi_scan (o0 : cf_O) (o1 : cf_O) : Option (Int32 × cf_O × cf_O) := fLi_scan_0 (gLi_scan cfFU) o0 o1
noncomputable def fMp_timeOf_0 (v0 : Int64) : Option (Int32) :=
  op_k ((v0.toUInt64 >>> ((44 : Int32).toInt64.toUInt64 &&& Int64.toUInt64 63)).toInt64) (fun x_1 => op_k (x_1.toInt32) (fun x_2 => some x_2))
noncomputable def fMp_timeOf (v0 : Int64) : Option (Int32) := fMp_timeOf_0 v0
noncomputable def fMp_cellOf_0 (v0 : Int64) : Option (Int32) :=
  op_k ((v0.toUInt64 >>> ((30 : Int32).toInt64.toUInt64 &&& Int64.toUInt64 63)).toInt64) (fun x_1 => op_k (x_1 &&& 15) (fun x_2 => op_k (x_2.toInt32) (fun x_3 => some x_3)))
noncomputable def fMp_cellOf (v0 : Int64) : Option (Int32) := fMp_cellOf_0 v0
noncomputable def fMp_pinOf_0 (v0 : Int64) (v2 : Int32) : Option (Int32) :=
  op_k (v2 + 1) (fun x_1 => op_k (10 * x_1) (fun x_2 => op_k (30 - x_2) (fun x_3 => op_k ((v0.toUInt64 >>> (x_3.toInt64.toUInt64 &&& Int64.toUInt64 63)).toInt64) (fun x_4 => op_k (x_4 &&& 1023) (fun x_5 => op_k (x_5.toInt32) (fun x_6 => some x_6))))))
noncomputable def fMp_pinOf (v0 : Int64) (v2 : Int32) : Option (Int32) := fMp_pinOf_0 v0 v2
noncomputable def fMp_pack_0 (v0 : Int32) (v1 : Int32) (v2 : Int64) (o0 : cf_O) : Option (Int64) :=
  (if v0 < 0 ∨ 12 ≤ v0.toNatClampNeg then none else op_k (o0.2.1 4 v0.toNatClampNeg) (fun x_2 => op_k (v1 + x_2) (fun x_3 => op_k (x_3.toInt64) (fun x_4 => op_k (x_4 <<< ((44 : Int32).toInt64 &&& 63)) (fun x_5 => (if v0 < 0 ∨ 12 ≤ v0.toNatClampNeg then none else op_k (o0.2.1 3 v0.toNatClampNeg) (fun x_7 => op_k (x_7.toInt64) (fun x_8 => op_k (x_8 <<< ((34 : Int32).toInt64 &&& 63)) (fun x_9 => op_k (x_5 ||| x_9) (fun x_10 => op_k (v0.toInt64) (fun x_11 => op_k (x_11 <<< ((30 : Int32).toInt64 &&& 63)) (fun x_12 => op_k (x_10 ||| x_12) (fun x_13 => op_k (x_13 ||| v2) (fun x_14 => some x_14))))))))))))))
noncomputable def fMp_pack (v0 : Int32) (v1 : Int32) (v2 : Int64) (o0 : cf_O) : Option (Int64) := fMp_pack_0 v0 v1 v2 o0
noncomputable def fMp_matchOf_17 (rc : Nat → Int32 → Int32 → Int32 → Int64 → Int32 → cf_O → cf_O → cf_O → Option (Int64)) (v1 : Int32) (v4 : Int32) (v5 : Int32) (v6 : Int64) (v8 : Int32) (o0 : cf_O) (o1 : cf_O) (o2 : cf_O) : Option (Int64) :=
  (if v4 < 0 ∨ 12 ≤ v4.toNatClampNeg then none else op_k (o2.2.1 5 v4.toNatClampNeg) (fun x_2 => (if x_2 ≤ v8 then Option.bind (fMp_pack v4 v5 v6 o2) (fun q_4 => some q_4) else (if v1 < 0 ∨ 576 ≤ v1.toNatClampNeg then none else op_k (o2.2.1 9 v1.toNatClampNeg) (fun x_8 => op_k (3 * v8) (fun x_9 => op_k (x_8 >>> (x_9 &&& 31)) (fun x_10 => op_k (x_10 &&& 7) (fun x_11 => op_k (x_11 >>> ((1 : Int32) &&& 31)) (fun x_12 => (if x_12 < 0 ∨ 5 ≤ x_12.toNatClampNeg then none else op_k (o1.2.1 2 x_12.toNatClampNeg) (fun x_14 => op_k (2 * x_14) (fun x_15 => op_k (x_11 &&& 1) (fun x_16 => op_k (x_15 + x_16) (fun x_17 => (if x_17 < 0 ∨ 418 ≤ x_17.toNatClampNeg then none else op_k (o0.2.2 4 x_17.toNatClampNeg) (fun x_19 => op_k (lg_cmp x_19 (9223372036854775807 : Int64)) (fun x_20 => (if x_20 = (0 : Int32) then some (9223372036854775807 : Int64) else (if x_17 < 0 ∨ 418 ≤ x_17.toNatClampNeg then none else op_k (o0.2.2 4 x_17.toNatClampNeg) (fun x_23 => Option.bind (fMp_timeOf x_23) (fun q_24 => op_k (op_mx v5 q_24) (fun x_27 => op_k (x_17.toInt64) (fun x_28 => op_k (v8 + 1) (fun x_29 => op_k (10 * x_29) (fun x_30 => op_k (30 - x_30) (fun x_31 => op_k (x_28 <<< (x_31.toInt64 &&& 63)) (fun x_32 => op_k (v6 ||| x_32) (fun x_33 => op_k (v8 + 1) (fun x_34 => rc 0 v1 v4 x_27 x_33 x_34 o0 o1 o2)))))))))))))))))))))))))))))
noncomputable def fMp_matchOf_0 (rc : Nat → Int32 → Int32 → Int32 → Int64 → Int32 → cf_O → cf_O → cf_O → Option (Int64)) (v1 : Int32) (o0 : cf_O) (o1 : cf_O) (o2 : cf_O) : Option (Int64) :=
  (if v1 < 0 ∨ 576 ≤ v1.toNatClampNeg then none else op_k (o2.2.1 8 v1.toNatClampNeg) (fun x_2 => rc 0 v1 x_2 0 0 0 o0 o1 o2))
noncomputable def gMp_matchOf (n : Nat) : Nat → Int32 → Int32 → Int32 → Int64 → Int32 → cf_O → cf_O → cf_O → Option (Int64) := Nat.rec (motive := fun _ => Nat → Int32 → Int32 → Int32 → Int64 → Int32 → cf_O → cf_O → cf_O → Option (Int64)) (fun _ _ _ _ _ _ _ _ _ => none) (fun _ rc => fun k u1i u4i u5i u6l u8i o0 o1 o2 => Nat.rec (motive := fun _ => Option (Int64)) (fMp_matchOf_17 rc u1i u4i u5i u6l u8i o0 o1 o2) (fun k _ => none) k) n
noncomputable def fMp_matchOf (v1 : Int32) (o0 : cf_O) (o1 : cf_O) (o2 : cf_O) : Option (Int64) := fMp_matchOf_0 (gMp_matchOf cfFU) v1 o0 o1 o2
noncomputable def fMp_leastMatch_67 (rc : Nat → Int64 → Int32 → Int32 → cf_O → cf_O → cf_O → Option (Int64)) (v4 : Int64) (o0 : cf_O) (o1 : cf_O) (o2 : cf_O) : Option (Int64) :=
  some v4
noncomputable def fMp_leastMatch_23 (rc : Nat → Int64 → Int32 → Int32 → cf_O → cf_O → cf_O → Option (Int64)) (v4 : Int64) (v6 : Int32) (v7 : Int32) (o0 : cf_O) (o1 : cf_O) (o2 : cf_O) : Option (Int64) :=
  (if (576 : Int32) ≤ v7 then fMp_leastMatch_67 rc v4 o0 o1 o2 else (if v6 = ((-1) : Int32) then fMp_leastMatch_67 rc v4 o0 o1 o2 else Option.bind (fMp_matchOf v6 o0 o1 o2) (fun q_3 => op_k (op_mnl v4 q_3) (fun x_6 => (if v6 < 0 ∨ 576 ≤ v6.toNatClampNeg then none else op_k (o2.2.1 10 v6.toNatClampNeg) (fun x_8 => op_k (v7 + 1) (fun x_9 => rc 0 x_6 x_8 x_9 o0 o1 o2)))))))
noncomputable def fMp_leastMatch_0 (rc : Nat → Int64 → Int32 → Int32 → cf_O → cf_O → cf_O → Option (Int64)) (v1 : Int32) (o0 : cf_O) (o1 : cf_O) (o2 : cf_O) : Option (Int64) :=
  Option.bind (fLi_listOf (o1.1 0) v1) (fun q_1 => (if q_1 < 0 ∨ 512 ≤ q_1.toNatClampNeg then none else op_k (o2.2.1 11 q_1.toNatClampNeg) (fun x_5 => rc 0 9223372036854775807 x_5 0 o0 o1 o2)))
noncomputable def gMp_leastMatch (n : Nat) : Nat → Int64 → Int32 → Int32 → cf_O → cf_O → cf_O → Option (Int64) := Nat.rec (motive := fun _ => Nat → Int64 → Int32 → Int32 → cf_O → cf_O → cf_O → Option (Int64)) (fun _ _ _ _ _ _ _ => none) (fun _ rc => fun k u4l u6i u7i o0 o1 o2 => Nat.rec (motive := fun _ => Option (Int64)) (fMp_leastMatch_23 rc u4l u6i u7i o0 o1 o2) (fun k _ => none) k) n
noncomputable def fMp_leastMatch (v1 : Int32) (o0 : cf_O) (o1 : cf_O) (o2 : cf_O) : Option (Int64) := fMp_leastMatch_0 (gMp_leastMatch cfFU) v1 o0 o1 o2
noncomputable def fMp_findPlain_7 (rc : Nat → Int32 → Int32 → cf_O → cf_O → cf_O → cf_O → cf_O → Option (cf_O × cf_O)) (v2 : Int32) (v6 : Int32) (o0 : cf_O) (o1 : cf_O) (o2 : cf_O) (o3 : cf_O) (o4 : cf_O) : Option (cf_O × cf_O) :=
  Option.bind (fCu_behindLastOf v2 o2) (fun q_1 => (if q_1 ≤ v6 then some (o0, o3) else Option.bind (fCu_cutAt v6 o2) (fun q_5 => Option.bind (fCo_find v2 q_5 o3 o1) (fun q_8 => Option.bind (fCo_full (q_8.1 0)) (fun q_10 => op_k ((q_8.1 1) ^^^ q_10) (fun x_13 => op_k (2 * v2) (fun x_14 => op_k (2 * v2) (fun x_15 => (if x_15 < 0 ∨ 418 ≤ x_15.toNatClampNeg then none else op_k (o0.2.2 5 x_15.toNatClampNeg) (fun x_17 => Option.bind (fMp_leastMatch (q_8.1 1) o0 q_8 o4) (fun q_18 => op_k (op_mnl x_17 q_18) (fun x_21 => (if x_14 < 0 ∨ 418 ≤ x_14.toNatClampNeg then none else op_k (yp o0 5 x_14.toNatClampNeg x_21) (fun o_23 => op_k (2 * v2) (fun x_24 => op_k (x_24 + 1) (fun x_25 => op_k (2 * v2) (fun x_26 => op_k (x_26 + 1) (fun x_27 => (if x_27 < 0 ∨ 418 ≤ x_27.toNatClampNeg then none else op_k (o_23.2.2 5 x_27.toNatClampNeg) (fun x_29 => Option.bind (fMp_leastMatch x_13 o_23 q_8 o4) (fun q_30 => op_k (op_mnl x_29 q_30) (fun x_33 => (if x_25 < 0 ∨ 418 ≤ x_25.toNatClampNeg then none else op_k (yp o_23 5 x_25.toNatClampNeg x_33) (fun o_35 => op_k (v6 + 1) (fun x_36 => rc 0 v2 x_36 o_35 o1 o2 q_8 o4)))))))))))))))))))))))))
noncomputable def fMp_findPlain_0 (rc : Nat → Int32 → Int32 → cf_O → cf_O → cf_O → cf_O → cf_O → Option (cf_O × cf_O)) (v2 : Int32) (o0 : cf_O) (o1 : cf_O) (o2 : cf_O) (o3 : cf_O) (o4 : cf_O) : Option (cf_O × cf_O) :=
  Option.bind (fCu_firstOf v2 o2) (fun q_1 => rc 0 v2 q_1 o0 o1 o2 o3 o4)
noncomputable def gMp_findPlain (n : Nat) : Nat → Int32 → Int32 → cf_O → cf_O → cf_O → cf_O → cf_O → Option (cf_O × cf_O) := Nat.rec (motive := fun _ => Nat → Int32 → Int32 → cf_O → cf_O → cf_O → cf_O → cf_O → Option (cf_O × cf_O)) (fun _ _ _ _ _ _ _ _ => none) (fun _ rc => fun k u2i u6i o0 o1 o2 o3 o4 => Nat.rec (motive := fun _ => Option (cf_O × cf_O)) (fMp_findPlain_7 rc u2i u6i o0 o1 o2 o3 o4) (fun k _ => none) k) n
noncomputable def fMp_findPlain (v2 : Int32) (o0 : cf_O) (o1 : cf_O) (o2 : cf_O) (o3 : cf_O) (o4 : cf_O) : Option (cf_O × cf_O) := fMp_findPlain_0 (gMp_findPlain cfFU) v2 o0 o1 o2 o3 o4
noncomputable def fMp_madeBy_87 (s0 : Int64) (o0 : cf_O) (o1 : cf_O) : Option (Int64) :=
  some s0
noncomputable def fMp_madeBy_40 (v3 : Int64) (o0 : cf_O) (o1 : cf_O) : Option (Int64) :=
  some v3
noncomputable def fMp_madeBy_0 (v1 : Int32) (o0 : cf_O) (o1 : cf_O) : Option (Int64) :=
  (if v1 < 0 ∨ 418 ≤ v1.toNatClampNeg then none else op_k (o0.2.2 5 v1.toNatClampNeg) (fun x_2 => op_k (v1 ^^^ 1) (fun x_3 => (if x_3 < 0 ∨ 418 ≤ x_3.toNatClampNeg then none else op_k (o0.2.2 5 x_3.toNatClampNeg) (fun x_5 => op_k (lg_cmp x_2 (0 : Int64)) (fun x_6 => (if x_6 = (0 : Int32) then fMp_madeBy_40 x_2 o0 o1 else op_k (lg_cmp x_5 (9223372036854775807 : Int64)) (fun x_8 => (if x_8 = (0 : Int32) then fMp_madeBy_40 x_2 o0 o1 else (if (o1.1 1) = ((-1) : Int32) then fMp_madeBy_40 x_2 o0 o1 else op_k (v1 ^^^ 1) (fun x_11 => op_k (x_11.toInt64) (fun x_12 => op_k (x_12 <<< ((20 : Int32).toInt64 &&& 63)) (fun x_13 => Option.bind (fMp_timeOf x_5) (fun q_14 => Option.bind (fMp_pack (o1.1 1) q_14 x_13 o1) (fun q_17 => op_k ((q_17.toUInt64 >>> ((34 : Int32).toInt64.toUInt64 &&& Int64.toUInt64 63)).toInt64) (fun x_20 => op_k ((x_2.toUInt64 >>> ((34 : Int32).toInt64.toUInt64 &&& Int64.toUInt64 63)).toInt64) (fun x_21 => op_k (lg_cmp x_20 x_21) (fun x_22 => (if (0 : Int32) ≤ x_22 then fMp_madeBy_87 x_2 o0 o1 else fMp_madeBy_87 q_17 o0 o1)))))))))))))))))))
noncomputable def fMp_madeBy (v1 : Int32) (o0 : cf_O) (o1 : cf_O) : Option (Int64) := fMp_madeBy_0 v1 o0 o1
noncomputable def fMp_findMatches_71 (rc : Nat → Int32 → cf_O → cf_O → cf_O → cf_O → cf_O → Option (cf_O × cf_O)) (v5 : Int32) (o0 : cf_O) (o1 : cf_O) (o2 : cf_O) (o3 : cf_O) (o4 : cf_O) : Option (cf_O × cf_O) :=
  op_k (2 * v5) (fun x_1 => op_k (2 * v5) (fun x_2 => Option.bind (fMp_madeBy x_2 o0 o4) (fun q_3 => (if x_1 < 0 ∨ 418 ≤ x_1.toNatClampNeg then none else op_k (yp o0 4 x_1.toNatClampNeg q_3) (fun o_7 => op_k (2 * v5) (fun x_8 => op_k (x_8 + 1) (fun x_9 => op_k (2 * v5) (fun x_10 => op_k (x_10 + 1) (fun x_11 => Option.bind (fMp_madeBy x_11 o_7 o4) (fun q_12 => (if x_9 < 0 ∨ 418 ≤ x_9.toNatClampNeg then none else op_k (yp o_7 4 x_9.toNatClampNeg q_12) (fun o_16 => op_k (v5 + 1) (fun x_17 => rc 0 x_17 o_16 o1 o2 o3 o4)))))))))))))
noncomputable def fMp_findMatches_3 (rc : Nat → Int32 → cf_O → cf_O → cf_O → cf_O → cf_O → Option (cf_O × cf_O)) (v5 : Int32) (o0 : cf_O) (o1 : cf_O) (o2 : cf_O) (o3 : cf_O) (o4 : cf_O) : Option (cf_O × cf_O) :=
  Option.bind (fGr_size o1) (fun q_1 => (if q_1 ≤ v5 then some (o0, o3) else op_k (2 * v5) (fun x_5 => (if x_5 < 0 ∨ 418 ≤ x_5.toNatClampNeg then none else op_k (yp o0 5 x_5.toNatClampNeg 9223372036854775807) (fun o_7 => op_k (2 * v5) (fun x_8 => op_k (x_8 + 1) (fun x_9 => (if x_9 < 0 ∨ 418 ≤ x_9.toNatClampNeg then none else op_k (yp o_7 5 x_9.toNatClampNeg 9223372036854775807) (fun o_11 => Option.bind (fGr_isGate v5 o1) (fun q_12 => (if q_12 = (0 : Int32) then op_k (2 * v5) (fun x_16 => (if x_16 < 0 ∨ 418 ≤ x_16.toNatClampNeg then none else op_k (yp o_11 5 x_16.toNatClampNeg 0) (fun o_18 => fMp_findMatches_71 rc v5 o_18 o1 o2 o3 o4))) else Option.bind (fMp_findPlain v5 o_11 o1 o2 o3 o4) (fun q_19 => fMp_findMatches_71 rc v5 q_19.1 o1 o2 q_19.2 o4))))))))))))
noncomputable def fMp_findMatches_0 (rc : Nat → Int32 → cf_O → cf_O → cf_O → cf_O → cf_O → Option (cf_O × cf_O)) (o0 : cf_O) (o1 : cf_O) (o2 : cf_O) (o3 : cf_O) (o4 : cf_O) : Option (cf_O × cf_O) :=
  rc 0 1 o0 o1 o2 o3 o4
noncomputable def gMp_findMatches (n : Nat) : Nat → Int32 → cf_O → cf_O → cf_O → cf_O → cf_O → Option (cf_O × cf_O) := Nat.rec (motive := fun _ => Nat → Int32 → cf_O → cf_O → cf_O → cf_O → cf_O → Option (cf_O × cf_O)) (fun _ _ _ _ _ _ _ => none) (fun _ rc => fun k u5i o0 o1 o2 o3 o4 => Nat.rec (motive := fun _ => Option (cf_O × cf_O)) (fMp_findMatches_3 rc u5i o0 o1 o2 o3 o4) (fun k _ => none) k) n
noncomputable def fMp_findMatches (o0 : cf_O) (o1 : cf_O) (o2 : cf_O) (o3 : cf_O) (o4 : cf_O) : Option (cf_O × cf_O) := fMp_findMatches_0 (gMp_findMatches cfFU) o0 o1 o2 o3 o4
noncomputable def fMp_wantPins_102 (rc : Nat → Int32 → Int32 → Int32 → Int32 → cf_O → cf_O → cf_O → Option (cf_O)) (v3 : Int32) (v4 : Int32) (o0 : cf_O) (o1 : cf_O) (o2 : cf_O) : Option (cf_O) :=
  op_k (v4 + 1) (fun x_1 => rc 1 v3 x_1 0 0 o0 o1 o2)
noncomputable def fMp_wantPins_58 (rc : Nat → Int32 → Int32 → Int32 → Int32 → cf_O → cf_O → cf_O → Option (cf_O)) (v3 : Int32) (v4 : Int32) (v5 : Int32) (v6 : Int32) (o0 : cf_O) (o1 : cf_O) (o2 : cf_O) : Option (cf_O) :=
  (if v5 < 0 ∨ 418 ≤ v5.toNatClampNeg then none else op_k (o0.2.2 4 v5.toNatClampNeg) (fun x_2 => Option.bind (fMp_cellOf x_2) (fun q_3 => (if q_3 < 0 ∨ 12 ≤ q_3.toNatClampNeg then none else op_k (o2.2.1 5 q_3.toNatClampNeg) (fun x_7 => (if x_7 ≤ v6 then fMp_wantPins_102 rc v3 v4 o0 o1 o2 else (if v5 < 0 ∨ 418 ≤ v5.toNatClampNeg then none else op_k (o0.2.2 4 v5.toNatClampNeg) (fun x_10 => Option.bind (fMp_pinOf x_10 v6) (fun q_11 => (if q_11 < 0 ∨ 418 ≤ q_11.toNatClampNeg then none else op_k (xp o0 6 q_11.toNatClampNeg (vp_nar .boolean 1)) (fun o_15 => op_k (v6 + 1) (fun x_16 => rc 2 v3 v4 v5 x_16 o_15 o1 o2))))))))))))
noncomputable def fMp_wantPins_14 (rc : Nat → Int32 → Int32 → Int32 → Int32 → cf_O → cf_O → cf_O → Option (cf_O)) (v3 : Int32) (v4 : Int32) (o0 : cf_O) (o1 : cf_O) (o2 : cf_O) : Option (cf_O) :=
  (if (4 : Int32) ≤ v4 then op_k (v3 + (-1)) (fun x_2 => rc 0 x_2 0 0 0 o0 o1 o2) else op_k (2 * v3) (fun x_3 => op_k (v4 &&& 1) (fun x_4 => op_k (x_3 + x_4) (fun x_5 => (if x_5 < 0 ∨ 418 ≤ x_5.toNatClampNeg then none else op_k (o0.2.1 6 x_5.toNatClampNeg) (fun x_7 => (if x_7 = (0 : Int32) then fMp_wantPins_102 rc v3 v4 o0 o1 o2 else (if x_5 < 0 ∨ 418 ≤ x_5.toNatClampNeg then none else op_k (o0.2.2 4 x_5.toNatClampNeg) (fun x_10 => op_k (lg_cmp x_10 (0 : Int64)) (fun x_11 => (if x_11 = (0 : Int32) then fMp_wantPins_102 rc v3 v4 o0 o1 o2 else rc 2 v3 v4 x_5 0 o0 o1 o2)))))))))))
noncomputable def fMp_wantPins_7 (rc : Nat → Int32 → Int32 → Int32 → Int32 → cf_O → cf_O → cf_O → Option (cf_O)) (v3 : Int32) (o0 : cf_O) (o1 : cf_O) (o2 : cf_O) : Option (cf_O) :=
  (if v3 ≤ (0 : Int32) then some o0 else rc 1 v3 0 0 0 o0 o1 o2)
noncomputable def fMp_wantPins_0 (rc : Nat → Int32 → Int32 → Int32 → Int32 → cf_O → cf_O → cf_O → Option (cf_O)) (o0 : cf_O) (o1 : cf_O) (o2 : cf_O) : Option (cf_O) :=
  Option.bind (fGr_size o1) (fun q_1 => op_k (q_1 - 1) (fun x_4 => rc 0 x_4 0 0 0 o0 o1 o2))
noncomputable def gMp_wantPins (n : Nat) : Nat → Int32 → Int32 → Int32 → Int32 → cf_O → cf_O → cf_O → Option (cf_O) := Nat.rec (motive := fun _ => Nat → Int32 → Int32 → Int32 → Int32 → cf_O → cf_O → cf_O → Option (cf_O)) (fun _ _ _ _ _ _ _ _ => none) (fun _ rc => fun k u3i u4i u5i u6i o0 o1 o2 => Nat.rec (motive := fun _ => Option (cf_O)) (fMp_wantPins_7 rc u3i o0 o1 o2) (fun k _ => Nat.rec (motive := fun _ => Option (cf_O)) (fMp_wantPins_14 rc u3i u4i o0 o1 o2) (fun k _ => Nat.rec (motive := fun _ => Option (cf_O)) (fMp_wantPins_58 rc u3i u4i u5i u6i o0 o1 o2) (fun k _ => none) k) k) k) n
noncomputable def fMp_wantPins (o0 : cf_O) (o1 : cf_O) (o2 : cf_O) : Option (cf_O) := fMp_wantPins_0 (gMp_wantPins cfFU) o0 o1 o2
noncomputable def fMp_takeInstances_85 (rc : Nat → Int32 → cf_O → cf_O → cf_O → Option (cf_O)) (v3 : Int32) (o0 : cf_O) (o1 : cf_O) (o2 : cf_O) : Option (cf_O) :=
  op_k (v3 + 1) (fun x_1 => rc 0 x_1 o0 o1 o2)
noncomputable def fMp_takeInstances_12 (rc : Nat → Int32 → cf_O → cf_O → cf_O → Option (cf_O)) (v3 : Int32) (o0 : cf_O) (o1 : cf_O) (o2 : cf_O) : Option (cf_O) :=
  Option.bind (fGr_size o1) (fun q_1 => op_k (2 * q_1) (fun x_4 => (if x_4 ≤ v3 then some o0 else (if v3 < 0 ∨ 418 ≤ v3.toNatClampNeg then none else op_k (o0.2.1 6 v3.toNatClampNeg) (fun x_7 => (if x_7 = (0 : Int32) then fMp_takeInstances_85 rc v3 o0 o1 o2 else (if v3 < 0 ∨ 418 ≤ v3.toNatClampNeg then none else op_k (o0.2.2 4 v3.toNatClampNeg) (fun x_10 => op_k (lg_cmp x_10 (0 : Int64)) (fun x_11 => (if x_11 = (0 : Int32) then fMp_takeInstances_85 rc v3 o0 o1 o2 else (if (o0.1 0) < 0 ∨ 418 ≤ (o0.1 0).toNatClampNeg then none else op_k (xp o0 3 (o0.1 0).toNatClampNeg v3) (fun o_14 => (if v3 < 0 ∨ 418 ≤ v3.toNatClampNeg then none else op_k (o_14.2.2 4 v3.toNatClampNeg) (fun x_16 => Option.bind (fMp_cellOf x_16) (fun q_17 => (if q_17 < 0 ∨ 12 ≤ q_17.toNatClampNeg then none else op_k (o2.2.1 3 q_17.toNatClampNeg) (fun x_21 => op_k ((o_14.1 1) + x_21) (fun x_22 => op_k (fp o_14 1 x_22) (fun o_23 => op_k ((o_23.1 0) + 1) (fun x_24 => op_k (fp o_23 0 x_24) (fun o_25 => fMp_takeInstances_85 rc v3 o_25 o1 o2)))))))))))))))))))))
noncomputable def fMp_takeInstances_0 (rc : Nat → Int32 → cf_O → cf_O → cf_O → Option (cf_O)) (o0 : cf_O) (o1 : cf_O) (o2 : cf_O) : Option (cf_O) :=
  op_k (fp o0 0 0) (fun o_1 => op_k (fp o_1 1 0) (fun o_2 => rc 0 2 o_2 o1 o2))
noncomputable def gMp_takeInstances (n : Nat) : Nat → Int32 → cf_O → cf_O → cf_O → Option (cf_O) := Nat.rec (motive := fun _ => Nat → Int32 → cf_O → cf_O → cf_O → Option (cf_O)) (fun _ _ _ _ _ => none) (fun _ rc => fun k u3i o0 o1 o2 => Nat.rec (motive := fun _ => Option (cf_O)) (fMp_takeInstances_12 rc u3i o0 o1 o2) (fun k _ => none) k) n
noncomputable def fMp_takeInstances (o0 : cf_O) (o1 : cf_O) (o2 : cf_O) : Option (cf_O) := fMp_takeInstances_0 (gMp_takeInstances cfFU) o0 o1 o2
noncomputable def fMp_find_59 (rc : Nat → Int32 → cf_O → cf_O → cf_O → cf_O → cf_O → Option (Int32 × cf_O × cf_O)) (v5 : Int32) (o0 : cf_O) (o1 : cf_O) (o2 : cf_O) (o3 : cf_O) (o4 : cf_O) : Option (Int32 × cf_O × cf_O) :=
  (if (o1.1 1) ≤ v5 then Option.bind (fMp_wantPins o0 o1 o4) (fun q_2 => Option.bind (fMp_takeInstances q_2 o1 o4) (fun q_4 => some ((1 : Int32), q_4, o3))) else (if v5 < 0 ∨ 6 ≤ v5.toNatClampNeg then none else op_k (o1.2.1 7 v5.toNatClampNeg) (fun x_7 => (if x_7 < 0 ∨ 418 ≤ x_7.toNatClampNeg then none else op_k (o0.2.2 4 x_7.toNatClampNeg) (fun x_9 => op_k (lg_cmp x_9 (9223372036854775807 : Int64)) (fun x_10 => (if x_10 = (0 : Int32) then some ((0 : Int32), o0, o3) else (if x_7 < 0 ∨ 418 ≤ x_7.toNatClampNeg then none else op_k (xp o0 6 x_7.toNatClampNeg (vp_nar .boolean 1)) (fun o_13 => (if x_7 < 0 ∨ 418 ≤ x_7.toNatClampNeg then none else op_k (o_13.2.2 4 x_7.toNatClampNeg) (fun x_15 => Option.bind (fMp_timeOf x_15) (fun q_16 => op_k (op_mx (o_13.1 2) q_16) (fun x_19 => op_k (fp o_13 2 x_19) (fun o_20 => op_k (v5 + 1) (fun x_21 => rc 1 x_21 o_20 o1 o2 o3 o4)))))))))))))))
noncomputable def fMp_find_31 (rc : Nat → Int32 → cf_O → cf_O → cf_O → cf_O → cf_O → Option (Int32 × cf_O × cf_O)) (v5 : Int32) (o0 : cf_O) (o1 : cf_O) (o2 : cf_O) (o3 : cf_O) (o4 : cf_O) : Option (Int32 × cf_O × cf_O) :=
  Option.bind (fGr_size o1) (fun q_1 => op_k (2 * q_1) (fun x_4 => (if x_4 ≤ v5 then rc 1 0 o0 o1 o2 o3 o4 else (if v5 < 0 ∨ 418 ≤ v5.toNatClampNeg then none else op_k (xp o0 6 v5.toNatClampNeg (vp_nar .boolean 0)) (fun o_7 => op_k (v5 + 1) (fun x_8 => rc 0 x_8 o_7 o1 o2 o3 o4))))))
noncomputable def fMp_find_0 (rc : Nat → Int32 → cf_O → cf_O → cf_O → cf_O → cf_O → Option (Int32 × cf_O × cf_O)) (o0 : cf_O) (o1 : cf_O) (o2 : cf_O) (o3 : cf_O) (o4 : cf_O) : Option (Int32 × cf_O × cf_O) :=
  Option.bind (fMp_findMatches o0 o1 o2 o3 o4) (fun q_1 => (if (0 : Int32) < 0 ∨ 418 ≤ (0 : Int32).toNatClampNeg then none else op_k (yp q_1.1 4 (0 : Int32).toNatClampNeg 0) (fun o_4 => (if (1 : Int32) < 0 ∨ 418 ≤ (1 : Int32).toNatClampNeg then none else op_k (yp o_4 4 (1 : Int32).toNatClampNeg 0) (fun o_6 => op_k (fp o_6 2 0) (fun o_7 => rc 0 0 o_7 o1 o2 q_1.2 o4))))))
noncomputable def gMp_find (n : Nat) : Nat → Int32 → cf_O → cf_O → cf_O → cf_O → cf_O → Option (Int32 × cf_O × cf_O) := Nat.rec (motive := fun _ => Nat → Int32 → cf_O → cf_O → cf_O → cf_O → cf_O → Option (Int32 × cf_O × cf_O)) (fun _ _ _ _ _ _ _ => none) (fun _ rc => fun k u5i o0 o1 o2 o3 o4 => Nat.rec (motive := fun _ => Option (Int32 × cf_O × cf_O)) (fMp_find_31 rc u5i o0 o1 o2 o3 o4) (fun k _ => Nat.rec (motive := fun _ => Option (Int32 × cf_O × cf_O)) (fMp_find_59 rc u5i o0 o1 o2 o3 o4) (fun k _ => none) k) k) n
noncomputable def fMp_find (o0 : cf_O) (o1 : cf_O) (o2 : cf_O) (o3 : cf_O) (o4 : cf_O) : Option (Int32 × cf_O × cf_O) := fMp_find_0 (gMp_find cfFU) o0 o1 o2 o3 o4
noncomputable def fJString_coder__S17_14 (s0 : Int32) : Option (Int32) :=
  (if ¬ (vp_nar .byte s0 = s0) then none else some s0)
noncomputable def fJString_coder__S17_0 : Option (Int32) :=
  fJString_coder__S17_14 0
noncomputable def fJString_coder__S17 : Option (Int32) := fJString_coder__S17_0
noncomputable def fJString_length__S17_0 : Option (Int32) :=
  Option.bind (fJString_coder__S17) (fun q_1 => op_k ((5 : Int32) >>> (q_1 &&& 31)) (fun x_4 => some x_4))
noncomputable def fJString_length__S17 : Option (Int32) := fJString_length__S17_0
noncomputable def fAS_inflateIfNeededFor_S17_21 (o0 : cf_O) : Option (Unit) :=
  some ()
noncomputable def fAS_inflateIfNeededFor_S17_0 (o0 : cf_O) : Option (Unit) :=
  Option.bind (fJString_coder__S17) (fun q_2 => (if (o0.1 1) = q_2 then fAS_inflateIfNeededFor_S17_21 o0 else none))
noncomputable def fAS_inflateIfNeededFor_S17 (o0 : cf_O) : Option (Unit) := fAS_inflateIfNeededFor_S17_0 o0
noncomputable def fJString_getBytes_ABIB_S17_SB0_0 (v2 : Int32) (v3 : Int32) (o0 : cf_O) : Option (cf_O) :=
  Option.bind (fJString_coder__S17) (fun q_1 => (if q_1 = v3 then op_k (v2 <<< (v3 &&& 31)) (fun x_5 => (if x_5 < 0 ∨ (o0.1 0).toNatClampNeg < x_5.toNatClampNeg + 5 then none else op_k (cb o0 0 17 x_5 5) (fun o_7 => some o_7))) else none))
noncomputable def fJString_getBytes_ABIB_S17_SB0 (v2 : Int32) (v3 : Int32) (o0 : cf_O) : Option (cf_O) := fJString_getBytes_ABIB_S17_SB0_0 v2 v3 o0
noncomputable def fAS_putStringAt_S17_0 (v1 : Int32) (o0 : cf_O) : Option (cf_O) :=
  Option.bind (fAS_inflateIfNeededFor_S17 o0) (fun q_1 => Option.bind (fJString_getBytes_ABIB_S17_SB0 v1 (o0.1 1) o0) (fun q_3 => some q_3))
noncomputable def fAS_putStringAt_S17 (v1 : Int32) (o0 : cf_O) : Option (cf_O) := fAS_putStringAt_S17_0 v1 o0
noncomputable def fAS_appendS_S17_33 (v2 : Int32) (o0 : cf_O) : Option (cf_O) :=
  op_k ((o0.1 3) + v2) (fun x_1 => op_k (fp o0 3 x_1) (fun o_2 => some o_2))
noncomputable def fAS_appendS_S17_24 (v2 : Int32) (o0 : cf_O) : Option (cf_O) :=
  Option.bind (fAS_putStringAt_S17 (o0.1 3) o0) (fun q_1 => fAS_appendS_S17_33 v2 q_1)
noncomputable def fAS_appendS_S17_13 (s0 : Int32) (o0 : cf_O) : Option (cf_O) :=
  op_k ((o0.1 3) + s0) (fun x_1 => Option.bind (fAS_ensureCapacityInternal x_1 o0) (fun q_2 => fAS_appendS_S17_24 s0 q_2))
noncomputable def fAS_appendS_S17_0 (o0 : cf_O) : Option (cf_O) :=
  Option.bind (fJString_length__S17) (fun q_1 => fAS_appendS_S17_13 q_1 o0)
noncomputable def fAS_appendS_S17 (o0 : cf_O) : Option (cf_O) := fAS_appendS_S17_0 o0
noncomputable def fSB_appendS_S17_5 (o0 : cf_O) : Option (cf_O) :=
  some o0
noncomputable def fSB_appendS_S17_0 (o0 : cf_O) : Option (cf_O) :=
  Option.bind (fAS_appendS_S17 o0) (fun q_1 => fSB_appendS_S17_5 q_1)
noncomputable def fSB_appendS_S17 (o0 : cf_O) : Option (cf_O) := fSB_appendS_S17_0 o0
noncomputable def fMp_writeTo_159 (rc : Nat → Int32 → Int64 → Int32 → Int32 → cf_O → cf_O → cf_O → cf_O → cf_O → cf_O → Option (cf_O × cf_O)) (o0 : cf_O) (o1 : cf_O) (o2 : cf_O) (o3 : cf_O) (o4 : cf_O) (o5 : cf_O) : Option (cf_O × cf_O) :=
  some (o1, o5)
noncomputable def fMp_writeTo_149 (rc : Nat → Int32 → Int64 → Int32 → Int32 → cf_O → cf_O → cf_O → cf_O → cf_O → cf_O → Option (cf_O × cf_O)) (v5 : Int32) (o0 : cf_O) (o1 : cf_O) (o2 : cf_O) (o3 : cf_O) (o4 : cf_O) (o5 : cf_O) : Option (cf_O × cf_O) :=
  op_k (v5 + 1) (fun x_1 => rc 2 x_1 0 0 0 o0 o1 o2 o3 o4 o5)
noncomputable def fMp_writeTo_125 (rc : Nat → Int32 → Int64 → Int32 → Int32 → cf_O → cf_O → cf_O → cf_O → cf_O → cf_O → Option (cf_O × cf_O)) (v5 : Int32) (o0 : cf_O) (o1 : cf_O) (o2 : cf_O) (o3 : cf_O) (o4 : cf_O) (o5 : cf_O) : Option (cf_O × cf_O) :=
  (if (o3.1 1) ≤ v5 then Option.bind (fSc_close o1 o5) (fun q_2 => fMp_writeTo_159 rc o0 q_2.1 o2 o3 o4 q_2.2) else (if v5 < 0 ∨ 6 ≤ v5.toNatClampNeg then none else op_k (o3.2.1 7 v5.toNatClampNeg) (fun x_8 => Option.bind (fSc_writeResult v5 x_8 0 o1 o2 o5) (fun q_9 => fMp_writeTo_149 rc v5 o0 o1 o2 o3 o4 q_9))))
noncomputable def fMp_writeTo_115 (rc : Nat → Int32 → Int64 → Int32 → Int32 → cf_O → cf_O → cf_O → cf_O → cf_O → cf_O → Option (cf_O × cf_O)) (v5 : Int32) (o0 : cf_O) (o1 : cf_O) (o2 : cf_O) (o3 : cf_O) (o4 : cf_O) (o5 : cf_O) : Option (cf_O × cf_O) :=
  op_k (v5 + 1) (fun x_1 => rc 0 x_1 0 0 0 o0 o1 o2 o3 o4 o5)
noncomputable def fMp_writeTo_106 (rc : Nat → Int32 → Int64 → Int32 → Int32 → cf_O → cf_O → cf_O → cf_O → cf_O → cf_O → Option (cf_O × cf_O)) (v5 : Int32) (o0 : cf_O) (o1 : cf_O) (o2 : cf_O) (o3 : cf_O) (o4 : cf_O) (o5 : cf_O) : Option (cf_O × cf_O) :=
  Option.bind (fSB_appendC 10 o5) (fun q_1 => fMp_writeTo_115 rc v5 o0 o1 o2 o3 o4 q_1)
noncomputable def fMp_writeTo_88 (rc : Nat → Int32 → Int64 → Int32 → Int32 → cf_O → cf_O → cf_O → cf_O → cf_O → cf_O → Option (cf_O × cf_O)) (v5 : Int32) (v6 : Int64) (v8 : Int32) (v9 : Int32) (o0 : cf_O) (o1 : cf_O) (o2 : cf_O) (o3 : cf_O) (o4 : cf_O) (o5 : cf_O) : Option (cf_O × cf_O) :=
  op_k (v9 + 1) (fun x_1 => rc 1 v5 v6 v8 x_1 o0 o1 o2 o3 o4 o5)
noncomputable def fMp_writeTo_85 (rc : Nat → Int32 → Int64 → Int32 → Int32 → cf_O → cf_O → cf_O → cf_O → cf_O → cf_O → Option (cf_O × cf_O)) (v5 : Int32) (v6 : Int64) (v8 : Int32) (v9 : Int32) (s2 : Int32) (o0 : cf_O) (o1 : cf_O) (o2 : cf_O) (o3 : cf_O) (o4 : cf_O) (o5 : cf_O) : Option (cf_O × cf_O) :=
  Option.bind (fSc_writeLiteral s2 o1 o2 o5) (fun q_1 => fMp_writeTo_88 rc v5 v6 v8 v9 o0 o1 o2 o3 o4 q_1)
noncomputable def fMp_writeTo_63 (rc : Nat → Int32 → Int64 → Int32 → Int32 → cf_O → cf_O → cf_O → cf_O → cf_O → cf_O → Option (cf_O × cf_O)) (v5 : Int32) (v6 : Int64) (v8 : Int32) (v9 : Int32) (o0 : cf_O) (o1 : cf_O) (o2 : cf_O) (o3 : cf_O) (o4 : cf_O) (o5 : cf_O) : Option (cf_O × cf_O) :=
  (if v8 < 0 ∨ 12 ≤ v8.toNatClampNeg then none else op_k (o4.2.1 5 v8.toNatClampNeg) (fun x_2 => (if x_2 ≤ v9 then (if v5 < 0 ∨ 418 ≤ v5.toNatClampNeg then none else op_k (o0.2.1 3 v5.toNatClampNeg) (fun x_5 => Option.bind (fSc_writeLiteral x_5 o1 o2 o5) (fun q_6 => fMp_writeTo_106 rc v5 o0 o1 o2 o3 o4 q_6))) else Option.bind (fMp_pinOf v6 v9) (fun q_11 => fMp_writeTo_85 rc v5 v6 v8 v9 q_11 o0 o1 o2 o3 o4 o5))))
noncomputable def fMp_writeTo_60 (rc : Nat → Int32 → Int64 → Int32 → Int32 → cf_O → cf_O → cf_O → cf_O → cf_O → cf_O → Option (cf_O × cf_O)) (v5 : Int32) (v6 : Int64) (v8 : Int32) (o0 : cf_O) (o1 : cf_O) (o2 : cf_O) (o3 : cf_O) (o4 : cf_O) (o5 : cf_O) : Option (cf_O × cf_O) :=
  rc 1 v5 v6 v8 0 o0 o1 o2 o3 o4 o5
noncomputable def fMp_writeTo_47 (rc : Nat → Int32 → Int64 → Int32 → Int32 → cf_O → cf_O → cf_O → cf_O → cf_O → cf_O → Option (cf_O × cf_O)) (v5 : Int32) (v6 : Int64) (v8 : Int32) (o0 : cf_O) (o1 : cf_O) (o2 : cf_O) (o3 : cf_O) (o4 : cf_O) (o5 : cf_O) : Option (cf_O × cf_O) :=
  (if v8 < 0 ∨ 12 ≤ v8.toNatClampNeg then none else op_k (o4.2.2 2 v8.toNatClampNeg) (fun x_2 => Option.bind (fSc_writeName x_2 o1 o5) (fun q_3 => fMp_writeTo_60 rc v5 v6 v8 o0 o1 o2 o3 o4 q_3)))
noncomputable def fMp_writeTo_36 (rc : Nat → Int32 → Int64 → Int32 → Int32 → cf_O → cf_O → cf_O → cf_O → cf_O → cf_O → Option (cf_O × cf_O)) (v5 : Int32) (v6 : Int64) (s0 : Int32) (o0 : cf_O) (o1 : cf_O) (o2 : cf_O) (o3 : cf_O) (o4 : cf_O) (o5 : cf_O) : Option (cf_O × cf_O) :=
  Option.bind (fSB_appendS_S17 o5) (fun q_1 => fMp_writeTo_47 rc v5 v6 s0 o0 o1 o2 o3 o4 q_1)
noncomputable def fMp_writeTo_8 (rc : Nat → Int32 → Int64 → Int32 → Int32 → cf_O → cf_O → cf_O → cf_O → cf_O → cf_O → Option (cf_O × cf_O)) (v5 : Int32) (o0 : cf_O) (o1 : cf_O) (o2 : cf_O) (o3 : cf_O) (o4 : cf_O) (o5 : cf_O) : Option (cf_O × cf_O) :=
  (if (o0.1 0) ≤ v5 then rc 2 0 0 0 0 o0 o1 o2 o3 o4 o5 else (if v5 < 0 ∨ 418 ≤ v5.toNatClampNeg then none else op_k (o0.2.1 3 v5.toNatClampNeg) (fun x_3 => (if x_3 < 0 ∨ 418 ≤ x_3.toNatClampNeg then none else op_k (o0.2.2 4 x_3.toNatClampNeg) (fun x_5 => Option.bind (fMp_cellOf x_5) (fun q_6 => fMp_writeTo_36 rc v5 x_5 q_6 o0 o1 o2 o3 o4 o5))))))
noncomputable def fMp_writeTo_5 (rc : Nat → Int32 → Int64 → Int32 → Int32 → cf_O → cf_O → cf_O → cf_O → cf_O → cf_O → Option (cf_O × cf_O)) (o0 : cf_O) (o1 : cf_O) (o2 : cf_O) (o3 : cf_O) (o4 : cf_O) (o5 : cf_O) : Option (cf_O × cf_O) :=
  rc 0 0 0 0 0 o0 o1 o2 o3 o4 o5
noncomputable def fMp_writeTo_0 (rc : Nat → Int32 → Int64 → Int32 → Int32 → cf_O → cf_O → cf_O → cf_O → cf_O → cf_O → Option (cf_O × cf_O)) (o0 : cf_O) (o1 : cf_O) (o2 : cf_O) (o3 : cf_O) (o4 : cf_O) (o5 : cf_O) : Option (cf_O × cf_O) :=
  Option.bind (fSc_writeHead o1 o2 o5) (fun q_1 => fMp_writeTo_5 rc o0 o1 o2 o3 o4 q_1)
noncomputable def gMp_writeTo (n : Nat) : Nat → Int32 → Int64 → Int32 → Int32 → cf_O → cf_O → cf_O → cf_O → cf_O → cf_O → Option (cf_O × cf_O) := Nat.rec (motive := fun _ => Nat → Int32 → Int64 → Int32 → Int32 → cf_O → cf_O → cf_O → cf_O → cf_O → cf_O → Option (cf_O × cf_O)) (fun _ _ _ _ _ _ _ _ _ _ _ => none) (fun _ rc => fun k u5i u6l u8i u9i o0 o1 o2 o3 o4 o5 => Nat.rec (motive := fun _ => Option (cf_O × cf_O)) (fMp_writeTo_8 rc u5i o0 o1 o2 o3 o4 o5) (fun k _ => Nat.rec (motive := fun _ => Option (cf_O × cf_O)) (fMp_writeTo_63 rc u5i u6l u8i u9i o0 o1 o2 o3 o4 o5) (fun k _ => Nat.rec (motive := fun _ => Option (cf_O × cf_O)) (fMp_writeTo_125 rc u5i o0 o1 o2 o3 o4 o5) (fun k _ => none) k) k) k) n
noncomputable def fMp_writeTo (o0 : cf_O) (o1 : cf_O) (o2 : cf_O) (o3 : cf_O) (o4 : cf_O) (o5 : cf_O) : Option (cf_O × cf_O) := fMp_writeTo_0 (gMp_writeTo cfFU) o0 o1 o2 o3 o4 o5
noncomputable def fJString_coder__S2_14 (s0 : Int32) : Option (Int32) :=
  (if ¬ (vp_nar .byte s0 = s0) then none else some s0)
noncomputable def fJString_coder__S2_0 : Option (Int32) :=
  fJString_coder__S2_14 0
noncomputable def fJString_coder__S2 : Option (Int32) := fJString_coder__S2_0
noncomputable def fJString_length__S2_0 : Option (Int32) :=
  Option.bind (fJString_coder__S2) (fun q_1 => op_k ((7 : Int32) >>> (q_1 &&& 31)) (fun x_4 => some x_4))
noncomputable def fJString_length__S2 : Option (Int32) := fJString_length__S2_0
noncomputable def fJString_isLatin1__S2_18 (s0 : Int32) : Option (Int32) :=
  (if ¬ (s0 = 0 ∨ s0 = 1) then none else some s0)
noncomputable def fJString_isLatin1__S2_17 : Option (Int32) :=
  fJString_isLatin1__S2_18 0
noncomputable def fJString_isLatin1__S2_0 : Option (Int32) :=
  fJString_isLatin1__S2_18 1
noncomputable def fJString_isLatin1__S2 : Option (Int32) := fJString_isLatin1__S2_0
noncomputable def fJStringLatin1_charAt_ABI_B2_0 (v1 : Int32) : Option (Int32) :=
  Option.bind (fJString_checkIndex_II v1 7) (fun q_1 => (if v1 < 0 ∨ 7 ≤ v1.toNatClampNeg then none else op_k (cf_sb 2 v1.toNatClampNeg) (fun x_4 => op_k (x_4 &&& 255) (fun x_5 => op_k ((x_5.toUInt32 % 65536).toInt32) (fun x_6 => (if ¬ (vp_nar .char x_6 = x_6) then none else some x_6))))))
noncomputable def fJStringLatin1_charAt_ABI_B2 (v1 : Int32) : Option (Int32) := fJStringLatin1_charAt_ABI_B2_0 v1
noncomputable def fJString_charAt_I_S2_0 (v1 : Int32) : Option (Int32) :=
  Option.bind (fJString_isLatin1__S2) (fun q_1 => (if q_1 = (0 : Int32) then none else Option.bind (fJStringLatin1_charAt_ABI_B2 v1) (fun q_5 => (if ¬ (vp_nar .char q_5 = q_5) then none else some q_5))))
noncomputable def fJString_charAt_I_S2 (v1 : Int32) : Option (Int32) := fJString_charAt_I_S2_0 v1
noncomputable def fTx_isWord_S2_16 (rc : Nat → Int32 → Int32 → cf_O → Option (Int32)) (v1 : Int32) (v3 : Int32) (o0 : cf_O) : Option (Int32) :=
  Option.bind (fJString_length__S2) (fun q_1 => (if q_1 ≤ v3 then some (1 : Int32) else Option.bind (fTx_signOf v1 v3 o0) (fun q_5 => Option.bind (fJString_charAt_I_S2 v3) (fun q_8 => (if q_5 = q_8 then op_k (v3 + 1) (fun x_12 => rc 0 v1 x_12 o0) else some (0 : Int32))))))
noncomputable def fTx_isWord_S2_0 (rc : Nat → Int32 → Int32 → cf_O → Option (Int32)) (v1 : Int32) (o0 : cf_O) : Option (Int32) :=
  Option.bind (fTx_length v1 o0) (fun q_1 => Option.bind (fJString_length__S2) (fun q_4 => (if q_1 = q_4 then rc 0 v1 0 o0 else some (0 : Int32))))
noncomputable def gTx_isWord_S2 (n : Nat) : Nat → Int32 → Int32 → cf_O → Option (Int32) := Nat.rec (motive := fun _ => Nat → Int32 → Int32 → cf_O → Option (Int32)) (fun _ _ _ _ => none) (fun _ rc => fun k u1i u3i o0 => Nat.rec (motive := fun _ => Option (Int32)) (fTx_isWord_S2_16 rc u1i u3i o0) (fun k _ => none) k) n
noncomputable def fTx_isWord_S2 (v1 : Int32) (o0 : cf_O) : Option (Int32) := fTx_isWord_S2_0 (gTx_isWord_S2 cfFU) v1 o0
noncomputable def fNl_takeNames_Nl3_25 (rc : Nat → Int32 → Int32 → Int32 → cf_O → cf_O → Option (Int32 × cf_O)) (v2 : Int32) (v4 : Int32) (v5 : Int32) (o0 : cf_O) (o1 : cf_O) : Option (Int32 × cf_O) :=
  (if v4 ≤ v5 then some ((1 : Int32), o1) else op_k (v2 + v5) (fun x_2 => op_k (v5 + 1) (fun x_3 => Option.bind (fTx_name x_3 o0) (fun q_4 => (if x_2 < 0 ∨ 8 ≤ x_2.toNatClampNeg then none else op_k (yp o1 3 x_2.toNatClampNeg q_4) (fun o_8 => op_k (v2 + v5) (fun x_9 => (if x_9 < 0 ∨ 8 ≤ x_9.toNatClampNeg then none else op_k (o_8.2.2 3 x_9.toNatClampNeg) (fun x_11 => op_k (lg_cmp x_11 (0 : Int64)) (fun x_12 => (if x_12 = (0 : Int32) then some ((0 : Int32), o_8) else op_k (v5 + 1) (fun x_14 => rc 0 v2 v4 x_14 o0 o_8))))))))))))
noncomputable def fNl_takeNames_Nl3_20 (rc : Nat → Int32 → Int32 → Int32 → cf_O → cf_O → Option (Int32 × cf_O)) (o0 : cf_O) (o1 : cf_O) : Option (Int32 × cf_O) :=
  some ((0 : Int32), o1)
noncomputable def fNl_takeNames_Nl3_0 (rc : Nat → Int32 → Int32 → Int32 → cf_O → cf_O → Option (Int32 × cf_O)) (v2 : Int32) (v3 : Int32) (o0 : cf_O) (o1 : cf_O) : Option (Int32 × cf_O) :=
  op_k ((o0.1 5) - 1) (fun x_1 => (if x_1 < (1 : Int32) then fNl_takeNames_Nl3_20 rc o0 o1 else (if x_1 ≤ v3 then rc 0 v2 x_1 0 o0 o1 else fNl_takeNames_Nl3_20 rc o0 o1)))
noncomputable def gNl_takeNames_Nl3 (n : Nat) : Nat → Int32 → Int32 → Int32 → cf_O → cf_O → Option (Int32 × cf_O) := Nat.rec (motive := fun _ => Nat → Int32 → Int32 → Int32 → cf_O → cf_O → Option (Int32 × cf_O)) (fun _ _ _ _ _ _ => none) (fun _ rc => fun k u2i u4i u5i o0 o1 => Nat.rec (motive := fun _ => Option (Int32 × cf_O)) (fNl_takeNames_Nl3_25 rc u2i u4i u5i o0 o1) (fun k _ => none) k) n
noncomputable def fNl_takeNames_Nl3 (v2 : Int32) (v3 : Int32) (o0 : cf_O) (o1 : cf_O) : Option (Int32 × cf_O) := fNl_takeNames_Nl3_0 (gNl_takeNames_Nl3 cfFU) v2 v3 o0 o1
noncomputable def fNl_hasTwice_Nl3_9 (rc : Nat → Int32 → Int32 → Int32 → cf_O → Option (Int32)) (v1 : Int32) (v2 : Int32) (v3 : Int32) (o0 : cf_O) : Option (Int32) :=
  (if v2 ≤ v3 then op_k (v2 + 1) (fun x_2 => rc 0 v1 x_2 0 o0) else (if v2 < 0 ∨ 8 ≤ v2.toNatClampNeg then none else op_k (o0.2.2 3 v2.toNatClampNeg) (fun x_4 => (if v3 < 0 ∨ 8 ≤ v3.toNatClampNeg then none else op_k (o0.2.2 3 v3.toNatClampNeg) (fun x_6 => op_k (lg_cmp x_4 x_6) (fun x_7 => (if x_7 = (0 : Int32) then some (1 : Int32) else op_k (v3 + 1) (fun x_9 => rc 1 v1 v2 x_9 o0))))))))
noncomputable def fNl_hasTwice_Nl3_2 (rc : Nat → Int32 → Int32 → Int32 → cf_O → Option (Int32)) (v1 : Int32) (v2 : Int32) (o0 : cf_O) : Option (Int32) :=
  (if v1 ≤ v2 then some (0 : Int32) else rc 1 v1 v2 0 o0)
noncomputable def fNl_hasTwice_Nl3_0 (rc : Nat → Int32 → Int32 → Int32 → cf_O → Option (Int32)) (v1 : Int32) (o0 : cf_O) : Option (Int32) :=
  rc 0 v1 0 0 o0
noncomputable def gNl_hasTwice_Nl3 (n : Nat) : Nat → Int32 → Int32 → Int32 → cf_O → Option (Int32) := Nat.rec (motive := fun _ => Nat → Int32 → Int32 → Int32 → cf_O → Option (Int32)) (fun _ _ _ _ _ => none) (fun _ rc => fun k u1i u2i u3i o0 => Nat.rec (motive := fun _ => Option (Int32)) (fNl_hasTwice_Nl3_2 rc u1i u2i o0) (fun k _ => Nat.rec (motive := fun _ => Option (Int32)) (fNl_hasTwice_Nl3_9 rc u1i u2i u3i o0) (fun k _ => none) k) k) n
noncomputable def fNl_hasTwice_Nl3 (v1 : Int32) (o0 : cf_O) : Option (Int32) := fNl_hasTwice_Nl3_0 (gNl_hasTwice_Nl3 cfFU) v1 o0
noncomputable def fNl_scanInputs_55 (s0 : Int32) (o0 : cf_O) (o1 : cf_O) : Option (Int32 × cf_O) :=
  some (s0, o0)
noncomputable def fNl_scanInputs_24 (o0 : cf_O) (o1 : cf_O) : Option (Int32 × cf_O) :=
  some ((1 : Int32), o0)
noncomputable def fNl_scanInputs_0 (o0 : cf_O) (o1 : cf_O) : Option (Int32 × cf_O) :=
  Option.bind (fTx_isWord_S2 0 o1) (fun q_1 => (if q_1 = (0 : Int32) then fNl_scanInputs_24 o0 o1 else Option.bind (fNl_takeNames_Nl3 0 8 o1 o0) (fun q_5 => (if q_5.1 = (0 : Int32) then fNl_scanInputs_24 q_5.2 o1 else op_k ((o1.1 5) - 1) (fun x_9 => op_k (fp q_5.2 0 x_9) (fun o_10 => Option.bind (fNl_hasTwice_Nl3 (o_10.1 0) o_10) (fun q_11 => (if q_11 = (0 : Int32) then fNl_scanInputs_55 0 o_10 o1 else fNl_scanInputs_55 2 o_10 o1))))))))
noncomputable def fNl_scanInputs (o0 : cf_O) (o1 : cf_O) : Option (Int32 × cf_O) := fNl_scanInputs_0 o0 o1
noncomputable def fJString_coder__S3_14 (s0 : Int32) : Option (Int32) :=
  (if ¬ (vp_nar .byte s0 = s0) then none else some s0)
noncomputable def fJString_coder__S3_0 : Option (Int32) :=
  fJString_coder__S3_14 0
noncomputable def fJString_coder__S3 : Option (Int32) := fJString_coder__S3_0
noncomputable def fJString_length__S3_0 : Option (Int32) :=
  Option.bind (fJString_coder__S3) (fun q_1 => op_k ((8 : Int32) >>> (q_1 &&& 31)) (fun x_4 => some x_4))
noncomputable def fJString_length__S3 : Option (Int32) := fJString_length__S3_0
noncomputable def fJString_isLatin1__S3_18 (s0 : Int32) : Option (Int32) :=
  (if ¬ (s0 = 0 ∨ s0 = 1) then none else some s0)
noncomputable def fJString_isLatin1__S3_17 : Option (Int32) :=
  fJString_isLatin1__S3_18 0
noncomputable def fJString_isLatin1__S3_0 : Option (Int32) :=
  fJString_isLatin1__S3_18 1
noncomputable def fJString_isLatin1__S3 : Option (Int32) := fJString_isLatin1__S3_0
noncomputable def fJStringLatin1_charAt_ABI_B3_0 (v1 : Int32) : Option (Int32) :=
  Option.bind (fJString_checkIndex_II v1 8) (fun q_1 => (if v1 < 0 ∨ 8 ≤ v1.toNatClampNeg then none else op_k (cf_sb 3 v1.toNatClampNeg) (fun x_4 => op_k (x_4 &&& 255) (fun x_5 => op_k ((x_5.toUInt32 % 65536).toInt32) (fun x_6 => (if ¬ (vp_nar .char x_6 = x_6) then none else some x_6))))))
noncomputable def fJStringLatin1_charAt_ABI_B3 (v1 : Int32) : Option (Int32) := fJStringLatin1_charAt_ABI_B3_0 v1
noncomputable def fJString_charAt_I_S3_0 (v1 : Int32) : Option (Int32) :=
  Option.bind (fJString_isLatin1__S3) (fun q_1 => (if q_1 = (0 : Int32) then none else Option.bind (fJStringLatin1_charAt_ABI_B3 v1) (fun q_5 => (if ¬ (vp_nar .char q_5 = q_5) then none else some q_5))))
noncomputable def fJString_charAt_I_S3 (v1 : Int32) : Option (Int32) := fJString_charAt_I_S3_0 v1
noncomputable def fTx_isWord_S3_16 (rc : Nat → Int32 → Int32 → cf_O → Option (Int32)) (v1 : Int32) (v3 : Int32) (o0 : cf_O) : Option (Int32) :=
  Option.bind (fJString_length__S3) (fun q_1 => (if q_1 ≤ v3 then some (1 : Int32) else Option.bind (fTx_signOf v1 v3 o0) (fun q_5 => Option.bind (fJString_charAt_I_S3 v3) (fun q_8 => (if q_5 = q_8 then op_k (v3 + 1) (fun x_12 => rc 0 v1 x_12 o0) else some (0 : Int32))))))
noncomputable def fTx_isWord_S3_0 (rc : Nat → Int32 → Int32 → cf_O → Option (Int32)) (v1 : Int32) (o0 : cf_O) : Option (Int32) :=
  Option.bind (fTx_length v1 o0) (fun q_1 => Option.bind (fJString_length__S3) (fun q_4 => (if q_1 = q_4 then rc 0 v1 0 o0 else some (0 : Int32))))
noncomputable def gTx_isWord_S3 (n : Nat) : Nat → Int32 → Int32 → cf_O → Option (Int32) := Nat.rec (motive := fun _ => Nat → Int32 → Int32 → cf_O → Option (Int32)) (fun _ _ _ _ => none) (fun _ rc => fun k u1i u3i o0 => Nat.rec (motive := fun _ => Option (Int32)) (fTx_isWord_S3_16 rc u1i u3i o0) (fun k _ => none) k) n
noncomputable def fTx_isWord_S3 (v1 : Int32) (o0 : cf_O) : Option (Int32) := fTx_isWord_S3_0 (gTx_isWord_S3 cfFU) v1 o0
noncomputable def fNl_takeNames_Nl4_25 (rc : Nat → Int32 → Int32 → Int32 → cf_O → cf_O → Option (Int32 × cf_O)) (v2 : Int32) (v4 : Int32) (v5 : Int32) (o0 : cf_O) (o1 : cf_O) : Option (Int32 × cf_O) :=
  (if v4 ≤ v5 then some ((1 : Int32), o1) else op_k (v2 + v5) (fun x_2 => op_k (v5 + 1) (fun x_3 => Option.bind (fTx_name x_3 o0) (fun q_4 => (if x_2 < 0 ∨ 6 ≤ x_2.toNatClampNeg then none else op_k (yp o1 4 x_2.toNatClampNeg q_4) (fun o_8 => op_k (v2 + v5) (fun x_9 => (if x_9 < 0 ∨ 6 ≤ x_9.toNatClampNeg then none else op_k (o_8.2.2 4 x_9.toNatClampNeg) (fun x_11 => op_k (lg_cmp x_11 (0 : Int64)) (fun x_12 => (if x_12 = (0 : Int32) then some ((0 : Int32), o_8) else op_k (v5 + 1) (fun x_14 => rc 0 v2 v4 x_14 o0 o_8))))))))))))
noncomputable def fNl_takeNames_Nl4_20 (rc : Nat → Int32 → Int32 → Int32 → cf_O → cf_O → Option (Int32 × cf_O)) (o0 : cf_O) (o1 : cf_O) : Option (Int32 × cf_O) :=
  some ((0 : Int32), o1)
noncomputable def fNl_takeNames_Nl4_0 (rc : Nat → Int32 → Int32 → Int32 → cf_O → cf_O → Option (Int32 × cf_O)) (v2 : Int32) (v3 : Int32) (o0 : cf_O) (o1 : cf_O) : Option (Int32 × cf_O) :=
  op_k ((o0.1 5) - 1) (fun x_1 => (if x_1 < (1 : Int32) then fNl_takeNames_Nl4_20 rc o0 o1 else (if x_1 ≤ v3 then rc 0 v2 x_1 0 o0 o1 else fNl_takeNames_Nl4_20 rc o0 o1)))
noncomputable def gNl_takeNames_Nl4 (n : Nat) : Nat → Int32 → Int32 → Int32 → cf_O → cf_O → Option (Int32 × cf_O) := Nat.rec (motive := fun _ => Nat → Int32 → Int32 → Int32 → cf_O → cf_O → Option (Int32 × cf_O)) (fun _ _ _ _ _ _ => none) (fun _ rc => fun k u2i u4i u5i o0 o1 => Nat.rec (motive := fun _ => Option (Int32 × cf_O)) (fNl_takeNames_Nl4_25 rc u2i u4i u5i o0 o1) (fun k _ => none) k) n
noncomputable def fNl_takeNames_Nl4 (v2 : Int32) (v3 : Int32) (o0 : cf_O) (o1 : cf_O) : Option (Int32 × cf_O) := fNl_takeNames_Nl4_0 (gNl_takeNames_Nl4 cfFU) v2 v3 o0 o1
noncomputable def fNl_hasTwice_Nl4_9 (rc : Nat → Int32 → Int32 → Int32 → cf_O → Option (Int32)) (v1 : Int32) (v2 : Int32) (v3 : Int32) (o0 : cf_O) : Option (Int32) :=
  (if v2 ≤ v3 then op_k (v2 + 1) (fun x_2 => rc 0 v1 x_2 0 o0) else (if v2 < 0 ∨ 6 ≤ v2.toNatClampNeg then none else op_k (o0.2.2 4 v2.toNatClampNeg) (fun x_4 => (if v3 < 0 ∨ 6 ≤ v3.toNatClampNeg then none else op_k (o0.2.2 4 v3.toNatClampNeg) (fun x_6 => op_k (lg_cmp x_4 x_6) (fun x_7 => (if x_7 = (0 : Int32) then some (1 : Int32) else op_k (v3 + 1) (fun x_9 => rc 1 v1 v2 x_9 o0))))))))
noncomputable def fNl_hasTwice_Nl4_2 (rc : Nat → Int32 → Int32 → Int32 → cf_O → Option (Int32)) (v1 : Int32) (v2 : Int32) (o0 : cf_O) : Option (Int32) :=
  (if v1 ≤ v2 then some (0 : Int32) else rc 1 v1 v2 0 o0)
noncomputable def fNl_hasTwice_Nl4_0 (rc : Nat → Int32 → Int32 → Int32 → cf_O → Option (Int32)) (v1 : Int32) (o0 : cf_O) : Option (Int32) :=
  rc 0 v1 0 0 o0
noncomputable def gNl_hasTwice_Nl4 (n : Nat) : Nat → Int32 → Int32 → Int32 → cf_O → Option (Int32) := Nat.rec (motive := fun _ => Nat → Int32 → Int32 → Int32 → cf_O → Option (Int32)) (fun _ _ _ _ _ => none) (fun _ rc => fun k u1i u2i u3i o0 => Nat.rec (motive := fun _ => Option (Int32)) (fNl_hasTwice_Nl4_2 rc u1i u2i o0) (fun k _ => Nat.rec (motive := fun _ => Option (Int32)) (fNl_hasTwice_Nl4_9 rc u1i u2i u3i o0) (fun k _ => none) k) k) n
noncomputable def fNl_hasTwice_Nl4 (v1 : Int32) (o0 : cf_O) : Option (Int32) := fNl_hasTwice_Nl4_0 (gNl_hasTwice_Nl4 cfFU) v1 o0
noncomputable def fNl_scanOutputs_63 (s0 : Int32) (o0 : cf_O) (o1 : cf_O) : Option (Int32 × cf_O) :=
  some (s0, o0)
noncomputable def fNl_scanOutputs_24 (o0 : cf_O) (o1 : cf_O) : Option (Int32 × cf_O) :=
  some ((1 : Int32), o0)
noncomputable def fNl_scanOutputs_0 (o0 : cf_O) (o1 : cf_O) : Option (Int32 × cf_O) :=
  Option.bind (fTx_isWord_S3 0 o1) (fun q_1 => (if q_1 = (0 : Int32) then fNl_scanOutputs_24 o0 o1 else Option.bind (fNl_takeNames_Nl4 0 6 o1 o0) (fun q_5 => (if q_5.1 = (0 : Int32) then fNl_scanOutputs_24 q_5.2 o1 else op_k ((o1.1 5) - 1) (fun x_9 => op_k (fp q_5.2 1 x_9) (fun o_10 => op_k (fp o_10 5 (o1.1 4)) (fun o_11 => Option.bind (fNl_hasTwice_Nl4 (o_11.1 1) o_11) (fun q_12 => (if q_12 = (0 : Int32) then fNl_scanOutputs_63 0 o_11 o1 else fNl_scanOutputs_63 2 o_11 o1)))))))))
noncomputable def fNl_scanOutputs (o0 : cf_O) (o1 : cf_O) : Option (Int32 × cf_O) := fNl_scanOutputs_0 o0 o1
noncomputable def fJString_coder__S4_14 (s0 : Int32) : Option (Int32) :=
  (if ¬ (vp_nar .byte s0 = s0) then none else some s0)
noncomputable def fJString_coder__S4_0 : Option (Int32) :=
  fJString_coder__S4_14 0
noncomputable def fJString_coder__S4 : Option (Int32) := fJString_coder__S4_0
noncomputable def fJString_length__S4_0 : Option (Int32) :=
  Option.bind (fJString_coder__S4) (fun q_1 => op_k ((4 : Int32) >>> (q_1 &&& 31)) (fun x_4 => some x_4))
noncomputable def fJString_length__S4 : Option (Int32) := fJString_length__S4_0
noncomputable def fJString_isLatin1__S4_18 (s0 : Int32) : Option (Int32) :=
  (if ¬ (s0 = 0 ∨ s0 = 1) then none else some s0)
noncomputable def fJString_isLatin1__S4_17 : Option (Int32) :=
  fJString_isLatin1__S4_18 0
noncomputable def fJString_isLatin1__S4_0 : Option (Int32) :=
  fJString_isLatin1__S4_18 1
noncomputable def fJString_isLatin1__S4 : Option (Int32) := fJString_isLatin1__S4_0
noncomputable def fJStringLatin1_charAt_ABI_B4_0 (v1 : Int32) : Option (Int32) :=
  Option.bind (fJString_checkIndex_II v1 4) (fun q_1 => (if v1 < 0 ∨ 4 ≤ v1.toNatClampNeg then none else op_k (cf_sb 4 v1.toNatClampNeg) (fun x_4 => op_k (x_4 &&& 255) (fun x_5 => op_k ((x_5.toUInt32 % 65536).toInt32) (fun x_6 => (if ¬ (vp_nar .char x_6 = x_6) then none else some x_6))))))
noncomputable def fJStringLatin1_charAt_ABI_B4 (v1 : Int32) : Option (Int32) := fJStringLatin1_charAt_ABI_B4_0 v1
noncomputable def fJString_charAt_I_S4_0 (v1 : Int32) : Option (Int32) :=
  Option.bind (fJString_isLatin1__S4) (fun q_1 => (if q_1 = (0 : Int32) then none else Option.bind (fJStringLatin1_charAt_ABI_B4 v1) (fun q_5 => (if ¬ (vp_nar .char q_5 = q_5) then none else some q_5))))
noncomputable def fJString_charAt_I_S4 (v1 : Int32) : Option (Int32) := fJString_charAt_I_S4_0 v1
noncomputable def fTx_isWord_S4_16 (rc : Nat → Int32 → Int32 → cf_O → Option (Int32)) (v1 : Int32) (v3 : Int32) (o0 : cf_O) : Option (Int32) :=
  Option.bind (fJString_length__S4) (fun q_1 => (if q_1 ≤ v3 then some (1 : Int32) else Option.bind (fTx_signOf v1 v3 o0) (fun q_5 => Option.bind (fJString_charAt_I_S4 v3) (fun q_8 => (if q_5 = q_8 then op_k (v3 + 1) (fun x_12 => rc 0 v1 x_12 o0) else some (0 : Int32))))))
noncomputable def fTx_isWord_S4_0 (rc : Nat → Int32 → Int32 → cf_O → Option (Int32)) (v1 : Int32) (o0 : cf_O) : Option (Int32) :=
  Option.bind (fTx_length v1 o0) (fun q_1 => Option.bind (fJString_length__S4) (fun q_4 => (if q_1 = q_4 then rc 0 v1 0 o0 else some (0 : Int32))))
noncomputable def gTx_isWord_S4 (n : Nat) : Nat → Int32 → Int32 → cf_O → Option (Int32) := Nat.rec (motive := fun _ => Nat → Int32 → Int32 → cf_O → Option (Int32)) (fun _ _ _ _ => none) (fun _ rc => fun k u1i u3i o0 => Nat.rec (motive := fun _ => Option (Int32)) (fTx_isWord_S4_16 rc u1i u3i o0) (fun k _ => none) k) n
noncomputable def fTx_isWord_S4 (v1 : Int32) (o0 : cf_O) : Option (Int32) := fTx_isWord_S4_0 (gTx_isWord_S4 cfFU) v1 o0
noncomputable def fJString_coder__S5_14 (s0 : Int32) : Option (Int32) :=
  (if ¬ (vp_nar .byte s0 = s0) then none else some s0)
noncomputable def fJString_coder__S5_0 : Option (Int32) :=
  fJString_coder__S5_14 0
noncomputable def fJString_coder__S5 : Option (Int32) := fJString_coder__S5_0
noncomputable def fJString_length__S5_0 : Option (Int32) :=
  Option.bind (fJString_coder__S5) (fun q_1 => op_k ((6 : Int32) >>> (q_1 &&& 31)) (fun x_4 => some x_4))
noncomputable def fJString_length__S5 : Option (Int32) := fJString_length__S5_0
noncomputable def fJString_isLatin1__S5_18 (s0 : Int32) : Option (Int32) :=
  (if ¬ (s0 = 0 ∨ s0 = 1) then none else some s0)
noncomputable def fJString_isLatin1__S5_17 : Option (Int32) :=
  fJString_isLatin1__S5_18 0
noncomputable def fJString_isLatin1__S5_0 : Option (Int32) :=
  fJString_isLatin1__S5_18 1
noncomputable def fJString_isLatin1__S5 : Option (Int32) := fJString_isLatin1__S5_0
noncomputable def fJStringLatin1_charAt_ABI_B5_0 (v1 : Int32) : Option (Int32) :=
  Option.bind (fJString_checkIndex_II v1 6) (fun q_1 => (if v1 < 0 ∨ 6 ≤ v1.toNatClampNeg then none else op_k (cf_sb 5 v1.toNatClampNeg) (fun x_4 => op_k (x_4 &&& 255) (fun x_5 => op_k ((x_5.toUInt32 % 65536).toInt32) (fun x_6 => (if ¬ (vp_nar .char x_6 = x_6) then none else some x_6))))))
noncomputable def fJStringLatin1_charAt_ABI_B5 (v1 : Int32) : Option (Int32) := fJStringLatin1_charAt_ABI_B5_0 v1
noncomputable def fJString_charAt_I_S5_0 (v1 : Int32) : Option (Int32) :=
  Option.bind (fJString_isLatin1__S5) (fun q_1 => (if q_1 = (0 : Int32) then none else Option.bind (fJStringLatin1_charAt_ABI_B5 v1) (fun q_5 => (if ¬ (vp_nar .char q_5 = q_5) then none else some q_5))))
noncomputable def fJString_charAt_I_S5 (v1 : Int32) : Option (Int32) := fJString_charAt_I_S5_0 v1
noncomputable def fTx_isWord_S5_16 (rc : Nat → Int32 → Int32 → cf_O → Option (Int32)) (v1 : Int32) (v3 : Int32) (o0 : cf_O) : Option (Int32) :=
  Option.bind (fJString_length__S5) (fun q_1 => (if q_1 ≤ v3 then some (1 : Int32) else Option.bind (fTx_signOf v1 v3 o0) (fun q_5 => Option.bind (fJString_charAt_I_S5 v3) (fun q_8 => (if q_5 = q_8 then op_k (v3 + 1) (fun x_12 => rc 0 v1 x_12 o0) else some (0 : Int32))))))
noncomputable def fTx_isWord_S5_0 (rc : Nat → Int32 → Int32 → cf_O → Option (Int32)) (v1 : Int32) (o0 : cf_O) : Option (Int32) :=
  Option.bind (fTx_length v1 o0) (fun q_1 => Option.bind (fJString_length__S5) (fun q_4 => (if q_1 = q_4 then rc 0 v1 0 o0 else some (0 : Int32))))
noncomputable def gTx_isWord_S5 (n : Nat) : Nat → Int32 → Int32 → cf_O → Option (Int32) := Nat.rec (motive := fun _ => Nat → Int32 → Int32 → cf_O → Option (Int32)) (fun _ _ _ _ => none) (fun _ rc => fun k u1i u3i o0 => Nat.rec (motive := fun _ => Option (Int32)) (fTx_isWord_S5_16 rc u1i u3i o0) (fun k _ => none) k) n
noncomputable def fTx_isWord_S5 (v1 : Int32) (o0 : cf_O) : Option (Int32) := fTx_isWord_S5_0 (gTx_isWord_S5 cfFU) v1 o0
noncomputable def fNl_takeNames_Nl7_25 (rc : Nat → Int32 → Int32 → Int32 → cf_O → cf_O → Option (Int32 × cf_O)) (v2 : Int32) (v4 : Int32) (v5 : Int32) (o0 : cf_O) (o1 : cf_O) : Option (Int32 × cf_O) :=
  (if v4 ≤ v5 then some ((1 : Int32), o1) else op_k (v2 + v5) (fun x_2 => op_k (v5 + 1) (fun x_3 => Option.bind (fTx_name x_3 o0) (fun q_4 => (if x_2 < 0 ∨ 180 ≤ x_2.toNatClampNeg then none else op_k (yp o1 7 x_2.toNatClampNeg q_4) (fun o_8 => op_k (v2 + v5) (fun x_9 => (if x_9 < 0 ∨ 180 ≤ x_9.toNatClampNeg then none else op_k (o_8.2.2 7 x_9.toNatClampNeg) (fun x_11 => op_k (lg_cmp x_11 (0 : Int64)) (fun x_12 => (if x_12 = (0 : Int32) then some ((0 : Int32), o_8) else op_k (v5 + 1) (fun x_14 => rc 0 v2 v4 x_14 o0 o_8))))))))))))
noncomputable def fNl_takeNames_Nl7_20 (rc : Nat → Int32 → Int32 → Int32 → cf_O → cf_O → Option (Int32 × cf_O)) (o0 : cf_O) (o1 : cf_O) : Option (Int32 × cf_O) :=
  some ((0 : Int32), o1)
noncomputable def fNl_takeNames_Nl7_0 (rc : Nat → Int32 → Int32 → Int32 → cf_O → cf_O → Option (Int32 × cf_O)) (v2 : Int32) (v3 : Int32) (o0 : cf_O) (o1 : cf_O) : Option (Int32 × cf_O) :=
  op_k ((o0.1 5) - 1) (fun x_1 => (if x_1 < (1 : Int32) then fNl_takeNames_Nl7_20 rc o0 o1 else (if x_1 ≤ v3 then rc 0 v2 x_1 0 o0 o1 else fNl_takeNames_Nl7_20 rc o0 o1)))
noncomputable def gNl_takeNames_Nl7 (n : Nat) : Nat → Int32 → Int32 → Int32 → cf_O → cf_O → Option (Int32 × cf_O) := Nat.rec (motive := fun _ => Nat → Int32 → Int32 → Int32 → cf_O → cf_O → Option (Int32 × cf_O)) (fun _ _ _ _ _ _ => none) (fun _ rc => fun k u2i u4i u5i o0 o1 => Nat.rec (motive := fun _ => Option (Int32 × cf_O)) (fNl_takeNames_Nl7_25 rc u2i u4i u5i o0 o1) (fun k _ => none) k) n
noncomputable def fNl_takeNames_Nl7 (v2 : Int32) (v3 : Int32) (o0 : cf_O) (o1 : cf_O) : Option (Int32 × cf_O) := fNl_takeNames_Nl7_0 (gNl_takeNames_Nl7 cfFU) v2 v3 o0 o1
noncomputable def fNl_givenName_0 (v1 : Int32) (o0 : cf_O) : Option (Int64) :=
  op_k (v1 * 6) (fun x_1 => (if v1 < 0 ∨ 30 ≤ v1.toNatClampNeg then none else op_k (o0.2.1 8 v1.toNatClampNeg) (fun x_3 => op_k (x_1 + x_3) (fun x_4 => (if x_4 < 0 ∨ 180 ≤ x_4.toNatClampNeg then none else op_k (o0.2.2 7 x_4.toNatClampNeg) (fun x_6 => some x_6))))))
noncomputable def fNl_givenName (v1 : Int32) (o0 : cf_O) : Option (Int64) := fNl_givenName_0 v1 o0
noncomputable def fNl_sourceOf_31 (rc : Nat → Int64 → Int32 → cf_O → Option (Int32)) (v1 : Int64) (v3 : Int32) (o0 : cf_O) : Option (Int32) :=
  (if (o0.1 6) ≤ v3 then some ((-1) : Int32) else Option.bind (fNl_givenName v3 o0) (fun q_2 => op_k (lg_cmp q_2 v1) (fun x_5 => (if x_5 = (0 : Int32) then op_k (8 + v3) (fun x_8 => some x_8) else op_k (v3 + 1) (fun x_7 => rc 1 v1 x_7 o0)))))
noncomputable def fNl_sourceOf_2 (rc : Nat → Int64 → Int32 → cf_O → Option (Int32)) (v1 : Int64) (v3 : Int32) (o0 : cf_O) : Option (Int32) :=
  (if (o0.1 0) ≤ v3 then rc 1 v1 0 o0 else (if v3 < 0 ∨ 8 ≤ v3.toNatClampNeg then none else op_k (o0.2.2 3 v3.toNatClampNeg) (fun x_3 => op_k (lg_cmp x_3 v1) (fun x_4 => (if x_4 = (0 : Int32) then some v3 else op_k (v3 + 1) (fun x_6 => rc 0 v1 x_6 o0))))))
noncomputable def fNl_sourceOf_0 (rc : Nat → Int64 → Int32 → cf_O → Option (Int32)) (v1 : Int64) (o0 : cf_O) : Option (Int32) :=
  rc 0 v1 0 o0
noncomputable def gNl_sourceOf (n : Nat) : Nat → Int64 → Int32 → cf_O → Option (Int32) := Nat.rec (motive := fun _ => Nat → Int64 → Int32 → cf_O → Option (Int32)) (fun _ _ _ _ => none) (fun _ rc => fun k u1l u3i o0 => Nat.rec (motive := fun _ => Option (Int32)) (fNl_sourceOf_2 rc u1l u3i o0) (fun k _ => Nat.rec (motive := fun _ => Option (Int32)) (fNl_sourceOf_31 rc u1l u3i o0) (fun k _ => none) k) k) n
noncomputable def fNl_sourceOf (v1 : Int64) (o0 : cf_O) : Option (Int32) := fNl_sourceOf_0 (gNl_sourceOf cfFU) v1 o0
noncomputable def fNl_scanTable_29 (o0 : cf_O) (o1 : cf_O) : Option (Int32 × cf_O) :=
  some ((1 : Int32), o0)
noncomputable def fNl_scanTable_0 (o0 : cf_O) (o1 : cf_O) : Option (Int32 × cf_O) :=
  (if (o0.1 6) = (30 : Int32) then fNl_scanTable_29 o0 o1 else op_k ((o0.1 6) * 6) (fun x_2 => Option.bind (fNl_takeNames_Nl7 x_2 6 o1 o0) (fun q_3 => (if q_3.1 = (0 : Int32) then fNl_scanTable_29 q_3.2 o1 else op_k ((o1.1 5) - 2) (fun x_7 => (if (q_3.2.1 6) < 0 ∨ 30 ≤ (q_3.2.1 6).toNatClampNeg then none else op_k (xp q_3.2 8 (q_3.2.1 6).toNatClampNeg x_7) (fun o_9 => Option.bind (fNl_givenName (o_9.1 6) o_9) (fun q_10 => Option.bind (fNl_sourceOf q_10 o_9) (fun q_13 => (if q_13 = ((-1) : Int32) then (if (o_9.1 6) < 0 ∨ 30 ≤ (o_9.1 6).toNatClampNeg then none else op_k (xp o_9 9 (o_9.1 6).toNatClampNeg (o1.1 4)) (fun o_18 => (if (o_18.1 6) < 0 ∨ 30 ≤ (o_18.1 6).toNatClampNeg then none else op_k (xp o_18 10 (o_18.1 6).toNatClampNeg 0) (fun o_20 => (if (o_20.1 6) < 0 ∨ 30 ≤ (o_20.1 6).toNatClampNeg then none else op_k (xp o_20 11 (o_20.1 6).toNatClampNeg 1) (fun o_22 => op_k ((o_22.1 6) + 1) (fun x_23 => op_k (fp o_22 6 x_23) (fun o_24 => some ((0 : Int32), o_24))))))))) else some ((2 : Int32), o_9)))))))))))
noncomputable def fNl_scanTable (o0 : cf_O) (o1 : cf_O) : Option (Int32 × cf_O) := fNl_scanTable_0 o0 o1
noncomputable def fTx_ask_71 (rc : Nat → Int32 → Int32 → Int32 → Int32 → cf_O → Option (Int32)) (v1 : Int32) (v2 : Int32) (v4 : Int32) (s0 : Int32) (s1 : Int32) (o0 : cf_O) : Option (Int32) :=
  op_k (2 * v4) (fun x_1 => op_k (s1 <<< (x_1 &&& 31)) (fun x_2 => op_k (s0 ||| x_2) (fun x_3 => op_k (v4 + 1) (fun x_4 => rc 0 v1 v2 x_3 x_4 o0))))
noncomputable def fTx_ask_54 (rc : Nat → Int32 → Int32 → Int32 → Int32 → cf_O → Option (Int32)) (v1 : Int32) (v2 : Int32) (v3 : Int32) (v4 : Int32) (v5 : Int32) (o0 : cf_O) : Option (Int32) :=
  (if v5 = (45 : Int32) then fTx_ask_71 rc v1 v2 v4 v3 2 o0 else op_k (v5 - 48) (fun x_2 => fTx_ask_71 rc v1 v2 v4 v3 x_2 o0))
noncomputable def fTx_ask_16 (rc : Nat → Int32 → Int32 → Int32 → Int32 → cf_O → Option (Int32)) (v1 : Int32) (v2 : Int32) (v3 : Int32) (v4 : Int32) (o0 : cf_O) : Option (Int32) :=
  (if v2 ≤ v4 then some v3 else Option.bind (fTx_signOf v1 v4 o0) (fun q_2 => (if q_2 = (48 : Int32) then fTx_ask_54 rc v1 v2 v3 v4 q_2 o0 else (if q_2 = (49 : Int32) then fTx_ask_54 rc v1 v2 v3 v4 q_2 o0 else (if q_2 = (45 : Int32) then fTx_ask_54 rc v1 v2 v3 v4 q_2 o0 else some ((-1) : Int32))))))
noncomputable def fTx_ask_0 (rc : Nat → Int32 → Int32 → Int32 → Int32 → cf_O → Option (Int32)) (v1 : Int32) (v2 : Int32) (o0 : cf_O) : Option (Int32) :=
  Option.bind (fTx_length v1 o0) (fun q_1 => (if q_1 = v2 then rc 0 v1 v2 0 0 o0 else some ((-1) : Int32)))
noncomputable def gTx_ask (n : Nat) : Nat → Int32 → Int32 → Int32 → Int32 → cf_O → Option (Int32) := Nat.rec (motive := fun _ => Nat → Int32 → Int32 → Int32 → Int32 → cf_O → Option (Int32)) (fun _ _ _ _ _ _ => none) (fun _ rc => fun k u1i u2i u3i u4i o0 => Nat.rec (motive := fun _ => Option (Int32)) (fTx_ask_16 rc u1i u2i u3i u4i o0) (fun k _ => none) k) n
noncomputable def fTx_ask (v1 : Int32) (v2 : Int32) (o0 : cf_O) : Option (Int32) := fTx_ask_0 (gTx_ask cfFU) v1 v2 o0
noncomputable def fNl_scanRow_124 (v2 : Int32) (v4 : Int32) (v5 : Int32) (o0 : cf_O) (o1 : cf_O) : Option (Int32 × cf_O) :=
  (if v2 < 0 ∨ 30 ≤ v2.toNatClampNeg then none else op_k (xp o0 11 v2.toNatClampNeg v5) (fun o_2 => op_k (v2 * 16) (fun x_3 => (if v2 < 0 ∨ 30 ≤ v2.toNatClampNeg then none else op_k (o_2.2.1 10 v2.toNatClampNeg) (fun x_5 => op_k (x_3 + x_5) (fun x_6 => (if x_6 < 0 ∨ 480 ≤ x_6.toNatClampNeg then none else op_k (xp o_2 12 x_6.toNatClampNeg v4) (fun o_8 => (if v2 < 0 ∨ 30 ≤ v2.toNatClampNeg then none else op_k (o_8.2.1 10 v2.toNatClampNeg) (fun x_10 => op_k (x_10 + 1) (fun x_11 => (if v2 < 0 ∨ 30 ≤ v2.toNatClampNeg then none else op_k (xp o_8 10 v2.toNatClampNeg x_11) (fun o_13 => some ((0 : Int32), o_13))))))))))))))
noncomputable def fNl_scanRow_122 (o0 : cf_O) (o1 : cf_O) : Option (Int32 × cf_O) :=
  some ((1 : Int32), o0)
noncomputable def fNl_scanRow_92 (v2 : Int32) (v4 : Int32) (v5 : Int32) (s0 : Int32) (o0 : cf_O) (o1 : cf_O) : Option (Int32 × cf_O) :=
  (if v4 = ((-1) : Int32) then fNl_scanRow_122 o0 o1 else (if v5 = ((-1) : Int32) then fNl_scanRow_122 o0 o1 else (if s0 = (0 : Int32) then (if v2 < 0 ∨ 30 ≤ v2.toNatClampNeg then none else op_k (o0.2.1 11 v2.toNatClampNeg) (fun x_5 => (if v5 = x_5 then fNl_scanRow_124 v2 v4 v5 o0 o1 else fNl_scanRow_122 o0 o1))) else fNl_scanRow_124 v2 v4 v5 o0 o1)))
noncomputable def fNl_scanRow_63 (v2 : Int32) (s0 : Int32) (o0 : cf_O) (o1 : cf_O) : Option (Int32 × cf_O) :=
  op_k ((o1.1 5) - 1) (fun x_1 => Option.bind (fTx_bits x_1 1 o1) (fun q_2 => (if v2 < 0 ∨ 30 ≤ v2.toNatClampNeg then none else op_k (o0.2.1 10 v2.toNatClampNeg) (fun x_6 => (if x_6 = (0 : Int32) then fNl_scanRow_92 v2 s0 q_2 1 o0 o1 else fNl_scanRow_92 v2 s0 q_2 0 o0 o1)))))
noncomputable def fNl_scanRow_44 (v2 : Int32) (v3 : Int32) (s0 : Int32) (s1 : Int32) (o0 : cf_O) (o1 : cf_O) : Option (Int32 × cf_O) :=
  (if s0 = s1 then (if v3 = (0 : Int32) then fNl_scanRow_63 v2 0 o0 o1 else Option.bind (fTx_ask 0 v3 o1) (fun q_3 => fNl_scanRow_63 v2 q_3 o0 o1)) else some ((1 : Int32), o0))
noncomputable def fNl_scanRow_22 (o0 : cf_O) (o1 : cf_O) : Option (Int32 × cf_O) :=
  some ((1 : Int32), o0)
noncomputable def fNl_scanRow_0 (o0 : cf_O) (o1 : cf_O) : Option (Int32 × cf_O) :=
  op_k ((o0.1 6) - 1) (fun x_1 => (if x_1 < (0 : Int32) then fNl_scanRow_22 o0 o1 else (if x_1 < 0 ∨ 30 ≤ x_1.toNatClampNeg then none else op_k (o0.2.1 10 x_1.toNatClampNeg) (fun x_4 => (if x_4 = (16 : Int32) then fNl_scanRow_22 o0 o1 else (if x_1 < 0 ∨ 30 ≤ x_1.toNatClampNeg then none else op_k (o0.2.1 8 x_1.toNatClampNeg) (fun x_7 => (if x_7 = (0 : Int32) then fNl_scanRow_44 x_1 x_7 (o1.1 5) 1 o0 o1 else fNl_scanRow_44 x_1 x_7 (o1.1 5) 2 o0 o1))))))))
noncomputable def fNl_scanRow (o0 : cf_O) (o1 : cf_O) : Option (Int32 × cf_O) := fNl_scanRow_0 o0 o1
noncomputable def fNl_scanLine_89 (s0 : Int32) (o0 : cf_O) (o1 : cf_O) : Option (Int32 × cf_O) :=
  some (s0, o0)
noncomputable def fNl_scanLine_0 (v2 : Int32) (o0 : cf_O) (o1 : cf_O) : Option (Int32 × cf_O) :=
  (if v2 = (0 : Int32) then Option.bind (fNl_scanInputs o0 o1) (fun q_2 => some (q_2.1, q_2.2)) else (if v2 = (1 : Int32) then Option.bind (fNl_scanOutputs o0 o1) (fun q_6 => some (q_6.1, q_6.2)) else (if v2 = (2 : Int32) then Option.bind (fTx_isWord_S4 0 o1) (fun q_10 => (if q_10 = (0 : Int32) then Option.bind (fTx_isWord_S5 0 o1) (fun q_14 => (if q_14 = (0 : Int32) then Option.bind (fNl_scanRow o0 o1) (fun q_18 => fNl_scanLine_89 q_18.1 q_18.2 o1) else Option.bind (fNl_scanTable o0 o1) (fun q_21 => fNl_scanLine_89 q_21.1 q_21.2 o1))) else (if (o1.1 5) = (1 : Int32) then fNl_scanLine_89 0 o0 o1 else fNl_scanLine_89 1 o0 o1))) else some ((1 : Int32), o0))))
noncomputable def fNl_scanLine (v2 : Int32) (o0 : cf_O) (o1 : cf_O) : Option (Int32 × cf_O) := fNl_scanLine_0 v2 o0 o1
noncomputable def fNl_scanLines_87 (rc : Nat → Int32 → Int32 → cf_O → cf_O → Option (Int32 × cf_O × cf_O)) (s0 : Int32) (o0 : cf_O) (o1 : cf_O) : Option (Int32 × cf_O × cf_O) :=
  some (s0, o0, o1)
noncomputable def fNl_scanLines_77 (rc : Nat → Int32 → Int32 → cf_O → cf_O → Option (Int32 × cf_O × cf_O)) (v2 : Int32) (o0 : cf_O) (o1 : cf_O) : Option (Int32 × cf_O × cf_O) :=
  (if v2 = (3 : Int32) then fNl_scanLines_87 rc 0 o0 o1 else fNl_scanLines_87 rc 1 o0 o1)
noncomputable def fNl_scanLines_71 (rc : Nat → Int32 → Int32 → cf_O → cf_O → Option (Int32 × cf_O × cf_O)) (v2 : Int32) (v3 : Int32) (o0 : cf_O) (o1 : cf_O) : Option (Int32 × cf_O × cf_O) :=
  op_k (v3 + 1) (fun x_1 => rc 0 v2 x_1 o0 o1)
noncomputable def fNl_scanLines_68 (rc : Nat → Int32 → Int32 → cf_O → cf_O → Option (Int32 × cf_O × cf_O)) (v2 : Int32) (v3 : Int32) (o0 : cf_O) (o1 : cf_O) : Option (Int32 × cf_O × cf_O) :=
  op_k (v2 + 1) (fun x_1 => fNl_scanLines_71 rc x_1 v3 o0 o1)
noncomputable def fNl_scanLines_23 (rc : Nat → Int32 → Int32 → cf_O → cf_O → Option (Int32 × cf_O × cf_O)) (v2 : Int32) (v3 : Int32) (o0 : cf_O) (o1 : cf_O) : Option (Int32 × cf_O × cf_O) :=
  (if (1600 : Int32) < v3 then fNl_scanLines_77 rc v2 o0 o1 else Option.bind (fTx_toNextLine o1) (fun q_2 => (if q_2.1 = (0 : Int32) then fNl_scanLines_77 rc v2 o0 q_2.2 else Option.bind (fNl_scanLine v2 o0 q_2.2) (fun q_6 => (if q_6.1 = (0 : Int32) then (if v2 = (2 : Int32) then Option.bind (fTx_isWord_S4 0 q_2.2) (fun q_11 => (if q_11 = (0 : Int32) then fNl_scanLines_71 rc v2 v3 q_6.2 q_2.2 else fNl_scanLines_68 rc v2 v3 q_6.2 q_2.2)) else fNl_scanLines_68 rc v2 v3 q_6.2 q_2.2) else some (q_6.1, q_6.2, q_2.2))))))
noncomputable def fNl_scanLines_0 (rc : Nat → Int32 → Int32 → cf_O → cf_O → Option (Int32 × cf_O × cf_O)) (o0 : cf_O) (o1 : cf_O) : Option (Int32 × cf_O × cf_O) :=
  op_k (fp o0 0 0) (fun o_1 => op_k (fp o_1 1 0) (fun o_2 => op_k (fp o_2 6 0) (fun o_3 => Option.bind (fTx_rewind o1) (fun q_4 => rc 0 0 0 o_3 q_4))))
noncomputable def gNl_scanLines (n : Nat) : Nat → Int32 → Int32 → cf_O → cf_O → Option (Int32 × cf_O × cf_O) := Nat.rec (motive := fun _ => Nat → Int32 → Int32 → cf_O → cf_O → Option (Int32 × cf_O × cf_O)) (fun _ _ _ _ _ => none) (fun _ rc => fun k u2i u3i o0 o1 => Nat.rec (motive := fun _ => Option (Int32 × cf_O × cf_O)) (fNl_scanLines_23 rc u2i u3i o0 o1) (fun k _ => none) k) n
noncomputable def fNl_scanLines (o0 : cf_O) (o1 : cf_O) : Option (Int32 × cf_O × cf_O) := fNl_scanLines_0 (gNl_scanLines cfFU) o0 o1
noncomputable def fNl_lineWithoutSource_62 (rc : Nat → Int32 → Int32 → cf_O → Option (Int32 × cf_O)) (v1 : Int32) (v2 : Int32) (o0 : cf_O) : Option (Int32 × cf_O) :=
  op_k (v1 * 6) (fun x_1 => (if v1 < 0 ∨ 30 ≤ v1.toNatClampNeg then none else op_k (o0.2.1 8 v1.toNatClampNeg) (fun x_3 => op_k (x_1 + x_3) (fun x_4 => (if x_4 ≤ v2 then op_k (v1 + 1) (fun x_6 => rc 1 x_6 0 o0) else (if v2 < 0 ∨ 180 ≤ v2.toNatClampNeg then none else op_k (o0.2.2 7 v2.toNatClampNeg) (fun x_8 => Option.bind (fNl_sourceOf x_8 o0) (fun q_9 => (if v2 < 0 ∨ 180 ≤ v2.toNatClampNeg then none else op_k (xp o0 13 v2.toNatClampNeg q_9) (fun o_13 => (if v2 < 0 ∨ 180 ≤ v2.toNatClampNeg then none else op_k (o_13.2.1 13 v2.toNatClampNeg) (fun x_15 => (if x_15 = ((-1) : Int32) then (if v1 < 0 ∨ 30 ≤ v1.toNatClampNeg then none else op_k (o_13.2.1 9 v1.toNatClampNeg) (fun x_19 => some (x_19, o_13))) else op_k (v2 + 1) (fun x_17 => rc 2 v1 x_17 o_13))))))))))))))
noncomputable def fNl_lineWithoutSource_49 (rc : Nat → Int32 → Int32 → cf_O → Option (Int32 × cf_O)) (v1 : Int32) (o0 : cf_O) : Option (Int32 × cf_O) :=
  (if (o0.1 6) ≤ v1 then some (((-1) : Int32), o0) else op_k (v1 * 6) (fun x_2 => rc 2 v1 x_2 o0))
noncomputable def fNl_lineWithoutSource_2 (rc : Nat → Int32 → Int32 → cf_O → Option (Int32 × cf_O)) (v1 : Int32) (o0 : cf_O) : Option (Int32 × cf_O) :=
  (if (o0.1 1) ≤ v1 then rc 1 0 0 o0 else (if v1 < 0 ∨ 6 ≤ v1.toNatClampNeg then none else op_k (o0.2.2 4 v1.toNatClampNeg) (fun x_3 => Option.bind (fNl_sourceOf x_3 o0) (fun q_4 => (if v1 < 0 ∨ 6 ≤ v1.toNatClampNeg then none else op_k (xp o0 14 v1.toNatClampNeg q_4) (fun o_8 => (if v1 < 0 ∨ 6 ≤ v1.toNatClampNeg then none else op_k (o_8.2.1 14 v1.toNatClampNeg) (fun x_10 => (if x_10 = ((-1) : Int32) then some (o_8.1 5, o_8) else op_k (v1 + 1) (fun x_12 => rc 0 x_12 0 o_8))))))))))
noncomputable def fNl_lineWithoutSource_0 (rc : Nat → Int32 → Int32 → cf_O → Option (Int32 × cf_O)) (o0 : cf_O) : Option (Int32 × cf_O) :=
  rc 0 0 0 o0
noncomputable def gNl_lineWithoutSource (n : Nat) : Nat → Int32 → Int32 → cf_O → Option (Int32 × cf_O) := Nat.rec (motive := fun _ => Nat → Int32 → Int32 → cf_O → Option (Int32 × cf_O)) (fun _ _ _ _ => none) (fun _ rc => fun k u1i u2i o0 => Nat.rec (motive := fun _ => Option (Int32 × cf_O)) (fNl_lineWithoutSource_2 rc u1i o0) (fun k _ => Nat.rec (motive := fun _ => Option (Int32 × cf_O)) (fNl_lineWithoutSource_49 rc u1i o0) (fun k _ => Nat.rec (motive := fun _ => Option (Int32 × cf_O)) (fNl_lineWithoutSource_62 rc u1i u2i o0) (fun k _ => none) k) k) k) n
noncomputable def fNl_lineWithoutSource (o0 : cf_O) : Option (Int32 × cf_O) := fNl_lineWithoutSource_0 (gNl_lineWithoutSource cfFU) o0
noncomputable def fNl_findReached_128 (rc : Nat → Int32 → Int32 → cf_O → Option (cf_O)) (v1 : Int32) (v2 : Int32) (o0 : cf_O) : Option (cf_O) :=
  op_k (v2 + 1) (fun x_1 => rc 3 v1 x_1 o0)
noncomputable def fNl_findReached_92 (rc : Nat → Int32 → Int32 → cf_O → Option (cf_O)) (v1 : Int32) (v2 : Int32) (o0 : cf_O) : Option (cf_O) :=
  (if (o0.1 6) ≤ v2 then op_k (v1 + 1) (fun x_2 => rc 2 x_2 0 o0) else (if v2 < 0 ∨ 30 ≤ v2.toNatClampNeg then none else op_k (o0.2.1 15 v2.toNatClampNeg) (fun x_4 => op_k (x_4 >>> (v1 &&& 31)) (fun x_5 => op_k (x_5 &&& 1) (fun x_6 => (if x_6 = (0 : Int32) then fNl_findReached_128 rc v1 v2 o0 else (if v2 < 0 ∨ 30 ≤ v2.toNatClampNeg then none else op_k (o0.2.1 15 v2.toNatClampNeg) (fun x_9 => (if v1 < 0 ∨ 30 ≤ v1.toNatClampNeg then none else op_k (o0.2.1 15 v1.toNatClampNeg) (fun x_11 => op_k (x_9 ||| x_11) (fun x_12 => (if v2 < 0 ∨ 30 ≤ v2.toNatClampNeg then none else op_k (xp o0 15 v2.toNatClampNeg x_12) (fun o_14 => fNl_findReached_128 rc v1 v2 o_14)))))))))))))
noncomputable def fNl_findReached_82 (rc : Nat → Int32 → Int32 → cf_O → Option (cf_O)) (v1 : Int32) (o0 : cf_O) : Option (cf_O) :=
  (if (o0.1 6) ≤ v1 then some o0 else rc 3 v1 0 o0)
noncomputable def fNl_findReached_68 (rc : Nat → Int32 → Int32 → cf_O → Option (cf_O)) (v1 : Int32) (v2 : Int32) (o0 : cf_O) : Option (cf_O) :=
  op_k (v2 + 1) (fun x_1 => rc 1 v1 x_1 o0)
noncomputable def fNl_findReached_22 (rc : Nat → Int32 → Int32 → cf_O → Option (cf_O)) (v1 : Int32) (v2 : Int32) (o0 : cf_O) : Option (cf_O) :=
  op_k (v1 * 6) (fun x_1 => (if v1 < 0 ∨ 30 ≤ v1.toNatClampNeg then none else op_k (o0.2.1 8 v1.toNatClampNeg) (fun x_3 => op_k (x_1 + x_3) (fun x_4 => (if x_4 ≤ v2 then op_k (v1 + 1) (fun x_6 => rc 0 x_6 0 o0) else (if v2 < 0 ∨ 180 ≤ v2.toNatClampNeg then none else op_k (o0.2.1 13 v2.toNatClampNeg) (fun x_8 => (if x_8 < (8 : Int32) then fNl_findReached_68 rc v1 v2 o0 else (if v1 < 0 ∨ 30 ≤ v1.toNatClampNeg then none else op_k (o0.2.1 15 v1.toNatClampNeg) (fun x_11 => (if v2 < 0 ∨ 180 ≤ v2.toNatClampNeg then none else op_k (o0.2.1 13 v2.toNatClampNeg) (fun x_13 => op_k (x_13 - 8) (fun x_14 => op_k ((1 : Int32) <<< (x_14 &&& 31)) (fun x_15 => op_k (x_11 ||| x_15) (fun x_16 => (if v1 < 0 ∨ 30 ≤ v1.toNatClampNeg then none else op_k (xp o0 15 v1.toNatClampNeg x_16) (fun o_18 => fNl_findReached_68 rc v1 v2 o_18)))))))))))))))))
noncomputable def fNl_findReached_2 (rc : Nat → Int32 → Int32 → cf_O → Option (cf_O)) (v1 : Int32) (o0 : cf_O) : Option (cf_O) :=
  (if (o0.1 6) ≤ v1 then rc 2 0 0 o0 else (if v1 < 0 ∨ 30 ≤ v1.toNatClampNeg then none else op_k (xp o0 15 v1.toNatClampNeg 0) (fun o_3 => op_k (v1 * 6) (fun x_4 => rc 1 v1 x_4 o_3))))
noncomputable def fNl_findReached_0 (rc : Nat → Int32 → Int32 → cf_O → Option (cf_O)) (o0 : cf_O) : Option (cf_O) :=
  rc 0 0 0 o0
noncomputable def gNl_findReached (n : Nat) : Nat → Int32 → Int32 → cf_O → Option (cf_O) := Nat.rec (motive := fun _ => Nat → Int32 → Int32 → cf_O → Option (cf_O)) (fun _ _ _ _ => none) (fun _ rc => fun k u1i u2i o0 => Nat.rec (motive := fun _ => Option (cf_O)) (fNl_findReached_2 rc u1i o0) (fun k _ => Nat.rec (motive := fun _ => Option (cf_O)) (fNl_findReached_22 rc u1i u2i o0) (fun k _ => Nat.rec (motive := fun _ => Option (cf_O)) (fNl_findReached_82 rc u1i o0) (fun k _ => Nat.rec (motive := fun _ => Option (cf_O)) (fNl_findReached_92 rc u1i u2i o0) (fun k _ => none) k) k) k) k) n
noncomputable def fNl_findReached (o0 : cf_O) : Option (cf_O) := fNl_findReached_0 (gNl_findReached cfFU) o0
noncomputable def fNl_lineOfRing_6 (rc : Nat → Int32 → cf_O → Option (Int32 × cf_O)) (v1 : Int32) (o0 : cf_O) : Option (Int32 × cf_O) :=
  (if (o0.1 6) ≤ v1 then some (((-1) : Int32), o0) else (if v1 < 0 ∨ 30 ≤ v1.toNatClampNeg then none else op_k (o0.2.1 15 v1.toNatClampNeg) (fun x_3 => op_k (x_3 >>> (v1 &&& 31)) (fun x_4 => op_k (x_4 &&& 1) (fun x_5 => (if x_5 = (0 : Int32) then op_k (v1 + 1) (fun x_7 => rc 0 x_7 o0) else (if v1 < 0 ∨ 30 ≤ v1.toNatClampNeg then none else op_k (o0.2.1 9 v1.toNatClampNeg) (fun x_9 => some (x_9, o0)))))))))
noncomputable def fNl_lineOfRing_0 (rc : Nat → Int32 → cf_O → Option (Int32 × cf_O)) (o0 : cf_O) : Option (Int32 × cf_O) :=
  Option.bind (fNl_findReached o0) (fun q_1 => rc 0 0 q_1)
noncomputable def gNl_lineOfRing (n : Nat) : Nat → Int32 → cf_O → Option (Int32 × cf_O) := Nat.rec (motive := fun _ => Nat → Int32 → cf_O → Option (Int32 × cf_O)) (fun _ _ _ => none) (fun _ rc => fun k u1i o0 => Nat.rec (motive := fun _ => Option (Int32 × cf_O)) (fNl_lineOfRing_6 rc u1i o0) (fun k _ => none) k) n
noncomputable def fNl_lineOfRing (o0 : cf_O) : Option (Int32 × cf_O) := fNl_lineOfRing_0 (gNl_lineOfRing cfFU) o0
noncomputable def fNl_scan_59 (s0 : Int32) (o0 : cf_O) (o1 : cf_O) : Option (Int32 × cf_O × cf_O) :=
  some (s0, o0, o1)
noncomputable def fNl_scan_0 (o0 : cf_O) (o1 : cf_O) : Option (Int32 × cf_O × cf_O) :=
  Option.bind (fNl_scanLines o0 o1) (fun q_1 => (if q_1.1 = (0 : Int32) then Option.bind (fNl_lineWithoutSource q_1.2.1) (fun q_5 => op_k (fp q_5.2 2 q_5.1) (fun o_8 => (if (o_8.1 2) = ((-1) : Int32) then Option.bind (fNl_lineOfRing o_8) (fun q_10 => op_k (fp q_10.2 2 q_10.1) (fun o_13 => (if (o_13.1 2) = ((-1) : Int32) then fNl_scan_59 0 o_13 q_1.2.2 else fNl_scan_59 4 o_13 q_1.2.2))) else some ((3 : Int32), o_8, q_1.2.2)))) else op_k (fp q_1.2.1 2 (q_1.2.2.1 4)) (fun o_15 => some (q_1.1, o_15, q_1.2.2))))
noncomputable def fNl_scan (o0 : cf_O) (o1 : cf_O) : Option (Int32 × cf_O × cf_O) := fNl_scan_0 o0 o1
noncomputable def fJArrays_fill_AII_Nl16_5 (rc : Nat → Int32 → Int32 → Int32 → cf_O → Option (cf_O)) (v1 : Int32) (v2 : Int32) (v3 : Int32) (o0 : cf_O) : Option (cf_O) :=
  (if v3 ≤ v2 then some o0 else (if v2 < 0 ∨ 30 ≤ v2.toNatClampNeg then none else op_k (xp o0 16 v2.toNatClampNeg v1) (fun o_3 => op_k (v2 + 1) (fun x_4 => rc 0 v1 x_4 v3 o_3))))
noncomputable def fJArrays_fill_AII_Nl16_0 (rc : Nat → Int32 → Int32 → Int32 → cf_O → Option (cf_O)) (v1 : Int32) (o0 : cf_O) : Option (cf_O) :=
  rc 0 v1 0 30 o0
noncomputable def gJArrays_fill_AII_Nl16 (n : Nat) : Nat → Int32 → Int32 → Int32 → cf_O → Option (cf_O) := Nat.rec (motive := fun _ => Nat → Int32 → Int32 → Int32 → cf_O → Option (cf_O)) (fun _ _ _ _ _ => none) (fun _ rc => fun k u1i u2i u3i o0 => Nat.rec (motive := fun _ => Option (cf_O)) (fJArrays_fill_AII_Nl16_5 rc u1i u2i u3i o0) (fun k _ => none) k) n
noncomputable def fJArrays_fill_AII_Nl16 (v1 : Int32) (o0 : cf_O) : Option (cf_O) := fJArrays_fill_AII_Nl16_0 (gJArrays_fill_AII_Nl16 cfFU) v1 o0
noncomputable def fNl_productOf_90 (rc : Nat → Int32 → Int32 → Int32 → Int32 → cf_O → cf_O → Option (Int32 × cf_O)) (v1 : Int32) (v2 : Int32) (v4 : Int32) (v5 : Int32) (o0 : cf_O) (o1 : cf_O) : Option (Int32 × cf_O) :=
  op_k (v5 + 1) (fun x_1 => rc 0 v1 v2 v4 x_1 o0 o1)
noncomputable def fNl_productOf_73 (rc : Nat → Int32 → Int32 → Int32 → Int32 → cf_O → cf_O → Option (Int32 × cf_O)) (v1 : Int32) (v2 : Int32) (v4 : Int32) (v5 : Int32) (v6 : Int32) (s0 : Int32) (o0 : cf_O) (o1 : cf_O) : Option (Int32 × cf_O) :=
  op_k (1 - v6) (fun x_1 => op_k (s0 ^^^ x_1) (fun x_2 => Option.bind (fGr_and v4 x_2 o1) (fun q_3 => fNl_productOf_90 rc v1 v2 q_3.1 v5 o0 q_3.2)))
noncomputable def fNl_productOf_6 (rc : Nat → Int32 → Int32 → Int32 → Int32 → cf_O → cf_O → Option (Int32 × cf_O)) (v1 : Int32) (v2 : Int32) (v4 : Int32) (v5 : Int32) (o0 : cf_O) (o1 : cf_O) : Option (Int32 × cf_O) :=
  (if v1 < 0 ∨ 30 ≤ v1.toNatClampNeg then none else op_k (o0.2.1 8 v1.toNatClampNeg) (fun x_2 => (if x_2 ≤ v5 then some (v4, o1) else op_k (2 * v5) (fun x_4 => op_k (v2 >>> (x_4 &&& 31)) (fun x_5 => op_k (x_5 &&& 3) (fun x_6 => (if x_6 = (2 : Int32) then fNl_productOf_90 rc v1 v2 v4 v5 o0 o1 else op_k (v1 * 6) (fun x_8 => op_k (x_8 + v5) (fun x_9 => (if x_9 < 0 ∨ 180 ≤ x_9.toNatClampNeg then none else op_k (o0.2.1 13 x_9.toNatClampNeg) (fun x_11 => (if (8 : Int32) ≤ x_11 then op_k (x_11 - 8) (fun x_13 => (if x_13 < 0 ∨ 30 ≤ x_13.toNatClampNeg then none else op_k (o0.2.1 16 x_13.toNatClampNeg) (fun x_15 => fNl_productOf_73 rc v1 v2 v4 v5 x_6 x_15 o0 o1))) else op_k (x_11 + 1) (fun x_16 => op_k (2 * x_16) (fun x_17 => fNl_productOf_73 rc v1 v2 v4 v5 x_6 x_17 o0 o1))))))))))))))
noncomputable def fNl_productOf_0 (rc : Nat → Int32 → Int32 → Int32 → Int32 → cf_O → cf_O → Option (Int32 × cf_O)) (v1 : Int32) (v2 : Int32) (o0 : cf_O) (o1 : cf_O) : Option (Int32 × cf_O) :=
  rc 0 v1 v2 1 0 o0 o1
noncomputable def gNl_productOf (n : Nat) : Nat → Int32 → Int32 → Int32 → Int32 → cf_O → cf_O → Option (Int32 × cf_O) := Nat.rec (motive := fun _ => Nat → Int32 → Int32 → Int32 → Int32 → cf_O → cf_O → Option (Int32 × cf_O)) (fun _ _ _ _ _ _ _ => none) (fun _ rc => fun k u1i u2i u4i u5i o0 o1 => Nat.rec (motive := fun _ => Option (Int32 × cf_O)) (fNl_productOf_6 rc u1i u2i u4i u5i o0 o1) (fun k _ => none) k) n
noncomputable def fNl_productOf (v1 : Int32) (v2 : Int32) (o0 : cf_O) (o1 : cf_O) : Option (Int32 × cf_O) := fNl_productOf_0 (gNl_productOf cfFU) v1 v2 o0 o1
noncomputable def fNl_sumOf_62 (rc : Nat → Int32 → Int32 → Int32 → cf_O → cf_O → Option (Int32 × cf_O)) (s0 : Int32) (o0 : cf_O) (o1 : cf_O) : Option (Int32 × cf_O) :=
  some (s0, o1)
noncomputable def fNl_sumOf_5 (rc : Nat → Int32 → Int32 → Int32 → cf_O → cf_O → Option (Int32 × cf_O)) (v1 : Int32) (v3 : Int32) (v4 : Int32) (o0 : cf_O) (o1 : cf_O) : Option (Int32 × cf_O) :=
  (if v1 < 0 ∨ 30 ≤ v1.toNatClampNeg then none else op_k (o0.2.1 10 v1.toNatClampNeg) (fun x_2 => (if x_2 ≤ v4 then (if v1 < 0 ∨ 30 ≤ v1.toNatClampNeg then none else op_k (o0.2.1 11 v1.toNatClampNeg) (fun x_5 => (if x_5 = (0 : Int32) then op_k (v3 ^^^ 1) (fun x_7 => fNl_sumOf_62 rc x_7 o0 o1) else fNl_sumOf_62 rc v3 o0 o1))) else op_k (v1 * 16) (fun x_8 => op_k (x_8 + v4) (fun x_9 => (if x_9 < 0 ∨ 480 ≤ x_9.toNatClampNeg then none else op_k (o0.2.1 12 x_9.toNatClampNeg) (fun x_11 => Option.bind (fNl_productOf v1 x_11 o0 o1) (fun q_12 => Option.bind (fGr_or v3 q_12.1 q_12.2) (fun q_15 => op_k (v4 + 1) (fun x_18 => rc 0 v1 q_15.1 x_18 o0 q_15.2))))))))))
noncomputable def fNl_sumOf_0 (rc : Nat → Int32 → Int32 → Int32 → cf_O → cf_O → Option (Int32 × cf_O)) (v1 : Int32) (o0 : cf_O) (o1 : cf_O) : Option (Int32 × cf_O) :=
  rc 0 v1 0 0 o0 o1
noncomputable def gNl_sumOf (n : Nat) : Nat → Int32 → Int32 → Int32 → cf_O → cf_O → Option (Int32 × cf_O) := Nat.rec (motive := fun _ => Nat → Int32 → Int32 → Int32 → cf_O → cf_O → Option (Int32 × cf_O)) (fun _ _ _ _ _ _ => none) (fun _ rc => fun k u1i u3i u4i o0 o1 => Nat.rec (motive := fun _ => Option (Int32 × cf_O)) (fNl_sumOf_5 rc u1i u3i u4i o0 o1) (fun k _ => none) k) n
noncomputable def fNl_sumOf (v1 : Int32) (o0 : cf_O) (o1 : cf_O) : Option (Int32 × cf_O) := fNl_sumOf_0 (gNl_sumOf cfFU) v1 o0 o1
noncomputable def fNl_literalOf_92 (self : Int32 → Int32 → cf_O → cf_O → Option (Int32 × cf_O × cf_O)) (rc : Nat → Int32 → Int32 → Int32 → cf_O → cf_O → Option (Int32 × cf_O × cf_O)) (v4 : Int32) (o0 : cf_O) (o1 : cf_O) : Option (Int32 × cf_O × cf_O) :=
  (if v4 < 0 ∨ 30 ≤ v4.toNatClampNeg then none else op_k (o0.2.1 16 v4.toNatClampNeg) (fun x_2 => op_k (op_mx x_2 (0 : Int32)) (fun x_3 => some (x_3, o0, o1))))
noncomputable def fNl_literalOf_38 (self : Int32 → Int32 → cf_O → cf_O → Option (Int32 × cf_O × cf_O)) (rc : Nat → Int32 → Int32 → Int32 → cf_O → cf_O → Option (Int32 × cf_O × cf_O)) (v3 : Int32) (v4 : Int32) (v5 : Int32) (o0 : cf_O) (o1 : cf_O) : Option (Int32 × cf_O × cf_O) :=
  (if v4 < 0 ∨ 30 ≤ v4.toNatClampNeg then none else op_k (o0.2.1 8 v4.toNatClampNeg) (fun x_2 => (if x_2 ≤ v5 then Option.bind (fNl_sumOf v4 o0 o1) (fun q_4 => (if v4 < 0 ∨ 30 ≤ v4.toNatClampNeg then none else op_k (xp o0 16 v4.toNatClampNeg q_4.1) (fun o_8 => fNl_literalOf_92 self rc v4 o_8 q_4.2))) else op_k (v4 * 6) (fun x_9 => op_k (x_9 + v5) (fun x_10 => (if x_10 < 0 ∨ 180 ≤ x_10.toNatClampNeg then none else op_k (o0.2.1 13 x_10.toNatClampNeg) (fun x_12 => op_k (v3 + 1) (fun x_13 => Option.bind (self x_12 x_13 o0 o1) (fun q_14 => op_k (v5 + 1) (fun x_17 => rc 0 v3 v4 x_17 q_14.2.1 q_14.2.2))))))))))
noncomputable def fNl_literalOf_0 (self : Int32 → Int32 → cf_O → cf_O → Option (Int32 × cf_O × cf_O)) (rc : Nat → Int32 → Int32 → Int32 → cf_O → cf_O → Option (Int32 × cf_O × cf_O)) (v1 : Int32) (v3 : Int32) (o0 : cf_O) (o1 : cf_O) : Option (Int32 × cf_O × cf_O) :=
  (if (8 : Int32) ≤ v1 then op_k (v1 - 8) (fun x_2 => (if x_2 < 0 ∨ 30 ≤ x_2.toNatClampNeg then none else op_k (o0.2.1 16 x_2.toNatClampNeg) (fun x_4 => (if x_4 = ((-1) : Int32) then (if (30 : Int32) ≤ v3 then fNl_literalOf_92 self rc x_2 o0 o1 else rc 0 v3 x_2 0 o0 o1) else fNl_literalOf_92 self rc x_2 o0 o1)))) else op_k (v1 + 1) (fun x_7 => op_k (2 * x_7) (fun x_8 => some (x_8, o0, o1))))
noncomputable def gNl_literalOf (self : Int32 → Int32 → cf_O → cf_O → Option (Int32 × cf_O × cf_O)) (n : Nat) : Nat → Int32 → Int32 → Int32 → cf_O → cf_O → Option (Int32 × cf_O × cf_O) := Nat.rec (motive := fun _ => Nat → Int32 → Int32 → Int32 → cf_O → cf_O → Option (Int32 × cf_O × cf_O)) (fun _ _ _ _ _ _ => none) (fun _ rc => fun k u3i u4i u5i o0 o1 => Nat.rec (motive := fun _ => Option (Int32 × cf_O × cf_O)) (fNl_literalOf_38 self rc u3i u4i u5i o0 o1) (fun k _ => none) k) n
noncomputable def fNl_literalOfB (self : Int32 → Int32 → cf_O → cf_O → Option (Int32 × cf_O × cf_O)) (v1 : Int32) (v3 : Int32) (o0 : cf_O) (o1 : cf_O) : Option (Int32 × cf_O × cf_O) := fNl_literalOf_0 self (gNl_literalOf self cfFU) v1 v3 o0 o1
noncomputable def fNl_literalOfD (d : Nat) : Int32 → Int32 → cf_O → cf_O → Option (Int32 × cf_O × cf_O) := Nat.rec (motive := fun _ => Int32 → Int32 → cf_O → cf_O → Option (Int32 × cf_O × cf_O)) (fun _ _ _ _ => none) (fun _ self => fNl_literalOfB self) d
noncomputable def fNl_literalOf (v1 : Int32) (v3 : Int32) (o0 : cf_O) (o1 : cf_O) : Option (Int32 × cf_O × cf_O) := fNl_literalOfD 31 v1 v3 o0 o1
noncomputable def fNl_buildInto_22 (rc : Nat → Int32 → cf_O → cf_O → Option (cf_O × cf_O)) (v2 : Int32) (o0 : cf_O) (o1 : cf_O) : Option (cf_O × cf_O) :=
  (if (o0.1 1) ≤ v2 then some (o0, o1) else (if v2 < 0 ∨ 6 ≤ v2.toNatClampNeg then none else op_k (o0.2.1 14 v2.toNatClampNeg) (fun x_3 => Option.bind (fNl_literalOf x_3 0 o0 o1) (fun q_4 => (if v2 < 0 ∨ 6 ≤ v2.toNatClampNeg then none else op_k (xp q_4.2.2 7 v2.toNatClampNeg q_4.1) (fun o_8 => op_k (v2 + 1) (fun x_9 => rc 0 x_9 q_4.2.1 o_8)))))))
noncomputable def fNl_buildInto_0 (rc : Nat → Int32 → cf_O → cf_O → Option (cf_O × cf_O)) (o0 : cf_O) (o1 : cf_O) : Option (cf_O × cf_O) :=
  Option.bind (fGr_restart (o0.1 0) (o0.1 1) o1) (fun q_1 => Option.bind (fJArrays_fill_AII_Nl16 (-1) o0) (fun q_3 => rc 0 0 q_3 q_1))
noncomputable def gNl_buildInto (n : Nat) : Nat → Int32 → cf_O → cf_O → Option (cf_O × cf_O) := Nat.rec (motive := fun _ => Nat → Int32 → cf_O → cf_O → Option (cf_O × cf_O)) (fun _ _ _ _ => none) (fun _ rc => fun k u2i o0 o1 => Nat.rec (motive := fun _ => Option (cf_O × cf_O)) (fNl_buildInto_22 rc u2i o0 o1) (fun k _ => none) k) n
noncomputable def fNl_buildInto (o0 : cf_O) (o1 : cf_O) : Option (cf_O × cf_O) := fNl_buildInto_0 (gNl_buildInto cfFU) o0 o1
noncomputable def fRe_use_0 (v1 : Int32) (o0 : cf_O) : Option (cf_O) :=
  op_k (v1 >>> ((1 : Int32) &&& 31)) (fun x_1 => (if x_1 < 0 ∨ 209 ≤ x_1.toNatClampNeg then none else op_k (xp o0 0 x_1.toNatClampNeg (vp_nar .boolean 1)) (fun o_3 => op_k (v1 >>> ((1 : Int32) &&& 31)) (fun x_4 => (if x_4 < 0 ∨ 209 ≤ x_4.toNatClampNeg then none else op_k (o_3.2.1 1 x_4.toNatClampNeg) (fun x_6 => op_k (x_6 + 1) (fun x_7 => (if x_4 < 0 ∨ 209 ≤ x_4.toNatClampNeg then none else op_k (xp o_3 1 x_4.toNatClampNeg x_7) (fun o_9 => some o_9)))))))))
noncomputable def fRe_use (v1 : Int32) (o0 : cf_O) : Option (cf_O) := fRe_use_0 v1 o0
noncomputable def fRe_begin_121 (rc : Nat → Int32 → cf_O → cf_O → cf_O → Option (cf_O × cf_O)) (v3 : Int32) (o0 : cf_O) (o1 : cf_O) (o2 : cf_O) : Option (cf_O × cf_O) :=
  op_k (v3 + (-1)) (fun x_1 => rc 2 x_1 o0 o1 o2)
noncomputable def fRe_begin_84 (rc : Nat → Int32 → cf_O → cf_O → cf_O → Option (cf_O × cf_O)) (v3 : Int32) (o0 : cf_O) (o1 : cf_O) (o2 : cf_O) : Option (cf_O × cf_O) :=
  (if v3 ≤ (o1.1 0) then some (o0, o2) else (if v3 < 0 ∨ 209 ≤ v3.toNatClampNeg then none else op_k (o0.2.1 0 v3.toNatClampNeg) (fun x_3 => (if x_3 = (0 : Int32) then fRe_begin_121 rc v3 o0 o1 o2 else (if v3 < 0 ∨ 209 ≤ v3.toNatClampNeg then none else op_k (o1.2.1 4 v3.toNatClampNeg) (fun x_6 => Option.bind (fRe_use x_6 o0) (fun q_7 => (if v3 < 0 ∨ 209 ≤ v3.toNatClampNeg then none else op_k (o1.2.1 5 v3.toNatClampNeg) (fun x_10 => Option.bind (fRe_use x_10 q_7) (fun q_11 => fRe_begin_121 rc v3 q_11 o1 o2))))))))))
noncomputable def fRe_begin_53 (rc : Nat → Int32 → cf_O → cf_O → cf_O → Option (cf_O × cf_O)) (v3 : Int32) (o0 : cf_O) (o1 : cf_O) (o2 : cf_O) : Option (cf_O × cf_O) :=
  (if (o1.1 1) ≤ v3 then Option.bind (fGr_size o1) (fun q_2 => op_k (q_2 - 1) (fun x_5 => rc 2 x_5 o0 o1 o2)) else (if v3 < 0 ∨ 6 ≤ v3.toNatClampNeg then none else op_k (o1.2.1 7 v3.toNatClampNeg) (fun x_7 => Option.bind (fRe_use x_7 o0) (fun q_8 => op_k (v3 + 1) (fun x_10 => rc 1 x_10 q_8 o1 o2)))))
noncomputable def fRe_begin_14 (rc : Nat → Int32 → cf_O → cf_O → cf_O → Option (cf_O × cf_O)) (v3 : Int32) (o0 : cf_O) (o1 : cf_O) (o2 : cf_O) : Option (cf_O × cf_O) :=
  Option.bind (fGr_size o1) (fun q_1 => (if q_1 ≤ v3 then rc 1 0 o0 o1 o2 else (if v3 < 0 ∨ 209 ≤ v3.toNatClampNeg then none else op_k (xp o0 0 v3.toNatClampNeg (vp_nar .boolean 0)) (fun o_6 => (if v3 < 0 ∨ 209 ≤ v3.toNatClampNeg then none else op_k (xp o_6 1 v3.toNatClampNeg 0) (fun o_8 => op_k (2 * v3) (fun x_9 => (if v3 < 0 ∨ 209 ≤ v3.toNatClampNeg then none else op_k (xp o_8 4 v3.toNatClampNeg x_9) (fun o_11 => op_k (v3 + 1) (fun x_12 => rc 0 x_12 o_11 o1 o2))))))))))
noncomputable def fRe_begin_0 (rc : Nat → Int32 → cf_O → cf_O → cf_O → Option (cf_O × cf_O)) (o0 : cf_O) (o1 : cf_O) (o2 : cf_O) : Option (cf_O × cf_O) :=
  Option.bind (fGr_restart (o1.1 0) (o1.1 1) o2) (fun q_1 => rc 0 0 o0 o1 q_1)
noncomputable def gRe_begin (n : Nat) : Nat → Int32 → cf_O → cf_O → cf_O → Option (cf_O × cf_O) := Nat.rec (motive := fun _ => Nat → Int32 → cf_O → cf_O → cf_O → Option (cf_O × cf_O)) (fun _ _ _ _ _ => none) (fun _ rc => fun k u3i o0 o1 o2 => Nat.rec (motive := fun _ => Option (cf_O × cf_O)) (fRe_begin_14 rc u3i o0 o1 o2) (fun k _ => Nat.rec (motive := fun _ => Option (cf_O × cf_O)) (fRe_begin_53 rc u3i o0 o1 o2) (fun k _ => Nat.rec (motive := fun _ => Option (cf_O × cf_O)) (fRe_begin_84 rc u3i o0 o1 o2) (fun k _ => none) k) k) k) n
noncomputable def fRe_begin (o0 : cf_O) (o1 : cf_O) (o2 : cf_O) : Option (cf_O × cf_O) := fRe_begin_0 (gRe_begin cfFU) o0 o1 o2
noncomputable def fRe_markApart_38 (s1 : Int32) (s2 : Int32) (o0 : cf_O) (o1 : cf_O) : Option (cf_O) :=
  (if s1 < 0 ∨ 209 ≤ s1.toNatClampNeg then none else op_k (xp o0 3 s1.toNatClampNeg (vp_nar .boolean s2)) (fun o_2 => some o_2))
noncomputable def fRe_markApart_37 (s1 : Int32) (o0 : cf_O) (o1 : cf_O) : Option (cf_O) :=
  fRe_markApart_38 s1 0 o0 o1
noncomputable def fRe_markApart_0 (v2 : Int32) (o0 : cf_O) (o1 : cf_O) : Option (cf_O) :=
  op_k (v2 >>> ((1 : Int32) &&& 31)) (fun x_1 => op_k (v2 &&& 1) (fun x_2 => (if x_2 = (0 : Int32) then Option.bind (fGr_isGate x_1 o1) (fun q_4 => (if q_4 = (0 : Int32) then fRe_markApart_37 x_1 o0 o1 else (if x_1 < 0 ∨ 209 ≤ x_1.toNatClampNeg then none else op_k (o0.2.1 1 x_1.toNatClampNeg) (fun x_9 => (if x_9 = (1 : Int32) then fRe_markApart_38 x_1 1 o0 o1 else fRe_markApart_37 x_1 o0 o1))))) else fRe_markApart_37 x_1 o0 o1)))
noncomputable def fRe_markApart (v2 : Int32) (o0 : cf_O) (o1 : cf_O) : Option (cf_O) := fRe_markApart_0 v2 o0 o1
noncomputable def fRe_findApart_53 (rc : Nat → Int32 → cf_O → cf_O → Option (cf_O)) (v2 : Int32) (o0 : cf_O) (o1 : cf_O) : Option (cf_O) :=
  op_k (v2 + 1) (fun x_1 => rc 0 x_1 o0 o1)
noncomputable def fRe_findApart_7 (rc : Nat → Int32 → cf_O → cf_O → Option (cf_O)) (v2 : Int32) (o0 : cf_O) (o1 : cf_O) : Option (cf_O) :=
  Option.bind (fGr_size o1) (fun q_1 => (if q_1 ≤ v2 then some o0 else (if v2 < 0 ∨ 209 ≤ v2.toNatClampNeg then none else op_k (xp o0 3 v2.toNatClampNeg (vp_nar .boolean 0)) (fun o_6 => (if v2 < 0 ∨ 209 ≤ v2.toNatClampNeg then none else op_k (o_6.2.1 0 v2.toNatClampNeg) (fun x_8 => (if x_8 = (0 : Int32) then fRe_findApart_53 rc v2 o_6 o1 else (if v2 < 0 ∨ 209 ≤ v2.toNatClampNeg then none else op_k (o1.2.1 4 v2.toNatClampNeg) (fun x_11 => Option.bind (fRe_markApart x_11 o_6 o1) (fun q_12 => (if v2 < 0 ∨ 209 ≤ v2.toNatClampNeg then none else op_k (o1.2.1 5 v2.toNatClampNeg) (fun x_15 => Option.bind (fRe_markApart x_15 q_12 o1) (fun q_16 => fRe_findApart_53 rc v2 q_16 o1)))))))))))))
noncomputable def fRe_findApart_0 (rc : Nat → Int32 → cf_O → cf_O → Option (cf_O)) (o0 : cf_O) (o1 : cf_O) : Option (cf_O) :=
  op_k ((o1.1 0) + 1) (fun x_1 => rc 0 x_1 o0 o1)
noncomputable def gRe_findApart (n : Nat) : Nat → Int32 → cf_O → cf_O → Option (cf_O) := Nat.rec (motive := fun _ => Nat → Int32 → cf_O → cf_O → Option (cf_O)) (fun _ _ _ _ => none) (fun _ rc => fun k u2i o0 o1 => Nat.rec (motive := fun _ => Option (cf_O)) (fRe_findApart_7 rc u2i o0 o1) (fun k _ => none) k) n
noncomputable def fRe_findApart (o0 : cf_O) (o1 : cf_O) : Option (cf_O) := fRe_findApart_0 (gRe_findApart cfFU) o0 o1
noncomputable def fRe_freshOf_0 (v1 : Int32) (o0 : cf_O) : Option (Int32) :=
  op_k (v1 >>> ((1 : Int32) &&& 31)) (fun x_1 => (if x_1 < 0 ∨ 209 ≤ x_1.toNatClampNeg then none else op_k (o0.2.1 4 x_1.toNatClampNeg) (fun x_3 => op_k (v1 &&& 1) (fun x_4 => op_k (x_3 ^^^ x_4) (fun x_5 => some x_5)))))
noncomputable def fRe_freshOf (v1 : Int32) (o0 : cf_O) : Option (Int32) := fRe_freshOf_0 v1 o0
noncomputable def fRe_findLeaves_129 (rc : Nat → Int32 → Int32 → Int32 → cf_O → cf_O → Option (cf_O)) (o0 : cf_O) (o1 : cf_O) : Option (cf_O) :=
  some o0
noncomputable def fRe_findLeaves_123 (rc : Nat → Int32 → Int32 → Int32 → cf_O → cf_O → Option (cf_O)) (v2 : Int32) (v3 : Int32) (v4 : Int32) (o0 : cf_O) (o1 : cf_O) : Option (cf_O) :=
  op_k (v4 + 1) (fun x_1 => rc 0 v2 v3 x_1 o0 o1)
noncomputable def fRe_findLeaves_64 (rc : Nat → Int32 → Int32 → Int32 → cf_O → cf_O → Option (cf_O)) (v2 : Int32) (v3 : Int32) (v4 : Int32) (v6 : Int32) (o0 : cf_O) (o1 : cf_O) : Option (cf_O) :=
  (if v6 < 0 ∨ 209 ≤ v6.toNatClampNeg then none else op_k (o1.2.1 5 v6.toNatClampNeg) (fun x_2 => (if v3 < 0 ∨ 210 ≤ v3.toNatClampNeg then none else op_k (xp o0 5 v3.toNatClampNeg x_2) (fun o_4 => op_k (v3 + 1) (fun x_5 => (if v6 < 0 ∨ 209 ≤ v6.toNatClampNeg then none else op_k (o1.2.1 4 v6.toNatClampNeg) (fun x_7 => (if x_5 < 0 ∨ 210 ≤ x_5.toNatClampNeg then none else op_k (xp o_4 5 x_5.toNatClampNeg x_7) (fun o_9 => op_k (v3 + 2) (fun x_10 => fRe_findLeaves_123 rc v2 x_10 v4 o_9 o1))))))))))
noncomputable def fRe_findLeaves_19 (rc : Nat → Int32 → Int32 → Int32 → cf_O → cf_O → Option (cf_O)) (v2 : Int32) (v3 : Int32) (v4 : Int32) (o0 : cf_O) (o1 : cf_O) : Option (cf_O) :=
  (if (418 : Int32) ≤ v4 then fRe_findLeaves_129 rc o0 o1 else (if v3 ≤ (0 : Int32) then fRe_findLeaves_129 rc o0 o1 else op_k (v3 + (-1)) (fun x_3 => (if x_3 < 0 ∨ 210 ≤ x_3.toNatClampNeg then none else op_k (o0.2.1 5 x_3.toNatClampNeg) (fun x_5 => op_k (x_5 >>> ((1 : Int32) &&& 31)) (fun x_6 => (if x_6 = v2 then fRe_findLeaves_64 rc v2 x_3 v4 x_6 o0 o1 else (if x_6 < 0 ∨ 209 ≤ x_6.toNatClampNeg then none else op_k (o0.2.1 3 x_6.toNatClampNeg) (fun x_9 => (if x_9 = (0 : Int32) then Option.bind (fRe_freshOf x_5 o0) (fun q_11 => (if (o0.1 7) < 0 ∨ 210 ≤ (o0.1 7).toNatClampNeg then none else op_k (xp o0 6 (o0.1 7).toNatClampNeg q_11) (fun o_15 => op_k ((o_15.1 7) + 1) (fun x_16 => op_k (fp o_15 7 x_16) (fun o_17 => fRe_findLeaves_123 rc v2 x_3 v4 o_17 o1))))) else fRe_findLeaves_64 rc v2 x_3 v4 x_6 o0 o1))))))))))
noncomputable def fRe_findLeaves_0 (rc : Nat → Int32 → Int32 → Int32 → cf_O → cf_O → Option (cf_O)) (v2 : Int32) (o0 : cf_O) (o1 : cf_O) : Option (cf_O) :=
  op_k (fp o0 7 0) (fun o_1 => op_k (2 * v2) (fun x_2 => (if (0 : Int32) < 0 ∨ 210 ≤ (0 : Int32).toNatClampNeg then none else op_k (xp o_1 5 (0 : Int32).toNatClampNeg x_2) (fun o_4 => rc 0 v2 1 0 o_4 o1))))
noncomputable def gRe_findLeaves (n : Nat) : Nat → Int32 → Int32 → Int32 → cf_O → cf_O → Option (cf_O) := Nat.rec (motive := fun _ => Nat → Int32 → Int32 → Int32 → cf_O → cf_O → Option (cf_O)) (fun _ _ _ _ _ _ => none) (fun _ rc => fun k u2i u3i u4i o0 o1 => Nat.rec (motive := fun _ => Option (cf_O)) (fRe_findLeaves_19 rc u2i u3i u4i o0 o1) (fun k _ => none) k) n
noncomputable def fRe_findLeaves (v2 : Int32) (o0 : cf_O) (o1 : cf_O) : Option (cf_O) := fRe_findLeaves_0 (gRe_findLeaves cfFU) v2 o0 o1
noncomputable def fRe_takeLeast_69 (rc : Nat → Int32 → Int32 → Int32 → cf_O → cf_O → Option (Int32 × cf_O)) (v3 : Int32) (v4 : Int32) (o0 : cf_O) (o1 : cf_O) : Option (Int32 × cf_O) :=
  (if (o0.1 7) ≤ v4 then some (v3, o0) else op_k (v4 + 1) (fun x_2 => (if x_2 < 0 ∨ 210 ≤ x_2.toNatClampNeg then none else op_k (o0.2.1 6 x_2.toNatClampNeg) (fun x_4 => (if v4 < 0 ∨ 210 ≤ v4.toNatClampNeg then none else op_k (xp o0 6 v4.toNatClampNeg x_4) (fun o_6 => op_k (v4 + 1) (fun x_7 => rc 1 0 v3 x_7 o_6 o1)))))))
noncomputable def fRe_takeLeast_43 (rc : Nat → Int32 → Int32 → Int32 → cf_O → cf_O → Option (Int32 × cf_O)) (v2 : Int32) (v3 : Int32) (o0 : cf_O) (o1 : cf_O) : Option (Int32 × cf_O) :=
  op_k (v3 + 1) (fun x_1 => rc 0 v2 x_1 0 o0 o1)
noncomputable def fRe_takeLeast_4 (rc : Nat → Int32 → Int32 → Int32 → cf_O → cf_O → Option (Int32 × cf_O)) (v2 : Int32) (v3 : Int32) (o0 : cf_O) (o1 : cf_O) : Option (Int32 × cf_O) :=
  (if (o0.1 7) ≤ v3 then (if v2 < 0 ∨ 210 ≤ v2.toNatClampNeg then none else op_k (o0.2.1 6 v2.toNatClampNeg) (fun x_3 => op_k ((o0.1 7) - 1) (fun x_4 => op_k (fp o0 7 x_4) (fun o_5 => rc 1 0 x_3 v2 o_5 o1)))) else (if v3 < 0 ∨ 210 ≤ v3.toNatClampNeg then none else op_k (o0.2.1 6 v3.toNatClampNeg) (fun x_7 => op_k (x_7 >>> ((1 : Int32) &&& 31)) (fun x_8 => (if x_8 < 0 ∨ 209 ≤ x_8.toNatClampNeg then none else op_k (o1.2.1 6 x_8.toNatClampNeg) (fun x_10 => (if v2 < 0 ∨ 210 ≤ v2.toNatClampNeg then none else op_k (o0.2.1 6 v2.toNatClampNeg) (fun x_12 => op_k (x_12 >>> ((1 : Int32) &&& 31)) (fun x_13 => (if x_13 < 0 ∨ 209 ≤ x_13.toNatClampNeg then none else op_k (o1.2.1 6 x_13.toNatClampNeg) (fun x_15 => (if x_15 ≤ x_10 then fRe_takeLeast_43 rc v2 v3 o0 o1 else fRe_takeLeast_43 rc v3 v3 o0 o1))))))))))))
noncomputable def fRe_takeLeast_0 (rc : Nat → Int32 → Int32 → Int32 → cf_O → cf_O → Option (Int32 × cf_O)) (o0 : cf_O) (o1 : cf_O) : Option (Int32 × cf_O) :=
  rc 0 0 1 0 o0 o1
noncomputable def gRe_takeLeast (n : Nat) : Nat → Int32 → Int32 → Int32 → cf_O → cf_O → Option (Int32 × cf_O) := Nat.rec (motive := fun _ => Nat → Int32 → Int32 → Int32 → cf_O → cf_O → Option (Int32 × cf_O)) (fun _ _ _ _ _ _ => none) (fun _ rc => fun k u2i u3i u4i o0 o1 => Nat.rec (motive := fun _ => Option (Int32 × cf_O)) (fRe_takeLeast_4 rc u2i u3i o0 o1) (fun k _ => Nat.rec (motive := fun _ => Option (Int32 × cf_O)) (fRe_takeLeast_69 rc u3i u4i o0 o1) (fun k _ => none) k) k) n
noncomputable def fRe_takeLeast (o0 : cf_O) (o1 : cf_O) : Option (Int32 × cf_O) := fRe_takeLeast_0 (gRe_takeLeast cfFU) o0 o1
noncomputable def fRe_joinRow_62 (rc : Nat → Int32 → cf_O → cf_O → Option (Int32 × cf_O × cf_O)) (o0 : cf_O) (o1 : cf_O) : Option (Int32 × cf_O × cf_O) :=
  (if (0 : Int32) < 0 ∨ 210 ≤ (0 : Int32).toNatClampNeg then none else op_k (o0.2.1 6 (0 : Int32).toNatClampNeg) (fun x_2 => some (x_2, o0, o1)))
noncomputable def fRe_joinRow_2 (rc : Nat → Int32 → cf_O → cf_O → Option (Int32 × cf_O × cf_O)) (v2 : Int32) (o0 : cf_O) (o1 : cf_O) : Option (Int32 × cf_O × cf_O) :=
  (if (209 : Int32) < v2 then fRe_joinRow_62 rc o0 o1 else (if (o0.1 7) ≤ (1 : Int32) then fRe_joinRow_62 rc o0 o1 else Option.bind (fRe_takeLeast o0 o1) (fun q_3 => Option.bind (fRe_takeLeast q_3.2 o1) (fun q_6 => Option.bind (fGr_and q_3.1 q_6.1 o1) (fun q_9 => (if (q_6.2.1 7) < 0 ∨ 210 ≤ (q_6.2.1 7).toNatClampNeg then none else op_k (xp q_6.2 6 (q_6.2.1 7).toNatClampNeg q_9.1) (fun o_13 => op_k ((o_13.1 7) + 1) (fun x_14 => op_k (fp o_13 7 x_14) (fun o_15 => op_k (v2 + 1) (fun x_16 => rc 0 x_16 o_15 q_9.2))))))))))
noncomputable def fRe_joinRow_0 (rc : Nat → Int32 → cf_O → cf_O → Option (Int32 × cf_O × cf_O)) (o0 : cf_O) (o1 : cf_O) : Option (Int32 × cf_O × cf_O) :=
  rc 0 0 o0 o1
noncomputable def gRe_joinRow (n : Nat) : Nat → Int32 → cf_O → cf_O → Option (Int32 × cf_O × cf_O) := Nat.rec (motive := fun _ => Nat → Int32 → cf_O → cf_O → Option (Int32 × cf_O × cf_O)) (fun _ _ _ _ => none) (fun _ rc => fun k u2i o0 o1 => Nat.rec (motive := fun _ => Option (Int32 × cf_O × cf_O)) (fRe_joinRow_2 rc u2i o0 o1) (fun k _ => none) k) n
noncomputable def fRe_joinRow (o0 : cf_O) (o1 : cf_O) : Option (Int32 × cf_O × cf_O) := fRe_joinRow_0 (gRe_joinRow cfFU) o0 o1
noncomputable def fRe_takeResults_2 (rc : Nat → Int32 → cf_O → cf_O → cf_O → Option (cf_O)) (v3 : Int32) (o0 : cf_O) (o1 : cf_O) (o2 : cf_O) : Option (cf_O) :=
  (if (o1.1 1) ≤ v3 then some o2 else (if v3 < 0 ∨ 6 ≤ v3.toNatClampNeg then none else op_k (o1.2.1 7 v3.toNatClampNeg) (fun x_3 => Option.bind (fRe_freshOf x_3 o0) (fun q_4 => (if v3 < 0 ∨ 6 ≤ v3.toNatClampNeg then none else op_k (xp o2 7 v3.toNatClampNeg q_4) (fun o_8 => op_k (v3 + 1) (fun x_9 => rc 0 x_9 o0 o1 o_8)))))))
noncomputable def fRe_takeResults_0 (rc : Nat → Int32 → cf_O → cf_O → cf_O → Option (cf_O)) (o0 : cf_O) (o1 : cf_O) (o2 : cf_O) : Option (cf_O) :=
  rc 0 0 o0 o1 o2
noncomputable def gRe_takeResults (n : Nat) : Nat → Int32 → cf_O → cf_O → cf_O → Option (cf_O) := Nat.rec (motive := fun _ => Nat → Int32 → cf_O → cf_O → cf_O → Option (cf_O)) (fun _ _ _ _ _ => none) (fun _ rc => fun k u3i o0 o1 o2 => Nat.rec (motive := fun _ => Option (cf_O)) (fRe_takeResults_2 rc u3i o0 o1 o2) (fun k _ => none) k) n
noncomputable def fRe_takeResults (o0 : cf_O) (o1 : cf_O) (o2 : cf_O) : Option (cf_O) := fRe_takeResults_0 (gRe_takeResults cfFU) o0 o1 o2
noncomputable def fRe_makeBalanced_61 (rc : Nat → Int32 → cf_O → cf_O → cf_O → Option (cf_O × cf_O)) (v3 : Int32) (o0 : cf_O) (o1 : cf_O) (o2 : cf_O) : Option (cf_O × cf_O) :=
  op_k (v3 + 1) (fun x_1 => rc 0 x_1 o0 o1 o2)
noncomputable def fRe_makeBalanced_18 (rc : Nat → Int32 → cf_O → cf_O → cf_O → Option (cf_O × cf_O)) (v3 : Int32) (o0 : cf_O) (o1 : cf_O) (o2 : cf_O) : Option (cf_O × cf_O) :=
  Option.bind (fGr_size o1) (fun q_1 => (if q_1 ≤ v3 then Option.bind (fRe_takeResults o0 o1 o2) (fun q_5 => some (o0, q_5)) else (if v3 < 0 ∨ 209 ≤ v3.toNatClampNeg then none else op_k (o0.2.1 0 v3.toNatClampNeg) (fun x_8 => (if x_8 = (0 : Int32) then fRe_makeBalanced_61 rc v3 o0 o1 o2 else (if v3 < 0 ∨ 209 ≤ v3.toNatClampNeg then none else op_k (o0.2.1 3 v3.toNatClampNeg) (fun x_11 => (if x_11 = (0 : Int32) then Option.bind (fRe_findLeaves v3 o0 o1) (fun q_13 => Option.bind (fRe_joinRow q_13 o2) (fun q_15 => (if v3 < 0 ∨ 209 ≤ v3.toNatClampNeg then none else op_k (xp q_15.2.1 4 v3.toNatClampNeg q_15.1) (fun o_19 => fRe_makeBalanced_61 rc v3 o_19 o1 q_15.2.2)))) else fRe_makeBalanced_61 rc v3 o0 o1 o2))))))))
noncomputable def fRe_makeBalanced_0 (rc : Nat → Int32 → cf_O → cf_O → cf_O → Option (cf_O × cf_O)) (o0 : cf_O) (o1 : cf_O) (o2 : cf_O) : Option (cf_O × cf_O) :=
  Option.bind (fRe_begin o0 o1 o2) (fun q_1 => Option.bind (fRe_findApart q_1.1 o1) (fun q_3 => op_k ((o1.1 0) + 1) (fun x_5 => rc 0 x_5 q_3 o1 q_1.2)))
noncomputable def gRe_makeBalanced (n : Nat) : Nat → Int32 → cf_O → cf_O → cf_O → Option (cf_O × cf_O) := Nat.rec (motive := fun _ => Nat → Int32 → cf_O → cf_O → cf_O → Option (cf_O × cf_O)) (fun _ _ _ _ _ => none) (fun _ rc => fun k u3i o0 o1 o2 => Nat.rec (motive := fun _ => Option (cf_O × cf_O)) (fRe_makeBalanced_18 rc u3i o0 o1 o2) (fun k _ => none) k) n
noncomputable def fRe_makeBalanced (o0 : cf_O) (o1 : cf_O) (o2 : cf_O) : Option (cf_O × cf_O) := fRe_makeBalanced_0 (gRe_makeBalanced cfFU) o0 o1 o2
noncomputable def fRe_literalAlike_73 (rc : Nat → Int32 → Int32 → cf_O → cf_O → cf_O → Option (Int32)) (v2 : Int32) (v4 : Int32) (o0 : cf_O) (o1 : cf_O) (o2 : cf_O) : Option (Int32) :=
  op_k (v4 + 1) (fun x_1 => rc 0 v2 x_1 o0 o1 o2)
noncomputable def fRe_literalAlike_31 (rc : Nat → Int32 → Int32 → cf_O → cf_O → cf_O → Option (Int32)) (v2 : Int32) (v4 : Int32) (o0 : cf_O) (o1 : cf_O) (o2 : cf_O) : Option (Int32) :=
  op_k (2 * v4) (fun x_1 => op_k (2 * v2) (fun x_2 => Option.bind (fFu_areSame x_1 x_2 o2) (fun q_3 => (if q_3 = (0 : Int32) then op_k (2 * v4) (fun x_7 => op_k (x_7 + 1) (fun x_8 => op_k (2 * v2) (fun x_9 => Option.bind (fFu_areSame x_8 x_9 o2) (fun q_10 => (if q_10 = (0 : Int32) then fRe_literalAlike_73 rc v2 v4 o0 o1 o2 else op_k (2 * v4) (fun x_14 => op_k (x_14 + 1) (fun x_15 => some x_15))))))) else op_k (2 * v4) (fun x_16 => some x_16)))))
noncomputable def fRe_literalAlike_3 (rc : Nat → Int32 → Int32 → cf_O → cf_O → cf_O → Option (Int32)) (v2 : Int32) (v4 : Int32) (o0 : cf_O) (o1 : cf_O) (o2 : cf_O) : Option (Int32) :=
  (if v2 ≤ v4 then some ((-1) : Int32) else Option.bind (fGr_isGate v4 o1) (fun q_2 => (if q_2 = (0 : Int32) then fRe_literalAlike_31 rc v2 v4 o0 o1 o2 else (if v4 < 0 ∨ 209 ≤ v4.toNatClampNeg then none else op_k (o0.2.1 0 v4.toNatClampNeg) (fun x_7 => (if x_7 = (0 : Int32) then fRe_literalAlike_73 rc v2 v4 o0 o1 o2 else fRe_literalAlike_31 rc v2 v4 o0 o1 o2))))))
noncomputable def fRe_literalAlike_0 (rc : Nat → Int32 → Int32 → cf_O → cf_O → cf_O → Option (Int32)) (v2 : Int32) (o0 : cf_O) (o1 : cf_O) (o2 : cf_O) : Option (Int32) :=
  rc 0 v2 0 o0 o1 o2
noncomputable def gRe_literalAlike (n : Nat) : Nat → Int32 → Int32 → cf_O → cf_O → cf_O → Option (Int32) := Nat.rec (motive := fun _ => Nat → Int32 → Int32 → cf_O → cf_O → cf_O → Option (Int32)) (fun _ _ _ _ _ _ => none) (fun _ rc => fun k u2i u4i o0 o1 o2 => Nat.rec (motive := fun _ => Option (Int32)) (fRe_literalAlike_3 rc u2i u4i o0 o1 o2) (fun k _ => none) k) n
noncomputable def fRe_literalAlike (v2 : Int32) (o0 : cf_O) (o1 : cf_O) (o2 : cf_O) : Option (Int32) := fRe_literalAlike_0 (gRe_literalAlike cfFU) v2 o0 o1 o2
noncomputable def fRe_freshAnd_0 (v3 : Int32) (o0 : cf_O) (o1 : cf_O) (o2 : cf_O) : Option (Int32 × cf_O) :=
  (if v3 < 0 ∨ 209 ≤ v3.toNatClampNeg then none else op_k (o1.2.1 4 v3.toNatClampNeg) (fun x_2 => Option.bind (fRe_freshOf x_2 o0) (fun q_3 => (if v3 < 0 ∨ 209 ≤ v3.toNatClampNeg then none else op_k (o1.2.1 5 v3.toNatClampNeg) (fun x_7 => Option.bind (fRe_freshOf x_7 o0) (fun q_8 => Option.bind (fGr_and q_3 q_8 o2) (fun q_11 => some (q_11.1, q_11.2))))))))
noncomputable def fRe_freshAnd (v3 : Int32) (o0 : cf_O) (o1 : cf_O) (o2 : cf_O) : Option (Int32 × cf_O) := fRe_freshAnd_0 v3 o0 o1 o2
noncomputable def fRe_makeReduced_73 (rc : Nat → Int32 → cf_O → cf_O → cf_O → cf_O → Option (cf_O × cf_O)) (v4 : Int32) (o0 : cf_O) (o1 : cf_O) (o2 : cf_O) (o3 : cf_O) : Option (cf_O × cf_O) :=
  op_k (v4 + 1) (fun x_1 => rc 0 x_1 o0 o1 o2 o3)
noncomputable def fRe_makeReduced_72 (rc : Nat → Int32 → cf_O → cf_O → cf_O → cf_O → Option (cf_O × cf_O)) (v4 : Int32) (s1 : Int32) (s2 : Int32) (o0 : cf_O) (o1 : cf_O) (o2 : cf_O) (o3 : cf_O) : Option (cf_O × cf_O) :=
  (if s1 < 0 ∨ 209 ≤ s1.toNatClampNeg then none else op_k (xp o0 4 s1.toNatClampNeg s2) (fun o_2 => fRe_makeReduced_73 rc v4 o_2 o1 o2 o3))
noncomputable def fRe_makeReduced_14 (rc : Nat → Int32 → cf_O → cf_O → cf_O → cf_O → Option (cf_O × cf_O)) (v4 : Int32) (o0 : cf_O) (o1 : cf_O) (o2 : cf_O) (o3 : cf_O) : Option (cf_O × cf_O) :=
  Option.bind (fGr_size o1) (fun q_1 => (if q_1 ≤ v4 then Option.bind (fRe_takeResults o0 o1 o2) (fun q_5 => some (o0, q_5)) else (if v4 < 0 ∨ 209 ≤ v4.toNatClampNeg then none else op_k (o0.2.1 0 v4.toNatClampNeg) (fun x_8 => (if x_8 = (0 : Int32) then fRe_makeReduced_73 rc v4 o0 o1 o2 o3 else Option.bind (fRe_literalAlike v4 o0 o1 o3) (fun q_10 => (if q_10 = ((-1) : Int32) then Option.bind (fRe_freshAnd v4 o0 o1 o2) (fun q_17 => fRe_makeReduced_72 rc v4 v4 q_17.1 o0 o1 q_17.2 o3) else Option.bind (fRe_freshOf q_10 o0) (fun q_14 => fRe_makeReduced_72 rc v4 v4 q_14 o0 o1 o2 o3))))))))
noncomputable def fRe_makeReduced_0 (rc : Nat → Int32 → cf_O → cf_O → cf_O → cf_O → Option (cf_O × cf_O)) (o0 : cf_O) (o1 : cf_O) (o2 : cf_O) (o3 : cf_O) : Option (cf_O × cf_O) :=
  Option.bind (fRe_begin o0 o1 o2) (fun q_1 => op_k ((o1.1 0) + 1) (fun x_3 => rc 0 x_3 q_1.1 o1 q_1.2 o3))
noncomputable def gRe_makeReduced (n : Nat) : Nat → Int32 → cf_O → cf_O → cf_O → cf_O → Option (cf_O × cf_O) := Nat.rec (motive := fun _ => Nat → Int32 → cf_O → cf_O → cf_O → cf_O → Option (cf_O × cf_O)) (fun _ _ _ _ _ _ => none) (fun _ rc => fun k u4i o0 o1 o2 o3 => Nat.rec (motive := fun _ => Option (cf_O × cf_O)) (fRe_makeReduced_14 rc u4i o0 o1 o2 o3) (fun k _ => none) k) n
noncomputable def fRe_makeReduced (o0 : cf_O) (o1 : cf_O) (o2 : cf_O) (o3 : cf_O) : Option (cf_O × cf_O) := fRe_makeReduced_0 (gRe_makeReduced cfFU) o0 o1 o2 o3
noncomputable def fRe_productAt_92 (rc : Nat → Int32 → Int32 → Int32 → Int32 → Int32 → cf_O → Option (Int32)) (v1 : Int32) (v3 : Int32) (v4 : Int32) (v5 : Int32) (v6 : Int32) (o0 : cf_O) : Option (Int32) :=
  op_k (v6 + 1) (fun x_1 => rc 0 v1 v3 v4 v5 x_1 o0)
noncomputable def fRe_productAt_88 (rc : Nat → Int32 → Int32 → Int32 → Int32 → Int32 → cf_O → Option (Int32)) (v1 : Int32) (v3 : Int32) (v4 : Int32) (v6 : Int32) (o0 : cf_O) : Option (Int32) :=
  fRe_productAt_92 rc v1 v3 v4 v6 v6 o0
noncomputable def fRe_productAt_58 (rc : Nat → Int32 → Int32 → Int32 → Int32 → Int32 → cf_O → Option (Int32)) (v1 : Int32) (v3 : Int32) (v4 : Int32) (v5 : Int32) (v6 : Int32) (s0 : Int32) (o0 : cf_O) : Option (Int32) :=
  (if s0 = (0 : Int32) then fRe_productAt_92 rc v1 v3 v4 v5 v6 o0 else (if v5 = ((-1) : Int32) then fRe_productAt_88 rc v1 v3 v4 v6 o0 else (if v6 < 0 ∨ 81 ≤ v6.toNatClampNeg then none else op_k (o0.2.1 9 v6.toNatClampNeg) (fun x_4 => (if v5 < 0 ∨ 81 ≤ v5.toNatClampNeg then none else op_k (o0.2.1 9 v5.toNatClampNeg) (fun x_6 => (if x_6 ≤ x_4 then fRe_productAt_92 rc v1 v3 v4 v5 v6 o0 else fRe_productAt_88 rc v1 v3 v4 v6 o0)))))))
noncomputable def fRe_productAt_57 (rc : Nat → Int32 → Int32 → Int32 → Int32 → Int32 → cf_O → Option (Int32)) (v1 : Int32) (v3 : Int32) (v4 : Int32) (v5 : Int32) (v6 : Int32) (o0 : cf_O) : Option (Int32) :=
  fRe_productAt_58 rc v1 v3 v4 v5 v6 0 o0
noncomputable def fRe_productAt_16 (rc : Nat → Int32 → Int32 → Int32 → Int32 → Int32 → cf_O → Option (Int32)) (v1 : Int32) (v3 : Int32) (v4 : Int32) (v5 : Int32) (v6 : Int32) (o0 : cf_O) : Option (Int32) :=
  (if v3 < 0 ∨ 5 ≤ v3.toNatClampNeg then none else op_k (cf_powers v3.toNatClampNeg) (fun x_2 => (if x_2 ≤ v6 then op_k (op_mx v5 (0 : Int32)) (fun x_4 => some x_4) else (if v6 < 0 ∨ 81 ≤ v6.toNatClampNeg then none else op_k (o0.2.1 8 v6.toNatClampNeg) (fun x_6 => op_k (x_6 >>> (v1 &&& 31)) (fun x_7 => op_k (x_7 &&& 1) (fun x_8 => (if x_8 = (0 : Int32) then fRe_productAt_57 rc v1 v3 v4 v5 v6 o0 else (if v6 < 0 ∨ 81 ≤ v6.toNatClampNeg then none else op_k (o0.2.1 8 v6.toNatClampNeg) (fun x_11 => op_k (x_11 &&& v4) (fun x_12 => (if x_12 = (0 : Int32) then fRe_productAt_58 rc v1 v3 v4 v5 v6 1 o0 else fRe_productAt_57 rc v1 v3 v4 v5 v6 o0))))))))))))
noncomputable def fRe_productAt_0 (rc : Nat → Int32 → Int32 → Int32 → Int32 → Int32 → cf_O → Option (Int32)) (v1 : Int32) (v2 : Int32) (v3 : Int32) (o0 : cf_O) : Option (Int32) :=
  Option.bind (fCo_full v3) (fun q_1 => op_k (v2 ^^^ (-1)) (fun x_4 => op_k (q_1 &&& x_4) (fun x_5 => rc 0 v1 v3 x_5 (-1) 0 o0)))
noncomputable def gRe_productAt (n : Nat) : Nat → Int32 → Int32 → Int32 → Int32 → Int32 → cf_O → Option (Int32) := Nat.rec (motive := fun _ => Nat → Int32 → Int32 → Int32 → Int32 → Int32 → cf_O → Option (Int32)) (fun _ _ _ _ _ _ _ => none) (fun _ rc => fun k u1i u3i u4i u5i u6i o0 => Nat.rec (motive := fun _ => Option (Int32)) (fRe_productAt_16 rc u1i u3i u4i u5i u6i o0) (fun k _ => none) k) n
noncomputable def fRe_productAt (v1 : Int32) (v2 : Int32) (v3 : Int32) (o0 : cf_O) : Option (Int32) := fRe_productAt_0 (gRe_productAt cfFU) v1 v2 v3 o0
noncomputable def fRe_findSum_75 (rc : Nat → Int32 → Int32 → Int32 → Int32 → cf_O → Option (cf_O)) (o0 : cf_O) : Option (cf_O) :=
  some o0
noncomputable def fRe_findSum_10 (rc : Nat → Int32 → Int32 → Int32 → Int32 → cf_O → Option (cf_O)) (v1 : Int32) (v2 : Int32) (v3 : Int32) (v4 : Int32) (o0 : cf_O) : Option (cf_O) :=
  (if (16 : Int32) ≤ v4 then fRe_findSum_75 rc o0 else (if v3 = (0 : Int32) then fRe_findSum_75 rc o0 else Option.bind (fJInteger_numberOfTrailingZeros_I v3) (fun q_3 => Option.bind (fRe_productAt q_3 v1 v2 o0) (fun q_6 => (if (o0.1 11) < 0 ∨ 16 ≤ (o0.1 11).toNatClampNeg then none else op_k (xp o0 10 (o0.1 11).toNatClampNeg q_6) (fun o_10 => (if (o_10.1 11) < 0 ∨ 16 ≤ (o_10.1 11).toNatClampNeg then none else op_k (o_10.2.1 10 (o_10.1 11).toNatClampNeg) (fun x_12 => (if x_12 < 0 ∨ 81 ≤ x_12.toNatClampNeg then none else op_k (o_10.2.1 8 x_12.toNatClampNeg) (fun x_14 => op_k (x_14 ^^^ (-1)) (fun x_15 => op_k (v3 &&& x_15) (fun x_16 => op_k ((o_10.1 11) + 1) (fun x_17 => op_k (fp o_10 11 x_17) (fun o_18 => op_k (v4 + 1) (fun x_19 => rc 0 v1 v2 x_16 x_19 o_18)))))))))))))))
noncomputable def fRe_findSum_0 (rc : Nat → Int32 → Int32 → Int32 → Int32 → cf_O → Option (cf_O)) (v1 : Int32) (v2 : Int32) (o0 : cf_O) : Option (cf_O) :=
  op_k (fp o0 11 0) (fun o_1 => rc 0 v1 v2 v1 0 o_1)
noncomputable def gRe_findSum (n : Nat) : Nat → Int32 → Int32 → Int32 → Int32 → cf_O → Option (cf_O) := Nat.rec (motive := fun _ => Nat → Int32 → Int32 → Int32 → Int32 → cf_O → Option (cf_O)) (fun _ _ _ _ _ _ => none) (fun _ rc => fun k u1i u2i u3i u4i o0 => Nat.rec (motive := fun _ => Option (cf_O)) (fRe_findSum_10 rc u1i u2i u3i u4i o0) (fun k _ => none) k) n
noncomputable def fRe_findSum (v1 : Int32) (v2 : Int32) (o0 : cf_O) : Option (cf_O) := fRe_findSum_0 (gRe_findSum cfFU) v1 v2 o0
noncomputable def fRe_sumCost_13 (rc : Nat → Int32 → Int32 → cf_O → Option (Int32)) (v1 : Int32) (v2 : Int32) (o0 : cf_O) : Option (Int32) :=
  (if (o0.1 11) ≤ v2 then some v1 else (if v2 < 0 ∨ 16 ≤ v2.toNatClampNeg then none else op_k (o0.2.1 10 v2.toNatClampNeg) (fun x_3 => (if x_3 < 0 ∨ 81 ≤ x_3.toNatClampNeg then none else op_k (o0.2.1 9 x_3.toNatClampNeg) (fun x_5 => op_k (x_5 - 1) (fun x_6 => op_k (op_mx x_6 (0 : Int32)) (fun x_7 => op_k (v1 + x_7) (fun x_8 => op_k (v2 + 1) (fun x_9 => rc 0 x_8 x_9 o0)))))))))
noncomputable def fRe_sumCost_0 (rc : Nat → Int32 → Int32 → cf_O → Option (Int32)) (o0 : cf_O) : Option (Int32) :=
  op_k ((o0.1 11) - 1) (fun x_1 => op_k (op_mx x_1 (0 : Int32)) (fun x_2 => rc 0 x_2 0 o0))
noncomputable def gRe_sumCost (n : Nat) : Nat → Int32 → Int32 → cf_O → Option (Int32) := Nat.rec (motive := fun _ => Nat → Int32 → Int32 → cf_O → Option (Int32)) (fun _ _ _ _ => none) (fun _ rc => fun k u1i u2i o0 => Nat.rec (motive := fun _ => Option (Int32)) (fRe_sumCost_13 rc u1i u2i o0) (fun k _ => none) k) n
noncomputable def fRe_sumCost (o0 : cf_O) : Option (Int32) := fRe_sumCost_0 (gRe_sumCost cfFU) o0
noncomputable def fRe_freedBy_123 (rc : Nat → Int32 → Int32 → Int32 → cf_O → cf_O → cf_O → Option (Int32 × cf_O)) (v2 : Int32) (v4 : Int32) (v5 : Int32) (o0 : cf_O) (o1 : cf_O) (o2 : cf_O) : Option (Int32 × cf_O) :=
  op_k (v5 + (-1)) (fun x_1 => rc 1 v2 v4 x_1 o0 o1 o2)
noncomputable def fRe_freedBy_120 (rc : Nat → Int32 → Int32 → Int32 → cf_O → cf_O → cf_O → Option (Int32 × cf_O)) (v2 : Int32) (v5 : Int32) (s0 : Int32) (s1 : Int32) (o0 : cf_O) (o1 : cf_O) (o2 : cf_O) : Option (Int32 × cf_O) :=
  op_k (s0 + s1) (fun x_1 => fRe_freedBy_123 rc v2 x_1 v5 o0 o1 o2)
noncomputable def fRe_freedBy_119 (rc : Nat → Int32 → Int32 → Int32 → cf_O → cf_O → cf_O → Option (Int32 × cf_O)) (v2 : Int32) (v5 : Int32) (s0 : Int32) (o0 : cf_O) (o1 : cf_O) (o2 : cf_O) : Option (Int32 × cf_O) :=
  fRe_freedBy_120 rc v2 v5 s0 0 o0 o1 o2
noncomputable def fRe_freedBy_34 (rc : Nat → Int32 → Int32 → Int32 → cf_O → cf_O → cf_O → Option (Int32 × cf_O)) (v2 : Int32) (v4 : Int32) (v5 : Int32) (o0 : cf_O) (o1 : cf_O) (o2 : cf_O) : Option (Int32 × cf_O) :=
  (if (0 : Int32) < 0 ∨ 5 ≤ (0 : Int32).toNatClampNeg then none else op_k (o2.2.1 2 (0 : Int32).toNatClampNeg) (fun x_2 => (if v5 ≤ x_2 then some (v4, o0) else Option.bind (fCo_isBetween v5 o2) (fun q_4 => (if q_4 = (0 : Int32) then fRe_freedBy_123 rc v2 v4 v5 o0 o1 o2 else (if v5 < 0 ∨ 209 ≤ v5.toNatClampNeg then none else op_k (o1.2.1 4 v5.toNatClampNeg) (fun x_9 => op_k (x_9 >>> ((1 : Int32) &&& 31)) (fun x_10 => (if x_10 < 0 ∨ 209 ≤ x_10.toNatClampNeg then none else op_k (o0.2.1 2 x_10.toNatClampNeg) (fun x_12 => op_k (x_12 + 1) (fun x_13 => (if x_10 < 0 ∨ 209 ≤ x_10.toNatClampNeg then none else op_k (xp o0 2 x_10.toNatClampNeg x_13) (fun o_15 => (if v5 < 0 ∨ 209 ≤ v5.toNatClampNeg then none else op_k (o1.2.1 5 v5.toNatClampNeg) (fun x_17 => op_k (x_17 >>> ((1 : Int32) &&& 31)) (fun x_18 => (if x_18 < 0 ∨ 209 ≤ x_18.toNatClampNeg then none else op_k (o_15.2.1 2 x_18.toNatClampNeg) (fun x_20 => op_k (x_20 + 1) (fun x_21 => (if x_18 < 0 ∨ 209 ≤ x_18.toNatClampNeg then none else op_k (xp o_15 2 x_18.toNatClampNeg x_21) (fun o_23 => (if v5 = v2 then fRe_freedBy_119 rc v2 v5 v4 o_23 o1 o2 else (if v5 < 0 ∨ 209 ≤ v5.toNatClampNeg then none else op_k (o_23.2.1 2 v5.toNatClampNeg) (fun x_26 => (if v5 < 0 ∨ 209 ≤ v5.toNatClampNeg then none else op_k (o_23.2.1 1 v5.toNatClampNeg) (fun x_28 => (if x_26 = x_28 then fRe_freedBy_120 rc v2 v5 v4 1 o_23 o1 o2 else fRe_freedBy_119 rc v2 v5 v4 o_23 o1 o2)))))))))))))))))))))))))))
noncomputable def fRe_freedBy_8 (rc : Nat → Int32 → Int32 → Int32 → cf_O → cf_O → cf_O → Option (Int32 × cf_O)) (v2 : Int32) (v4 : Int32) (o0 : cf_O) (o1 : cf_O) (o2 : cf_O) : Option (Int32 × cf_O) :=
  (if v2 < v4 then rc 1 v2 1 v2 o0 o1 o2 else (if v4 < 0 ∨ 209 ≤ v4.toNatClampNeg then none else op_k (xp o0 2 v4.toNatClampNeg 0) (fun o_3 => op_k (v4 + 1) (fun x_4 => rc 0 v2 x_4 0 o_3 o1 o2))))
noncomputable def fRe_freedBy_0 (rc : Nat → Int32 → Int32 → Int32 → cf_O → cf_O → cf_O → Option (Int32 × cf_O)) (v2 : Int32) (o0 : cf_O) (o1 : cf_O) (o2 : cf_O) : Option (Int32 × cf_O) :=
  (if (0 : Int32) < 0 ∨ 5 ≤ (0 : Int32).toNatClampNeg then none else op_k (o2.2.1 2 (0 : Int32).toNatClampNeg) (fun x_2 => rc 0 v2 x_2 0 o0 o1 o2))
noncomputable def gRe_freedBy (n : Nat) : Nat → Int32 → Int32 → Int32 → cf_O → cf_O → cf_O → Option (Int32 × cf_O) := Nat.rec (motive := fun _ => Nat → Int32 → Int32 → Int32 → cf_O → cf_O → cf_O → Option (Int32 × cf_O)) (fun _ _ _ _ _ _ _ => none) (fun _ rc => fun k u2i u4i u5i o0 o1 o2 => Nat.rec (motive := fun _ => Option (Int32 × cf_O)) (fRe_freedBy_8 rc u2i u4i o0 o1 o2) (fun k _ => Nat.rec (motive := fun _ => Option (Int32 × cf_O)) (fRe_freedBy_34 rc u2i u4i u5i o0 o1 o2) (fun k _ => none) k) k) n
noncomputable def fRe_freedBy (v2 : Int32) (o0 : cf_O) (o1 : cf_O) (o2 : cf_O) : Option (Int32 × cf_O) := fRe_freedBy_0 (gRe_freedBy cfFU) v2 o0 o1 o2
noncomputable def fRe_freshSum_77 (rc : Nat → Int32 → Int32 → Int32 → Int32 → cf_O → cf_O → cf_O → Option (Int32 × cf_O)) (v3 : Int32) (v4 : Int32) (v5 : Int32) (v6 : Int32) (o0 : cf_O) (o1 : cf_O) (o2 : cf_O) : Option (Int32 × cf_O) :=
  op_k (v6 + 1) (fun x_1 => rc 1 v3 v4 v5 x_1 o0 o1 o2)
noncomputable def fRe_freshSum_20 (rc : Nat → Int32 → Int32 → Int32 → Int32 → cf_O → cf_O → cf_O → Option (Int32 × cf_O)) (v3 : Int32) (v4 : Int32) (v5 : Int32) (v6 : Int32) (o0 : cf_O) (o1 : cf_O) (o2 : cf_O) : Option (Int32 × cf_O) :=
  (if (o2.1 0) ≤ v6 then Option.bind (fGr_or v3 v5 o1) (fun q_2 => op_k (v4 + 1) (fun x_5 => rc 0 q_2.1 x_5 0 0 o0 q_2.2 o2)) else (if v4 < 0 ∨ 16 ≤ v4.toNatClampNeg then none else op_k (o0.2.1 10 v4.toNatClampNeg) (fun x_7 => (if v6 < 0 ∨ 5 ≤ v6.toNatClampNeg then none else op_k (cf_powers v6.toNatClampNeg) (fun x_9 => (if x_9 = 0 then none else op_k (x_7 / x_9) (fun x_11 => op_k (x_11 - x_11 / 3 * 3) (fun x_12 => (if x_12 = (0 : Int32) then fRe_freshSum_77 rc v3 v4 v5 v6 o0 o1 o2 else (if v6 < 0 ∨ 5 ≤ v6.toNatClampNeg then none else op_k (o2.2.1 2 v6.toNatClampNeg) (fun x_15 => (if x_15 < 0 ∨ 209 ≤ x_15.toNatClampNeg then none else op_k (o0.2.1 4 x_15.toNatClampNeg) (fun x_17 => op_k (x_12 - 1) (fun x_18 => op_k (x_17 ^^^ x_18) (fun x_19 => Option.bind (fGr_and v5 x_19 o1) (fun q_20 => fRe_freshSum_77 rc v3 v4 q_20.1 v6 o0 q_20.2 o2))))))))))))))))
noncomputable def fRe_freshSum_5 (rc : Nat → Int32 → Int32 → Int32 → Int32 → cf_O → cf_O → cf_O → Option (Int32 × cf_O)) (v3 : Int32) (v4 : Int32) (o0 : cf_O) (o1 : cf_O) (o2 : cf_O) : Option (Int32 × cf_O) :=
  (if (o0.1 11) ≤ v4 then some (v3, o1) else rc 1 v3 v4 1 0 o0 o1 o2)
noncomputable def fRe_freshSum_0 (rc : Nat → Int32 → Int32 → Int32 → Int32 → cf_O → cf_O → cf_O → Option (Int32 × cf_O)) (o0 : cf_O) (o1 : cf_O) (o2 : cf_O) : Option (Int32 × cf_O) :=
  rc 0 0 0 0 0 o0 o1 o2
noncomputable def gRe_freshSum (n : Nat) : Nat → Int32 → Int32 → Int32 → Int32 → cf_O → cf_O → cf_O → Option (Int32 × cf_O) := Nat.rec (motive := fun _ => Nat → Int32 → Int32 → Int32 → Int32 → cf_O → cf_O → cf_O → Option (Int32 × cf_O)) (fun _ _ _ _ _ _ _ _ => none) (fun _ rc => fun k u3i u4i u5i u6i o0 o1 o2 => Nat.rec (motive := fun _ => Option (Int32 × cf_O)) (fRe_freshSum_5 rc u3i u4i o0 o1 o2) (fun k _ => Nat.rec (motive := fun _ => Option (Int32 × cf_O)) (fRe_freshSum_20 rc u3i u4i u5i u6i o0 o1 o2) (fun k _ => none) k) k) n
noncomputable def fRe_freshSum (o0 : cf_O) (o1 : cf_O) (o2 : cf_O) : Option (Int32 × cf_O) := fRe_freshSum_0 (gRe_freshSum cfFU) o0 o1 o2
noncomputable def fRe_makeRewritten_114 (rc : Nat → Int32 → cf_O → cf_O → cf_O → cf_O → cf_O → Option (cf_O × cf_O × cf_O)) (v5 : Int32) (o0 : cf_O) (o1 : cf_O) (o2 : cf_O) (o3 : cf_O) (o4 : cf_O) : Option (cf_O × cf_O × cf_O) :=
  op_k (v5 + 1) (fun x_1 => rc 0 x_1 o0 o1 o2 o3 o4)
noncomputable def fRe_makeRewritten_113 (rc : Nat → Int32 → cf_O → cf_O → cf_O → cf_O → cf_O → Option (cf_O × cf_O × cf_O)) (v5 : Int32) (s1 : Int32) (s2 : Int32) (o0 : cf_O) (o1 : cf_O) (o2 : cf_O) (o3 : cf_O) (o4 : cf_O) : Option (cf_O × cf_O × cf_O) :=
  (if s1 < 0 ∨ 209 ≤ s1.toNatClampNeg then none else op_k (xp o0 4 s1.toNatClampNeg s2) (fun o_2 => fRe_makeRewritten_114 rc v5 o_2 o1 o2 o3 o4))
noncomputable def fRe_makeRewritten_82 (rc : Nat → Int32 → cf_O → cf_O → cf_O → cf_O → cf_O → Option (cf_O × cf_O × cf_O)) (v5 : Int32) (s0 : Int32) (o0 : cf_O) (o1 : cf_O) (o2 : cf_O) (o3 : cf_O) (o4 : cf_O) : Option (cf_O × cf_O × cf_O) :=
  (if s0 = (0 : Int32) then Option.bind (fRe_freshAnd v5 o0 o1 o2) (fun q_2 => fRe_makeRewritten_113 rc v5 v5 q_2.1 o0 o1 q_2.2 o3 o4) else Option.bind (fRe_freshSum o0 o2 o4) (fun q_5 => fRe_makeRewritten_113 rc v5 v5 q_5.1 o0 o1 q_5.2 o3 o4))
noncomputable def fRe_makeRewritten_14 (rc : Nat → Int32 → cf_O → cf_O → cf_O → cf_O → cf_O → Option (cf_O × cf_O × cf_O)) (v5 : Int32) (o0 : cf_O) (o1 : cf_O) (o2 : cf_O) (o3 : cf_O) (o4 : cf_O) : Option (cf_O × cf_O × cf_O) :=
  Option.bind (fGr_size o1) (fun q_1 => (if q_1 ≤ v5 then Option.bind (fRe_takeResults o0 o1 o2) (fun q_5 => some (o0, q_5, o4)) else (if v5 < 0 ∨ 209 ≤ v5.toNatClampNeg then none else op_k (o0.2.1 0 v5.toNatClampNeg) (fun x_8 => (if x_8 = (0 : Int32) then fRe_makeRewritten_114 rc v5 o0 o1 o2 o3 o4 else Option.bind (fCu_bestOf v5 o3) (fun q_10 => Option.bind (fCo_find v5 q_10 o4 o1) (fun q_13 => Option.bind (fRe_findSum (q_13.1 1) (q_13.1 0) o0) (fun q_15 => Option.bind (fRe_sumCost q_15) (fun q_17 => Option.bind (fRe_freedBy v5 q_15 o1 q_13) (fun q_20 => (if q_20.1 ≤ q_17 then fRe_makeRewritten_82 rc v5 0 q_20.2 o1 o2 o3 q_13 else fRe_makeRewritten_82 rc v5 1 q_20.2 o1 o2 o3 q_13)))))))))))
noncomputable def fRe_makeRewritten_0 (rc : Nat → Int32 → cf_O → cf_O → cf_O → cf_O → cf_O → Option (cf_O × cf_O × cf_O)) (o0 : cf_O) (o1 : cf_O) (o2 : cf_O) (o3 : cf_O) (o4 : cf_O) : Option (cf_O × cf_O × cf_O) :=
  Option.bind (fRe_begin o0 o1 o2) (fun q_1 => op_k ((o1.1 0) + 1) (fun x_3 => rc 0 x_3 q_1.1 o1 q_1.2 o3 o4))
noncomputable def gRe_makeRewritten (n : Nat) : Nat → Int32 → cf_O → cf_O → cf_O → cf_O → cf_O → Option (cf_O × cf_O × cf_O) := Nat.rec (motive := fun _ => Nat → Int32 → cf_O → cf_O → cf_O → cf_O → cf_O → Option (cf_O × cf_O × cf_O)) (fun _ _ _ _ _ _ _ => none) (fun _ rc => fun k u5i o0 o1 o2 o3 o4 => Nat.rec (motive := fun _ => Option (cf_O × cf_O × cf_O)) (fRe_makeRewritten_14 rc u5i o0 o1 o2 o3 o4) (fun k _ => none) k) n
noncomputable def fRe_makeRewritten (o0 : cf_O) (o1 : cf_O) (o2 : cf_O) (o3 : cf_O) (o4 : cf_O) : Option (cf_O × cf_O × cf_O) := fRe_makeRewritten_0 (gRe_makeRewritten cfFU) o0 o1 o2 o3 o4
noncomputable def fAS_length_0 (o0 : cf_O) : Option (Int32) :=
  some (o0.1 3)
noncomputable def fAS_length (o0 : cf_O) : Option (Int32) := fAS_length_0 o0
noncomputable def fSB_length_0 (o0 : cf_O) : Option (Int32) :=
  Option.bind (fAS_length o0) (fun q_1 => some q_1)
noncomputable def fSB_length (o0 : cf_O) : Option (Int32) := fSB_length_0 o0
noncomputable def fAS_charAt_0 (v1 : Int32) (o0 : cf_O) : Option (Int32) :=
  (if (o0.1 0) < 0 then none else op_k (o0.1 0) (fun x_2 => op_k (x_2 >>> ((o0.1 1) &&& 31)) (fun x_3 => op_k (op_mn (o0.1 3) x_3) (fun x_4 => Option.bind (fJString_checkIndex_II v1 x_4) (fun q_5 => (if (o0.1 1) = (0 : Int32) then (if v1 < 0 ∨ (o0.1 0).toNatClampNeg ≤ v1.toNatClampNeg then none else op_k (o0.2.1 0 v1.toNatClampNeg) (fun x_9 => op_k (x_9 &&& 255) (fun x_10 => op_k ((x_10.toUInt32 % 65536).toInt32) (fun x_11 => (if ¬ (vp_nar .char x_11 = x_11) then none else some x_11))))) else none))))))
noncomputable def fAS_charAt (v1 : Int32) (o0 : cf_O) : Option (Int32) := fAS_charAt_0 v1 o0
noncomputable def fSB_charAt_0 (v1 : Int32) (o0 : cf_O) : Option (Int32) :=
  Option.bind (fAS_charAt v1 o0) (fun q_1 => (if ¬ (vp_nar .char q_1 = q_1) then none else some q_1))
noncomputable def fSB_charAt (v1 : Int32) (o0 : cf_O) : Option (Int32) := fSB_charAt_0 v1 o0
noncomputable def fSc_signAt_23 (s0 : Int32) (o0 : cf_O) (o1 : cf_O) : Option (Int32) :=
  some s0
noncomputable def fSc_signAt_0 (v1 : Int32) (o0 : cf_O) (o1 : cf_O) : Option (Int32) :=
  Option.bind (fSB_length o1) (fun q_1 => (if q_1 ≤ v1 then fSc_signAt_23 (-1) o0 o1 else Option.bind (fSB_charAt v1 o1) (fun q_5 => fSc_signAt_23 q_5 o0 o1)))
noncomputable def fSc_signAt (v1 : Int32) (o0 : cf_O) (o1 : cf_O) : Option (Int32) := fSc_signAt_0 v1 o0 o1
noncomputable def fTx_isSign_23 (s0 : Int32) : Option (Int32) :=
  (if ¬ (s0 = 0 ∨ s0 = 1) then none else some s0)
noncomputable def fTx_isSign_22 : Option (Int32) :=
  fTx_isSign_23 0
noncomputable def fTx_isSign_18 : Option (Int32) :=
  fTx_isSign_23 1
noncomputable def fTx_isSign_0 (v0 : Int32) : Option (Int32) :=
  (if v0 = (10 : Int32) then fTx_isSign_18 else (if v0 < (32 : Int32) then fTx_isSign_22 else (if (126 : Int32) < v0 then fTx_isSign_22 else fTx_isSign_18)))
noncomputable def fTx_isSign (v0 : Int32) : Option (Int32) := fTx_isSign_0 v0
noncomputable def fTx_add_35 (o0 : cf_O) : Option (cf_O) :=
  some o0
noncomputable def fTx_add_0 (v1 : Int32) (o0 : cf_O) : Option (cf_O) :=
  (if v1 = (0 : Int32) then fTx_add_35 o0 else (if (1600 : Int32) ≤ (o0.1 3) then fTx_add_35 o0 else op_k (v1.toInt8.toInt32) (fun x_3 => (if (o0.1 3) < 0 ∨ 1600 ≤ (o0.1 3).toNatClampNeg then none else op_k (xp o0 0 (o0.1 3).toNatClampNeg (vp_nar .byte x_3)) (fun o_5 => op_k ((o_5.1 3) + 1) (fun x_6 => op_k (fp o_5 3 x_6) (fun o_7 => fTx_add_35 o_7)))))))
noncomputable def fTx_add (v1 : Int32) (o0 : cf_O) : Option (cf_O) := fTx_add_0 v1 o0
noncomputable def fF_put_108 (rc : Nat → Int32 → Int32 → Int32 → cf_O → cf_O → Option (Int32 × cf_O × cf_O)) (v1 : Int32) (v3 : Int32) (o0 : cf_O) (o1 : cf_O) : Option (Int32 × cf_O × cf_O) :=
  op_k (v3 + 1) (fun x_1 => rc 1 v1 0 x_1 o0 o1)
noncomputable def fF_put_86 (rc : Nat → Int32 → Int32 → Int32 → cf_O → cf_O → Option (Int32 × cf_O × cf_O)) (v1 : Int32) (v3 : Int32) (o0 : cf_O) (o1 : cf_O) : Option (Int32 × cf_O × cf_O) :=
  (if (4 : Int32) ≤ v3 then some ((o1.1 3), (fp o0 30 0), o1) else op_k (8 * v3) (fun x_2 => op_k ((v1.toUInt32 >>> (x_2.toUInt32 &&& Int32.toUInt32 31)).toInt32) (fun x_3 => op_k (x_3 &&& 255) (fun x_4 => Option.bind (fTx_add x_4 o1) (fun q_5 => fF_put_108 rc v1 v3 o0 q_5)))))
noncomputable def fF_put_53 (rc : Nat → Int32 → Int32 → Int32 → cf_O → cf_O → Option (Int32 × cf_O × cf_O)) (v1 : Int32) (v3 : Int32) (s0 : Int32) (s1 : Int32) (o0 : cf_O) (o1 : cf_O) : Option (Int32 × cf_O × cf_O) :=
  op_k (s0 + s1) (fun x_1 => op_k (v3 + 1) (fun x_2 => rc 0 v1 x_1 x_2 o0 o1))
noncomputable def fF_put_42 (rc : Nat → Int32 → Int32 → Int32 → cf_O → cf_O → Option (Int32 × cf_O × cf_O)) (v1 : Int32) (v2 : Int32) (v3 : Int32) (v4 : Int32) (o0 : cf_O) (o1 : cf_O) : Option (Int32 × cf_O × cf_O) :=
  (if v4 = (0 : Int32) then fF_put_53 rc v1 v3 v2 0 o0 o1 else fF_put_53 rc v1 v3 v2 1 o0 o1)
noncomputable def fF_put_31 (rc : Nat → Int32 → Int32 → Int32 → cf_O → cf_O → Option (Int32 × cf_O × cf_O)) (v1 : Int32) (v2 : Int32) (v3 : Int32) (v4 : Int32) (s0 : Int32) (o0 : cf_O) (o1 : cf_O) : Option (Int32 × cf_O × cf_O) :=
  (if s0 = (0 : Int32) then some (0, (fp o0 30 1), o1) else fF_put_42 rc v1 v2 v3 v4 o0 o1)
noncomputable def fF_put_4 (rc : Nat → Int32 → Int32 → Int32 → cf_O → cf_O → Option (Int32 × cf_O × cf_O)) (v1 : Int32) (v2 : Int32) (v3 : Int32) (o0 : cf_O) (o1 : cf_O) : Option (Int32 × cf_O × cf_O) :=
  (if (4 : Int32) ≤ v3 then op_k ((o1.1 3) + v2) (fun x_2 => (if x_2 ≤ (1600 : Int32) then rc 1 v1 0 0 o0 o1 else some (0, (fp o0 30 4), o1))) else op_k (8 * v3) (fun x_4 => op_k ((v1.toUInt32 >>> (x_4.toUInt32 &&& Int32.toUInt32 31)).toInt32) (fun x_5 => op_k (x_5 &&& 255) (fun x_6 => (if x_6 = (0 : Int32) then fF_put_42 rc v1 v2 v3 x_6 o0 o1 else Option.bind (fTx_isSign x_6) (fun q_8 => fF_put_31 rc v1 v2 v3 x_6 q_8 o0 o1))))))
noncomputable def fF_put_0 (rc : Nat → Int32 → Int32 → Int32 → cf_O → cf_O → Option (Int32 × cf_O × cf_O)) (v1 : Int32) (o0 : cf_O) (o1 : cf_O) : Option (Int32 × cf_O × cf_O) :=
  rc 0 v1 0 0 o0 o1
noncomputable def gF_put (n : Nat) : Nat → Int32 → Int32 → Int32 → cf_O → cf_O → Option (Int32 × cf_O × cf_O) := Nat.rec (motive := fun _ => Nat → Int32 → Int32 → Int32 → cf_O → cf_O → Option (Int32 × cf_O × cf_O)) (fun _ _ _ _ _ _ => none) (fun _ rc => fun k u1i u2i u3i o0 o1 => Nat.rec (motive := fun _ => Option (Int32 × cf_O × cf_O)) (fF_put_4 rc u1i u2i u3i o0 o1) (fun k _ => Nat.rec (motive := fun _ => Option (Int32 × cf_O × cf_O)) (fF_put_86 rc u1i u3i o0 o1) (fun k _ => none) k) k) n
noncomputable def fF_put (v1 : Int32) (o0 : cf_O) (o1 : cf_O) : Option (Int32 × cf_O × cf_O) := fF_put_0 (gF_put cfFU) v1 o0 o1
noncomputable def fF_end_15 (o0 : cf_O) (o1 : cf_O) : Option (cf_O × cf_O) :=
  some ((fp o0 30 1), o1)
noncomputable def fF_end_0 (v1 : Int32) (o0 : cf_O) (o1 : cf_O) : Option (cf_O × cf_O) :=
  (if v1 < (0 : Int32) then fF_end_15 o0 o1 else (if v1 ≤ (o1.1 3) then op_k (fp o1 3 v1) (fun o_3 => some ((fp o0 30 0), o_3)) else fF_end_15 o0 o1))
noncomputable def fF_end (v1 : Int32) (o0 : cf_O) (o1 : cf_O) : Option (cf_O × cf_O) := fF_end_0 v1 o0 o1
noncomputable def fF_takeSpareNodes_0 (o0 : cf_O) (o1 : cf_O) (o2 : cf_O) : Option (cf_O × cf_O × cf_O) :=
  op_k (fp o1 0 0) (fun o_1 => op_k (fp o2 0 0) (fun o_2 => op_k (fp o0 17 0) (fun o_3 => op_k (fp o_3 18 0) (fun o_4 => some ((fp o_4 30 0), o_1, o_2)))))
noncomputable def fF_takeSpareNodes (o0 : cf_O) (o1 : cf_O) (o2 : cf_O) : Option (cf_O × cf_O × cf_O) := fF_takeSpareNodes_0 o0 o1 o2
noncomputable def fF_read_80 (v1 : Int32) (v2 : Int32) (o0 : cf_O) (o1 : cf_O) (o2 : cf_O) (o3 : cf_O) (o4 : cf_O) (o5 : cf_O) (o6 : cf_O) (o7 : cf_O) : Option (Int32 × cf_O × cf_O × cf_O × cf_O × cf_O × cf_O × cf_O × cf_O) :=
  op_k (fp o0 15 v2) (fun o_1 => some (v1, (fp o_1 30 0), o1, o2, o3, o4, o5, o6, o7))
noncomputable def fF_read_75 (v1 : Int32) (v2 : Int32) (o0 : cf_O) (o1 : cf_O) (o2 : cf_O) (o3 : cf_O) (o4 : cf_O) (o5 : cf_O) (o6 : cf_O) (o7 : cf_O) : Option (Int32 × cf_O × cf_O × cf_O × cf_O × cf_O × cf_O × cf_O × cf_O) :=
  op_k (fp o0 16 1) (fun o_1 => fF_read_80 v1 v2 o_1 o1 o2 o3 o4 o5 o6 o7)
noncomputable def fF_read_53 (v1 : Int32) (v2 : Int32) (o0 : cf_O) (o1 : cf_O) (o2 : cf_O) (o3 : cf_O) (o4 : cf_O) (o5 : cf_O) (o6 : cf_O) (o7 : cf_O) : Option (Int32 × cf_O × cf_O × cf_O × cf_O × cf_O × cf_O × cf_O × cf_O) :=
  Option.bind (fF_takeSpareNodes o0 o2 o3) (fun q_1 => (if (q_1.1.1 30) = 0 then fF_read_75 v1 v2 q_1.1 o1 q_1.2.1 q_1.2.2 o5 o4 o7 o6 else some (0, q_1.1, o1, q_1.2.1, q_1.2.2, o5, o4, o7, o6)))
noncomputable def fF_read_50 (v1 : Int32) (v2 : Int32) (s0 : Int32) (o0 : cf_O) (o1 : cf_O) (o2 : cf_O) (o3 : cf_O) (o4 : cf_O) (o5 : cf_O) (o6 : cf_O) (o7 : cf_O) : Option (Int32 × cf_O × cf_O × cf_O × cf_O × cf_O × cf_O × cf_O × cf_O) :=
  (if s0 = 0 then some (0, (fp o0 30 4), o1, o2, o3, o4, o5, o6, o7) else fF_read_53 v1 v2 o0 o1 o2 o3 o4 o5 o6 o7)
noncomputable def fF_read_35 (v1 : Int32) (v2 : Int32) (o0 : cf_O) (o1 : cf_O) (o2 : cf_O) (o3 : cf_O) (o4 : cf_O) (o5 : cf_O) (o6 : cf_O) (o7 : cf_O) : Option (Int32 × cf_O × cf_O × cf_O × cf_O × cf_O × cf_O × cf_O × cf_O) :=
  (if (o7.1 3) = (0 : Int32) then fF_read_50 v1 v2 1 o0 o1 o2 o3 o4 o5 o6 o7 else fF_read_50 v1 v2 0 o0 o1 o2 o3 o4 o5 o6 o7)
noncomputable def fF_read_11 (s0 : Int32) (o0 : cf_O) (o1 : cf_O) (o2 : cf_O) (o3 : cf_O) (o4 : cf_O) (o5 : cf_O) (o6 : cf_O) (o7 : cf_O) : Option (Int32 × cf_O × cf_O × cf_O × cf_O × cf_O × cf_O × cf_O × cf_O) :=
  (if s0 = (0 : Int32) then Option.bind (fNl_buildInto o5 o7) (fun q_2 => fF_read_35 s0 (o5.1 2) o0 o1 o2 o3 o4 q_2.1 o6 q_2.2) else fF_read_80 s0 (o5.1 2) o0 o1 o2 o3 o4 o5 o6 o7)
noncomputable def fF_read_0 (o0 : cf_O) (o1 : cf_O) (o2 : cf_O) (o3 : cf_O) (o4 : cf_O) (o5 : cf_O) (o6 : cf_O) (o7 : cf_O) : Option (Int32 × cf_O × cf_O × cf_O × cf_O × cf_O × cf_O × cf_O × cf_O) :=
  Option.bind (fNl_scan o5 o1) (fun q_1 => fF_read_11 q_1.1 o0 q_1.2.2 o2 o3 o4 q_1.2.1 o6 o7)
noncomputable def fF_read (o0 : cf_O) (o1 : cf_O) (o2 : cf_O) (o3 : cf_O) (o4 : cf_O) (o5 : cf_O) (o6 : cf_O) (o7 : cf_O) : Option (Int32 × cf_O × cf_O × cf_O × cf_O × cf_O × cf_O × cf_O × cf_O) := fF_read_0 o0 o1 o2 o3 o4 o5 o6 o7
noncomputable def fF_line_0 (o0 : cf_O) : Option (Int32 × cf_O) :=
  some ((o0.1 15), (fp o0 30 0))
noncomputable def fF_line (o0 : cf_O) : Option (Int32 × cf_O) := fF_line_0 o0
noncomputable def fF_graph_71 (s0 : Int32) (o0 : cf_O) (o1 : cf_O) : Option (Int32 × cf_O) :=
  some (s0, (fp o0 30 0))
noncomputable def fF_graph_7 (v1 : Int32) (o0 : cf_O) (o1 : cf_O) : Option (Int32 × cf_O) :=
  (if v1 = (0 : Int32) then some ((o1.1 0), (fp o0 30 0)) else (if v1 = (1 : Int32) then some ((o1.1 1), (fp o0 30 0)) else (if v1 = (2 : Int32) then some ((o1.1 2), (fp o0 30 0)) else (if v1 = (3 : Int32) then Option.bind (fGr_greatestLevel o1) (fun q_5 => fF_graph_71 q_5 o0 o1) else some (0, (fp o0 30 1))))))
noncomputable def fF_graph_0 (v1 : Int32) (o0 : cf_O) (o1 : cf_O) : Option (Int32 × cf_O) :=
  (if (o0.1 16) = 0 then some (0, (fp o0 30 2)) else fF_graph_7 v1 o0 o1)
noncomputable def fF_graph (v1 : Int32) (o0 : cf_O) (o1 : cf_O) : Option (Int32 × cf_O) := fF_graph_0 v1 o0 o1
noncomputable def fF_gate_18 (v1 : Int32) (v2 : Int32) (o0 : cf_O) (o1 : cf_O) : Option (Int32 × cf_O) :=
  (if v2 = (0 : Int32) then (if v1 < 0 ∨ 209 ≤ v1.toNatClampNeg then none else op_k (o1.2.1 4 v1.toNatClampNeg) (fun x_3 => some (x_3, (fp o0 30 0)))) else (if v2 = (1 : Int32) then (if v1 < 0 ∨ 209 ≤ v1.toNatClampNeg then none else op_k (o1.2.1 5 v1.toNatClampNeg) (fun x_6 => some (x_6, (fp o0 30 0)))) else (if v2 = (2 : Int32) then (if v1 < 0 ∨ 209 ≤ v1.toNatClampNeg then none else op_k (o1.2.1 6 v1.toNatClampNeg) (fun x_9 => some (x_9, (fp o0 30 0)))) else some (0, (fp o0 30 1)))))
noncomputable def fF_gate_15 (v1 : Int32) (v2 : Int32) (s0 : Int32) (o0 : cf_O) (o1 : cf_O) : Option (Int32 × cf_O) :=
  (if s0 = 0 then some (0, (fp o0 30 3)) else fF_gate_18 v1 v2 o0 o1)
noncomputable def fF_gate_7 (v1 : Int32) (v2 : Int32) (o0 : cf_O) (o1 : cf_O) : Option (Int32 × cf_O) :=
  Option.bind (fGr_isGate v1 o1) (fun q_1 => fF_gate_15 v1 v2 q_1 o0 o1)
noncomputable def fF_gate_0 (v1 : Int32) (v2 : Int32) (o0 : cf_O) (o1 : cf_O) : Option (Int32 × cf_O) :=
  (if (o0.1 16) = 0 then some (0, (fp o0 30 2)) else fF_gate_7 v1 v2 o0 o1)
noncomputable def fF_gate (v1 : Int32) (v2 : Int32) (o0 : cf_O) (o1 : cf_O) : Option (Int32 × cf_O) := fF_gate_0 v1 v2 o0 o1
noncomputable def fF_output_30 (v1 : Int32) (o0 : cf_O) (o1 : cf_O) : Option (Int32 × cf_O) :=
  (if v1 < 0 ∨ 6 ≤ v1.toNatClampNeg then none else op_k (o1.2.1 7 v1.toNatClampNeg) (fun x_2 => some (x_2, (fp o0 30 0))))
noncomputable def fF_output_27 (v1 : Int32) (s0 : Int32) (o0 : cf_O) (o1 : cf_O) : Option (Int32 × cf_O) :=
  (if s0 = 0 then some (0, (fp o0 30 3)) else fF_output_30 v1 o0 o1)
noncomputable def fF_output_26 (v1 : Int32) (o0 : cf_O) (o1 : cf_O) : Option (Int32 × cf_O) :=
  fF_output_27 v1 0 o0 o1
noncomputable def fF_output_7 (v1 : Int32) (o0 : cf_O) (o1 : cf_O) : Option (Int32 × cf_O) :=
  (if v1 < (0 : Int32) then fF_output_26 v1 o0 o1 else (if (o1.1 1) ≤ v1 then fF_output_26 v1 o0 o1 else fF_output_27 v1 1 o0 o1))
noncomputable def fF_output_0 (v1 : Int32) (o0 : cf_O) (o1 : cf_O) : Option (Int32 × cf_O) :=
  (if (o0.1 16) = 0 then some (0, (fp o0 30 2)) else fF_output_7 v1 o0 o1)
noncomputable def fF_output (v1 : Int32) (o0 : cf_O) (o1 : cf_O) : Option (Int32 × cf_O) := fF_output_0 v1 o0 o1
noncomputable def fF_value_71 (rc : Nat → Int32 → Int32 → Int32 → cf_O → cf_O → cf_O → Option (Int32 × cf_O × cf_O)) (v1 : Int32) (v3 : Int32) (s0 : Int32) (s1 : Int32) (o0 : cf_O) (o1 : cf_O) (o2 : cf_O) : Option (Int32 × cf_O × cf_O) :=
  op_k (s1 <<< (v3 &&& 31)) (fun x_1 => op_k (s0 ||| x_1) (fun x_2 => op_k (v3 + 1) (fun x_3 => rc 0 v1 x_2 x_3 o0 o1 o2)))
noncomputable def fF_value_42 (rc : Nat → Int32 → Int32 → Int32 → cf_O → cf_O → cf_O → Option (Int32 × cf_O × cf_O)) (v1 : Int32) (v2 : Int32) (v3 : Int32) (o0 : cf_O) (o1 : cf_O) (o2 : cf_O) : Option (Int32 × cf_O × cf_O) :=
  (if (o2.1 1) ≤ v3 then some (v2, (fp o0 30 0), o1) else (if v3 < 0 ∨ 6 ≤ v3.toNatClampNeg then none else op_k (o2.2.1 7 v3.toNatClampNeg) (fun x_3 => Option.bind (fFu_bit x_3 v1 o1) (fun q_4 => fF_value_71 rc v1 v3 v2 q_4 o0 o1 o2))))
noncomputable def fF_value_38 (rc : Nat → Int32 → Int32 → Int32 → cf_O → cf_O → cf_O → Option (Int32 × cf_O × cf_O)) (v1 : Int32) (o0 : cf_O) (o1 : cf_O) (o2 : cf_O) : Option (Int32 × cf_O × cf_O) :=
  rc 0 v1 0 0 o0 o1 o2
noncomputable def fF_value_7 (rc : Nat → Int32 → Int32 → Int32 → cf_O → cf_O → cf_O → Option (Int32 × cf_O × cf_O)) (v1 : Int32) (o0 : cf_O) (o1 : cf_O) (o2 : cf_O) : Option (Int32 × cf_O × cf_O) :=
  op_k ((v1.toUInt32 >>> ((o2.1 0).toUInt32 &&& Int32.toUInt32 31)).toInt32) (fun x_1 => (if x_1 = (0 : Int32) then Option.bind (fFu_find o1 o2) (fun q_3 => fF_value_38 rc v1 o0 q_3 o2) else some (0, (fp o0 30 1), o1)))
noncomputable def fF_value_0 (rc : Nat → Int32 → Int32 → Int32 → cf_O → cf_O → cf_O → Option (Int32 × cf_O × cf_O)) (v1 : Int32) (o0 : cf_O) (o1 : cf_O) (o2 : cf_O) : Option (Int32 × cf_O × cf_O) :=
  (if (o0.1 16) = 0 then some (0, (fp o0 30 2), o1) else fF_value_7 rc v1 o0 o1 o2)
noncomputable def gF_value (n : Nat) : Nat → Int32 → Int32 → Int32 → cf_O → cf_O → cf_O → Option (Int32 × cf_O × cf_O) := Nat.rec (motive := fun _ => Nat → Int32 → Int32 → Int32 → cf_O → cf_O → cf_O → Option (Int32 × cf_O × cf_O)) (fun _ _ _ _ _ _ _ => none) (fun _ rc => fun k u1i u2i u3i o0 o1 o2 => Nat.rec (motive := fun _ => Option (Int32 × cf_O × cf_O)) (fF_value_42 rc u1i u2i u3i o0 o1 o2) (fun k _ => none) k) n
noncomputable def fF_value (v1 : Int32) (o0 : cf_O) (o1 : cf_O) (o2 : cf_O) : Option (Int32 × cf_O × cf_O) := fF_value_0 (gF_value cfFU) v1 o0 o1 o2
noncomputable def fF_balance_44 (o0 : cf_O) (o1 : cf_O) (o2 : cf_O) (o3 : cf_O) (o4 : cf_O) (o5 : cf_O) : Option (Int32 × cf_O × cf_O × cf_O × cf_O × cf_O × cf_O) :=
  some ((o4.1 2), (fp o0 30 0), o1, o2, o3, o4, o5)
noncomputable def fF_balance_40 (o0 : cf_O) (o1 : cf_O) (o2 : cf_O) (o3 : cf_O) (o4 : cf_O) (o5 : cf_O) : Option (Int32 × cf_O × cf_O × cf_O × cf_O × cf_O × cf_O) :=
  Option.bind (fF_takeSpareNodes o0 o1 o2) (fun q_1 => (if (q_1.1.1 30) = 0 then fF_balance_44 q_1.1 q_1.2.1 q_1.2.2 o3 o5 o4 else some (0, q_1.1, q_1.2.1, q_1.2.2, o3, o5, o4)))
noncomputable def fF_balance_37 (s0 : Int32) (o0 : cf_O) (o1 : cf_O) (o2 : cf_O) (o3 : cf_O) (o4 : cf_O) (o5 : cf_O) : Option (Int32 × cf_O × cf_O × cf_O × cf_O × cf_O × cf_O) :=
  (if s0 = 0 then some (0, (fp o0 30 4), o1, o2, o3, o4, o5) else fF_balance_40 o0 o1 o2 o3 o4 o5)
noncomputable def fF_balance_22 (o0 : cf_O) (o1 : cf_O) (o2 : cf_O) (o3 : cf_O) (o4 : cf_O) (o5 : cf_O) : Option (Int32 × cf_O × cf_O × cf_O × cf_O × cf_O × cf_O) :=
  (if (o5.1 3) = (0 : Int32) then fF_balance_37 1 o0 o1 o2 o3 o4 o5 else fF_balance_37 0 o0 o1 o2 o3 o4 o5)
noncomputable def fF_balance_7 (o0 : cf_O) (o1 : cf_O) (o2 : cf_O) (o3 : cf_O) (o4 : cf_O) (o5 : cf_O) : Option (Int32 × cf_O × cf_O × cf_O × cf_O × cf_O × cf_O) :=
  Option.bind (fRe_makeBalanced o3 o4 o5) (fun q_1 => fF_balance_22 o0 o1 o2 q_1.1 o4 q_1.2)
noncomputable def fF_balance_0 (o0 : cf_O) (o1 : cf_O) (o2 : cf_O) (o3 : cf_O) (o4 : cf_O) (o5 : cf_O) : Option (Int32 × cf_O × cf_O × cf_O × cf_O × cf_O × cf_O) :=
  (if (o0.1 16) = 0 then some (0, (fp o0 30 2), o1, o2, o3, o4, o5) else fF_balance_7 o0 o1 o2 o3 o4 o5)
noncomputable def fF_balance (o0 : cf_O) (o1 : cf_O) (o2 : cf_O) (o3 : cf_O) (o4 : cf_O) (o5 : cf_O) : Option (Int32 × cf_O × cf_O × cf_O × cf_O × cf_O × cf_O) := fF_balance_0 o0 o1 o2 o3 o4 o5
noncomputable def fF_reduce_59 (o0 : cf_O) (o1 : cf_O) (o2 : cf_O) (o3 : cf_O) (o4 : cf_O) (o5 : cf_O) : Option (Int32 × cf_O × cf_O × cf_O × cf_O × cf_O × cf_O) :=
  some ((o4.1 2), (fp o0 30 0), o1, o2, o3, o4, o5)
noncomputable def fF_reduce_55 (o0 : cf_O) (o1 : cf_O) (o2 : cf_O) (o3 : cf_O) (o4 : cf_O) (o5 : cf_O) : Option (Int32 × cf_O × cf_O × cf_O × cf_O × cf_O × cf_O) :=
  Option.bind (fF_takeSpareNodes o0 o1 o2) (fun q_1 => (if (q_1.1.1 30) = 0 then fF_reduce_59 q_1.1 q_1.2.1 q_1.2.2 o3 o5 o4 else some (0, q_1.1, q_1.2.1, q_1.2.2, o3, o5, o4)))
noncomputable def fF_reduce_52 (s0 : Int32) (o0 : cf_O) (o1 : cf_O) (o2 : cf_O) (o3 : cf_O) (o4 : cf_O) (o5 : cf_O) : Option (Int32 × cf_O × cf_O × cf_O × cf_O × cf_O × cf_O) :=
  (if s0 = 0 then some (0, (fp o0 30 4), o1, o2, o3, o4, o5) else fF_reduce_55 o0 o1 o2 o3 o4 o5)
noncomputable def fF_reduce_37 (o0 : cf_O) (o1 : cf_O) (o2 : cf_O) (o3 : cf_O) (o4 : cf_O) (o5 : cf_O) : Option (Int32 × cf_O × cf_O × cf_O × cf_O × cf_O × cf_O) :=
  (if (o5.1 3) = (0 : Int32) then fF_reduce_52 1 o0 o1 o2 o3 o4 o5 else fF_reduce_52 0 o0 o1 o2 o3 o4 o5)
noncomputable def fF_reduce_18 (o0 : cf_O) (o1 : cf_O) (o2 : cf_O) (o3 : cf_O) (o4 : cf_O) (o5 : cf_O) : Option (Int32 × cf_O × cf_O × cf_O × cf_O × cf_O × cf_O) :=
  Option.bind (fRe_makeReduced o3 o4 o5 o1) (fun q_1 => fF_reduce_37 o0 o1 o2 q_1.1 o4 q_1.2)
noncomputable def fF_reduce_7 (o0 : cf_O) (o1 : cf_O) (o2 : cf_O) (o3 : cf_O) (o4 : cf_O) (o5 : cf_O) : Option (Int32 × cf_O × cf_O × cf_O × cf_O × cf_O × cf_O) :=
  Option.bind (fFu_find o1 o4) (fun q_1 => fF_reduce_18 o0 q_1 o2 o3 o4 o5)
noncomputable def fF_reduce_0 (o0 : cf_O) (o1 : cf_O) (o2 : cf_O) (o3 : cf_O) (o4 : cf_O) (o5 : cf_O) : Option (Int32 × cf_O × cf_O × cf_O × cf_O × cf_O × cf_O) :=
  (if (o0.1 16) = 0 then some (0, (fp o0 30 2), o1, o2, o3, o4, o5) else fF_reduce_7 o0 o1 o2 o3 o4 o5)
noncomputable def fF_reduce (o0 : cf_O) (o1 : cf_O) (o2 : cf_O) (o3 : cf_O) (o4 : cf_O) (o5 : cf_O) : Option (Int32 × cf_O × cf_O × cf_O × cf_O × cf_O × cf_O) := fF_reduce_0 o0 o1 o2 o3 o4 o5
noncomputable def fF_rewrite_67 (o0 : cf_O) (o1 : cf_O) (o2 : cf_O) (o3 : cf_O) (o4 : cf_O) (o5 : cf_O) (o6 : cf_O) : Option (Int32 × cf_O × cf_O × cf_O × cf_O × cf_O × cf_O × cf_O) :=
  some ((o5.1 2), (fp o0 30 0), o1, o2, o3, o4, o5, o6)
noncomputable def fF_rewrite_63 (o0 : cf_O) (o1 : cf_O) (o2 : cf_O) (o3 : cf_O) (o4 : cf_O) (o5 : cf_O) (o6 : cf_O) : Option (Int32 × cf_O × cf_O × cf_O × cf_O × cf_O × cf_O × cf_O) :=
  Option.bind (fF_takeSpareNodes o0 o1 o2) (fun q_1 => (if (q_1.1.1 30) = 0 then fF_rewrite_67 q_1.1 q_1.2.1 q_1.2.2 o3 o4 o6 o5 else some (0, q_1.1, q_1.2.1, q_1.2.2, o3, o4, o6, o5)))
noncomputable def fF_rewrite_60 (s0 : Int32) (o0 : cf_O) (o1 : cf_O) (o2 : cf_O) (o3 : cf_O) (o4 : cf_O) (o5 : cf_O) (o6 : cf_O) : Option (Int32 × cf_O × cf_O × cf_O × cf_O × cf_O × cf_O × cf_O) :=
  (if s0 = 0 then some (0, (fp o0 30 4), o1, o2, o3, o4, o5, o6) else fF_rewrite_63 o0 o1 o2 o3 o4 o5 o6)
noncomputable def fF_rewrite_45 (o0 : cf_O) (o1 : cf_O) (o2 : cf_O) (o3 : cf_O) (o4 : cf_O) (o5 : cf_O) (o6 : cf_O) : Option (Int32 × cf_O × cf_O × cf_O × cf_O × cf_O × cf_O × cf_O) :=
  (if (o6.1 3) = (0 : Int32) then fF_rewrite_60 1 o0 o1 o2 o3 o4 o5 o6 else fF_rewrite_60 0 o0 o1 o2 o3 o4 o5 o6)
noncomputable def fF_rewrite_22 (o0 : cf_O) (o1 : cf_O) (o2 : cf_O) (o3 : cf_O) (o4 : cf_O) (o5 : cf_O) (o6 : cf_O) : Option (Int32 × cf_O × cf_O × cf_O × cf_O × cf_O × cf_O × cf_O) :=
  Option.bind (fRe_makeRewritten o4 o5 o6 o2 o3) (fun q_1 => fF_rewrite_45 o0 o1 o2 q_1.2.2 q_1.1 o5 q_1.2.1)
noncomputable def fF_rewrite_19 (s0 : Int32) (o0 : cf_O) (o1 : cf_O) (o2 : cf_O) (o3 : cf_O) (o4 : cf_O) (o5 : cf_O) (o6 : cf_O) : Option (Int32 × cf_O × cf_O × cf_O × cf_O × cf_O × cf_O × cf_O) :=
  (if s0 = 0 then some (0, (fp o0 30 4), o1, o2, o3, o4, o5, o6) else fF_rewrite_22 o0 o1 o2 o3 o4 o5 o6)
noncomputable def fF_rewrite_7 (o0 : cf_O) (o1 : cf_O) (o2 : cf_O) (o3 : cf_O) (o4 : cf_O) (o5 : cf_O) (o6 : cf_O) : Option (Int32 × cf_O × cf_O × cf_O × cf_O × cf_O × cf_O × cf_O) :=
  Option.bind (fCu_find 4 o2 o5) (fun q_1 => fF_rewrite_19 q_1.1 o0 o1 q_1.2 o3 o4 o5 o6)
noncomputable def fF_rewrite_0 (o0 : cf_O) (o1 : cf_O) (o2 : cf_O) (o3 : cf_O) (o4 : cf_O) (o5 : cf_O) (o6 : cf_O) : Option (Int32 × cf_O × cf_O × cf_O × cf_O × cf_O × cf_O × cf_O) :=
  (if (o0.1 16) = 0 then some (0, (fp o0 30 2), o1, o2, o3, o4, o5, o6) else fF_rewrite_7 o0 o1 o2 o3 o4 o5 o6)
noncomputable def fF_rewrite (o0 : cf_O) (o1 : cf_O) (o2 : cf_O) (o3 : cf_O) (o4 : cf_O) (o5 : cf_O) (o6 : cf_O) : Option (Int32 × cf_O × cf_O × cf_O × cf_O × cf_O × cf_O × cf_O) := fF_rewrite_0 o0 o1 o2 o3 o4 o5 o6
noncomputable def fF_diagram_141 (s0 : Int32) (o0 : cf_O) (o1 : cf_O) (o2 : cf_O) : Option (Int32 × cf_O × cf_O) :=
  some (s0, (fp o0 30 0), o1)
noncomputable def fF_diagram_125 (s0 : Int32) (o0 : cf_O) (o1 : cf_O) (o2 : cf_O) : Option (Int32 × cf_O × cf_O) :=
  some (s0, (fp o0 30 0), o1)
noncomputable def fF_diagram_115 (s0 : Int32) (o0 : cf_O) (o1 : cf_O) (o2 : cf_O) : Option (Int32 × cf_O × cf_O) :=
  some (s0, (fp o0 30 0), o1)
noncomputable def fF_diagram_99 (s0 : Int32) (o0 : cf_O) (o1 : cf_O) (o2 : cf_O) : Option (Int32 × cf_O × cf_O) :=
  some (s0, (fp o0 30 0), o1)
noncomputable def fF_diagram_41 (v1 : Int32) (v2 : Int32) (o0 : cf_O) (o1 : cf_O) (o2 : cf_O) : Option (Int32 × cf_O × cf_O) :=
  (if v1 < 0 ∨ 6 ≤ v1.toNatClampNeg then none else op_k (o2.2.1 7 v1.toNatClampNeg) (fun x_2 => (if v2 = (0 : Int32) then Option.bind (fFu_questions x_2 (o2.1 0) o1) (fun q_4 => fF_diagram_99 q_4.1 o0 q_4.2 o2) else (if v2 = (1 : Int32) then Option.bind (fFu_ones x_2 (o2.1 0) o1) (fun q_8 => fF_diagram_115 q_8 o0 o1 o2) else (if v2 = (2 : Int32) then Option.bind (fFu_leastUnlike x_2 0 o1) (fun q_12 => fF_diagram_125 q_12 o0 o1 o2) else (if v2 = (3 : Int32) then Option.bind (fFu_firstAsked x_2 (o2.1 0) o1) (fun q_16 => fF_diagram_141 q_16 o0 o1 o2) else some (0, (fp o0 30 1), o1)))))))
noncomputable def fF_diagram_30 (v1 : Int32) (v2 : Int32) (o0 : cf_O) (o1 : cf_O) (o2 : cf_O) : Option (Int32 × cf_O × cf_O) :=
  Option.bind (fFu_find o1 o2) (fun q_1 => fF_diagram_41 v1 v2 o0 q_1 o2)
noncomputable def fF_diagram_27 (v1 : Int32) (v2 : Int32) (s0 : Int32) (o0 : cf_O) (o1 : cf_O) (o2 : cf_O) : Option (Int32 × cf_O × cf_O) :=
  (if s0 = 0 then some (0, (fp o0 30 3), o1) else fF_diagram_30 v1 v2 o0 o1 o2)
noncomputable def fF_diagram_26 (v1 : Int32) (v2 : Int32) (o0 : cf_O) (o1 : cf_O) (o2 : cf_O) : Option (Int32 × cf_O × cf_O) :=
  fF_diagram_27 v1 v2 0 o0 o1 o2
noncomputable def fF_diagram_7 (v1 : Int32) (v2 : Int32) (o0 : cf_O) (o1 : cf_O) (o2 : cf_O) : Option (Int32 × cf_O × cf_O) :=
  (if v1 < (0 : Int32) then fF_diagram_26 v1 v2 o0 o1 o2 else (if (o2.1 1) ≤ v1 then fF_diagram_26 v1 v2 o0 o1 o2 else fF_diagram_27 v1 v2 1 o0 o1 o2))
noncomputable def fF_diagram_0 (v1 : Int32) (v2 : Int32) (o0 : cf_O) (o1 : cf_O) (o2 : cf_O) : Option (Int32 × cf_O × cf_O) :=
  (if (o0.1 16) = 0 then some (0, (fp o0 30 2), o1) else fF_diagram_7 v1 v2 o0 o1 o2)
noncomputable def fF_diagram (v1 : Int32) (v2 : Int32) (o0 : cf_O) (o1 : cf_O) (o2 : cf_O) : Option (Int32 × cf_O × cf_O) := fF_diagram_0 v1 v2 o0 o1 o2
noncomputable def fF_differ_81 (s0 : Int32) (o0 : cf_O) (o1 : cf_O) (o2 : cf_O) : Option (Int32 × cf_O × cf_O) :=
  some (s0, (fp o0 30 0), o1)
noncomputable def fF_differ_56 (v1 : Int32) (v2 : Int32) (o0 : cf_O) (o1 : cf_O) (o2 : cf_O) : Option (Int32 × cf_O × cf_O) :=
  (if v1 < 0 ∨ 6 ≤ v1.toNatClampNeg then none else op_k (o2.2.1 7 v1.toNatClampNeg) (fun x_2 => (if v2 < 0 ∨ 6 ≤ v2.toNatClampNeg then none else op_k (o2.2.1 7 v2.toNatClampNeg) (fun x_4 => Option.bind (fFu_leastUnlike x_2 x_4 o1) (fun q_5 => fF_differ_81 q_5 o0 o1 o2)))))
noncomputable def fF_differ_45 (v1 : Int32) (v2 : Int32) (o0 : cf_O) (o1 : cf_O) (o2 : cf_O) : Option (Int32 × cf_O × cf_O) :=
  Option.bind (fFu_find o1 o2) (fun q_1 => fF_differ_56 v1 v2 o0 q_1 o2)
noncomputable def fF_differ_42 (v1 : Int32) (v2 : Int32) (s0 : Int32) (o0 : cf_O) (o1 : cf_O) (o2 : cf_O) : Option (Int32 × cf_O × cf_O) :=
  (if s0 = 0 then some (0, (fp o0 30 3), o1) else fF_differ_45 v1 v2 o0 o1 o2)
noncomputable def fF_differ_41 (v1 : Int32) (v2 : Int32) (o0 : cf_O) (o1 : cf_O) (o2 : cf_O) : Option (Int32 × cf_O × cf_O) :=
  fF_differ_42 v1 v2 0 o0 o1 o2
noncomputable def fF_differ_7 (v1 : Int32) (v2 : Int32) (o0 : cf_O) (o1 : cf_O) (o2 : cf_O) : Option (Int32 × cf_O × cf_O) :=
  (if v1 < (0 : Int32) then fF_differ_41 v1 v2 o0 o1 o2 else (if (o2.1 1) ≤ v1 then fF_differ_41 v1 v2 o0 o1 o2 else (if v2 < (0 : Int32) then fF_differ_41 v1 v2 o0 o1 o2 else (if (o2.1 1) ≤ v2 then fF_differ_41 v1 v2 o0 o1 o2 else fF_differ_42 v1 v2 1 o0 o1 o2))))
noncomputable def fF_differ_0 (v1 : Int32) (v2 : Int32) (o0 : cf_O) (o1 : cf_O) (o2 : cf_O) : Option (Int32 × cf_O × cf_O) :=
  (if (o0.1 16) = 0 then some (0, (fp o0 30 2), o1) else fF_differ_7 v1 v2 o0 o1 o2)
noncomputable def fF_differ (v1 : Int32) (v2 : Int32) (o0 : cf_O) (o1 : cf_O) (o2 : cf_O) : Option (Int32 × cf_O × cf_O) := fF_differ_0 v1 v2 o0 o1 o2
noncomputable def fF_coverBy_60 (o0 : cf_O) (o1 : cf_O) (o2 : cf_O) (o3 : cf_O) (o4 : cf_O) (o5 : cf_O) (o6 : cf_O) : Option (Int32 × cf_O × cf_O × cf_O × cf_O × cf_O) :=
  op_k (fp o4 0 0) (fun o_1 => op_k (fp o0 17 1) (fun o_2 => some ((o3.1 0), (fp o_2 30 0), o1, o2, o3, o_1)))
noncomputable def fF_coverBy_40 (v2 : Int32) (o0 : cf_O) (o1 : cf_O) (o2 : cf_O) (o3 : cf_O) (o4 : cf_O) (o5 : cf_O) (o6 : cf_O) : Option (Int32 × cf_O × cf_O × cf_O × cf_O × cf_O) :=
  Option.bind (fCv_choose v2 o3 o5 o1 o2) (fun q_1 => fF_coverBy_60 o0 o1 q_1.2 q_1.1 o4 o5 o6)
noncomputable def fF_coverBy_37 (v2 : Int32) (s0 : Int32) (o0 : cf_O) (o1 : cf_O) (o2 : cf_O) (o3 : cf_O) (o4 : cf_O) (o5 : cf_O) (o6 : cf_O) : Option (Int32 × cf_O × cf_O × cf_O × cf_O × cf_O) :=
  (if s0 = 0 then some (0, (fp o0 30 4), o1, o2, o3, o4) else fF_coverBy_40 v2 o0 o1 o2 o3 o4 o5 o6)
noncomputable def fF_coverBy_17 (o0 : cf_O) (o1 : cf_O) (o2 : cf_O) (o3 : cf_O) (o4 : cf_O) (o5 : cf_O) (o6 : cf_O) : Option (Int32 × cf_O × cf_O × cf_O × cf_O × cf_O) :=
  some (0, (fp o0 30 1), o1, o2, o3, o4)
noncomputable def fF_coverBy_7 (v1 : Int32) (v2 : Int32) (o0 : cf_O) (o1 : cf_O) (o2 : cf_O) (o3 : cf_O) (o4 : cf_O) (o5 : cf_O) (o6 : cf_O) : Option (Int32 × cf_O × cf_O × cf_O × cf_O × cf_O) :=
  (if v1 < (2 : Int32) then fF_coverBy_17 o0 o1 o2 o3 o4 o5 o6 else (if v1 ≤ (5 : Int32) then Option.bind (fCu_find v1 o1 o5) (fun q_3 => fF_coverBy_37 v2 q_3.1 o0 q_3.2 o2 o3 o4 o5 o6) else fF_coverBy_17 o0 o1 o2 o3 o4 o5 o6))
noncomputable def fF_coverBy_0 (v1 : Int32) (v2 : Int32) (o0 : cf_O) (o1 : cf_O) (o2 : cf_O) (o3 : cf_O) (o4 : cf_O) (o5 : cf_O) (o6 : cf_O) : Option (Int32 × cf_O × cf_O × cf_O × cf_O × cf_O) :=
  (if (o0.1 16) = 0 then some (0, (fp o0 30 2), o1, o2, o3, o4) else fF_coverBy_7 v1 v2 o0 o1 o2 o3 o4 o5 o6)
noncomputable def fF_coverBy (v1 : Int32) (v2 : Int32) (o0 : cf_O) (o1 : cf_O) (o2 : cf_O) (o3 : cf_O) (o4 : cf_O) (o5 : cf_O) (o6 : cf_O) : Option (Int32 × cf_O × cf_O × cf_O × cf_O × cf_O) := fF_coverBy_0 v1 v2 o0 o1 o2 o3 o4 o5 o6
noncomputable def fF_coverFew_6 (s0 : Int32) (o0 : cf_O) (o1 : cf_O) (o2 : cf_O) (o3 : cf_O) (o4 : cf_O) (o5 : cf_O) (o6 : cf_O) : Option (Int32 × cf_O × cf_O × cf_O × cf_O × cf_O) :=
  some (s0, (fp o0 30 0), o1, o2, o3, o4)
noncomputable def fF_coverFew_0 (v1 : Int32) (o0 : cf_O) (o1 : cf_O) (o2 : cf_O) (o3 : cf_O) (o4 : cf_O) (o5 : cf_O) (o6 : cf_O) : Option (Int32 × cf_O × cf_O × cf_O × cf_O × cf_O) :=
  Option.bind (fF_coverBy v1 1 o0 o1 o2 o3 o4 o5 o6) (fun q_1 => (if (q_1.2.1.1 30) = 0 then fF_coverFew_6 q_1.1 q_1.2.1 q_1.2.2.1 q_1.2.2.2.1 q_1.2.2.2.2.1 q_1.2.2.2.2.2 o5 o6 else some (0, q_1.2.1, q_1.2.2.1, q_1.2.2.2.1, q_1.2.2.2.2.1, q_1.2.2.2.2.2)))
noncomputable def fF_coverFew (v1 : Int32) (o0 : cf_O) (o1 : cf_O) (o2 : cf_O) (o3 : cf_O) (o4 : cf_O) (o5 : cf_O) (o6 : cf_O) : Option (Int32 × cf_O × cf_O × cf_O × cf_O × cf_O) := fF_coverFew_0 v1 o0 o1 o2 o3 o4 o5 o6
noncomputable def fF_cover_6 (s0 : Int32) (o0 : cf_O) (o1 : cf_O) (o2 : cf_O) (o3 : cf_O) (o4 : cf_O) (o5 : cf_O) (o6 : cf_O) : Option (Int32 × cf_O × cf_O × cf_O × cf_O × cf_O) :=
  some (s0, (fp o0 30 0), o1, o2, o3, o4)
noncomputable def fF_cover_0 (v1 : Int32) (o0 : cf_O) (o1 : cf_O) (o2 : cf_O) (o3 : cf_O) (o4 : cf_O) (o5 : cf_O) (o6 : cf_O) : Option (Int32 × cf_O × cf_O × cf_O × cf_O × cf_O) :=
  Option.bind (fF_coverBy v1 0 o0 o1 o2 o3 o4 o5 o6) (fun q_1 => (if (q_1.2.1.1 30) = 0 then fF_cover_6 q_1.1 q_1.2.1 q_1.2.2.1 q_1.2.2.2.1 q_1.2.2.2.2.1 q_1.2.2.2.2.2 o5 o6 else some (0, q_1.2.1, q_1.2.2.1, q_1.2.2.2.1, q_1.2.2.2.2.1, q_1.2.2.2.2.2)))
noncomputable def fF_cover (v1 : Int32) (o0 : cf_O) (o1 : cf_O) (o2 : cf_O) (o3 : cf_O) (o4 : cf_O) (o5 : cf_O) (o6 : cf_O) : Option (Int32 × cf_O × cf_O × cf_O × cf_O × cf_O) := fF_cover_0 v1 o0 o1 o2 o3 o4 o5 o6
noncomputable def fF_depth_7 (o0 : cf_O) (o1 : cf_O) : Option (Int32 × cf_O) :=
  some ((o1.1 1), (fp o0 30 0))
noncomputable def fF_depth_0 (o0 : cf_O) (o1 : cf_O) : Option (Int32 × cf_O) :=
  (if (o0.1 17) = 0 then some (0, (fp o0 30 2)) else fF_depth_7 o0 o1)
noncomputable def fF_depth (o0 : cf_O) (o1 : cf_O) : Option (Int32 × cf_O) := fF_depth_0 o0 o1
noncomputable def fF_cell_144 (s0 : Int32) (o0 : cf_O) (o1 : cf_O) : Option (Int32 × cf_O) :=
  some (s0, (fp o0 30 0))
noncomputable def fF_cell_137 (v2 : Int32) (v3 : Int64) (o0 : cf_O) (o1 : cf_O) : Option (Int32 × cf_O) :=
  op_k (v2 - 4) (fun x_1 => Option.bind (fCu_nodeAt v3 x_1) (fun q_2 => fF_cell_144 q_2 o0 o1))
noncomputable def fF_cell_134 (v2 : Int32) (v3 : Int64) (s0 : Int32) (o0 : cf_O) (o1 : cf_O) : Option (Int32 × cf_O) :=
  (if s0 = 0 then some (0, (fp o0 30 3)) else fF_cell_137 v2 v3 o0 o1)
noncomputable def fF_cell_126 (v2 : Int32) (v3 : Int64) (s0 : Int32) (s1 : Int32) (o0 : cf_O) (o1 : cf_O) : Option (Int32 × cf_O) :=
  (if s1 ≤ s0 then fF_cell_134 v2 v3 0 o0 o1 else fF_cell_134 v2 v3 1 o0 o1)
noncomputable def fF_cell_98 (s0 : Int32) (o0 : cf_O) (o1 : cf_O) : Option (Int32 × cf_O) :=
  some (s0, (fp o0 30 0))
noncomputable def fF_cell_50 (v1 : Int32) (v2 : Int32) (s0 : Int64) (o0 : cf_O) (o1 : cf_O) : Option (Int32 × cf_O) :=
  (if v2 = (0 : Int32) then (if v1 < 0 ∨ 200 ≤ v1.toNatClampNeg then none else op_k (o1.2.1 2 v1.toNatClampNeg) (fun x_3 => some (x_3, (fp o0 30 0)))) else (if v2 = (1 : Int32) then Option.bind (fCu_sizeOf s0) (fun q_5 => fF_cell_98 q_5 o0 o1) else (if v2 = (2 : Int32) then (if v1 < 0 ∨ 200 ≤ v1.toNatClampNeg then none else op_k (o1.2.1 3 v1.toNatClampNeg) (fun x_10 => some (x_10, (fp o0 30 0)))) else (if v2 = (3 : Int32) then (if v1 < 0 ∨ 200 ≤ v1.toNatClampNeg then none else op_k (o1.2.1 4 v1.toNatClampNeg) (fun x_13 => some (x_13, (fp o0 30 0)))) else op_k (v2 - 4) (fun x_14 => Option.bind (fCu_sizeOf s0) (fun q_15 => fF_cell_126 v2 s0 x_14 q_15 o0 o1))))))
noncomputable def fF_cell_30 (v1 : Int32) (v2 : Int32) (o0 : cf_O) (o1 : cf_O) : Option (Int32 × cf_O) :=
  (if (0 : Int32) ≤ v2 then Option.bind (fCv_cutOf v1 o1) (fun q_2 => fF_cell_50 v1 v2 q_2 o0 o1) else some (0, (fp o0 30 1)))
noncomputable def fF_cell_27 (v1 : Int32) (v2 : Int32) (s0 : Int32) (o0 : cf_O) (o1 : cf_O) : Option (Int32 × cf_O) :=
  (if s0 = 0 then some (0, (fp o0 30 3)) else fF_cell_30 v1 v2 o0 o1)
noncomputable def fF_cell_26 (v1 : Int32) (v2 : Int32) (o0 : cf_O) (o1 : cf_O) : Option (Int32 × cf_O) :=
  fF_cell_27 v1 v2 0 o0 o1
noncomputable def fF_cell_7 (v1 : Int32) (v2 : Int32) (o0 : cf_O) (o1 : cf_O) : Option (Int32 × cf_O) :=
  (if v1 < (0 : Int32) then fF_cell_26 v1 v2 o0 o1 else (if (o1.1 0) ≤ v1 then fF_cell_26 v1 v2 o0 o1 else fF_cell_27 v1 v2 1 o0 o1))
noncomputable def fF_cell_0 (v1 : Int32) (v2 : Int32) (o0 : cf_O) (o1 : cf_O) : Option (Int32 × cf_O) :=
  (if (o0.1 17) = 0 then some (0, (fp o0 30 2)) else fF_cell_7 v1 v2 o0 o1)
noncomputable def fF_cell (v1 : Int32) (v2 : Int32) (o0 : cf_O) (o1 : cf_O) : Option (Int32 × cf_O) := fF_cell_0 v1 v2 o0 o1
noncomputable def fF_sign_56 (s0 : Int32) (o0 : cf_O) (o1 : cf_O) (o2 : cf_O) (o3 : cf_O) (o4 : cf_O) (o5 : cf_O) : Option (Int32 × cf_O × cf_O × cf_O) :=
  some (s0, (fp o0 30 0), o2, o5)
noncomputable def fF_sign_48 (v1 : Int32) (o0 : cf_O) (o1 : cf_O) (o2 : cf_O) (o3 : cf_O) (o4 : cf_O) (o5 : cf_O) : Option (Int32 × cf_O × cf_O × cf_O) :=
  Option.bind (fSc_signAt v1 o2 o5) (fun q_1 => fF_sign_56 q_1 o0 o1 o2 o3 o4 o5)
noncomputable def fF_sign_19 (v1 : Int32) (o0 : cf_O) (o1 : cf_O) (o2 : cf_O) (o3 : cf_O) (o4 : cf_O) (o5 : cf_O) : Option (Int32 × cf_O × cf_O × cf_O) :=
  (if (o2.1 0) = (0 : Int32) then Option.bind (fCv_writeTo o1 o2 o3 o4 o5) (fun q_2 => fF_sign_48 v1 o0 o1 q_2.1 o3 o4 q_2.2) else fF_sign_48 v1 o0 o1 o2 o3 o4 o5)
noncomputable def fF_sign_16 (v1 : Int32) (s0 : Int32) (o0 : cf_O) (o1 : cf_O) (o2 : cf_O) (o3 : cf_O) (o4 : cf_O) (o5 : cf_O) : Option (Int32 × cf_O × cf_O × cf_O) :=
  (if s0 = 0 then some (0, (fp o0 30 3), o2, o5) else fF_sign_19 v1 o0 o1 o2 o3 o4 o5)
noncomputable def fF_sign_7 (v1 : Int32) (o0 : cf_O) (o1 : cf_O) (o2 : cf_O) (o3 : cf_O) (o4 : cf_O) (o5 : cf_O) : Option (Int32 × cf_O × cf_O × cf_O) :=
  (if v1 < (0 : Int32) then fF_sign_16 v1 0 o0 o1 o2 o3 o4 o5 else fF_sign_16 v1 1 o0 o1 o2 o3 o4 o5)
noncomputable def fF_sign_0 (v1 : Int32) (o0 : cf_O) (o1 : cf_O) (o2 : cf_O) (o3 : cf_O) (o4 : cf_O) (o5 : cf_O) : Option (Int32 × cf_O × cf_O × cf_O) :=
  (if (o0.1 17) = 0 then some (0, (fp o0 30 2), o2, o5) else fF_sign_7 v1 o0 o1 o2 o3 o4 o5)
noncomputable def fF_sign (v1 : Int32) (o0 : cf_O) (o1 : cf_O) (o2 : cf_O) (o3 : cf_O) (o4 : cf_O) (o5 : cf_O) : Option (Int32 × cf_O × cf_O × cf_O) := fF_sign_0 v1 o0 o1 o2 o3 o4 o5
noncomputable def fF_library_58 (v1 : Int32) (o0 : cf_O) (o1 : cf_O) (o2 : cf_O) (o3 : cf_O) : Option (Int32 × cf_O × cf_O × cf_O × cf_O) :=
  some (v1, (fp o0 30 0), o1, o2, o3)
noncomputable def fF_library_11 (s0 : Int32) (o0 : cf_O) (o1 : cf_O) (o2 : cf_O) (o3 : cf_O) : Option (Int32 × cf_O × cf_O × cf_O × cf_O) :=
  (if s0 = (0 : Int32) then op_k (fp o0 18 0) (fun o_3 => op_k (fp o_3 15 (-1)) (fun o_4 => fF_library_58 s0 o_4 o1 o3 o2)) else op_k (fp o0 15 (o1.1 4)) (fun o_2 => fF_library_58 s0 o_2 o1 o2 o3))
noncomputable def fF_library_0 (o0 : cf_O) (o1 : cf_O) (o2 : cf_O) (o3 : cf_O) : Option (Int32 × cf_O × cf_O × cf_O × cf_O) :=
  Option.bind (fLi_scan o3 o1) (fun q_1 => fF_library_11 q_1.1 o0 q_1.2.2 o2 q_1.2.1)
noncomputable def fF_library (o0 : cf_O) (o1 : cf_O) (o2 : cf_O) (o3 : cf_O) : Option (Int32 × cf_O × cf_O × cf_O × cf_O) := fF_library_0 o0 o1 o2 o3
noncomputable def fF_libraryCell_23 (v1 : Int32) (v2 : Int32) (o0 : cf_O) (o1 : cf_O) : Option (Int32 × cf_O) :=
  (if v2 = (0 : Int32) then (if v1 < 0 ∨ 12 ≤ v1.toNatClampNeg then none else op_k (o1.2.1 3 v1.toNatClampNeg) (fun x_3 => some (x_3, (fp o0 30 0)))) else (if v2 = (1 : Int32) then (if v1 < 0 ∨ 12 ≤ v1.toNatClampNeg then none else op_k (o1.2.1 4 v1.toNatClampNeg) (fun x_6 => some (x_6, (fp o0 30 0)))) else (if v2 = (2 : Int32) then (if v1 < 0 ∨ 12 ≤ v1.toNatClampNeg then none else op_k (o1.2.1 5 v1.toNatClampNeg) (fun x_9 => some (x_9, (fp o0 30 0)))) else (if v2 = (3 : Int32) then (if v1 < 0 ∨ 12 ≤ v1.toNatClampNeg then none else op_k (o1.2.1 6 v1.toNatClampNeg) (fun x_12 => some (x_12, (fp o0 30 0)))) else some (0, (fp o0 30 1))))))
noncomputable def fF_libraryCell_20 (v1 : Int32) (v2 : Int32) (s0 : Int32) (o0 : cf_O) (o1 : cf_O) : Option (Int32 × cf_O) :=
  (if s0 = 0 then some (0, (fp o0 30 3)) else fF_libraryCell_23 v1 v2 o0 o1)
noncomputable def fF_libraryCell_19 (v1 : Int32) (v2 : Int32) (o0 : cf_O) (o1 : cf_O) : Option (Int32 × cf_O) :=
  fF_libraryCell_20 v1 v2 0 o0 o1
noncomputable def fF_libraryCell_0 (v1 : Int32) (v2 : Int32) (o0 : cf_O) (o1 : cf_O) : Option (Int32 × cf_O) :=
  (if v1 < (0 : Int32) then fF_libraryCell_19 v1 v2 o0 o1 else (if (o1.1 0) ≤ v1 then fF_libraryCell_19 v1 v2 o0 o1 else fF_libraryCell_20 v1 v2 1 o0 o1))
noncomputable def fF_libraryCell (v1 : Int32) (v2 : Int32) (o0 : cf_O) (o1 : cf_O) : Option (Int32 × cf_O) := fF_libraryCell_0 v1 v2 o0 o1
noncomputable def fF_map_93 (s0 : Int32) (o0 : cf_O) (o1 : cf_O) (o2 : cf_O) (o3 : cf_O) (o4 : cf_O) (o5 : cf_O) (o6 : cf_O) (o7 : cf_O) : Option (Int32 × cf_O × cf_O × cf_O × cf_O × cf_O) :=
  some (s0, (fp o0 30 0), o1, o2, o3, o4)
noncomputable def fF_map_72 (s1 : Int32) (o0 : cf_O) (o1 : cf_O) (o2 : cf_O) (o3 : cf_O) (o4 : cf_O) (o5 : cf_O) (o6 : cf_O) (o7 : cf_O) : Option (Int32 × cf_O × cf_O × cf_O × cf_O × cf_O) :=
  (if ¬ (s1 = 0 ∨ s1 = 1) then none else op_k (fp o0 18 s1) (fun o_2 => (if (o_2.1 18) = (0 : Int32) then fF_map_93 (-1) o_2 o1 o2 o3 o4 o5 o6 o7 else fF_map_93 (o3.1 0) o_2 o1 o2 o3 o4 o5 o6 o7)))
noncomputable def fF_map_40 (o0 : cf_O) (o1 : cf_O) (o2 : cf_O) (o3 : cf_O) (o4 : cf_O) (o5 : cf_O) (o6 : cf_O) (o7 : cf_O) : Option (Int32 × cf_O × cf_O × cf_O × cf_O × cf_O) :=
  op_k (fp o4 0 0) (fun o_1 => Option.bind (fMp_find o3 o5 o1 o2 o6) (fun q_2 => fF_map_72 q_2.1 o0 o1 q_2.2.2 q_2.2.1 o_1 o5 o6 o7))
noncomputable def fF_map_37 (s0 : Int32) (o0 : cf_O) (o1 : cf_O) (o2 : cf_O) (o3 : cf_O) (o4 : cf_O) (o5 : cf_O) (o6 : cf_O) (o7 : cf_O) : Option (Int32 × cf_O × cf_O × cf_O × cf_O × cf_O) :=
  (if s0 = 0 then some (0, (fp o0 30 4), o1, o2, o3, o4) else fF_map_40 o0 o1 o2 o3 o4 o5 o6 o7)
noncomputable def fF_map_25 (o0 : cf_O) (o1 : cf_O) (o2 : cf_O) (o3 : cf_O) (o4 : cf_O) (o5 : cf_O) (o6 : cf_O) (o7 : cf_O) : Option (Int32 × cf_O × cf_O × cf_O × cf_O × cf_O) :=
  Option.bind (fCu_find 3 o1 o5) (fun q_1 => fF_map_37 q_1.1 o0 q_1.2 o2 o3 o4 o5 o6 o7)
noncomputable def fF_map_22 (s0 : Int32) (o0 : cf_O) (o1 : cf_O) (o2 : cf_O) (o3 : cf_O) (o4 : cf_O) (o5 : cf_O) (o6 : cf_O) (o7 : cf_O) : Option (Int32 × cf_O × cf_O × cf_O × cf_O × cf_O) :=
  (if s0 = 0 then some (0, (fp o0 30 2), o1, o2, o3, o4) else fF_map_25 o0 o1 o2 o3 o4 o5 o6 o7)
noncomputable def fF_map_21 (o0 : cf_O) (o1 : cf_O) (o2 : cf_O) (o3 : cf_O) (o4 : cf_O) (o5 : cf_O) (o6 : cf_O) (o7 : cf_O) : Option (Int32 × cf_O × cf_O × cf_O × cf_O × cf_O) :=
  fF_map_22 0 o0 o1 o2 o3 o4 o5 o6 o7
noncomputable def fF_map_0 (o0 : cf_O) (o1 : cf_O) (o2 : cf_O) (o3 : cf_O) (o4 : cf_O) (o5 : cf_O) (o6 : cf_O) (o7 : cf_O) : Option (Int32 × cf_O × cf_O × cf_O × cf_O × cf_O) :=
  (if (o0.1 16) = (0 : Int32) then fF_map_21 o0 o1 o2 o3 o4 o5 o6 o7 else (if (o6.1 0) ≤ (0 : Int32) then fF_map_21 o0 o1 o2 o3 o4 o5 o6 o7 else fF_map_22 1 o0 o1 o2 o3 o4 o5 o6 o7))
noncomputable def fF_map (o0 : cf_O) (o1 : cf_O) (o2 : cf_O) (o3 : cf_O) (o4 : cf_O) (o5 : cf_O) (o6 : cf_O) (o7 : cf_O) : Option (Int32 × cf_O × cf_O × cf_O × cf_O × cf_O) := fF_map_0 o0 o1 o2 o3 o4 o5 o6 o7
noncomputable def fF_mapped_7 (v1 : Int32) (o0 : cf_O) (o1 : cf_O) : Option (Int32 × cf_O) :=
  (if v1 = (0 : Int32) then some ((o1.1 0), (fp o0 30 0)) else (if v1 = (1 : Int32) then some ((o1.1 1), (fp o0 30 0)) else (if v1 = (2 : Int32) then some ((o1.1 2), (fp o0 30 0)) else some (0, (fp o0 30 1)))))
noncomputable def fF_mapped_0 (v1 : Int32) (o0 : cf_O) (o1 : cf_O) : Option (Int32 × cf_O) :=
  (if (o0.1 18) = 0 then some (0, (fp o0 30 2)) else fF_mapped_7 v1 o0 o1)
noncomputable def fF_mapped (v1 : Int32) (o0 : cf_O) (o1 : cf_O) : Option (Int32 × cf_O) := fF_mapped_0 v1 o0 o1
noncomputable def fF_instance_141 (s0 : Int32) (o0 : cf_O) (o1 : cf_O) (o2 : cf_O) : Option (Int32 × cf_O) :=
  some (s0, (fp o0 30 0))
noncomputable def fF_instance_133 (v2 : Int32) (v4 : Int64) (o0 : cf_O) (o1 : cf_O) (o2 : cf_O) : Option (Int32 × cf_O) :=
  op_k (v2 - 3) (fun x_1 => Option.bind (fMp_pinOf v4 x_1) (fun q_2 => fF_instance_141 q_2 o0 o1 o2))
noncomputable def fF_instance_130 (v2 : Int32) (v4 : Int64) (s0 : Int32) (o0 : cf_O) (o1 : cf_O) (o2 : cf_O) : Option (Int32 × cf_O) :=
  (if s0 = 0 then some (0, (fp o0 30 3)) else fF_instance_133 v2 v4 o0 o1 o2)
noncomputable def fF_instance_121 (v2 : Int32) (v4 : Int64) (s0 : Int32) (s2 : Int32) (o0 : cf_O) (o1 : cf_O) (o2 : cf_O) : Option (Int32 × cf_O) :=
  (if s2 < 0 ∨ 12 ≤ s2.toNatClampNeg then none else op_k (o2.2.1 5 s2.toNatClampNeg) (fun x_2 => (if x_2 ≤ s0 then fF_instance_130 v2 v4 0 o0 o1 o2 else fF_instance_130 v2 v4 1 o0 o1 o2)))
noncomputable def fF_instance_105 (s0 : Int32) (o0 : cf_O) (o1 : cf_O) (o2 : cf_O) : Option (Int32 × cf_O) :=
  some (s0, (fp o0 30 0))
noncomputable def fF_instance_99 (s0 : Int32) (o0 : cf_O) (o1 : cf_O) (o2 : cf_O) : Option (Int32 × cf_O) :=
  some (s0, (fp o0 30 0))
noncomputable def fF_instance_30 (v1 : Int32) (v2 : Int32) (o0 : cf_O) (o1 : cf_O) (o2 : cf_O) : Option (Int32 × cf_O) :=
  (if (0 : Int32) ≤ v2 then (if v1 < 0 ∨ 418 ≤ v1.toNatClampNeg then none else op_k (o1.2.1 3 v1.toNatClampNeg) (fun x_3 => (if x_3 < 0 ∨ 418 ≤ x_3.toNatClampNeg then none else op_k (o1.2.2 4 x_3.toNatClampNeg) (fun x_5 => (if v2 = (0 : Int32) then some (x_3, (fp o0 30 0)) else (if v2 = (1 : Int32) then Option.bind (fMp_cellOf x_5) (fun q_8 => fF_instance_99 q_8 o0 o1 o2) else (if v2 = (2 : Int32) then Option.bind (fMp_timeOf x_5) (fun q_12 => fF_instance_105 q_12 o0 o1 o2) else op_k (v2 - 3) (fun x_15 => Option.bind (fMp_cellOf x_5) (fun q_16 => fF_instance_121 v2 x_5 x_15 q_16 o0 o1 o2))))))))) else some (0, (fp o0 30 1)))
noncomputable def fF_instance_27 (v1 : Int32) (v2 : Int32) (s0 : Int32) (o0 : cf_O) (o1 : cf_O) (o2 : cf_O) : Option (Int32 × cf_O) :=
  (if s0 = 0 then some (0, (fp o0 30 3)) else fF_instance_30 v1 v2 o0 o1 o2)
noncomputable def fF_instance_26 (v1 : Int32) (v2 : Int32) (o0 : cf_O) (o1 : cf_O) (o2 : cf_O) : Option (Int32 × cf_O) :=
  fF_instance_27 v1 v2 0 o0 o1 o2
noncomputable def fF_instance_7 (v1 : Int32) (v2 : Int32) (o0 : cf_O) (o1 : cf_O) (o2 : cf_O) : Option (Int32 × cf_O) :=
  (if v1 < (0 : Int32) then fF_instance_26 v1 v2 o0 o1 o2 else (if (o1.1 0) ≤ v1 then fF_instance_26 v1 v2 o0 o1 o2 else fF_instance_27 v1 v2 1 o0 o1 o2))
noncomputable def fF_instance_0 (v1 : Int32) (v2 : Int32) (o0 : cf_O) (o1 : cf_O) (o2 : cf_O) : Option (Int32 × cf_O) :=
  (if (o0.1 18) = 0 then some (0, (fp o0 30 2)) else fF_instance_7 v1 v2 o0 o1 o2)
noncomputable def fF_instance (v1 : Int32) (v2 : Int32) (o0 : cf_O) (o1 : cf_O) (o2 : cf_O) : Option (Int32 × cf_O) := fF_instance_0 v1 v2 o0 o1 o2
noncomputable def fF_mappedSign_60 (s0 : Int32) (o0 : cf_O) (o1 : cf_O) (o2 : cf_O) (o3 : cf_O) (o4 : cf_O) (o5 : cf_O) (o6 : cf_O) : Option (Int32 × cf_O × cf_O × cf_O) :=
  some (s0, (fp o0 30 0), o2, o6)
noncomputable def fF_mappedSign_52 (v1 : Int32) (o0 : cf_O) (o1 : cf_O) (o2 : cf_O) (o3 : cf_O) (o4 : cf_O) (o5 : cf_O) (o6 : cf_O) : Option (Int32 × cf_O × cf_O × cf_O) :=
  Option.bind (fSc_signAt v1 o2 o6) (fun q_1 => fF_mappedSign_60 q_1 o0 o1 o2 o3 o4 o5 o6)
noncomputable def fF_mappedSign_19 (v1 : Int32) (o0 : cf_O) (o1 : cf_O) (o2 : cf_O) (o3 : cf_O) (o4 : cf_O) (o5 : cf_O) (o6 : cf_O) : Option (Int32 × cf_O × cf_O × cf_O) :=
  (if (o2.1 0) = (0 : Int32) then Option.bind (fMp_writeTo o1 o2 o3 o4 o5 o6) (fun q_2 => fF_mappedSign_52 v1 o0 o1 q_2.1 o3 o4 o5 q_2.2) else fF_mappedSign_52 v1 o0 o1 o2 o3 o4 o5 o6)
noncomputable def fF_mappedSign_16 (v1 : Int32) (s0 : Int32) (o0 : cf_O) (o1 : cf_O) (o2 : cf_O) (o3 : cf_O) (o4 : cf_O) (o5 : cf_O) (o6 : cf_O) : Option (Int32 × cf_O × cf_O × cf_O) :=
  (if s0 = 0 then some (0, (fp o0 30 3), o2, o6) else fF_mappedSign_19 v1 o0 o1 o2 o3 o4 o5 o6)
noncomputable def fF_mappedSign_7 (v1 : Int32) (o0 : cf_O) (o1 : cf_O) (o2 : cf_O) (o3 : cf_O) (o4 : cf_O) (o5 : cf_O) (o6 : cf_O) : Option (Int32 × cf_O × cf_O × cf_O) :=
  (if v1 < (0 : Int32) then fF_mappedSign_16 v1 0 o0 o1 o2 o3 o4 o5 o6 else fF_mappedSign_16 v1 1 o0 o1 o2 o3 o4 o5 o6)
noncomputable def fF_mappedSign_0 (v1 : Int32) (o0 : cf_O) (o1 : cf_O) (o2 : cf_O) (o3 : cf_O) (o4 : cf_O) (o5 : cf_O) (o6 : cf_O) : Option (Int32 × cf_O × cf_O × cf_O) :=
  (if (o0.1 18) = 0 then some (0, (fp o0 30 2), o2, o6) else fF_mappedSign_7 v1 o0 o1 o2 o3 o4 o5 o6)
noncomputable def fF_mappedSign (v1 : Int32) (o0 : cf_O) (o1 : cf_O) (o2 : cf_O) (o3 : cf_O) (o4 : cf_O) (o5 : cf_O) (o6 : cf_O) : Option (Int32 × cf_O × cf_O × cf_O) := fF_mappedSign_0 v1 o0 o1 o2 o3 o4 o5 o6
