noncomputable def fM_thrown_0 (o0 : cf_O) : Option (Int32) :=
  some (o0.1 0)
noncomputable def fM_thrown (o0 : cf_O) : Option (Int32) := fM_thrown_0 o0
noncomputable def fM_refuse_41 (s0 : Int32) (o0 : cf_O) : Option (Int32 × cf_O) :=
  (if ¬ (s0 = 0 ∨ s0 = 1) then none else some (s0, o0))
noncomputable def fM_refuse_26 (s1 : Int32) (o0 : cf_O) : Option (Int32 × cf_O) :=
  op_k (fp o0 0 s1) (fun o_1 => (if (o_1.1 0) ≤ (0 : Int32) then fM_refuse_41 0 o_1 else fM_refuse_41 1 o_1))
noncomputable def fM_refuse_0 (v1 : Int32) (v2 : Int32) (v3 : Int32) (o0 : cf_O) : Option (Int32 × cf_O) :=
  (if v1 = (0 : Int32) then (if v2 = (0 : Int32) then (if v3 = (0 : Int32) then fM_refuse_26 0 o0 else fM_refuse_26 3 o0) else fM_refuse_26 2 o0) else fM_refuse_26 1 o0)
noncomputable def fM_refuse (v1 : Int32) (v2 : Int32) (v3 : Int32) (o0 : cf_O) : Option (Int32 × cf_O) := fM_refuse_0 v1 v2 v3 o0
noncomputable def fM_in_15 (s0 : Int32) : Option (Int32) :=
  (if ¬ (s0 = 0 ∨ s0 = 1) then none else some s0)
noncomputable def fM_in_14 : Option (Int32) :=
  fM_in_15 0
noncomputable def fM_in_0 (v0 : Int32) (v1 : Int32) (v2 : Int32) : Option (Int32) :=
  (if v0 < v1 then fM_in_14 else (if v2 < v0 then fM_in_14 else fM_in_15 1))
noncomputable def fM_in (v0 : Int32) (v1 : Int32) (v2 : Int32) : Option (Int32) := fM_in_0 v0 v1 v2
noncomputable def fM_put_163 (rc : Nat → Int32 → Int32 → Int32 → Int32 → cf_O → Option (Int32 × cf_O)) (v1 : Int32) (v4 : Int32) (o0 : cf_O) : Option (Int32 × cf_O) :=
  op_k (v4 + 1) (fun x_1 => rc 1 v1 0 0 x_1 o0)
noncomputable def fM_put_118 (rc : Nat → Int32 → Int32 → Int32 → Int32 → cf_O → Option (Int32 × cf_O)) (v1 : Int32) (v4 : Int32) (o0 : cf_O) : Option (Int32 × cf_O) :=
  (if (4 : Int32) ≤ v4 then some (o0.1 2, o0) else op_k (8 * v4) (fun x_2 => op_k (v1 >>> (x_2 &&& 31)) (fun x_3 => op_k (x_3 &&& 255) (fun x_4 => (if x_4 ≤ (0 : Int32) then fM_put_163 rc v1 v4 o0 else (if (o0.1 2) < 0 ∨ 1600 ≤ (o0.1 2).toNatClampNeg then none else op_k (xp o0 1 (o0.1 2).toNatClampNeg x_4) (fun o_7 => op_k ((o_7.1 2) + 1) (fun x_8 => op_k (fp o_7 2 x_8) (fun o_9 => fM_put_163 rc v1 v4 o_9)))))))))
noncomputable def fM_put_106 (rc : Nat → Int32 → Int32 → Int32 → Int32 → cf_O → Option (Int32 × cf_O)) (v1 : Int32) (s1 : Int32) (s2 : Int32) (o0 : cf_O) : Option (Int32 × cf_O) :=
  Option.bind (fM_refuse s1 s2 0 o0) (fun q_1 => (if q_1.1 = (0 : Int32) then rc 1 v1 0 0 0 q_1.2 else some ((0 : Int32), q_1.2)))
noncomputable def fM_put_89 (rc : Nat → Int32 → Int32 → Int32 → Int32 → cf_O → Option (Int32 × cf_O)) (v1 : Int32) (v2 : Int32) (s1 : Int32) (o0 : cf_O) : Option (Int32 × cf_O) :=
  op_k ((o0.1 2) + v2) (fun x_1 => (if x_1 ≤ (1600 : Int32) then fM_put_106 rc v1 s1 0 o0 else fM_put_106 rc v1 s1 1 o0))
noncomputable def fM_put_72 (rc : Nat → Int32 → Int32 → Int32 → Int32 → cf_O → Option (Int32 × cf_O)) (v1 : Int32) (v3 : Int32) (v4 : Int32) (s0 : Int32) (o0 : cf_O) : Option (Int32 × cf_O) :=
  op_k (v4 + 1) (fun x_1 => rc 0 v1 s0 v3 x_1 o0)
noncomputable def fM_put_59 (rc : Nat → Int32 → Int32 → Int32 → Int32 → cf_O → Option (Int32 × cf_O)) (v1 : Int32) (v2 : Int32) (v4 : Int32) (v5 : Int32) (s0 : Int32) (o0 : cf_O) : Option (Int32 × cf_O) :=
  (if v5 ≤ (0 : Int32) then fM_put_72 rc v1 s0 v4 v2 o0 else op_k (v2 + 1) (fun x_2 => fM_put_72 rc v1 s0 v4 x_2 o0))
noncomputable def fM_put_58 (rc : Nat → Int32 → Int32 → Int32 → Int32 → cf_O → Option (Int32 × cf_O)) (v1 : Int32) (v2 : Int32) (v4 : Int32) (v5 : Int32) (o0 : cf_O) : Option (Int32 × cf_O) :=
  fM_put_59 rc v1 v2 v4 v5 0 o0
noncomputable def fM_put_54 (rc : Nat → Int32 → Int32 → Int32 → Int32 → cf_O → Option (Int32 × cf_O)) (v1 : Int32) (v2 : Int32) (v4 : Int32) (v5 : Int32) (o0 : cf_O) : Option (Int32 × cf_O) :=
  fM_put_59 rc v1 v2 v4 v5 1 o0
noncomputable def fM_put_7 (rc : Nat → Int32 → Int32 → Int32 → Int32 → cf_O → Option (Int32 × cf_O)) (v1 : Int32) (v2 : Int32) (v3 : Int32) (v4 : Int32) (o0 : cf_O) : Option (Int32 × cf_O) :=
  (if (4 : Int32) ≤ v4 then (if v3 = (0 : Int32) then fM_put_89 rc v1 v2 1 o0 else fM_put_89 rc v1 v2 0 o0) else op_k (8 * v4) (fun x_3 => op_k (v1 >>> (x_3 &&& 31)) (fun x_4 => op_k (x_4 &&& 255) (fun x_5 => (if v3 = (0 : Int32) then fM_put_58 rc v1 v2 v4 x_5 o0 else (if x_5 = (0 : Int32) then fM_put_54 rc v1 v2 v4 x_5 o0 else (if x_5 = (10 : Int32) then fM_put_54 rc v1 v2 v4 x_5 o0 else Option.bind (fM_in x_5 32 126) (fun q_9 => (if q_9 = (0 : Int32) then fM_put_58 rc v1 v2 v4 x_5 o0 else fM_put_54 rc v1 v2 v4 x_5 o0)))))))))
noncomputable def fM_put_0 (rc : Nat → Int32 → Int32 → Int32 → Int32 → cf_O → Option (Int32 × cf_O)) (v1 : Int32) (o0 : cf_O) : Option (Int32 × cf_O) :=
  rc 0 v1 0 1 0 o0
noncomputable def gM_put (n : Nat) : Nat → Int32 → Int32 → Int32 → Int32 → cf_O → Option (Int32 × cf_O) := Nat.rec (motive := fun _ => Nat → Int32 → Int32 → Int32 → Int32 → cf_O → Option (Int32 × cf_O)) (fun _ _ _ _ _ _ => none) (fun _ rc => fun k u1i u2i u3i u4i o0 => Nat.rec (motive := fun _ => Option (Int32 × cf_O)) (fM_put_7 rc u1i u2i u3i u4i o0) (fun k _ => Nat.rec (motive := fun _ => Option (Int32 × cf_O)) (fM_put_118 rc u1i u4i o0) (fun k _ => none) k) k) n
noncomputable def fM_put (v1 : Int32) (o0 : cf_O) : Option (Int32 × cf_O) := fM_put_0 (gM_put cfFU) v1 o0
noncomputable def fM_end_31 (o0 : cf_O) : Option (cf_O) :=
  some o0
noncomputable def fM_end_18 (v1 : Int32) (s1 : Int32) (o0 : cf_O) : Option (cf_O) :=
  Option.bind (fM_refuse s1 0 0 o0) (fun q_1 => (if q_1.1 = (0 : Int32) then op_k (fp q_1.2 2 v1) (fun o_5 => fM_end_31 o_5) else fM_end_31 q_1.2))
noncomputable def fM_end_0 (v1 : Int32) (o0 : cf_O) : Option (cf_O) :=
  Option.bind (fM_in v1 0 (o0.1 2)) (fun q_1 => (if q_1 = (0 : Int32) then fM_end_18 v1 1 o0 else fM_end_18 v1 0 o0))
noncomputable def fM_end (v1 : Int32) (o0 : cf_O) : Option (cf_O) := fM_end_0 v1 o0
noncomputable def fM_takeLine_130 (rc : Nat → Int32 → Int32 → Int32 → Int32 → cf_O → Option (Int32 × cf_O)) (v2 : Int32) (v3 : Int32) (v4 : Int32) (o0 : cf_O) : Option (Int32 × cf_O) :=
  (if (o0.1 7) < 0 ∨ 801 ≤ (o0.1 7).toNatClampNeg then none else op_k (xp o0 9 (o0.1 7).toNatClampNeg v4) (fun o_2 => op_k ((o_2.1 7) + 1) (fun x_3 => op_k (fp o_2 7 x_3) (fun o_4 => rc 2 0 v2 v3 v4 o_4))))
noncomputable def fM_takeLine_106 (rc : Nat → Int32 → Int32 → Int32 → Int32 → cf_O → Option (Int32 × cf_O)) (v2 : Int32) (v3 : Int32) (v4 : Int32) (o0 : cf_O) : Option (Int32 × cf_O) :=
  (if v3 ≤ v4 then fM_takeLine_130 rc v2 v3 v4 o0 else (if v4 < 0 ∨ 1600 ≤ v4.toNatClampNeg then none else op_k (o0.2.1 1 v4.toNatClampNeg) (fun x_3 => (if x_3 = (32 : Int32) then fM_takeLine_130 rc v2 v3 v4 o0 else op_k (v4 + 1) (fun x_5 => rc 4 0 v2 v3 x_5 o0)))))
noncomputable def fM_takeLine_89 (rc : Nat → Int32 → Int32 → Int32 → Int32 → cf_O → Option (Int32 × cf_O)) (v2 : Int32) (v3 : Int32) (v4 : Int32) (o0 : cf_O) : Option (Int32 × cf_O) :=
  (if v3 ≤ v4 then rc 2 0 v2 v3 v4 o0 else (if (o0.1 7) < 0 ∨ 801 ≤ (o0.1 7).toNatClampNeg then none else op_k (xp o0 8 (o0.1 7).toNatClampNeg v4) (fun o_3 => rc 4 0 v2 v3 v4 o_3)))
noncomputable def fM_takeLine_65 (rc : Nat → Int32 → Int32 → Int32 → Int32 → cf_O → Option (Int32 × cf_O)) (v2 : Int32) (v3 : Int32) (v4 : Int32) (o0 : cf_O) : Option (Int32 × cf_O) :=
  (if v3 ≤ v4 then fM_takeLine_89 rc v2 v3 v4 o0 else (if v4 < 0 ∨ 1600 ≤ v4.toNatClampNeg then none else op_k (o0.2.1 1 v4.toNatClampNeg) (fun x_3 => (if x_3 = (32 : Int32) then op_k (v4 + 1) (fun x_5 => rc 3 0 v2 v3 x_5 o0) else fM_takeLine_89 rc v2 v3 v4 o0))))
noncomputable def fM_takeLine_59 (rc : Nat → Int32 → Int32 → Int32 → Int32 → cf_O → Option (Int32 × cf_O)) (v2 : Int32) (v3 : Int32) (v4 : Int32) (o0 : cf_O) : Option (Int32 × cf_O) :=
  (if v3 ≤ v4 then some (v2, o0) else rc 3 0 v2 v3 v4 o0)
noncomputable def fM_takeLine_51 (rc : Nat → Int32 → Int32 → Int32 → Int32 → cf_O → Option (Int32 × cf_O)) (v1 : Int32) (v2 : Int32) (v3 : Int32) (o0 : cf_O) : Option (Int32 × cf_O) :=
  op_k (fp o0 7 0) (fun o_1 => rc 2 0 v2 v3 v1 o_1)
noncomputable def fM_takeLine_29 (rc : Nat → Int32 → Int32 → Int32 → Int32 → cf_O → Option (Int32 × cf_O)) (v1 : Int32) (v2 : Int32) (v3 : Int32) (o0 : cf_O) : Option (Int32 × cf_O) :=
  (if v2 ≤ v3 then fM_takeLine_51 rc v1 v2 v3 o0 else (if v3 < 0 ∨ 1600 ≤ v3.toNatClampNeg then none else op_k (o0.2.1 1 v3.toNatClampNeg) (fun x_3 => (if x_3 = (35 : Int32) then fM_takeLine_51 rc v1 v2 v3 o0 else op_k (v3 + 1) (fun x_5 => rc 1 v1 v2 x_5 0 o0)))))
noncomputable def fM_takeLine_27 (rc : Nat → Int32 → Int32 → Int32 → Int32 → cf_O → Option (Int32 × cf_O)) (v1 : Int32) (v2 : Int32) (o0 : cf_O) : Option (Int32 × cf_O) :=
  rc 1 v1 v2 v1 0 o0
noncomputable def fM_takeLine_2 (rc : Nat → Int32 → Int32 → Int32 → Int32 → cf_O → Option (Int32 × cf_O)) (v1 : Int32) (v2 : Int32) (o0 : cf_O) : Option (Int32 × cf_O) :=
  (if (o0.1 2) ≤ v2 then fM_takeLine_27 rc v1 v2 o0 else (if v2 < 0 ∨ 1600 ≤ v2.toNatClampNeg then none else op_k (o0.2.1 1 v2.toNatClampNeg) (fun x_3 => (if x_3 = (10 : Int32) then fM_takeLine_27 rc v1 v2 o0 else op_k (v2 + 1) (fun x_5 => rc 0 v1 x_5 0 0 o0)))))
noncomputable def fM_takeLine_0 (rc : Nat → Int32 → Int32 → Int32 → Int32 → cf_O → Option (Int32 × cf_O)) (v1 : Int32) (o0 : cf_O) : Option (Int32 × cf_O) :=
  rc 0 v1 v1 0 0 o0
noncomputable def gM_takeLine (n : Nat) : Nat → Int32 → Int32 → Int32 → Int32 → cf_O → Option (Int32 × cf_O) := Nat.rec (motive := fun _ => Nat → Int32 → Int32 → Int32 → Int32 → cf_O → Option (Int32 × cf_O)) (fun _ _ _ _ _ _ => none) (fun _ rc => fun k u1i u2i u3i u4i o0 => Nat.rec (motive := fun _ => Option (Int32 × cf_O)) (fM_takeLine_2 rc u1i u2i o0) (fun k _ => Nat.rec (motive := fun _ => Option (Int32 × cf_O)) (fM_takeLine_29 rc u1i u2i u3i o0) (fun k _ => Nat.rec (motive := fun _ => Option (Int32 × cf_O)) (fM_takeLine_59 rc u2i u3i u4i o0) (fun k _ => Nat.rec (motive := fun _ => Option (Int32 × cf_O)) (fM_takeLine_65 rc u2i u3i u4i o0) (fun k _ => Nat.rec (motive := fun _ => Option (Int32 × cf_O)) (fM_takeLine_106 rc u2i u3i u4i o0) (fun k _ => none) k) k) k) k) k) n
noncomputable def fM_takeLine (v1 : Int32) (o0 : cf_O) : Option (Int32 × cf_O) := fM_takeLine_0 (gM_takeLine cfFU) v1 o0
noncomputable def fM_fail_17 (o0 : cf_O) : Option (cf_O) :=
  some o0
noncomputable def fM_fail_0 (v1 : Int32) (v2 : Int32) (o0 : cf_O) : Option (cf_O) :=
  (if (o0.1 5) = (0 : Int32) then op_k (fp o0 5 v1) (fun o_2 => op_k (fp o_2 6 v2) (fun o_3 => fM_fail_17 o_3)) else fM_fail_17 o0)
noncomputable def fM_fail (v1 : Int32) (v2 : Int32) (o0 : cf_O) : Option (cf_O) := fM_fail_0 v1 v2 o0
noncomputable def fM_firstWord_112 (rc : Nat → Int32 → Int32 → Int32 → Int64 → cf_O → Option (Int32)) (v2 : Int32) (s0 : Int32) (o0 : cf_O) : Option (Int32) :=
  op_k (v2 + 1) (fun x_1 => rc 0 s0 x_1 0 0 o0)
noncomputable def fM_firstWord_111 (rc : Nat → Int32 → Int32 → Int32 → Int64 → cf_O → Option (Int32)) (v1 : Int32) (v2 : Int32) (o0 : cf_O) : Option (Int32) :=
  fM_firstWord_112 rc v2 v1 o0
noncomputable def fM_firstWord_74 (rc : Nat → Int32 → Int32 → Int32 → Int64 → cf_O → Option (Int32)) (v1 : Int32) (v2 : Int32) (v3 : Int32) (v4 : Int64) (o0 : cf_O) : Option (Int32) :=
  (if (0 : Int32) < 0 ∨ 801 ≤ (0 : Int32).toNatClampNeg then none else op_k (o0.2.1 8 (0 : Int32).toNatClampNeg) (fun x_2 => (if x_2 < 0 ∨ 1600 ≤ x_2.toNatClampNeg then none else op_k (o0.2.1 1 x_2.toNatClampNeg) (fun x_4 => (if x_4 = (46 : Int32) then (if (0 : Int32) < 0 ∨ 801 ≤ (0 : Int32).toNatClampNeg then none else op_k (o0.2.1 9 (0 : Int32).toNatClampNeg) (fun x_7 => (if v3 = x_7 then op_k (lg_cmp v4 (0 : Int64)) (fun x_9 => (if x_9 = (0 : Int32) then fM_firstWord_112 rc v2 v2 o0 else fM_firstWord_111 rc v1 v2 o0)) else fM_firstWord_111 rc v1 v2 o0))) else fM_firstWord_111 rc v1 v2 o0)))))
noncomputable def fM_firstWord_26 (rc : Nat → Int32 → Int32 → Int32 → Int64 → cf_O → Option (Int32)) (v1 : Int32) (v2 : Int32) (v3 : Int32) (v4 : Int64) (o0 : cf_O) : Option (Int32) :=
  (if (0 : Int32) < 0 ∨ 801 ≤ (0 : Int32).toNatClampNeg then none else op_k (o0.2.1 9 (0 : Int32).toNatClampNeg) (fun x_2 => (if x_2 ≤ v3 then fM_firstWord_74 rc v1 v2 v3 v4 o0 else op_k (lg_cmp v4 (0 : Int64)) (fun x_4 => (if x_4 ≤ (0 : Int32) then fM_firstWord_74 rc v1 v2 v3 v4 o0 else (if v3 < 0 ∨ 1600 ≤ v3.toNatClampNeg then none else op_k (o0.2.1 1 v3.toNatClampNeg) (fun x_7 => op_k (v4 &&& 31) (fun x_8 => op_k (x_8.toInt32) (fun x_9 => op_k (96 + x_9) (fun x_10 => (if x_7 = x_10 then op_k (v3 + 1) (fun x_12 => op_k (v4 >>> ((5 : Int32).toInt64 &&& 63)) (fun x_13 => rc 1 v1 v2 x_12 x_13 o0)) else fM_firstWord_74 rc v1 v2 v3 v4 o0)))))))))))
noncomputable def fM_firstWord_4 (rc : Nat → Int32 → Int32 → Int32 → Int64 → cf_O → Option (Int32)) (v1 : Int32) (v2 : Int32) (o0 : cf_O) : Option (Int32) :=
  (if (4 : Int32) ≤ v2 then some v1 else (if (0 : Int32) < 0 ∨ 801 ≤ (0 : Int32).toNatClampNeg then none else op_k (o0.2.1 8 (0 : Int32).toNatClampNeg) (fun x_3 => op_k (x_3 + 1) (fun x_4 => (if v2 < 0 ∨ 4 ≤ v2.toNatClampNeg then none else op_k (o0.2.2 4 v2.toNatClampNeg) (fun x_6 => rc 1 v1 v2 x_4 x_6 o0))))))
noncomputable def fM_firstWord_0 (rc : Nat → Int32 → Int32 → Int32 → Int64 → cf_O → Option (Int32)) (o0 : cf_O) : Option (Int32) :=
  rc 0 (-1) 0 0 0 o0
noncomputable def gM_firstWord (n : Nat) : Nat → Int32 → Int32 → Int32 → Int64 → cf_O → Option (Int32) := Nat.rec (motive := fun _ => Nat → Int32 → Int32 → Int32 → Int64 → cf_O → Option (Int32)) (fun _ _ _ _ _ _ => none) (fun _ rc => fun k u1i u2i u3i u4l o0 => Nat.rec (motive := fun _ => Option (Int32)) (fM_firstWord_4 rc u1i u2i o0) (fun k _ => Nat.rec (motive := fun _ => Option (Int32)) (fM_firstWord_26 rc u1i u2i u3i u4l o0) (fun k _ => none) k) k) n
noncomputable def fM_firstWord (o0 : cf_O) : Option (Int32) := fM_firstWord_0 (gM_firstWord cfFU) o0
noncomputable def fM_isName_97 (rc : Nat → Int32 → Int32 → Int32 → cf_O → Option (Int32)) (v1 : Int32) (v3 : Int32) (s0 : Int32) (o0 : cf_O) : Option (Int32) :=
  op_k (v3 + 1) (fun x_1 => rc 0 v1 s0 x_1 o0)
noncomputable def fM_isName_96 (rc : Nat → Int32 → Int32 → Int32 → cf_O → Option (Int32)) (v1 : Int32) (v3 : Int32) (o0 : cf_O) : Option (Int32) :=
  fM_isName_97 rc v1 v3 0 o0
noncomputable def fM_isName_92 (rc : Nat → Int32 → Int32 → Int32 → cf_O → Option (Int32)) (v1 : Int32) (v3 : Int32) (o0 : cf_O) : Option (Int32) :=
  fM_isName_97 rc v1 v3 1 o0
noncomputable def fM_isName_27 (rc : Nat → Int32 → Int32 → Int32 → cf_O → Option (Int32)) (v1 : Int32) (v2 : Int32) (v3 : Int32) (o0 : cf_O) : Option (Int32) :=
  (if v1 < 0 ∨ 801 ≤ v1.toNatClampNeg then none else op_k (o0.2.1 9 v1.toNatClampNeg) (fun x_2 => (if x_2 ≤ v3 then (if ¬ (v2 = 0 ∨ v2 = 1) then none else some v2) else (if v3 < 0 ∨ 1600 ≤ v3.toNatClampNeg then none else op_k (o0.2.1 1 v3.toNatClampNeg) (fun x_6 => (if v2 = (0 : Int32) then fM_isName_96 rc v1 v3 o0 else Option.bind (fM_in x_6 97 122) (fun q_8 => (if q_8 = (0 : Int32) then Option.bind (fM_in x_6 65 90) (fun q_12 => (if q_12 = (0 : Int32) then Option.bind (fM_in x_6 48 57) (fun q_16 => (if q_16 = (0 : Int32) then (if x_6 = (95 : Int32) then fM_isName_92 rc v1 v3 o0 else fM_isName_96 rc v1 v3 o0) else fM_isName_92 rc v1 v3 o0)) else fM_isName_92 rc v1 v3 o0)) else fM_isName_92 rc v1 v3 o0))))))))
noncomputable def fM_isName_0 (rc : Nat → Int32 → Int32 → Int32 → cf_O → Option (Int32)) (v1 : Int32) (o0 : cf_O) : Option (Int32) :=
  (if v1 < 0 ∨ 801 ≤ v1.toNatClampNeg then none else op_k (o0.2.1 9 v1.toNatClampNeg) (fun x_2 => (if v1 < 0 ∨ 801 ≤ v1.toNatClampNeg then none else op_k (o0.2.1 8 v1.toNatClampNeg) (fun x_4 => op_k (x_2 - x_4) (fun x_5 => Option.bind (fM_in x_5 1 8) (fun q_6 => (if v1 < 0 ∨ 801 ≤ v1.toNatClampNeg then none else op_k (o0.2.1 8 v1.toNatClampNeg) (fun x_10 => rc 0 v1 q_6 x_10 o0))))))))
noncomputable def gM_isName (n : Nat) : Nat → Int32 → Int32 → Int32 → cf_O → Option (Int32) := Nat.rec (motive := fun _ => Nat → Int32 → Int32 → Int32 → cf_O → Option (Int32)) (fun _ _ _ _ _ => none) (fun _ rc => fun k u1i u2i u3i o0 => Nat.rec (motive := fun _ => Option (Int32)) (fM_isName_27 rc u1i u2i u3i o0) (fun k _ => none) k) n
noncomputable def fM_isName (v1 : Int32) (o0 : cf_O) : Option (Int32) := fM_isName_0 (gM_isName cfFU) v1 o0
noncomputable def fM_areNames_38 (rc : Nat → Int32 → Int32 → cf_O → Option (Int32)) (v2 : Int32) (o0 : cf_O) : Option (Int32) :=
  (if ¬ (v2 = 0 ∨ v2 = 1) then none else some v2)
noncomputable def fM_areNames_14 (rc : Nat → Int32 → Int32 → cf_O → Option (Int32)) (v2 : Int32) (v3 : Int32) (o0 : cf_O) : Option (Int32) :=
  (if (o0.1 7) ≤ v3 then fM_areNames_38 rc v2 o0 else (if v2 = (0 : Int32) then fM_areNames_38 rc v2 o0 else Option.bind (fM_isName v3 o0) (fun q_3 => op_k (v3 + 1) (fun x_6 => rc 0 q_3 x_6 o0))))
noncomputable def fM_areNames_0 (rc : Nat → Int32 → Int32 → cf_O → Option (Int32)) (v1 : Int32) (o0 : cf_O) : Option (Int32) :=
  op_k ((o0.1 7) - 1) (fun x_1 => Option.bind (fM_in x_1 1 v1) (fun q_2 => rc 0 q_2 1 o0))
noncomputable def gM_areNames (n : Nat) : Nat → Int32 → Int32 → cf_O → Option (Int32) := Nat.rec (motive := fun _ => Nat → Int32 → Int32 → cf_O → Option (Int32)) (fun _ _ _ _ => none) (fun _ rc => fun k u2i u3i o0 => Nat.rec (motive := fun _ => Option (Int32)) (fM_areNames_14 rc u2i u3i o0) (fun k _ => none) k) n
noncomputable def fM_areNames (v1 : Int32) (o0 : cf_O) : Option (Int32) := fM_areNames_0 (gM_areNames cfFU) v1 o0
noncomputable def fM_alike_67 (rc : Nat → Int32 → Int32 → Int32 → Int32 → Int32 → cf_O → Option (Int32)) (v5 : Int32) (o0 : cf_O) : Option (Int32) :=
  (if ¬ (v5 = 0 ∨ v5 = 1) then none else some v5)
noncomputable def fM_alike_59 (rc : Nat → Int32 → Int32 → Int32 → Int32 → Int32 → cf_O → Option (Int32)) (v1 : Int32) (v2 : Int32) (v3 : Int32) (v6 : Int32) (s0 : Int32) (o0 : cf_O) : Option (Int32) :=
  op_k (v6 + 1) (fun x_1 => rc 0 v1 v2 v3 s0 x_1 o0)
noncomputable def fM_alike_20 (rc : Nat → Int32 → Int32 → Int32 → Int32 → Int32 → cf_O → Option (Int32)) (v1 : Int32) (v2 : Int32) (v3 : Int32) (v5 : Int32) (v6 : Int32) (o0 : cf_O) : Option (Int32) :=
  op_k (v2 - v1) (fun x_1 => (if x_1 ≤ v6 then fM_alike_67 rc v5 o0 else (if v5 = (0 : Int32) then fM_alike_67 rc v5 o0 else op_k (v1 + v6) (fun x_4 => (if x_4 < 0 ∨ 1600 ≤ x_4.toNatClampNeg then none else op_k (o0.2.1 1 x_4.toNatClampNeg) (fun x_6 => op_k (v3 + v6) (fun x_7 => (if x_7 < 0 ∨ 1600 ≤ x_7.toNatClampNeg then none else op_k (o0.2.1 1 x_7.toNatClampNeg) (fun x_9 => (if x_6 = x_9 then fM_alike_59 rc v1 v2 v3 v6 1 o0 else fM_alike_59 rc v1 v2 v3 v6 0 o0))))))))))
noncomputable def fM_alike_15 (rc : Nat → Int32 → Int32 → Int32 → Int32 → Int32 → cf_O → Option (Int32)) (v1 : Int32) (v2 : Int32) (v3 : Int32) (s0 : Int32) (o0 : cf_O) : Option (Int32) :=
  rc 0 v1 v2 v3 s0 0 o0
noncomputable def fM_alike_0 (rc : Nat → Int32 → Int32 → Int32 → Int32 → Int32 → cf_O → Option (Int32)) (v1 : Int32) (v2 : Int32) (v3 : Int32) (v4 : Int32) (o0 : cf_O) : Option (Int32) :=
  op_k (v2 - v1) (fun x_1 => op_k (v4 - v3) (fun x_2 => (if x_1 = x_2 then fM_alike_15 rc v1 v2 v3 1 o0 else fM_alike_15 rc v1 v2 v3 0 o0)))
noncomputable def gM_alike (n : Nat) : Nat → Int32 → Int32 → Int32 → Int32 → Int32 → cf_O → Option (Int32) := Nat.rec (motive := fun _ => Nat → Int32 → Int32 → Int32 → Int32 → Int32 → cf_O → Option (Int32)) (fun _ _ _ _ _ _ _ => none) (fun _ rc => fun k u1i u2i u3i u5i u6i o0 => Nat.rec (motive := fun _ => Option (Int32)) (fM_alike_20 rc u1i u2i u3i u5i u6i o0) (fun k _ => none) k) n
noncomputable def fM_alike (v1 : Int32) (v2 : Int32) (v3 : Int32) (v4 : Int32) (o0 : cf_O) : Option (Int32) := fM_alike_0 (gM_alike cfFU) v1 v2 v3 v4 o0
noncomputable def fM_giver_111 (rc : Nat → Int32 → Int32 → Int32 → Int32 → cf_O → Option (Int32)) (v1 : Int32) (v2 : Int32) (v4 : Int32) (s0 : Int32) (o0 : cf_O) : Option (Int32) :=
  op_k (v4 + 1) (fun x_1 => rc 1 v1 v2 s0 x_1 o0)
noncomputable def fM_giver_53 (rc : Nat → Int32 → Int32 → Int32 → Int32 → cf_O → Option (Int32)) (v1 : Int32) (v2 : Int32) (v3 : Int32) (v4 : Int32) (o0 : cf_O) : Option (Int32) :=
  (if (o0.1 17) ≤ v4 then some v3 else op_k (6 * v4) (fun x_2 => (if v4 < 0 ∨ 31 ≤ v4.toNatClampNeg then none else op_k (o0.2.1 19 v4.toNatClampNeg) (fun x_4 => op_k (x_2 + x_4) (fun x_5 => op_k (x_5 - 1) (fun x_6 => (if x_6 < 0 ∨ 186 ≤ x_6.toNatClampNeg then none else op_k (o0.2.1 20 x_6.toNatClampNeg) (fun x_8 => (if x_6 < 0 ∨ 186 ≤ x_6.toNatClampNeg then none else op_k (o0.2.1 21 x_6.toNatClampNeg) (fun x_10 => Option.bind (fM_alike v1 v2 x_8 x_10 o0) (fun q_11 => (if q_11 = (0 : Int32) then fM_giver_111 rc v1 v2 v4 v3 o0 else op_k (8 + v4) (fun x_15 => fM_giver_111 rc v1 v2 v4 x_15 o0)))))))))))))
noncomputable def fM_giver_43 (rc : Nat → Int32 → Int32 → Int32 → Int32 → cf_O → Option (Int32)) (v1 : Int32) (v2 : Int32) (v4 : Int32) (s0 : Int32) (o0 : cf_O) : Option (Int32) :=
  op_k (v4 + 1) (fun x_1 => rc 0 v1 v2 s0 x_1 o0)
noncomputable def fM_giver_5 (rc : Nat → Int32 → Int32 → Int32 → Int32 → cf_O → Option (Int32)) (v1 : Int32) (v2 : Int32) (v3 : Int32) (v4 : Int32) (o0 : cf_O) : Option (Int32) :=
  (if (o0.1 10) ≤ v4 then rc 1 v1 v2 v3 0 o0 else (if v4 < 0 ∨ 8 ≤ v4.toNatClampNeg then none else op_k (o0.2.1 11 v4.toNatClampNeg) (fun x_3 => (if v4 < 0 ∨ 8 ≤ v4.toNatClampNeg then none else op_k (o0.2.1 12 v4.toNatClampNeg) (fun x_5 => Option.bind (fM_alike v1 v2 x_3 x_5 o0) (fun q_6 => (if q_6 = (0 : Int32) then fM_giver_43 rc v1 v2 v4 v3 o0 else fM_giver_43 rc v1 v2 v4 v4 o0)))))))
noncomputable def fM_giver_0 (rc : Nat → Int32 → Int32 → Int32 → Int32 → cf_O → Option (Int32)) (v1 : Int32) (v2 : Int32) (o0 : cf_O) : Option (Int32) :=
  rc 0 v1 v2 (-1) 0 o0
noncomputable def gM_giver (n : Nat) : Nat → Int32 → Int32 → Int32 → Int32 → cf_O → Option (Int32) := Nat.rec (motive := fun _ => Nat → Int32 → Int32 → Int32 → Int32 → cf_O → Option (Int32)) (fun _ _ _ _ _ _ => none) (fun _ rc => fun k u1i u2i u3i u4i o0 => Nat.rec (motive := fun _ => Option (Int32)) (fM_giver_5 rc u1i u2i u3i u4i o0) (fun k _ => Nat.rec (motive := fun _ => Option (Int32)) (fM_giver_53 rc u1i u2i u3i u4i o0) (fun k _ => none) k) k) n
noncomputable def fM_giver (v1 : Int32) (v2 : Int32) (o0 : cf_O) : Option (Int32) := fM_giver_0 (gM_giver cfFU) v1 v2 o0
noncomputable def fM_hasTwice_59 (rc : Nat → Int32 → Int32 → Int32 → cf_O → Option (Int32)) (v2 : Int32) (v3 : Int32) (s0 : Int32) (o0 : cf_O) : Option (Int32) :=
  op_k (v3 + 1) (fun x_1 => rc 1 s0 v2 x_1 o0)
noncomputable def fM_hasTwice_54 (rc : Nat → Int32 → Int32 → Int32 → cf_O → Option (Int32)) (v2 : Int32) (v3 : Int32) (o0 : cf_O) : Option (Int32) :=
  fM_hasTwice_59 rc v2 v3 1 o0
noncomputable def fM_hasTwice_14 (rc : Nat → Int32 → Int32 → Int32 → cf_O → Option (Int32)) (v1 : Int32) (v2 : Int32) (v3 : Int32) (o0 : cf_O) : Option (Int32) :=
  (if v2 ≤ v3 then op_k (v2 + 1) (fun x_2 => rc 0 v1 x_2 0 o0) else (if v1 = (0 : Int32) then (if v2 < 0 ∨ 801 ≤ v2.toNatClampNeg then none else op_k (o0.2.1 8 v2.toNatClampNeg) (fun x_5 => (if v2 < 0 ∨ 801 ≤ v2.toNatClampNeg then none else op_k (o0.2.1 9 v2.toNatClampNeg) (fun x_7 => (if v3 < 0 ∨ 801 ≤ v3.toNatClampNeg then none else op_k (o0.2.1 8 v3.toNatClampNeg) (fun x_9 => (if v3 < 0 ∨ 801 ≤ v3.toNatClampNeg then none else op_k (o0.2.1 9 v3.toNatClampNeg) (fun x_11 => Option.bind (fM_alike x_5 x_7 x_9 x_11 o0) (fun q_12 => (if q_12 = (0 : Int32) then fM_hasTwice_59 rc v2 v3 0 o0 else fM_hasTwice_54 rc v2 v3 o0)))))))))) else fM_hasTwice_54 rc v2 v3 o0))
noncomputable def fM_hasTwice_4 (rc : Nat → Int32 → Int32 → Int32 → cf_O → Option (Int32)) (v1 : Int32) (v2 : Int32) (o0 : cf_O) : Option (Int32) :=
  (if (o0.1 7) ≤ v2 then (if ¬ (v1 = 0 ∨ v1 = 1) then none else some v1) else rc 1 v1 v2 1 o0)
noncomputable def fM_hasTwice_0 (rc : Nat → Int32 → Int32 → Int32 → cf_O → Option (Int32)) (o0 : cf_O) : Option (Int32) :=
  rc 0 0 1 0 o0
noncomputable def gM_hasTwice (n : Nat) : Nat → Int32 → Int32 → Int32 → cf_O → Option (Int32) := Nat.rec (motive := fun _ => Nat → Int32 → Int32 → Int32 → cf_O → Option (Int32)) (fun _ _ _ _ _ => none) (fun _ rc => fun k u1i u2i u3i o0 => Nat.rec (motive := fun _ => Option (Int32)) (fM_hasTwice_4 rc u1i u2i o0) (fun k _ => Nat.rec (motive := fun _ => Option (Int32)) (fM_hasTwice_14 rc u1i u2i u3i o0) (fun k _ => none) k) k) n
noncomputable def fM_hasTwice (o0 : cf_O) : Option (Int32) := fM_hasTwice_0 (gM_hasTwice cfFU) o0
noncomputable def fM_inputLine_42 (rc : Nat → Int32 → cf_O → Option (cf_O)) (v2 : Int32) (o0 : cf_O) : Option (cf_O) :=
  (if (o0.1 10) ≤ v2 then some o0 else op_k (v2 + 1) (fun x_2 => (if x_2 < 0 ∨ 801 ≤ x_2.toNatClampNeg then none else op_k (o0.2.1 8 x_2.toNatClampNeg) (fun x_4 => (if v2 < 0 ∨ 8 ≤ v2.toNatClampNeg then none else op_k (xp o0 11 v2.toNatClampNeg x_4) (fun o_6 => op_k (v2 + 1) (fun x_7 => (if x_7 < 0 ∨ 801 ≤ x_7.toNatClampNeg then none else op_k (o_6.2.1 9 x_7.toNatClampNeg) (fun x_9 => (if v2 < 0 ∨ 8 ≤ v2.toNatClampNeg then none else op_k (xp o_6 12 v2.toNatClampNeg x_9) (fun o_11 => op_k (v2 + 1) (fun x_12 => rc 0 x_12 o_11))))))))))))
noncomputable def fM_inputLine_0 (rc : Nat → Int32 → cf_O → Option (cf_O)) (v1 : Int32) (o0 : cf_O) : Option (cf_O) :=
  Option.bind (fM_areNames 8 o0) (fun q_1 => (if q_1 = (0 : Int32) then Option.bind (fM_fail 1 v1 o0) (fun q_13 => some q_13) else Option.bind (fM_hasTwice o0) (fun q_5 => (if q_5 = (0 : Int32) then op_k ((o0.1 7) - 1) (fun x_9 => op_k (fp o0 10 x_9) (fun o_10 => rc 0 0 o_10)) else Option.bind (fM_fail 2 v1 o0) (fun q_11 => some q_11)))))
noncomputable def gM_inputLine (n : Nat) : Nat → Int32 → cf_O → Option (cf_O) := Nat.rec (motive := fun _ => Nat → Int32 → cf_O → Option (cf_O)) (fun _ _ _ => none) (fun _ rc => fun k u2i o0 => Nat.rec (motive := fun _ => Option (cf_O)) (fM_inputLine_42 rc u2i o0) (fun k _ => none) k) n
noncomputable def fM_inputLine (v1 : Int32) (o0 : cf_O) : Option (cf_O) := fM_inputLine_0 (gM_inputLine cfFU) v1 o0
noncomputable def fM_outputsLine_47 (rc : Nat → Int32 → cf_O → Option (cf_O)) (v2 : Int32) (o0 : cf_O) : Option (cf_O) :=
  (if (o0.1 13) ≤ v2 then some o0 else op_k (v2 + 1) (fun x_2 => (if x_2 < 0 ∨ 801 ≤ x_2.toNatClampNeg then none else op_k (o0.2.1 8 x_2.toNatClampNeg) (fun x_4 => (if v2 < 0 ∨ 6 ≤ v2.toNatClampNeg then none else op_k (xp o0 14 v2.toNatClampNeg x_4) (fun o_6 => op_k (v2 + 1) (fun x_7 => (if x_7 < 0 ∨ 801 ≤ x_7.toNatClampNeg then none else op_k (o_6.2.1 9 x_7.toNatClampNeg) (fun x_9 => (if v2 < 0 ∨ 6 ≤ v2.toNatClampNeg then none else op_k (xp o_6 15 v2.toNatClampNeg x_9) (fun o_11 => op_k (v2 + 1) (fun x_12 => rc 0 x_12 o_11))))))))))))
noncomputable def fM_outputsLine_0 (rc : Nat → Int32 → cf_O → Option (cf_O)) (v1 : Int32) (o0 : cf_O) : Option (cf_O) :=
  Option.bind (fM_areNames 6 o0) (fun q_1 => (if q_1 = (0 : Int32) then Option.bind (fM_fail 1 v1 o0) (fun q_14 => some q_14) else Option.bind (fM_hasTwice o0) (fun q_5 => (if q_5 = (0 : Int32) then op_k (fp o0 16 v1) (fun o_9 => op_k ((o_9.1 7) - 1) (fun x_10 => op_k (fp o_9 13 x_10) (fun o_11 => rc 0 0 o_11))) else Option.bind (fM_fail 2 v1 o0) (fun q_12 => some q_12)))))
noncomputable def gM_outputsLine (n : Nat) : Nat → Int32 → cf_O → Option (cf_O) := Nat.rec (motive := fun _ => Nat → Int32 → cf_O → Option (cf_O)) (fun _ _ _ => none) (fun _ rc => fun k u2i o0 => Nat.rec (motive := fun _ => Option (cf_O)) (fM_outputsLine_47 rc u2i o0) (fun k _ => none) k) n
noncomputable def fM_outputsLine (v1 : Int32) (o0 : cf_O) : Option (cf_O) := fM_outputsLine_0 (gM_outputsLine cfFU) v1 o0
noncomputable def fM_tableLine_94 (rc : Nat → Int32 → Int32 → cf_O → Option (cf_O)) (v2 : Int32) (v3 : Int32) (o0 : cf_O) : Option (cf_O) :=
  op_k ((o0.1 7) - 1) (fun x_1 => (if x_1 ≤ v3 then op_k ((o0.1 17) + 1) (fun x_3 => op_k (fp o0 17 x_3) (fun o_4 => some o_4)) else op_k (6 * v2) (fun x_5 => op_k (x_5 + v3) (fun x_6 => op_k (v3 + 1) (fun x_7 => (if x_7 < 0 ∨ 801 ≤ x_7.toNatClampNeg then none else op_k (o0.2.1 8 x_7.toNatClampNeg) (fun x_9 => (if x_6 < 0 ∨ 186 ≤ x_6.toNatClampNeg then none else op_k (xp o0 20 x_6.toNatClampNeg x_9) (fun o_11 => op_k (6 * v2) (fun x_12 => op_k (x_12 + v3) (fun x_13 => op_k (v3 + 1) (fun x_14 => (if x_14 < 0 ∨ 801 ≤ x_14.toNatClampNeg then none else op_k (o_11.2.1 9 x_14.toNatClampNeg) (fun x_16 => (if x_13 < 0 ∨ 186 ≤ x_13.toNatClampNeg then none else op_k (xp o_11 21 x_13.toNatClampNeg x_16) (fun o_18 => op_k (v3 + 1) (fun x_19 => rc 0 v2 x_19 o_18)))))))))))))))))
noncomputable def fM_tableLine_18 (rc : Nat → Int32 → Int32 → cf_O → Option (cf_O)) (v1 : Int32) (o0 : cf_O) : Option (cf_O) :=
  Option.bind (fM_fail 1 v1 o0) (fun q_1 => some q_1)
noncomputable def fM_tableLine_0 (rc : Nat → Int32 → Int32 → cf_O → Option (cf_O)) (v1 : Int32) (o0 : cf_O) : Option (cf_O) :=
  Option.bind (fM_areNames 6 o0) (fun q_1 => (if q_1 = (0 : Int32) then fM_tableLine_18 rc v1 o0 else (if (o0.1 17) = (30 : Int32) then fM_tableLine_18 rc v1 o0 else op_k ((o0.1 7) - 1) (fun x_6 => (if x_6 < 0 ∨ 801 ≤ x_6.toNatClampNeg then none else op_k (o0.2.1 8 x_6.toNatClampNeg) (fun x_8 => op_k ((o0.1 7) - 1) (fun x_9 => (if x_9 < 0 ∨ 801 ≤ x_9.toNatClampNeg then none else op_k (o0.2.1 9 x_9.toNatClampNeg) (fun x_11 => Option.bind (fM_giver x_8 x_11 o0) (fun q_12 => (if q_12 < (0 : Int32) then (if (o0.1 17) < 0 ∨ 31 ≤ (o0.1 17).toNatClampNeg then none else op_k (xp o0 18 (o0.1 17).toNatClampNeg v1) (fun o_17 => op_k ((o_17.1 7) - 1) (fun x_18 => (if (o0.1 17) < 0 ∨ 31 ≤ (o0.1 17).toNatClampNeg then none else op_k (xp o_17 19 (o0.1 17).toNatClampNeg x_18) (fun o_20 => (if (o0.1 17) < 0 ∨ 31 ≤ (o0.1 17).toNatClampNeg then none else op_k (xp o_20 22 (o0.1 17).toNatClampNeg 0) (fun o_22 => rc 0 (o0.1 17) 0 o_22))))))) else Option.bind (fM_fail 2 v1 o0) (fun q_23 => some q_23))))))))))))
noncomputable def gM_tableLine (n : Nat) : Nat → Int32 → Int32 → cf_O → Option (cf_O) := Nat.rec (motive := fun _ => Nat → Int32 → Int32 → cf_O → Option (cf_O)) (fun _ _ _ _ => none) (fun _ rc => fun k u2i u3i o0 => Nat.rec (motive := fun _ => Option (cf_O)) (fM_tableLine_94 rc u2i u3i o0) (fun k _ => none) k) n
noncomputable def fM_tableLine (v1 : Int32) (o0 : cf_O) : Option (cf_O) := fM_tableLine_0 (gM_tableLine cfFU) v1 o0
noncomputable def fM_rowLine_324 (rc : Nat → Int32 → Int32 → Int32 → Int32 → Int32 → Int32 → cf_O → Option (cf_O)) (v2 : Int32) (s1 : Int32) (s2 : Int32) (o0 : cf_O) : Option (cf_O) :=
  (if s1 < 0 ∨ 31 ≤ s1.toNatClampNeg then none else op_k (xp o0 24 s1.toNatClampNeg (vp_nar .boolean s2)) (fun o_2 => op_k (16 * v2) (fun x_3 => (if v2 < 0 ∨ 31 ≤ v2.toNatClampNeg then none else op_k (o_2.2.1 22 v2.toNatClampNeg) (fun x_5 => op_k (x_3 + x_5) (fun x_6 => (if (0 : Int32) < 0 ∨ 801 ≤ (0 : Int32).toNatClampNeg then none else op_k (o_2.2.1 8 (0 : Int32).toNatClampNeg) (fun x_8 => (if x_6 < 0 ∨ 496 ≤ x_6.toNatClampNeg then none else op_k (xp o_2 23 x_6.toNatClampNeg x_8) (fun o_10 => (if v2 < 0 ∨ 31 ≤ v2.toNatClampNeg then none else op_k (o_10.2.1 22 v2.toNatClampNeg) (fun x_12 => op_k (x_12 + 1) (fun x_13 => (if v2 < 0 ∨ 31 ≤ v2.toNatClampNeg then none else op_k (xp o_10 22 v2.toNatClampNeg x_13) (fun o_15 => some o_15)))))))))))))))
noncomputable def fM_rowLine_283 (rc : Nat → Int32 → Int32 → Int32 → Int32 → Int32 → Int32 → cf_O → Option (cf_O)) (v1 : Int32) (v2 : Int32) (v5 : Int32) (s0 : Int32) (o0 : cf_O) : Option (cf_O) :=
  (if s0 = (0 : Int32) then Option.bind (fM_fail 1 v1 o0) (fun q_7 => some q_7) else (if v5 < 0 ∨ 801 ≤ v5.toNatClampNeg then none else op_k (o0.2.1 8 v5.toNatClampNeg) (fun x_3 => (if x_3 < 0 ∨ 1600 ≤ x_3.toNatClampNeg then none else op_k (o0.2.1 1 x_3.toNatClampNeg) (fun x_5 => (if x_5 = (49 : Int32) then fM_rowLine_324 rc v2 v2 1 o0 else fM_rowLine_324 rc v2 v2 0 o0))))))
noncomputable def fM_rowLine_282 (rc : Nat → Int32 → Int32 → Int32 → Int32 → Int32 → Int32 → cf_O → Option (cf_O)) (v1 : Int32) (v2 : Int32) (v5 : Int32) (o0 : cf_O) : Option (cf_O) :=
  fM_rowLine_283 rc v1 v2 v5 0 o0
noncomputable def fM_rowLine_278 (rc : Nat → Int32 → Int32 → Int32 → Int32 → Int32 → Int32 → cf_O → Option (cf_O)) (v1 : Int32) (v2 : Int32) (v5 : Int32) (o0 : cf_O) : Option (cf_O) :=
  fM_rowLine_283 rc v1 v2 v5 1 o0
noncomputable def fM_rowLine_275 (rc : Nat → Int32 → Int32 → Int32 → Int32 → Int32 → Int32 → cf_O → Option (cf_O)) (v1 : Int32) (v2 : Int32) (v5 : Int32) (s0 : Int32) (s1 : Int32) (o0 : cf_O) : Option (cf_O) :=
  (if s0 = s1 then fM_rowLine_278 rc v1 v2 v5 o0 else fM_rowLine_282 rc v1 v2 v5 o0)
noncomputable def fM_rowLine_233 (rc : Nat → Int32 → Int32 → Int32 → Int32 → Int32 → Int32 → cf_O → Option (cf_O)) (v1 : Int32) (v2 : Int32) (v4 : Int32) (v5 : Int32) (o0 : cf_O) : Option (cf_O) :=
  (if v4 = (0 : Int32) then fM_rowLine_282 rc v1 v2 v5 o0 else (if v2 < 0 ∨ 31 ≤ v2.toNatClampNeg then none else op_k (o0.2.1 22 v2.toNatClampNeg) (fun x_3 => (if x_3 = (0 : Int32) then fM_rowLine_278 rc v1 v2 v5 o0 else (if v2 < 0 ∨ 31 ≤ v2.toNatClampNeg then none else op_k (o0.2.1 24 v2.toNatClampNeg) (fun x_6 => (if v5 < 0 ∨ 801 ≤ v5.toNatClampNeg then none else op_k (o0.2.1 8 v5.toNatClampNeg) (fun x_8 => (if x_8 < 0 ∨ 1600 ≤ x_8.toNatClampNeg then none else op_k (o0.2.1 1 x_8.toNatClampNeg) (fun x_10 => (if x_10 = (49 : Int32) then fM_rowLine_275 rc v1 v2 v5 x_6 1 o0 else fM_rowLine_275 rc v1 v2 v5 x_6 0 o0)))))))))))
noncomputable def fM_rowLine_225 (rc : Nat → Int32 → Int32 → Int32 → Int32 → Int32 → Int32 → cf_O → Option (cf_O)) (v1 : Int32) (v2 : Int32) (v3 : Int32) (v5 : Int32) (v6 : Int32) (s0 : Int32) (o0 : cf_O) : Option (cf_O) :=
  op_k (v6 + 1) (fun x_1 => rc 0 v1 v2 v3 s0 v5 x_1 o0)
noncomputable def fM_rowLine_220 (rc : Nat → Int32 → Int32 → Int32 → Int32 → Int32 → Int32 → cf_O → Option (cf_O)) (v1 : Int32) (v2 : Int32) (v3 : Int32) (v5 : Int32) (v6 : Int32) (o0 : cf_O) : Option (cf_O) :=
  fM_rowLine_225 rc v1 v2 v3 v5 v6 1 o0
noncomputable def fM_rowLine_164 (rc : Nat → Int32 → Int32 → Int32 → Int32 → Int32 → Int32 → cf_O → Option (cf_O)) (v1 : Int32) (v2 : Int32) (v3 : Int32) (v4 : Int32) (v5 : Int32) (v6 : Int32) (o0 : cf_O) : Option (cf_O) :=
  (if (0 : Int32) < 0 ∨ 801 ≤ (0 : Int32).toNatClampNeg then none else op_k (o0.2.1 9 (0 : Int32).toNatClampNeg) (fun x_2 => (if x_2 ≤ v6 then fM_rowLine_233 rc v1 v2 v4 v5 o0 else (if v4 = (0 : Int32) then fM_rowLine_233 rc v1 v2 v4 v5 o0 else (if v3 ≤ (0 : Int32) then fM_rowLine_233 rc v1 v2 v4 v5 o0 else (if v6 < 0 ∨ 1600 ≤ v6.toNatClampNeg then none else op_k (o0.2.1 1 v6.toNatClampNeg) (fun x_7 => (if x_7 = (48 : Int32) then fM_rowLine_220 rc v1 v2 v3 v5 v6 o0 else (if v6 < 0 ∨ 1600 ≤ v6.toNatClampNeg then none else op_k (o0.2.1 1 v6.toNatClampNeg) (fun x_10 => (if x_10 = (49 : Int32) then fM_rowLine_220 rc v1 v2 v3 v5 v6 o0 else (if v6 < 0 ∨ 1600 ≤ v6.toNatClampNeg then none else op_k (o0.2.1 1 v6.toNatClampNeg) (fun x_13 => (if x_13 = (45 : Int32) then fM_rowLine_220 rc v1 v2 v3 v5 v6 o0 else fM_rowLine_225 rc v1 v2 v3 v5 v6 0 o0))))))))))))))
noncomputable def fM_rowLine_154 (rc : Nat → Int32 → Int32 → Int32 → Int32 → Int32 → Int32 → cf_O → Option (cf_O)) (v1 : Int32) (v2 : Int32) (v3 : Int32) (v5 : Int32) (s0 : Int32) (o0 : cf_O) : Option (cf_O) :=
  (if (0 : Int32) < 0 ∨ 801 ≤ (0 : Int32).toNatClampNeg then none else op_k (o0.2.1 8 (0 : Int32).toNatClampNeg) (fun x_2 => rc 0 v1 v2 v3 s0 v5 x_2 o0))
noncomputable def fM_rowLine_153 (rc : Nat → Int32 → Int32 → Int32 → Int32 → Int32 → Int32 → cf_O → Option (cf_O)) (v1 : Int32) (v2 : Int32) (v3 : Int32) (v5 : Int32) (o0 : cf_O) : Option (cf_O) :=
  fM_rowLine_154 rc v1 v2 v3 v5 0 o0
noncomputable def fM_rowLine_149 (rc : Nat → Int32 → Int32 → Int32 → Int32 → Int32 → Int32 → cf_O → Option (cf_O)) (v1 : Int32) (v2 : Int32) (v3 : Int32) (v5 : Int32) (o0 : cf_O) : Option (cf_O) :=
  fM_rowLine_154 rc v1 v2 v3 v5 1 o0
noncomputable def fM_rowLine_121 (rc : Nat → Int32 → Int32 → Int32 → Int32 → Int32 → Int32 → cf_O → Option (cf_O)) (v1 : Int32) (v2 : Int32) (v3 : Int32) (v5 : Int32) (s0 : Int32) (o0 : cf_O) : Option (cf_O) :=
  (if s0 = (0 : Int32) then fM_rowLine_153 rc v1 v2 v3 v5 o0 else (if v3 = (0 : Int32) then fM_rowLine_149 rc v1 v2 v3 v5 o0 else (if (0 : Int32) < 0 ∨ 801 ≤ (0 : Int32).toNatClampNeg then none else op_k (o0.2.1 9 (0 : Int32).toNatClampNeg) (fun x_4 => (if (0 : Int32) < 0 ∨ 801 ≤ (0 : Int32).toNatClampNeg then none else op_k (o0.2.1 8 (0 : Int32).toNatClampNeg) (fun x_6 => op_k (x_4 - x_6) (fun x_7 => (if x_7 = v3 then fM_rowLine_149 rc v1 v2 v3 v5 o0 else fM_rowLine_153 rc v1 v2 v3 v5 o0))))))))
noncomputable def fM_rowLine_120 (rc : Nat → Int32 → Int32 → Int32 → Int32 → Int32 → Int32 → cf_O → Option (cf_O)) (v1 : Int32) (v2 : Int32) (v3 : Int32) (v5 : Int32) (o0 : cf_O) : Option (cf_O) :=
  fM_rowLine_121 rc v1 v2 v3 v5 0 o0
noncomputable def fM_rowLine_60 (rc : Nat → Int32 → Int32 → Int32 → Int32 → Int32 → Int32 → cf_O → Option (cf_O)) (v1 : Int32) (v2 : Int32) (v3 : Int32) (s0 : Int32) (o0 : cf_O) : Option (cf_O) :=
  op_k ((o0.1 7) - 1) (fun x_1 => (if s0 = (0 : Int32) then fM_rowLine_120 rc v1 v2 v3 x_1 o0 else (if x_1 < 0 ∨ 801 ≤ x_1.toNatClampNeg then none else op_k (o0.2.1 9 x_1.toNatClampNeg) (fun x_4 => (if x_1 < 0 ∨ 801 ≤ x_1.toNatClampNeg then none else op_k (o0.2.1 8 x_1.toNatClampNeg) (fun x_6 => op_k (x_4 - x_6) (fun x_7 => (if x_7 = (1 : Int32) then (if x_1 < 0 ∨ 801 ≤ x_1.toNatClampNeg then none else op_k (o0.2.1 8 x_1.toNatClampNeg) (fun x_10 => (if x_10 < 0 ∨ 1600 ≤ x_10.toNatClampNeg then none else op_k (o0.2.1 1 x_10.toNatClampNeg) (fun x_12 => Option.bind (fM_in x_12 48 49) (fun q_13 => (if q_13 = (0 : Int32) then fM_rowLine_120 rc v1 v2 v3 x_1 o0 else fM_rowLine_121 rc v1 v2 v3 x_1 1 o0)))))) else fM_rowLine_120 rc v1 v2 v3 x_1 o0))))))))
noncomputable def fM_rowLine_59 (rc : Nat → Int32 → Int32 → Int32 → Int32 → Int32 → Int32 → cf_O → Option (cf_O)) (v1 : Int32) (v2 : Int32) (v3 : Int32) (o0 : cf_O) : Option (cf_O) :=
  fM_rowLine_60 rc v1 v2 v3 0 o0
noncomputable def fM_rowLine_52 (rc : Nat → Int32 → Int32 → Int32 → Int32 → Int32 → Int32 → cf_O → Option (cf_O)) (v1 : Int32) (v2 : Int32) (v3 : Int32) (s0 : Int32) (s1 : Int32) (o0 : cf_O) : Option (cf_O) :=
  (if s0 = s1 then fM_rowLine_60 rc v1 v2 v3 1 o0 else fM_rowLine_59 rc v1 v2 v3 o0)
noncomputable def fM_rowLine_23 (rc : Nat → Int32 → Int32 → Int32 → Int32 → Int32 → Int32 → cf_O → Option (cf_O)) (v1 : Int32) (v2 : Int32) (s0 : Int32) (o0 : cf_O) : Option (cf_O) :=
  (if v2 < (0 : Int32) then fM_rowLine_59 rc v1 v2 s0 o0 else (if v2 < 0 ∨ 31 ≤ v2.toNatClampNeg then none else op_k (o0.2.1 22 v2.toNatClampNeg) (fun x_3 => (if (16 : Int32) ≤ x_3 then fM_rowLine_59 rc v1 v2 s0 o0 else (if s0 ≤ (0 : Int32) then fM_rowLine_52 rc v1 v2 s0 (o0.1 7) 1 o0 else fM_rowLine_52 rc v1 v2 s0 (o0.1 7) 2 o0)))))
noncomputable def fM_rowLine_0 (rc : Nat → Int32 → Int32 → Int32 → Int32 → Int32 → Int32 → cf_O → Option (cf_O)) (v1 : Int32) (o0 : cf_O) : Option (cf_O) :=
  op_k ((o0.1 17) - 1) (fun x_1 => (if (0 : Int32) ≤ x_1 then (if x_1 < 0 ∨ 31 ≤ x_1.toNatClampNeg then none else op_k (o0.2.1 19 x_1.toNatClampNeg) (fun x_4 => op_k (x_4 - 1) (fun x_5 => fM_rowLine_23 rc v1 x_1 x_5 o0))) else fM_rowLine_23 rc v1 x_1 0 o0))
noncomputable def gM_rowLine (n : Nat) : Nat → Int32 → Int32 → Int32 → Int32 → Int32 → Int32 → cf_O → Option (cf_O) := Nat.rec (motive := fun _ => Nat → Int32 → Int32 → Int32 → Int32 → Int32 → Int32 → cf_O → Option (cf_O)) (fun _ _ _ _ _ _ _ _ => none) (fun _ rc => fun k u1i u2i u3i u4i u5i u6i o0 => Nat.rec (motive := fun _ => Option (cf_O)) (fM_rowLine_164 rc u1i u2i u3i u4i u5i u6i o0) (fun k _ => none) k) n
noncomputable def fM_rowLine (v1 : Int32) (o0 : cf_O) : Option (cf_O) := fM_rowLine_0 (gM_rowLine cfFU) v1 o0
noncomputable def fM_readLines_238 (rc : Nat → Int32 → Int32 → Int32 → cf_O → Option (cf_O)) (o0 : cf_O) : Option (cf_O) :=
  some o0
noncomputable def fM_readLines_227 (rc : Nat → Int32 → Int32 → Int32 → cf_O → Option (cf_O)) (v1 : Int32) (v2 : Int32) (o0 : cf_O) : Option (cf_O) :=
  (if (3 : Int32) ≤ v1 then fM_readLines_238 rc o0 else Option.bind (fM_fail 1 v2 o0) (fun q_2 => fM_readLines_238 rc q_2))
noncomputable def fM_readLines_216 (rc : Nat → Int32 → Int32 → Int32 → cf_O → Option (cf_O)) (v1 : Int32) (v2 : Int32) (v4 : Int32) (o0 : cf_O) : Option (cf_O) :=
  op_k (v4 + 1) (fun x_1 => op_k (v2 + 1) (fun x_2 => rc 0 v1 x_2 x_1 o0))
noncomputable def fM_readLines_205 (rc : Nat → Int32 → Int32 → Int32 → cf_O → Option (cf_O)) (v1 : Int32) (v2 : Int32) (v4 : Int32) (v6 : Int32) (o0 : cf_O) : Option (cf_O) :=
  (if v6 = (0 : Int32) then Option.bind (fM_fail 1 v2 o0) (fun q_2 => fM_readLines_216 rc v1 v2 v4 q_2) else fM_readLines_216 rc v1 v2 v4 o0)
noncomputable def fM_readLines_182 (rc : Nat → Int32 → Int32 → Int32 → cf_O → Option (cf_O)) (v1 : Int32) (v2 : Int32) (v4 : Int32) (v5 : Int32) (v6 : Int32) (o0 : cf_O) : Option (cf_O) :=
  (if v6 = (0 : Int32) then (if v1 = (2 : Int32) then (if (0 : Int32) ≤ v5 then fM_readLines_205 rc v1 v2 v4 v6 o0 else Option.bind (fM_rowLine v2 o0) (fun q_4 => fM_readLines_216 rc v1 v2 v4 q_4)) else fM_readLines_205 rc v1 v2 v4 v6 o0) else fM_readLines_205 rc v1 v2 v4 v6 o0)
noncomputable def fM_readLines_153 (rc : Nat → Int32 → Int32 → Int32 → cf_O → Option (cf_O)) (v1 : Int32) (v2 : Int32) (v4 : Int32) (v5 : Int32) (v6 : Int32) (o0 : cf_O) : Option (cf_O) :=
  (if v6 = (0 : Int32) then (if v1 = (2 : Int32) then (if v5 = (3 : Int32) then (if (o0.1 7) = (1 : Int32) then fM_readLines_216 rc 3 v2 v4 o0 else fM_readLines_182 rc v1 v2 v4 v5 v6 o0) else fM_readLines_182 rc v1 v2 v4 v5 v6 o0) else fM_readLines_182 rc v1 v2 v4 v5 v6 o0) else fM_readLines_182 rc v1 v2 v4 v5 v6 o0)
noncomputable def fM_readLines_129 (rc : Nat → Int32 → Int32 → Int32 → cf_O → Option (cf_O)) (v1 : Int32) (v2 : Int32) (v4 : Int32) (v5 : Int32) (v6 : Int32) (o0 : cf_O) : Option (cf_O) :=
  (if v6 = (0 : Int32) then (if v1 = (2 : Int32) then (if v5 = (2 : Int32) then Option.bind (fM_tableLine v2 o0) (fun q_4 => fM_readLines_216 rc v1 v2 v4 q_4) else fM_readLines_153 rc v1 v2 v4 v5 v6 o0) else fM_readLines_153 rc v1 v2 v4 v5 v6 o0) else fM_readLines_153 rc v1 v2 v4 v5 v6 o0)
noncomputable def fM_readLines_103 (rc : Nat → Int32 → Int32 → Int32 → cf_O → Option (cf_O)) (v1 : Int32) (v2 : Int32) (v4 : Int32) (v5 : Int32) (v6 : Int32) (o0 : cf_O) : Option (cf_O) :=
  (if v6 = (0 : Int32) then (if v1 = (1 : Int32) then (if v5 = (1 : Int32) then Option.bind (fM_outputsLine v2 o0) (fun q_4 => fM_readLines_216 rc 2 v2 v4 q_4) else fM_readLines_129 rc v1 v2 v4 v5 v6 o0) else fM_readLines_129 rc v1 v2 v4 v5 v6 o0) else fM_readLines_129 rc v1 v2 v4 v5 v6 o0)
noncomputable def fM_readLines_77 (rc : Nat → Int32 → Int32 → Int32 → cf_O → Option (cf_O)) (v1 : Int32) (v2 : Int32) (v4 : Int32) (v5 : Int32) (s0 : Int32) (o0 : cf_O) : Option (cf_O) :=
  (if s0 = (0 : Int32) then (if v1 = (0 : Int32) then (if v5 = (0 : Int32) then Option.bind (fM_inputLine v2 o0) (fun q_4 => fM_readLines_216 rc 1 v2 v4 q_4) else fM_readLines_103 rc v1 v2 v4 v5 s0 o0) else fM_readLines_103 rc v1 v2 v4 v5 s0 o0) else fM_readLines_103 rc v1 v2 v4 v5 s0 o0)
noncomputable def fM_readLines_63 (rc : Nat → Int32 → Int32 → Int32 → cf_O → Option (cf_O)) (v1 : Int32) (v2 : Int32) (v4 : Int32) (s0 : Int32) (o0 : cf_O) : Option (cf_O) :=
  (if (o0.1 7) = (0 : Int32) then fM_readLines_77 rc v1 v2 v4 s0 1 o0 else fM_readLines_77 rc v1 v2 v4 s0 0 o0)
noncomputable def fM_readLines_26 (rc : Nat → Int32 → Int32 → Int32 → cf_O → Option (cf_O)) (v1 : Int32) (v2 : Int32) (v3 : Int32) (o0 : cf_O) : Option (cf_O) :=
  (if (o0.1 2) < v3 then fM_readLines_227 rc v1 v2 o0 else (if (o0.1 5) = (0 : Int32) then Option.bind (fM_takeLine v3 o0) (fun q_3 => (if (q_3.2.1 7) ≤ (0 : Int32) then fM_readLines_63 rc v1 v2 q_3.1 (-1) q_3.2 else Option.bind (fM_firstWord q_3.2) (fun q_7 => fM_readLines_63 rc v1 v2 q_3.1 q_7 q_3.2))) else fM_readLines_227 rc v1 v2 o0))
noncomputable def fM_readLines_0 (rc : Nat → Int32 → Int32 → Int32 → cf_O → Option (cf_O)) (o0 : cf_O) : Option (cf_O) :=
  op_k (fp o0 5 0) (fun o_1 => op_k (fp o_1 6 (-1)) (fun o_2 => op_k (fp o_2 10 0) (fun o_3 => op_k (fp o_3 17 0) (fun o_4 => rc 0 0 0 0 o_4))))
noncomputable def gM_readLines (n : Nat) : Nat → Int32 → Int32 → Int32 → cf_O → Option (cf_O) := Nat.rec (motive := fun _ => Nat → Int32 → Int32 → Int32 → cf_O → Option (cf_O)) (fun _ _ _ _ _ => none) (fun _ rc => fun k u1i u2i u3i o0 => Nat.rec (motive := fun _ => Option (cf_O)) (fM_readLines_26 rc u1i u2i u3i o0) (fun k _ => none) k) n
noncomputable def fM_readLines (o0 : cf_O) : Option (cf_O) := fM_readLines_0 (gM_readLines cfFU) o0
noncomputable def fM_link_159 (rc : Nat → Int32 → Int32 → Int32 → cf_O → Option (cf_O)) (o0 : cf_O) : Option (cf_O) :=
  some o0
noncomputable def fM_link_136 (rc : Nat → Int32 → Int32 → Int32 → cf_O → Option (cf_O)) (v2 : Int32) (v3 : Int32) (s0 : Int32) (o0 : cf_O) : Option (cf_O) :=
  op_k (v3 + 1) (fun x_1 => rc 2 s0 v2 x_1 o0)
noncomputable def fM_link_135 (rc : Nat → Int32 → Int32 → Int32 → cf_O → Option (cf_O)) (v1 : Int32) (v2 : Int32) (v3 : Int32) (o0 : cf_O) : Option (cf_O) :=
  fM_link_136 rc v2 v3 v1 o0
noncomputable def fM_link_59 (rc : Nat → Int32 → Int32 → Int32 → cf_O → Option (cf_O)) (v1 : Int32) (v2 : Int32) (v3 : Int32) (o0 : cf_O) : Option (cf_O) :=
  op_k (v3 + 1) (fun x_1 => (if v2 < 0 ∨ 31 ≤ v2.toNatClampNeg then none else op_k (o0.2.1 19 v2.toNatClampNeg) (fun x_3 => (if x_3 ≤ x_1 then op_k (v2 + 1) (fun x_5 => rc 1 v1 x_5 0 o0) else op_k (6 * v2) (fun x_6 => op_k (x_6 + v3) (fun x_7 => op_k (6 * v2) (fun x_8 => op_k (x_8 + v3) (fun x_9 => (if x_9 < 0 ∨ 186 ≤ x_9.toNatClampNeg then none else op_k (o0.2.1 20 x_9.toNatClampNeg) (fun x_11 => op_k (6 * v2) (fun x_12 => op_k (x_12 + v3) (fun x_13 => (if x_13 < 0 ∨ 186 ≤ x_13.toNatClampNeg then none else op_k (o0.2.1 21 x_13.toNatClampNeg) (fun x_15 => Option.bind (fM_giver x_11 x_15 o0) (fun q_16 => (if x_7 < 0 ∨ 186 ≤ x_7.toNatClampNeg then none else op_k (xp o0 25 x_7.toNatClampNeg q_16) (fun o_20 => op_k (6 * v2) (fun x_21 => op_k (x_21 + v3) (fun x_22 => (if x_22 < 0 ∨ 186 ≤ x_22.toNatClampNeg then none else op_k (o_20.2.1 25 x_22.toNatClampNeg) (fun x_24 => (if (0 : Int32) ≤ x_24 then fM_link_135 rc v1 v2 v3 o_20 else (if (0 : Int32) ≤ v1 then fM_link_135 rc v1 v2 v3 o_20 else (if v2 < 0 ∨ 31 ≤ v2.toNatClampNeg then none else op_k (o_20.2.1 18 v2.toNatClampNeg) (fun x_28 => fM_link_136 rc v2 v3 x_28 o_20)))))))))))))))))))))))))
noncomputable def fM_link_49 (rc : Nat → Int32 → Int32 → Int32 → cf_O → Option (cf_O)) (v1 : Int32) (v2 : Int32) (o0 : cf_O) : Option (cf_O) :=
  (if (o0.1 17) ≤ v2 then (if v1 < (0 : Int32) then fM_link_159 rc o0 else Option.bind (fM_fail 3 v1 o0) (fun q_3 => fM_link_159 rc q_3)) else rc 2 v1 v2 0 o0)
noncomputable def fM_link_40 (rc : Nat → Int32 → Int32 → Int32 → cf_O → Option (cf_O)) (v2 : Int32) (s0 : Int32) (o0 : cf_O) : Option (cf_O) :=
  op_k (v2 + (-1)) (fun x_1 => rc 0 s0 x_1 0 o0)
noncomputable def fM_link_9 (rc : Nat → Int32 → Int32 → Int32 → cf_O → Option (cf_O)) (v1 : Int32) (v2 : Int32) (o0 : cf_O) : Option (cf_O) :=
  (if v2 < (0 : Int32) then rc 1 v1 0 0 o0 else (if v2 < 0 ∨ 6 ≤ v2.toNatClampNeg then none else op_k (o0.2.1 14 v2.toNatClampNeg) (fun x_3 => (if v2 < 0 ∨ 6 ≤ v2.toNatClampNeg then none else op_k (o0.2.1 15 v2.toNatClampNeg) (fun x_5 => Option.bind (fM_giver x_3 x_5 o0) (fun q_6 => (if (0 : Int32) ≤ q_6 then fM_link_40 rc v2 v1 o0 else fM_link_40 rc v2 (o0.1 16) o0)))))))
noncomputable def fM_link_0 (rc : Nat → Int32 → Int32 → Int32 → cf_O → Option (cf_O)) (o0 : cf_O) : Option (cf_O) :=
  op_k ((o0.1 13) - 1) (fun x_1 => rc 0 (-1) x_1 0 o0)
noncomputable def gM_link (n : Nat) : Nat → Int32 → Int32 → Int32 → cf_O → Option (cf_O) := Nat.rec (motive := fun _ => Nat → Int32 → Int32 → Int32 → cf_O → Option (cf_O)) (fun _ _ _ _ _ => none) (fun _ rc => fun k u1i u2i u3i o0 => Nat.rec (motive := fun _ => Option (cf_O)) (fM_link_9 rc u1i u2i o0) (fun k _ => Nat.rec (motive := fun _ => Option (cf_O)) (fM_link_49 rc u1i u2i o0) (fun k _ => Nat.rec (motive := fun _ => Option (cf_O)) (fM_link_59 rc u1i u2i u3i o0) (fun k _ => none) k) k) k) n
noncomputable def fM_link (o0 : cf_O) : Option (cf_O) := fM_link_0 (gM_link cfFU) o0
noncomputable def fM_turns_113 (rc : Nat → Int32 → Int32 → Int32 → Int32 → cf_O → Option (Int32 × cf_O)) (v1 : Int32) (v2 : Int32) (v3 : Int32) (v4 : Int32) (o0 : cf_O) : Option (Int32 × cf_O) :=
  op_k (v4 + 1) (fun x_1 => rc 3 v1 v2 v3 x_1 o0)
noncomputable def fM_turns_88 (rc : Nat → Int32 → Int32 → Int32 → Int32 → cf_O → Option (Int32 × cf_O)) (v1 : Int32) (v2 : Int32) (v3 : Int32) (v4 : Int32) (v5 : Int32) (o0 : cf_O) : Option (Int32 × cf_O) :=
  (if v5 < (0 : Int32) then fM_turns_113 rc v1 v2 v3 v4 o0 else (if v5 < 0 ∨ 31 ≤ v5.toNatClampNeg then none else op_k (o0.2.1 28 v5.toNatClampNeg) (fun x_3 => (if x_3 = (0 : Int32) then (if v5 < 0 ∨ 31 ≤ v5.toNatClampNeg then none else op_k (xp o0 28 v5.toNatClampNeg (vp_nar .boolean 1)) (fun o_6 => fM_turns_113 rc v1 1 v3 v4 o_6)) else fM_turns_113 rc v1 v2 v3 v4 o0))))
noncomputable def fM_turns_44 (rc : Nat → Int32 → Int32 → Int32 → Int32 → cf_O → Option (Int32 × cf_O)) (v1 : Int32) (v2 : Int32) (v3 : Int32) (v4 : Int32) (o0 : cf_O) : Option (Int32 × cf_O) :=
  op_k (v4 + 1) (fun x_1 => (if v3 < 0 ∨ 31 ≤ v3.toNatClampNeg then none else op_k (o0.2.1 19 v3.toNatClampNeg) (fun x_3 => (if x_3 ≤ x_1 then op_k (v3 + 1) (fun x_5 => rc 2 v1 v2 x_5 0 o0) else op_k (6 * v3) (fun x_6 => op_k (x_6 + v4) (fun x_7 => (if x_7 < 0 ∨ 186 ≤ x_7.toNatClampNeg then none else op_k (o0.2.1 25 x_7.toNatClampNeg) (fun x_9 => op_k (x_9 - 8) (fun x_10 => (if v3 = v1 then fM_turns_88 rc v1 v2 v3 v4 x_10 o0 else (if v3 < 0 ∨ 31 ≤ v3.toNatClampNeg then none else op_k (o0.2.1 28 v3.toNatClampNeg) (fun x_13 => (if x_13 = (0 : Int32) then fM_turns_113 rc v1 v2 v3 v4 o0 else fM_turns_88 rc v1 v2 v3 v4 x_10 o0)))))))))))))
noncomputable def fM_turns_33 (rc : Nat → Int32 → Int32 → Int32 → Int32 → cf_O → Option (Int32 × cf_O)) (v1 : Int32) (v2 : Int32) (v3 : Int32) (o0 : cf_O) : Option (Int32 × cf_O) :=
  (if (o0.1 17) ≤ v3 then rc 1 v1 v2 0 0 o0 else rc 3 v1 v2 v3 0 o0)
noncomputable def fM_turns_25 (rc : Nat → Int32 → Int32 → Int32 → Int32 → cf_O → Option (Int32 × cf_O)) (v1 : Int32) (v2 : Int32) (o0 : cf_O) : Option (Int32 × cf_O) :=
  (if v2 = (0 : Int32) then (if v1 < 0 ∨ 31 ≤ v1.toNatClampNeg then none else op_k (o0.2.1 28 v1.toNatClampNeg) (fun x_3 => (if ¬ (x_3 = 0 ∨ x_3 = 1) then none else some (x_3, o0)))) else rc 2 v1 0 0 0 o0)
noncomputable def fM_turns_2 (rc : Nat → Int32 → Int32 → Int32 → Int32 → cf_O → Option (Int32 × cf_O)) (v1 : Int32) (v2 : Int32) (o0 : cf_O) : Option (Int32 × cf_O) :=
  (if (o0.1 17) ≤ v2 then rc 1 v1 1 0 0 o0 else (if v2 < 0 ∨ 31 ≤ v2.toNatClampNeg then none else op_k (xp o0 28 v2.toNatClampNeg (vp_nar .boolean 0)) (fun o_3 => op_k (v2 + 1) (fun x_4 => rc 0 v1 x_4 0 0 o_3))))
noncomputable def fM_turns_0 (rc : Nat → Int32 → Int32 → Int32 → Int32 → cf_O → Option (Int32 × cf_O)) (v1 : Int32) (o0 : cf_O) : Option (Int32 × cf_O) :=
  rc 0 v1 0 0 0 o0
noncomputable def gM_turns (n : Nat) : Nat → Int32 → Int32 → Int32 → Int32 → cf_O → Option (Int32 × cf_O) := Nat.rec (motive := fun _ => Nat → Int32 → Int32 → Int32 → Int32 → cf_O → Option (Int32 × cf_O)) (fun _ _ _ _ _ _ => none) (fun _ rc => fun k u1i u2i u3i u4i o0 => Nat.rec (motive := fun _ => Option (Int32 × cf_O)) (fM_turns_2 rc u1i u2i o0) (fun k _ => Nat.rec (motive := fun _ => Option (Int32 × cf_O)) (fM_turns_25 rc u1i u2i o0) (fun k _ => Nat.rec (motive := fun _ => Option (Int32 × cf_O)) (fM_turns_33 rc u1i u2i u3i o0) (fun k _ => Nat.rec (motive := fun _ => Option (Int32 × cf_O)) (fM_turns_44 rc u1i u2i u3i u4i o0) (fun k _ => none) k) k) k) k) n
noncomputable def fM_turns (v1 : Int32) (o0 : cf_O) : Option (Int32 × cf_O) := fM_turns_0 (gM_turns cfFU) v1 o0
noncomputable def fM_begin_17 (rc : Nat → Int32 → cf_O → Option (cf_O)) (v2 : Int32) (o0 : cf_O) : Option (cf_O) :=
  (if (210 : Int32) ≤ v2 then some o0 else (if v2 < 0 ∨ 210 ≤ v2.toNatClampNeg then none else op_k (xp o0 34 v2.toNatClampNeg 0) (fun o_3 => op_k (v2 + 1) (fun x_4 => rc 0 x_4 o_3))))
noncomputable def fM_begin_0 (rc : Nat → Int32 → cf_O → Option (cf_O)) (v1 : Int32) (o0 : cf_O) : Option (cf_O) :=
  op_k (fp o0 31 0) (fun o_1 => op_k (fp o_1 37 v1) (fun o_2 => op_k (fp o_2 36 0) (fun o_3 => rc 0 0 o_3)))
noncomputable def gM_begin (n : Nat) : Nat → Int32 → cf_O → Option (cf_O) := Nat.rec (motive := fun _ => Nat → Int32 → cf_O → Option (cf_O)) (fun _ _ _ => none) (fun _ rc => fun k u2i o0 => Nat.rec (motive := fun _ => Option (cf_O)) (fM_begin_17 rc u2i o0) (fun k _ => none) k) n
noncomputable def fM_begin (v1 : Int32) (o0 : cf_O) : Option (cf_O) := fM_begin_0 (gM_begin cfFU) v1 o0
noncomputable def fM_and_161 (rc : Nat → Int32 → Int32 → Int32 → cf_O → Option (Int32 × cf_O)) (v3 : Int32) (v4 : Int32) (s0 : Int32) (o0 : cf_O) : Option (Int32 × cf_O) :=
  (if (o0.1 31) < 0 ∨ 201 ≤ (o0.1 31).toNatClampNeg then none else op_k (xp o0 32 (o0.1 31).toNatClampNeg v3) (fun o_2 => (if (o_2.1 31) < 0 ∨ 201 ≤ (o_2.1 31).toNatClampNeg then none else op_k (xp o_2 33 (o_2.1 31).toNatClampNeg v4) (fun o_4 => op_k ((o_4.1 37) + (o_4.1 31)) (fun x_5 => op_k (s0 + 1) (fun x_6 => (if x_5 < 0 ∨ 210 ≤ x_5.toNatClampNeg then none else op_k (xp o_4 34 x_5.toNatClampNeg x_6) (fun o_8 => op_k ((o_8.1 31) + 1) (fun x_9 => op_k (fp o_8 31 x_9) (fun o_10 => op_k ((o_10.1 37) + (o_10.1 31)) (fun x_11 => op_k (x_11 - 1) (fun x_12 => op_k (2 * x_12) (fun x_13 => some (x_13, o_10))))))))))))))
noncomputable def fM_and_98 (rc : Nat → Int32 → Int32 → Int32 → cf_O → Option (Int32 × cf_O)) (v3 : Int32) (v4 : Int32) (v5 : Int32) (o0 : cf_O) : Option (Int32 × cf_O) :=
  op_k (v5 + 1) (fun x_1 => rc 0 v3 v4 x_1 o0)
noncomputable def fM_and_56 (rc : Nat → Int32 → Int32 → Int32 → cf_O → Option (Int32 × cf_O)) (v3 : Int32) (v4 : Int32) (v5 : Int32) (o0 : cf_O) : Option (Int32 × cf_O) :=
  (if (o0.1 31) ≤ v5 then (if (o0.1 31) = (200 : Int32) then op_k (fp o0 36 1) (fun o_16 => some ((0 : Int32), o_16)) else op_k (v3 / 2) (fun x_3 => (if x_3 < 0 ∨ 210 ≤ x_3.toNatClampNeg then none else op_k (o0.2.1 34 x_3.toNatClampNeg) (fun x_5 => op_k (v4 / 2) (fun x_6 => (if x_6 < 0 ∨ 210 ≤ x_6.toNatClampNeg then none else op_k (o0.2.1 34 x_6.toNatClampNeg) (fun x_8 => (if x_5 ≤ x_8 then op_k (v4 / 2) (fun x_10 => (if x_10 < 0 ∨ 210 ≤ x_10.toNatClampNeg then none else op_k (o0.2.1 34 x_10.toNatClampNeg) (fun x_12 => fM_and_161 rc v3 v4 x_12 o0))) else op_k (v3 / 2) (fun x_13 => (if x_13 < 0 ∨ 210 ≤ x_13.toNatClampNeg then none else op_k (o0.2.1 34 x_13.toNatClampNeg) (fun x_15 => fM_and_161 rc v3 v4 x_15 o0))))))))))) else (if v5 < 0 ∨ 201 ≤ v5.toNatClampNeg then none else op_k (o0.2.1 32 v5.toNatClampNeg) (fun x_18 => (if x_18 = v3 then (if v5 < 0 ∨ 201 ≤ v5.toNatClampNeg then none else op_k (o0.2.1 33 v5.toNatClampNeg) (fun x_21 => (if x_21 = v4 then op_k ((o0.1 37) + v5) (fun x_23 => op_k (2 * x_23) (fun x_24 => some (x_24, o0))) else fM_and_98 rc v3 v4 v5 o0))) else fM_and_98 rc v3 v4 v5 o0))))
noncomputable def fM_and_33 (rc : Nat → Int32 → Int32 → Int32 → cf_O → Option (Int32 × cf_O)) (v3 : Int32) (o0 : cf_O) : Option (Int32 × cf_O) :=
  some (v3, o0)
noncomputable def fM_and_21 (rc : Nat → Int32 → Int32 → Int32 → cf_O → Option (Int32 × cf_O)) (v3 : Int32) (s0 : Int32) (o0 : cf_O) : Option (Int32 × cf_O) :=
  (if v3 = (0 : Int32) then fM_and_33 rc v3 o0 else (if v3 = s0 then fM_and_33 rc v3 o0 else (if v3 = (1 : Int32) then some (s0, o0) else op_k (v3 ^^^ 1) (fun x_4 => (if x_4 = s0 then some ((0 : Int32), o0) else rc 0 v3 s0 0 o0)))))
noncomputable def fM_and_10 (rc : Nat → Int32 → Int32 → Int32 → cf_O → Option (Int32 × cf_O)) (v1 : Int32) (v2 : Int32) (s0 : Int32) (o0 : cf_O) : Option (Int32 × cf_O) :=
  (if v2 ≤ v1 then fM_and_21 rc s0 v1 o0 else fM_and_21 rc s0 v2 o0)
noncomputable def fM_and_0 (rc : Nat → Int32 → Int32 → Int32 → cf_O → Option (Int32 × cf_O)) (v1 : Int32) (v2 : Int32) (o0 : cf_O) : Option (Int32 × cf_O) :=
  (if v2 ≤ v1 then fM_and_10 rc v1 v2 v2 o0 else fM_and_10 rc v1 v2 v1 o0)
noncomputable def gM_and (n : Nat) : Nat → Int32 → Int32 → Int32 → cf_O → Option (Int32 × cf_O) := Nat.rec (motive := fun _ => Nat → Int32 → Int32 → Int32 → cf_O → Option (Int32 × cf_O)) (fun _ _ _ _ _ => none) (fun _ rc => fun k u3i u4i u5i o0 => Nat.rec (motive := fun _ => Option (Int32 × cf_O)) (fM_and_56 rc u3i u4i u5i o0) (fun k _ => none) k) n
noncomputable def fM_and (v1 : Int32) (v2 : Int32) (o0 : cf_O) : Option (Int32 × cf_O) := fM_and_0 (gM_and cfFU) v1 v2 o0
noncomputable def fM_literal_23 (s0 : Int32) (o0 : cf_O) : Option (Int32) :=
  some s0
noncomputable def fM_literal_0 (v1 : Int32) (o0 : cf_O) : Option (Int32) :=
  (if (8 : Int32) ≤ v1 then op_k (v1 - 8) (fun x_2 => (if x_2 < 0 ∨ 31 ≤ x_2.toNatClampNeg then none else op_k (o0.2.1 26 x_2.toNatClampNeg) (fun x_4 => fM_literal_23 x_4 o0))) else op_k (v1 + 1) (fun x_5 => op_k (2 * x_5) (fun x_6 => fM_literal_23 x_6 o0)))
noncomputable def fM_literal (v1 : Int32) (o0 : cf_O) : Option (Int32) := fM_literal_0 v1 o0
noncomputable def fM_tableLiteral_159 (rc : Nat → Int32 → Int32 → Int32 → Int32 → Int32 → cf_O → Option (Int32 × cf_O)) (s0 : Int32) (o0 : cf_O) : Option (Int32 × cf_O) :=
  some (s0, o0)
noncomputable def fM_tableLiteral_158 (rc : Nat → Int32 → Int32 → Int32 → Int32 → Int32 → cf_O → Option (Int32 × cf_O)) (v2 : Int32) (o0 : cf_O) : Option (Int32 × cf_O) :=
  fM_tableLiteral_159 rc v2 o0
noncomputable def fM_tableLiteral_106 (rc : Nat → Int32 → Int32 → Int32 → Int32 → Int32 → cf_O → Option (Int32 × cf_O)) (v1 : Int32) (v2 : Int32) (v3 : Int32) (v5 : Int32) (s0 : Int32) (o0 : cf_O) : Option (Int32 × cf_O) :=
  op_k (v5 + 1) (fun x_1 => rc 1 v1 v2 v3 s0 x_1 o0)
noncomputable def fM_tableLiteral_103 (rc : Nat → Int32 → Int32 → Int32 → Int32 → Int32 → cf_O → Option (Int32 × cf_O)) (v1 : Int32) (v2 : Int32) (v3 : Int32) (v5 : Int32) (s1 : Int32) (s2 : Int32) (o0 : cf_O) : Option (Int32 × cf_O) :=
  Option.bind (fM_and s1 s2 o0) (fun q_1 => fM_tableLiteral_106 rc v1 v2 v3 v5 q_1.1 q_1.2)
noncomputable def fM_tableLiteral_20 (rc : Nat → Int32 → Int32 → Int32 → Int32 → Int32 → cf_O → Option (Int32 × cf_O)) (v1 : Int32) (v2 : Int32) (v3 : Int32) (v4 : Int32) (v5 : Int32) (o0 : cf_O) : Option (Int32 × cf_O) :=
  op_k (v5 + 1) (fun x_1 => (if v1 < 0 ∨ 31 ≤ v1.toNatClampNeg then none else op_k (o0.2.1 19 v1.toNatClampNeg) (fun x_3 => (if x_3 ≤ x_1 then op_k (v2 ^^^ 1) (fun x_5 => op_k (v4 ^^^ 1) (fun x_6 => Option.bind (fM_and x_5 x_6 o0) (fun q_7 => op_k (q_7.1 ^^^ 1) (fun x_10 => op_k (v3 + 1) (fun x_11 => rc 0 v1 x_10 x_11 0 0 q_7.2))))) else op_k (16 * v1) (fun x_12 => op_k (x_12 + v3) (fun x_13 => (if x_13 < 0 ∨ 496 ≤ x_13.toNatClampNeg then none else op_k (o0.2.1 23 x_13.toNatClampNeg) (fun x_15 => op_k (x_15 + v5) (fun x_16 => (if x_16 < 0 ∨ 1600 ≤ x_16.toNatClampNeg then none else op_k (o0.2.1 1 x_16.toNatClampNeg) (fun x_18 => op_k (6 * v1) (fun x_19 => op_k (x_19 + v5) (fun x_20 => (if x_20 < 0 ∨ 186 ≤ x_20.toNatClampNeg then none else op_k (o0.2.1 25 x_20.toNatClampNeg) (fun x_22 => Option.bind (fM_literal x_22 o0) (fun q_23 => (if x_18 = (45 : Int32) then fM_tableLiteral_106 rc v1 v2 v3 v5 v4 o0 else (if x_18 = (49 : Int32) then fM_tableLiteral_103 rc v1 v2 v3 v5 v4 q_23 o0 else op_k (q_23 ^^^ 1) (fun x_28 => fM_tableLiteral_103 rc v1 v2 v3 v5 v4 x_28 o0)))))))))))))))))))
noncomputable def fM_tableLiteral_4 (rc : Nat → Int32 → Int32 → Int32 → Int32 → Int32 → cf_O → Option (Int32 × cf_O)) (v1 : Int32) (v2 : Int32) (v3 : Int32) (o0 : cf_O) : Option (Int32 × cf_O) :=
  (if v1 < 0 ∨ 31 ≤ v1.toNatClampNeg then none else op_k (o0.2.1 22 v1.toNatClampNeg) (fun x_2 => (if x_2 ≤ v3 then (if v1 < 0 ∨ 31 ≤ v1.toNatClampNeg then none else op_k (o0.2.1 22 v1.toNatClampNeg) (fun x_5 => (if x_5 ≤ (0 : Int32) then fM_tableLiteral_158 rc v2 o0 else (if v1 < 0 ∨ 31 ≤ v1.toNatClampNeg then none else op_k (o0.2.1 24 v1.toNatClampNeg) (fun x_8 => (if x_8 = (0 : Int32) then op_k (v2 ^^^ 1) (fun x_10 => fM_tableLiteral_159 rc x_10 o0) else fM_tableLiteral_158 rc v2 o0)))))) else rc 1 v1 v2 v3 1 0 o0)))
noncomputable def fM_tableLiteral_0 (rc : Nat → Int32 → Int32 → Int32 → Int32 → Int32 → cf_O → Option (Int32 × cf_O)) (v1 : Int32) (o0 : cf_O) : Option (Int32 × cf_O) :=
  rc 0 v1 0 0 0 0 o0
noncomputable def gM_tableLiteral (n : Nat) : Nat → Int32 → Int32 → Int32 → Int32 → Int32 → cf_O → Option (Int32 × cf_O) := Nat.rec (motive := fun _ => Nat → Int32 → Int32 → Int32 → Int32 → Int32 → cf_O → Option (Int32 × cf_O)) (fun _ _ _ _ _ _ _ => none) (fun _ rc => fun k u1i u2i u3i u4i u5i o0 => Nat.rec (motive := fun _ => Option (Int32 × cf_O)) (fM_tableLiteral_4 rc u1i u2i u3i o0) (fun k _ => Nat.rec (motive := fun _ => Option (Int32 × cf_O)) (fM_tableLiteral_20 rc u1i u2i u3i u4i u5i o0) (fun k _ => none) k) k) n
noncomputable def fM_tableLiteral (v1 : Int32) (o0 : cf_O) : Option (Int32 × cf_O) := fM_tableLiteral_0 (gM_tableLiteral cfFU) v1 o0
noncomputable def fM_findTable_148 (rc : Nat → Int32 → Int32 → Int32 → cf_O → Option (cf_O)) (o0 : cf_O) : Option (cf_O) :=
  rc 0 0 0 0 o0
noncomputable def fM_findTable_86 (rc : Nat → Int32 → Int32 → Int32 → cf_O → Option (cf_O)) (v2 : Int32) (v4 : Int32) (s0 : Int32) (o0 : cf_O) : Option (cf_O) :=
  op_k (v4 + (-1)) (fun x_1 => rc 1 v2 s0 x_1 o0)
noncomputable def fM_findTable_85 (rc : Nat → Int32 → Int32 → Int32 → cf_O → Option (cf_O)) (v2 : Int32) (v3 : Int32) (v4 : Int32) (o0 : cf_O) : Option (cf_O) :=
  fM_findTable_86 rc v2 v4 v3 o0
noncomputable def fM_findTable_43 (rc : Nat → Int32 → Int32 → Int32 → cf_O → Option (cf_O)) (v2 : Int32) (v3 : Int32) (v4 : Int32) (o0 : cf_O) : Option (cf_O) :=
  (if v4 < (0 : Int32) then (if v3 < (0 : Int32) then Option.bind (fM_tableLiteral v2 o0) (fun q_3 => (if v2 < 0 ∨ 31 ≤ v2.toNatClampNeg then none else op_k (xp q_3.2 26 v2.toNatClampNeg q_3.1) (fun o_7 => (if v2 < 0 ∨ 31 ≤ v2.toNatClampNeg then none else op_k (xp o_7 27 v2.toNatClampNeg (vp_nar .boolean 1)) (fun o_9 => op_k ((o_9.1 29) - 1) (fun x_10 => op_k (fp o_9 29 x_10) (fun o_11 => fM_findTable_148 rc o_11))))))) else (if (o0.1 29) < 0 ∨ 32 ≤ (o0.1 29).toNatClampNeg then none else op_k (xp o0 30 (o0.1 29).toNatClampNeg v3) (fun o_13 => op_k ((o_13.1 29) + 1) (fun x_14 => op_k (fp o_13 29 x_14) (fun o_15 => fM_findTable_148 rc o_15))))) else op_k (6 * v2) (fun x_16 => op_k (x_16 + v4) (fun x_17 => (if x_17 < 0 ∨ 186 ≤ x_17.toNatClampNeg then none else op_k (o0.2.1 25 x_17.toNatClampNeg) (fun x_19 => op_k (x_19 - 8) (fun x_20 => (if x_20 < (0 : Int32) then fM_findTable_85 rc v2 v3 v4 o0 else (if x_20 < 0 ∨ 31 ≤ x_20.toNatClampNeg then none else op_k (o0.2.1 27 x_20.toNatClampNeg) (fun x_23 => (if x_23 = (0 : Int32) then fM_findTable_86 rc v2 v4 x_20 o0 else fM_findTable_85 rc v2 v3 v4 o0))))))))))
noncomputable def fM_findTable_12 (rc : Nat → Int32 → Int32 → Int32 → cf_O → Option (cf_O)) (o0 : cf_O) : Option (cf_O) :=
  (if (o0.1 29) ≤ (0 : Int32) then some o0 else op_k ((o0.1 29) - 1) (fun x_2 => (if x_2 < 0 ∨ 32 ≤ x_2.toNatClampNeg then none else op_k (o0.2.1 30 x_2.toNatClampNeg) (fun x_4 => (if x_4 < 0 ∨ 31 ≤ x_4.toNatClampNeg then none else op_k (o0.2.1 19 x_4.toNatClampNeg) (fun x_6 => op_k (x_6 - 2) (fun x_7 => rc 1 x_4 (-1) x_7 o0)))))))
noncomputable def fM_findTable_0 (rc : Nat → Int32 → Int32 → Int32 → cf_O → Option (cf_O)) (v1 : Int32) (o0 : cf_O) : Option (cf_O) :=
  op_k (fp o0 29 1) (fun o_1 => (if (0 : Int32) < 0 ∨ 32 ≤ (0 : Int32).toNatClampNeg then none else op_k (xp o_1 30 (0 : Int32).toNatClampNeg v1) (fun o_3 => rc 0 0 0 0 o_3)))
noncomputable def gM_findTable (n : Nat) : Nat → Int32 → Int32 → Int32 → cf_O → Option (cf_O) := Nat.rec (motive := fun _ => Nat → Int32 → Int32 → Int32 → cf_O → Option (cf_O)) (fun _ _ _ _ _ => none) (fun _ rc => fun k u2i u3i u4i o0 => Nat.rec (motive := fun _ => Option (cf_O)) (fM_findTable_12 rc o0) (fun k _ => Nat.rec (motive := fun _ => Option (cf_O)) (fM_findTable_43 rc u2i u3i u4i o0) (fun k _ => none) k) k) n
noncomputable def fM_findTable (v1 : Int32) (o0 : cf_O) : Option (cf_O) := fM_findTable_0 (gM_findTable cfFU) v1 o0
noncomputable def fM_build__86 (rc : Nat → Int32 → cf_O → Option (cf_O)) (v1 : Int32) (v2 : Int32) (o0 : cf_O) : Option (cf_O) :=
  Option.bind (fM_literal v2 o0) (fun q_1 => (if v1 < 0 ∨ 6 ≤ v1.toNatClampNeg then none else op_k (xp o0 35 v1.toNatClampNeg q_1) (fun o_5 => op_k (v1 + 1) (fun x_6 => rc 1 x_6 o_5))))
noncomputable def fM_build__35 (rc : Nat → Int32 → cf_O → Option (cf_O)) (v1 : Int32) (o0 : cf_O) : Option (cf_O) :=
  (if (o0.1 13) ≤ v1 then some o0 else (if v1 < 0 ∨ 6 ≤ v1.toNatClampNeg then none else op_k (o0.2.1 14 v1.toNatClampNeg) (fun x_3 => (if v1 < 0 ∨ 6 ≤ v1.toNatClampNeg then none else op_k (o0.2.1 15 v1.toNatClampNeg) (fun x_5 => Option.bind (fM_giver x_3 x_5 o0) (fun q_6 => (if q_6 ≤ (7 : Int32) then fM_build__86 rc v1 q_6 o0 else op_k (q_6 - 8) (fun x_10 => (if x_10 < 0 ∨ 31 ≤ x_10.toNatClampNeg then none else op_k (o0.2.1 27 x_10.toNatClampNeg) (fun x_12 => (if x_12 = (0 : Int32) then op_k (q_6 - 8) (fun x_14 => Option.bind (fM_findTable x_14 o0) (fun q_15 => fM_build__86 rc v1 q_6 q_15)) else fM_build__86 rc v1 q_6 o0)))))))))))
noncomputable def fM_build__12 (rc : Nat → Int32 → cf_O → Option (cf_O)) (v1 : Int32) (o0 : cf_O) : Option (cf_O) :=
  (if (o0.1 17) ≤ v1 then rc 1 0 o0 else (if v1 < 0 ∨ 31 ≤ v1.toNatClampNeg then none else op_k (xp o0 27 v1.toNatClampNeg (vp_nar .boolean 0)) (fun o_3 => op_k (v1 + 1) (fun x_4 => rc 0 x_4 o_3))))
noncomputable def fM_build__0 (rc : Nat → Int32 → cf_O → Option (cf_O)) (o0 : cf_O) : Option (cf_O) :=
  op_k ((o0.1 10) + 1) (fun x_1 => Option.bind (fM_begin x_1 o0) (fun q_2 => rc 0 0 q_2))
noncomputable def gM_build_ (n : Nat) : Nat → Int32 → cf_O → Option (cf_O) := Nat.rec (motive := fun _ => Nat → Int32 → cf_O → Option (cf_O)) (fun _ _ _ => none) (fun _ rc => fun k u1i o0 => Nat.rec (motive := fun _ => Option (cf_O)) (fM_build__12 rc u1i o0) (fun k _ => Nat.rec (motive := fun _ => Option (cf_O)) (fM_build__35 rc u1i o0) (fun k _ => none) k) k) n
noncomputable def fM_build_ (o0 : cf_O) : Option (cf_O) := fM_build__0 (gM_build_ cfFU) o0
noncomputable def fM_take_77 (rc : Nat → Int32 → cf_O → Option (cf_O)) (v1 : Int32) (o0 : cf_O) : Option (cf_O) :=
  (if (o0.1 40) ≤ v1 then op_k (fp o0 64 0) (fun o_2 => op_k (fp o_2 85 0) (fun o_3 => some o_3)) else (if v1 < 0 ∨ 6 ≤ v1.toNatClampNeg then none else op_k (o0.2.1 35 v1.toNatClampNeg) (fun x_5 => (if v1 < 0 ∨ 6 ≤ v1.toNatClampNeg then none else op_k (xp o0 47 v1.toNatClampNeg x_5) (fun o_7 => op_k (v1 + 1) (fun x_8 => rc 2 x_8 o_7))))))
noncomputable def fM_take_50 (rc : Nat → Int32 → cf_O → Option (cf_O)) (v1 : Int32) (o0 : cf_O) : Option (cf_O) :=
  (if (210 : Int32) ≤ v1 then rc 2 0 o0 else (if v1 < 0 ∨ 210 ≤ v1.toNatClampNeg then none else op_k (o0.2.1 34 v1.toNatClampNeg) (fun x_3 => (if v1 < 0 ∨ 210 ≤ v1.toNatClampNeg then none else op_k (xp o0 46 v1.toNatClampNeg x_3) (fun o_5 => op_k (v1 + 1) (fun x_6 => rc 1 x_6 o_5))))))
noncomputable def fM_take_10 (rc : Nat → Int32 → cf_O → Option (cf_O)) (v1 : Int32) (o0 : cf_O) : Option (cf_O) :=
  (if (o0.1 43) ≤ v1 then rc 1 0 o0 else (if v1 < 0 ∨ 201 ≤ v1.toNatClampNeg then none else op_k (o0.2.1 32 v1.toNatClampNeg) (fun x_3 => (if v1 < 0 ∨ 201 ≤ v1.toNatClampNeg then none else op_k (xp o0 44 v1.toNatClampNeg x_3) (fun o_5 => (if v1 < 0 ∨ 201 ≤ v1.toNatClampNeg then none else op_k (o_5.2.1 33 v1.toNatClampNeg) (fun x_7 => (if v1 < 0 ∨ 201 ≤ v1.toNatClampNeg then none else op_k (xp o_5 45 v1.toNatClampNeg x_7) (fun o_9 => op_k (v1 + 1) (fun x_10 => rc 0 x_10 o_9))))))))))
noncomputable def fM_take_0 (rc : Nat → Int32 → cf_O → Option (cf_O)) (o0 : cf_O) : Option (cf_O) :=
  op_k (fp o0 43 (o0.1 31)) (fun o_1 => rc 0 0 o_1)
noncomputable def gM_take (n : Nat) : Nat → Int32 → cf_O → Option (cf_O) := Nat.rec (motive := fun _ => Nat → Int32 → cf_O → Option (cf_O)) (fun _ _ _ => none) (fun _ rc => fun k u1i o0 => Nat.rec (motive := fun _ => Option (cf_O)) (fM_take_10 rc u1i o0) (fun k _ => Nat.rec (motive := fun _ => Option (cf_O)) (fM_take_50 rc u1i o0) (fun k _ => Nat.rec (motive := fun _ => Option (cf_O)) (fM_take_77 rc u1i o0) (fun k _ => none) k) k) k) n
noncomputable def fM_take (o0 : cf_O) : Option (cf_O) := fM_take_0 (gM_take cfFU) o0
noncomputable def fM_takeNames_M41_M11_M12_59 (rc : Nat → Int32 → Int32 → Int32 → cf_O → Option (cf_O)) (v2 : Int32) (v5 : Int32) (v6 : Int32) (s1 : Int32) (s2 : Int32) (o0 : cf_O) : Option (cf_O) :=
  (if s1 < 0 ∨ 64 ≤ s1.toNatClampNeg then none else op_k (xp o0 41 s1.toNatClampNeg s2) (fun o_2 => op_k (v6 + 1) (fun x_3 => rc 1 v2 v5 x_3 o_2)))
noncomputable def fM_takeNames_M41_M11_M12_12 (rc : Nat → Int32 → Int32 → Int32 → cf_O → Option (cf_O)) (v2 : Int32) (v5 : Int32) (v6 : Int32) (o0 : cf_O) : Option (cf_O) :=
  (if (8 : Int32) ≤ v6 then op_k (v5 + 1) (fun x_2 => rc 0 v2 x_2 0 o0) else op_k (8 * v5) (fun x_3 => op_k (x_3 + v6) (fun x_4 => (if v5 < 0 ∨ 8 ≤ v5.toNatClampNeg then none else op_k (o0.2.1 11 v5.toNatClampNeg) (fun x_6 => op_k (x_6 + v6) (fun x_7 => (if v5 < 0 ∨ 8 ≤ v5.toNatClampNeg then none else op_k (o0.2.1 12 v5.toNatClampNeg) (fun x_9 => (if x_9 ≤ x_7 then fM_takeNames_M41_M11_M12_59 rc v2 v5 v6 x_4 0 o0 else (if v5 < 0 ∨ 8 ≤ v5.toNatClampNeg then none else op_k (o0.2.1 11 v5.toNatClampNeg) (fun x_12 => op_k (x_12 + v6) (fun x_13 => (if x_13 < 0 ∨ 1600 ≤ x_13.toNatClampNeg then none else op_k (o0.2.1 1 x_13.toNatClampNeg) (fun x_15 => fM_takeNames_M41_M11_M12_59 rc v2 v5 v6 x_4 x_15 o0))))))))))))))
noncomputable def fM_takeNames_M41_M11_M12_3 (rc : Nat → Int32 → Int32 → Int32 → cf_O → Option (cf_O)) (v2 : Int32) (v5 : Int32) (o0 : cf_O) : Option (cf_O) :=
  (if v2 ≤ v5 then some o0 else rc 1 v2 v5 0 o0)
noncomputable def fM_takeNames_M41_M11_M12_0 (rc : Nat → Int32 → Int32 → Int32 → cf_O → Option (cf_O)) (v2 : Int32) (o0 : cf_O) : Option (cf_O) :=
  rc 0 v2 0 0 o0
noncomputable def gM_takeNames_M41_M11_M12 (n : Nat) : Nat → Int32 → Int32 → Int32 → cf_O → Option (cf_O) := Nat.rec (motive := fun _ => Nat → Int32 → Int32 → Int32 → cf_O → Option (cf_O)) (fun _ _ _ _ _ => none) (fun _ rc => fun k u2i u5i u6i o0 => Nat.rec (motive := fun _ => Option (cf_O)) (fM_takeNames_M41_M11_M12_3 rc u2i u5i o0) (fun k _ => Nat.rec (motive := fun _ => Option (cf_O)) (fM_takeNames_M41_M11_M12_12 rc u2i u5i u6i o0) (fun k _ => none) k) k) n
noncomputable def fM_takeNames_M41_M11_M12 (v2 : Int32) (o0 : cf_O) : Option (cf_O) := fM_takeNames_M41_M11_M12_0 (gM_takeNames_M41_M11_M12 cfFU) v2 o0
noncomputable def fM_takeNames_M42_M14_M15_59 (rc : Nat → Int32 → Int32 → Int32 → cf_O → Option (cf_O)) (v2 : Int32) (v5 : Int32) (v6 : Int32) (s1 : Int32) (s2 : Int32) (o0 : cf_O) : Option (cf_O) :=
  (if s1 < 0 ∨ 48 ≤ s1.toNatClampNeg then none else op_k (xp o0 42 s1.toNatClampNeg s2) (fun o_2 => op_k (v6 + 1) (fun x_3 => rc 1 v2 v5 x_3 o_2)))
noncomputable def fM_takeNames_M42_M14_M15_12 (rc : Nat → Int32 → Int32 → Int32 → cf_O → Option (cf_O)) (v2 : Int32) (v5 : Int32) (v6 : Int32) (o0 : cf_O) : Option (cf_O) :=
  (if (8 : Int32) ≤ v6 then op_k (v5 + 1) (fun x_2 => rc 0 v2 x_2 0 o0) else op_k (8 * v5) (fun x_3 => op_k (x_3 + v6) (fun x_4 => (if v5 < 0 ∨ 6 ≤ v5.toNatClampNeg then none else op_k (o0.2.1 14 v5.toNatClampNeg) (fun x_6 => op_k (x_6 + v6) (fun x_7 => (if v5 < 0 ∨ 6 ≤ v5.toNatClampNeg then none else op_k (o0.2.1 15 v5.toNatClampNeg) (fun x_9 => (if x_9 ≤ x_7 then fM_takeNames_M42_M14_M15_59 rc v2 v5 v6 x_4 0 o0 else (if v5 < 0 ∨ 6 ≤ v5.toNatClampNeg then none else op_k (o0.2.1 14 v5.toNatClampNeg) (fun x_12 => op_k (x_12 + v6) (fun x_13 => (if x_13 < 0 ∨ 1600 ≤ x_13.toNatClampNeg then none else op_k (o0.2.1 1 x_13.toNatClampNeg) (fun x_15 => fM_takeNames_M42_M14_M15_59 rc v2 v5 v6 x_4 x_15 o0))))))))))))))
noncomputable def fM_takeNames_M42_M14_M15_3 (rc : Nat → Int32 → Int32 → Int32 → cf_O → Option (cf_O)) (v2 : Int32) (v5 : Int32) (o0 : cf_O) : Option (cf_O) :=
  (if v2 ≤ v5 then some o0 else rc 1 v2 v5 0 o0)
noncomputable def fM_takeNames_M42_M14_M15_0 (rc : Nat → Int32 → Int32 → Int32 → cf_O → Option (cf_O)) (v2 : Int32) (o0 : cf_O) : Option (cf_O) :=
  rc 0 v2 0 0 o0
noncomputable def gM_takeNames_M42_M14_M15 (n : Nat) : Nat → Int32 → Int32 → Int32 → cf_O → Option (cf_O) := Nat.rec (motive := fun _ => Nat → Int32 → Int32 → Int32 → cf_O → Option (cf_O)) (fun _ _ _ _ _ => none) (fun _ rc => fun k u2i u5i u6i o0 => Nat.rec (motive := fun _ => Option (cf_O)) (fM_takeNames_M42_M14_M15_3 rc u2i u5i o0) (fun k _ => Nat.rec (motive := fun _ => Option (cf_O)) (fM_takeNames_M42_M14_M15_12 rc u2i u5i u6i o0) (fun k _ => none) k) k) n
noncomputable def fM_takeNames_M42_M14_M15 (v2 : Int32) (o0 : cf_O) : Option (cf_O) := fM_takeNames_M42_M14_M15_0 (gM_takeNames_M42_M14_M15 cfFU) v2 o0
noncomputable def fM_read_67 (rc : Nat → Int32 → Int32 → cf_O → Option (Int32 × cf_O)) (v1 : Int32) (o0 : cf_O) : Option (Int32 × cf_O) :=
  (if (o0.1 5) ≤ (0 : Int32) then Option.bind (fM_build_ o0) (fun q_2 => Option.bind (fM_refuse (q_2.1 36) 0 0 q_2) (fun q_4 => (if q_4.1 = (0 : Int32) then op_k (fp q_4.2 3 (-1)) (fun o_8 => op_k (fp o_8 38 1) (fun o_9 => op_k (fp o_9 39 (o_9.1 10)) (fun o_10 => op_k (fp o_10 40 (o_10.1 13)) (fun o_11 => Option.bind (fM_takeNames_M41_M11_M12 (o_11.1 39) o_11) (fun q_12 => Option.bind (fM_takeNames_M42_M14_M15 (q_12.1 40) q_12) (fun q_14 => Option.bind (fM_take q_14) (fun q_16 => some ((0 : Int32), q_16)))))))) else op_k (fp q_4.2 6 v1) (fun o_18 => some ((0 : Int32), o_18))))) else op_k (fp o0 3 (o0.1 6)) (fun o_19 => some (o_19.1 5, o_19)))
noncomputable def fM_read_61 (rc : Nat → Int32 → Int32 → cf_O → Option (Int32 × cf_O)) (v1 : Int32) (v2 : Int32) (o0 : cf_O) : Option (Int32 × cf_O) :=
  op_k (v2 + 1) (fun x_1 => rc 0 v1 x_1 o0)
noncomputable def fM_read_27 (rc : Nat → Int32 → Int32 → cf_O → Option (Int32 × cf_O)) (v1 : Int32) (v2 : Int32) (o0 : cf_O) : Option (Int32 × cf_O) :=
  (if (o0.1 17) ≤ v2 then fM_read_67 rc v1 o0 else (if (o0.1 5) = (0 : Int32) then Option.bind (fM_turns v2 o0) (fun q_3 => (if q_3.1 = (0 : Int32) then fM_read_61 rc v1 v2 q_3.2 else (if v2 < 0 ∨ 31 ≤ v2.toNatClampNeg then none else op_k (q_3.2.2.1 18 v2.toNatClampNeg) (fun x_8 => Option.bind (fM_fail 4 x_8 q_3.2) (fun q_9 => fM_read_61 rc v1 v2 q_9))))) else fM_read_67 rc v1 o0))
noncomputable def fM_read_25 (rc : Nat → Int32 → Int32 → cf_O → Option (Int32 × cf_O)) (v1 : Int32) (o0 : cf_O) : Option (Int32 × cf_O) :=
  rc 0 v1 0 o0
noncomputable def fM_read_0 (rc : Nat → Int32 → Int32 → cf_O → Option (Int32 × cf_O)) (o0 : cf_O) : Option (Int32 × cf_O) :=
  op_k (fp o0 0 0) (fun o_1 => Option.bind (fM_readLines o_1) (fun q_2 => (if (q_2.1 5) = (0 : Int32) then Option.bind (fM_link q_2) (fun q_5 => fM_read_25 rc (o_1.1 6) q_5) else fM_read_25 rc (o_1.1 6) q_2)))
noncomputable def gM_read (n : Nat) : Nat → Int32 → Int32 → cf_O → Option (Int32 × cf_O) := Nat.rec (motive := fun _ => Nat → Int32 → Int32 → cf_O → Option (Int32 × cf_O)) (fun _ _ _ _ => none) (fun _ rc => fun k u1i u2i o0 => Nat.rec (motive := fun _ => Option (Int32 × cf_O)) (fM_read_27 rc u1i u2i o0) (fun k _ => none) k) n
noncomputable def fM_read (o0 : cf_O) : Option (Int32 × cf_O) := fM_read_0 (gM_read cfFU) o0
noncomputable def fM_line_0 (o0 : cf_O) : Option (Int32 × cf_O) :=
  op_k (fp o0 0 0) (fun o_1 => some (o_1.1 3, o_1))
noncomputable def fM_line (o0 : cf_O) : Option (Int32 × cf_O) := fM_line_0 o0
noncomputable def fM_base_0 (o0 : cf_O) : Option (Int32) :=
  op_k ((o0.1 39) + 1) (fun x_1 => some x_1)
noncomputable def fM_base (o0 : cf_O) : Option (Int32) := fM_base_0 o0
noncomputable def fM_isGate_0 (v1 : Int32) (o0 : cf_O) : Option (Int32) :=
  Option.bind (fM_base o0) (fun q_1 => Option.bind (fM_base o0) (fun q_4 => op_k (q_4 + (o0.1 43)) (fun x_7 => op_k (x_7 - 1) (fun x_8 => Option.bind (fM_in v1 q_1 x_8) (fun q_9 => (if ¬ (q_9 = 0 ∨ q_9 = 1) then none else some q_9))))))
noncomputable def fM_isGate (v1 : Int32) (o0 : cf_O) : Option (Int32) := fM_isGate_0 v1 o0
noncomputable def fM_graph_132 (rc : Nat → Int32 → Int32 → Int32 → cf_O → Option (Int32 × cf_O)) (s0 : Int32) (o0 : cf_O) : Option (Int32 × cf_O) :=
  some (s0, o0)
noncomputable def fM_graph_89 (rc : Nat → Int32 → Int32 → Int32 → cf_O → Option (Int32 × cf_O)) (v1 : Int32) (v3 : Int32) (s0 : Int32) (o0 : cf_O) : Option (Int32 × cf_O) :=
  op_k (v3 + 1) (fun x_1 => rc 0 v1 s0 x_1 o0)
noncomputable def fM_graph_47 (rc : Nat → Int32 → Int32 → Int32 → cf_O → Option (Int32 × cf_O)) (v1 : Int32) (v2 : Int32) (v3 : Int32) (o0 : cf_O) : Option (Int32 × cf_O) :=
  (if (o0.1 40) ≤ v3 then (if v1 = (0 : Int32) then fM_graph_132 rc (o0.1 39) o0 else (if v1 = (1 : Int32) then fM_graph_132 rc (o0.1 40) o0 else (if v1 = (2 : Int32) then fM_graph_132 rc (o0.1 43) o0 else fM_graph_132 rc v2 o0))) else (if v3 < 0 ∨ 6 ≤ v3.toNatClampNeg then none else op_k (o0.2.1 47 v3.toNatClampNeg) (fun x_6 => op_k (x_6 / 2) (fun x_7 => (if x_7 < 0 ∨ 210 ≤ x_7.toNatClampNeg then none else op_k (o0.2.1 46 x_7.toNatClampNeg) (fun x_9 => (if x_9 ≤ v2 then fM_graph_89 rc v1 v3 v2 o0 else (if v3 < 0 ∨ 6 ≤ v3.toNatClampNeg then none else op_k (o0.2.1 47 v3.toNatClampNeg) (fun x_12 => op_k (x_12 / 2) (fun x_13 => (if x_13 < 0 ∨ 210 ≤ x_13.toNatClampNeg then none else op_k (o0.2.1 46 x_13.toNatClampNeg) (fun x_15 => fM_graph_89 rc v1 v3 x_15 o0))))))))))))
noncomputable def fM_graph_34 (rc : Nat → Int32 → Int32 → Int32 → cf_O → Option (Int32 × cf_O)) (v1 : Int32) (s1 : Int32) (s2 : Int32) (o0 : cf_O) : Option (Int32 × cf_O) :=
  Option.bind (fM_refuse s1 s2 0 o0) (fun q_1 => (if q_1.1 = (0 : Int32) then rc 0 v1 0 0 q_1.2 else some ((0 : Int32), q_1.2)))
noncomputable def fM_graph_33 (rc : Nat → Int32 → Int32 → Int32 → cf_O → Option (Int32 × cf_O)) (v1 : Int32) (s1 : Int32) (o0 : cf_O) : Option (Int32 × cf_O) :=
  fM_graph_34 rc v1 s1 0 o0
noncomputable def fM_graph_13 (rc : Nat → Int32 → Int32 → Int32 → cf_O → Option (Int32 × cf_O)) (v1 : Int32) (s1 : Int32) (o0 : cf_O) : Option (Int32 × cf_O) :=
  (if (o0.1 38) = (0 : Int32) then fM_graph_33 rc v1 s1 o0 else Option.bind (fM_in v1 0 3) (fun q_2 => (if q_2 = (0 : Int32) then fM_graph_34 rc v1 s1 1 o0 else fM_graph_33 rc v1 s1 o0)))
noncomputable def fM_graph_0 (rc : Nat → Int32 → Int32 → Int32 → cf_O → Option (Int32 × cf_O)) (v1 : Int32) (o0 : cf_O) : Option (Int32 × cf_O) :=
  (if (o0.1 38) = (0 : Int32) then fM_graph_13 rc v1 1 o0 else fM_graph_13 rc v1 0 o0)
noncomputable def gM_graph (n : Nat) : Nat → Int32 → Int32 → Int32 → cf_O → Option (Int32 × cf_O) := Nat.rec (motive := fun _ => Nat → Int32 → Int32 → Int32 → cf_O → Option (Int32 × cf_O)) (fun _ _ _ _ _ => none) (fun _ rc => fun k u1i u2i u3i o0 => Nat.rec (motive := fun _ => Option (Int32 × cf_O)) (fM_graph_47 rc u1i u2i u3i o0) (fun k _ => none) k) n
noncomputable def fM_graph (v1 : Int32) (o0 : cf_O) : Option (Int32 × cf_O) := fM_graph_0 (gM_graph cfFU) v1 o0
noncomputable def fM_gate_119 (s0 : Int32) (o0 : cf_O) : Option (Int32 × cf_O) :=
  some (s0, o0)
noncomputable def fM_gate_68 (v1 : Int32) (v2 : Int32) (s1 : Int32) (s2 : Int32) (s3 : Int32) (o0 : cf_O) : Option (Int32 × cf_O) :=
  Option.bind (fM_refuse s1 s2 s3 o0) (fun q_1 => (if q_1.1 = (0 : Int32) then (if v2 = (0 : Int32) then Option.bind (fM_base q_1.2) (fun q_15 => op_k (v1 - q_15) (fun x_18 => (if x_18 < 0 ∨ 201 ≤ x_18.toNatClampNeg then none else op_k (q_1.2.2.1 44 x_18.toNatClampNeg) (fun x_20 => fM_gate_119 x_20 q_1.2)))) else (if v2 = (1 : Int32) then Option.bind (fM_base q_1.2) (fun q_9 => op_k (v1 - q_9) (fun x_12 => (if x_12 < 0 ∨ 201 ≤ x_12.toNatClampNeg then none else op_k (q_1.2.2.1 45 x_12.toNatClampNeg) (fun x_14 => fM_gate_119 x_14 q_1.2)))) else (if v1 < 0 ∨ 210 ≤ v1.toNatClampNeg then none else op_k (q_1.2.2.1 46 v1.toNatClampNeg) (fun x_8 => fM_gate_119 x_8 q_1.2)))) else some ((0 : Int32), q_1.2)))
noncomputable def fM_gate_67 (v1 : Int32) (v2 : Int32) (s1 : Int32) (s2 : Int32) (o0 : cf_O) : Option (Int32 × cf_O) :=
  fM_gate_68 v1 v2 s1 s2 0 o0
noncomputable def fM_gate_50 (v1 : Int32) (v2 : Int32) (v3 : Int32) (s1 : Int32) (s2 : Int32) (o0 : cf_O) : Option (Int32 × cf_O) :=
  (if v3 = (0 : Int32) then fM_gate_67 v1 v2 s1 s2 o0 else Option.bind (fM_in v2 0 2) (fun q_2 => (if q_2 = (0 : Int32) then fM_gate_68 v1 v2 s1 s2 1 o0 else fM_gate_67 v1 v2 s1 s2 o0)))
noncomputable def fM_gate_49 (v1 : Int32) (v2 : Int32) (v3 : Int32) (s1 : Int32) (o0 : cf_O) : Option (Int32 × cf_O) :=
  fM_gate_50 v1 v2 v3 s1 0 o0
noncomputable def fM_gate_34 (v1 : Int32) (v2 : Int32) (v3 : Int32) (s1 : Int32) (o0 : cf_O) : Option (Int32 × cf_O) :=
  (if (o0.1 38) = (0 : Int32) then fM_gate_49 v1 v2 v3 s1 o0 else (if v3 = (0 : Int32) then fM_gate_50 v1 v2 v3 s1 1 o0 else fM_gate_49 v1 v2 v3 s1 o0))
noncomputable def fM_gate_20 (v1 : Int32) (v2 : Int32) (s0 : Int32) (o0 : cf_O) : Option (Int32 × cf_O) :=
  (if (o0.1 38) = (0 : Int32) then fM_gate_34 v1 v2 s0 1 o0 else fM_gate_34 v1 v2 s0 0 o0)
noncomputable def fM_gate_19 (v1 : Int32) (v2 : Int32) (o0 : cf_O) : Option (Int32 × cf_O) :=
  fM_gate_20 v1 v2 0 o0
noncomputable def fM_gate_0 (v1 : Int32) (v2 : Int32) (o0 : cf_O) : Option (Int32 × cf_O) :=
  (if (o0.1 38) = (0 : Int32) then fM_gate_19 v1 v2 o0 else Option.bind (fM_isGate v1 o0) (fun q_2 => (if q_2 = (0 : Int32) then fM_gate_19 v1 v2 o0 else fM_gate_20 v1 v2 1 o0)))
noncomputable def fM_gate (v1 : Int32) (v2 : Int32) (o0 : cf_O) : Option (Int32 × cf_O) := fM_gate_0 v1 v2 o0
noncomputable def fM_output_39 (v1 : Int32) (s1 : Int32) (s2 : Int32) (o0 : cf_O) : Option (Int32 × cf_O) :=
  Option.bind (fM_refuse s1 s2 0 o0) (fun q_1 => (if q_1.1 = (0 : Int32) then (if v1 < 0 ∨ 6 ≤ v1.toNatClampNeg then none else op_k (q_1.2.2.1 47 v1.toNatClampNeg) (fun x_6 => some (x_6, q_1.2))) else some ((0 : Int32), q_1.2)))
noncomputable def fM_output_38 (v1 : Int32) (s1 : Int32) (o0 : cf_O) : Option (Int32 × cf_O) :=
  fM_output_39 v1 s1 0 o0
noncomputable def fM_output_13 (v1 : Int32) (s1 : Int32) (o0 : cf_O) : Option (Int32 × cf_O) :=
  (if (o0.1 38) = (0 : Int32) then fM_output_38 v1 s1 o0 else op_k ((o0.1 40) - 1) (fun x_2 => Option.bind (fM_in v1 0 x_2) (fun q_3 => (if q_3 = (0 : Int32) then fM_output_39 v1 s1 1 o0 else fM_output_38 v1 s1 o0))))
noncomputable def fM_output_0 (v1 : Int32) (o0 : cf_O) : Option (Int32 × cf_O) :=
  (if (o0.1 38) = (0 : Int32) then fM_output_13 v1 1 o0 else fM_output_13 v1 0 o0)
noncomputable def fM_output (v1 : Int32) (o0 : cf_O) : Option (Int32 × cf_O) := fM_output_0 v1 o0
noncomputable def fM_is_28 (s0 : Int32) (o0 : cf_O) : Option (Int32) :=
  (if ¬ (s0 = 0 ∨ s0 = 1) then none else some s0)
noncomputable def fM_is_20 (s0 : Int32) (s1 : Int32) (o0 : cf_O) : Option (Int32) :=
  (if s0 = s1 then fM_is_28 0 o0 else fM_is_28 1 o0)
noncomputable def fM_is_0 (v1 : Int32) (o0 : cf_O) : Option (Int32) :=
  op_k (v1 / 2) (fun x_1 => (if x_1 < 0 ∨ 210 ≤ x_1.toNatClampNeg then none else op_k (o0.2.1 75 x_1.toNatClampNeg) (fun x_3 => op_k (v1 - v1 / 2 * 2) (fun x_4 => (if x_4 = (1 : Int32) then fM_is_20 x_3 1 o0 else fM_is_20 x_3 0 o0)))))
noncomputable def fM_is (v1 : Int32) (o0 : cf_O) : Option (Int32) := fM_is_0 v1 o0
noncomputable def fM_value_187 (rc : Nat → Int32 → Int32 → Int32 → cf_O → Option (Int32 × cf_O)) (v3 : Int32) (s0 : Int32) (o0 : cf_O) : Option (Int32 × cf_O) :=
  op_k (v3 + 1) (fun x_1 => rc 2 0 s0 x_1 o0)
noncomputable def fM_value_157 (rc : Nat → Int32 → Int32 → Int32 → cf_O → Option (Int32 × cf_O)) (v2 : Int32) (v3 : Int32) (o0 : cf_O) : Option (Int32 × cf_O) :=
  (if (o0.1 40) ≤ v3 then some (v2, o0) else (if v3 < 0 ∨ 6 ≤ v3.toNatClampNeg then none else op_k (o0.2.1 47 v3.toNatClampNeg) (fun x_3 => Option.bind (fM_is x_3 o0) (fun q_4 => (if q_4 = (0 : Int32) then fM_value_187 rc v3 v2 o0 else op_k ((1 : Int32) <<< (v3 &&& 31)) (fun x_8 => op_k (v2 ||| x_8) (fun x_9 => fM_value_187 rc v3 x_9 o0)))))))
noncomputable def fM_value_146 (rc : Nat → Int32 → Int32 → Int32 → cf_O → Option (Int32 × cf_O)) (v2 : Int32) (s1 : Int32) (s2 : Int32) (o0 : cf_O) : Option (Int32 × cf_O) :=
  (if s1 < 0 ∨ 210 ≤ s1.toNatClampNeg then none else op_k (xp o0 75 s1.toNatClampNeg (vp_nar .boolean s2)) (fun o_2 => op_k (v2 + 1) (fun x_3 => rc 1 0 x_3 0 o_2)))
noncomputable def fM_value_145 (rc : Nat → Int32 → Int32 → Int32 → cf_O → Option (Int32 × cf_O)) (v2 : Int32) (s1 : Int32) (o0 : cf_O) : Option (Int32 × cf_O) :=
  fM_value_146 rc v2 s1 0 o0
noncomputable def fM_value_97 (rc : Nat → Int32 → Int32 → Int32 → cf_O → Option (Int32 × cf_O)) (v2 : Int32) (o0 : cf_O) : Option (Int32 × cf_O) :=
  (if (o0.1 43) ≤ v2 then rc 2 0 0 0 o0 else Option.bind (fM_base o0) (fun q_2 => op_k (q_2 + v2) (fun x_5 => (if v2 < 0 ∨ 201 ≤ v2.toNatClampNeg then none else op_k (o0.2.1 44 v2.toNatClampNeg) (fun x_7 => Option.bind (fM_is x_7 o0) (fun q_8 => (if q_8 = (0 : Int32) then fM_value_145 rc v2 x_5 o0 else (if v2 < 0 ∨ 201 ≤ v2.toNatClampNeg then none else op_k (o0.2.1 45 v2.toNatClampNeg) (fun x_13 => Option.bind (fM_is x_13 o0) (fun q_14 => (if q_14 = (0 : Int32) then fM_value_145 rc v2 x_5 o0 else fM_value_146 rc v2 x_5 1 o0)))))))))))
noncomputable def fM_value_88 (rc : Nat → Int32 → Int32 → Int32 → cf_O → Option (Int32 × cf_O)) (v1 : Int32) (v2 : Int32) (s1 : Int32) (s2 : Int32) (o0 : cf_O) : Option (Int32 × cf_O) :=
  (if s1 < 0 ∨ 210 ≤ s1.toNatClampNeg then none else op_k (xp o0 75 s1.toNatClampNeg (vp_nar .boolean s2)) (fun o_2 => op_k (v2 + 1) (fun x_3 => rc 0 v1 x_3 0 o_2)))
noncomputable def fM_value_59 (rc : Nat → Int32 → Int32 → Int32 → cf_O → Option (Int32 × cf_O)) (v1 : Int32) (v2 : Int32) (o0 : cf_O) : Option (Int32 × cf_O) :=
  (if (o0.1 39) ≤ v2 then rc 1 0 0 0 o0 else op_k (v2 + 1) (fun x_2 => op_k (v1 >>> (v2 &&& 31)) (fun x_3 => op_k (x_3 &&& 1) (fun x_4 => (if x_4 = (1 : Int32) then fM_value_88 rc v1 v2 x_2 1 o0 else fM_value_88 rc v1 v2 x_2 0 o0)))))
noncomputable def fM_value_41 (rc : Nat → Int32 → Int32 → Int32 → cf_O → Option (Int32 × cf_O)) (v1 : Int32) (s1 : Int32) (s2 : Int32) (o0 : cf_O) : Option (Int32 × cf_O) :=
  Option.bind (fM_refuse s1 s2 0 o0) (fun q_1 => (if q_1.1 = (0 : Int32) then (if (0 : Int32) < 0 ∨ 210 ≤ (0 : Int32).toNatClampNeg then none else op_k (xp q_1.2 75 (0 : Int32).toNatClampNeg (vp_nar .boolean 0)) (fun o_6 => rc 0 v1 0 0 o_6)) else some ((0 : Int32), q_1.2)))
noncomputable def fM_value_40 (rc : Nat → Int32 → Int32 → Int32 → cf_O → Option (Int32 × cf_O)) (v1 : Int32) (s1 : Int32) (o0 : cf_O) : Option (Int32 × cf_O) :=
  fM_value_41 rc v1 s1 0 o0
noncomputable def fM_value_13 (rc : Nat → Int32 → Int32 → Int32 → cf_O → Option (Int32 × cf_O)) (v1 : Int32) (s1 : Int32) (o0 : cf_O) : Option (Int32 × cf_O) :=
  (if (o0.1 38) = (0 : Int32) then fM_value_40 rc v1 s1 o0 else op_k ((1 : Int32) <<< ((o0.1 39) &&& 31)) (fun x_2 => op_k (x_2 - 1) (fun x_3 => Option.bind (fM_in v1 0 x_3) (fun q_4 => (if q_4 = (0 : Int32) then fM_value_41 rc v1 s1 1 o0 else fM_value_40 rc v1 s1 o0)))))
noncomputable def fM_value_0 (rc : Nat → Int32 → Int32 → Int32 → cf_O → Option (Int32 × cf_O)) (v1 : Int32) (o0 : cf_O) : Option (Int32 × cf_O) :=
  (if (o0.1 38) = (0 : Int32) then fM_value_13 rc v1 1 o0 else fM_value_13 rc v1 0 o0)
noncomputable def gM_value (n : Nat) : Nat → Int32 → Int32 → Int32 → cf_O → Option (Int32 × cf_O) := Nat.rec (motive := fun _ => Nat → Int32 → Int32 → Int32 → cf_O → Option (Int32 × cf_O)) (fun _ _ _ _ _ => none) (fun _ rc => fun k u1i u2i u3i o0 => Nat.rec (motive := fun _ => Option (Int32 × cf_O)) (fM_value_59 rc u1i u2i o0) (fun k _ => Nat.rec (motive := fun _ => Option (Int32 × cf_O)) (fM_value_97 rc u2i o0) (fun k _ => Nat.rec (motive := fun _ => Option (Int32 × cf_O)) (fM_value_157 rc u2i u3i o0) (fun k _ => none) k) k) k) n
noncomputable def fM_value (v1 : Int32) (o0 : cf_O) : Option (Int32 × cf_O) := fM_value_0 (gM_value cfFU) v1 o0
noncomputable def fM_goesApart_33 (s0 : Int32) (o0 : cf_O) : Option (Int32) :=
  (if ¬ (s0 = 0 ∨ s0 = 1) then none else some s0)
noncomputable def fM_goesApart_32 (o0 : cf_O) : Option (Int32) :=
  fM_goesApart_33 0 o0
noncomputable def fM_goesApart_0 (v1 : Int32) (o0 : cf_O) : Option (Int32) :=
  op_k (v1 - v1 / 2 * 2) (fun x_1 => (if x_1 = (0 : Int32) then op_k (v1 / 2) (fun x_3 => Option.bind (fM_base o0) (fun q_4 => (if x_3 < q_4 then fM_goesApart_32 o0 else op_k (v1 / 2) (fun x_8 => (if x_8 < 0 ∨ 210 ≤ x_8.toNatClampNeg then none else op_k (o0.2.1 48 x_8.toNatClampNeg) (fun x_10 => (if x_10 = (1 : Int32) then fM_goesApart_33 1 o0 else fM_goesApart_32 o0))))))) else fM_goesApart_32 o0))
noncomputable def fM_goesApart (v1 : Int32) (o0 : cf_O) : Option (Int32) := fM_goesApart_0 v1 o0
noncomputable def fM_look_294 (rc : Nat → Int32 → cf_O → Option (cf_O)) (v1 : Int32) (o0 : cf_O) : Option (cf_O) :=
  op_k (v1 + 1) (fun x_1 => rc 3 x_1 o0)
noncomputable def fM_look_293 (rc : Nat → Int32 → cf_O → Option (cf_O)) (v1 : Int32) (s1 : Int32) (s2 : Int32) (o0 : cf_O) : Option (cf_O) :=
  (if s1 < 0 ∨ 210 ≤ s1.toNatClampNeg then none else op_k (xp o0 50 s1.toNatClampNeg (vp_nar .boolean s2)) (fun o_2 => fM_look_294 rc v1 o_2))
noncomputable def fM_look_288 (rc : Nat → Int32 → cf_O → Option (cf_O)) (v1 : Int32) (s1 : Int32) (o0 : cf_O) : Option (cf_O) :=
  fM_look_293 rc v1 s1 1 o0
noncomputable def fM_look_246 (rc : Nat → Int32 → cf_O → Option (cf_O)) (v1 : Int32) (s1 : Int32) (s2 : Int32) (o0 : cf_O) : Option (cf_O) :=
  (if s1 < 0 ∨ 210 ≤ s1.toNatClampNeg then none else op_k (xp o0 50 s1.toNatClampNeg (vp_nar .boolean s2)) (fun o_2 => (if v1 < 0 ∨ 201 ≤ v1.toNatClampNeg then none else op_k (o_2.2.1 45 v1.toNatClampNeg) (fun x_4 => op_k (x_4 / 2) (fun x_5 => (if v1 < 0 ∨ 201 ≤ v1.toNatClampNeg then none else op_k (o_2.2.1 45 v1.toNatClampNeg) (fun x_7 => op_k (x_7 / 2) (fun x_8 => (if x_8 < 0 ∨ 210 ≤ x_8.toNatClampNeg then none else op_k (o_2.2.1 50 x_8.toNatClampNeg) (fun x_10 => (if x_10 = (0 : Int32) then (if v1 < 0 ∨ 201 ≤ v1.toNatClampNeg then none else op_k (o_2.2.1 45 v1.toNatClampNeg) (fun x_13 => Option.bind (fM_goesApart x_13 o_2) (fun q_14 => (if q_14 = (0 : Int32) then fM_look_293 rc v1 x_5 0 o_2 else fM_look_288 rc v1 x_5 o_2)))) else fM_look_288 rc v1 x_5 o_2)))))))))))
noncomputable def fM_look_241 (rc : Nat → Int32 → cf_O → Option (cf_O)) (v1 : Int32) (s1 : Int32) (o0 : cf_O) : Option (cf_O) :=
  fM_look_246 rc v1 s1 1 o0
noncomputable def fM_look_178 (rc : Nat → Int32 → cf_O → Option (cf_O)) (v1 : Int32) (o0 : cf_O) : Option (cf_O) :=
  (if (o0.1 43) ≤ v1 then some o0 else Option.bind (fM_base o0) (fun q_2 => op_k (q_2 + v1) (fun x_5 => (if x_5 < 0 ∨ 210 ≤ x_5.toNatClampNeg then none else op_k (o0.2.1 49 x_5.toNatClampNeg) (fun x_7 => (if x_7 = (0 : Int32) then fM_look_294 rc v1 o0 else (if v1 < 0 ∨ 201 ≤ v1.toNatClampNeg then none else op_k (o0.2.1 44 v1.toNatClampNeg) (fun x_10 => op_k (x_10 / 2) (fun x_11 => (if v1 < 0 ∨ 201 ≤ v1.toNatClampNeg then none else op_k (o0.2.1 44 v1.toNatClampNeg) (fun x_13 => op_k (x_13 / 2) (fun x_14 => (if x_14 < 0 ∨ 210 ≤ x_14.toNatClampNeg then none else op_k (o0.2.1 50 x_14.toNatClampNeg) (fun x_16 => (if x_16 = (0 : Int32) then (if v1 < 0 ∨ 201 ≤ v1.toNatClampNeg then none else op_k (o0.2.1 44 v1.toNatClampNeg) (fun x_19 => Option.bind (fM_goesApart x_19 o0) (fun q_20 => (if q_20 = (0 : Int32) then fM_look_246 rc v1 x_11 0 o0 else fM_look_241 rc v1 x_11 o0)))) else fM_look_241 rc v1 x_11 o0)))))))))))))))
noncomputable def fM_look_170 (rc : Nat → Int32 → cf_O → Option (cf_O)) (v1 : Int32) (o0 : cf_O) : Option (cf_O) :=
  op_k (v1 + (-1)) (fun x_1 => rc 2 x_1 o0)
noncomputable def fM_look_90 (rc : Nat → Int32 → cf_O → Option (cf_O)) (v1 : Int32) (o0 : cf_O) : Option (cf_O) :=
  (if v1 < (0 : Int32) then rc 3 0 o0 else Option.bind (fM_base o0) (fun q_2 => op_k (q_2 + v1) (fun x_5 => (if x_5 < 0 ∨ 210 ≤ x_5.toNatClampNeg then none else op_k (o0.2.1 49 x_5.toNatClampNeg) (fun x_7 => (if x_7 = (0 : Int32) then fM_look_170 rc v1 o0 else (if v1 < 0 ∨ 201 ≤ v1.toNatClampNeg then none else op_k (o0.2.1 44 v1.toNatClampNeg) (fun x_10 => op_k (x_10 / 2) (fun x_11 => (if x_11 < 0 ∨ 210 ≤ x_11.toNatClampNeg then none else op_k (xp o0 49 x_11.toNatClampNeg (vp_nar .boolean 1)) (fun o_13 => (if v1 < 0 ∨ 201 ≤ v1.toNatClampNeg then none else op_k (o_13.2.1 45 v1.toNatClampNeg) (fun x_15 => op_k (x_15 / 2) (fun x_16 => (if x_16 < 0 ∨ 210 ≤ x_16.toNatClampNeg then none else op_k (xp o_13 49 x_16.toNatClampNeg (vp_nar .boolean 1)) (fun o_18 => (if v1 < 0 ∨ 201 ≤ v1.toNatClampNeg then none else op_k (o_18.2.1 44 v1.toNatClampNeg) (fun x_20 => op_k (x_20 / 2) (fun x_21 => (if x_21 < 0 ∨ 210 ≤ x_21.toNatClampNeg then none else op_k (o_18.2.1 48 x_21.toNatClampNeg) (fun x_23 => op_k (x_23 + 1) (fun x_24 => (if x_21 < 0 ∨ 210 ≤ x_21.toNatClampNeg then none else op_k (xp o_18 48 x_21.toNatClampNeg x_24) (fun o_26 => (if v1 < 0 ∨ 201 ≤ v1.toNatClampNeg then none else op_k (o_26.2.1 45 v1.toNatClampNeg) (fun x_28 => op_k (x_28 / 2) (fun x_29 => (if x_29 < 0 ∨ 210 ≤ x_29.toNatClampNeg then none else op_k (o_26.2.1 48 x_29.toNatClampNeg) (fun x_31 => op_k (x_31 + 1) (fun x_32 => (if x_29 < 0 ∨ 210 ≤ x_29.toNatClampNeg then none else op_k (xp o_26 48 x_29.toNatClampNeg x_32) (fun o_34 => fM_look_170 rc v1 o_34))))))))))))))))))))))))))))))))
noncomputable def fM_look_38 (rc : Nat → Int32 → cf_O → Option (cf_O)) (v1 : Int32) (o0 : cf_O) : Option (cf_O) :=
  (if (o0.1 40) ≤ v1 then op_k ((o0.1 43) - 1) (fun x_2 => rc 2 x_2 o0) else (if v1 < 0 ∨ 6 ≤ v1.toNatClampNeg then none else op_k (o0.2.1 47 v1.toNatClampNeg) (fun x_4 => op_k (x_4 / 2) (fun x_5 => (if x_5 < 0 ∨ 210 ≤ x_5.toNatClampNeg then none else op_k (xp o0 49 x_5.toNatClampNeg (vp_nar .boolean 1)) (fun o_7 => (if v1 < 0 ∨ 6 ≤ v1.toNatClampNeg then none else op_k (o_7.2.1 47 v1.toNatClampNeg) (fun x_9 => op_k (x_9 / 2) (fun x_10 => (if x_10 < 0 ∨ 210 ≤ x_10.toNatClampNeg then none else op_k (o_7.2.1 48 x_10.toNatClampNeg) (fun x_12 => op_k (x_12 + 1) (fun x_13 => (if x_10 < 0 ∨ 210 ≤ x_10.toNatClampNeg then none else op_k (xp o_7 48 x_10.toNatClampNeg x_13) (fun o_15 => op_k (v1 + 1) (fun x_16 => rc 1 x_16 o_15)))))))))))))))
noncomputable def fM_look_2 (rc : Nat → Int32 → cf_O → Option (cf_O)) (v1 : Int32) (o0 : cf_O) : Option (cf_O) :=
  (if (210 : Int32) ≤ v1 then rc 1 0 o0 else (if v1 < 0 ∨ 210 ≤ v1.toNatClampNeg then none else op_k (xp o0 49 v1.toNatClampNeg (vp_nar .boolean 0)) (fun o_3 => (if v1 < 0 ∨ 210 ≤ v1.toNatClampNeg then none else op_k (xp o_3 48 v1.toNatClampNeg 0) (fun o_5 => (if v1 < 0 ∨ 210 ≤ v1.toNatClampNeg then none else op_k (xp o_5 50 v1.toNatClampNeg (vp_nar .boolean 0)) (fun o_7 => op_k (v1 + 1) (fun x_8 => rc 0 x_8 o_7))))))))
noncomputable def fM_look_0 (rc : Nat → Int32 → cf_O → Option (cf_O)) (o0 : cf_O) : Option (cf_O) :=
  rc 0 0 o0
noncomputable def gM_look (n : Nat) : Nat → Int32 → cf_O → Option (cf_O) := Nat.rec (motive := fun _ => Nat → Int32 → cf_O → Option (cf_O)) (fun _ _ _ => none) (fun _ rc => fun k u1i o0 => Nat.rec (motive := fun _ => Option (cf_O)) (fM_look_2 rc u1i o0) (fun k _ => Nat.rec (motive := fun _ => Option (cf_O)) (fM_look_38 rc u1i o0) (fun k _ => Nat.rec (motive := fun _ => Option (cf_O)) (fM_look_90 rc u1i o0) (fun k _ => Nat.rec (motive := fun _ => Option (cf_O)) (fM_look_178 rc u1i o0) (fun k _ => none) k) k) k) k) n
noncomputable def fM_look (o0 : cf_O) : Option (cf_O) := fM_look_0 (gM_look cfFU) o0
noncomputable def fM_leaves_154 (rc : Nat → cf_O → Option (cf_O)) (o0 : cf_O) : Option (cf_O) :=
  rc 0 o0
noncomputable def fM_leaves_34 (rc : Nat → cf_O → Option (cf_O)) (o0 : cf_O) : Option (cf_O) :=
  (if (o0.1 54) ≤ (0 : Int32) then some o0 else op_k ((o0.1 54) - 1) (fun x_2 => op_k (fp o0 54 x_2) (fun o_3 => (if (o_3.1 54) < 0 ∨ 420 ≤ (o_3.1 54).toNatClampNeg then none else op_k (o_3.2.1 55 (o_3.1 54).toNatClampNeg) (fun x_5 => Option.bind (fM_goesApart x_5 o_3) (fun q_6 => (if q_6 = (0 : Int32) then op_k (x_5 / 2) (fun x_10 => (if x_10 < 0 ∨ 210 ≤ x_10.toNatClampNeg then none else op_k (o_3.2.1 51 x_10.toNatClampNeg) (fun x_12 => op_k (x_5 &&& 1) (fun x_13 => op_k (x_12 ^^^ x_13) (fun x_14 => (if (o_3.1 52) < 0 ∨ 420 ≤ (o_3.1 52).toNatClampNeg then none else op_k (xp o_3 53 (o_3.1 52).toNatClampNeg x_14) (fun o_16 => op_k ((o_16.1 52) + 1) (fun x_17 => op_k (fp o_16 52 x_17) (fun o_18 => fM_leaves_154 rc o_18))))))))) else op_k (x_5 / 2) (fun x_19 => Option.bind (fM_base o_3) (fun q_20 => op_k (x_19 - q_20) (fun x_23 => (if x_23 < 0 ∨ 201 ≤ x_23.toNatClampNeg then none else op_k (o_3.2.1 45 x_23.toNatClampNeg) (fun x_25 => (if (o_3.1 54) < 0 ∨ 420 ≤ (o_3.1 54).toNatClampNeg then none else op_k (xp o_3 55 (o_3.1 54).toNatClampNeg x_25) (fun o_27 => op_k ((o_27.1 54) + 1) (fun x_28 => (if x_23 < 0 ∨ 201 ≤ x_23.toNatClampNeg then none else op_k (o_27.2.1 44 x_23.toNatClampNeg) (fun x_30 => (if x_28 < 0 ∨ 420 ≤ x_28.toNatClampNeg then none else op_k (xp o_27 55 x_28.toNatClampNeg x_30) (fun o_32 => op_k ((o_32.1 54) + 2) (fun x_33 => op_k (fp o_32 54 x_33) (fun o_34 => fM_leaves_154 rc o_34)))))))))))))))))))))
noncomputable def fM_leaves_0 (rc : Nat → cf_O → Option (cf_O)) (v1 : Int32) (o0 : cf_O) : Option (cf_O) :=
  op_k (fp o0 52 0) (fun o_1 => op_k (fp o_1 54 2) (fun o_2 => (if v1 < 0 ∨ 201 ≤ v1.toNatClampNeg then none else op_k (o_2.2.1 45 v1.toNatClampNeg) (fun x_4 => (if (0 : Int32) < 0 ∨ 420 ≤ (0 : Int32).toNatClampNeg then none else op_k (xp o_2 55 (0 : Int32).toNatClampNeg x_4) (fun o_6 => (if v1 < 0 ∨ 201 ≤ v1.toNatClampNeg then none else op_k (o_6.2.1 44 v1.toNatClampNeg) (fun x_8 => (if (1 : Int32) < 0 ∨ 420 ≤ (1 : Int32).toNatClampNeg then none else op_k (xp o_6 55 (1 : Int32).toNatClampNeg x_8) (fun o_10 => rc 0 o_10))))))))))
noncomputable def gM_leaves (n : Nat) : Nat → cf_O → Option (cf_O) := Nat.rec (motive := fun _ => Nat → cf_O → Option (cf_O)) (fun _ _ => none) (fun _ rc => fun k o0 => Nat.rec (motive := fun _ => Option (cf_O)) (fM_leaves_34 rc o0) (fun k _ => none) k) n
noncomputable def fM_leaves (v1 : Int32) (o0 : cf_O) : Option (cf_O) := fM_leaves_0 (gM_leaves cfFU) v1 o0
noncomputable def fM_takeLeast_72 (rc : Nat → Int32 → Int32 → Int32 → cf_O → Option (Int32 × cf_O)) (v2 : Int32) (v3 : Int32) (o0 : cf_O) : Option (Int32 × cf_O) :=
  (if (o0.1 52) ≤ v3 then some (v2, o0) else op_k (v3 + 1) (fun x_2 => (if x_2 < 0 ∨ 420 ≤ x_2.toNatClampNeg then none else op_k (o0.2.1 53 x_2.toNatClampNeg) (fun x_4 => (if v3 < 0 ∨ 420 ≤ v3.toNatClampNeg then none else op_k (xp o0 53 v3.toNatClampNeg x_4) (fun o_6 => op_k (v3 + 1) (fun x_7 => rc 1 0 v2 x_7 o_6)))))))
noncomputable def fM_takeLeast_46 (rc : Nat → Int32 → Int32 → Int32 → cf_O → Option (Int32 × cf_O)) (v2 : Int32) (s0 : Int32) (o0 : cf_O) : Option (Int32 × cf_O) :=
  op_k (v2 + 1) (fun x_1 => rc 0 s0 x_1 0 o0)
noncomputable def fM_takeLeast_4 (rc : Nat → Int32 → Int32 → Int32 → cf_O → Option (Int32 × cf_O)) (v1 : Int32) (v2 : Int32) (o0 : cf_O) : Option (Int32 × cf_O) :=
  (if (o0.1 52) ≤ v2 then (if v1 < 0 ∨ 420 ≤ v1.toNatClampNeg then none else op_k (o0.2.1 53 v1.toNatClampNeg) (fun x_3 => op_k ((o0.1 52) - 1) (fun x_4 => op_k (fp o0 52 x_4) (fun o_5 => rc 1 0 x_3 v1 o_5)))) else (if v2 < 0 ∨ 420 ≤ v2.toNatClampNeg then none else op_k (o0.2.1 53 v2.toNatClampNeg) (fun x_7 => op_k (x_7 / 2) (fun x_8 => (if x_8 < 0 ∨ 210 ≤ x_8.toNatClampNeg then none else op_k (o0.2.1 34 x_8.toNatClampNeg) (fun x_10 => (if v1 < 0 ∨ 420 ≤ v1.toNatClampNeg then none else op_k (o0.2.1 53 v1.toNatClampNeg) (fun x_12 => op_k (x_12 / 2) (fun x_13 => (if x_13 < 0 ∨ 210 ≤ x_13.toNatClampNeg then none else op_k (o0.2.1 34 x_13.toNatClampNeg) (fun x_15 => (if x_15 ≤ x_10 then fM_takeLeast_46 rc v2 v1 o0 else fM_takeLeast_46 rc v2 v2 o0))))))))))))
noncomputable def fM_takeLeast_0 (rc : Nat → Int32 → Int32 → Int32 → cf_O → Option (Int32 × cf_O)) (o0 : cf_O) : Option (Int32 × cf_O) :=
  rc 0 0 1 0 o0
noncomputable def gM_takeLeast (n : Nat) : Nat → Int32 → Int32 → Int32 → cf_O → Option (Int32 × cf_O) := Nat.rec (motive := fun _ => Nat → Int32 → Int32 → Int32 → cf_O → Option (Int32 × cf_O)) (fun _ _ _ _ _ => none) (fun _ rc => fun k u1i u2i u3i o0 => Nat.rec (motive := fun _ => Option (Int32 × cf_O)) (fM_takeLeast_4 rc u1i u2i o0) (fun k _ => Nat.rec (motive := fun _ => Option (Int32 × cf_O)) (fM_takeLeast_72 rc u2i u3i o0) (fun k _ => none) k) k) n
noncomputable def fM_takeLeast (o0 : cf_O) : Option (Int32 × cf_O) := fM_takeLeast_0 (gM_takeLeast cfFU) o0
noncomputable def fM_old_2 (rc : Nat → Int32 → cf_O → Option (cf_O)) (v1 : Int32) (o0 : cf_O) : Option (cf_O) :=
  Option.bind (fM_base o0) (fun q_1 => (if q_1 ≤ v1 then some o0 else op_k (2 * v1) (fun x_5 => (if v1 < 0 ∨ 210 ≤ v1.toNatClampNeg then none else op_k (xp o0 51 v1.toNatClampNeg x_5) (fun o_7 => op_k (v1 + 1) (fun x_8 => rc 0 x_8 o_7))))))
noncomputable def fM_old_0 (rc : Nat → Int32 → cf_O → Option (cf_O)) (o0 : cf_O) : Option (cf_O) :=
  rc 0 0 o0
noncomputable def gM_old (n : Nat) : Nat → Int32 → cf_O → Option (cf_O) := Nat.rec (motive := fun _ => Nat → Int32 → cf_O → Option (cf_O)) (fun _ _ _ => none) (fun _ rc => fun k u1i o0 => Nat.rec (motive := fun _ => Option (cf_O)) (fM_old_2 rc u1i o0) (fun k _ => none) k) n
noncomputable def fM_old (o0 : cf_O) : Option (cf_O) := fM_old_0 (gM_old cfFU) o0
noncomputable def fM_finish_57 (rc : Nat → Int32 → cf_O → Option (Int32 × cf_O)) (s1 : Int32) (o0 : cf_O) : Option (Int32 × cf_O) :=
  Option.bind (fM_refuse s1 (o0.1 36) 0 o0) (fun q_1 => (if q_1.1 = (0 : Int32) then Option.bind (fM_take q_1.2) (fun q_5 => some (q_5.1 43, q_5)) else some ((0 : Int32), q_1.2)))
noncomputable def fM_finish_2 (rc : Nat → Int32 → cf_O → Option (Int32 × cf_O)) (v1 : Int32) (o0 : cf_O) : Option (Int32 × cf_O) :=
  (if (o0.1 40) ≤ v1 then (if (o0.1 38) = (0 : Int32) then fM_finish_57 rc 1 o0 else fM_finish_57 rc 0 o0) else (if v1 < 0 ∨ 6 ≤ v1.toNatClampNeg then none else op_k (o0.2.1 47 v1.toNatClampNeg) (fun x_4 => op_k (x_4 / 2) (fun x_5 => (if x_5 < 0 ∨ 210 ≤ x_5.toNatClampNeg then none else op_k (o0.2.1 51 x_5.toNatClampNeg) (fun x_7 => (if v1 < 0 ∨ 6 ≤ v1.toNatClampNeg then none else op_k (o0.2.1 47 v1.toNatClampNeg) (fun x_9 => op_k (x_9 &&& 1) (fun x_10 => op_k (x_7 ^^^ x_10) (fun x_11 => (if v1 < 0 ∨ 6 ≤ v1.toNatClampNeg then none else op_k (xp o0 35 v1.toNatClampNeg x_11) (fun o_13 => op_k (v1 + 1) (fun x_14 => rc 0 x_14 o_13)))))))))))))
noncomputable def fM_finish_0 (rc : Nat → Int32 → cf_O → Option (Int32 × cf_O)) (o0 : cf_O) : Option (Int32 × cf_O) :=
  rc 0 0 o0
noncomputable def gM_finish (n : Nat) : Nat → Int32 → cf_O → Option (Int32 × cf_O) := Nat.rec (motive := fun _ => Nat → Int32 → cf_O → Option (Int32 × cf_O)) (fun _ _ _ => none) (fun _ rc => fun k u1i o0 => Nat.rec (motive := fun _ => Option (Int32 × cf_O)) (fM_finish_2 rc u1i o0) (fun k _ => none) k) n
noncomputable def fM_finish (o0 : cf_O) : Option (Int32 × cf_O) := fM_finish_0 (gM_finish cfFU) o0
noncomputable def fM_balance_148 (rc : Nat → Int32 → cf_O → Option (Int32 × cf_O)) (v1 : Int32) (o0 : cf_O) : Option (Int32 × cf_O) :=
  op_k (v1 + 1) (fun x_1 => rc 0 x_1 o0)
noncomputable def fM_balance_85 (rc : Nat → Int32 → cf_O → Option (Int32 × cf_O)) (v1 : Int32) (o0 : cf_O) : Option (Int32 × cf_O) :=
  (if (o0.1 52) ≤ (1 : Int32) then Option.bind (fM_base o0) (fun q_2 => op_k (q_2 + v1) (fun x_5 => (if (0 : Int32) < 0 ∨ 420 ≤ (0 : Int32).toNatClampNeg then none else op_k (o0.2.1 53 (0 : Int32).toNatClampNeg) (fun x_7 => (if x_5 < 0 ∨ 210 ≤ x_5.toNatClampNeg then none else op_k (xp o0 51 x_5.toNatClampNeg x_7) (fun o_9 => fM_balance_148 rc v1 o_9)))))) else Option.bind (fM_takeLeast o0) (fun q_10 => Option.bind (fM_takeLeast q_10.2) (fun q_13 => Option.bind (fM_and q_10.1 q_13.1 q_13.2) (fun q_16 => (if (q_13.2.1 52) < 0 ∨ 420 ≤ (q_13.2.1 52).toNatClampNeg then none else op_k (xp q_16.2 53 (q_13.2.1 52).toNatClampNeg q_16.1) (fun o_20 => op_k ((o_20.1 52) + 1) (fun x_21 => op_k (fp o_20 52 x_21) (fun o_22 => rc 1 v1 o_22))))))))
noncomputable def fM_balance_41 (rc : Nat → Int32 → cf_O → Option (Int32 × cf_O)) (v1 : Int32) (o0 : cf_O) : Option (Int32 × cf_O) :=
  (if (o0.1 43) ≤ v1 then Option.bind (fM_finish o0) (fun q_2 => some (q_2.1, q_2.2)) else Option.bind (fM_base o0) (fun q_5 => op_k (q_5 + v1) (fun x_8 => (if x_8 < 0 ∨ 210 ≤ x_8.toNatClampNeg then none else op_k (o0.2.1 49 x_8.toNatClampNeg) (fun x_10 => (if x_10 = (0 : Int32) then fM_balance_148 rc v1 o0 else Option.bind (fM_base o0) (fun q_12 => op_k (q_12 + v1) (fun x_15 => (if x_15 < 0 ∨ 210 ≤ x_15.toNatClampNeg then none else op_k (o0.2.1 50 x_15.toNatClampNeg) (fun x_17 => (if x_17 = (0 : Int32) then Option.bind (fM_leaves v1 o0) (fun q_19 => rc 1 v1 q_19) else fM_balance_148 rc v1 o0)))))))))))
noncomputable def fM_balance_13 (rc : Nat → Int32 → cf_O → Option (Int32 × cf_O)) (s1 : Int32) (o0 : cf_O) : Option (Int32 × cf_O) :=
  Option.bind (fM_refuse s1 0 0 o0) (fun q_1 => (if q_1.1 = (0 : Int32) then Option.bind (fM_look q_1.2) (fun q_5 => Option.bind (fM_base q_5) (fun q_7 => Option.bind (fM_begin q_7 q_5) (fun q_10 => Option.bind (fM_old q_10) (fun q_12 => rc 0 0 q_12)))) else some ((0 : Int32), q_1.2)))
noncomputable def fM_balance_0 (rc : Nat → Int32 → cf_O → Option (Int32 × cf_O)) (o0 : cf_O) : Option (Int32 × cf_O) :=
  (if (o0.1 38) = (0 : Int32) then fM_balance_13 rc 1 o0 else fM_balance_13 rc 0 o0)
noncomputable def gM_balance (n : Nat) : Nat → Int32 → cf_O → Option (Int32 × cf_O) := Nat.rec (motive := fun _ => Nat → Int32 → cf_O → Option (Int32 × cf_O)) (fun _ _ _ => none) (fun _ rc => fun k u1i o0 => Nat.rec (motive := fun _ => Option (Int32 × cf_O)) (fM_balance_41 rc u1i o0) (fun k _ => Nat.rec (motive := fun _ => Option (Int32 × cf_O)) (fM_balance_85 rc u1i o0) (fun k _ => none) k) k) n
noncomputable def fM_balance (o0 : cf_O) : Option (Int32 × cf_O) := fM_balance_0 (gM_balance cfFU) o0
noncomputable def fM_reckon_114 (rc : Nat → Int32 → Int32 → Int32 → cf_O → Option (cf_O)) (v1 : Int32) (v2 : Int32) (v3 : Int32) (s1 : Int32) (s2 : Int64) (o0 : cf_O) : Option (cf_O) :=
  (if s1 < 0 ∨ 840 ≤ s1.toNatClampNeg then none else op_k (yp o0 56 s1.toNatClampNeg s2) (fun o_2 => op_k (v3 + 1) (fun x_3 => rc 2 v1 v2 x_3 o_2)))
noncomputable def fM_reckon_44 (rc : Nat → Int32 → Int32 → Int32 → cf_O → Option (cf_O)) (v1 : Int32) (v2 : Int32) (v3 : Int32) (o0 : cf_O) : Option (cf_O) :=
  Option.bind (fM_base o0) (fun q_1 => op_k (q_1 + (o0.1 43)) (fun x_4 => (if x_4 ≤ v3 then op_k (v2 + 1) (fun x_6 => rc 1 v1 x_6 0 o0) else op_k (4 * v3) (fun x_7 => op_k (v2 / 64) (fun x_8 => op_k (x_7 + x_8) (fun x_9 => (if v3 < 0 ∨ 210 ≤ v3.toNatClampNeg then none else op_k (o0.2.1 75 v3.toNatClampNeg) (fun x_11 => (if x_11 = (0 : Int32) then op_k (4 * v3) (fun x_13 => op_k (v2 / 64) (fun x_14 => op_k (x_13 + x_14) (fun x_15 => (if x_15 < 0 ∨ 840 ≤ x_15.toNatClampNeg then none else op_k (o0.2.2 56 x_15.toNatClampNeg) (fun x_17 => fM_reckon_114 rc v1 v2 v3 x_9 x_17 o0))))) else op_k (4 * v3) (fun x_18 => op_k (v2 / 64) (fun x_19 => op_k (x_18 + x_19) (fun x_20 => (if x_20 < 0 ∨ 840 ≤ x_20.toNatClampNeg then none else op_k (o0.2.2 56 x_20.toNatClampNeg) (fun x_22 => op_k (v2 - v2 / 64 * 64) (fun x_23 => op_k ((1 : Int64) <<< (x_23.toInt64 &&& 63)) (fun x_24 => op_k (x_22 ||| x_24) (fun x_25 => fM_reckon_114 rc v1 v2 v3 x_9 x_25 o0)))))))))))))))))
noncomputable def fM_reckon_31 (rc : Nat → Int32 → Int32 → Int32 → cf_O → Option (cf_O)) (v1 : Int32) (v2 : Int32) (o0 : cf_O) : Option (cf_O) :=
  (if v1 ≤ v2 then some o0 else Option.bind (fM_value v2 o0) (fun q_2 => rc 2 v1 v2 0 q_2.2))
noncomputable def fM_reckon_9 (rc : Nat → Int32 → Int32 → Int32 → cf_O → Option (cf_O)) (v1 : Int32) (v2 : Int32) (o0 : cf_O) : Option (cf_O) :=
  (if (840 : Int32) ≤ v2 then rc 1 v1 0 0 o0 else (if v2 < 0 ∨ 840 ≤ v2.toNatClampNeg then none else op_k (yp o0 56 v2.toNatClampNeg 0) (fun o_3 => op_k (v2 + 1) (fun x_4 => rc 0 v1 x_4 0 o_3))))
noncomputable def fM_reckon_0 (rc : Nat → Int32 → Int32 → Int32 → cf_O → Option (cf_O)) (o0 : cf_O) : Option (cf_O) :=
  op_k ((1 : Int32) <<< ((o0.1 39) &&& 31)) (fun x_1 => rc 0 x_1 0 0 o0)
noncomputable def gM_reckon (n : Nat) : Nat → Int32 → Int32 → Int32 → cf_O → Option (cf_O) := Nat.rec (motive := fun _ => Nat → Int32 → Int32 → Int32 → cf_O → Option (cf_O)) (fun _ _ _ _ _ => none) (fun _ rc => fun k u1i u2i u3i o0 => Nat.rec (motive := fun _ => Option (cf_O)) (fM_reckon_9 rc u1i u2i o0) (fun k _ => Nat.rec (motive := fun _ => Option (cf_O)) (fM_reckon_31 rc u1i u2i o0) (fun k _ => Nat.rec (motive := fun _ => Option (cf_O)) (fM_reckon_44 rc u1i u2i u3i o0) (fun k _ => none) k) k) k) n
noncomputable def fM_reckon (o0 : cf_O) : Option (cf_O) := fM_reckon_0 (gM_reckon cfFU) o0
noncomputable def fM_agree_113 (rc : Nat → Int32 → Int32 → Int32 → Int32 → Int32 → Int32 → cf_O → Option (Int32)) (v1 : Int32) (v2 : Int32) (v3 : Int32) (v5 : Int32) (v6 : Int32) (s0 : Int32) (o0 : cf_O) : Option (Int32) :=
  op_k (v6 + 1) (fun x_1 => rc 0 v1 v2 v3 s0 v5 x_1 o0)
noncomputable def fM_agree_112 (rc : Nat → Int32 → Int32 → Int32 → Int32 → Int32 → Int32 → cf_O → Option (Int32)) (v1 : Int32) (v2 : Int32) (v3 : Int32) (v5 : Int32) (v6 : Int32) (o0 : cf_O) : Option (Int32) :=
  fM_agree_113 rc v1 v2 v3 v5 v6 0 o0
noncomputable def fM_agree_104 (rc : Nat → Int32 → Int32 → Int32 → Int32 → Int32 → Int32 → cf_O → Option (Int32)) (v1 : Int32) (v2 : Int32) (v3 : Int32) (v5 : Int32) (v6 : Int32) (s0 : Int64) (s1 : Int64) (o0 : cf_O) : Option (Int32) :=
  op_k (lg_cmp s0 s1) (fun x_1 => (if x_1 = (0 : Int32) then fM_agree_113 rc v1 v2 v3 v5 v6 1 o0 else fM_agree_112 rc v1 v2 v3 v5 v6 o0))
noncomputable def fM_agree_64 (rc : Nat → Int32 → Int32 → Int32 → Int32 → Int32 → Int32 → cf_O → Option (Int32)) (v1 : Int32) (v2 : Int32) (v3 : Int32) (v4 : Int32) (v5 : Int32) (v6 : Int32) (s0 : Int64) (o0 : cf_O) : Option (Int32) :=
  (if v4 = (0 : Int32) then fM_agree_112 rc v1 v2 v3 v5 v6 o0 else op_k (4 * v1) (fun x_2 => op_k (x_2 + v6) (fun x_3 => (if x_3 < 0 ∨ 840 ≤ x_3.toNatClampNeg then none else op_k (o0.2.2 56 x_3.toNatClampNeg) (fun x_5 => op_k (4 * v2) (fun x_6 => op_k (x_6 + v6) (fun x_7 => (if x_7 < 0 ∨ 840 ≤ x_7.toNatClampNeg then none else op_k (o0.2.2 56 x_7.toNatClampNeg) (fun x_9 => op_k (x_5 ^^^ x_9) (fun x_10 => (if v3 = (0 : Int32) then fM_agree_104 rc v1 v2 v3 v5 v6 x_10 0 o0 else fM_agree_104 rc v1 v2 v3 v5 v6 x_10 s0 o0)))))))))))
noncomputable def fM_agree_14 (rc : Nat → Int32 → Int32 → Int32 → Int32 → Int32 → Int32 → cf_O → Option (Int32)) (v1 : Int32) (v2 : Int32) (v3 : Int32) (v4 : Int32) (v5 : Int32) (v6 : Int32) (o0 : cf_O) : Option (Int32) :=
  (if (4 : Int32) ≤ v6 then (if ¬ (v4 = 0 ∨ v4 = 1) then none else some v4) else op_k (v6 + 1) (fun x_3 => op_k (64 * x_3) (fun x_4 => (if v5 < x_4 then op_k (64 * v6) (fun x_6 => (if v5 ≤ x_6 then fM_agree_64 rc v1 v2 v3 v4 v5 v6 0 o0 else op_k (64 * v6) (fun x_8 => op_k (v5 - x_8) (fun x_9 => op_k ((1 : Int64) <<< (x_9.toInt64 &&& 63)) (fun x_10 => op_k (x_10 - 1) (fun x_11 => fM_agree_64 rc v1 v2 v3 v4 v5 v6 x_11 o0)))))) else fM_agree_64 rc v1 v2 v3 v4 v5 v6 (-1) o0))))
noncomputable def fM_agree_0 (rc : Nat → Int32 → Int32 → Int32 → Int32 → Int32 → Int32 → cf_O → Option (Int32)) (v1 : Int32) (v2 : Int32) (v3 : Int32) (o0 : cf_O) : Option (Int32) :=
  op_k ((1 : Int32) <<< ((o0.1 39) &&& 31)) (fun x_1 => rc 0 v1 v2 v3 1 x_1 0 o0)
noncomputable def gM_agree (n : Nat) : Nat → Int32 → Int32 → Int32 → Int32 → Int32 → Int32 → cf_O → Option (Int32) := Nat.rec (motive := fun _ => Nat → Int32 → Int32 → Int32 → Int32 → Int32 → Int32 → cf_O → Option (Int32)) (fun _ _ _ _ _ _ _ _ => none) (fun _ rc => fun k u1i u2i u3i u4i u5i u6i o0 => Nat.rec (motive := fun _ => Option (Int32)) (fM_agree_14 rc u1i u2i u3i u4i u5i u6i o0) (fun k _ => none) k) n
noncomputable def fM_agree (v1 : Int32) (v2 : Int32) (v3 : Int32) (o0 : cf_O) : Option (Int32) := fM_agree_0 (gM_agree cfFU) v1 v2 v3 o0
noncomputable def fM_reduce_245 (rc : Nat → Int32 → Int32 → Int32 → Int32 → cf_O → Option (Int32 × cf_O)) (v1 : Int32) (o0 : cf_O) : Option (Int32 × cf_O) :=
  op_k (v1 + 1) (fun x_1 => rc 0 x_1 0 0 0 o0)
noncomputable def fM_reduce_177 (rc : Nat → Int32 → Int32 → Int32 → Int32 → cf_O → Option (Int32 × cf_O)) (v1 : Int32) (s1 : Int32) (s2 : Int32) (s3 : Int32) (o0 : cf_O) : Option (Int32 × cf_O) :=
  op_k (s2 ^^^ s3) (fun x_1 => (if s1 < 0 ∨ 210 ≤ s1.toNatClampNeg then none else op_k (xp o0 51 s1.toNatClampNeg x_1) (fun o_3 => fM_reduce_245 rc v1 o_3)))
noncomputable def fM_reduce_147 (rc : Nat → Int32 → Int32 → Int32 → Int32 → cf_O → Option (Int32 × cf_O)) (v1 : Int32) (v2 : Int32) (v3 : Int32) (o0 : cf_O) : Option (Int32 × cf_O) :=
  (if v3 < (0 : Int32) then (if v2 < 0 ∨ 210 ≤ v2.toNatClampNeg then none else op_k (o0.2.1 49 v2.toNatClampNeg) (fun x_3 => (if x_3 = (0 : Int32) then fM_reduce_245 rc v1 o0 else (if v1 < 0 ∨ 201 ≤ v1.toNatClampNeg then none else op_k (o0.2.1 44 v1.toNatClampNeg) (fun x_6 => op_k (x_6 / 2) (fun x_7 => (if x_7 < 0 ∨ 210 ≤ x_7.toNatClampNeg then none else op_k (o0.2.1 51 x_7.toNatClampNeg) (fun x_9 => (if v1 < 0 ∨ 201 ≤ v1.toNatClampNeg then none else op_k (o0.2.1 44 v1.toNatClampNeg) (fun x_11 => op_k (x_11 &&& 1) (fun x_12 => op_k (x_9 ^^^ x_12) (fun x_13 => (if v1 < 0 ∨ 201 ≤ v1.toNatClampNeg then none else op_k (o0.2.1 45 v1.toNatClampNeg) (fun x_15 => op_k (x_15 / 2) (fun x_16 => (if x_16 < 0 ∨ 210 ≤ x_16.toNatClampNeg then none else op_k (o0.2.1 51 x_16.toNatClampNeg) (fun x_18 => (if v1 < 0 ∨ 201 ≤ v1.toNatClampNeg then none else op_k (o0.2.1 45 v1.toNatClampNeg) (fun x_20 => op_k (x_20 &&& 1) (fun x_21 => op_k (x_18 ^^^ x_21) (fun x_22 => Option.bind (fM_and x_13 x_22 o0) (fun q_23 => (if v2 < 0 ∨ 210 ≤ v2.toNatClampNeg then none else op_k (xp q_23.2 51 v2.toNatClampNeg q_23.1) (fun o_27 => fM_reduce_245 rc v1 o_27)))))))))))))))))))))))) else (if v3 < 0 ∨ 210 ≤ v3.toNatClampNeg then none else op_k (o0.2.1 51 v3.toNatClampNeg) (fun x_29 => Option.bind (fM_agree v3 v2 1 o0) (fun q_30 => (if q_30 = (0 : Int32) then fM_reduce_177 rc v1 v2 x_29 0 o0 else fM_reduce_177 rc v1 v2 x_29 1 o0)))))
noncomputable def fM_reduce_140 (rc : Nat → Int32 → Int32 → Int32 → Int32 → cf_O → Option (Int32 × cf_O)) (v1 : Int32) (v2 : Int32) (v4 : Int32) (s0 : Int32) (o0 : cf_O) : Option (Int32 × cf_O) :=
  op_k (v4 + (-1)) (fun x_1 => rc 1 v1 v2 s0 x_1 o0)
noncomputable def fM_reduce_139 (rc : Nat → Int32 → Int32 → Int32 → Int32 → cf_O → Option (Int32 × cf_O)) (v1 : Int32) (v2 : Int32) (v3 : Int32) (v4 : Int32) (o0 : cf_O) : Option (Int32 × cf_O) :=
  fM_reduce_140 rc v1 v2 v4 v3 o0
noncomputable def fM_reduce_134 (rc : Nat → Int32 → Int32 → Int32 → Int32 → cf_O → Option (Int32 × cf_O)) (v1 : Int32) (v2 : Int32) (v4 : Int32) (o0 : cf_O) : Option (Int32 × cf_O) :=
  fM_reduce_140 rc v1 v2 v4 v4 o0
noncomputable def fM_reduce_105 (rc : Nat → Int32 → Int32 → Int32 → Int32 → cf_O → Option (Int32 × cf_O)) (v1 : Int32) (v2 : Int32) (v3 : Int32) (v4 : Int32) (s0 : Int32) (o0 : cf_O) : Option (Int32 × cf_O) :=
  (if s0 = (0 : Int32) then fM_reduce_139 rc v1 v2 v3 v4 o0 else Option.bind (fM_agree v4 v2 0 o0) (fun q_2 => (if q_2 = (0 : Int32) then Option.bind (fM_agree v4 v2 1 o0) (fun q_6 => (if q_6 = (0 : Int32) then fM_reduce_139 rc v1 v2 v3 v4 o0 else fM_reduce_134 rc v1 v2 v4 o0)) else fM_reduce_134 rc v1 v2 v4 o0)))
noncomputable def fM_reduce_100 (rc : Nat → Int32 → Int32 → Int32 → Int32 → cf_O → Option (Int32 × cf_O)) (v1 : Int32) (v2 : Int32) (v3 : Int32) (v4 : Int32) (o0 : cf_O) : Option (Int32 × cf_O) :=
  fM_reduce_105 rc v1 v2 v3 v4 1 o0
noncomputable def fM_reduce_67 (rc : Nat → Int32 → Int32 → Int32 → Int32 → cf_O → Option (Int32 × cf_O)) (v1 : Int32) (v2 : Int32) (v3 : Int32) (v4 : Int32) (o0 : cf_O) : Option (Int32 × cf_O) :=
  (if v4 < (0 : Int32) then fM_reduce_147 rc v1 v2 v3 o0 else (if v2 < 0 ∨ 210 ≤ v2.toNatClampNeg then none else op_k (o0.2.1 49 v2.toNatClampNeg) (fun x_3 => (if x_3 = (0 : Int32) then fM_reduce_147 rc v1 v2 v3 o0 else Option.bind (fM_base o0) (fun q_5 => (if v4 < q_5 then fM_reduce_100 rc v1 v2 v3 v4 o0 else (if v4 < 0 ∨ 210 ≤ v4.toNatClampNeg then none else op_k (o0.2.1 49 v4.toNatClampNeg) (fun x_10 => (if x_10 = (0 : Int32) then fM_reduce_105 rc v1 v2 v3 v4 0 o0 else fM_reduce_100 rc v1 v2 v3 v4 o0)))))))))
noncomputable def fM_reduce_45 (rc : Nat → Int32 → Int32 → Int32 → Int32 → cf_O → Option (Int32 × cf_O)) (v1 : Int32) (o0 : cf_O) : Option (Int32 × cf_O) :=
  (if (o0.1 43) ≤ v1 then Option.bind (fM_finish o0) (fun q_2 => some (q_2.1, q_2.2)) else Option.bind (fM_base o0) (fun q_5 => op_k (q_5 + v1) (fun x_8 => op_k (x_8 - 1) (fun x_9 => rc 1 v1 x_8 (-1) x_9 o0))))
noncomputable def fM_reduce_13 (rc : Nat → Int32 → Int32 → Int32 → Int32 → cf_O → Option (Int32 × cf_O)) (s1 : Int32) (o0 : cf_O) : Option (Int32 × cf_O) :=
  Option.bind (fM_refuse s1 0 0 o0) (fun q_1 => (if q_1.1 = (0 : Int32) then Option.bind (fM_look q_1.2) (fun q_5 => Option.bind (fM_reckon q_5) (fun q_7 => Option.bind (fM_base q_7) (fun q_9 => Option.bind (fM_begin q_9 q_7) (fun q_12 => Option.bind (fM_old q_12) (fun q_14 => rc 0 0 0 0 0 q_14))))) else some ((0 : Int32), q_1.2)))
noncomputable def fM_reduce_0 (rc : Nat → Int32 → Int32 → Int32 → Int32 → cf_O → Option (Int32 × cf_O)) (o0 : cf_O) : Option (Int32 × cf_O) :=
  (if (o0.1 38) = (0 : Int32) then fM_reduce_13 rc 1 o0 else fM_reduce_13 rc 0 o0)
noncomputable def gM_reduce (n : Nat) : Nat → Int32 → Int32 → Int32 → Int32 → cf_O → Option (Int32 × cf_O) := Nat.rec (motive := fun _ => Nat → Int32 → Int32 → Int32 → Int32 → cf_O → Option (Int32 × cf_O)) (fun _ _ _ _ _ _ => none) (fun _ rc => fun k u1i u2i u3i u4i o0 => Nat.rec (motive := fun _ => Option (Int32 × cf_O)) (fM_reduce_45 rc u1i o0) (fun k _ => Nat.rec (motive := fun _ => Option (Int32 × cf_O)) (fM_reduce_67 rc u1i u2i u3i u4i o0) (fun k _ => none) k) k) n
noncomputable def fM_reduce (o0 : cf_O) : Option (Int32 × cf_O) := fM_reduce_0 (gM_reduce cfFU) o0
noncomputable def fM_join_142 (rc : Nat → Int32 → Int32 → Int32 → Int32 → Int32 → cf_O → Option (Int32 × cf_O)) (v1 : Int32) (v2 : Int32) (v3 : Int32) (v5 : Int32) (s0 : Int32) (o0 : cf_O) : Option (Int32 × cf_O) :=
  rc 0 v1 v2 v3 s0 v5 o0
noncomputable def fM_join_125 (rc : Nat → Int32 → Int32 → Int32 → Int32 → Int32 → cf_O → Option (Int32 × cf_O)) (v1 : Int32) (v2 : Int32) (v4 : Int32) (v5 : Int32) (v6 : Int32) (v7 : Int32) (s0 : Int32) (o0 : cf_O) : Option (Int32 × cf_O) :=
  (if v6 < v7 then fM_join_142 rc v1 v2 s0 v5 v4 o0 else op_k (v4 + 1) (fun x_2 => fM_join_142 rc v1 v2 s0 v5 x_2 o0))
noncomputable def fM_join_107 (rc : Nat → Int32 → Int32 → Int32 → Int32 → Int32 → cf_O → Option (Int32 × cf_O)) (v1 : Int32) (v2 : Int32) (v3 : Int32) (v4 : Int32) (v5 : Int32) (v6 : Int32) (v7 : Int32) (s1 : Int32) (s2 : Int32) (o0 : cf_O) : Option (Int32 × cf_O) :=
  (if s1 < 0 ∨ 11 ≤ s1.toNatClampNeg then none else op_k (xp o0 61 s1.toNatClampNeg s2) (fun o_2 => op_k (v5 + 1) (fun x_3 => (if v7 < v6 then fM_join_125 rc v1 v2 v4 x_3 v6 v7 v3 o_2 else op_k (v3 + 1) (fun x_5 => fM_join_125 rc v1 v2 v4 x_3 v6 v7 x_5 o_2)))))
noncomputable def fM_join_85 (rc : Nat → Int32 → Int32 → Int32 → Int32 → Int32 → cf_O → Option (Int32 × cf_O)) (v1 : Int32) (v2 : Int32) (v3 : Int32) (v4 : Int32) (v5 : Int32) (v6 : Int32) (s0 : Int32) (o0 : cf_O) : Option (Int32 × cf_O) :=
  (if s0 ≤ v6 then fM_join_107 rc v1 v2 v3 v4 v5 v6 s0 v5 s0 o0 else fM_join_107 rc v1 v2 v3 v4 v5 v6 s0 v5 v6 o0)
noncomputable def fM_join_55 (rc : Nat → Int32 → Int32 → Int32 → Int32 → Int32 → cf_O → Option (Int32 × cf_O)) (v1 : Int32) (v2 : Int32) (v3 : Int32) (v4 : Int32) (v5 : Int32) (s0 : Int32) (o0 : cf_O) : Option (Int32 × cf_O) :=
  (if v2 < 0 ∨ 63210 ≤ v2.toNatClampNeg then none else op_k (o0.2.1 59 v2.toNatClampNeg) (fun x_2 => (if x_2 ≤ v4 then fM_join_85 rc v1 v2 v3 v4 v5 s0 999 o0 else op_k (5 * v2) (fun x_4 => op_k (x_4 + v4) (fun x_5 => (if x_5 < 0 ∨ 316050 ≤ x_5.toNatClampNeg then none else op_k (o0.2.1 58 x_5.toNatClampNeg) (fun x_7 => fM_join_85 rc v1 v2 v3 v4 v5 s0 x_7 o0)))))))
noncomputable def fM_join_29 (rc : Nat → Int32 → Int32 → Int32 → Int32 → Int32 → cf_O → Option (Int32 × cf_O)) (v1 : Int32) (v2 : Int32) (v3 : Int32) (v4 : Int32) (v5 : Int32) (o0 : cf_O) : Option (Int32 × cf_O) :=
  (if v1 < 0 ∨ 63210 ≤ v1.toNatClampNeg then none else op_k (o0.2.1 59 v1.toNatClampNeg) (fun x_2 => (if x_2 ≤ v3 then fM_join_55 rc v1 v2 v3 v4 v5 999 o0 else op_k (5 * v1) (fun x_4 => op_k (x_4 + v3) (fun x_5 => (if x_5 < 0 ∨ 316050 ≤ x_5.toNatClampNeg then none else op_k (o0.2.1 58 x_5.toNatClampNeg) (fun x_7 => fM_join_55 rc v1 v2 v3 v4 v5 x_7 o0)))))))
noncomputable def fM_join_8 (rc : Nat → Int32 → Int32 → Int32 → Int32 → Int32 → cf_O → Option (Int32 × cf_O)) (v1 : Int32) (v2 : Int32) (v3 : Int32) (v4 : Int32) (v5 : Int32) (o0 : cf_O) : Option (Int32 × cf_O) :=
  (if v1 < 0 ∨ 63210 ≤ v1.toNatClampNeg then none else op_k (o0.2.1 59 v1.toNatClampNeg) (fun x_2 => (if v3 < x_2 then fM_join_29 rc v1 v2 v3 v4 v5 o0 else (if v2 < 0 ∨ 63210 ≤ v2.toNatClampNeg then none else op_k (o0.2.1 59 v2.toNatClampNeg) (fun x_5 => (if x_5 ≤ v4 then some (v5, o0) else fM_join_29 rc v1 v2 v3 v4 v5 o0))))))
noncomputable def fM_join_0 (rc : Nat → Int32 → Int32 → Int32 → Int32 → Int32 → cf_O → Option (Int32 × cf_O)) (v1 : Int32) (v2 : Int32) (o0 : cf_O) : Option (Int32 × cf_O) :=
  rc 0 v1 v2 0 0 0 o0
noncomputable def gM_join (n : Nat) : Nat → Int32 → Int32 → Int32 → Int32 → Int32 → cf_O → Option (Int32 × cf_O) := Nat.rec (motive := fun _ => Nat → Int32 → Int32 → Int32 → Int32 → Int32 → cf_O → Option (Int32 × cf_O)) (fun _ _ _ _ _ _ _ => none) (fun _ rc => fun k u1i u2i u3i u4i u5i o0 => Nat.rec (motive := fun _ => Option (Int32 × cf_O)) (fM_join_8 rc u1i u2i u3i u4i u5i o0) (fun k _ => none) k) n
noncomputable def fM_join (v1 : Int32) (v2 : Int32) (o0 : cf_O) : Option (Int32 × cf_O) := fM_join_0 (gM_join cfFU) v1 v2 o0
noncomputable def fM_isPart_92 (rc : Nat → Int32 → Int32 → Int32 → Int32 → cf_O → Option (Int32)) (s0 : Int32) (o0 : cf_O) : Option (Int32) :=
  (if ¬ (s0 = 0 ∨ s0 = 1) then none else some s0)
noncomputable def fM_isPart_76 (rc : Nat → Int32 → Int32 → Int32 → Int32 → cf_O → Option (Int32)) (v1 : Int32) (v4 : Int32) (o0 : cf_O) : Option (Int32) :=
  (if v1 < 0 ∨ 63210 ≤ v1.toNatClampNeg then none else op_k (o0.2.1 59 v1.toNatClampNeg) (fun x_2 => (if v4 = x_2 then fM_isPart_92 rc 1 o0 else fM_isPart_92 rc 0 o0)))
noncomputable def fM_isPart_68 (rc : Nat → Int32 → Int32 → Int32 → Int32 → cf_O → Option (Int32)) (v1 : Int32) (v2 : Int32) (v5 : Int32) (s0 : Int32) (o0 : cf_O) : Option (Int32) :=
  op_k (v5 + 1) (fun x_1 => rc 0 v1 v2 s0 x_1 o0)
noncomputable def fM_isPart_21 (rc : Nat → Int32 → Int32 → Int32 → Int32 → cf_O → Option (Int32)) (v1 : Int32) (v2 : Int32) (v4 : Int32) (v5 : Int32) (o0 : cf_O) : Option (Int32) :=
  (if v2 ≤ v5 then fM_isPart_76 rc v1 v4 o0 else (if v1 < 0 ∨ 63210 ≤ v1.toNatClampNeg then none else op_k (o0.2.1 59 v1.toNatClampNeg) (fun x_3 => (if x_3 ≤ v4 then fM_isPart_76 rc v1 v4 o0 else (if v5 < 0 ∨ 11 ≤ v5.toNatClampNeg then none else op_k (o0.2.1 61 v5.toNatClampNeg) (fun x_6 => op_k (5 * v1) (fun x_7 => op_k (x_7 + v4) (fun x_8 => (if x_8 < 0 ∨ 316050 ≤ x_8.toNatClampNeg then none else op_k (o0.2.1 58 x_8.toNatClampNeg) (fun x_10 => (if x_6 = x_10 then op_k (v4 + 1) (fun x_12 => fM_isPart_68 rc v1 v2 v5 x_12 o0) else fM_isPart_68 rc v1 v2 v5 v4 o0)))))))))))
noncomputable def fM_isPart_0 (rc : Nat → Int32 → Int32 → Int32 → Int32 → cf_O → Option (Int32)) (v1 : Int32) (v2 : Int32) (v3 : Int32) (o0 : cf_O) : Option (Int32) :=
  (if v1 < 0 ∨ 63210 ≤ v1.toNatClampNeg then none else op_k (o0.2.1 60 v1.toNatClampNeg) (fun x_2 => op_k (v3 ^^^ (-1)) (fun x_3 => op_k (x_2 &&& x_3) (fun x_4 => (if x_4 = (0 : Int32) then rc 0 v1 v2 0 0 o0 else some (0 : Int32))))))
noncomputable def gM_isPart (n : Nat) : Nat → Int32 → Int32 → Int32 → Int32 → cf_O → Option (Int32) := Nat.rec (motive := fun _ => Nat → Int32 → Int32 → Int32 → Int32 → cf_O → Option (Int32)) (fun _ _ _ _ _ _ => none) (fun _ rc => fun k u1i u2i u4i u5i o0 => Nat.rec (motive := fun _ => Option (Int32)) (fM_isPart_21 rc u1i u2i u4i u5i o0) (fun k _ => none) k) n
noncomputable def fM_isPart (v1 : Int32) (v2 : Int32) (v3 : Int32) (o0 : cf_O) : Option (Int32) := fM_isPart_0 (gM_isPart cfFU) v1 v2 v3 o0
noncomputable def fM_keepCut_43 (rc : Nat → Int32 → Int32 → Int32 → cf_O → Option (cf_O)) (v2 : Int32) (v4 : Int32) (v5 : Int32) (o0 : cf_O) : Option (cf_O) :=
  (if v2 ≤ v5 then some o0 else op_k (5 * v4) (fun x_2 => op_k (x_2 + v5) (fun x_3 => (if v5 < 0 ∨ 11 ≤ v5.toNatClampNeg then none else op_k (o0.2.1 61 v5.toNatClampNeg) (fun x_5 => (if x_3 < 0 ∨ 316050 ≤ x_3.toNatClampNeg then none else op_k (xp o0 58 x_3.toNatClampNeg x_5) (fun o_7 => op_k (v5 + 1) (fun x_8 => rc 0 v2 v4 x_8 o_7))))))))
noncomputable def fM_keepCut_0 (rc : Nat → Int32 → Int32 → Int32 → cf_O → Option (cf_O)) (v1 : Int32) (v2 : Int32) (v3 : Int32) (o0 : cf_O) : Option (cf_O) :=
  op_k (301 * v1) (fun x_1 => (if v1 < 0 ∨ 210 ≤ v1.toNatClampNeg then none else op_k (o0.2.1 57 v1.toNatClampNeg) (fun x_3 => op_k (x_1 + x_3) (fun x_4 => (if v1 < 0 ∨ 210 ≤ v1.toNatClampNeg then none else op_k (o0.2.1 57 v1.toNatClampNeg) (fun x_6 => op_k (x_6 + 1) (fun x_7 => (if v1 < 0 ∨ 210 ≤ v1.toNatClampNeg then none else op_k (xp o0 57 v1.toNatClampNeg x_7) (fun o_9 => (if x_4 < 0 ∨ 63210 ≤ x_4.toNatClampNeg then none else op_k (xp o_9 59 x_4.toNatClampNeg v2) (fun o_11 => (if x_4 < 0 ∨ 63210 ≤ x_4.toNatClampNeg then none else op_k (xp o_11 60 x_4.toNatClampNeg v3) (fun o_13 => rc 0 v2 x_4 0 o_13)))))))))))))
noncomputable def gM_keepCut (n : Nat) : Nat → Int32 → Int32 → Int32 → cf_O → Option (cf_O) := Nat.rec (motive := fun _ => Nat → Int32 → Int32 → Int32 → cf_O → Option (cf_O)) (fun _ _ _ _ _ => none) (fun _ rc => fun k u2i u4i u5i o0 => Nat.rec (motive := fun _ => Option (cf_O)) (fM_keepCut_43 rc u2i u4i u5i o0) (fun k _ => none) k) n
noncomputable def fM_keepCut (v1 : Int32) (v2 : Int32) (v3 : Int32) (o0 : cf_O) : Option (cf_O) := fM_keepCut_0 (gM_keepCut cfFU) v1 v2 v3 o0
noncomputable def fM_tryCut_39 (rc : Nat → Int32 → Int32 → Int32 → Int32 → cf_O → Option (cf_O)) (v1 : Int32) (v2 : Int32) (v3 : Int32) (v4 : Int32) (o0 : cf_O) : Option (cf_O) :=
  op_k (301 * v1) (fun x_1 => (if v1 < 0 ∨ 210 ≤ v1.toNatClampNeg then none else op_k (o0.2.1 57 v1.toNatClampNeg) (fun x_3 => op_k (x_1 + x_3) (fun x_4 => (if x_4 ≤ v4 then (if v1 < 0 ∨ 210 ≤ v1.toNatClampNeg then none else op_k (o0.2.1 57 v1.toNatClampNeg) (fun x_7 => (if x_7 = (300 : Int32) then op_k (fp o0 36 1) (fun o_11 => some o_11) else Option.bind (fM_keepCut v1 v2 v3 o0) (fun q_9 => some q_9)))) else Option.bind (fM_isPart v4 v2 v3 o0) (fun q_12 => (if q_12 = (0 : Int32) then op_k (v4 + 1) (fun x_16 => rc 1 v1 v2 v3 x_16 o0) else some o0)))))))
noncomputable def fM_tryCut_5 (rc : Nat → Int32 → Int32 → Int32 → Int32 → cf_O → Option (cf_O)) (v1 : Int32) (v2 : Int32) (v3 : Int32) (v4 : Int32) (o0 : cf_O) : Option (cf_O) :=
  (if v2 ≤ v4 then op_k (301 * v1) (fun x_2 => rc 1 v1 v2 v3 x_2 o0) else (if v4 < 0 ∨ 11 ≤ v4.toNatClampNeg then none else op_k (o0.2.1 61 v4.toNatClampNeg) (fun x_4 => op_k (x_4 - x_4 / 32 * 32) (fun x_5 => op_k ((1 : Int32) <<< (x_5 &&& 31)) (fun x_6 => op_k (v3 ||| x_6) (fun x_7 => op_k (v4 + 1) (fun x_8 => rc 0 v1 v2 x_7 x_8 o0)))))))
noncomputable def fM_tryCut_0 (rc : Nat → Int32 → Int32 → Int32 → Int32 → cf_O → Option (cf_O)) (v1 : Int32) (v2 : Int32) (o0 : cf_O) : Option (cf_O) :=
  rc 0 v1 v2 0 0 o0
noncomputable def gM_tryCut (n : Nat) : Nat → Int32 → Int32 → Int32 → Int32 → cf_O → Option (cf_O) := Nat.rec (motive := fun _ => Nat → Int32 → Int32 → Int32 → Int32 → cf_O → Option (cf_O)) (fun _ _ _ _ _ _ => none) (fun _ rc => fun k u1i u2i u3i u4i o0 => Nat.rec (motive := fun _ => Option (cf_O)) (fM_tryCut_5 rc u1i u2i u3i u4i o0) (fun k _ => Nat.rec (motive := fun _ => Option (cf_O)) (fM_tryCut_39 rc u1i u2i u3i u4i o0) (fun k _ => none) k) k) n
noncomputable def fM_tryCut (v1 : Int32) (v2 : Int32) (o0 : cf_O) : Option (cf_O) := fM_tryCut_0 (gM_tryCut cfFU) v1 v2 o0
noncomputable def fM_alone_67 (s1 : Int32) (s2 : Int32) (o0 : cf_O) : Option (cf_O) :=
  (if s1 < 0 ∨ 63210 ≤ s1.toNatClampNeg then none else op_k (xp o0 60 s1.toNatClampNeg s2) (fun o_2 => some o_2))
noncomputable def fM_alone_38 (v1 : Int32) (v2 : Int32) (s1 : Int32) (s2 : Int32) (o0 : cf_O) : Option (cf_O) :=
  (if s1 < 0 ∨ 63210 ≤ s1.toNatClampNeg then none else op_k (xp o0 59 s1.toNatClampNeg s2) (fun o_2 => op_k (5 * v2) (fun x_3 => (if x_3 < 0 ∨ 316050 ≤ x_3.toNatClampNeg then none else op_k (xp o_2 58 x_3.toNatClampNeg v1) (fun o_5 => (if v1 ≤ (0 : Int32) then fM_alone_67 v2 0 o_5 else op_k (v1 - v1 / 32 * 32) (fun x_7 => op_k ((1 : Int32) <<< (x_7 &&& 31)) (fun x_8 => fM_alone_67 v2 x_8 o_5))))))))
noncomputable def fM_alone_11 (v1 : Int32) (o0 : cf_O) : Option (cf_O) :=
  op_k (301 * v1) (fun x_1 => (if v1 < 0 ∨ 210 ≤ v1.toNatClampNeg then none else op_k (o0.2.1 57 v1.toNatClampNeg) (fun x_3 => op_k (x_1 + x_3) (fun x_4 => (if v1 ≤ (0 : Int32) then fM_alone_38 v1 x_4 x_4 0 o0 else fM_alone_38 v1 x_4 x_4 1 o0)))))
noncomputable def fM_alone_0 (v1 : Int32) (o0 : cf_O) : Option (cf_O) :=
  (if v1 ≤ (0 : Int32) then fM_alone_11 v1 o0 else (if (0 : Int32) < 0 ∨ 11 ≤ (0 : Int32).toNatClampNeg then none else op_k (xp o0 61 (0 : Int32).toNatClampNeg v1) (fun o_3 => fM_alone_11 v1 o_3)))
noncomputable def fM_alone (v1 : Int32) (o0 : cf_O) : Option (cf_O) := fM_alone_0 v1 o0
noncomputable def fM_cut_206 (rc : Nat → Int32 → Int32 → Int32 → Int32 → Int32 → Int32 → Int32 → cf_O → Option (cf_O)) (v2 : Int32) (v3 : Int32) (v4 : Int32) (v5 : Int32) (v6 : Int32) (o0 : cf_O) : Option (cf_O) :=
  op_k (v6 + 1) (fun x_1 => rc 0 v2 v3 v4 v5 x_1 0 0 o0)
noncomputable def fM_cut_200 (rc : Nat → Int32 → Int32 → Int32 → Int32 → Int32 → Int32 → Int32 → cf_O → Option (cf_O)) (v2 : Int32) (v3 : Int32) (v4 : Int32) (v5 : Int32) (v6 : Int32) (v7 : Int32) (o0 : cf_O) : Option (cf_O) :=
  op_k (v7 + 1) (fun x_1 => rc 1 v2 v3 v4 v5 v6 x_1 0 o0)
noncomputable def fM_cut_194 (rc : Nat → Int32 → Int32 → Int32 → Int32 → Int32 → Int32 → Int32 → cf_O → Option (cf_O)) (v2 : Int32) (v3 : Int32) (v4 : Int32) (v5 : Int32) (v6 : Int32) (v7 : Int32) (v8 : Int32) (o0 : cf_O) : Option (cf_O) :=
  op_k (v8 + 1) (fun x_1 => rc 2 v2 v3 v4 v5 v6 v7 x_1 o0)
noncomputable def fM_cut_145 (rc : Nat → Int32 → Int32 → Int32 → Int32 → Int32 → Int32 → Int32 → cf_O → Option (cf_O)) (v2 : Int32) (v3 : Int32) (v4 : Int32) (v5 : Int32) (v6 : Int32) (v7 : Int32) (v8 : Int32) (s0 : Int32) (o0 : cf_O) : Option (cf_O) :=
  (if v6 < s0 then fM_cut_194 rc v2 v3 v4 v5 v6 v7 v8 o0 else (if v7 < 0 ∨ 63210 ≤ v7.toNatClampNeg then none else op_k (o0.2.1 59 v7.toNatClampNeg) (fun x_3 => (if v8 < 0 ∨ 63210 ≤ v8.toNatClampNeg then none else op_k (o0.2.1 59 v8.toNatClampNeg) (fun x_5 => op_k (x_3 + x_5) (fun x_6 => (if x_6 < v6 then fM_cut_194 rc v2 v3 v4 v5 v6 v7 v8 o0 else Option.bind (fM_join v7 v8 o0) (fun q_8 => (if q_8.1 = v6 then Option.bind (fM_tryCut v3 v6 q_8.2) (fun q_12 => fM_cut_194 rc v2 v3 v4 v5 v6 v7 v8 q_12) else fM_cut_194 rc v2 v3 v4 v5 v6 v7 v8 q_8.2)))))))))
noncomputable def fM_cut_85 (rc : Nat → Int32 → Int32 → Int32 → Int32 → Int32 → Int32 → Int32 → cf_O → Option (cf_O)) (v2 : Int32) (v3 : Int32) (v4 : Int32) (v5 : Int32) (v6 : Int32) (v7 : Int32) (v8 : Int32) (o0 : cf_O) : Option (cf_O) :=
  op_k (301 * v5) (fun x_1 => (if v5 < 0 ∨ 210 ≤ v5.toNatClampNeg then none else op_k (o0.2.1 57 v5.toNatClampNeg) (fun x_3 => op_k (x_1 + x_3) (fun x_4 => (if x_4 < v8 then fM_cut_200 rc v2 v3 v4 v5 v6 v7 o0 else (if (o0.1 36) = (0 : Int32) then (if v7 < 0 ∨ 63210 ≤ v7.toNatClampNeg then none else op_k (o0.2.1 59 v7.toNatClampNeg) (fun x_8 => (if v8 < 0 ∨ 63210 ≤ v8.toNatClampNeg then none else op_k (o0.2.1 59 v8.toNatClampNeg) (fun x_10 => (if x_8 ≤ x_10 then (if v8 < 0 ∨ 63210 ≤ v8.toNatClampNeg then none else op_k (o0.2.1 59 v8.toNatClampNeg) (fun x_13 => fM_cut_145 rc v2 v3 v4 v5 v6 v7 v8 x_13 o0)) else (if v7 < 0 ∨ 63210 ≤ v7.toNatClampNeg then none else op_k (o0.2.1 59 v7.toNatClampNeg) (fun x_15 => fM_cut_145 rc v2 v3 v4 v5 v6 v7 v8 x_15 o0))))))) else fM_cut_200 rc v2 v3 v4 v5 v6 v7 o0))))))
noncomputable def fM_cut_51 (rc : Nat → Int32 → Int32 → Int32 → Int32 → Int32 → Int32 → Int32 → cf_O → Option (cf_O)) (v2 : Int32) (v3 : Int32) (v4 : Int32) (v5 : Int32) (v6 : Int32) (v7 : Int32) (o0 : cf_O) : Option (cf_O) :=
  op_k (301 * v4) (fun x_1 => (if v4 < 0 ∨ 210 ≤ v4.toNatClampNeg then none else op_k (o0.2.1 57 v4.toNatClampNeg) (fun x_3 => op_k (x_1 + x_3) (fun x_4 => (if x_4 < v7 then fM_cut_206 rc v2 v3 v4 v5 v6 o0 else (if (o0.1 36) = (0 : Int32) then op_k (301 * v5) (fun x_7 => rc 2 v2 v3 v4 v5 v6 v7 x_7 o0) else fM_cut_206 rc v2 v3 v4 v5 v6 o0))))))
noncomputable def fM_cut_37 (rc : Nat → Int32 → Int32 → Int32 → Int32 → Int32 → Int32 → Int32 → cf_O → Option (cf_O)) (v2 : Int32) (v3 : Int32) (v4 : Int32) (v5 : Int32) (v6 : Int32) (o0 : cf_O) : Option (cf_O) :=
  (if v2 < v6 then Option.bind (fM_alone v3 o0) (fun q_2 => some q_2) else op_k (301 * v4) (fun x_4 => rc 1 v2 v3 v4 v5 v6 x_4 0 o0))
noncomputable def fM_cut_0 (rc : Nat → Int32 → Int32 → Int32 → Int32 → Int32 → Int32 → Int32 → cf_O → Option (cf_O)) (v1 : Int32) (v2 : Int32) (o0 : cf_O) : Option (cf_O) :=
  Option.bind (fM_base o0) (fun q_1 => op_k (q_1 + v1) (fun x_4 => (if v1 < 0 ∨ 201 ≤ v1.toNatClampNeg then none else op_k (o0.2.1 44 v1.toNatClampNeg) (fun x_6 => op_k (x_6 / 2) (fun x_7 => (if v1 < 0 ∨ 201 ≤ v1.toNatClampNeg then none else op_k (o0.2.1 45 v1.toNatClampNeg) (fun x_9 => op_k (x_9 / 2) (fun x_10 => (if x_4 < 0 ∨ 210 ≤ x_4.toNatClampNeg then none else op_k (xp o0 57 x_4.toNatClampNeg 0) (fun o_12 => rc 0 v2 x_4 x_7 x_10 0 0 0 o_12))))))))))
noncomputable def gM_cut (n : Nat) : Nat → Int32 → Int32 → Int32 → Int32 → Int32 → Int32 → Int32 → cf_O → Option (cf_O) := Nat.rec (motive := fun _ => Nat → Int32 → Int32 → Int32 → Int32 → Int32 → Int32 → Int32 → cf_O → Option (cf_O)) (fun _ _ _ _ _ _ _ _ _ => none) (fun _ rc => fun k u2i u3i u4i u5i u6i u7i u8i o0 => Nat.rec (motive := fun _ => Option (cf_O)) (fM_cut_37 rc u2i u3i u4i u5i u6i o0) (fun k _ => Nat.rec (motive := fun _ => Option (cf_O)) (fM_cut_51 rc u2i u3i u4i u5i u6i u7i o0) (fun k _ => Nat.rec (motive := fun _ => Option (cf_O)) (fM_cut_85 rc u2i u3i u4i u5i u6i u7i u8i o0) (fun k _ => none) k) k) k) n
noncomputable def fM_cut (v1 : Int32) (v2 : Int32) (o0 : cf_O) : Option (cf_O) := fM_cut_0 (gM_cut cfFU) v1 v2 o0
noncomputable def fM_depthOf_43 (rc : Nat → Int32 → Int32 → Int32 → cf_O → Option (Int32)) (v1 : Int32) (v3 : Int32) (s0 : Int32) (o0 : cf_O) : Option (Int32) :=
  op_k (v3 + 1) (fun x_1 => rc 0 v1 s0 x_1 o0)
noncomputable def fM_depthOf_4 (rc : Nat → Int32 → Int32 → Int32 → cf_O → Option (Int32)) (v1 : Int32) (v2 : Int32) (v3 : Int32) (o0 : cf_O) : Option (Int32) :=
  (if v1 < 0 ∨ 63210 ≤ v1.toNatClampNeg then none else op_k (o0.2.1 59 v1.toNatClampNeg) (fun x_2 => (if x_2 ≤ v3 then op_k (v2 + 1) (fun x_4 => some x_4) else op_k (5 * v1) (fun x_5 => op_k (x_5 + v3) (fun x_6 => (if x_6 < 0 ∨ 316050 ≤ x_6.toNatClampNeg then none else op_k (o0.2.1 58 x_6.toNatClampNeg) (fun x_8 => (if x_8 < 0 ∨ 210 ≤ x_8.toNatClampNeg then none else op_k (o0.2.1 62 x_8.toNatClampNeg) (fun x_10 => (if x_10 ≤ v2 then fM_depthOf_43 rc v1 v3 v2 o0 else fM_depthOf_43 rc v1 v3 x_10 o0))))))))))
noncomputable def fM_depthOf_0 (rc : Nat → Int32 → Int32 → Int32 → cf_O → Option (Int32)) (v1 : Int32) (o0 : cf_O) : Option (Int32) :=
  rc 0 v1 0 0 o0
noncomputable def gM_depthOf (n : Nat) : Nat → Int32 → Int32 → Int32 → cf_O → Option (Int32) := Nat.rec (motive := fun _ => Nat → Int32 → Int32 → Int32 → cf_O → Option (Int32)) (fun _ _ _ _ _ => none) (fun _ rc => fun k u1i u2i u3i o0 => Nat.rec (motive := fun _ => Option (Int32)) (fM_depthOf_4 rc u1i u2i u3i o0) (fun k _ => none) k) n
noncomputable def fM_depthOf (v1 : Int32) (o0 : cf_O) : Option (Int32) := fM_depthOf_0 (gM_depthOf cfFU) v1 o0
noncomputable def fM_goesAhead_91 (rc : Nat → Int32 → Int32 → Int32 → Int32 → cf_O → Option (Int32)) (s0 : Int32) (o0 : cf_O) : Option (Int32) :=
  (if ¬ (s0 = 0 ∨ s0 = 1) then none else some s0)
noncomputable def fM_goesAhead_82 (rc : Nat → Int32 → Int32 → Int32 → Int32 → cf_O → Option (Int32)) (v3 : Int32) (o0 : cf_O) : Option (Int32) :=
  (if (0 : Int32) ≤ v3 then fM_goesAhead_91 rc 0 o0 else fM_goesAhead_91 rc 1 o0)
noncomputable def fM_goesAhead_37 (rc : Nat → Int32 → Int32 → Int32 → Int32 → cf_O → Option (Int32)) (v1 : Int32) (v2 : Int32) (v3 : Int32) (v4 : Int32) (o0 : cf_O) : Option (Int32) :=
  (if v1 < 0 ∨ 63210 ≤ v1.toNatClampNeg then none else op_k (o0.2.1 59 v1.toNatClampNeg) (fun x_2 => (if x_2 ≤ v4 then fM_goesAhead_82 rc v3 o0 else (if v3 = (0 : Int32) then op_k (5 * v1) (fun x_5 => op_k (x_5 + v4) (fun x_6 => (if x_6 < 0 ∨ 316050 ≤ x_6.toNatClampNeg then none else op_k (o0.2.1 58 x_6.toNatClampNeg) (fun x_8 => op_k (5 * v2) (fun x_9 => op_k (x_9 + v4) (fun x_10 => (if x_10 < 0 ∨ 316050 ≤ x_10.toNatClampNeg then none else op_k (o0.2.1 58 x_10.toNatClampNeg) (fun x_12 => op_k (x_8 - x_12) (fun x_13 => op_k (v4 + 1) (fun x_14 => rc 0 v1 v2 x_13 x_14 o0)))))))))) else fM_goesAhead_82 rc v3 o0))))
noncomputable def fM_goesAhead_33 (rc : Nat → Int32 → Int32 → Int32 → Int32 → cf_O → Option (Int32)) (v1 : Int32) (v2 : Int32) (s0 : Int32) (o0 : cf_O) : Option (Int32) :=
  rc 0 v1 v2 s0 0 o0
noncomputable def fM_goesAhead_0 (rc : Nat → Int32 → Int32 → Int32 → Int32 → cf_O → Option (Int32)) (v1 : Int32) (v2 : Int32) (o0 : cf_O) : Option (Int32) :=
  Option.bind (fM_depthOf v1 o0) (fun q_1 => Option.bind (fM_depthOf v2 o0) (fun q_4 => op_k (q_1 - q_4) (fun x_7 => (if x_7 = (0 : Int32) then (if v1 < 0 ∨ 63210 ≤ v1.toNatClampNeg then none else op_k (o0.2.1 59 v1.toNatClampNeg) (fun x_10 => (if v2 < 0 ∨ 63210 ≤ v2.toNatClampNeg then none else op_k (o0.2.1 59 v2.toNatClampNeg) (fun x_12 => op_k (x_10 - x_12) (fun x_13 => fM_goesAhead_33 rc v1 v2 x_13 o0))))) else fM_goesAhead_33 rc v1 v2 x_7 o0))))
noncomputable def gM_goesAhead (n : Nat) : Nat → Int32 → Int32 → Int32 → Int32 → cf_O → Option (Int32) := Nat.rec (motive := fun _ => Nat → Int32 → Int32 → Int32 → Int32 → cf_O → Option (Int32)) (fun _ _ _ _ _ _ => none) (fun _ rc => fun k u1i u2i u3i u4i o0 => Nat.rec (motive := fun _ => Option (Int32)) (fM_goesAhead_37 rc u1i u2i u3i u4i o0) (fun k _ => none) k) n
noncomputable def fM_goesAhead (v1 : Int32) (v2 : Int32) (o0 : cf_O) : Option (Int32) := fM_goesAhead_0 (gM_goesAhead cfFU) v1 v2 o0
noncomputable def fM_findBest_44 (rc : Nat → Int32 → Int32 → Int32 → cf_O → Option (cf_O)) (v1 : Int32) (v3 : Int32) (s0 : Int32) (o0 : cf_O) : Option (cf_O) :=
  op_k (v3 + 1) (fun x_1 => rc 0 v1 s0 x_1 o0)
noncomputable def fM_findBest_14 (rc : Nat → Int32 → Int32 → Int32 → cf_O → Option (cf_O)) (v1 : Int32) (v2 : Int32) (v3 : Int32) (o0 : cf_O) : Option (cf_O) :=
  op_k (301 * v1) (fun x_1 => (if v1 < 0 ∨ 210 ≤ v1.toNatClampNeg then none else op_k (o0.2.1 57 v1.toNatClampNeg) (fun x_3 => op_k (x_1 + x_3) (fun x_4 => (if x_4 ≤ v3 then (if v1 < 0 ∨ 210 ≤ v1.toNatClampNeg then none else op_k (xp o0 63 v1.toNatClampNeg v2) (fun o_7 => Option.bind (fM_depthOf v2 o_7) (fun q_8 => (if v1 < 0 ∨ 210 ≤ v1.toNatClampNeg then none else op_k (xp o_7 62 v1.toNatClampNeg q_8) (fun o_12 => some o_12))))) else Option.bind (fM_goesAhead v3 v2 o0) (fun q_13 => (if q_13 = (0 : Int32) then fM_findBest_44 rc v1 v3 v2 o0 else fM_findBest_44 rc v1 v3 v3 o0)))))))
noncomputable def fM_findBest_0 (rc : Nat → Int32 → Int32 → Int32 → cf_O → Option (cf_O)) (v1 : Int32) (o0 : cf_O) : Option (cf_O) :=
  op_k (301 * v1) (fun x_1 => op_k (301 * v1) (fun x_2 => op_k (x_2 + 1) (fun x_3 => rc 0 v1 x_1 x_3 o0)))
noncomputable def gM_findBest (n : Nat) : Nat → Int32 → Int32 → Int32 → cf_O → Option (cf_O) := Nat.rec (motive := fun _ => Nat → Int32 → Int32 → Int32 → cf_O → Option (cf_O)) (fun _ _ _ _ _ => none) (fun _ rc => fun k u1i u2i u3i o0 => Nat.rec (motive := fun _ => Option (cf_O)) (fM_findBest_14 rc u1i u2i u3i o0) (fun k _ => none) k) n
noncomputable def fM_findBest (v1 : Int32) (o0 : cf_O) : Option (cf_O) := fM_findBest_0 (gM_findBest cfFU) v1 o0
noncomputable def fM_listCells_52 (rc : Nat → Int32 → cf_O → Option (cf_O)) (v1 : Int32) (o0 : cf_O) : Option (cf_O) :=
  op_k (v1 + 1) (fun x_1 => rc 0 x_1 o0)
noncomputable def fM_listCells_10 (rc : Nat → Int32 → cf_O → Option (cf_O)) (v1 : Int32) (o0 : cf_O) : Option (cf_O) :=
  Option.bind (fM_base o0) (fun q_1 => op_k (q_1 + (o0.1 43)) (fun x_4 => (if x_4 ≤ v1 then some o0 else (if v1 < 0 ∨ 210 ≤ v1.toNatClampNeg then none else op_k (o0.2.1 72 v1.toNatClampNeg) (fun x_7 => (if x_7 = (0 : Int32) then fM_listCells_52 rc v1 o0 else (if (o0.1 73) < 0 ∨ 201 ≤ (o0.1 73).toNatClampNeg then none else op_k (xp o0 74 (o0.1 73).toNatClampNeg v1) (fun o_10 => op_k ((o_10.1 73) + 1) (fun x_11 => op_k (fp o_10 73 x_11) (fun o_12 => fM_listCells_52 rc v1 o_12))))))))))
noncomputable def fM_listCells_0 (rc : Nat → Int32 → cf_O → Option (cf_O)) (o0 : cf_O) : Option (cf_O) :=
  op_k (fp o0 73 0) (fun o_1 => Option.bind (fM_base o_1) (fun q_2 => rc 0 q_2 o_1))
noncomputable def gM_listCells (n : Nat) : Nat → Int32 → cf_O → Option (cf_O) := Nat.rec (motive := fun _ => Nat → Int32 → cf_O → Option (cf_O)) (fun _ _ _ => none) (fun _ rc => fun k u1i o0 => Nat.rec (motive := fun _ => Option (cf_O)) (fM_listCells_10 rc u1i o0) (fun k _ => none) k) n
noncomputable def fM_listCells (o0 : cf_O) : Option (cf_O) := fM_listCells_0 (gM_listCells cfFU) o0
noncomputable def fM_chooseCells_167 (rc : Nat → Int32 → Int32 → cf_O → Option (cf_O)) (v1 : Int32) (o0 : cf_O) : Option (cf_O) :=
  op_k (v1 + (-1)) (fun x_1 => rc 2 x_1 0 o0)
noncomputable def fM_chooseCells_160 (rc : Nat → Int32 → Int32 → cf_O → Option (cf_O)) (v1 : Int32) (v2 : Int32) (s1 : Int32) (s2 : Int32) (o0 : cf_O) : Option (cf_O) :=
  (if s1 < 0 ∨ 210 ≤ s1.toNatClampNeg then none else op_k (xp o0 72 s1.toNatClampNeg (vp_nar .boolean s2)) (fun o_2 => op_k (v2 + 1) (fun x_3 => rc 3 v1 x_3 o_2)))
noncomputable def fM_chooseCells_155 (rc : Nat → Int32 → Int32 → cf_O → Option (cf_O)) (v1 : Int32) (v2 : Int32) (s1 : Int32) (o0 : cf_O) : Option (cf_O) :=
  fM_chooseCells_160 rc v1 v2 s1 1 o0
noncomputable def fM_chooseCells_93 (rc : Nat → Int32 → Int32 → cf_O → Option (cf_O)) (v1 : Int32) (v2 : Int32) (o0 : cf_O) : Option (cf_O) :=
  (if v1 < 0 ∨ 210 ≤ v1.toNatClampNeg then none else op_k (o0.2.1 63 v1.toNatClampNeg) (fun x_2 => (if x_2 < 0 ∨ 63210 ≤ x_2.toNatClampNeg then none else op_k (o0.2.1 59 x_2.toNatClampNeg) (fun x_4 => (if x_4 ≤ v2 then fM_chooseCells_167 rc v1 o0 else (if v1 < 0 ∨ 210 ≤ v1.toNatClampNeg then none else op_k (o0.2.1 72 v1.toNatClampNeg) (fun x_7 => (if x_7 = (0 : Int32) then fM_chooseCells_167 rc v1 o0 else (if v1 < 0 ∨ 210 ≤ v1.toNatClampNeg then none else op_k (o0.2.1 63 v1.toNatClampNeg) (fun x_10 => op_k (5 * x_10) (fun x_11 => op_k (x_11 + v2) (fun x_12 => (if x_12 < 0 ∨ 316050 ≤ x_12.toNatClampNeg then none else op_k (o0.2.1 58 x_12.toNatClampNeg) (fun x_14 => (if x_14 < 0 ∨ 210 ≤ x_14.toNatClampNeg then none else op_k (o0.2.1 72 x_14.toNatClampNeg) (fun x_16 => (if x_16 = (0 : Int32) then Option.bind (fM_base o0) (fun q_18 => (if x_14 < q_18 then fM_chooseCells_160 rc v1 v2 x_14 0 o0 else fM_chooseCells_155 rc v1 v2 x_14 o0)) else fM_chooseCells_155 rc v1 v2 x_14 o0)))))))))))))))))
noncomputable def fM_chooseCells_83 (rc : Nat → Int32 → Int32 → cf_O → Option (cf_O)) (v1 : Int32) (o0 : cf_O) : Option (cf_O) :=
  Option.bind (fM_base o0) (fun q_1 => (if v1 < q_1 then Option.bind (fM_listCells o0) (fun q_5 => some q_5) else rc 3 v1 0 o0))
noncomputable def fM_chooseCells_64 (rc : Nat → Int32 → Int32 → cf_O → Option (cf_O)) (v1 : Int32) (s1 : Int32) (s2 : Int32) (o0 : cf_O) : Option (cf_O) :=
  (if s1 < 0 ∨ 210 ≤ s1.toNatClampNeg then none else op_k (xp o0 72 s1.toNatClampNeg (vp_nar .boolean s2)) (fun o_2 => op_k (v1 + 1) (fun x_3 => rc 1 x_3 0 o_2)))
noncomputable def fM_chooseCells_24 (rc : Nat → Int32 → Int32 → cf_O → Option (cf_O)) (v1 : Int32) (o0 : cf_O) : Option (cf_O) :=
  (if (o0.1 40) ≤ v1 then Option.bind (fM_base o0) (fun q_2 => op_k (q_2 + (o0.1 43)) (fun x_5 => op_k (x_5 - 1) (fun x_6 => rc 2 x_6 0 o0))) else (if v1 < 0 ∨ 6 ≤ v1.toNatClampNeg then none else op_k (o0.2.1 47 v1.toNatClampNeg) (fun x_8 => op_k (x_8 / 2) (fun x_9 => (if v1 < 0 ∨ 6 ≤ v1.toNatClampNeg then none else op_k (o0.2.1 47 v1.toNatClampNeg) (fun x_11 => op_k (x_11 / 2) (fun x_12 => Option.bind (fM_base o0) (fun q_13 => (if x_12 < q_13 then fM_chooseCells_64 rc v1 x_9 0 o0 else fM_chooseCells_64 rc v1 x_9 1 o0)))))))))
noncomputable def fM_chooseCells_2 (rc : Nat → Int32 → Int32 → cf_O → Option (cf_O)) (v1 : Int32) (o0 : cf_O) : Option (cf_O) :=
  (if (210 : Int32) ≤ v1 then rc 1 0 0 o0 else (if v1 < 0 ∨ 210 ≤ v1.toNatClampNeg then none else op_k (xp o0 72 v1.toNatClampNeg (vp_nar .boolean 0)) (fun o_3 => op_k (v1 + 1) (fun x_4 => rc 0 x_4 0 o_3))))
noncomputable def fM_chooseCells_0 (rc : Nat → Int32 → Int32 → cf_O → Option (cf_O)) (o0 : cf_O) : Option (cf_O) :=
  rc 0 0 0 o0
noncomputable def gM_chooseCells (n : Nat) : Nat → Int32 → Int32 → cf_O → Option (cf_O) := Nat.rec (motive := fun _ => Nat → Int32 → Int32 → cf_O → Option (cf_O)) (fun _ _ _ _ => none) (fun _ rc => fun k u1i u2i o0 => Nat.rec (motive := fun _ => Option (cf_O)) (fM_chooseCells_2 rc u1i o0) (fun k _ => Nat.rec (motive := fun _ => Option (cf_O)) (fM_chooseCells_24 rc u1i o0) (fun k _ => Nat.rec (motive := fun _ => Option (cf_O)) (fM_chooseCells_83 rc u1i o0) (fun k _ => Nat.rec (motive := fun _ => Option (cf_O)) (fM_chooseCells_93 rc u1i u2i o0) (fun k _ => none) k) k) k) k) n
noncomputable def fM_chooseCells (o0 : cf_O) : Option (cf_O) := fM_chooseCells_0 (gM_chooseCells cfFU) o0
noncomputable def fM_cutAll_98 (rc : Nat → Int32 → Int32 → cf_O → Option (Int32 × cf_O)) (s0 : Int32) (o0 : cf_O) : Option (Int32 × cf_O) :=
  (if ¬ (s0 = 0 ∨ s0 = 1) then none else some (s0, o0))
noncomputable def fM_cutAll_86 (rc : Nat → Int32 → Int32 → cf_O → Option (Int32 × cf_O)) (o0 : cf_O) : Option (Int32 × cf_O) :=
  (if (o0.1 36) = (0 : Int32) then fM_cutAll_98 rc 1 o0 else fM_cutAll_98 rc 0 o0)
noncomputable def fM_cutAll_80 (rc : Nat → Int32 → Int32 → cf_O → Option (Int32 × cf_O)) (v1 : Int32) (v2 : Int32) (o0 : cf_O) : Option (Int32 × cf_O) :=
  op_k (v2 + 1) (fun x_1 => rc 1 v1 x_1 o0)
noncomputable def fM_cutAll_42 (rc : Nat → Int32 → Int32 → cf_O → Option (Int32 × cf_O)) (v1 : Int32) (v2 : Int32) (o0 : cf_O) : Option (Int32 × cf_O) :=
  (if (o0.1 43) ≤ v2 then fM_cutAll_86 rc o0 else (if (o0.1 36) = (0 : Int32) then Option.bind (fM_cut v2 v1 o0) (fun q_3 => (if (q_3.1 36) = (0 : Int32) then Option.bind (fM_base q_3) (fun q_6 => op_k (q_6 + v2) (fun x_9 => Option.bind (fM_findBest x_9 q_3) (fun q_10 => fM_cutAll_80 rc v1 v2 q_10))) else fM_cutAll_80 rc v1 v2 q_3)) else fM_cutAll_86 rc o0))
noncomputable def fM_cutAll_7 (rc : Nat → Int32 → Int32 → cf_O → Option (Int32 × cf_O)) (v1 : Int32) (v2 : Int32) (o0 : cf_O) : Option (Int32 × cf_O) :=
  Option.bind (fM_base o0) (fun q_1 => (if q_1 ≤ v2 then rc 1 v1 0 o0 else (if v2 < 0 ∨ 210 ≤ v2.toNatClampNeg then none else op_k (xp o0 57 v2.toNatClampNeg 0) (fun o_6 => (if v2 < 0 ∨ 210 ≤ v2.toNatClampNeg then none else op_k (xp o_6 62 v2.toNatClampNeg 0) (fun o_8 => Option.bind (fM_alone v2 o_8) (fun q_9 => op_k (v2 + 1) (fun x_11 => rc 0 v1 x_11 q_9))))))))
noncomputable def fM_cutAll_0 (rc : Nat → Int32 → Int32 → cf_O → Option (Int32 × cf_O)) (v1 : Int32) (o0 : cf_O) : Option (Int32 × cf_O) :=
  op_k (fp o0 36 0) (fun o_1 => rc 0 v1 0 o_1)
noncomputable def gM_cutAll (n : Nat) : Nat → Int32 → Int32 → cf_O → Option (Int32 × cf_O) := Nat.rec (motive := fun _ => Nat → Int32 → Int32 → cf_O → Option (Int32 × cf_O)) (fun _ _ _ _ => none) (fun _ rc => fun k u1i u2i o0 => Nat.rec (motive := fun _ => Option (Int32 × cf_O)) (fM_cutAll_7 rc u1i u2i o0) (fun k _ => Nat.rec (motive := fun _ => Option (Int32 × cf_O)) (fM_cutAll_42 rc u1i u2i o0) (fun k _ => none) k) k) n
noncomputable def fM_cutAll (v1 : Int32) (o0 : cf_O) : Option (Int32 × cf_O) := fM_cutAll_0 (gM_cutAll cfFU) v1 o0
noncomputable def fM_newGates_52 (rc : Nat → Int32 → Int32 → Int32 → cf_O → Option (Int32)) (v1 : Int32) (v3 : Int32) (s0 : Int32) (o0 : cf_O) : Option (Int32) :=
  op_k (v3 + 1) (fun x_1 => rc 0 v1 s0 x_1 o0)
noncomputable def fM_newGates_51 (rc : Nat → Int32 → Int32 → Int32 → cf_O → Option (Int32)) (v1 : Int32) (v2 : Int32) (v3 : Int32) (o0 : cf_O) : Option (Int32) :=
  fM_newGates_52 rc v1 v3 v2 o0
noncomputable def fM_newGates_4 (rc : Nat → Int32 → Int32 → Int32 → cf_O → Option (Int32)) (v1 : Int32) (v2 : Int32) (v3 : Int32) (o0 : cf_O) : Option (Int32) :=
  (if v1 < 0 ∨ 63210 ≤ v1.toNatClampNeg then none else op_k (o0.2.1 59 v1.toNatClampNeg) (fun x_2 => (if x_2 ≤ v3 then some v2 else op_k (5 * v1) (fun x_4 => op_k (x_4 + v3) (fun x_5 => (if x_5 < 0 ∨ 316050 ≤ x_5.toNatClampNeg then none else op_k (o0.2.1 58 x_5.toNatClampNeg) (fun x_7 => Option.bind (fM_base o0) (fun q_8 => (if x_7 < q_8 then fM_newGates_51 rc v1 v2 v3 o0 else (if x_7 < 0 ∨ 210 ≤ x_7.toNatClampNeg then none else op_k (o0.2.1 72 x_7.toNatClampNeg) (fun x_13 => (if x_13 = (0 : Int32) then op_k (v2 + 1) (fun x_15 => fM_newGates_52 rc v1 v3 x_15 o0) else fM_newGates_51 rc v1 v2 v3 o0))))))))))))
noncomputable def fM_newGates_0 (rc : Nat → Int32 → Int32 → Int32 → cf_O → Option (Int32)) (v1 : Int32) (o0 : cf_O) : Option (Int32) :=
  rc 0 v1 0 0 o0
noncomputable def gM_newGates (n : Nat) : Nat → Int32 → Int32 → Int32 → cf_O → Option (Int32) := Nat.rec (motive := fun _ => Nat → Int32 → Int32 → Int32 → cf_O → Option (Int32)) (fun _ _ _ _ _ => none) (fun _ rc => fun k u1i u2i u3i o0 => Nat.rec (motive := fun _ => Option (Int32)) (fM_newGates_4 rc u1i u2i u3i o0) (fun k _ => none) k) n
noncomputable def fM_newGates (v1 : Int32) (o0 : cf_O) : Option (Int32) := fM_newGates_0 (gM_newGates cfFU) v1 o0
noncomputable def fM_isFewer_91 (rc : Nat → Int32 → Int32 → Int32 → Int32 → cf_O → Option (Int32)) (s0 : Int32) (o0 : cf_O) : Option (Int32) :=
  (if ¬ (s0 = 0 ∨ s0 = 1) then none else some s0)
noncomputable def fM_isFewer_82 (rc : Nat → Int32 → Int32 → Int32 → Int32 → cf_O → Option (Int32)) (v3 : Int32) (o0 : cf_O) : Option (Int32) :=
  (if (0 : Int32) ≤ v3 then fM_isFewer_91 rc 0 o0 else fM_isFewer_91 rc 1 o0)
noncomputable def fM_isFewer_37 (rc : Nat → Int32 → Int32 → Int32 → Int32 → cf_O → Option (Int32)) (v1 : Int32) (v2 : Int32) (v3 : Int32) (v4 : Int32) (o0 : cf_O) : Option (Int32) :=
  (if v1 < 0 ∨ 63210 ≤ v1.toNatClampNeg then none else op_k (o0.2.1 59 v1.toNatClampNeg) (fun x_2 => (if x_2 ≤ v4 then fM_isFewer_82 rc v3 o0 else (if v3 = (0 : Int32) then op_k (5 * v1) (fun x_5 => op_k (x_5 + v4) (fun x_6 => (if x_6 < 0 ∨ 316050 ≤ x_6.toNatClampNeg then none else op_k (o0.2.1 58 x_6.toNatClampNeg) (fun x_8 => op_k (5 * v2) (fun x_9 => op_k (x_9 + v4) (fun x_10 => (if x_10 < 0 ∨ 316050 ≤ x_10.toNatClampNeg then none else op_k (o0.2.1 58 x_10.toNatClampNeg) (fun x_12 => op_k (x_8 - x_12) (fun x_13 => op_k (v4 + 1) (fun x_14 => rc 0 v1 v2 x_13 x_14 o0)))))))))) else fM_isFewer_82 rc v3 o0))))
noncomputable def fM_isFewer_33 (rc : Nat → Int32 → Int32 → Int32 → Int32 → cf_O → Option (Int32)) (v1 : Int32) (v2 : Int32) (s0 : Int32) (o0 : cf_O) : Option (Int32) :=
  rc 0 v1 v2 s0 0 o0
noncomputable def fM_isFewer_0 (rc : Nat → Int32 → Int32 → Int32 → Int32 → cf_O → Option (Int32)) (v1 : Int32) (v2 : Int32) (o0 : cf_O) : Option (Int32) :=
  Option.bind (fM_newGates v1 o0) (fun q_1 => Option.bind (fM_newGates v2 o0) (fun q_4 => op_k (q_1 - q_4) (fun x_7 => (if x_7 = (0 : Int32) then (if v1 < 0 ∨ 63210 ≤ v1.toNatClampNeg then none else op_k (o0.2.1 59 v1.toNatClampNeg) (fun x_10 => (if v2 < 0 ∨ 63210 ≤ v2.toNatClampNeg then none else op_k (o0.2.1 59 v2.toNatClampNeg) (fun x_12 => op_k (x_10 - x_12) (fun x_13 => fM_isFewer_33 rc v1 v2 x_13 o0))))) else fM_isFewer_33 rc v1 v2 x_7 o0))))
noncomputable def gM_isFewer (n : Nat) : Nat → Int32 → Int32 → Int32 → Int32 → cf_O → Option (Int32) := Nat.rec (motive := fun _ => Nat → Int32 → Int32 → Int32 → Int32 → cf_O → Option (Int32)) (fun _ _ _ _ _ _ => none) (fun _ rc => fun k u1i u2i u3i u4i o0 => Nat.rec (motive := fun _ => Option (Int32)) (fM_isFewer_37 rc u1i u2i u3i u4i o0) (fun k _ => none) k) n
noncomputable def fM_isFewer (v1 : Int32) (v2 : Int32) (o0 : cf_O) : Option (Int32) := fM_isFewer_0 (gM_isFewer cfFU) v1 v2 o0
noncomputable def fM_chooseFew_374 (rc : Nat → Int32 → Int32 → Int32 → Int32 → cf_O → Option (cf_O)) (v2 : Int32) (o0 : cf_O) : Option (cf_O) :=
  op_k (v2 + (-1)) (fun x_1 => rc 3 0 x_1 0 0 o0)
noncomputable def fM_chooseFew_367 (rc : Nat → Int32 → Int32 → Int32 → Int32 → cf_O → Option (cf_O)) (v2 : Int32) (v3 : Int32) (v4 : Int32) (s1 : Int32) (s2 : Int32) (o0 : cf_O) : Option (cf_O) :=
  (if s1 < 0 ∨ 210 ≤ s1.toNatClampNeg then none else op_k (xp o0 72 s1.toNatClampNeg (vp_nar .boolean s2)) (fun o_2 => op_k (v4 + 1) (fun x_3 => rc 5 0 v2 v3 x_3 o_2)))
noncomputable def fM_chooseFew_362 (rc : Nat → Int32 → Int32 → Int32 → Int32 → cf_O → Option (cf_O)) (v2 : Int32) (v3 : Int32) (v4 : Int32) (s1 : Int32) (o0 : cf_O) : Option (cf_O) :=
  fM_chooseFew_367 rc v2 v3 v4 s1 1 o0
noncomputable def fM_chooseFew_336 (rc : Nat → Int32 → Int32 → Int32 → Int32 → cf_O → Option (cf_O)) (v2 : Int32) (v3 : Int32) (v4 : Int32) (v5 : Int32) (s1 : Int32) (s2 : Int32) (o0 : cf_O) : Option (cf_O) :=
  (if s1 < 0 ∨ 210 ≤ s1.toNatClampNeg then none else op_k (xp o0 67 s1.toNatClampNeg s2) (fun o_2 => (if v5 < 0 ∨ 210 ≤ v5.toNatClampNeg then none else op_k (o_2.2.1 72 v5.toNatClampNeg) (fun x_4 => (if x_4 = (0 : Int32) then Option.bind (fM_base o_2) (fun q_6 => (if v5 < q_6 then fM_chooseFew_367 rc v2 v3 v4 v5 0 o_2 else fM_chooseFew_362 rc v2 v3 v4 v5 o_2)) else fM_chooseFew_362 rc v2 v3 v4 v5 o_2)))))
noncomputable def fM_chooseFew_318 (rc : Nat → Int32 → Int32 → Int32 → Int32 → cf_O → Option (cf_O)) (v2 : Int32) (v3 : Int32) (v4 : Int32) (v5 : Int32) (s1 : Int32) (o0 : cf_O) : Option (cf_O) :=
  (if v2 < 0 ∨ 210 ≤ v2.toNatClampNeg then none else op_k (o0.2.1 67 v2.toNatClampNeg) (fun x_2 => op_k (x_2 - 1) (fun x_3 => fM_chooseFew_336 rc v2 v3 v4 v5 s1 x_3 o0)))
noncomputable def fM_chooseFew_260 (rc : Nat → Int32 → Int32 → Int32 → Int32 → cf_O → Option (cf_O)) (v2 : Int32) (v3 : Int32) (v4 : Int32) (o0 : cf_O) : Option (cf_O) :=
  (if v3 < 0 ∨ 63210 ≤ v3.toNatClampNeg then none else op_k (o0.2.1 59 v3.toNatClampNeg) (fun x_2 => (if x_2 ≤ v4 then fM_chooseFew_374 rc v2 o0 else op_k (5 * v3) (fun x_4 => op_k (x_4 + v4) (fun x_5 => (if x_5 < 0 ∨ 316050 ≤ x_5.toNatClampNeg then none else op_k (o0.2.1 58 x_5.toNatClampNeg) (fun x_7 => (if x_7 < 0 ∨ 210 ≤ x_7.toNatClampNeg then none else op_k (o0.2.1 72 x_7.toNatClampNeg) (fun x_9 => (if x_9 = (0 : Int32) then fM_chooseFew_318 rc v2 v3 v4 x_7 x_7 o0 else (if v2 < 0 ∨ 210 ≤ v2.toNatClampNeg then none else op_k (o0.2.1 67 v2.toNatClampNeg) (fun x_12 => op_k (x_12 - 1) (fun x_13 => (if x_7 < 0 ∨ 210 ≤ x_7.toNatClampNeg then none else op_k (o0.2.1 67 x_7.toNatClampNeg) (fun x_15 => (if x_15 ≤ x_13 then (if x_7 < 0 ∨ 210 ≤ x_7.toNatClampNeg then none else op_k (o0.2.1 67 x_7.toNatClampNeg) (fun x_18 => fM_chooseFew_336 rc v2 v3 v4 x_7 x_7 x_18 o0)) else fM_chooseFew_318 rc v2 v3 v4 x_7 x_7 o0))))))))))))))))
noncomputable def fM_chooseFew_243 (rc : Nat → Int32 → Int32 → Int32 → Int32 → cf_O → Option (cf_O)) (v2 : Int32) (v4 : Int32) (s0 : Int32) (o0 : cf_O) : Option (cf_O) :=
  op_k (v4 + 1) (fun x_1 => rc 4 0 v2 s0 x_1 o0)
noncomputable def fM_chooseFew_242 (rc : Nat → Int32 → Int32 → Int32 → Int32 → cf_O → Option (cf_O)) (v2 : Int32) (v3 : Int32) (v4 : Int32) (o0 : cf_O) : Option (cf_O) :=
  fM_chooseFew_243 rc v2 v4 v3 o0
noncomputable def fM_chooseFew_237 (rc : Nat → Int32 → Int32 → Int32 → Int32 → cf_O → Option (cf_O)) (v2 : Int32) (v4 : Int32) (o0 : cf_O) : Option (cf_O) :=
  fM_chooseFew_243 rc v2 v4 v4 o0
noncomputable def fM_chooseFew_216 (rc : Nat → Int32 → Int32 → Int32 → Int32 → cf_O → Option (cf_O)) (v2 : Int32) (v3 : Int32) (v4 : Int32) (s0 : Int32) (o0 : cf_O) : Option (cf_O) :=
  (if s0 = (0 : Int32) then fM_chooseFew_242 rc v2 v3 v4 o0 else (if v3 < (0 : Int32) then fM_chooseFew_237 rc v2 v4 o0 else Option.bind (fM_isFewer v4 v3 o0) (fun q_3 => (if q_3 = (0 : Int32) then fM_chooseFew_242 rc v2 v3 v4 o0 else fM_chooseFew_237 rc v2 v4 o0))))
noncomputable def fM_chooseFew_179 (rc : Nat → Int32 → Int32 → Int32 → Int32 → cf_O → Option (cf_O)) (v2 : Int32) (v3 : Int32) (v4 : Int32) (o0 : cf_O) : Option (cf_O) :=
  op_k (301 * v2) (fun x_1 => (if v2 < 0 ∨ 210 ≤ v2.toNatClampNeg then none else op_k (o0.2.1 57 v2.toNatClampNeg) (fun x_3 => op_k (x_1 + x_3) (fun x_4 => (if x_4 ≤ v4 then (if v2 < 0 ∨ 210 ≤ v2.toNatClampNeg then none else op_k (xp o0 63 v2.toNatClampNeg v3) (fun o_7 => rc 5 0 v2 v3 0 o_7)) else Option.bind (fM_depthOf v4 o0) (fun q_8 => (if v2 < 0 ∨ 210 ≤ v2.toNatClampNeg then none else op_k (o0.2.1 67 v2.toNatClampNeg) (fun x_12 => (if x_12 < q_8 then fM_chooseFew_216 rc v2 v3 v4 0 o0 else fM_chooseFew_216 rc v2 v3 v4 1 o0)))))))))
noncomputable def fM_chooseFew_150 (rc : Nat → Int32 → Int32 → Int32 → Int32 → cf_O → Option (cf_O)) (v2 : Int32) (o0 : cf_O) : Option (cf_O) :=
  Option.bind (fM_base o0) (fun q_1 => (if v2 < q_1 then Option.bind (fM_listCells o0) (fun q_5 => some q_5) else (if v2 < 0 ∨ 210 ≤ v2.toNatClampNeg then none else op_k (o0.2.1 72 v2.toNatClampNeg) (fun x_8 => (if x_8 = (0 : Int32) then fM_chooseFew_374 rc v2 o0 else op_k (301 * v2) (fun x_10 => rc 4 0 v2 (-1) x_10 o0))))))
noncomputable def fM_chooseFew_117 (rc : Nat → Int32 → Int32 → Int32 → Int32 → cf_O → Option (cf_O)) (v1 : Int32) (v2 : Int32) (s1 : Int32) (s2 : Int32) (o0 : cf_O) : Option (cf_O) :=
  (if s1 < 0 ∨ 210 ≤ s1.toNatClampNeg then none else op_k (xp o0 72 s1.toNatClampNeg (vp_nar .boolean s2)) (fun o_2 => (if v2 < 0 ∨ 6 ≤ v2.toNatClampNeg then none else op_k (o_2.2.1 47 v2.toNatClampNeg) (fun x_4 => op_k (x_4 / 2) (fun x_5 => (if x_5 < 0 ∨ 210 ≤ x_5.toNatClampNeg then none else op_k (xp o_2 67 x_5.toNatClampNeg v1) (fun o_7 => op_k (v2 + 1) (fun x_8 => rc 2 v1 x_8 0 0 o_7))))))))
noncomputable def fM_chooseFew_77 (rc : Nat → Int32 → Int32 → Int32 → Int32 → cf_O → Option (cf_O)) (v1 : Int32) (v2 : Int32) (o0 : cf_O) : Option (cf_O) :=
  (if (o0.1 40) ≤ v2 then Option.bind (fM_base o0) (fun q_2 => op_k (q_2 + (o0.1 43)) (fun x_5 => op_k (x_5 - 1) (fun x_6 => rc 3 0 x_6 0 0 o0))) else (if v2 < 0 ∨ 6 ≤ v2.toNatClampNeg then none else op_k (o0.2.1 47 v2.toNatClampNeg) (fun x_8 => op_k (x_8 / 2) (fun x_9 => (if v2 < 0 ∨ 6 ≤ v2.toNatClampNeg then none else op_k (o0.2.1 47 v2.toNatClampNeg) (fun x_11 => op_k (x_11 / 2) (fun x_12 => Option.bind (fM_base o0) (fun q_13 => (if x_12 < q_13 then fM_chooseFew_117 rc v1 v2 x_9 0 o0 else fM_chooseFew_117 rc v1 v2 x_9 1 o0)))))))))
noncomputable def fM_chooseFew_68 (rc : Nat → Int32 → Int32 → Int32 → Int32 → cf_O → Option (cf_O)) (v2 : Int32) (s0 : Int32) (o0 : cf_O) : Option (cf_O) :=
  op_k (v2 + 1) (fun x_1 => rc 1 s0 x_1 0 0 o0)
noncomputable def fM_chooseFew_26 (rc : Nat → Int32 → Int32 → Int32 → Int32 → cf_O → Option (cf_O)) (v1 : Int32) (v2 : Int32) (o0 : cf_O) : Option (cf_O) :=
  (if (o0.1 40) ≤ v2 then rc 2 v1 0 0 0 o0 else (if v2 < 0 ∨ 6 ≤ v2.toNatClampNeg then none else op_k (o0.2.1 47 v2.toNatClampNeg) (fun x_3 => op_k (x_3 / 2) (fun x_4 => (if x_4 < 0 ∨ 210 ≤ x_4.toNatClampNeg then none else op_k (o0.2.1 62 x_4.toNatClampNeg) (fun x_6 => (if x_6 ≤ v1 then fM_chooseFew_68 rc v2 v1 o0 else (if v2 < 0 ∨ 6 ≤ v2.toNatClampNeg then none else op_k (o0.2.1 47 v2.toNatClampNeg) (fun x_9 => op_k (x_9 / 2) (fun x_10 => (if x_10 < 0 ∨ 210 ≤ x_10.toNatClampNeg then none else op_k (o0.2.1 62 x_10.toNatClampNeg) (fun x_12 => fM_chooseFew_68 rc v2 x_12 o0))))))))))))
noncomputable def fM_chooseFew_4 (rc : Nat → Int32 → Int32 → Int32 → Int32 → cf_O → Option (cf_O)) (v1 : Int32) (v2 : Int32) (o0 : cf_O) : Option (cf_O) :=
  (if (210 : Int32) ≤ v2 then rc 1 v1 0 0 0 o0 else (if v2 < 0 ∨ 210 ≤ v2.toNatClampNeg then none else op_k (xp o0 72 v2.toNatClampNeg (vp_nar .boolean 0)) (fun o_3 => op_k (v2 + 1) (fun x_4 => rc 0 v1 x_4 0 0 o_3))))
noncomputable def fM_chooseFew_0 (rc : Nat → Int32 → Int32 → Int32 → Int32 → cf_O → Option (cf_O)) (o0 : cf_O) : Option (cf_O) :=
  rc 0 0 0 0 0 o0
noncomputable def gM_chooseFew (n : Nat) : Nat → Int32 → Int32 → Int32 → Int32 → cf_O → Option (cf_O) := Nat.rec (motive := fun _ => Nat → Int32 → Int32 → Int32 → Int32 → cf_O → Option (cf_O)) (fun _ _ _ _ _ _ => none) (fun _ rc => fun k u1i u2i u3i u4i o0 => Nat.rec (motive := fun _ => Option (cf_O)) (fM_chooseFew_4 rc u1i u2i o0) (fun k _ => Nat.rec (motive := fun _ => Option (cf_O)) (fM_chooseFew_26 rc u1i u2i o0) (fun k _ => Nat.rec (motive := fun _ => Option (cf_O)) (fM_chooseFew_77 rc u1i u2i o0) (fun k _ => Nat.rec (motive := fun _ => Option (cf_O)) (fM_chooseFew_150 rc u2i o0) (fun k _ => Nat.rec (motive := fun _ => Option (cf_O)) (fM_chooseFew_179 rc u2i u3i u4i o0) (fun k _ => Nat.rec (motive := fun _ => Option (cf_O)) (fM_chooseFew_260 rc u2i u3i u4i o0) (fun k _ => none) k) k) k) k) k) k) n
noncomputable def fM_chooseFew (o0 : cf_O) : Option (cf_O) := fM_chooseFew_0 (gM_chooseFew cfFU) o0
noncomputable def fM_again_27 (o0 : cf_O) : Option (cf_O) :=
  some o0
noncomputable def fM_again_0 (o0 : cf_O) : Option (cf_O) :=
  (if (o0.1 64) = (0 : Int32) then fM_again_27 o0 else Option.bind (fM_cutAll (o0.1 65) o0) (fun q_2 => (if (q_2.2.1 66) = (0 : Int32) then fM_again_27 q_2.2 else Option.bind (fM_chooseFew q_2.2) (fun q_6 => fM_again_27 q_6))))
noncomputable def fM_again (o0 : cf_O) : Option (cf_O) := fM_again_0 o0
noncomputable def fM_emit_0 (v1 : Int64) (o0 : cf_O) : Option (cf_O) :=
  (if (o0.1 95) = (0 : Int32) then op_k (v1.toInt32) (fun x_2 => (if (o0.1 76) < 0 ∨ 90000 ≤ (o0.1 76).toNatClampNeg then none else op_k (xp o0 77 (o0.1 76).toNatClampNeg x_2) (fun o_4 => op_k ((o_4.1 76) + 1) (fun x_5 => op_k (fp o_4 76 x_5) (fun o_6 => some o_6))))) else op_k (v1.toInt32) (fun x_7 => (if (o0.1 96) < 0 ∨ 24000 ≤ (o0.1 96).toNatClampNeg then none else op_k (xp o0 97 (o0.1 96).toNatClampNeg x_7) (fun o_9 => op_k ((o_9.1 96) + 1) (fun x_10 => op_k (fp o_9 96 x_10) (fun o_11 => some o_11))))))
noncomputable def fM_emit (v1 : Int64) (o0 : cf_O) : Option (cf_O) := fM_emit_0 v1 o0
noncomputable def fM_word_14 (rc : Nat → Int64 → cf_O → Option (cf_O)) (v2 : Int64) (o0 : cf_O) : Option (cf_O) :=
  op_k (lg_cmp v2 (0 : Int64)) (fun x_1 => (if x_1 ≤ (0 : Int32) then some o0 else op_k (v2 &&& 31) (fun x_3 => op_k (96 + x_3) (fun x_4 => Option.bind (fM_emit x_4 o0) (fun q_5 => op_k (v2 >>> ((5 : Int32).toInt64 &&& 63)) (fun x_7 => rc 0 x_7 q_5))))))
noncomputable def fM_word_0 (rc : Nat → Int64 → cf_O → Option (cf_O)) (v1 : Int32) (o0 : cf_O) : Option (cf_O) :=
  Option.bind (fM_emit 46 o0) (fun q_1 => (if v1 < 0 ∨ 4 ≤ v1.toNatClampNeg then none else op_k (q_1.2.2 4 v1.toNatClampNeg) (fun x_4 => rc 0 x_4 q_1)))
noncomputable def gM_word (n : Nat) : Nat → Int64 → cf_O → Option (cf_O) := Nat.rec (motive := fun _ => Nat → Int64 → cf_O → Option (cf_O)) (fun _ _ _ => none) (fun _ rc => fun k u2l o0 => Nat.rec (motive := fun _ => Option (cf_O)) (fM_word_14 rc u2l o0) (fun k _ => none) k) n
noncomputable def fM_word (v1 : Int32) (o0 : cf_O) : Option (cf_O) := fM_word_0 (gM_word cfFU) v1 o0
noncomputable def fM_name_M41_39 (rc : Nat → Int32 → Int32 → cf_O → Option (cf_O)) (v2 : Int32) (v3 : Int32) (o0 : cf_O) : Option (cf_O) :=
  op_k (v3 + 1) (fun x_1 => rc 0 v2 x_1 o0)
noncomputable def fM_name_M41_9 (rc : Nat → Int32 → Int32 → cf_O → Option (cf_O)) (v2 : Int32) (v3 : Int32) (o0 : cf_O) : Option (cf_O) :=
  (if (8 : Int32) ≤ v3 then some o0 else op_k (8 * v2) (fun x_2 => op_k (x_2 + v3) (fun x_3 => (if x_3 < 0 ∨ 64 ≤ x_3.toNatClampNeg then none else op_k (o0.2.1 41 x_3.toNatClampNeg) (fun x_5 => (if x_5 ≤ (0 : Int32) then fM_name_M41_39 rc v2 v3 o0 else op_k (8 * v2) (fun x_7 => op_k (x_7 + v3) (fun x_8 => (if x_8 < 0 ∨ 64 ≤ x_8.toNatClampNeg then none else op_k (o0.2.1 41 x_8.toNatClampNeg) (fun x_10 => op_k (x_10.toInt64) (fun x_11 => Option.bind (fM_emit x_11 o0) (fun q_12 => fM_name_M41_39 rc v2 v3 q_12))))))))))))
noncomputable def fM_name_M41_0 (rc : Nat → Int32 → Int32 → cf_O → Option (cf_O)) (v2 : Int32) (o0 : cf_O) : Option (cf_O) :=
  Option.bind (fM_emit 32 o0) (fun q_1 => rc 0 v2 0 q_1)
noncomputable def gM_name_M41 (n : Nat) : Nat → Int32 → Int32 → cf_O → Option (cf_O) := Nat.rec (motive := fun _ => Nat → Int32 → Int32 → cf_O → Option (cf_O)) (fun _ _ _ _ => none) (fun _ rc => fun k u2i u3i o0 => Nat.rec (motive := fun _ => Option (cf_O)) (fM_name_M41_9 rc u2i u3i o0) (fun k _ => none) k) n
noncomputable def fM_name_M41 (v2 : Int32) (o0 : cf_O) : Option (cf_O) := fM_name_M41_0 (gM_name_M41 cfFU) v2 o0
noncomputable def fM_name_M42_39 (rc : Nat → Int32 → Int32 → cf_O → Option (cf_O)) (v2 : Int32) (v3 : Int32) (o0 : cf_O) : Option (cf_O) :=
  op_k (v3 + 1) (fun x_1 => rc 0 v2 x_1 o0)
noncomputable def fM_name_M42_9 (rc : Nat → Int32 → Int32 → cf_O → Option (cf_O)) (v2 : Int32) (v3 : Int32) (o0 : cf_O) : Option (cf_O) :=
  (if (8 : Int32) ≤ v3 then some o0 else op_k (8 * v2) (fun x_2 => op_k (x_2 + v3) (fun x_3 => (if x_3 < 0 ∨ 48 ≤ x_3.toNatClampNeg then none else op_k (o0.2.1 42 x_3.toNatClampNeg) (fun x_5 => (if x_5 ≤ (0 : Int32) then fM_name_M42_39 rc v2 v3 o0 else op_k (8 * v2) (fun x_7 => op_k (x_7 + v3) (fun x_8 => (if x_8 < 0 ∨ 48 ≤ x_8.toNatClampNeg then none else op_k (o0.2.1 42 x_8.toNatClampNeg) (fun x_10 => op_k (x_10.toInt64) (fun x_11 => Option.bind (fM_emit x_11 o0) (fun q_12 => fM_name_M42_39 rc v2 v3 q_12))))))))))))
noncomputable def fM_name_M42_0 (rc : Nat → Int32 → Int32 → cf_O → Option (cf_O)) (v2 : Int32) (o0 : cf_O) : Option (cf_O) :=
  Option.bind (fM_emit 32 o0) (fun q_1 => rc 0 v2 0 q_1)
noncomputable def gM_name_M42 (n : Nat) : Nat → Int32 → Int32 → cf_O → Option (cf_O) := Nat.rec (motive := fun _ => Nat → Int32 → Int32 → cf_O → Option (cf_O)) (fun _ _ _ _ => none) (fun _ rc => fun k u2i u3i o0 => Nat.rec (motive := fun _ => Option (cf_O)) (fM_name_M42_9 rc u2i u3i o0) (fun k _ => none) k) n
noncomputable def fM_name_M42 (v2 : Int32) (o0 : cf_O) : Option (cf_O) := fM_name_M42_0 (gM_name_M42 cfFU) v2 o0
noncomputable def fM_nodeName_67 (rc : Nat → Int32 → Int32 → cf_O → Option (cf_O)) (v1 : Int32) (v2 : Int32) (o0 : cf_O) : Option (cf_O) :=
  op_k (v2 / 10) (fun x_1 => rc 0 v1 x_1 o0)
noncomputable def fM_nodeName_44 (rc : Nat → Int32 → Int32 → cf_O → Option (cf_O)) (v1 : Int32) (v2 : Int32) (o0 : cf_O) : Option (cf_O) :=
  (if v2 ≤ (0 : Int32) then some o0 else (if v1 < v2 then fM_nodeName_67 rc v1 v2 o0 else (if v2 = 0 then none else op_k (v1 / v2) (fun x_4 => op_k (x_4 - x_4 / 10 * 10) (fun x_5 => op_k (48 + x_5) (fun x_6 => op_k (x_6.toInt64) (fun x_7 => Option.bind (fM_emit x_7 o0) (fun q_8 => fM_nodeName_67 rc v1 v2 q_8))))))))
noncomputable def fM_nodeName_0 (rc : Nat → Int32 → Int32 → cf_O → Option (cf_O)) (v1 : Int32) (o0 : cf_O) : Option (cf_O) :=
  Option.bind (fM_base o0) (fun q_1 => (if q_1 ≤ v1 then Option.bind (fM_emit 32 o0) (fun q_5 => Option.bind (fM_emit 110 q_5) (fun q_7 => Option.bind (fM_emit 95 q_7) (fun q_9 => rc 0 v1 100 q_9))) else op_k (v1 - 1) (fun x_11 => Option.bind (fM_name_M41 x_11 o0) (fun q_12 => some q_12))))
noncomputable def gM_nodeName (n : Nat) : Nat → Int32 → Int32 → cf_O → Option (cf_O) := Nat.rec (motive := fun _ => Nat → Int32 → Int32 → cf_O → Option (cf_O)) (fun _ _ _ _ => none) (fun _ rc => fun k u1i u2i o0 => Nat.rec (motive := fun _ => Option (cf_O)) (fM_nodeName_44 rc u1i u2i o0) (fun k _ => none) k) n
noncomputable def fM_nodeName (v1 : Int32) (o0 : cf_O) : Option (cf_O) := fM_nodeName_0 (gM_nodeName cfFU) v1 o0
noncomputable def fM_cellValue_144 (rc : Nat → Int32 → Int32 → Int32 → Int32 → Int32 → cf_O → Option (Int32 × cf_O)) (v1 : Int32) (v2 : Int32) (v3 : Int32) (v4 : Int32) (v5 : Int32) (s1 : Int32) (s2 : Int32) (o0 : cf_O) : Option (Int32 × cf_O) :=
  (if s1 < 0 ∨ 210 ≤ s1.toNatClampNeg then none else op_k (xp o0 75 s1.toNatClampNeg (vp_nar .boolean s2)) (fun o_2 => op_k (v5 + 1) (fun x_3 => rc 1 v1 v2 v3 v4 x_3 o_2)))
noncomputable def fM_cellValue_86 (rc : Nat → Int32 → Int32 → Int32 → Int32 → Int32 → cf_O → Option (Int32 × cf_O)) (v1 : Int32) (v2 : Int32) (v3 : Int32) (v4 : Int32) (v5 : Int32) (o0 : cf_O) : Option (Int32 × cf_O) :=
  (if v3 < 0 ∨ 63210 ≤ v3.toNatClampNeg then none else op_k (o0.2.1 59 v3.toNatClampNeg) (fun x_2 => (if x_2 ≤ v5 then op_k (v4 + 1) (fun x_4 => rc 0 v1 v2 v3 x_4 0 o0) else op_k (5 * v3) (fun x_5 => op_k (x_5 + v5) (fun x_6 => (if x_6 < 0 ∨ 316050 ≤ x_6.toNatClampNeg then none else op_k (o0.2.1 58 x_6.toNatClampNeg) (fun x_8 => (if x_8 = v4 then op_k (v2 >>> (v5 &&& 31)) (fun x_12 => op_k (x_12 &&& 1) (fun x_13 => (if x_13 = (1 : Int32) then fM_cellValue_144 rc v1 v2 v3 v4 v5 v4 1 o0 else fM_cellValue_144 rc v1 v2 v3 v4 v5 v4 0 o0))) else (if v4 < 0 ∨ 210 ≤ v4.toNatClampNeg then none else op_k (o0.2.1 75 v4.toNatClampNeg) (fun x_11 => fM_cellValue_144 rc v1 v2 v3 v4 v5 v4 x_11 o0))))))))))
noncomputable def fM_cellValue_83 (rc : Nat → Int32 → Int32 → Int32 → Int32 → Int32 → cf_O → Option (Int32 × cf_O)) (v1 : Int32) (v2 : Int32) (v3 : Int32) (v4 : Int32) (o0 : cf_O) : Option (Int32 × cf_O) :=
  rc 1 v1 v2 v3 v4 0 o0
noncomputable def fM_cellValue_82 (rc : Nat → Int32 → Int32 → Int32 → Int32 → Int32 → cf_O → Option (Int32 × cf_O)) (v1 : Int32) (v2 : Int32) (v3 : Int32) (v4 : Int32) (s1 : Int32) (s2 : Int32) (o0 : cf_O) : Option (Int32 × cf_O) :=
  (if s1 < 0 ∨ 210 ≤ s1.toNatClampNeg then none else op_k (xp o0 75 s1.toNatClampNeg (vp_nar .boolean s2)) (fun o_2 => fM_cellValue_83 rc v1 v2 v3 v4 o_2))
noncomputable def fM_cellValue_81 (rc : Nat → Int32 → Int32 → Int32 → Int32 → Int32 → cf_O → Option (Int32 × cf_O)) (v1 : Int32) (v2 : Int32) (v3 : Int32) (v4 : Int32) (s1 : Int32) (o0 : cf_O) : Option (Int32 × cf_O) :=
  fM_cellValue_82 rc v1 v2 v3 v4 s1 0 o0
noncomputable def fM_cellValue_10 (rc : Nat → Int32 → Int32 → Int32 → Int32 → Int32 → cf_O → Option (Int32 × cf_O)) (v1 : Int32) (v2 : Int32) (v3 : Int32) (v4 : Int32) (o0 : cf_O) : Option (Int32 × cf_O) :=
  (if v1 < v4 then (if v1 < 0 ∨ 210 ≤ v1.toNatClampNeg then none else op_k (o0.2.1 75 v1.toNatClampNeg) (fun x_3 => (if ¬ (x_3 = 0 ∨ x_3 = 1) then none else some (x_3, o0)))) else (if v4 < 0 ∨ 210 ≤ v4.toNatClampNeg then none else op_k (xp o0 75 v4.toNatClampNeg (vp_nar .boolean 0)) (fun o_6 => Option.bind (fM_base o_6) (fun q_7 => (if v4 < q_7 then fM_cellValue_83 rc v1 v2 v3 v4 o_6 else Option.bind (fM_base o_6) (fun q_11 => op_k (v4 - q_11) (fun x_14 => (if x_14 < 0 ∨ 201 ≤ x_14.toNatClampNeg then none else op_k (o_6.2.1 44 x_14.toNatClampNeg) (fun x_16 => Option.bind (fM_is x_16 o_6) (fun q_17 => (if q_17 = (0 : Int32) then fM_cellValue_81 rc v1 v2 v3 v4 v4 o_6 else Option.bind (fM_base o_6) (fun q_21 => op_k (v4 - q_21) (fun x_24 => (if x_24 < 0 ∨ 201 ≤ x_24.toNatClampNeg then none else op_k (o_6.2.1 45 x_24.toNatClampNeg) (fun x_26 => Option.bind (fM_is x_26 o_6) (fun q_27 => (if q_27 = (0 : Int32) then fM_cellValue_81 rc v1 v2 v3 v4 v4 o_6 else fM_cellValue_82 rc v1 v2 v3 v4 v4 1 o_6)))))))))))))))))
noncomputable def fM_cellValue_0 (rc : Nat → Int32 → Int32 → Int32 → Int32 → Int32 → cf_O → Option (Int32 × cf_O)) (v1 : Int32) (v2 : Int32) (o0 : cf_O) : Option (Int32 × cf_O) :=
  (if v1 < 0 ∨ 210 ≤ v1.toNatClampNeg then none else op_k (o0.2.1 63 v1.toNatClampNeg) (fun x_2 => rc 0 v1 v2 x_2 0 0 o0))
noncomputable def gM_cellValue (n : Nat) : Nat → Int32 → Int32 → Int32 → Int32 → Int32 → cf_O → Option (Int32 × cf_O) := Nat.rec (motive := fun _ => Nat → Int32 → Int32 → Int32 → Int32 → Int32 → cf_O → Option (Int32 × cf_O)) (fun _ _ _ _ _ _ _ => none) (fun _ rc => fun k u1i u2i u3i u4i u5i o0 => Nat.rec (motive := fun _ => Option (Int32 × cf_O)) (fM_cellValue_10 rc u1i u2i u3i u4i o0) (fun k _ => Nat.rec (motive := fun _ => Option (Int32 × cf_O)) (fM_cellValue_86 rc u1i u2i u3i u4i u5i o0) (fun k _ => none) k) k) n
noncomputable def fM_cellValue (v1 : Int32) (v2 : Int32) (o0 : cf_O) : Option (Int32 × cf_O) := fM_cellValue_0 (gM_cellValue cfFU) v1 v2 o0
noncomputable def fM_writeCell_133 (rc : Nat → Int32 → Int32 → Int32 → Int32 → Int32 → cf_O → Option (cf_O)) (v1 : Int32) (v3 : Int32) (v4 : Int32) (o0 : cf_O) : Option (cf_O) :=
  op_k (v4 + 1) (fun x_1 => rc 1 v1 0 v3 x_1 0 o0)
noncomputable def fM_writeCell_85 (rc : Nat → Int32 → Int32 → Int32 → Int32 → Int32 → cf_O → Option (cf_O)) (v1 : Int32) (v3 : Int32) (v4 : Int32) (v5 : Int32) (o0 : cf_O) : Option (cf_O) :=
  (if v3 ≤ v5 then Option.bind (fM_emit 32 o0) (fun q_2 => Option.bind (fM_emit 49 q_2) (fun q_4 => Option.bind (fM_emit 10 q_4) (fun q_6 => fM_writeCell_133 rc v1 v3 v4 q_6))) else op_k (v4 >>> (v5 &&& 31)) (fun x_8 => op_k (x_8 &&& 1) (fun x_9 => op_k (48 + x_9) (fun x_10 => op_k (x_10.toInt64) (fun x_11 => Option.bind (fM_emit x_11 o0) (fun q_12 => op_k (v5 + 1) (fun x_14 => rc 2 v1 0 v3 v4 x_14 q_12)))))))
noncomputable def fM_writeCell_64 (rc : Nat → Int32 → Int32 → Int32 → Int32 → Int32 → cf_O → Option (cf_O)) (v1 : Int32) (v3 : Int32) (v4 : Int32) (o0 : cf_O) : Option (cf_O) :=
  op_k ((1 : Int32) <<< (v3 &&& 31)) (fun x_1 => (if x_1 ≤ v4 then some o0 else Option.bind (fM_cellValue v1 v4 o0) (fun q_3 => (if q_3.1 = (0 : Int32) then fM_writeCell_133 rc v1 v3 v4 q_3.2 else rc 2 v1 0 v3 v4 0 q_3.2))))
noncomputable def fM_writeCell_22 (rc : Nat → Int32 → Int32 → Int32 → Int32 → Int32 → cf_O → Option (cf_O)) (v1 : Int32) (v2 : Int32) (v3 : Int32) (v4 : Int32) (o0 : cf_O) : Option (cf_O) :=
  (if v3 ≤ v4 then Option.bind (fM_nodeName v1 o0) (fun q_2 => Option.bind (fM_emit 10 q_2) (fun q_4 => rc 1 v1 0 v3 0 0 q_4)) else op_k (5 * v2) (fun x_6 => op_k (x_6 + v4) (fun x_7 => (if x_7 < 0 ∨ 316050 ≤ x_7.toNatClampNeg then none else op_k (o0.2.1 58 x_7.toNatClampNeg) (fun x_9 => Option.bind (fM_nodeName x_9 o0) (fun q_10 => op_k (v4 + 1) (fun x_12 => rc 0 v1 v2 v3 x_12 0 q_10)))))))
noncomputable def fM_writeCell_0 (rc : Nat → Int32 → Int32 → Int32 → Int32 → Int32 → cf_O → Option (cf_O)) (v1 : Int32) (o0 : cf_O) : Option (cf_O) :=
  (if v1 < 0 ∨ 210 ≤ v1.toNatClampNeg then none else op_k (o0.2.1 63 v1.toNatClampNeg) (fun x_2 => (if x_2 < 0 ∨ 63210 ≤ x_2.toNatClampNeg then none else op_k (o0.2.1 59 x_2.toNatClampNeg) (fun x_4 => Option.bind (fM_word 2 o0) (fun q_5 => rc 0 v1 x_2 x_4 0 0 q_5)))))
noncomputable def gM_writeCell (n : Nat) : Nat → Int32 → Int32 → Int32 → Int32 → Int32 → cf_O → Option (cf_O) := Nat.rec (motive := fun _ => Nat → Int32 → Int32 → Int32 → Int32 → Int32 → cf_O → Option (cf_O)) (fun _ _ _ _ _ _ _ => none) (fun _ rc => fun k u1i u2i u3i u4i u5i o0 => Nat.rec (motive := fun _ => Option (cf_O)) (fM_writeCell_22 rc u1i u2i u3i u4i o0) (fun k _ => Nat.rec (motive := fun _ => Option (cf_O)) (fM_writeCell_64 rc u1i u3i u4i o0) (fun k _ => Nat.rec (motive := fun _ => Option (cf_O)) (fM_writeCell_85 rc u1i u3i u4i u5i o0) (fun k _ => none) k) k) k) n
noncomputable def fM_writeCell (v1 : Int32) (o0 : cf_O) : Option (cf_O) := fM_writeCell_0 (gM_writeCell cfFU) v1 o0
noncomputable def fM_writeOutput_120 (o0 : cf_O) : Option (cf_O) :=
  some o0
noncomputable def fM_writeOutput_75 (s1 : Int64) (o0 : cf_O) : Option (cf_O) :=
  Option.bind (fM_emit s1 o0) (fun q_1 => Option.bind (fM_emit 32 q_1) (fun q_3 => Option.bind (fM_emit 49 q_3) (fun q_5 => Option.bind (fM_emit 10 q_5) (fun q_7 => fM_writeOutput_120 q_7))))
noncomputable def fM_writeOutput_41 (v1 : Int32) (v2 : Int32) (v3 : Int32) (o0 : cf_O) : Option (cf_O) :=
  Option.bind (fM_name_M42 v1 o0) (fun q_1 => Option.bind (fM_emit 10 q_1) (fun q_3 => (if v2 ≤ (0 : Int32) then (if v3 = (0 : Int32) then fM_writeOutput_120 q_3 else Option.bind (fM_emit 49 q_3) (fun q_7 => Option.bind (fM_emit 10 q_7) (fun q_9 => fM_writeOutput_120 q_9))) else (if v3 = (0 : Int32) then fM_writeOutput_75 49 q_3 else fM_writeOutput_75 48 q_3))))
noncomputable def fM_writeOutput_26 (v1 : Int32) (v2 : Int32) (s0 : Int32) (o0 : cf_O) : Option (cf_O) :=
  Option.bind (fM_word 2 o0) (fun q_1 => (if v2 ≤ (0 : Int32) then fM_writeOutput_41 v1 v2 s0 q_1 else Option.bind (fM_nodeName v2 q_1) (fun q_4 => fM_writeOutput_41 v1 v2 s0 q_4)))
noncomputable def fM_writeOutput_0 (v1 : Int32) (o0 : cf_O) : Option (cf_O) :=
  (if v1 < 0 ∨ 6 ≤ v1.toNatClampNeg then none else op_k (o0.2.1 47 v1.toNatClampNeg) (fun x_2 => op_k (x_2 / 2) (fun x_3 => (if v1 < 0 ∨ 6 ≤ v1.toNatClampNeg then none else op_k (o0.2.1 47 v1.toNatClampNeg) (fun x_5 => op_k (x_5 - x_5 / 2 * 2) (fun x_6 => (if x_6 = (1 : Int32) then fM_writeOutput_26 v1 x_3 1 o0 else fM_writeOutput_26 v1 x_3 0 o0)))))))
noncomputable def fM_writeOutput (v1 : Int32) (o0 : cf_O) : Option (cf_O) := fM_writeOutput_0 v1 o0
noncomputable def fM_write_107 (rc : Nat → Int32 → cf_O → Option (cf_O)) (v1 : Int32) (o0 : cf_O) : Option (cf_O) :=
  (if (o0.1 40) ≤ v1 then Option.bind (fM_word 3 o0) (fun q_2 => Option.bind (fM_emit 10 q_2) (fun q_4 => some q_4)) else Option.bind (fM_writeOutput v1 o0) (fun q_6 => op_k (v1 + 1) (fun x_8 => rc 3 x_8 q_6)))
noncomputable def fM_write_81 (rc : Nat → Int32 → cf_O → Option (cf_O)) (v1 : Int32) (o0 : cf_O) : Option (cf_O) :=
  (if (o0.1 73) ≤ v1 then rc 3 0 o0 else (if v1 < 0 ∨ 201 ≤ v1.toNatClampNeg then none else op_k (o0.2.1 74 v1.toNatClampNeg) (fun x_3 => Option.bind (fM_writeCell x_3 o0) (fun q_4 => op_k (v1 + 1) (fun x_6 => rc 2 x_6 q_4)))))
noncomputable def fM_write_49 (rc : Nat → Int32 → cf_O → Option (cf_O)) (v1 : Int32) (o0 : cf_O) : Option (cf_O) :=
  (if (o0.1 40) ≤ v1 then Option.bind (fM_emit 10 o0) (fun q_2 => rc 2 0 q_2) else Option.bind (fM_name_M42 v1 o0) (fun q_4 => op_k (v1 + 1) (fun x_6 => rc 1 x_6 q_4)))
noncomputable def fM_write_12 (rc : Nat → Int32 → cf_O → Option (cf_O)) (v1 : Int32) (o0 : cf_O) : Option (cf_O) :=
  (if (o0.1 39) ≤ v1 then Option.bind (fM_emit 10 o0) (fun q_2 => Option.bind (fM_word 1 q_2) (fun q_4 => rc 1 0 q_4)) else Option.bind (fM_name_M41 v1 o0) (fun q_6 => op_k (v1 + 1) (fun x_8 => rc 0 x_8 q_6)))
noncomputable def fM_write_0 (rc : Nat → Int32 → cf_O → Option (cf_O)) (o0 : cf_O) : Option (cf_O) :=
  op_k (fp o0 76 0) (fun o_1 => Option.bind (fM_word 0 o_1) (fun q_2 => rc 0 0 q_2))
noncomputable def gM_write (n : Nat) : Nat → Int32 → cf_O → Option (cf_O) := Nat.rec (motive := fun _ => Nat → Int32 → cf_O → Option (cf_O)) (fun _ _ _ => none) (fun _ rc => fun k u1i o0 => Nat.rec (motive := fun _ => Option (cf_O)) (fM_write_12 rc u1i o0) (fun k _ => Nat.rec (motive := fun _ => Option (cf_O)) (fM_write_49 rc u1i o0) (fun k _ => Nat.rec (motive := fun _ => Option (cf_O)) (fM_write_81 rc u1i o0) (fun k _ => Nat.rec (motive := fun _ => Option (cf_O)) (fM_write_107 rc u1i o0) (fun k _ => none) k) k) k) k) n
noncomputable def fM_write (o0 : cf_O) : Option (cf_O) := fM_write_0 (gM_write cfFU) o0
noncomputable def fM_coverBy_47 (o0 : cf_O) : Option (Int32 × cf_O) :=
  Option.bind (fM_write o0) (fun q_1 => op_k (fp q_1 64 1) (fun o_3 => some (o_3.1 73, o_3)))
noncomputable def fM_coverBy_0 (v1 : Int32) (v2 : Int32) (o0 : cf_O) : Option (Int32 × cf_O) :=
  Option.bind (fM_cutAll v1 o0) (fun q_1 => (if q_1.1 = (0 : Int32) then Option.bind (fM_again q_1.2) (fun q_13 => Option.bind (fM_refuse 0 0 1 q_13) (fun q_15 => some ((0 : Int32), q_15.2))) else op_k (fp q_1.2 65 v1) (fun o_5 => (if ¬ (v2 = 0 ∨ v2 = 1) then none else op_k (fp o_5 66 v2) (fun o_7 => (if v2 = (0 : Int32) then Option.bind (fM_chooseCells o_7) (fun q_9 => fM_coverBy_47 q_9) else Option.bind (fM_chooseFew o_7) (fun q_11 => fM_coverBy_47 q_11)))))))
noncomputable def fM_coverBy (v1 : Int32) (v2 : Int32) (o0 : cf_O) : Option (Int32 × cf_O) := fM_coverBy_0 v1 v2 o0
noncomputable def fM_cover_34 (v1 : Int32) (s1 : Int32) (s2 : Int32) (o0 : cf_O) : Option (Int32 × cf_O) :=
  Option.bind (fM_refuse s1 s2 0 o0) (fun q_1 => (if q_1.1 = (0 : Int32) then Option.bind (fM_coverBy v1 0 q_1.2) (fun q_5 => some (q_5.1, q_5.2)) else some ((0 : Int32), q_1.2)))
noncomputable def fM_cover_33 (v1 : Int32) (s1 : Int32) (o0 : cf_O) : Option (Int32 × cf_O) :=
  fM_cover_34 v1 s1 0 o0
noncomputable def fM_cover_13 (v1 : Int32) (s1 : Int32) (o0 : cf_O) : Option (Int32 × cf_O) :=
  (if (o0.1 38) = (0 : Int32) then fM_cover_33 v1 s1 o0 else Option.bind (fM_in v1 2 5) (fun q_2 => (if q_2 = (0 : Int32) then fM_cover_34 v1 s1 1 o0 else fM_cover_33 v1 s1 o0)))
noncomputable def fM_cover_0 (v1 : Int32) (o0 : cf_O) : Option (Int32 × cf_O) :=
  (if (o0.1 38) = (0 : Int32) then fM_cover_13 v1 1 o0 else fM_cover_13 v1 0 o0)
noncomputable def fM_cover (v1 : Int32) (o0 : cf_O) : Option (Int32 × cf_O) := fM_cover_0 v1 o0
noncomputable def fM_coverFew_34 (v1 : Int32) (s1 : Int32) (s2 : Int32) (o0 : cf_O) : Option (Int32 × cf_O) :=
  Option.bind (fM_refuse s1 s2 0 o0) (fun q_1 => (if q_1.1 = (0 : Int32) then Option.bind (fM_coverBy v1 1 q_1.2) (fun q_5 => some (q_5.1, q_5.2)) else some ((0 : Int32), q_1.2)))
noncomputable def fM_coverFew_33 (v1 : Int32) (s1 : Int32) (o0 : cf_O) : Option (Int32 × cf_O) :=
  fM_coverFew_34 v1 s1 0 o0
noncomputable def fM_coverFew_13 (v1 : Int32) (s1 : Int32) (o0 : cf_O) : Option (Int32 × cf_O) :=
  (if (o0.1 38) = (0 : Int32) then fM_coverFew_33 v1 s1 o0 else Option.bind (fM_in v1 2 5) (fun q_2 => (if q_2 = (0 : Int32) then fM_coverFew_34 v1 s1 1 o0 else fM_coverFew_33 v1 s1 o0)))
noncomputable def fM_coverFew_0 (v1 : Int32) (o0 : cf_O) : Option (Int32 × cf_O) :=
  (if (o0.1 38) = (0 : Int32) then fM_coverFew_13 v1 1 o0 else fM_coverFew_13 v1 0 o0)
noncomputable def fM_coverFew (v1 : Int32) (o0 : cf_O) : Option (Int32 × cf_O) := fM_coverFew_0 v1 o0
noncomputable def fM_inCut_40 (rc : Nat → Int32 → Int32 → Int32 → Int32 → cf_O → Option (Int32)) (v1 : Int32) (v2 : Int32) (v4 : Int32) (s0 : Int32) (o0 : cf_O) : Option (Int32) :=
  op_k (v4 + 1) (fun x_1 => rc 0 v1 v2 s0 x_1 o0)
noncomputable def fM_inCut_35 (rc : Nat → Int32 → Int32 → Int32 → Int32 → cf_O → Option (Int32)) (v1 : Int32) (v2 : Int32) (v4 : Int32) (o0 : cf_O) : Option (Int32) :=
  fM_inCut_40 rc v1 v2 v4 1 o0
noncomputable def fM_inCut_5 (rc : Nat → Int32 → Int32 → Int32 → Int32 → cf_O → Option (Int32)) (v1 : Int32) (v2 : Int32) (v3 : Int32) (v4 : Int32) (o0 : cf_O) : Option (Int32) :=
  (if v1 < 0 ∨ 63210 ≤ v1.toNatClampNeg then none else op_k (o0.2.1 59 v1.toNatClampNeg) (fun x_2 => (if x_2 ≤ v4 then (if ¬ (v3 = 0 ∨ v3 = 1) then none else some v3) else (if v3 = (0 : Int32) then op_k (5 * v1) (fun x_6 => op_k (x_6 + v4) (fun x_7 => (if x_7 < 0 ∨ 316050 ≤ x_7.toNatClampNeg then none else op_k (o0.2.1 58 x_7.toNatClampNeg) (fun x_9 => (if x_9 = v2 then fM_inCut_35 rc v1 v2 v4 o0 else fM_inCut_40 rc v1 v2 v4 0 o0))))) else fM_inCut_35 rc v1 v2 v4 o0))))
noncomputable def fM_inCut_0 (rc : Nat → Int32 → Int32 → Int32 → Int32 → cf_O → Option (Int32)) (v1 : Int32) (v2 : Int32) (o0 : cf_O) : Option (Int32) :=
  rc 0 v1 v2 0 0 o0
noncomputable def gM_inCut (n : Nat) : Nat → Int32 → Int32 → Int32 → Int32 → cf_O → Option (Int32) := Nat.rec (motive := fun _ => Nat → Int32 → Int32 → Int32 → Int32 → cf_O → Option (Int32)) (fun _ _ _ _ _ _ => none) (fun _ rc => fun k u1i u2i u3i u4i o0 => Nat.rec (motive := fun _ => Option (Int32)) (fM_inCut_5 rc u1i u2i u3i u4i o0) (fun k _ => none) k) n
noncomputable def fM_inCut (v1 : Int32) (v2 : Int32) (o0 : cf_O) : Option (Int32) := fM_inCut_0 (gM_inCut cfFU) v1 v2 o0
noncomputable def fM_freed_328 (rc : Nat → Int32 → Int32 → Int32 → Int32 → Int32 → Int32 → cf_O → Option (Int32 × cf_O)) (v1 : Int32) (v4 : Int32) (s0 : Int32) (o0 : cf_O) : Option (Int32 × cf_O) :=
  op_k (v4 + 1) (fun x_1 => rc 2 v1 0 s0 x_1 0 0 o0)
noncomputable def fM_freed_327 (rc : Nat → Int32 → Int32 → Int32 → Int32 → Int32 → Int32 → cf_O → Option (Int32 × cf_O)) (v1 : Int32) (v3 : Int32) (v4 : Int32) (o0 : cf_O) : Option (Int32 × cf_O) :=
  fM_freed_328 rc v1 v4 v3 o0
noncomputable def fM_freed_291 (rc : Nat → Int32 → Int32 → Int32 → Int32 → Int32 → Int32 → cf_O → Option (Int32 × cf_O)) (v1 : Int32) (v3 : Int32) (v4 : Int32) (v6 : Int32) (s0 : Int32) (o0 : cf_O) : Option (Int32 × cf_O) :=
  op_k (v6 + 1) (fun x_1 => rc 3 v1 0 v3 v4 s0 x_1 o0)
noncomputable def fM_freed_289 (rc : Nat → Int32 → Int32 → Int32 → Int32 → Int32 → Int32 → cf_O → Option (Int32 × cf_O)) (v1 : Int32) (v3 : Int32) (v4 : Int32) (v5 : Int32) (v6 : Int32) (o0 : cf_O) : Option (Int32 × cf_O) :=
  fM_freed_291 rc v1 v3 v4 v6 v5 o0
noncomputable def fM_freed_251 (rc : Nat → Int32 → Int32 → Int32 → Int32 → Int32 → Int32 → cf_O → Option (Int32 × cf_O)) (v1 : Int32) (v3 : Int32) (v4 : Int32) (v6 : Int32) (s0 : Int32) (o0 : cf_O) : Option (Int32 × cf_O) :=
  Option.bind (fM_base o0) (fun q_1 => op_k (q_1 + v6) (fun x_4 => (if x_4 < 0 ∨ 210 ≤ x_4.toNatClampNeg then none else op_k (o0.2.1 68 x_4.toNatClampNeg) (fun x_6 => (if x_6 = (0 : Int32) then fM_freed_289 rc v1 v3 v4 s0 v6 o0 else (if v6 < 0 ∨ 201 ≤ v6.toNatClampNeg then none else op_k (o0.2.1 45 v6.toNatClampNeg) (fun x_9 => op_k (x_9 / 2) (fun x_10 => (if x_10 = v4 then op_k (s0 + 1) (fun x_12 => fM_freed_291 rc v1 v3 v4 v6 x_12 o0) else fM_freed_289 rc v1 v3 v4 s0 v6 o0)))))))))
noncomputable def fM_freed_249 (rc : Nat → Int32 → Int32 → Int32 → Int32 → Int32 → Int32 → cf_O → Option (Int32 × cf_O)) (v1 : Int32) (v3 : Int32) (v4 : Int32) (v5 : Int32) (v6 : Int32) (o0 : cf_O) : Option (Int32 × cf_O) :=
  fM_freed_251 rc v1 v3 v4 v6 v5 o0
noncomputable def fM_freed_204 (rc : Nat → Int32 → Int32 → Int32 → Int32 → Int32 → Int32 → cf_O → Option (Int32 × cf_O)) (v1 : Int32) (v3 : Int32) (v4 : Int32) (v5 : Int32) (v6 : Int32) (o0 : cf_O) : Option (Int32 × cf_O) :=
  (if (o0.1 43) ≤ v6 then (if v4 < 0 ∨ 210 ≤ v4.toNatClampNeg then none else op_k (o0.2.1 68 v4.toNatClampNeg) (fun x_3 => (if x_3 = (0 : Int32) then fM_freed_327 rc v1 v3 v4 o0 else (if v4 < 0 ∨ 210 ≤ v4.toNatClampNeg then none else op_k (o0.2.1 48 v4.toNatClampNeg) (fun x_6 => (if v5 = x_6 then op_k (v3 + 1) (fun x_8 => fM_freed_328 rc v1 v4 x_8 o0) else fM_freed_327 rc v1 v3 v4 o0)))))) else Option.bind (fM_base o0) (fun q_9 => op_k (q_9 + v6) (fun x_12 => (if x_12 < 0 ∨ 210 ≤ x_12.toNatClampNeg then none else op_k (o0.2.1 68 x_12.toNatClampNeg) (fun x_14 => (if x_14 = (0 : Int32) then fM_freed_249 rc v1 v3 v4 v5 v6 o0 else (if v6 < 0 ∨ 201 ≤ v6.toNatClampNeg then none else op_k (o0.2.1 44 v6.toNatClampNeg) (fun x_17 => op_k (x_17 / 2) (fun x_18 => (if x_18 = v4 then op_k (v5 + 1) (fun x_20 => fM_freed_251 rc v1 v3 v4 v6 x_20 o0) else fM_freed_249 rc v1 v3 v4 v5 v6 o0))))))))))
noncomputable def fM_freed_192 (rc : Nat → Int32 → Int32 → Int32 → Int32 → Int32 → Int32 → cf_O → Option (Int32 × cf_O)) (v1 : Int32) (v3 : Int32) (v4 : Int32) (o0 : cf_O) : Option (Int32 × cf_O) :=
  (if v1 ≤ v4 then some (v3, o0) else rc 3 v1 0 v3 v4 0 0 o0)
noncomputable def fM_freed_177 (rc : Nat → Int32 → Int32 → Int32 → Int32 → Int32 → Int32 → cf_O → Option (Int32 × cf_O)) (v1 : Int32) (v2 : Int32) (v3 : Int32) (s1 : Int32) (s2 : Int32) (o0 : cf_O) : Option (Int32 × cf_O) :=
  (if s1 < 0 ∨ 210 ≤ s1.toNatClampNeg then none else op_k (xp o0 68 s1.toNatClampNeg (vp_nar .boolean s2)) (fun o_2 => op_k (v3 + (-1)) (fun x_3 => rc 1 v1 v2 x_3 0 0 0 o_2)))
noncomputable def fM_freed_176 (rc : Nat → Int32 → Int32 → Int32 → Int32 → Int32 → Int32 → cf_O → Option (Int32 × cf_O)) (v1 : Int32) (v2 : Int32) (v3 : Int32) (s1 : Int32) (o0 : cf_O) : Option (Int32 × cf_O) :=
  fM_freed_177 rc v1 v2 v3 s1 0 o0
noncomputable def fM_freed_172 (rc : Nat → Int32 → Int32 → Int32 → Int32 → Int32 → Int32 → cf_O → Option (Int32 × cf_O)) (v1 : Int32) (v2 : Int32) (v3 : Int32) (s1 : Int32) (o0 : cf_O) : Option (Int32 × cf_O) :=
  fM_freed_177 rc v1 v2 v3 s1 1 o0
noncomputable def fM_freed_127 (rc : Nat → Int32 → Int32 → Int32 → Int32 → Int32 → Int32 → cf_O → Option (Int32 × cf_O)) (v1 : Int32) (v2 : Int32) (v3 : Int32) (v5 : Int32) (s1 : Int32) (s2 : Int32) (o0 : cf_O) : Option (Int32 × cf_O) :=
  (if s1 < 0 ∨ 210 ≤ s1.toNatClampNeg then none else op_k (xp o0 68 s1.toNatClampNeg (vp_nar .boolean s2)) (fun o_2 => (if v5 < 0 ∨ 210 ≤ v5.toNatClampNeg then none else op_k (o_2.2.1 68 v5.toNatClampNeg) (fun x_4 => (if x_4 = (0 : Int32) then (if v3 < 0 ∨ 210 ≤ v3.toNatClampNeg then none else op_k (o_2.2.1 68 v3.toNatClampNeg) (fun x_7 => (if x_7 = (0 : Int32) then fM_freed_176 rc v1 v2 v3 v5 o_2 else Option.bind (fM_base o_2) (fun q_9 => (if v5 < q_9 then fM_freed_176 rc v1 v2 v3 v5 o_2 else Option.bind (fM_inCut v2 v5 o_2) (fun q_13 => (if q_13 = (0 : Int32) then fM_freed_172 rc v1 v2 v3 v5 o_2 else fM_freed_176 rc v1 v2 v3 v5 o_2))))))) else fM_freed_172 rc v1 v2 v3 v5 o_2)))))
noncomputable def fM_freed_126 (rc : Nat → Int32 → Int32 → Int32 → Int32 → Int32 → Int32 → cf_O → Option (Int32 × cf_O)) (v1 : Int32) (v2 : Int32) (v3 : Int32) (v5 : Int32) (s1 : Int32) (o0 : cf_O) : Option (Int32 × cf_O) :=
  fM_freed_127 rc v1 v2 v3 v5 s1 0 o0
noncomputable def fM_freed_122 (rc : Nat → Int32 → Int32 → Int32 → Int32 → Int32 → Int32 → cf_O → Option (Int32 × cf_O)) (v1 : Int32) (v2 : Int32) (v3 : Int32) (v5 : Int32) (s1 : Int32) (o0 : cf_O) : Option (Int32 × cf_O) :=
  fM_freed_127 rc v1 v2 v3 v5 s1 1 o0
noncomputable def fM_freed_40 (rc : Nat → Int32 → Int32 → Int32 → Int32 → Int32 → Int32 → cf_O → Option (Int32 × cf_O)) (v1 : Int32) (v2 : Int32) (v3 : Int32) (o0 : cf_O) : Option (Int32 × cf_O) :=
  Option.bind (fM_base o0) (fun q_1 => (if v3 < q_1 then Option.bind (fM_base o0) (fun q_5 => rc 2 v1 0 1 q_5 0 0 o0) else Option.bind (fM_base o0) (fun q_8 => op_k (v3 - q_8) (fun x_11 => (if x_11 < 0 ∨ 201 ≤ x_11.toNatClampNeg then none else op_k (o0.2.1 44 x_11.toNatClampNeg) (fun x_13 => op_k (x_13 / 2) (fun x_14 => Option.bind (fM_base o0) (fun q_15 => op_k (v3 - q_15) (fun x_18 => (if x_18 < 0 ∨ 201 ≤ x_18.toNatClampNeg then none else op_k (o0.2.1 45 x_18.toNatClampNeg) (fun x_20 => op_k (x_20 / 2) (fun x_21 => (if x_14 < 0 ∨ 210 ≤ x_14.toNatClampNeg then none else op_k (o0.2.1 68 x_14.toNatClampNeg) (fun x_23 => (if x_23 = (0 : Int32) then (if v3 < 0 ∨ 210 ≤ v3.toNatClampNeg then none else op_k (o0.2.1 68 v3.toNatClampNeg) (fun x_26 => (if x_26 = (0 : Int32) then fM_freed_126 rc v1 v2 v3 x_21 x_14 o0 else Option.bind (fM_base o0) (fun q_28 => (if x_14 < q_28 then fM_freed_126 rc v1 v2 v3 x_21 x_14 o0 else Option.bind (fM_inCut v2 x_14 o0) (fun q_32 => (if q_32 = (0 : Int32) then fM_freed_122 rc v1 v2 v3 x_21 x_14 o0 else fM_freed_126 rc v1 v2 v3 x_21 x_14 o0))))))) else fM_freed_122 rc v1 v2 v3 x_21 x_14 o0)))))))))))))))
noncomputable def fM_freed_31 (rc : Nat → Int32 → Int32 → Int32 → Int32 → Int32 → Int32 → cf_O → Option (Int32 × cf_O)) (v1 : Int32) (v2 : Int32) (v3 : Int32) (s1 : Int32) (s2 : Int32) (o0 : cf_O) : Option (Int32 × cf_O) :=
  (if s1 < 0 ∨ 210 ≤ s1.toNatClampNeg then none else op_k (xp o0 68 s1.toNatClampNeg (vp_nar .boolean s2)) (fun o_2 => op_k (v3 + 1) (fun x_3 => rc 0 v1 v2 x_3 0 0 0 o_2)))
noncomputable def fM_freed_9 (rc : Nat → Int32 → Int32 → Int32 → Int32 → Int32 → Int32 → cf_O → Option (Int32 × cf_O)) (v1 : Int32) (v2 : Int32) (v3 : Int32) (o0 : cf_O) : Option (Int32 × cf_O) :=
  (if (210 : Int32) ≤ v3 then rc 1 v1 v2 v1 0 0 0 o0 else (if v3 = v1 then fM_freed_31 rc v1 v2 v3 v3 1 o0 else fM_freed_31 rc v1 v2 v3 v3 0 o0))
noncomputable def fM_freed_0 (rc : Nat → Int32 → Int32 → Int32 → Int32 → Int32 → Int32 → cf_O → Option (Int32 × cf_O)) (v1 : Int32) (o0 : cf_O) : Option (Int32 × cf_O) :=
  (if v1 < 0 ∨ 210 ≤ v1.toNatClampNeg then none else op_k (o0.2.1 63 v1.toNatClampNeg) (fun x_2 => rc 0 v1 x_2 0 0 0 0 o0))
noncomputable def gM_freed (n : Nat) : Nat → Int32 → Int32 → Int32 → Int32 → Int32 → Int32 → cf_O → Option (Int32 × cf_O) := Nat.rec (motive := fun _ => Nat → Int32 → Int32 → Int32 → Int32 → Int32 → Int32 → cf_O → Option (Int32 × cf_O)) (fun _ _ _ _ _ _ _ _ => none) (fun _ rc => fun k u1i u2i u3i u4i u5i u6i o0 => Nat.rec (motive := fun _ => Option (Int32 × cf_O)) (fM_freed_9 rc u1i u2i u3i o0) (fun k _ => Nat.rec (motive := fun _ => Option (Int32 × cf_O)) (fM_freed_40 rc u1i u2i u3i o0) (fun k _ => Nat.rec (motive := fun _ => Option (Int32 × cf_O)) (fM_freed_192 rc u1i u3i u4i o0) (fun k _ => Nat.rec (motive := fun _ => Option (Int32 × cf_O)) (fM_freed_204 rc u1i u3i u4i u5i u6i o0) (fun k _ => none) k) k) k) k) n
noncomputable def fM_freed (v1 : Int32) (o0 : cf_O) : Option (Int32 × cf_O) := fM_freed_0 (gM_freed cfFU) v1 o0
noncomputable def fM_digit_4 (rc : Nat → Int32 → Int32 → Int32 → Option (Int32)) (v1 : Int32) (v2 : Int32) (v3 : Int32) : Option (Int32) :=
  (if v1 ≤ v3 then op_k (v2 - v2 / 3 * 3) (fun x_2 => some x_2) else op_k (v2 / 3) (fun x_3 => op_k (v3 + 1) (fun x_4 => rc 0 v1 x_3 x_4)))
noncomputable def fM_digit_0 (rc : Nat → Int32 → Int32 → Int32 → Option (Int32)) (v0 : Int32) (v1 : Int32) : Option (Int32) :=
  rc 0 v1 v0 0
noncomputable def gM_digit (n : Nat) : Nat → Int32 → Int32 → Int32 → Option (Int32) := Nat.rec (motive := fun _ => Nat → Int32 → Int32 → Int32 → Option (Int32)) (fun _ _ _ _ => none) (fun _ rc => fun k u1i u2i u3i => Nat.rec (motive := fun _ => Option (Int32)) (fM_digit_4 rc u1i u2i u3i) (fun k _ => none) k) n
noncomputable def fM_digit (v0 : Int32) (v1 : Int32) : Option (Int32) := fM_digit_0 (gM_digit cfFU) v0 v1
noncomputable def fM_isOne_62 (rc : Nat → Int32 → Int32 → Int32 → Int32 → Int32 → Option (Int32)) (v0 : Int32) (v1 : Int32) (v2 : Int32) (v4 : Int32) (s0 : Int32) : Option (Int32) :=
  op_k (v4 + 1) (fun x_1 => rc 0 v0 v1 v2 s0 x_1)
noncomputable def fM_isOne_61 (rc : Nat → Int32 → Int32 → Int32 → Int32 → Int32 → Option (Int32)) (v0 : Int32) (v1 : Int32) (v2 : Int32) (v4 : Int32) : Option (Int32) :=
  fM_isOne_62 rc v0 v1 v2 v4 0
noncomputable def fM_isOne_57 (rc : Nat → Int32 → Int32 → Int32 → Int32 → Int32 → Option (Int32)) (v0 : Int32) (v1 : Int32) (v2 : Int32) (v4 : Int32) : Option (Int32) :=
  fM_isOne_62 rc v0 v1 v2 v4 1
noncomputable def fM_isOne_54 (rc : Nat → Int32 → Int32 → Int32 → Int32 → Int32 → Option (Int32)) (v0 : Int32) (v1 : Int32) (v2 : Int32) (v4 : Int32) (s0 : Int32) (s1 : Int32) : Option (Int32) :=
  (if s0 = s1 then fM_isOne_57 rc v0 v1 v2 v4 else fM_isOne_61 rc v0 v1 v2 v4)
noncomputable def fM_isOne_39 (rc : Nat → Int32 → Int32 → Int32 → Int32 → Int32 → Option (Int32)) (v0 : Int32) (v1 : Int32) (v2 : Int32) (v4 : Int32) (s0 : Int32) : Option (Int32) :=
  op_k (v1 >>> (v4 &&& 31)) (fun x_1 => op_k (x_1 &&& 1) (fun x_2 => (if x_2 = (1 : Int32) then fM_isOne_54 rc v0 v1 v2 v4 s0 1 else fM_isOne_54 rc v0 v1 v2 v4 s0 0)))
noncomputable def fM_isOne_5 (rc : Nat → Int32 → Int32 → Int32 → Int32 → Int32 → Option (Int32)) (v0 : Int32) (v1 : Int32) (v2 : Int32) (v3 : Int32) (v4 : Int32) : Option (Int32) :=
  (if v2 ≤ v4 then (if ¬ (v3 = 0 ∨ v3 = 1) then none else some v3) else Option.bind (fM_digit v0 v4) (fun q_3 => (if v3 = (0 : Int32) then fM_isOne_61 rc v0 v1 v2 v4 else (if q_3 = (0 : Int32) then fM_isOne_57 rc v0 v1 v2 v4 else (if q_3 = (1 : Int32) then fM_isOne_39 rc v0 v1 v2 v4 1 else fM_isOne_39 rc v0 v1 v2 v4 0)))))
noncomputable def fM_isOne_0 (rc : Nat → Int32 → Int32 → Int32 → Int32 → Int32 → Option (Int32)) (v0 : Int32) (v1 : Int32) (v2 : Int32) : Option (Int32) :=
  rc 0 v0 v1 v2 1 0
noncomputable def gM_isOne (n : Nat) : Nat → Int32 → Int32 → Int32 → Int32 → Int32 → Option (Int32) := Nat.rec (motive := fun _ => Nat → Int32 → Int32 → Int32 → Int32 → Int32 → Option (Int32)) (fun _ _ _ _ _ _ => none) (fun _ rc => fun k u0i u1i u2i u3i u4i => Nat.rec (motive := fun _ => Option (Int32)) (fM_isOne_5 rc u0i u1i u2i u3i u4i) (fun k _ => none) k) n
noncomputable def fM_isOne (v0 : Int32) (v1 : Int32) (v2 : Int32) : Option (Int32) := fM_isOne_0 (gM_isOne cfFU) v0 v1 v2
noncomputable def fM_isWithin_42 (rc : Nat → Int32 → Int32 → Int32 → Int32 → Int32 → Option (Int32)) (v0 : Int32) (v1 : Int32) (v2 : Int32) (v4 : Int32) (s0 : Int32) : Option (Int32) :=
  op_k (v4 + 1) (fun x_1 => rc 0 v0 v1 v2 s0 x_1)
noncomputable def fM_isWithin_41 (rc : Nat → Int32 → Int32 → Int32 → Int32 → Int32 → Option (Int32)) (v0 : Int32) (v1 : Int32) (v2 : Int32) (v4 : Int32) : Option (Int32) :=
  fM_isWithin_42 rc v0 v1 v2 v4 0
noncomputable def fM_isWithin_37 (rc : Nat → Int32 → Int32 → Int32 → Int32 → Int32 → Option (Int32)) (v0 : Int32) (v1 : Int32) (v2 : Int32) (v4 : Int32) : Option (Int32) :=
  fM_isWithin_42 rc v0 v1 v2 v4 1
noncomputable def fM_isWithin_5 (rc : Nat → Int32 → Int32 → Int32 → Int32 → Int32 → Option (Int32)) (v0 : Int32) (v1 : Int32) (v2 : Int32) (v3 : Int32) (v4 : Int32) : Option (Int32) :=
  op_k ((1 : Int32) <<< (v2 &&& 31)) (fun x_1 => (if x_1 ≤ v4 then (if ¬ (v3 = 0 ∨ v3 = 1) then none else some v3) else (if v3 = (0 : Int32) then fM_isWithin_41 rc v0 v1 v2 v4 else Option.bind (fM_isOne v0 v4 v2) (fun q_5 => (if q_5 = (0 : Int32) then fM_isWithin_37 rc v0 v1 v2 v4 else op_k (v1 >>> (v4 &&& 31)) (fun x_9 => op_k (x_9 &&& 1) (fun x_10 => (if x_10 = (1 : Int32) then fM_isWithin_37 rc v0 v1 v2 v4 else fM_isWithin_41 rc v0 v1 v2 v4))))))))
noncomputable def fM_isWithin_0 (rc : Nat → Int32 → Int32 → Int32 → Int32 → Int32 → Option (Int32)) (v0 : Int32) (v1 : Int32) (v2 : Int32) : Option (Int32) :=
  rc 0 v0 v1 v2 1 0
noncomputable def gM_isWithin (n : Nat) : Nat → Int32 → Int32 → Int32 → Int32 → Int32 → Option (Int32) := Nat.rec (motive := fun _ => Nat → Int32 → Int32 → Int32 → Int32 → Int32 → Option (Int32)) (fun _ _ _ _ _ _ => none) (fun _ rc => fun k u0i u1i u2i u3i u4i => Nat.rec (motive := fun _ => Option (Int32)) (fM_isWithin_5 rc u0i u1i u2i u3i u4i) (fun k _ => none) k) n
noncomputable def fM_isWithin (v0 : Int32) (v1 : Int32) (v2 : Int32) : Option (Int32) := fM_isWithin_0 (gM_isWithin cfFU) v0 v1 v2
noncomputable def fM_literalsOf_24 (rc : Nat → Int32 → Int32 → Int32 → Int32 → Option (Int32)) (v0 : Int32) (v1 : Int32) (v3 : Int32) (s0 : Int32) : Option (Int32) :=
  op_k (v3 + 1) (fun x_1 => rc 0 v0 v1 s0 x_1)
noncomputable def fM_literalsOf_4 (rc : Nat → Int32 → Int32 → Int32 → Int32 → Option (Int32)) (v0 : Int32) (v1 : Int32) (v2 : Int32) (v3 : Int32) : Option (Int32) :=
  (if v1 ≤ v3 then some v2 else Option.bind (fM_digit v0 v3) (fun q_2 => (if q_2 ≤ (0 : Int32) then fM_literalsOf_24 rc v0 v1 v3 v2 else op_k (v2 + 1) (fun x_6 => fM_literalsOf_24 rc v0 v1 v3 x_6))))
noncomputable def fM_literalsOf_0 (rc : Nat → Int32 → Int32 → Int32 → Int32 → Option (Int32)) (v0 : Int32) (v1 : Int32) : Option (Int32) :=
  rc 0 v0 v1 0 0
noncomputable def gM_literalsOf (n : Nat) : Nat → Int32 → Int32 → Int32 → Int32 → Option (Int32) := Nat.rec (motive := fun _ => Nat → Int32 → Int32 → Int32 → Int32 → Option (Int32)) (fun _ _ _ _ _ => none) (fun _ rc => fun k u0i u1i u2i u3i => Nat.rec (motive := fun _ => Option (Int32)) (fM_literalsOf_4 rc u0i u1i u2i u3i) (fun k _ => none) k) n
noncomputable def fM_literalsOf (v0 : Int32) (v1 : Int32) : Option (Int32) := fM_literalsOf_0 (gM_literalsOf cfFU) v0 v1
noncomputable def fM_isPrime_56 (rc : Nat → Int32 → Int32 → Int32 → Int32 → Int32 → Int32 → Option (Int32)) (v0 : Int32) (v1 : Int32) (v2 : Int32) (v4 : Int32) (v5 : Int32) (s0 : Int32) : Option (Int32) :=
  op_k (3 * v4) (fun x_1 => op_k (v5 + 1) (fun x_2 => rc 0 v0 v1 v2 s0 x_1 x_2))
noncomputable def fM_isPrime_55 (rc : Nat → Int32 → Int32 → Int32 → Int32 → Int32 → Int32 → Option (Int32)) (v0 : Int32) (v1 : Int32) (v2 : Int32) (v4 : Int32) (v5 : Int32) : Option (Int32) :=
  fM_isPrime_56 rc v0 v1 v2 v4 v5 0
noncomputable def fM_isPrime_51 (rc : Nat → Int32 → Int32 → Int32 → Int32 → Int32 → Int32 → Option (Int32)) (v0 : Int32) (v1 : Int32) (v2 : Int32) (v4 : Int32) (v5 : Int32) : Option (Int32) :=
  fM_isPrime_56 rc v0 v1 v2 v4 v5 1
noncomputable def fM_isPrime_13 (rc : Nat → Int32 → Int32 → Int32 → Int32 → Int32 → Int32 → Option (Int32)) (v0 : Int32) (v1 : Int32) (v2 : Int32) (v3 : Int32) (v4 : Int32) (v5 : Int32) : Option (Int32) :=
  (if v2 ≤ v5 then (if ¬ (v3 = 0 ∨ v3 = 1) then none else some v3) else Option.bind (fM_digit v0 v5) (fun q_3 => (if v3 = (0 : Int32) then fM_isPrime_55 rc v0 v1 v2 v4 v5 else (if q_3 = (0 : Int32) then fM_isPrime_51 rc v0 v1 v2 v4 v5 else op_k (q_3 * v4) (fun x_8 => op_k (v0 - x_8) (fun x_9 => Option.bind (fM_isWithin x_9 v1 v2) (fun q_10 => (if q_10 = (0 : Int32) then fM_isPrime_51 rc v0 v1 v2 v4 v5 else fM_isPrime_55 rc v0 v1 v2 v4 v5))))))))
noncomputable def fM_isPrime_0 (rc : Nat → Int32 → Int32 → Int32 → Int32 → Int32 → Int32 → Option (Int32)) (v0 : Int32) (v1 : Int32) (v2 : Int32) : Option (Int32) :=
  Option.bind (fM_isWithin v0 v1 v2) (fun q_1 => rc 0 v0 v1 v2 q_1 1 0)
noncomputable def gM_isPrime (n : Nat) : Nat → Int32 → Int32 → Int32 → Int32 → Int32 → Int32 → Option (Int32) := Nat.rec (motive := fun _ => Nat → Int32 → Int32 → Int32 → Int32 → Int32 → Int32 → Option (Int32)) (fun _ _ _ _ _ _ _ => none) (fun _ rc => fun k u0i u1i u2i u3i u4i u5i => Nat.rec (motive := fun _ => Option (Int32)) (fM_isPrime_13 rc u0i u1i u2i u3i u4i u5i) (fun k _ => none) k) n
noncomputable def fM_isPrime (v0 : Int32) (v1 : Int32) (v2 : Int32) : Option (Int32) := fM_isPrime_0 (gM_isPrime cfFU) v0 v1 v2
noncomputable def fM_sum_252 (rc : Nat → Int32 → Int32 → Int32 → Int32 → Int32 → Int32 → Int32 → Int32 → cf_O → Option (Int32 × cf_O)) (v1 : Int32) (v2 : Int32) (v3 : Int32) (v4 : Int32) (v5 : Int32) (o0 : cf_O) : Option (Int32 × cf_O) :=
  op_k (v5 + 1) (fun x_1 => rc 1 v1 v2 v3 v4 x_1 0 0 0 o0)
noncomputable def fM_sum_250 (rc : Nat → Int32 → Int32 → Int32 → Int32 → Int32 → Int32 → Int32 → Int32 → cf_O → Option (Int32 × cf_O)) (v1 : Int32) (v2 : Int32) (v4 : Int32) (v5 : Int32) (s0 : Int32) (s1 : Int32) (o0 : cf_O) : Option (Int32 × cf_O) :=
  op_k (s0 + s1) (fun x_1 => fM_sum_252 rc v1 v2 x_1 v4 v5 o0)
noncomputable def fM_sum_236 (rc : Nat → Int32 → Int32 → Int32 → Int32 → Int32 → Int32 → Int32 → Int32 → cf_O → Option (Int32 × cf_O)) (v1 : Int32) (v2 : Int32) (v4 : Int32) (v5 : Int32) (s0 : Int32) (s1 : Int32) (o0 : cf_O) : Option (Int32 × cf_O) :=
  op_k (s0 + s1) (fun x_1 => (if (o0.1 70) ≤ (1 : Int32) then fM_sum_250 rc v1 v2 v4 v5 x_1 0 o0 else fM_sum_250 rc v1 v2 v4 v5 x_1 1 o0))
noncomputable def fM_sum_185 (rc : Nat → Int32 → Int32 → Int32 → Int32 → Int32 → Int32 → Int32 → Int32 → cf_O → Option (Int32 × cf_O)) (v1 : Int32) (v2 : Int32) (v3 : Int32) (v4 : Int32) (v5 : Int32) (v8 : Int32) (s0 : Int32) (o0 : cf_O) : Option (Int32 × cf_O) :=
  op_k (v8 + 1) (fun x_1 => rc 3 v1 v2 v3 v4 v5 0 s0 x_1 o0)
noncomputable def fM_sum_183 (rc : Nat → Int32 → Int32 → Int32 → Int32 → Int32 → Int32 → Int32 → Int32 → cf_O → Option (Int32 × cf_O)) (v1 : Int32) (v2 : Int32) (v3 : Int32) (v4 : Int32) (v5 : Int32) (v7 : Int32) (v8 : Int32) (o0 : cf_O) : Option (Int32 × cf_O) :=
  fM_sum_185 rc v1 v2 v3 v4 v5 v8 v7 o0
noncomputable def fM_sum_178 (rc : Nat → Int32 → Int32 → Int32 → Int32 → Int32 → Int32 → Int32 → Int32 → cf_O → Option (Int32 × cf_O)) (v1 : Int32) (v2 : Int32) (v3 : Int32) (v4 : Int32) (v5 : Int32) (v8 : Int32) (o0 : cf_O) : Option (Int32 × cf_O) :=
  fM_sum_185 rc v1 v2 v3 v4 v5 v8 v8 o0
noncomputable def fM_sum_151 (rc : Nat → Int32 → Int32 → Int32 → Int32 → Int32 → Int32 → Int32 → Int32 → cf_O → Option (Int32 × cf_O)) (v1 : Int32) (v2 : Int32) (v3 : Int32) (v4 : Int32) (v5 : Int32) (v7 : Int32) (v8 : Int32) (s0 : Int32) (o0 : cf_O) : Option (Int32 × cf_O) :=
  (if s0 = (0 : Int32) then fM_sum_183 rc v1 v2 v3 v4 v5 v7 v8 o0 else (if v7 < (0 : Int32) then fM_sum_178 rc v1 v2 v3 v4 v5 v8 o0 else Option.bind (fM_literalsOf v8 v2) (fun q_3 => Option.bind (fM_literalsOf v7 v2) (fun q_6 => (if q_6 ≤ q_3 then fM_sum_183 rc v1 v2 v3 v4 v5 v7 v8 o0 else fM_sum_178 rc v1 v2 v3 v4 v5 v8 o0)))))
noncomputable def fM_sum_150 (rc : Nat → Int32 → Int32 → Int32 → Int32 → Int32 → Int32 → Int32 → Int32 → cf_O → Option (Int32 × cf_O)) (v1 : Int32) (v2 : Int32) (v3 : Int32) (v4 : Int32) (v5 : Int32) (v7 : Int32) (v8 : Int32) (o0 : cf_O) : Option (Int32 × cf_O) :=
  fM_sum_151 rc v1 v2 v3 v4 v5 v7 v8 0 o0
noncomputable def fM_sum_118 (rc : Nat → Int32 → Int32 → Int32 → Int32 → Int32 → Int32 → Int32 → Int32 → cf_O → Option (Int32 × cf_O)) (v1 : Int32) (v2 : Int32) (v3 : Int32) (v4 : Int32) (v5 : Int32) (v7 : Int32) (v8 : Int32) (o0 : cf_O) : Option (Int32 × cf_O) :=
  (if v4 ≤ v8 then (if (o0.1 70) < 0 ∨ 16 ≤ (o0.1 70).toNatClampNeg then none else op_k (xp o0 69 (o0.1 70).toNatClampNeg v7) (fun o_3 => op_k ((o_3.1 70) + 1) (fun x_4 => op_k (fp o_3 70 x_4) (fun o_5 => Option.bind (fM_literalsOf v7 v2) (fun q_6 => (if q_6 ≤ (0 : Int32) then fM_sum_236 rc v1 v2 v4 v5 v3 0 o_5 else op_k (q_6 - 1) (fun x_10 => fM_sum_236 rc v1 v2 v4 v5 v3 x_10 o_5))))))) else Option.bind (fM_isOne v8 v5 v2) (fun q_11 => (if q_11 = (0 : Int32) then fM_sum_150 rc v1 v2 v3 v4 v5 v7 v8 o0 else Option.bind (fM_isPrime v8 v1 v2) (fun q_15 => (if q_15 = (0 : Int32) then fM_sum_150 rc v1 v2 v3 v4 v5 v7 v8 o0 else fM_sum_151 rc v1 v2 v3 v4 v5 v7 v8 1 o0)))))
noncomputable def fM_sum_96 (rc : Nat → Int32 → Int32 → Int32 → Int32 → Int32 → Int32 → Int32 → Int32 → cf_O → Option (Int32 × cf_O)) (v1 : Int32) (v2 : Int32) (v3 : Int32) (v4 : Int32) (v5 : Int32) (v7 : Int32) (s0 : Int32) (o0 : cf_O) : Option (Int32 × cf_O) :=
  op_k (v7 + 1) (fun x_1 => rc 2 v1 v2 v3 v4 v5 s0 x_1 0 o0)
noncomputable def fM_sum_91 (rc : Nat → Int32 → Int32 → Int32 → Int32 → Int32 → Int32 → Int32 → Int32 → cf_O → Option (Int32 × cf_O)) (v1 : Int32) (v2 : Int32) (v3 : Int32) (v4 : Int32) (v5 : Int32) (v7 : Int32) (o0 : cf_O) : Option (Int32 × cf_O) :=
  fM_sum_96 rc v1 v2 v3 v4 v5 v7 1 o0
noncomputable def fM_sum_61 (rc : Nat → Int32 → Int32 → Int32 → Int32 → Int32 → Int32 → Int32 → Int32 → cf_O → Option (Int32 × cf_O)) (v1 : Int32) (v2 : Int32) (v3 : Int32) (v4 : Int32) (v5 : Int32) (v6 : Int32) (v7 : Int32) (o0 : cf_O) : Option (Int32 × cf_O) :=
  (if (o0.1 70) ≤ v7 then (if v6 = (0 : Int32) then rc 3 v1 v2 v3 v4 v5 0 (-1) 0 o0 else fM_sum_252 rc v1 v2 v3 v4 v5 o0) else (if v6 = (0 : Int32) then (if v7 < 0 ∨ 16 ≤ v7.toNatClampNeg then none else op_k (o0.2.1 69 v7.toNatClampNeg) (fun x_5 => Option.bind (fM_isOne x_5 v5 v2) (fun q_6 => (if q_6 = (0 : Int32) then fM_sum_96 rc v1 v2 v3 v4 v5 v7 0 o0 else fM_sum_91 rc v1 v2 v3 v4 v5 v7 o0)))) else fM_sum_91 rc v1 v2 v3 v4 v5 v7 o0))
noncomputable def fM_sum_56 (rc : Nat → Int32 → Int32 → Int32 → Int32 → Int32 → Int32 → Int32 → Int32 → cf_O → Option (Int32 × cf_O)) (v1 : Int32) (v2 : Int32) (v3 : Int32) (v4 : Int32) (v5 : Int32) (s0 : Int32) (o0 : cf_O) : Option (Int32 × cf_O) :=
  rc 2 v1 v2 v3 v4 v5 s0 0 0 o0
noncomputable def fM_sum_34 (rc : Nat → Int32 → Int32 → Int32 → Int32 → Int32 → Int32 → Int32 → Int32 → cf_O → Option (Int32 × cf_O)) (v1 : Int32) (v2 : Int32) (v3 : Int32) (v4 : Int32) (v5 : Int32) (o0 : cf_O) : Option (Int32 × cf_O) :=
  op_k ((1 : Int32) <<< (v2 &&& 31)) (fun x_1 => (if x_1 ≤ v5 then some (v3, o0) else op_k (v1 >>> (v5 &&& 31)) (fun x_3 => op_k (x_3 &&& 1) (fun x_4 => (if x_4 = (0 : Int32) then fM_sum_56 rc v1 v2 v3 v4 v5 1 o0 else fM_sum_56 rc v1 v2 v3 v4 v5 0 o0)))))
noncomputable def fM_sum_13 (rc : Nat → Int32 → Int32 → Int32 → Int32 → Int32 → Int32 → Int32 → Int32 → cf_O → Option (Int32 × cf_O)) (v1 : Int32) (v2 : Int32) (v3 : Int32) (v4 : Int32) (v5 : Int32) (o0 : cf_O) : Option (Int32 × cf_O) :=
  (if v2 ≤ v5 then rc 1 v1 v2 v3 v4 0 0 0 0 o0 else op_k (3 * v4) (fun x_2 => op_k (v5 + 1) (fun x_3 => rc 0 v1 v2 v3 x_2 x_3 0 0 0 o0)))
noncomputable def fM_sum_0 (rc : Nat → Int32 → Int32 → Int32 → Int32 → Int32 → Int32 → Int32 → Int32 → cf_O → Option (Int32 × cf_O)) (v1 : Int32) (v2 : Int32) (o0 : cf_O) : Option (Int32 × cf_O) :=
  op_k (fp o0 70 0) (fun o_1 => rc 0 v1 v2 0 1 0 0 0 0 o_1)
noncomputable def gM_sum (n : Nat) : Nat → Int32 → Int32 → Int32 → Int32 → Int32 → Int32 → Int32 → Int32 → cf_O → Option (Int32 × cf_O) := Nat.rec (motive := fun _ => Nat → Int32 → Int32 → Int32 → Int32 → Int32 → Int32 → Int32 → Int32 → cf_O → Option (Int32 × cf_O)) (fun _ _ _ _ _ _ _ _ _ _ => none) (fun _ rc => fun k u1i u2i u3i u4i u5i u6i u7i u8i o0 => Nat.rec (motive := fun _ => Option (Int32 × cf_O)) (fM_sum_13 rc u1i u2i u3i u4i u5i o0) (fun k _ => Nat.rec (motive := fun _ => Option (Int32 × cf_O)) (fM_sum_34 rc u1i u2i u3i u4i u5i o0) (fun k _ => Nat.rec (motive := fun _ => Option (Int32 × cf_O)) (fM_sum_61 rc u1i u2i u3i u4i u5i u6i u7i o0) (fun k _ => Nat.rec (motive := fun _ => Option (Int32 × cf_O)) (fM_sum_118 rc u1i u2i u3i u4i u5i u7i u8i o0) (fun k _ => none) k) k) k) k) n
noncomputable def fM_sum (v1 : Int32) (v2 : Int32) (o0 : cf_O) : Option (Int32 × cf_O) := fM_sum_0 (gM_sum cfFU) v1 v2 o0
noncomputable def fM_build_I_121 (rc : Nat → Int32 → Int32 → Int32 → Int32 → Int32 → cf_O → Option (Int32 × cf_O)) (v1 : Int32) (v3 : Int32) (s0 : Int32) (o0 : cf_O) : Option (Int32 × cf_O) :=
  op_k (v3 + 1) (fun x_1 => rc 0 v1 s0 x_1 0 0 o0)
noncomputable def fM_build_I_91 (rc : Nat → Int32 → Int32 → Int32 → Int32 → Int32 → cf_O → Option (Int32 × cf_O)) (v1 : Int32) (v2 : Int32) (v3 : Int32) (v5 : Int32) (s0 : Int32) (o0 : cf_O) : Option (Int32 × cf_O) :=
  op_k (v5 + 1) (fun x_1 => rc 1 v1 v2 v3 s0 x_1 o0)
noncomputable def fM_build_I_88 (rc : Nat → Int32 → Int32 → Int32 → Int32 → Int32 → cf_O → Option (Int32 × cf_O)) (v1 : Int32) (v2 : Int32) (v3 : Int32) (v5 : Int32) (s1 : Int32) (s2 : Int32) (o0 : cf_O) : Option (Int32 × cf_O) :=
  Option.bind (fM_and s1 s2 o0) (fun q_1 => fM_build_I_91 rc v1 v2 v3 v5 q_1.1 q_1.2)
noncomputable def fM_build_I_18 (rc : Nat → Int32 → Int32 → Int32 → Int32 → Int32 → cf_O → Option (Int32 × cf_O)) (v1 : Int32) (v2 : Int32) (v3 : Int32) (v4 : Int32) (v5 : Int32) (o0 : cf_O) : Option (Int32 × cf_O) :=
  (if v1 < 0 ∨ 63210 ≤ v1.toNatClampNeg then none else op_k (o0.2.1 59 v1.toNatClampNeg) (fun x_2 => (if x_2 ≤ v5 then (if v3 = (0 : Int32) then fM_build_I_121 rc v1 v3 v4 o0 else op_k (v2 ^^^ 1) (fun x_5 => op_k (v4 ^^^ 1) (fun x_6 => Option.bind (fM_and x_5 x_6 o0) (fun q_7 => op_k (q_7.1 ^^^ 1) (fun x_10 => fM_build_I_121 rc v1 v3 x_10 q_7.2))))) else (if v3 < 0 ∨ 16 ≤ v3.toNatClampNeg then none else op_k (o0.2.1 69 v3.toNatClampNeg) (fun x_12 => Option.bind (fM_digit x_12 v5) (fun q_13 => op_k (5 * v1) (fun x_16 => op_k (x_16 + v5) (fun x_17 => (if x_17 < 0 ∨ 316050 ≤ x_17.toNatClampNeg then none else op_k (o0.2.1 58 x_17.toNatClampNeg) (fun x_19 => (if x_19 < 0 ∨ 210 ≤ x_19.toNatClampNeg then none else op_k (o0.2.1 51 x_19.toNatClampNeg) (fun x_21 => (if q_13 = (0 : Int32) then fM_build_I_91 rc v1 v2 v3 v5 v4 o0 else (if q_13 = (1 : Int32) then fM_build_I_88 rc v1 v2 v3 v5 v4 x_21 o0 else op_k (x_21 ^^^ 1) (fun x_24 => fM_build_I_88 rc v1 v2 v3 v5 v4 x_24 o0)))))))))))))))
noncomputable def fM_build_I_4 (rc : Nat → Int32 → Int32 → Int32 → Int32 → Int32 → cf_O → Option (Int32 × cf_O)) (v1 : Int32) (v2 : Int32) (v3 : Int32) (o0 : cf_O) : Option (Int32 × cf_O) :=
  (if (o0.1 70) ≤ v3 then some (v2, o0) else rc 1 v1 v2 v3 1 0 o0)
noncomputable def fM_build_I_0 (rc : Nat → Int32 → Int32 → Int32 → Int32 → Int32 → cf_O → Option (Int32 × cf_O)) (v1 : Int32) (o0 : cf_O) : Option (Int32 × cf_O) :=
  rc 0 v1 0 0 0 0 o0
noncomputable def gM_build_I (n : Nat) : Nat → Int32 → Int32 → Int32 → Int32 → Int32 → cf_O → Option (Int32 × cf_O) := Nat.rec (motive := fun _ => Nat → Int32 → Int32 → Int32 → Int32 → Int32 → cf_O → Option (Int32 × cf_O)) (fun _ _ _ _ _ _ _ => none) (fun _ rc => fun k u1i u2i u3i u4i u5i o0 => Nat.rec (motive := fun _ => Option (Int32 × cf_O)) (fM_build_I_4 rc u1i u2i u3i o0) (fun k _ => Nat.rec (motive := fun _ => Option (Int32 × cf_O)) (fM_build_I_18 rc u1i u2i u3i u4i u5i o0) (fun k _ => none) k) k) n
noncomputable def fM_build_I (v1 : Int32) (o0 : cf_O) : Option (Int32 × cf_O) := fM_build_I_0 (gM_build_I cfFU) v1 o0
noncomputable def fM_table_39 (rc : Nat → Int32 → Int32 → Int32 → cf_O → Option (Int32 × cf_O)) (v1 : Int32) (v3 : Int32) (s0 : Int32) (o0 : cf_O) : Option (Int32 × cf_O) :=
  op_k (v3 + 1) (fun x_1 => rc 0 v1 s0 x_1 o0)
noncomputable def fM_table_4 (rc : Nat → Int32 → Int32 → Int32 → cf_O → Option (Int32 × cf_O)) (v1 : Int32) (v2 : Int32) (v3 : Int32) (o0 : cf_O) : Option (Int32 × cf_O) :=
  (if v1 < 0 ∨ 210 ≤ v1.toNatClampNeg then none else op_k (o0.2.1 63 v1.toNatClampNeg) (fun x_2 => (if x_2 < 0 ∨ 63210 ≤ x_2.toNatClampNeg then none else op_k (o0.2.1 59 x_2.toNatClampNeg) (fun x_4 => op_k ((1 : Int32) <<< (x_4 &&& 31)) (fun x_5 => (if x_5 ≤ v3 then some (v2, o0) else Option.bind (fM_cellValue v1 v3 o0) (fun q_7 => (if q_7.1 = (0 : Int32) then fM_table_39 rc v1 v3 v2 q_7.2 else op_k ((1 : Int32) <<< (v3 &&& 31)) (fun x_11 => op_k (v2 ||| x_11) (fun x_12 => fM_table_39 rc v1 v3 x_12 q_7.2))))))))))
noncomputable def fM_table_0 (rc : Nat → Int32 → Int32 → Int32 → cf_O → Option (Int32 × cf_O)) (v1 : Int32) (o0 : cf_O) : Option (Int32 × cf_O) :=
  rc 0 v1 0 0 o0
noncomputable def gM_table (n : Nat) : Nat → Int32 → Int32 → Int32 → cf_O → Option (Int32 × cf_O) := Nat.rec (motive := fun _ => Nat → Int32 → Int32 → Int32 → cf_O → Option (Int32 × cf_O)) (fun _ _ _ _ _ => none) (fun _ rc => fun k u1i u2i u3i o0 => Nat.rec (motive := fun _ => Option (Int32 × cf_O)) (fM_table_4 rc u1i u2i u3i o0) (fun k _ => none) k) n
noncomputable def fM_table (v1 : Int32) (o0 : cf_O) : Option (Int32 × cf_O) := fM_table_0 (gM_table cfFU) v1 o0
noncomputable def fM_rewrite_220 (rc : Nat → Int32 → cf_O → Option (Int32 × cf_O)) (v1 : Int32) (o0 : cf_O) : Option (Int32 × cf_O) :=
  some (v1, o0)
noncomputable def fM_rewrite_198 (rc : Nat → Int32 → cf_O → Option (Int32 × cf_O)) (v1 : Int32) (o0 : cf_O) : Option (Int32 × cf_O) :=
  op_k (v1 + 1) (fun x_1 => rc 0 x_1 o0)
noncomputable def fM_rewrite_197 (rc : Nat → Int32 → cf_O → Option (Int32 × cf_O)) (v1 : Int32) (s1 : Int32) (s2 : Int32) (o0 : cf_O) : Option (Int32 × cf_O) :=
  (if s1 < 0 ∨ 210 ≤ s1.toNatClampNeg then none else op_k (xp o0 51 s1.toNatClampNeg s2) (fun o_2 => fM_rewrite_198 rc v1 o_2))
noncomputable def fM_rewrite_129 (rc : Nat → Int32 → cf_O → Option (Int32 × cf_O)) (v1 : Int32) (v2 : Int32) (v3 : Int32) (s0 : Int32) (o0 : cf_O) : Option (Int32 × cf_O) :=
  (if s0 = (0 : Int32) then (if v1 < 0 ∨ 201 ≤ v1.toNatClampNeg then none else op_k (o0.2.1 44 v1.toNatClampNeg) (fun x_3 => op_k (x_3 / 2) (fun x_4 => (if x_4 < 0 ∨ 210 ≤ x_4.toNatClampNeg then none else op_k (o0.2.1 51 x_4.toNatClampNeg) (fun x_6 => (if v1 < 0 ∨ 201 ≤ v1.toNatClampNeg then none else op_k (o0.2.1 44 v1.toNatClampNeg) (fun x_8 => op_k (x_8 &&& 1) (fun x_9 => op_k (x_6 ^^^ x_9) (fun x_10 => (if v1 < 0 ∨ 201 ≤ v1.toNatClampNeg then none else op_k (o0.2.1 45 v1.toNatClampNeg) (fun x_12 => op_k (x_12 / 2) (fun x_13 => (if x_13 < 0 ∨ 210 ≤ x_13.toNatClampNeg then none else op_k (o0.2.1 51 x_13.toNatClampNeg) (fun x_15 => (if v1 < 0 ∨ 201 ≤ v1.toNatClampNeg then none else op_k (o0.2.1 45 v1.toNatClampNeg) (fun x_17 => op_k (x_17 &&& 1) (fun x_18 => op_k (x_15 ^^^ x_18) (fun x_19 => Option.bind (fM_and x_10 x_19 o0) (fun q_20 => fM_rewrite_197 rc v1 v2 q_20.1 q_20.2))))))))))))))))))) else Option.bind (fM_build_I v3 o0) (fun q_23 => fM_rewrite_197 rc v1 v2 q_23.1 q_23.2))
noncomputable def fM_rewrite_63 (rc : Nat → Int32 → cf_O → Option (Int32 × cf_O)) (v1 : Int32) (o0 : cf_O) : Option (Int32 × cf_O) :=
  (if (o0.1 43) ≤ v1 then Option.bind (fM_finish o0) (fun q_2 => (if (q_2.2.1 0) ≤ (0 : Int32) then fM_rewrite_220 rc q_2.1 q_2.2 else Option.bind (fM_again q_2.2) (fun q_6 => fM_rewrite_220 rc q_2.1 q_6))) else Option.bind (fM_base o0) (fun q_8 => op_k (q_8 + v1) (fun x_11 => (if x_11 < 0 ∨ 210 ≤ x_11.toNatClampNeg then none else op_k (o0.2.1 49 x_11.toNatClampNeg) (fun x_13 => (if x_13 = (0 : Int32) then fM_rewrite_198 rc v1 o0 else (if x_11 < 0 ∨ 210 ≤ x_11.toNatClampNeg then none else op_k (o0.2.1 63 x_11.toNatClampNeg) (fun x_16 => Option.bind (fM_table x_11 o0) (fun q_17 => (if x_16 < 0 ∨ 63210 ≤ x_16.toNatClampNeg then none else op_k (q_17.2.2.1 59 x_16.toNatClampNeg) (fun x_21 => Option.bind (fM_sum q_17.1 x_21 q_17.2) (fun q_22 => Option.bind (fM_freed x_11 q_22.2) (fun q_25 => (if q_25.1 ≤ q_22.1 then fM_rewrite_129 rc v1 x_11 x_16 0 q_25.2 else fM_rewrite_129 rc v1 x_11 x_16 1 q_25.2))))))))))))))
noncomputable def fM_rewrite_13 (rc : Nat → Int32 → cf_O → Option (Int32 × cf_O)) (s1 : Int32) (o0 : cf_O) : Option (Int32 × cf_O) :=
  Option.bind (fM_refuse s1 0 0 o0) (fun q_1 => (if q_1.1 = (0 : Int32) then Option.bind (fM_cutAll 4 q_1.2) (fun q_5 => (if q_5.1 = (0 : Int32) then Option.bind (fM_again q_5.2) (fun q_18 => Option.bind (fM_refuse 0 1 0 q_18) (fun q_20 => some ((0 : Int32), q_20.2))) else Option.bind (fM_look q_5.2) (fun q_9 => Option.bind (fM_base q_9) (fun q_11 => Option.bind (fM_begin q_11 q_9) (fun q_14 => Option.bind (fM_old q_14) (fun q_16 => rc 0 0 q_16)))))) else some ((0 : Int32), q_1.2)))
noncomputable def fM_rewrite_0 (rc : Nat → Int32 → cf_O → Option (Int32 × cf_O)) (o0 : cf_O) : Option (Int32 × cf_O) :=
  (if (o0.1 38) = (0 : Int32) then fM_rewrite_13 rc 1 o0 else fM_rewrite_13 rc 0 o0)
noncomputable def gM_rewrite (n : Nat) : Nat → Int32 → cf_O → Option (Int32 × cf_O) := Nat.rec (motive := fun _ => Nat → Int32 → cf_O → Option (Int32 × cf_O)) (fun _ _ _ => none) (fun _ rc => fun k u1i o0 => Nat.rec (motive := fun _ => Option (Int32 × cf_O)) (fM_rewrite_63 rc u1i o0) (fun k _ => none) k) n
noncomputable def fM_rewrite (o0 : cf_O) : Option (Int32 × cf_O) := fM_rewrite_0 (gM_rewrite cfFU) o0
noncomputable def fM_reckonOutput_35 (rc : Nat → Int32 → Int32 → cf_O → Option (cf_O)) (v1 : Int32) (v2 : Int32) (s1 : Int32) (s2 : Int32) (o0 : cf_O) : Option (cf_O) :=
  (if s1 < 0 ∨ 256 ≤ s1.toNatClampNeg then none else op_k (xp o0 71 s1.toNatClampNeg (vp_nar .boolean s2)) (fun o_2 => op_k (v2 + 1) (fun x_3 => rc 0 v1 x_3 o_2)))
noncomputable def fM_reckonOutput_2 (rc : Nat → Int32 → Int32 → cf_O → Option (cf_O)) (v1 : Int32) (v2 : Int32) (o0 : cf_O) : Option (cf_O) :=
  op_k ((1 : Int32) <<< ((o0.1 39) &&& 31)) (fun x_1 => (if x_1 ≤ v2 then some o0 else Option.bind (fM_value v2 o0) (fun q_3 => op_k (q_3.1 >>> (v1 &&& 31)) (fun x_6 => op_k (x_6 &&& 1) (fun x_7 => (if x_7 = (1 : Int32) then fM_reckonOutput_35 rc v1 v2 v2 1 q_3.2 else fM_reckonOutput_35 rc v1 v2 v2 0 q_3.2))))))
noncomputable def fM_reckonOutput_0 (rc : Nat → Int32 → Int32 → cf_O → Option (cf_O)) (v1 : Int32) (o0 : cf_O) : Option (cf_O) :=
  rc 0 v1 0 o0
noncomputable def gM_reckonOutput (n : Nat) : Nat → Int32 → Int32 → cf_O → Option (cf_O) := Nat.rec (motive := fun _ => Nat → Int32 → Int32 → cf_O → Option (cf_O)) (fun _ _ _ _ => none) (fun _ rc => fun k u1i u2i o0 => Nat.rec (motive := fun _ => Option (cf_O)) (fM_reckonOutput_2 rc u1i u2i o0) (fun k _ => none) k) n
noncomputable def fM_reckonOutput (v1 : Int32) (o0 : cf_O) : Option (cf_O) := fM_reckonOutput_0 (gM_reckonOutput cfFU) v1 o0
noncomputable def fM_depends_56 (rc : Nat → Int32 → Int32 → Int32 → Int32 → cf_O → Option (Int32)) (v1 : Int32) (v2 : Int32) (v4 : Int32) (s0 : Int32) (o0 : cf_O) : Option (Int32) :=
  op_k (v4 + 1) (fun x_1 => rc 0 v1 v2 s0 x_1 o0)
noncomputable def fM_depends_51 (rc : Nat → Int32 → Int32 → Int32 → Int32 → cf_O → Option (Int32)) (v1 : Int32) (v2 : Int32) (v4 : Int32) (o0 : cf_O) : Option (Int32) :=
  fM_depends_56 rc v1 v2 v4 1 o0
noncomputable def fM_depends_5 (rc : Nat → Int32 → Int32 → Int32 → Int32 → cf_O → Option (Int32)) (v1 : Int32) (v2 : Int32) (v3 : Int32) (v4 : Int32) (o0 : cf_O) : Option (Int32) :=
  op_k ((o0.1 39) - v1) (fun x_1 => op_k ((1 : Int32) <<< (x_1 &&& 31)) (fun x_2 => (if x_2 ≤ v4 then (if ¬ (v3 = 0 ∨ v3 = 1) then none else some v3) else (if v3 = (0 : Int32) then op_k (v4 <<< (v1 &&& 31)) (fun x_6 => op_k (v2 ||| x_6) (fun x_7 => (if x_7 < 0 ∨ 256 ≤ x_7.toNatClampNeg then none else op_k (o0.2.1 71 x_7.toNatClampNeg) (fun x_9 => op_k (v4 <<< (v1 &&& 31)) (fun x_10 => op_k (v2 ||| x_10) (fun x_11 => op_k ((1 : Int32) <<< (v1 &&& 31)) (fun x_12 => op_k (x_11 ^^^ x_12) (fun x_13 => (if x_13 < 0 ∨ 256 ≤ x_13.toNatClampNeg then none else op_k (o0.2.1 71 x_13.toNatClampNeg) (fun x_15 => (if x_9 = x_15 then fM_depends_56 rc v1 v2 v4 0 o0 else fM_depends_51 rc v1 v2 v4 o0))))))))))) else fM_depends_51 rc v1 v2 v4 o0))))
noncomputable def fM_depends_0 (rc : Nat → Int32 → Int32 → Int32 → Int32 → cf_O → Option (Int32)) (v1 : Int32) (v2 : Int32) (o0 : cf_O) : Option (Int32) :=
  rc 0 v1 v2 0 0 o0
noncomputable def gM_depends (n : Nat) : Nat → Int32 → Int32 → Int32 → Int32 → cf_O → Option (Int32) := Nat.rec (motive := fun _ => Nat → Int32 → Int32 → Int32 → Int32 → cf_O → Option (Int32)) (fun _ _ _ _ _ _ => none) (fun _ rc => fun k u1i u2i u3i u4i o0 => Nat.rec (motive := fun _ => Option (Int32)) (fM_depends_5 rc u1i u2i u3i u4i o0) (fun k _ => none) k) n
noncomputable def fM_depends (v1 : Int32) (v2 : Int32) (o0 : cf_O) : Option (Int32) := fM_depends_0 (gM_depends cfFU) v1 v2 o0
noncomputable def fM_isAlike_54 (rc : Nat → Int32 → Int32 → Int32 → Int32 → Int32 → cf_O → Option (Int32)) (v1 : Int32) (v2 : Int32) (v3 : Int32) (v5 : Int32) (s0 : Int32) (o0 : cf_O) : Option (Int32) :=
  op_k (v5 + 1) (fun x_1 => rc 0 v1 v2 v3 s0 x_1 o0)
noncomputable def fM_isAlike_53 (rc : Nat → Int32 → Int32 → Int32 → Int32 → Int32 → cf_O → Option (Int32)) (v1 : Int32) (v2 : Int32) (v3 : Int32) (v5 : Int32) (o0 : cf_O) : Option (Int32) :=
  fM_isAlike_54 rc v1 v2 v3 v5 0 o0
noncomputable def fM_isAlike_6 (rc : Nat → Int32 → Int32 → Int32 → Int32 → Int32 → cf_O → Option (Int32)) (v1 : Int32) (v2 : Int32) (v3 : Int32) (v4 : Int32) (v5 : Int32) (o0 : cf_O) : Option (Int32) :=
  op_k ((o0.1 39) - v1) (fun x_1 => op_k ((1 : Int32) <<< (x_1 &&& 31)) (fun x_2 => (if x_2 ≤ v5 then (if ¬ (v4 = 0 ∨ v4 = 1) then none else some v4) else (if v4 = (0 : Int32) then fM_isAlike_53 rc v1 v2 v3 v5 o0 else op_k (v5 <<< (v1 &&& 31)) (fun x_6 => op_k (v2 ||| x_6) (fun x_7 => (if x_7 < 0 ∨ 256 ≤ x_7.toNatClampNeg then none else op_k (o0.2.1 71 x_7.toNatClampNeg) (fun x_9 => op_k (v5 <<< (v1 &&& 31)) (fun x_10 => op_k (v3 ||| x_10) (fun x_11 => (if x_11 < 0 ∨ 256 ≤ x_11.toNatClampNeg then none else op_k (o0.2.1 71 x_11.toNatClampNeg) (fun x_13 => (if x_9 = x_13 then fM_isAlike_54 rc v1 v2 v3 v5 1 o0 else fM_isAlike_53 rc v1 v2 v3 v5 o0)))))))))))))
noncomputable def fM_isAlike_0 (rc : Nat → Int32 → Int32 → Int32 → Int32 → Int32 → cf_O → Option (Int32)) (v1 : Int32) (v2 : Int32) (v3 : Int32) (o0 : cf_O) : Option (Int32) :=
  rc 0 v1 v2 v3 1 0 o0
noncomputable def gM_isAlike (n : Nat) : Nat → Int32 → Int32 → Int32 → Int32 → Int32 → cf_O → Option (Int32) := Nat.rec (motive := fun _ => Nat → Int32 → Int32 → Int32 → Int32 → Int32 → cf_O → Option (Int32)) (fun _ _ _ _ _ _ _ => none) (fun _ rc => fun k u1i u2i u3i u4i u5i o0 => Nat.rec (motive := fun _ => Option (Int32)) (fM_isAlike_6 rc u1i u2i u3i u4i u5i o0) (fun k _ => none) k) n
noncomputable def fM_isAlike (v1 : Int32) (v2 : Int32) (v3 : Int32) (o0 : cf_O) : Option (Int32) := fM_isAlike_0 (gM_isAlike cfFU) v1 v2 v3 o0
noncomputable def fM_questions_79 (rc : Nat → Int32 → Int32 → Int32 → Int32 → Int32 → cf_O → Option (Int32)) (v2 : Int32) (v3 : Int32) (s0 : Int32) (o0 : cf_O) : Option (Int32) :=
  op_k (v3 + 1) (fun x_1 => rc 1 s0 v2 x_1 0 0 o0)
noncomputable def fM_questions_67 (rc : Nat → Int32 → Int32 → Int32 → Int32 → Int32 → cf_O → Option (Int32)) (v1 : Int32) (v2 : Int32) (v3 : Int32) (v4 : Int32) (o0 : cf_O) : Option (Int32) :=
  (if v4 = (0 : Int32) then fM_questions_79 rc v2 v3 v1 o0 else op_k (v1 + 1) (fun x_2 => fM_questions_79 rc v2 v3 x_2 o0))
noncomputable def fM_questions_59 (rc : Nat → Int32 → Int32 → Int32 → Int32 → Int32 → cf_O → Option (Int32)) (v1 : Int32) (v2 : Int32) (v3 : Int32) (v5 : Int32) (s0 : Int32) (o0 : cf_O) : Option (Int32) :=
  op_k (v5 + 1) (fun x_1 => rc 2 v1 v2 v3 s0 x_1 o0)
noncomputable def fM_questions_32 (rc : Nat → Int32 → Int32 → Int32 → Int32 → Int32 → cf_O → Option (Int32)) (v1 : Int32) (v2 : Int32) (v3 : Int32) (v4 : Int32) (v5 : Int32) (o0 : cf_O) : Option (Int32) :=
  (if v3 ≤ v5 then fM_questions_67 rc v1 v2 v3 v4 o0 else (if v4 = (0 : Int32) then fM_questions_67 rc v1 v2 v3 v4 o0 else Option.bind (fM_isAlike v2 v3 v5 o0) (fun q_3 => (if q_3 = (0 : Int32) then fM_questions_59 rc v1 v2 v3 v5 1 o0 else fM_questions_59 rc v1 v2 v3 v5 0 o0))))
noncomputable def fM_questions_14 (rc : Nat → Int32 → Int32 → Int32 → Int32 → Int32 → cf_O → Option (Int32)) (v1 : Int32) (v2 : Int32) (v3 : Int32) (o0 : cf_O) : Option (Int32) :=
  op_k ((1 : Int32) <<< (v2 &&& 31)) (fun x_1 => (if x_1 ≤ v3 then op_k (v2 + 1) (fun x_3 => rc 0 v1 x_3 0 0 0 o0) else Option.bind (fM_depends v2 v3 o0) (fun q_4 => rc 2 v1 v2 v3 q_4 0 o0)))
noncomputable def fM_questions_4 (rc : Nat → Int32 → Int32 → Int32 → Int32 → Int32 → cf_O → Option (Int32)) (v1 : Int32) (v2 : Int32) (o0 : cf_O) : Option (Int32) :=
  (if (o0.1 39) ≤ v2 then some v1 else rc 1 v1 v2 0 0 0 o0)
noncomputable def fM_questions_0 (rc : Nat → Int32 → Int32 → Int32 → Int32 → Int32 → cf_O → Option (Int32)) (o0 : cf_O) : Option (Int32) :=
  rc 0 0 0 0 0 0 o0
noncomputable def gM_questions (n : Nat) : Nat → Int32 → Int32 → Int32 → Int32 → Int32 → cf_O → Option (Int32) := Nat.rec (motive := fun _ => Nat → Int32 → Int32 → Int32 → Int32 → Int32 → cf_O → Option (Int32)) (fun _ _ _ _ _ _ _ => none) (fun _ rc => fun k u1i u2i u3i u4i u5i o0 => Nat.rec (motive := fun _ => Option (Int32)) (fM_questions_4 rc u1i u2i o0) (fun k _ => Nat.rec (motive := fun _ => Option (Int32)) (fM_questions_14 rc u1i u2i u3i o0) (fun k _ => Nat.rec (motive := fun _ => Option (Int32)) (fM_questions_32 rc u1i u2i u3i u4i u5i o0) (fun k _ => none) k) k) k) n
noncomputable def fM_questions (o0 : cf_O) : Option (Int32) := fM_questions_0 (gM_questions cfFU) o0
noncomputable def fM_hangs_42 (rc : Nat → Int32 → Int32 → Int32 → cf_O → Option (Int32)) (v1 : Int32) (v3 : Int32) (s0 : Int32) (o0 : cf_O) : Option (Int32) :=
  op_k (v3 + 1) (fun x_1 => rc 0 v1 s0 x_1 o0)
noncomputable def fM_hangs_37 (rc : Nat → Int32 → Int32 → Int32 → cf_O → Option (Int32)) (v1 : Int32) (v3 : Int32) (o0 : cf_O) : Option (Int32) :=
  fM_hangs_42 rc v1 v3 1 o0
noncomputable def fM_hangs_4 (rc : Nat → Int32 → Int32 → Int32 → cf_O → Option (Int32)) (v1 : Int32) (v2 : Int32) (v3 : Int32) (o0 : cf_O) : Option (Int32) :=
  op_k ((1 : Int32) <<< ((o0.1 39) &&& 31)) (fun x_1 => (if x_1 ≤ v3 then (if ¬ (v2 = 0 ∨ v2 = 1) then none else some v2) else (if v2 = (0 : Int32) then (if v3 < 0 ∨ 256 ≤ v3.toNatClampNeg then none else op_k (o0.2.1 71 v3.toNatClampNeg) (fun x_6 => op_k ((1 : Int32) <<< (v1 &&& 31)) (fun x_7 => op_k (v3 ^^^ x_7) (fun x_8 => (if x_8 < 0 ∨ 256 ≤ x_8.toNatClampNeg then none else op_k (o0.2.1 71 x_8.toNatClampNeg) (fun x_10 => (if x_6 = x_10 then fM_hangs_42 rc v1 v3 0 o0 else fM_hangs_37 rc v1 v3 o0))))))) else fM_hangs_37 rc v1 v3 o0)))
noncomputable def fM_hangs_0 (rc : Nat → Int32 → Int32 → Int32 → cf_O → Option (Int32)) (v1 : Int32) (o0 : cf_O) : Option (Int32) :=
  rc 0 v1 0 0 o0
noncomputable def gM_hangs (n : Nat) : Nat → Int32 → Int32 → Int32 → cf_O → Option (Int32) := Nat.rec (motive := fun _ => Nat → Int32 → Int32 → Int32 → cf_O → Option (Int32)) (fun _ _ _ _ _ => none) (fun _ rc => fun k u1i u2i u3i o0 => Nat.rec (motive := fun _ => Option (Int32)) (fM_hangs_4 rc u1i u2i u3i o0) (fun k _ => none) k) n
noncomputable def fM_hangs (v1 : Int32) (o0 : cf_O) : Option (Int32) := fM_hangs_0 (gM_hangs cfFU) v1 o0
noncomputable def fM_diagram_227 (rc : Nat → Int32 → Int32 → Int32 → Int32 → Int32 → cf_O → Option (Int32 × cf_O)) (s0 : Int32) (o0 : cf_O) : Option (Int32 × cf_O) :=
  some (s0, o0)
noncomputable def fM_diagram_186 (rc : Nat → Int32 → Int32 → Int32 → Int32 → Int32 → cf_O → Option (Int32 × cf_O)) (v2 : Int32) (v4 : Int32) (v5 : Int32) (v7 : Int32) (s0 : Int32) (o0 : cf_O) : Option (Int32 × cf_O) :=
  op_k (v7 + (-1)) (fun x_1 => rc 1 v2 v4 v5 s0 x_1 o0)
noncomputable def fM_diagram_165 (rc : Nat → Int32 → Int32 → Int32 → Int32 → Int32 → cf_O → Option (Int32 × cf_O)) (v2 : Int32) (v4 : Int32) (v5 : Int32) (v6 : Int32) (v7 : Int32) (o0 : cf_O) : Option (Int32 × cf_O) :=
  (if v7 < (0 : Int32) then (if v2 = (0 : Int32) then Option.bind (fM_questions o0) (fun q_5 => fM_diagram_227 rc q_5 o0) else (if v2 = (1 : Int32) then fM_diagram_227 rc v4 o0 else (if v2 = (2 : Int32) then fM_diagram_227 rc v5 o0 else fM_diagram_227 rc v6 o0))) else Option.bind (fM_hangs v7 o0) (fun q_8 => (if q_8 = (0 : Int32) then fM_diagram_186 rc v2 v4 v5 v7 v6 o0 else fM_diagram_186 rc v2 v4 v5 v7 v7 o0)))
noncomputable def fM_diagram_149 (rc : Nat → Int32 → Int32 → Int32 → Int32 → Int32 → cf_O → Option (Int32 × cf_O)) (v2 : Int32) (v4 : Int32) (v6 : Int32) (v7 : Int32) (s0 : Int32) (o0 : cf_O) : Option (Int32 × cf_O) :=
  op_k (v7 + (-1)) (fun x_1 => rc 0 v2 v4 s0 v6 x_1 o0)
noncomputable def fM_diagram_130 (rc : Nat → Int32 → Int32 → Int32 → Int32 → Int32 → cf_O → Option (Int32 × cf_O)) (v2 : Int32) (v5 : Int32) (v6 : Int32) (v7 : Int32) (s0 : Int32) (o0 : cf_O) : Option (Int32 × cf_O) :=
  (if v7 < 0 ∨ 256 ≤ v7.toNatClampNeg then none else op_k (o0.2.1 71 v7.toNatClampNeg) (fun x_2 => (if x_2 = (0 : Int32) then fM_diagram_149 rc v2 s0 v6 v7 v5 o0 else fM_diagram_149 rc v2 s0 v6 v7 v7 o0)))
noncomputable def fM_diagram_106 (rc : Nat → Int32 → Int32 → Int32 → Int32 → Int32 → cf_O → Option (Int32 × cf_O)) (v2 : Int32) (v4 : Int32) (v5 : Int32) (v6 : Int32) (v7 : Int32) (o0 : cf_O) : Option (Int32 × cf_O) :=
  (if v7 < (0 : Int32) then op_k ((o0.1 39) - 1) (fun x_2 => rc 1 v2 v4 v5 v6 x_2 o0) else (if v7 < 0 ∨ 256 ≤ v7.toNatClampNeg then none else op_k (o0.2.1 71 v7.toNatClampNeg) (fun x_4 => (if x_4 = (0 : Int32) then fM_diagram_130 rc v2 v5 v6 v7 v4 o0 else op_k (v4 + 1) (fun x_6 => fM_diagram_130 rc v2 v5 v6 v7 x_6 o0)))))
noncomputable def fM_diagram_74 (rc : Nat → Int32 → Int32 → Int32 → Int32 → Int32 → cf_O → Option (Int32 × cf_O)) (v1 : Int32) (v2 : Int32) (s1 : Int32) (s2 : Int32) (s3 : Int32) (o0 : cf_O) : Option (Int32 × cf_O) :=
  Option.bind (fM_refuse s1 s2 s3 o0) (fun q_1 => (if q_1.1 = (0 : Int32) then Option.bind (fM_reckonOutput v1 q_1.2) (fun q_5 => op_k ((1 : Int32) <<< ((q_5.1 39) &&& 31)) (fun x_7 => op_k (x_7 - 1) (fun x_8 => rc 0 v2 0 (-1) (-1) x_8 q_5))) else some ((0 : Int32), q_1.2)))
noncomputable def fM_diagram_73 (rc : Nat → Int32 → Int32 → Int32 → Int32 → Int32 → cf_O → Option (Int32 × cf_O)) (v1 : Int32) (v2 : Int32) (s1 : Int32) (s2 : Int32) (o0 : cf_O) : Option (Int32 × cf_O) :=
  fM_diagram_74 rc v1 v2 s1 s2 0 o0
noncomputable def fM_diagram_56 (rc : Nat → Int32 → Int32 → Int32 → Int32 → Int32 → cf_O → Option (Int32 × cf_O)) (v1 : Int32) (v2 : Int32) (v3 : Int32) (s1 : Int32) (s2 : Int32) (o0 : cf_O) : Option (Int32 × cf_O) :=
  (if v3 = (0 : Int32) then fM_diagram_73 rc v1 v2 s1 s2 o0 else Option.bind (fM_in v2 0 3) (fun q_2 => (if q_2 = (0 : Int32) then fM_diagram_74 rc v1 v2 s1 s2 1 o0 else fM_diagram_73 rc v1 v2 s1 s2 o0)))
noncomputable def fM_diagram_55 (rc : Nat → Int32 → Int32 → Int32 → Int32 → Int32 → cf_O → Option (Int32 × cf_O)) (v1 : Int32) (v2 : Int32) (v3 : Int32) (s1 : Int32) (o0 : cf_O) : Option (Int32 × cf_O) :=
  fM_diagram_56 rc v1 v2 v3 s1 0 o0
noncomputable def fM_diagram_40 (rc : Nat → Int32 → Int32 → Int32 → Int32 → Int32 → cf_O → Option (Int32 × cf_O)) (v1 : Int32) (v2 : Int32) (v3 : Int32) (s1 : Int32) (o0 : cf_O) : Option (Int32 × cf_O) :=
  (if (o0.1 38) = (0 : Int32) then fM_diagram_55 rc v1 v2 v3 s1 o0 else (if v3 = (0 : Int32) then fM_diagram_56 rc v1 v2 v3 s1 1 o0 else fM_diagram_55 rc v1 v2 v3 s1 o0))
noncomputable def fM_diagram_26 (rc : Nat → Int32 → Int32 → Int32 → Int32 → Int32 → cf_O → Option (Int32 × cf_O)) (v1 : Int32) (v2 : Int32) (s0 : Int32) (o0 : cf_O) : Option (Int32 × cf_O) :=
  (if (o0.1 38) = (0 : Int32) then fM_diagram_40 rc v1 v2 s0 1 o0 else fM_diagram_40 rc v1 v2 s0 0 o0)
noncomputable def fM_diagram_25 (rc : Nat → Int32 → Int32 → Int32 → Int32 → Int32 → cf_O → Option (Int32 × cf_O)) (v1 : Int32) (v2 : Int32) (o0 : cf_O) : Option (Int32 × cf_O) :=
  fM_diagram_26 rc v1 v2 0 o0
noncomputable def fM_diagram_0 (rc : Nat → Int32 → Int32 → Int32 → Int32 → Int32 → cf_O → Option (Int32 × cf_O)) (v1 : Int32) (v2 : Int32) (o0 : cf_O) : Option (Int32 × cf_O) :=
  (if (o0.1 38) = (0 : Int32) then fM_diagram_25 rc v1 v2 o0 else op_k ((o0.1 40) - 1) (fun x_2 => Option.bind (fM_in v1 0 x_2) (fun q_3 => (if q_3 = (0 : Int32) then fM_diagram_25 rc v1 v2 o0 else fM_diagram_26 rc v1 v2 1 o0))))
noncomputable def gM_diagram (n : Nat) : Nat → Int32 → Int32 → Int32 → Int32 → Int32 → cf_O → Option (Int32 × cf_O) := Nat.rec (motive := fun _ => Nat → Int32 → Int32 → Int32 → Int32 → Int32 → cf_O → Option (Int32 × cf_O)) (fun _ _ _ _ _ _ _ => none) (fun _ rc => fun k u2i u4i u5i u6i u7i o0 => Nat.rec (motive := fun _ => Option (Int32 × cf_O)) (fM_diagram_106 rc u2i u4i u5i u6i u7i o0) (fun k _ => Nat.rec (motive := fun _ => Option (Int32 × cf_O)) (fM_diagram_165 rc u2i u4i u5i u6i u7i o0) (fun k _ => none) k) k) n
noncomputable def fM_diagram (v1 : Int32) (v2 : Int32) (o0 : cf_O) : Option (Int32 × cf_O) := fM_diagram_0 (gM_diagram cfFU) v1 v2 o0
noncomputable def fM_differ_127 (rc : Nat → Int32 → Int32 → Int32 → Int32 → cf_O → Option (Int32 × cf_O)) (v1 : Int32) (v2 : Int32) (v5 : Int32) (s0 : Int32) (o0 : cf_O) : Option (Int32 × cf_O) :=
  op_k (v5 + (-1)) (fun x_1 => rc 0 v1 v2 s0 x_1 o0)
noncomputable def fM_differ_92 (rc : Nat → Int32 → Int32 → Int32 → Int32 → cf_O → Option (Int32 × cf_O)) (v1 : Int32) (v2 : Int32) (v4 : Int32) (v5 : Int32) (o0 : cf_O) : Option (Int32 × cf_O) :=
  (if v5 < (0 : Int32) then some (v4, o0) else Option.bind (fM_value v5 o0) (fun q_2 => op_k (q_2.1 >>> (v1 &&& 31)) (fun x_5 => op_k (x_5 &&& 1) (fun x_6 => op_k (q_2.1 >>> (v2 &&& 31)) (fun x_7 => op_k (x_7 &&& 1) (fun x_8 => (if x_6 = x_8 then fM_differ_127 rc v1 v2 v5 v4 q_2.2 else fM_differ_127 rc v1 v2 v5 v5 q_2.2)))))))
noncomputable def fM_differ_70 (rc : Nat → Int32 → Int32 → Int32 → Int32 → cf_O → Option (Int32 × cf_O)) (v1 : Int32) (v2 : Int32) (s1 : Int32) (s2 : Int32) (o0 : cf_O) : Option (Int32 × cf_O) :=
  Option.bind (fM_refuse s1 s2 0 o0) (fun q_1 => (if q_1.1 = (0 : Int32) then op_k ((1 : Int32) <<< ((q_1.2.1 39) &&& 31)) (fun x_5 => op_k (x_5 - 1) (fun x_6 => rc 0 v1 v2 (-1) x_6 q_1.2)) else some ((0 : Int32), q_1.2)))
noncomputable def fM_differ_69 (rc : Nat → Int32 → Int32 → Int32 → Int32 → cf_O → Option (Int32 × cf_O)) (v1 : Int32) (v2 : Int32) (s1 : Int32) (o0 : cf_O) : Option (Int32 × cf_O) :=
  fM_differ_70 rc v1 v2 s1 0 o0
noncomputable def fM_differ_54 (rc : Nat → Int32 → Int32 → Int32 → Int32 → cf_O → Option (Int32 × cf_O)) (v1 : Int32) (v2 : Int32) (v3 : Int32) (s1 : Int32) (o0 : cf_O) : Option (Int32 × cf_O) :=
  (if (o0.1 38) = (0 : Int32) then fM_differ_69 rc v1 v2 s1 o0 else (if v3 = (0 : Int32) then fM_differ_70 rc v1 v2 s1 1 o0 else fM_differ_69 rc v1 v2 s1 o0))
noncomputable def fM_differ_40 (rc : Nat → Int32 → Int32 → Int32 → Int32 → cf_O → Option (Int32 × cf_O)) (v1 : Int32) (v2 : Int32) (s0 : Int32) (o0 : cf_O) : Option (Int32 × cf_O) :=
  (if (o0.1 38) = (0 : Int32) then fM_differ_54 rc v1 v2 s0 1 o0 else fM_differ_54 rc v1 v2 s0 0 o0)
noncomputable def fM_differ_39 (rc : Nat → Int32 → Int32 → Int32 → Int32 → cf_O → Option (Int32 × cf_O)) (v1 : Int32) (v2 : Int32) (o0 : cf_O) : Option (Int32 × cf_O) :=
  fM_differ_40 rc v1 v2 0 o0
noncomputable def fM_differ_0 (rc : Nat → Int32 → Int32 → Int32 → Int32 → cf_O → Option (Int32 × cf_O)) (v1 : Int32) (v2 : Int32) (o0 : cf_O) : Option (Int32 × cf_O) :=
  (if (o0.1 38) = (0 : Int32) then fM_differ_39 rc v1 v2 o0 else op_k ((o0.1 40) - 1) (fun x_2 => Option.bind (fM_in v1 0 x_2) (fun q_3 => (if q_3 = (0 : Int32) then fM_differ_39 rc v1 v2 o0 else op_k ((o0.1 40) - 1) (fun x_7 => Option.bind (fM_in v2 0 x_7) (fun q_8 => (if q_8 = (0 : Int32) then fM_differ_39 rc v1 v2 o0 else fM_differ_40 rc v1 v2 1 o0)))))))
noncomputable def gM_differ (n : Nat) : Nat → Int32 → Int32 → Int32 → Int32 → cf_O → Option (Int32 × cf_O) := Nat.rec (motive := fun _ => Nat → Int32 → Int32 → Int32 → Int32 → cf_O → Option (Int32 × cf_O)) (fun _ _ _ _ _ _ => none) (fun _ rc => fun k u1i u2i u4i u5i o0 => Nat.rec (motive := fun _ => Option (Int32 × cf_O)) (fM_differ_92 rc u1i u2i u4i u5i o0) (fun k _ => none) k) n
noncomputable def fM_differ (v1 : Int32) (v2 : Int32) (o0 : cf_O) : Option (Int32 × cf_O) := fM_differ_0 (gM_differ cfFU) v1 v2 o0
noncomputable def fM_depth_69 (rc : Nat → Int32 → Int32 → cf_O → Option (Int32 × cf_O)) (v2 : Int32) (s0 : Int32) (o0 : cf_O) : Option (Int32 × cf_O) :=
  op_k (v2 + 1) (fun x_1 => rc 0 s0 x_1 o0)
noncomputable def fM_depth_27 (rc : Nat → Int32 → Int32 → cf_O → Option (Int32 × cf_O)) (v1 : Int32) (v2 : Int32) (o0 : cf_O) : Option (Int32 × cf_O) :=
  (if (o0.1 40) ≤ v2 then some (v1, o0) else (if v2 < 0 ∨ 6 ≤ v2.toNatClampNeg then none else op_k (o0.2.1 47 v2.toNatClampNeg) (fun x_3 => op_k (x_3 / 2) (fun x_4 => (if x_4 < 0 ∨ 210 ≤ x_4.toNatClampNeg then none else op_k (o0.2.1 62 x_4.toNatClampNeg) (fun x_6 => (if x_6 ≤ v1 then fM_depth_69 rc v2 v1 o0 else (if v2 < 0 ∨ 6 ≤ v2.toNatClampNeg then none else op_k (o0.2.1 47 v2.toNatClampNeg) (fun x_9 => op_k (x_9 / 2) (fun x_10 => (if x_10 < 0 ∨ 210 ≤ x_10.toNatClampNeg then none else op_k (o0.2.1 62 x_10.toNatClampNeg) (fun x_12 => fM_depth_69 rc v2 x_12 o0))))))))))))
noncomputable def fM_depth_13 (rc : Nat → Int32 → Int32 → cf_O → Option (Int32 × cf_O)) (s1 : Int32) (o0 : cf_O) : Option (Int32 × cf_O) :=
  Option.bind (fM_refuse s1 0 0 o0) (fun q_1 => (if q_1.1 = (0 : Int32) then rc 0 0 0 q_1.2 else some ((0 : Int32), q_1.2)))
noncomputable def fM_depth_0 (rc : Nat → Int32 → Int32 → cf_O → Option (Int32 × cf_O)) (o0 : cf_O) : Option (Int32 × cf_O) :=
  (if (o0.1 64) = (0 : Int32) then fM_depth_13 rc 1 o0 else fM_depth_13 rc 0 o0)
noncomputable def gM_depth (n : Nat) : Nat → Int32 → Int32 → cf_O → Option (Int32 × cf_O) := Nat.rec (motive := fun _ => Nat → Int32 → Int32 → cf_O → Option (Int32 × cf_O)) (fun _ _ _ _ => none) (fun _ rc => fun k u1i u2i o0 => Nat.rec (motive := fun _ => Option (Int32 × cf_O)) (fM_depth_27 rc u1i u2i o0) (fun k _ => none) k) n
noncomputable def fM_depth (o0 : cf_O) : Option (Int32 × cf_O) := fM_depth_0 (gM_depth cfFU) o0
noncomputable def fM_cell_218 (s0 : Int32) (o0 : cf_O) : Option (Int32 × cf_O) :=
  some (s0, o0)
noncomputable def fM_cell_136 (v1 : Int32) (v2 : Int32) (v4 : Int32) (s1 : Int32) (s2 : Int32) (s3 : Int32) (o0 : cf_O) : Option (Int32 × cf_O) :=
  Option.bind (fM_refuse s1 s2 s3 o0) (fun q_1 => (if q_1.1 = (0 : Int32) then (if v1 < 0 ∨ 201 ≤ v1.toNatClampNeg then none else op_k (q_1.2.2.1 74 v1.toNatClampNeg) (fun x_6 => (if v2 = (0 : Int32) then fM_cell_218 x_6 q_1.2 else (if v2 = (1 : Int32) then (if v4 < 0 ∨ 63210 ≤ v4.toNatClampNeg then none else op_k (q_1.2.2.1 59 v4.toNatClampNeg) (fun x_22 => fM_cell_218 x_22 q_1.2)) else (if v2 = (2 : Int32) then Option.bind (fM_table x_6 q_1.2) (fun q_18 => fM_cell_218 q_18.1 q_18.2) else (if v2 = (3 : Int32) then (if x_6 < 0 ∨ 210 ≤ x_6.toNatClampNeg then none else op_k (q_1.2.2.1 62 x_6.toNatClampNeg) (fun x_17 => fM_cell_218 x_17 q_1.2)) else op_k (5 * v4) (fun x_11 => op_k (x_11 + v2) (fun x_12 => op_k (x_12 - 4) (fun x_13 => (if x_13 < 0 ∨ 316050 ≤ x_13.toNatClampNeg then none else op_k (q_1.2.2.1 58 x_13.toNatClampNeg) (fun x_15 => fM_cell_218 x_15 q_1.2))))))))))) else some ((0 : Int32), q_1.2)))
noncomputable def fM_cell_135 (v1 : Int32) (v2 : Int32) (v4 : Int32) (s1 : Int32) (s2 : Int32) (o0 : cf_O) : Option (Int32 × cf_O) :=
  fM_cell_136 v1 v2 v4 s1 s2 0 o0
noncomputable def fM_cell_123 (v1 : Int32) (v2 : Int32) (v3 : Int32) (v4 : Int32) (s1 : Int32) (s2 : Int32) (o0 : cf_O) : Option (Int32 × cf_O) :=
  (if v3 = (0 : Int32) then fM_cell_135 v1 v2 v4 s1 s2 o0 else (if (0 : Int32) ≤ v2 then fM_cell_135 v1 v2 v4 s1 s2 o0 else fM_cell_136 v1 v2 v4 s1 s2 1 o0))
noncomputable def fM_cell_122 (v1 : Int32) (v2 : Int32) (v3 : Int32) (v4 : Int32) (s1 : Int32) (o0 : cf_O) : Option (Int32 × cf_O) :=
  fM_cell_123 v1 v2 v3 v4 s1 0 o0
noncomputable def fM_cell_106 (v1 : Int32) (v2 : Int32) (v3 : Int32) (v4 : Int32) (v6 : Int32) (s1 : Int32) (o0 : cf_O) : Option (Int32 × cf_O) :=
  (if (o0.1 64) = (0 : Int32) then fM_cell_122 v1 v2 v3 v4 s1 o0 else (if v6 = (0 : Int32) then fM_cell_122 v1 v2 v3 v4 s1 o0 else fM_cell_123 v1 v2 v3 v4 s1 1 o0))
noncomputable def fM_cell_91 (v1 : Int32) (v2 : Int32) (v3 : Int32) (v4 : Int32) (s0 : Int32) (o0 : cf_O) : Option (Int32 × cf_O) :=
  (if (o0.1 64) = (0 : Int32) then fM_cell_106 v1 v2 v3 v4 s0 1 o0 else fM_cell_106 v1 v2 v3 v4 s0 0 o0)
noncomputable def fM_cell_90 (v1 : Int32) (v2 : Int32) (v3 : Int32) (v4 : Int32) (o0 : cf_O) : Option (Int32 × cf_O) :=
  fM_cell_91 v1 v2 v3 v4 0 o0
noncomputable def fM_cell_86 (v1 : Int32) (v2 : Int32) (v3 : Int32) (v4 : Int32) (o0 : cf_O) : Option (Int32 × cf_O) :=
  fM_cell_91 v1 v2 v3 v4 1 o0
noncomputable def fM_cell_62 (v1 : Int32) (v2 : Int32) (v3 : Int32) (v4 : Int32) (s0 : Int32) (o0 : cf_O) : Option (Int32 × cf_O) :=
  (if v3 = (0 : Int32) then fM_cell_86 v1 v2 v3 v4 o0 else (if s0 = (0 : Int32) then fM_cell_90 v1 v2 v3 v4 o0 else op_k (v2 - 4) (fun x_3 => (if v4 < 0 ∨ 63210 ≤ v4.toNatClampNeg then none else op_k (o0.2.1 59 v4.toNatClampNeg) (fun x_5 => (if x_3 < x_5 then fM_cell_90 v1 v2 v3 v4 o0 else fM_cell_86 v1 v2 v3 v4 o0))))))
noncomputable def fM_cell_61 (v1 : Int32) (v2 : Int32) (v3 : Int32) (v4 : Int32) (o0 : cf_O) : Option (Int32 × cf_O) :=
  fM_cell_62 v1 v2 v3 v4 0 o0
noncomputable def fM_cell_46 (v1 : Int32) (v2 : Int32) (v3 : Int32) (s0 : Int32) (o0 : cf_O) : Option (Int32 × cf_O) :=
  (if v3 = (0 : Int32) then fM_cell_61 v1 v2 v3 s0 o0 else (if v2 ≤ (3 : Int32) then fM_cell_61 v1 v2 v3 s0 o0 else fM_cell_62 v1 v2 v3 s0 1 o0))
noncomputable def fM_cell_26 (v1 : Int32) (v2 : Int32) (s0 : Int32) (o0 : cf_O) : Option (Int32 × cf_O) :=
  (if s0 = (0 : Int32) then fM_cell_46 v1 v2 s0 0 o0 else (if v1 < 0 ∨ 201 ≤ v1.toNatClampNeg then none else op_k (o0.2.1 74 v1.toNatClampNeg) (fun x_3 => (if x_3 < 0 ∨ 210 ≤ x_3.toNatClampNeg then none else op_k (o0.2.1 63 x_3.toNatClampNeg) (fun x_5 => fM_cell_46 v1 v2 s0 x_5 o0)))))
noncomputable def fM_cell_25 (v1 : Int32) (v2 : Int32) (o0 : cf_O) : Option (Int32 × cf_O) :=
  fM_cell_26 v1 v2 0 o0
noncomputable def fM_cell_0 (v1 : Int32) (v2 : Int32) (o0 : cf_O) : Option (Int32 × cf_O) :=
  (if (o0.1 64) = (0 : Int32) then fM_cell_25 v1 v2 o0 else op_k ((o0.1 73) - 1) (fun x_2 => Option.bind (fM_in v1 0 x_2) (fun q_3 => (if q_3 = (0 : Int32) then fM_cell_25 v1 v2 o0 else fM_cell_26 v1 v2 1 o0))))
noncomputable def fM_cell (v1 : Int32) (v2 : Int32) (o0 : cf_O) : Option (Int32 × cf_O) := fM_cell_0 v1 v2 o0
noncomputable def fM_sign_56 (s0 : Int32) (o0 : cf_O) : Option (Int32 × cf_O) :=
  some (s0, o0)
noncomputable def fM_sign_29 (v1 : Int32) (s1 : Int32) (s2 : Int32) (o0 : cf_O) : Option (Int32 × cf_O) :=
  Option.bind (fM_refuse s1 s2 0 o0) (fun q_1 => (if q_1.1 = (0 : Int32) then (if (q_1.2.1 76) ≤ v1 then fM_sign_56 (-1) q_1.2 else (if v1 < 0 ∨ 90000 ≤ v1.toNatClampNeg then none else op_k (q_1.2.2.1 77 v1.toNatClampNeg) (fun x_7 => fM_sign_56 x_7 q_1.2))) else some ((0 : Int32), q_1.2)))
noncomputable def fM_sign_28 (v1 : Int32) (s1 : Int32) (o0 : cf_O) : Option (Int32 × cf_O) :=
  fM_sign_29 v1 s1 0 o0
noncomputable def fM_sign_13 (v1 : Int32) (s1 : Int32) (o0 : cf_O) : Option (Int32 × cf_O) :=
  (if (o0.1 64) = (0 : Int32) then fM_sign_28 v1 s1 o0 else (if (0 : Int32) ≤ v1 then fM_sign_28 v1 s1 o0 else fM_sign_29 v1 s1 1 o0))
noncomputable def fM_sign_0 (v1 : Int32) (o0 : cf_O) : Option (Int32 × cf_O) :=
  (if (o0.1 64) = (0 : Int32) then fM_sign_13 v1 1 o0 else fM_sign_13 v1 0 o0)
noncomputable def fM_sign (v1 : Int32) (o0 : cf_O) : Option (Int32 × cf_O) := fM_sign_0 v1 o0
noncomputable def fM_digitsOf_111 (rc : Nat → Int32 → Int32 → Int32 → Int32 → cf_O → Option (Int32)) (s0 : Int32) (o0 : cf_O) : Option (Int32) :=
  some s0
noncomputable def fM_digitsOf_93 (rc : Nat → Int32 → Int32 → Int32 → Int32 → cf_O → Option (Int32)) (v1 : Int32) (v3 : Int32) (v5 : Int32) (s0 : Int32) (o0 : cf_O) : Option (Int32) :=
  op_k (v5 + 1) (fun x_1 => rc 0 v1 v3 s0 x_1 o0)
noncomputable def fM_digitsOf_67 (rc : Nat → Int32 → Int32 → Int32 → Int32 → cf_O → Option (Int32)) (v1 : Int32) (v4 : Int32) (v5 : Int32) (s0 : Int32) (o0 : cf_O) : Option (Int32) :=
  (if s0 = (0 : Int32) then fM_digitsOf_93 rc v1 s0 v5 v4 o0 else op_k (10 * v4) (fun x_2 => (if v5 < 0 ∨ 1600 ≤ v5.toNatClampNeg then none else op_k (o0.2.1 1 v5.toNatClampNeg) (fun x_4 => op_k (x_2 + x_4) (fun x_5 => op_k (x_5 - 48) (fun x_6 => fM_digitsOf_93 rc v1 s0 v5 x_6 o0))))))
noncomputable def fM_digitsOf_66 (rc : Nat → Int32 → Int32 → Int32 → Int32 → cf_O → Option (Int32)) (v1 : Int32) (v4 : Int32) (v5 : Int32) (o0 : cf_O) : Option (Int32) :=
  fM_digitsOf_67 rc v1 v4 v5 0 o0
noncomputable def fM_digitsOf_30 (rc : Nat → Int32 → Int32 → Int32 → Int32 → cf_O → Option (Int32)) (v1 : Int32) (v3 : Int32) (v4 : Int32) (v5 : Int32) (o0 : cf_O) : Option (Int32) :=
  (if v1 < 0 ∨ 801 ≤ v1.toNatClampNeg then none else op_k (o0.2.1 9 v1.toNatClampNeg) (fun x_2 => (if x_2 ≤ v5 then (if v3 = (0 : Int32) then fM_digitsOf_111 rc (-1) o0 else fM_digitsOf_111 rc v4 o0) else (if v3 = (0 : Int32) then fM_digitsOf_66 rc v1 v4 v5 o0 else (if v5 < 0 ∨ 1600 ≤ v5.toNatClampNeg then none else op_k (o0.2.1 1 v5.toNatClampNeg) (fun x_7 => Option.bind (fM_in x_7 48 57) (fun q_8 => (if q_8 = (0 : Int32) then fM_digitsOf_66 rc v1 v4 v5 o0 else fM_digitsOf_67 rc v1 v4 v5 1 o0))))))))
noncomputable def fM_digitsOf_0 (rc : Nat → Int32 → Int32 → Int32 → Int32 → cf_O → Option (Int32)) (v1 : Int32) (v2 : Int32) (o0 : cf_O) : Option (Int32) :=
  (if v1 < 0 ∨ 801 ≤ v1.toNatClampNeg then none else op_k (o0.2.1 9 v1.toNatClampNeg) (fun x_2 => (if v1 < 0 ∨ 801 ≤ v1.toNatClampNeg then none else op_k (o0.2.1 8 v1.toNatClampNeg) (fun x_4 => op_k (x_2 - x_4) (fun x_5 => Option.bind (fM_in x_5 1 v2) (fun q_6 => (if v1 < 0 ∨ 801 ≤ v1.toNatClampNeg then none else op_k (o0.2.1 8 v1.toNatClampNeg) (fun x_10 => rc 0 v1 q_6 0 x_10 o0))))))))
noncomputable def gM_digitsOf (n : Nat) : Nat → Int32 → Int32 → Int32 → Int32 → cf_O → Option (Int32) := Nat.rec (motive := fun _ => Nat → Int32 → Int32 → Int32 → Int32 → cf_O → Option (Int32)) (fun _ _ _ _ _ _ => none) (fun _ rc => fun k u1i u3i u4i u5i o0 => Nat.rec (motive := fun _ => Option (Int32)) (fM_digitsOf_30 rc u1i u3i u4i u5i o0) (fun k _ => none) k) n
noncomputable def fM_digitsOf (v1 : Int32) (v2 : Int32) (o0 : cf_O) : Option (Int32) := fM_digitsOf_0 (gM_digitsOf cfFU) v1 v2 o0
noncomputable def fM_pinsOf_122 (rc : Nat → Int32 → Int32 → Int32 → Int32 → cf_O → Option (Int32)) (s0 : Int32) (o0 : cf_O) : Option (Int32) :=
  some s0
noncomputable def fM_pinsOf_88 (rc : Nat → Int32 → Int32 → Int32 → Int32 → cf_O → Option (Int32)) (v1 : Int32) (v2 : Int32) (v4 : Int32) (s0 : Int32) (o0 : cf_O) : Option (Int32) :=
  op_k (v4 + 1) (fun x_1 => rc 0 v1 v2 s0 x_1 o0)
noncomputable def fM_pinsOf_87 (rc : Nat → Int32 → Int32 → Int32 → Int32 → cf_O → Option (Int32)) (v1 : Int32) (v2 : Int32) (v4 : Int32) (o0 : cf_O) : Option (Int32) :=
  fM_pinsOf_88 rc v1 v2 v4 0 o0
noncomputable def fM_pinsOf_83 (rc : Nat → Int32 → Int32 → Int32 → Int32 → cf_O → Option (Int32)) (v1 : Int32) (v2 : Int32) (v4 : Int32) (o0 : cf_O) : Option (Int32) :=
  fM_pinsOf_88 rc v1 v2 v4 1 o0
noncomputable def fM_pinsOf_44 (rc : Nat → Int32 → Int32 → Int32 → Int32 → cf_O → Option (Int32)) (v1 : Int32) (v2 : Int32) (v3 : Int32) (v4 : Int32) (o0 : cf_O) : Option (Int32) :=
  (if v1 < 0 ∨ 801 ≤ v1.toNatClampNeg then none else op_k (o0.2.1 9 v1.toNatClampNeg) (fun x_2 => (if x_2 ≤ v4 then (if v3 = (0 : Int32) then fM_pinsOf_122 rc 0 o0 else (if v2 = (2 : Int32) then fM_pinsOf_122 rc 1 o0 else (if v2 = (4 : Int32) then fM_pinsOf_122 rc 2 o0 else fM_pinsOf_122 rc 3 o0))) else (if v3 = (0 : Int32) then fM_pinsOf_87 rc v1 v2 v4 o0 else (if v4 < 0 ∨ 1600 ≤ v4.toNatClampNeg then none else op_k (o0.2.1 1 v4.toNatClampNeg) (fun x_9 => (if x_9 = (48 : Int32) then fM_pinsOf_83 rc v1 v2 v4 o0 else (if v4 < 0 ∨ 1600 ≤ v4.toNatClampNeg then none else op_k (o0.2.1 1 v4.toNatClampNeg) (fun x_12 => (if x_12 = (49 : Int32) then fM_pinsOf_83 rc v1 v2 v4 o0 else fM_pinsOf_87 rc v1 v2 v4 o0))))))))))
noncomputable def fM_pinsOf_35 (rc : Nat → Int32 → Int32 → Int32 → Int32 → cf_O → Option (Int32)) (v1 : Int32) (v2 : Int32) (s0 : Int32) (o0 : cf_O) : Option (Int32) :=
  (if v1 < 0 ∨ 801 ≤ v1.toNatClampNeg then none else op_k (o0.2.1 8 v1.toNatClampNeg) (fun x_2 => rc 0 v1 v2 s0 x_2 o0))
noncomputable def fM_pinsOf_30 (rc : Nat → Int32 → Int32 → Int32 → Int32 → cf_O → Option (Int32)) (v1 : Int32) (v2 : Int32) (o0 : cf_O) : Option (Int32) :=
  fM_pinsOf_35 rc v1 v2 1 o0
noncomputable def fM_pinsOf_0 (rc : Nat → Int32 → Int32 → Int32 → Int32 → cf_O → Option (Int32)) (v1 : Int32) (o0 : cf_O) : Option (Int32) :=
  (if v1 < 0 ∨ 801 ≤ v1.toNatClampNeg then none else op_k (o0.2.1 9 v1.toNatClampNeg) (fun x_2 => (if v1 < 0 ∨ 801 ≤ v1.toNatClampNeg then none else op_k (o0.2.1 8 v1.toNatClampNeg) (fun x_4 => op_k (x_2 - x_4) (fun x_5 => (if x_5 = (2 : Int32) then fM_pinsOf_30 rc v1 x_5 o0 else (if x_5 = (4 : Int32) then fM_pinsOf_30 rc v1 x_5 o0 else (if x_5 = (8 : Int32) then fM_pinsOf_30 rc v1 x_5 o0 else fM_pinsOf_35 rc v1 x_5 0 o0))))))))
noncomputable def gM_pinsOf (n : Nat) : Nat → Int32 → Int32 → Int32 → Int32 → cf_O → Option (Int32) := Nat.rec (motive := fun _ => Nat → Int32 → Int32 → Int32 → Int32 → cf_O → Option (Int32)) (fun _ _ _ _ _ _ => none) (fun _ rc => fun k u1i u2i u3i u4i o0 => Nat.rec (motive := fun _ => Option (Int32)) (fM_pinsOf_44 rc u1i u2i u3i u4i o0) (fun k _ => none) k) n
noncomputable def fM_pinsOf (v1 : Int32) (o0 : cf_O) : Option (Int32) := fM_pinsOf_0 (gM_pinsOf cfFU) v1 o0
noncomputable def fM_isCellWord_74 (s0 : Int32) (o0 : cf_O) : Option (Int32) :=
  (if ¬ (s0 = 0 ∨ s0 = 1) then none else some s0)
noncomputable def fM_isCellWord_73 (o0 : cf_O) : Option (Int32) :=
  fM_isCellWord_74 0 o0
noncomputable def fM_isCellWord_0 (o0 : cf_O) : Option (Int32) :=
  (if (0 : Int32) < 0 ∨ 801 ≤ (0 : Int32).toNatClampNeg then none else op_k (o0.2.1 8 (0 : Int32).toNatClampNeg) (fun x_2 => (if (0 : Int32) < 0 ∨ 801 ≤ (0 : Int32).toNatClampNeg then none else op_k (o0.2.1 9 (0 : Int32).toNatClampNeg) (fun x_4 => op_k (x_4 - x_2) (fun x_5 => (if x_5 = (4 : Int32) then (if x_2 < 0 ∨ 1600 ≤ x_2.toNatClampNeg then none else op_k (o0.2.1 1 x_2.toNatClampNeg) (fun x_8 => (if x_8 = (99 : Int32) then op_k (x_2 + 1) (fun x_10 => (if x_10 < 0 ∨ 1600 ≤ x_10.toNatClampNeg then none else op_k (o0.2.1 1 x_10.toNatClampNeg) (fun x_12 => (if x_12 = (101 : Int32) then op_k (x_2 + 2) (fun x_14 => (if x_14 < 0 ∨ 1600 ≤ x_14.toNatClampNeg then none else op_k (o0.2.1 1 x_14.toNatClampNeg) (fun x_16 => (if x_16 = (108 : Int32) then op_k (x_2 + 3) (fun x_18 => (if x_18 < 0 ∨ 1600 ≤ x_18.toNatClampNeg then none else op_k (o0.2.1 1 x_18.toNatClampNeg) (fun x_20 => (if x_20 = (108 : Int32) then fM_isCellWord_74 1 o0 else fM_isCellWord_73 o0)))) else fM_isCellWord_73 o0)))) else fM_isCellWord_73 o0)))) else fM_isCellWord_73 o0))) else fM_isCellWord_73 o0))))))
noncomputable def fM_isCellWord (o0 : cf_O) : Option (Int32) := fM_isCellWord_0 o0
noncomputable def fM_isTaken_108 (rc : Nat → Int32 → Int32 → Int32 → Int32 → Int32 → cf_O → Option (Int32)) (v1 : Int32) (v3 : Int32) (s0 : Int32) (o0 : cf_O) : Option (Int32) :=
  op_k (v3 + 1) (fun x_1 => rc 0 v1 s0 x_1 0 0 o0)
noncomputable def fM_isTaken_103 (rc : Nat → Int32 → Int32 → Int32 → Int32 → Int32 → cf_O → Option (Int32)) (v1 : Int32) (v3 : Int32) (o0 : cf_O) : Option (Int32) :=
  fM_isTaken_108 rc v1 v3 1 o0
noncomputable def fM_isTaken_86 (rc : Nat → Int32 → Int32 → Int32 → Int32 → Int32 → cf_O → Option (Int32)) (v1 : Int32) (v2 : Int32) (v3 : Int32) (v5 : Int32) (s0 : Int32) (o0 : cf_O) : Option (Int32) :=
  op_k (v5 + 1) (fun x_1 => rc 1 v1 v2 v3 s0 x_1 o0)
noncomputable def fM_isTaken_85 (rc : Nat → Int32 → Int32 → Int32 → Int32 → Int32 → cf_O → Option (Int32)) (v1 : Int32) (v2 : Int32) (v3 : Int32) (v5 : Int32) (o0 : cf_O) : Option (Int32) :=
  fM_isTaken_86 rc v1 v2 v3 v5 0 o0
noncomputable def fM_isTaken_78 (rc : Nat → Int32 → Int32 → Int32 → Int32 → Int32 → cf_O → Option (Int32)) (v1 : Int32) (v2 : Int32) (v3 : Int32) (v5 : Int32) (s0 : Int32) (s1 : Int32) (o0 : cf_O) : Option (Int32) :=
  (if s0 = s1 then fM_isTaken_86 rc v1 v2 v3 v5 1 o0 else fM_isTaken_85 rc v1 v2 v3 v5 o0)
noncomputable def fM_isTaken_18 (rc : Nat → Int32 → Int32 → Int32 → Int32 → Int32 → cf_O → Option (Int32)) (v1 : Int32) (v2 : Int32) (v3 : Int32) (v4 : Int32) (v5 : Int32) (o0 : cf_O) : Option (Int32) :=
  (if (8 : Int32) ≤ v5 then (if v2 = (0 : Int32) then (if v4 = (0 : Int32) then fM_isTaken_108 rc v1 v3 0 o0 else fM_isTaken_103 rc v1 v3 o0) else fM_isTaken_103 rc v1 v3 o0) else (if v4 = (0 : Int32) then fM_isTaken_85 rc v1 v2 v3 v5 o0 else op_k (8 * v3) (fun x_5 => op_k (x_5 + v5) (fun x_6 => (if x_6 < 0 ∨ 104 ≤ x_6.toNatClampNeg then none else op_k (o0.2.1 80 x_6.toNatClampNeg) (fun x_8 => (if v1 < 0 ∨ 801 ≤ v1.toNatClampNeg then none else op_k (o0.2.1 8 v1.toNatClampNeg) (fun x_10 => op_k (x_10 + v5) (fun x_11 => (if v1 < 0 ∨ 801 ≤ v1.toNatClampNeg then none else op_k (o0.2.1 9 v1.toNatClampNeg) (fun x_13 => (if x_13 ≤ x_11 then fM_isTaken_78 rc v1 v2 v3 v5 x_8 0 o0 else (if v1 < 0 ∨ 801 ≤ v1.toNatClampNeg then none else op_k (o0.2.1 8 v1.toNatClampNeg) (fun x_16 => op_k (x_16 + v5) (fun x_17 => (if x_17 < 0 ∨ 1600 ≤ x_17.toNatClampNeg then none else op_k (o0.2.1 1 x_17.toNatClampNeg) (fun x_19 => fM_isTaken_78 rc v1 v2 v3 v5 x_8 x_19 o0)))))))))))))))))
noncomputable def fM_isTaken_4 (rc : Nat → Int32 → Int32 → Int32 → Int32 → Int32 → cf_O → Option (Int32)) (v1 : Int32) (v2 : Int32) (v3 : Int32) (o0 : cf_O) : Option (Int32) :=
  (if (o0.1 79) ≤ v3 then (if ¬ (v2 = 0 ∨ v2 = 1) then none else some v2) else rc 1 v1 v2 v3 1 0 o0)
noncomputable def fM_isTaken_0 (rc : Nat → Int32 → Int32 → Int32 → Int32 → Int32 → cf_O → Option (Int32)) (v1 : Int32) (o0 : cf_O) : Option (Int32) :=
  rc 0 v1 0 0 0 0 o0
noncomputable def gM_isTaken (n : Nat) : Nat → Int32 → Int32 → Int32 → Int32 → Int32 → cf_O → Option (Int32) := Nat.rec (motive := fun _ => Nat → Int32 → Int32 → Int32 → Int32 → Int32 → cf_O → Option (Int32)) (fun _ _ _ _ _ _ _ => none) (fun _ rc => fun k u1i u2i u3i u4i u5i o0 => Nat.rec (motive := fun _ => Option (Int32)) (fM_isTaken_4 rc u1i u2i u3i o0) (fun k _ => Nat.rec (motive := fun _ => Option (Int32)) (fM_isTaken_18 rc u1i u2i u3i u4i u5i o0) (fun k _ => none) k) k) n
noncomputable def fM_isTaken (v1 : Int32) (o0 : cf_O) : Option (Int32) := fM_isTaken_0 (gM_isTaken cfFU) v1 o0
noncomputable def fM_cellLine_189 (rc : Nat → Int32 → Int32 → cf_O → Option (cf_O)) (v3 : Int32) (s0 : Int32) (o0 : cf_O) : Option (cf_O) :=
  op_k (v3 + 1) (fun x_1 => rc 1 s0 x_1 o0)
noncomputable def fM_cellLine_152 (rc : Nat → Int32 → Int32 → cf_O → Option (cf_O)) (v2 : Int32) (v3 : Int32) (o0 : cf_O) : Option (cf_O) :=
  (if (4 : Int32) < 0 ∨ 801 ≤ (4 : Int32).toNatClampNeg then none else op_k (o0.2.1 9 (4 : Int32).toNatClampNeg) (fun x_2 => (if x_2 ≤ v3 then op_k (4 * (o0.1 79)) (fun x_4 => Option.bind (fM_digitsOf 2 3 o0) (fun q_5 => (if x_4 < 0 ∨ 52 ≤ x_4.toNatClampNeg then none else op_k (xp o0 81 x_4.toNatClampNeg q_5) (fun o_9 => op_k (4 * (o_9.1 79)) (fun x_10 => op_k (x_10 + 1) (fun x_11 => Option.bind (fM_digitsOf 3 2 o_9) (fun q_12 => (if x_11 < 0 ∨ 52 ≤ x_11.toNatClampNeg then none else op_k (xp o_9 81 x_11.toNatClampNeg q_12) (fun o_16 => op_k (4 * (o_16.1 79)) (fun x_17 => op_k (x_17 + 2) (fun x_18 => Option.bind (fM_pinsOf 4 o_16) (fun q_19 => (if x_18 < 0 ∨ 52 ≤ x_18.toNatClampNeg then none else op_k (xp o_16 81 x_18.toNatClampNeg q_19) (fun o_23 => op_k (4 * (o_23.1 79)) (fun x_24 => op_k (x_24 + 3) (fun x_25 => (if x_25 < 0 ∨ 52 ≤ x_25.toNatClampNeg then none else op_k (xp o_23 81 x_25.toNatClampNeg v2) (fun o_27 => op_k ((o_27.1 79) + 1) (fun x_28 => op_k (fp o_27 79 x_28) (fun o_29 => some o_29)))))))))))))))))))) else (if v3 < 0 ∨ 1600 ≤ v3.toNatClampNeg then none else op_k (o0.2.1 1 v3.toNatClampNeg) (fun x_31 => (if x_31 = (49 : Int32) then (if (4 : Int32) < 0 ∨ 801 ≤ (4 : Int32).toNatClampNeg then none else op_k (o0.2.1 8 (4 : Int32).toNatClampNeg) (fun x_34 => op_k (v3 - x_34) (fun x_35 => op_k ((1 : Int32) <<< (x_35 &&& 31)) (fun x_36 => op_k (v2 ||| x_36) (fun x_37 => fM_cellLine_189 rc v3 x_37 o0))))) else fM_cellLine_189 rc v3 v2 o0))))))
noncomputable def fM_cellLine_136 (rc : Nat → Int32 → Int32 → cf_O → Option (cf_O)) (v2 : Int32) (s1 : Int32) (s2 : Int32) (o0 : cf_O) : Option (cf_O) :=
  (if s1 < 0 ∨ 104 ≤ s1.toNatClampNeg then none else op_k (xp o0 80 s1.toNatClampNeg s2) (fun o_2 => op_k (v2 + 1) (fun x_3 => rc 0 x_3 0 o_2)))
noncomputable def fM_cellLine_83 (rc : Nat → Int32 → Int32 → cf_O → Option (cf_O)) (v2 : Int32) (o0 : cf_O) : Option (cf_O) :=
  (if (8 : Int32) ≤ v2 then (if (4 : Int32) < 0 ∨ 801 ≤ (4 : Int32).toNatClampNeg then none else op_k (o0.2.1 8 (4 : Int32).toNatClampNeg) (fun x_3 => rc 1 0 x_3 o0)) else op_k (8 * (o0.1 79)) (fun x_4 => op_k (x_4 + v2) (fun x_5 => (if (1 : Int32) < 0 ∨ 801 ≤ (1 : Int32).toNatClampNeg then none else op_k (o0.2.1 8 (1 : Int32).toNatClampNeg) (fun x_7 => op_k (x_7 + v2) (fun x_8 => (if (1 : Int32) < 0 ∨ 801 ≤ (1 : Int32).toNatClampNeg then none else op_k (o0.2.1 9 (1 : Int32).toNatClampNeg) (fun x_10 => (if x_10 ≤ x_8 then fM_cellLine_136 rc v2 x_5 0 o0 else (if (1 : Int32) < 0 ∨ 801 ≤ (1 : Int32).toNatClampNeg then none else op_k (o0.2.1 8 (1 : Int32).toNatClampNeg) (fun x_13 => op_k (x_13 + v2) (fun x_14 => (if x_14 < 0 ∨ 1600 ≤ x_14.toNatClampNeg then none else op_k (o0.2.1 1 x_14.toNatClampNeg) (fun x_16 => fM_cellLine_136 rc v2 x_5 x_16 o0))))))))))))))
noncomputable def fM_cellLine_59 (rc : Nat → Int32 → Int32 → cf_O → Option (cf_O)) (v1 : Int32) (o0 : cf_O) : Option (cf_O) :=
  Option.bind (fM_fail 1 v1 o0) (fun q_1 => some q_1)
noncomputable def fM_cellLine_0 (rc : Nat → Int32 → Int32 → cf_O → Option (cf_O)) (v1 : Int32) (o0 : cf_O) : Option (cf_O) :=
  (if (o0.1 7) = (5 : Int32) then Option.bind (fM_isCellWord o0) (fun q_2 => (if q_2 = (0 : Int32) then fM_cellLine_59 rc v1 o0 else (if (o0.1 79) = (12 : Int32) then fM_cellLine_59 rc v1 o0 else Option.bind (fM_isName 1 o0) (fun q_7 => (if q_7 = (0 : Int32) then fM_cellLine_59 rc v1 o0 else Option.bind (fM_digitsOf 2 3 o0) (fun q_11 => (if q_11 < (0 : Int32) then fM_cellLine_59 rc v1 o0 else Option.bind (fM_digitsOf 3 2 o0) (fun q_15 => (if q_15 < (1 : Int32) then fM_cellLine_59 rc v1 o0 else Option.bind (fM_pinsOf 4 o0) (fun q_19 => (if q_19 = (0 : Int32) then fM_cellLine_59 rc v1 o0 else Option.bind (fM_isTaken 1 o0) (fun q_23 => (if q_23 = (0 : Int32) then rc 0 0 0 o0 else Option.bind (fM_fail 2 v1 o0) (fun q_27 => some q_27)))))))))))))) else fM_cellLine_59 rc v1 o0)
noncomputable def gM_cellLine (n : Nat) : Nat → Int32 → Int32 → cf_O → Option (cf_O) := Nat.rec (motive := fun _ => Nat → Int32 → Int32 → cf_O → Option (cf_O)) (fun _ _ _ _ => none) (fun _ rc => fun k u2i u3i o0 => Nat.rec (motive := fun _ => Option (cf_O)) (fM_cellLine_83 rc u2i o0) (fun k _ => Nat.rec (motive := fun _ => Option (cf_O)) (fM_cellLine_152 rc u2i u3i o0) (fun k _ => none) k) k) n
noncomputable def fM_cellLine (v1 : Int32) (o0 : cf_O) : Option (cf_O) := fM_cellLine_0 (gM_cellLine cfFU) v1 o0
noncomputable def fM_readLibrary_139 (rc : Nat → Int32 → Int32 → Int32 → cf_O → Option (cf_O)) (o0 : cf_O) : Option (cf_O) :=
  some o0
noncomputable def fM_readLibrary_129 (rc : Nat → Int32 → Int32 → Int32 → cf_O → Option (cf_O)) (v1 : Int32) (v2 : Int32) (o0 : cf_O) : Option (cf_O) :=
  (if v1 = (0 : Int32) then Option.bind (fM_fail 1 v2 o0) (fun q_2 => fM_readLibrary_139 rc q_2) else fM_readLibrary_139 rc o0)
noncomputable def fM_readLibrary_118 (rc : Nat → Int32 → Int32 → Int32 → cf_O → Option (cf_O)) (v1 : Int32) (v2 : Int32) (v4 : Int32) (o0 : cf_O) : Option (cf_O) :=
  op_k (v4 + 1) (fun x_1 => op_k (v2 + 1) (fun x_2 => rc 0 v1 x_2 x_1 o0))
noncomputable def fM_readLibrary_108 (rc : Nat → Int32 → Int32 → Int32 → cf_O → Option (cf_O)) (v1 : Int32) (v2 : Int32) (v4 : Int32) (v5 : Int32) (o0 : cf_O) : Option (cf_O) :=
  (if v5 = (0 : Int32) then Option.bind (fM_cellLine v2 o0) (fun q_2 => fM_readLibrary_118 rc v1 v2 v4 q_2) else fM_readLibrary_118 rc v1 v2 v4 o0)
noncomputable def fM_readLibrary_75 (rc : Nat → Int32 → Int32 → Int32 → cf_O → Option (cf_O)) (v1 : Int32) (v2 : Int32) (v4 : Int32) (v5 : Int32) (o0 : cf_O) : Option (cf_O) :=
  (if v5 = (0 : Int32) then (if (o0.1 79) ≤ (0 : Int32) then fM_readLibrary_108 rc v1 v2 v4 v5 o0 else (if (o0.1 7) = (1 : Int32) then Option.bind (fM_firstWord o0) (fun q_4 => (if q_4 = (3 : Int32) then fM_readLibrary_118 rc 1 v2 v4 o0 else fM_readLibrary_108 rc v1 v2 v4 v5 o0)) else fM_readLibrary_108 rc v1 v2 v4 v5 o0)) else fM_readLibrary_108 rc v1 v2 v4 v5 o0)
noncomputable def fM_readLibrary_55 (rc : Nat → Int32 → Int32 → Int32 → cf_O → Option (cf_O)) (v1 : Int32) (v2 : Int32) (v4 : Int32) (s0 : Int32) (o0 : cf_O) : Option (cf_O) :=
  (if s0 = (0 : Int32) then (if v1 = (0 : Int32) then fM_readLibrary_75 rc v1 v2 v4 s0 o0 else Option.bind (fM_fail 1 v2 o0) (fun q_3 => fM_readLibrary_118 rc v1 v2 v4 q_3)) else fM_readLibrary_75 rc v1 v2 v4 s0 o0)
noncomputable def fM_readLibrary_21 (rc : Nat → Int32 → Int32 → Int32 → cf_O → Option (cf_O)) (v1 : Int32) (v2 : Int32) (v3 : Int32) (o0 : cf_O) : Option (cf_O) :=
  (if (o0.1 2) < v3 then fM_readLibrary_129 rc v1 v2 o0 else (if (o0.1 5) = (0 : Int32) then Option.bind (fM_takeLine v3 o0) (fun q_3 => (if (q_3.2.1 7) = (0 : Int32) then fM_readLibrary_55 rc v1 v2 q_3.1 1 q_3.2 else fM_readLibrary_55 rc v1 v2 q_3.1 0 q_3.2)) else fM_readLibrary_129 rc v1 v2 o0))
noncomputable def fM_readLibrary_0 (rc : Nat → Int32 → Int32 → Int32 → cf_O → Option (cf_O)) (o0 : cf_O) : Option (cf_O) :=
  op_k (fp o0 5 0) (fun o_1 => op_k (fp o_1 6 (-1)) (fun o_2 => op_k (fp o_2 79 0) (fun o_3 => rc 0 0 0 0 o_3)))
noncomputable def gM_readLibrary (n : Nat) : Nat → Int32 → Int32 → Int32 → cf_O → Option (cf_O) := Nat.rec (motive := fun _ => Nat → Int32 → Int32 → Int32 → cf_O → Option (cf_O)) (fun _ _ _ _ _ => none) (fun _ rc => fun k u1i u2i u3i o0 => Nat.rec (motive := fun _ => Option (cf_O)) (fM_readLibrary_21 rc u1i u2i u3i o0) (fun k _ => none) k) n
noncomputable def fM_readLibrary (o0 : cf_O) : Option (cf_O) := fM_readLibrary_0 (gM_readLibrary cfFU) o0
noncomputable def fM_library_101 (rc : Nat → Int32 → cf_O → Option (Int32 × cf_O)) (v2 : Int32) (o0 : cf_O) : Option (Int32 × cf_O) :=
  op_k (4 * (o0.1 82)) (fun x_1 => (if x_1 ≤ v2 then some ((0 : Int32), o0) else (if v2 < 0 ∨ 52 ≤ v2.toNatClampNeg then none else op_k (o0.2.1 81 v2.toNatClampNeg) (fun x_4 => (if v2 < 0 ∨ 48 ≤ v2.toNatClampNeg then none else op_k (xp o0 84 v2.toNatClampNeg x_4) (fun o_6 => op_k (v2 + 1) (fun x_7 => rc 1 x_7 o_6)))))))
noncomputable def fM_library_70 (rc : Nat → Int32 → cf_O → Option (Int32 × cf_O)) (v2 : Int32) (o0 : cf_O) : Option (Int32 × cf_O) :=
  op_k (8 * (o0.1 82)) (fun x_1 => (if x_1 ≤ v2 then rc 1 0 o0 else (if v2 < 0 ∨ 104 ≤ v2.toNatClampNeg then none else op_k (o0.2.1 80 v2.toNatClampNeg) (fun x_4 => (if v2 < 0 ∨ 96 ≤ v2.toNatClampNeg then none else op_k (xp o0 83 v2.toNatClampNeg x_4) (fun o_6 => op_k (v2 + 1) (fun x_7 => rc 0 x_7 o_6)))))))
noncomputable def fM_library_30 (rc : Nat → Int32 → cf_O → Option (Int32 × cf_O)) (v1 : Int32) (s1 : Int32) (o0 : cf_O) : Option (Int32 × cf_O) :=
  op_k (fp o0 3 s1) (fun o_1 => op_k (fp o_1 6 v1) (fun o_2 => (if (o_2.1 5) ≤ (0 : Int32) then op_k (fp o_2 78 1) (fun o_4 => op_k (fp o_4 85 0) (fun o_5 => op_k (fp o_5 82 (o_5.1 79)) (fun o_6 => rc 0 0 o_6))) else some (o_2.1 5, o_2))))
noncomputable def fM_library_0 (rc : Nat → Int32 → cf_O → Option (Int32 × cf_O)) (o0 : cf_O) : Option (Int32 × cf_O) :=
  op_k (fp o0 0 0) (fun o_1 => Option.bind (fM_readLibrary o_1) (fun q_2 => (if (q_2.1 5) ≤ (0 : Int32) then fM_library_30 rc (o_1.1 6) (-1) q_2 else fM_library_30 rc (o_1.1 6) (q_2.1 6) q_2)))
noncomputable def gM_library (n : Nat) : Nat → Int32 → cf_O → Option (Int32 × cf_O) := Nat.rec (motive := fun _ => Nat → Int32 → cf_O → Option (Int32 × cf_O)) (fun _ _ _ => none) (fun _ rc => fun k u2i o0 => Nat.rec (motive := fun _ => Option (Int32 × cf_O)) (fM_library_70 rc u2i o0) (fun k _ => Nat.rec (motive := fun _ => Option (Int32 × cf_O)) (fM_library_101 rc u2i o0) (fun k _ => none) k) k) n
noncomputable def fM_library (o0 : cf_O) : Option (Int32 × cf_O) := fM_library_0 (gM_library cfFU) o0
noncomputable def fM_libraryCell_55 (v1 : Int32) (v2 : Int32) (s1 : Int32) (s2 : Int32) (o0 : cf_O) : Option (Int32 × cf_O) :=
  Option.bind (fM_refuse s1 s2 0 o0) (fun q_1 => (if q_1.1 = (0 : Int32) then op_k (4 * v1) (fun x_5 => op_k (x_5 + v2) (fun x_6 => (if x_6 < 0 ∨ 48 ≤ x_6.toNatClampNeg then none else op_k (q_1.2.2.1 84 x_6.toNatClampNeg) (fun x_8 => some (x_8, q_1.2))))) else some ((0 : Int32), q_1.2)))
noncomputable def fM_libraryCell_54 (v1 : Int32) (v2 : Int32) (s1 : Int32) (o0 : cf_O) : Option (Int32 × cf_O) :=
  fM_libraryCell_55 v1 v2 s1 0 o0
noncomputable def fM_libraryCell_37 (v1 : Int32) (v2 : Int32) (v3 : Int32) (s1 : Int32) (o0 : cf_O) : Option (Int32 × cf_O) :=
  (if v3 = (0 : Int32) then fM_libraryCell_54 v1 v2 s1 o0 else Option.bind (fM_in v2 0 3) (fun q_2 => (if q_2 = (0 : Int32) then fM_libraryCell_55 v1 v2 s1 1 o0 else fM_libraryCell_54 v1 v2 s1 o0)))
noncomputable def fM_libraryCell_26 (v1 : Int32) (v2 : Int32) (s0 : Int32) (o0 : cf_O) : Option (Int32 × cf_O) :=
  (if s0 = (0 : Int32) then fM_libraryCell_37 v1 v2 s0 1 o0 else fM_libraryCell_37 v1 v2 s0 0 o0)
noncomputable def fM_libraryCell_25 (v1 : Int32) (v2 : Int32) (o0 : cf_O) : Option (Int32 × cf_O) :=
  fM_libraryCell_26 v1 v2 0 o0
noncomputable def fM_libraryCell_0 (v1 : Int32) (v2 : Int32) (o0 : cf_O) : Option (Int32 × cf_O) :=
  (if (o0.1 78) = (0 : Int32) then fM_libraryCell_25 v1 v2 o0 else op_k ((o0.1 82) - 1) (fun x_2 => Option.bind (fM_in v1 0 x_2) (fun q_3 => (if q_3 = (0 : Int32) then fM_libraryCell_25 v1 v2 o0 else fM_libraryCell_26 v1 v2 1 o0))))
noncomputable def fM_libraryCell (v1 : Int32) (v2 : Int32) (o0 : cf_O) : Option (Int32 × cf_O) := fM_libraryCell_0 v1 v2 o0
noncomputable def fM_isGiven_25 (s0 : Int32) (o0 : cf_O) : Option (Int32) :=
  (if ¬ (s0 = 0 ∨ s0 = 1) then none else some s0)
noncomputable def fM_isGiven_24 (o0 : cf_O) : Option (Int32) :=
  fM_isGiven_25 0 o0
noncomputable def fM_isGiven_0 (v1 : Int32) (o0 : cf_O) : Option (Int32) :=
  op_k (v1 - v1 / 2 * 2) (fun x_1 => (if x_1 = (0 : Int32) then op_k (v1 / 2) (fun x_3 => Option.bind (fM_in x_3 1 (o0.1 39)) (fun q_4 => (if q_4 = (0 : Int32) then fM_isGiven_24 o0 else fM_isGiven_25 1 o0))) else fM_isGiven_24 o0))
noncomputable def fM_isGiven (v1 : Int32) (o0 : cf_O) : Option (Int32) := fM_isGiven_0 v1 o0
noncomputable def fM_timeOf_25 (s0 : Int32) (o0 : cf_O) : Option (Int32) :=
  some s0
noncomputable def fM_timeOf_13 (o0 : cf_O) : Option (Int32) :=
  fM_timeOf_25 0 o0
noncomputable def fM_timeOf_0 (v1 : Int32) (o0 : cf_O) : Option (Int32) :=
  (if v1 < (2 : Int32) then fM_timeOf_13 o0 else Option.bind (fM_isGiven v1 o0) (fun q_2 => (if q_2 = (0 : Int32) then op_k (5 * v1) (fun x_6 => (if x_6 < 0 ∨ 2100 ≤ x_6.toNatClampNeg then none else op_k (o0.2.1 87 x_6.toNatClampNeg) (fun x_8 => fM_timeOf_25 x_8 o0))) else fM_timeOf_13 o0)))
noncomputable def fM_timeOf (v1 : Int32) (o0 : cf_O) : Option (Int32) := fM_timeOf_0 v1 o0
noncomputable def fM_maskAll_192 (rc : Nat → Int32 → Int32 → Int32 → Int32 → cf_O → Option (cf_O)) (v1 : Int32) (v2 : Int32) (v3 : Int32) (v4 : Int32) (s1 : Int32) (s2 : Int32) (o0 : cf_O) : Option (cf_O) :=
  (if s1 < 0 ∨ 210 ≤ s1.toNatClampNeg then none else op_k (xp o0 91 s1.toNatClampNeg s2) (fun o_2 => op_k (v4 + 1) (fun x_3 => rc 1 v1 v2 v3 x_3 o_2)))
noncomputable def fM_maskAll_126 (rc : Nat → Int32 → Int32 → Int32 → Int32 → cf_O → Option (cf_O)) (v1 : Int32) (v2 : Int32) (v3 : Int32) (v4 : Int32) (o0 : cf_O) : Option (cf_O) :=
  (if v2 < 0 ∨ 63210 ≤ v2.toNatClampNeg then none else op_k (o0.2.1 59 v2.toNatClampNeg) (fun x_2 => (if x_2 ≤ v4 then op_k (v3 + 1) (fun x_4 => rc 0 v1 v2 x_4 0 o0) else op_k (5 * v2) (fun x_5 => op_k (x_5 + v4) (fun x_6 => (if x_6 < 0 ∨ 316050 ≤ x_6.toNatClampNeg then none else op_k (o0.2.1 58 x_6.toNatClampNeg) (fun x_8 => (if x_8 = v3 then (if v4 = (0 : Int32) then fM_maskAll_192 rc v1 v2 v3 v4 v3 170 o0 else (if v4 = (1 : Int32) then fM_maskAll_192 rc v1 v2 v3 v4 v3 204 o0 else fM_maskAll_192 rc v1 v2 v3 v4 v3 240 o0)) else (if v3 < 0 ∨ 210 ≤ v3.toNatClampNeg then none else op_k (o0.2.1 91 v3.toNatClampNeg) (fun x_11 => fM_maskAll_192 rc v1 v2 v3 v4 v3 x_11 o0))))))))))
noncomputable def fM_maskAll_123 (rc : Nat → Int32 → Int32 → Int32 → Int32 → cf_O → Option (cf_O)) (v1 : Int32) (v2 : Int32) (v3 : Int32) (o0 : cf_O) : Option (cf_O) :=
  rc 1 v1 v2 v3 0 o0
noncomputable def fM_maskAll_109 (rc : Nat → Int32 → Int32 → Int32 → Int32 → cf_O → Option (cf_O)) (v1 : Int32) (v2 : Int32) (v3 : Int32) (v4 : Int32) (s0 : Int32) (s1 : Int32) (o0 : cf_O) : Option (cf_O) :=
  op_k (s0 ^^^ s1) (fun x_1 => op_k (v4 &&& x_1) (fun x_2 => (if v3 < 0 ∨ 210 ≤ v3.toNatClampNeg then none else op_k (xp o0 91 v3.toNatClampNeg x_2) (fun o_4 => fM_maskAll_123 rc v1 v2 v3 o_4))))
noncomputable def fM_maskAll_64 (rc : Nat → Int32 → Int32 → Int32 → Int32 → cf_O → Option (cf_O)) (v1 : Int32) (v2 : Int32) (v3 : Int32) (s0 : Int32) (s1 : Int32) (o0 : cf_O) : Option (cf_O) :=
  op_k (s0 ^^^ s1) (fun x_1 => Option.bind (fM_base o0) (fun q_2 => op_k (v3 - q_2) (fun x_5 => (if x_5 < 0 ∨ 201 ≤ x_5.toNatClampNeg then none else op_k (o0.2.1 45 x_5.toNatClampNeg) (fun x_7 => op_k (x_7 / 2) (fun x_8 => (if x_8 < 0 ∨ 210 ≤ x_8.toNatClampNeg then none else op_k (o0.2.1 91 x_8.toNatClampNeg) (fun x_10 => Option.bind (fM_base o0) (fun q_11 => op_k (v3 - q_11) (fun x_14 => (if x_14 < 0 ∨ 201 ≤ x_14.toNatClampNeg then none else op_k (o0.2.1 45 x_14.toNatClampNeg) (fun x_16 => op_k (x_16 - x_16 / 2 * 2) (fun x_17 => (if x_17 = (1 : Int32) then fM_maskAll_109 rc v1 v2 v3 x_1 x_10 255 o0 else fM_maskAll_109 rc v1 v2 v3 x_1 x_10 0 o0))))))))))))))
noncomputable def fM_maskAll_2 (rc : Nat → Int32 → Int32 → Int32 → Int32 → cf_O → Option (cf_O)) (v1 : Int32) (v2 : Int32) (v3 : Int32) (o0 : cf_O) : Option (cf_O) :=
  (if v1 < v3 then some o0 else (if v3 < 0 ∨ 210 ≤ v3.toNatClampNeg then none else op_k (xp o0 91 v3.toNatClampNeg 0) (fun o_3 => Option.bind (fM_base o_3) (fun q_4 => (if v3 < q_4 then fM_maskAll_123 rc v1 v2 v3 o_3 else Option.bind (fM_base o_3) (fun q_8 => op_k (v3 - q_8) (fun x_11 => (if x_11 < 0 ∨ 201 ≤ x_11.toNatClampNeg then none else op_k (o_3.2.1 44 x_11.toNatClampNeg) (fun x_13 => op_k (x_13 / 2) (fun x_14 => (if x_14 < 0 ∨ 210 ≤ x_14.toNatClampNeg then none else op_k (o_3.2.1 91 x_14.toNatClampNeg) (fun x_16 => Option.bind (fM_base o_3) (fun q_17 => op_k (v3 - q_17) (fun x_20 => (if x_20 < 0 ∨ 201 ≤ x_20.toNatClampNeg then none else op_k (o_3.2.1 44 x_20.toNatClampNeg) (fun x_22 => op_k (x_22 - x_22 / 2 * 2) (fun x_23 => (if x_23 = (1 : Int32) then fM_maskAll_64 rc v1 v2 v3 x_16 255 o_3 else fM_maskAll_64 rc v1 v2 v3 x_16 0 o_3))))))))))))))))))
noncomputable def fM_maskAll_0 (rc : Nat → Int32 → Int32 → Int32 → Int32 → cf_O → Option (cf_O)) (v1 : Int32) (v2 : Int32) (o0 : cf_O) : Option (cf_O) :=
  rc 0 v1 v2 0 0 o0
noncomputable def gM_maskAll (n : Nat) : Nat → Int32 → Int32 → Int32 → Int32 → cf_O → Option (cf_O) := Nat.rec (motive := fun _ => Nat → Int32 → Int32 → Int32 → Int32 → cf_O → Option (cf_O)) (fun _ _ _ _ _ _ => none) (fun _ rc => fun k u1i u2i u3i u4i o0 => Nat.rec (motive := fun _ => Option (cf_O)) (fM_maskAll_2 rc u1i u2i u3i o0) (fun k _ => Nat.rec (motive := fun _ => Option (cf_O)) (fM_maskAll_126 rc u1i u2i u3i u4i o0) (fun k _ => none) k) k) n
noncomputable def fM_maskAll (v1 : Int32) (v2 : Int32) (o0 : cf_O) : Option (cf_O) := fM_maskAll_0 (gM_maskAll cfFU) v1 v2 o0
noncomputable def fM_literalMask_22 (s0 : Int32) (s1 : Int32) (o0 : cf_O) : Option (Int32) :=
  op_k (s0 ^^^ s1) (fun x_1 => some x_1)
noncomputable def fM_literalMask_0 (v1 : Int32) (o0 : cf_O) : Option (Int32) :=
  op_k (v1 / 2) (fun x_1 => (if x_1 < 0 ∨ 210 ≤ x_1.toNatClampNeg then none else op_k (o0.2.1 91 x_1.toNatClampNeg) (fun x_3 => op_k (v1 - v1 / 2 * 2) (fun x_4 => (if x_4 = (1 : Int32) then fM_literalMask_22 x_3 255 o0 else fM_literalMask_22 x_3 0 o0)))))
noncomputable def fM_literalMask (v1 : Int32) (o0 : cf_O) : Option (Int32) := fM_literalMask_0 v1 o0
noncomputable def fM_gives_102 (rc : Nat → Int32 → Int32 → Int32 → Int32 → Int32 → Int32 → Int32 → cf_O → Option (Int32)) (v1 : Int32) (v2 : Int32) (v3 : Int32) (v5 : Int32) (s0 : Int32) (o0 : cf_O) : Option (Int32) :=
  op_k (v5 + 1) (fun x_1 => rc 0 v1 v2 v3 s0 x_1 0 0 o0)
noncomputable def fM_gives_101 (rc : Nat → Int32 → Int32 → Int32 → Int32 → Int32 → Int32 → Int32 → cf_O → Option (Int32)) (v1 : Int32) (v2 : Int32) (v3 : Int32) (v5 : Int32) (o0 : cf_O) : Option (Int32) :=
  fM_gives_102 rc v1 v2 v3 v5 0 o0
noncomputable def fM_gives_26 (rc : Nat → Int32 → Int32 → Int32 → Int32 → Int32 → Int32 → Int32 → cf_O → Option (Int32)) (v1 : Int32) (v2 : Int32) (v3 : Int32) (v4 : Int32) (v5 : Int32) (v6 : Int32) (v7 : Int32) (o0 : cf_O) : Option (Int32) :=
  (if v2 ≤ v7 then (if v4 = (0 : Int32) then fM_gives_101 rc v1 v2 v3 v5 o0 else op_k (4 * v3) (fun x_3 => op_k (x_3 + 3) (fun x_4 => (if x_4 < 0 ∨ 48 ≤ x_4.toNatClampNeg then none else op_k (o0.2.1 84 x_4.toNatClampNeg) (fun x_6 => op_k (x_6 >>> (v6 &&& 31)) (fun x_7 => op_k (x_7 &&& 1) (fun x_8 => Option.bind (fM_literalMask v1 o0) (fun q_9 => op_k (q_9 >>> (v5 &&& 31)) (fun x_12 => op_k (x_12 &&& 1) (fun x_13 => (if x_8 = x_13 then fM_gives_102 rc v1 v2 v3 v5 1 o0 else fM_gives_101 rc v1 v2 v3 v5 o0))))))))))) else op_k (2 + v7) (fun x_15 => (if x_15 < 0 ∨ 5 ≤ x_15.toNatClampNeg then none else op_k (o0.2.1 90 x_15.toNatClampNeg) (fun x_17 => Option.bind (fM_literalMask x_17 o0) (fun q_18 => op_k (q_18 >>> (v5 &&& 31)) (fun x_21 => op_k (x_21 &&& 1) (fun x_22 => op_k (x_22 <<< (v7 &&& 31)) (fun x_23 => op_k (v6 ||| x_23) (fun x_24 => op_k (v7 + 1) (fun x_25 => rc 1 v1 v2 v3 v4 v5 x_24 x_25 o0))))))))))
noncomputable def fM_gives_13 (rc : Nat → Int32 → Int32 → Int32 → Int32 → Int32 → Int32 → Int32 → cf_O → Option (Int32)) (v1 : Int32) (v2 : Int32) (v3 : Int32) (v4 : Int32) (v5 : Int32) (o0 : cf_O) : Option (Int32) :=
  (if (8 : Int32) ≤ v5 then (if ¬ (v4 = 0 ∨ v4 = 1) then none else some v4) else rc 1 v1 v2 v3 v4 v5 0 0 o0)
noncomputable def fM_gives_0 (rc : Nat → Int32 → Int32 → Int32 → Int32 → Int32 → Int32 → Int32 → cf_O → Option (Int32)) (v1 : Int32) (v2 : Int32) (o0 : cf_O) : Option (Int32) :=
  (if (1 : Int32) < 0 ∨ 5 ≤ (1 : Int32).toNatClampNeg then none else op_k (o0.2.1 90 (1 : Int32).toNatClampNeg) (fun x_2 => rc 0 v1 v2 x_2 1 0 0 0 o0))
noncomputable def gM_gives (n : Nat) : Nat → Int32 → Int32 → Int32 → Int32 → Int32 → Int32 → Int32 → cf_O → Option (Int32) := Nat.rec (motive := fun _ => Nat → Int32 → Int32 → Int32 → Int32 → Int32 → Int32 → Int32 → cf_O → Option (Int32)) (fun _ _ _ _ _ _ _ _ _ => none) (fun _ rc => fun k u1i u2i u3i u4i u5i u6i u7i o0 => Nat.rec (motive := fun _ => Option (Int32)) (fM_gives_13 rc u1i u2i u3i u4i u5i o0) (fun k _ => Nat.rec (motive := fun _ => Option (Int32)) (fM_gives_26 rc u1i u2i u3i u4i u5i u6i u7i o0) (fun k _ => none) k) k) n
noncomputable def fM_gives (v1 : Int32) (v2 : Int32) (o0 : cf_O) : Option (Int32) := fM_gives_0 (gM_gives cfFU) v1 v2 o0
noncomputable def fM_against_M90_M89_84 (rc : Nat → Int32 → Int32 → Int32 → Int32 → cf_O → Option (Int32)) (v5 : Int32) (o0 : cf_O) : Option (Int32) :=
  some v5
noncomputable def fM_against_M90_M89_51 (rc : Nat → Int32 → Int32 → Int32 → Int32 → cf_O → Option (Int32)) (v2 : Int32) (v4 : Int32) (v5 : Int32) (v6 : Int32) (o0 : cf_O) : Option (Int32) :=
  (if (5 : Int32) ≤ v6 then fM_against_M90_M89_84 rc v5 o0 else (if v5 = (0 : Int32) then op_k (v2 + v6) (fun x_3 => (if x_3 < 0 ∨ 5 ≤ x_3.toNatClampNeg then none else op_k (o0.2.1 90 x_3.toNatClampNeg) (fun x_5 => op_k (v4 + v6) (fun x_6 => (if x_6 < 0 ∨ 2100 ≤ x_6.toNatClampNeg then none else op_k (o0.2.1 89 x_6.toNatClampNeg) (fun x_8 => op_k (x_5 - x_8) (fun x_9 => op_k (v6 + 1) (fun x_10 => rc 0 v2 v4 x_9 x_10 o0)))))))) else fM_against_M90_M89_84 rc v5 o0))
noncomputable def fM_against_M90_M89_46 (rc : Nat → Int32 → Int32 → Int32 → Int32 → cf_O → Option (Int32)) (v2 : Int32) (v4 : Int32) (s0 : Int32) (o0 : cf_O) : Option (Int32) :=
  rc 0 v2 v4 s0 1 o0
noncomputable def fM_against_M90_M89_0 (rc : Nat → Int32 → Int32 → Int32 → Int32 → cf_O → Option (Int32)) (v2 : Int32) (v4 : Int32) (o0 : cf_O) : Option (Int32) :=
  (if v2 < 0 ∨ 5 ≤ v2.toNatClampNeg then none else op_k (o0.2.1 90 v2.toNatClampNeg) (fun x_2 => (if v4 < 0 ∨ 2100 ≤ v4.toNatClampNeg then none else op_k (o0.2.1 89 v4.toNatClampNeg) (fun x_4 => op_k (x_2 - x_4) (fun x_5 => (if x_5 = (0 : Int32) then op_k (v2 + 1) (fun x_7 => (if x_7 < 0 ∨ 5 ≤ x_7.toNatClampNeg then none else op_k (o0.2.1 90 x_7.toNatClampNeg) (fun x_9 => op_k (4 * x_9) (fun x_10 => (if x_10 < 0 ∨ 48 ≤ x_10.toNatClampNeg then none else op_k (o0.2.1 84 x_10.toNatClampNeg) (fun x_12 => op_k (v4 + 1) (fun x_13 => (if x_13 < 0 ∨ 2100 ≤ x_13.toNatClampNeg then none else op_k (o0.2.1 89 x_13.toNatClampNeg) (fun x_15 => op_k (4 * x_15) (fun x_16 => (if x_16 < 0 ∨ 48 ≤ x_16.toNatClampNeg then none else op_k (o0.2.1 84 x_16.toNatClampNeg) (fun x_18 => op_k (x_12 - x_18) (fun x_19 => fM_against_M90_M89_46 rc v2 v4 x_19 o0))))))))))))) else fM_against_M90_M89_46 rc v2 v4 x_5 o0))))))
noncomputable def gM_against_M90_M89 (n : Nat) : Nat → Int32 → Int32 → Int32 → Int32 → cf_O → Option (Int32) := Nat.rec (motive := fun _ => Nat → Int32 → Int32 → Int32 → Int32 → cf_O → Option (Int32)) (fun _ _ _ _ _ _ => none) (fun _ rc => fun k u2i u4i u5i u6i o0 => Nat.rec (motive := fun _ => Option (Int32)) (fM_against_M90_M89_51 rc u2i u4i u5i u6i o0) (fun k _ => none) k) n
noncomputable def fM_against_M90_M89 (v2 : Int32) (v4 : Int32) (o0 : cf_O) : Option (Int32) := fM_against_M90_M89_0 (gM_against_M90_M89 cfFU) v2 v4 o0
noncomputable def fM_keepMatch_M89_2 (rc : Nat → Int32 → Int32 → cf_O → Option (cf_O)) (v2 : Int32) (v3 : Int32) (o0 : cf_O) : Option (cf_O) :=
  (if (5 : Int32) ≤ v3 then some o0 else op_k (v2 + v3) (fun x_2 => (if v3 < 0 ∨ 5 ≤ v3.toNatClampNeg then none else op_k (o0.2.1 90 v3.toNatClampNeg) (fun x_4 => (if x_2 < 0 ∨ 2100 ≤ x_2.toNatClampNeg then none else op_k (xp o0 89 x_2.toNatClampNeg x_4) (fun o_6 => op_k (v3 + 1) (fun x_7 => rc 0 v2 x_7 o_6)))))))
noncomputable def fM_keepMatch_M89_0 (rc : Nat → Int32 → Int32 → cf_O → Option (cf_O)) (v2 : Int32) (o0 : cf_O) : Option (cf_O) :=
  rc 0 v2 0 o0
noncomputable def gM_keepMatch_M89 (n : Nat) : Nat → Int32 → Int32 → cf_O → Option (cf_O) := Nat.rec (motive := fun _ => Nat → Int32 → Int32 → cf_O → Option (cf_O)) (fun _ _ _ _ => none) (fun _ rc => fun k u2i u3i o0 => Nat.rec (motive := fun _ => Option (cf_O)) (fM_keepMatch_M89_2 rc u2i u3i o0) (fun k _ => none) k) n
noncomputable def fM_keepMatch_M89 (v2 : Int32) (o0 : cf_O) : Option (cf_O) := fM_keepMatch_M89_0 (gM_keepMatch_M89 cfFU) v2 o0
noncomputable def fM_tryMatch_138 (rc : Nat → Int32 → Int32 → Int32 → Int32 → cf_O → Option (cf_O)) (o0 : cf_O) : Option (cf_O) :=
  some o0
noncomputable def fM_tryMatch_120 (rc : Nat → Int32 → Int32 → Int32 → Int32 → cf_O → Option (cf_O)) (v1 : Int32) (o0 : cf_O) : Option (cf_O) :=
  (if v1 < 0 ∨ 420 ≤ v1.toNatClampNeg then none else op_k (xp o0 88 v1.toNatClampNeg (vp_nar .boolean 1)) (fun o_2 => op_k (5 * v1) (fun x_3 => Option.bind (fM_keepMatch_M89 x_3 o_2) (fun q_4 => fM_tryMatch_138 rc q_4))))
noncomputable def fM_tryMatch_53 (rc : Nat → Int32 → Int32 → Int32 → Int32 → cf_O → Option (cf_O)) (v1 : Int32) (v2 : Int32) (v4 : Int32) (s0 : Int32) (o0 : cf_O) : Option (cf_O) :=
  op_k (v4 + 1) (fun x_1 => rc 0 v1 v2 s0 x_1 o0)
noncomputable def fM_tryMatch_5 (rc : Nat → Int32 → Int32 → Int32 → Int32 → cf_O → Option (cf_O)) (v1 : Int32) (v2 : Int32) (v3 : Int32) (v4 : Int32) (o0 : cf_O) : Option (cf_O) :=
  (if v2 ≤ v4 then (if (1 : Int32) < 0 ∨ 5 ≤ (1 : Int32).toNatClampNeg then none else op_k (o0.2.1 90 (1 : Int32).toNatClampNeg) (fun x_3 => op_k (4 * x_3) (fun x_4 => op_k (x_4 + 1) (fun x_5 => (if x_5 < 0 ∨ 48 ≤ x_5.toNatClampNeg then none else op_k (o0.2.1 84 x_5.toNatClampNeg) (fun x_7 => op_k (v3 + x_7) (fun x_8 => (if (0 : Int32) < 0 ∨ 5 ≤ (0 : Int32).toNatClampNeg then none else op_k (xp o0 90 (0 : Int32).toNatClampNeg x_8) (fun o_10 => Option.bind (fM_gives v1 v2 o_10) (fun q_11 => (if q_11 = (0 : Int32) then fM_tryMatch_138 rc o_10 else (if v1 < 0 ∨ 420 ≤ v1.toNatClampNeg then none else op_k (o_10.2.1 88 v1.toNatClampNeg) (fun x_16 => (if x_16 = (0 : Int32) then fM_tryMatch_120 rc v1 o_10 else op_k (5 * v1) (fun x_18 => Option.bind (fM_against_M90_M89 0 x_18 o_10) (fun q_19 => (if (0 : Int32) ≤ q_19 then fM_tryMatch_138 rc o_10 else fM_tryMatch_120 rc v1 o_10))))))))))))))))) else op_k (2 + v4) (fun x_23 => (if x_23 < 0 ∨ 5 ≤ x_23.toNatClampNeg then none else op_k (o0.2.1 90 x_23.toNatClampNeg) (fun x_25 => (if x_25 < 0 ∨ 420 ≤ x_25.toNatClampNeg then none else op_k (o0.2.1 86 x_25.toNatClampNeg) (fun x_27 => (if x_27 = (0 : Int32) then some o0 else Option.bind (fM_timeOf x_25 o0) (fun q_29 => (if q_29 ≤ v3 then fM_tryMatch_53 rc v1 v2 v4 v3 o0 else Option.bind (fM_timeOf x_25 o0) (fun q_33 => fM_tryMatch_53 rc v1 v2 v4 q_33 o0))))))))))
noncomputable def fM_tryMatch_0 (rc : Nat → Int32 → Int32 → Int32 → Int32 → cf_O → Option (cf_O)) (v1 : Int32) (v2 : Int32) (o0 : cf_O) : Option (cf_O) :=
  rc 0 v1 v2 0 0 o0
noncomputable def gM_tryMatch (n : Nat) : Nat → Int32 → Int32 → Int32 → Int32 → cf_O → Option (cf_O) := Nat.rec (motive := fun _ => Nat → Int32 → Int32 → Int32 → Int32 → cf_O → Option (cf_O)) (fun _ _ _ _ _ _ => none) (fun _ rc => fun k u1i u2i u3i u4i o0 => Nat.rec (motive := fun _ => Option (cf_O)) (fM_tryMatch_5 rc u1i u2i u3i u4i o0) (fun k _ => none) k) n
noncomputable def fM_tryMatch (v1 : Int32) (v2 : Int32) (o0 : cf_O) : Option (cf_O) := fM_tryMatch_0 (gM_tryMatch cfFU) v1 v2 o0
noncomputable def fM_tryCell_215 (rc : Nat → Int32 → Int32 → Int32 → Int32 → Int32 → Int32 → Int32 → Int32 → Int32 → cf_O → Option (cf_O)) (v1 : Int32) (v2 : Int32) (v4 : Int32) (v5 : Int32) (v6 : Int32) (o0 : cf_O) : Option (cf_O) :=
  op_k (v6 + 1) (fun x_1 => rc 0 v1 v2 v4 v5 x_1 0 0 0 0 o0)
noncomputable def fM_tryCell_182 (rc : Nat → Int32 → Int32 → Int32 → Int32 → Int32 → Int32 → Int32 → Int32 → Int32 → cf_O → Option (cf_O)) (v1 : Int32) (v2 : Int32) (v4 : Int32) (v5 : Int32) (v6 : Int32) (v9 : Int32) (v10 : Int32) (v11 : Int32) (s1 : Int32) (s2 : Int32) (o0 : cf_O) : Option (cf_O) :=
  (if s1 < 0 ∨ 5 ≤ s1.toNatClampNeg then none else op_k (xp o0 90 s1.toNatClampNeg s2) (fun o_2 => op_k (v11 + 1) (fun x_3 => rc 3 v1 v2 v4 v5 v6 0 v9 v10 x_3 o_2)))
noncomputable def fM_tryCell_133 (rc : Nat → Int32 → Int32 → Int32 → Int32 → Int32 → Int32 → Int32 → Int32 → Int32 → cf_O → Option (cf_O)) (v1 : Int32) (v2 : Int32) (v4 : Int32) (v5 : Int32) (v6 : Int32) (v9 : Int32) (v10 : Int32) (v11 : Int32) (o0 : cf_O) : Option (cf_O) :=
  (if (3 : Int32) ≤ v11 then op_k (2 * v1) (fun x_2 => Option.bind (fM_tryMatch x_2 v4 o0) (fun q_3 => op_k (2 * v1) (fun x_5 => op_k (x_5 + 1) (fun x_6 => Option.bind (fM_tryMatch x_6 v4 q_3) (fun q_7 => op_k (v10 + 1) (fun x_9 => rc 2 v1 v2 v4 v5 v6 0 v9 x_9 0 q_7)))))) else op_k (2 + v11) (fun x_10 => (if v4 ≤ v11 then fM_tryCell_182 rc v1 v2 v4 v5 v6 v9 v10 v11 x_10 (-1) o0 else op_k (5 * v2) (fun x_12 => (if v11 < 0 ∨ 3 ≤ v11.toNatClampNeg then none else op_k (o0.2.1 98 v11.toNatClampNeg) (fun x_14 => op_k (x_12 + x_14) (fun x_15 => (if x_15 < 0 ∨ 316050 ≤ x_15.toNatClampNeg then none else op_k (o0.2.1 58 x_15.toNatClampNeg) (fun x_17 => op_k (2 * x_17) (fun x_18 => op_k (v10 >>> (v11 &&& 31)) (fun x_19 => op_k (x_19 &&& 1) (fun x_20 => op_k (x_18 + x_20) (fun x_21 => fM_tryCell_182 rc v1 v2 v4 v5 v6 v9 v10 v11 x_10 x_21 o0)))))))))))))
noncomputable def fM_tryCell_110 (rc : Nat → Int32 → Int32 → Int32 → Int32 → Int32 → Int32 → Int32 → Int32 → Int32 → cf_O → Option (cf_O)) (v1 : Int32) (v2 : Int32) (v4 : Int32) (v5 : Int32) (v6 : Int32) (v9 : Int32) (v10 : Int32) (o0 : cf_O) : Option (cf_O) :=
  op_k ((1 : Int32) <<< (v4 &&& 31)) (fun x_1 => (if x_1 ≤ v10 then fM_tryCell_215 rc v1 v2 v4 v5 v6 o0 else op_k ((1 : Int32) <<< (v4 &&& 31)) (fun x_3 => op_k (x_3 - 1) (fun x_4 => (if v9 = x_4 then rc 3 v1 v2 v4 v5 v6 0 v9 v10 0 o0 else fM_tryCell_215 rc v1 v2 v4 v5 v6 o0)))))
noncomputable def fM_tryCell_65 (rc : Nat → Int32 → Int32 → Int32 → Int32 → Int32 → Int32 → Int32 → Int32 → Int32 → cf_O → Option (cf_O)) (v1 : Int32) (v2 : Int32) (v4 : Int32) (v5 : Int32) (v6 : Int32) (v8 : Int32) (v9 : Int32) (v10 : Int32) (o0 : cf_O) : Option (cf_O) :=
  (if v4 ≤ v10 then rc 2 v1 v2 v4 v5 v6 0 v9 0 0 o0 else (if v4 = 0 then none else op_k (v8 - v8 / v4 * v4) (fun x_3 => (if v10 < 0 ∨ 3 ≤ v10.toNatClampNeg then none else op_k (xp o0 98 v10.toNatClampNeg x_3) (fun o_5 => (if v4 = 0 then none else op_k (v8 / v4) (fun x_7 => (if v10 < 0 ∨ 3 ≤ v10.toNatClampNeg then none else op_k (o_5.2.1 98 v10.toNatClampNeg) (fun x_9 => op_k ((1 : Int32) <<< (x_9 &&& 31)) (fun x_10 => op_k (v9 ||| x_10) (fun x_11 => op_k (v10 + 1) (fun x_12 => rc 1 v1 v2 v4 v5 v6 x_7 x_11 x_12 0 o_5))))))))))))
noncomputable def fM_tryCell_42 (rc : Nat → Int32 → Int32 → Int32 → Int32 → Int32 → Int32 → Int32 → Int32 → Int32 → cf_O → Option (cf_O)) (v1 : Int32) (v2 : Int32) (v4 : Int32) (v5 : Int32) (v6 : Int32) (o0 : cf_O) : Option (cf_O) :=
  (if v5 ≤ v6 then some o0 else rc 1 v1 v2 v4 v5 v6 v6 0 0 0 o0)
noncomputable def fM_tryCell_30 (rc : Nat → Int32 → Int32 → Int32 → Int32 → Int32 → Int32 → Int32 → Int32 → Int32 → cf_O → Option (cf_O)) (v1 : Int32) (v2 : Int32) (v3 : Int32) (v4 : Int32) (s0 : Int32) (o0 : cf_O) : Option (cf_O) :=
  (if (1 : Int32) < 0 ∨ 5 ≤ (1 : Int32).toNatClampNeg then none else op_k (xp o0 90 (1 : Int32).toNatClampNeg v3) (fun o_2 => rc 0 v1 v2 v4 s0 0 0 0 0 0 o_2))
noncomputable def fM_tryCell_0 (rc : Nat → Int32 → Int32 → Int32 → Int32 → Int32 → Int32 → Int32 → Int32 → Int32 → cf_O → Option (cf_O)) (v1 : Int32) (v2 : Int32) (v3 : Int32) (o0 : cf_O) : Option (cf_O) :=
  (if v2 < 0 ∨ 63210 ≤ v2.toNatClampNeg then none else op_k (o0.2.1 59 v2.toNatClampNeg) (fun x_2 => (if x_2 = (1 : Int32) then fM_tryCell_30 rc v1 v2 v3 x_2 1 o0 else (if x_2 = (2 : Int32) then fM_tryCell_30 rc v1 v2 v3 x_2 4 o0 else fM_tryCell_30 rc v1 v2 v3 x_2 27 o0))))
noncomputable def gM_tryCell (n : Nat) : Nat → Int32 → Int32 → Int32 → Int32 → Int32 → Int32 → Int32 → Int32 → Int32 → cf_O → Option (cf_O) := Nat.rec (motive := fun _ => Nat → Int32 → Int32 → Int32 → Int32 → Int32 → Int32 → Int32 → Int32 → Int32 → cf_O → Option (cf_O)) (fun _ _ _ _ _ _ _ _ _ _ _ => none) (fun _ rc => fun k u1i u2i u4i u5i u6i u8i u9i u10i u11i o0 => Nat.rec (motive := fun _ => Option (cf_O)) (fM_tryCell_42 rc u1i u2i u4i u5i u6i o0) (fun k _ => Nat.rec (motive := fun _ => Option (cf_O)) (fM_tryCell_65 rc u1i u2i u4i u5i u6i u8i u9i u10i o0) (fun k _ => Nat.rec (motive := fun _ => Option (cf_O)) (fM_tryCell_110 rc u1i u2i u4i u5i u6i u9i u10i o0) (fun k _ => Nat.rec (motive := fun _ => Option (cf_O)) (fM_tryCell_133 rc u1i u2i u4i u5i u6i u9i u10i u11i o0) (fun k _ => none) k) k) k) k) n
noncomputable def fM_tryCell (v1 : Int32) (v2 : Int32) (v3 : Int32) (o0 : cf_O) : Option (cf_O) := fM_tryCell_0 (gM_tryCell cfFU) v1 v2 v3 o0
noncomputable def fM_plainMatches_64 (rc : Nat → Int32 → Int32 → Int32 → cf_O → Option (cf_O)) (v1 : Int32) (v2 : Int32) (v3 : Int32) (o0 : cf_O) : Option (cf_O) :=
  op_k (v3 + 1) (fun x_1 => rc 1 v1 v2 x_1 o0)
noncomputable def fM_plainMatches_30 (rc : Nat → Int32 → Int32 → Int32 → cf_O → Option (cf_O)) (v1 : Int32) (v2 : Int32) (v3 : Int32) (o0 : cf_O) : Option (cf_O) :=
  (if (o0.1 82) ≤ v3 then op_k (v2 + 1) (fun x_2 => rc 0 v1 x_2 0 o0) else op_k (4 * v3) (fun x_3 => op_k (x_3 + 2) (fun x_4 => (if x_4 < 0 ∨ 48 ≤ x_4.toNatClampNeg then none else op_k (o0.2.1 84 x_4.toNatClampNeg) (fun x_6 => (if v2 < 0 ∨ 63210 ≤ v2.toNatClampNeg then none else op_k (o0.2.1 59 v2.toNatClampNeg) (fun x_8 => (if x_6 = x_8 then Option.bind (fM_tryCell v1 v2 v3 o0) (fun q_10 => fM_plainMatches_64 rc v1 v2 v3 q_10) else fM_plainMatches_64 rc v1 v2 v3 o0))))))))
noncomputable def fM_plainMatches_6 (rc : Nat → Int32 → Int32 → Int32 → cf_O → Option (cf_O)) (v1 : Int32) (v2 : Int32) (o0 : cf_O) : Option (cf_O) :=
  op_k (301 * v1) (fun x_1 => (if v1 < 0 ∨ 210 ≤ v1.toNatClampNeg then none else op_k (o0.2.1 57 v1.toNatClampNeg) (fun x_3 => op_k (x_1 + x_3) (fun x_4 => (if x_4 ≤ v2 then some o0 else Option.bind (fM_maskAll v1 v2 o0) (fun q_6 => rc 1 v1 v2 0 q_6))))))
noncomputable def fM_plainMatches_0 (rc : Nat → Int32 → Int32 → Int32 → cf_O → Option (cf_O)) (v1 : Int32) (o0 : cf_O) : Option (cf_O) :=
  op_k (301 * v1) (fun x_1 => rc 0 v1 x_1 0 o0)
noncomputable def gM_plainMatches (n : Nat) : Nat → Int32 → Int32 → Int32 → cf_O → Option (cf_O) := Nat.rec (motive := fun _ => Nat → Int32 → Int32 → Int32 → cf_O → Option (cf_O)) (fun _ _ _ _ _ => none) (fun _ rc => fun k u1i u2i u3i o0 => Nat.rec (motive := fun _ => Option (cf_O)) (fM_plainMatches_6 rc u1i u2i o0) (fun k _ => Nat.rec (motive := fun _ => Option (cf_O)) (fM_plainMatches_30 rc u1i u2i u3i o0) (fun k _ => none) k) k) n
noncomputable def fM_plainMatches (v1 : Int32) (o0 : cf_O) : Option (cf_O) := fM_plainMatches_0 (gM_plainMatches cfFU) v1 o0
noncomputable def fM_keepMatch_M87_2 (rc : Nat → Int32 → Int32 → cf_O → Option (cf_O)) (v2 : Int32) (v3 : Int32) (o0 : cf_O) : Option (cf_O) :=
  (if (5 : Int32) ≤ v3 then some o0 else op_k (v2 + v3) (fun x_2 => (if v3 < 0 ∨ 5 ≤ v3.toNatClampNeg then none else op_k (o0.2.1 90 v3.toNatClampNeg) (fun x_4 => (if x_2 < 0 ∨ 2100 ≤ x_2.toNatClampNeg then none else op_k (xp o0 87 x_2.toNatClampNeg x_4) (fun o_6 => op_k (v3 + 1) (fun x_7 => rc 0 v2 x_7 o_6)))))))
noncomputable def fM_keepMatch_M87_0 (rc : Nat → Int32 → Int32 → cf_O → Option (cf_O)) (v2 : Int32) (o0 : cf_O) : Option (cf_O) :=
  rc 0 v2 0 o0
noncomputable def gM_keepMatch_M87 (n : Nat) : Nat → Int32 → Int32 → cf_O → Option (cf_O) := Nat.rec (motive := fun _ => Nat → Int32 → Int32 → cf_O → Option (cf_O)) (fun _ _ _ _ => none) (fun _ rc => fun k u2i u3i o0 => Nat.rec (motive := fun _ => Option (cf_O)) (fM_keepMatch_M87_2 rc u2i u3i o0) (fun k _ => none) k) n
noncomputable def fM_keepMatch_M87 (v2 : Int32) (o0 : cf_O) : Option (cf_O) := fM_keepMatch_M87_0 (gM_keepMatch_M87 cfFU) v2 o0
noncomputable def fM_make_308 (rc : Nat → Int32 → Int32 → Int32 → Int32 → Int32 → cf_O → Option (cf_O)) (o0 : cf_O) : Option (cf_O) :=
  some o0
noncomputable def fM_make_302 (rc : Nat → Int32 → Int32 → Int32 → Int32 → Int32 → cf_O → Option (cf_O)) (v1 : Int32) (v3 : Int32) (v4 : Int32) (v5 : Int32) (o0 : cf_O) : Option (cf_O) :=
  op_k (v5 + 1) (fun x_1 => rc 1 v1 0 v3 v4 x_1 o0)
noncomputable def fM_make_239 (rc : Nat → Int32 → Int32 → Int32 → Int32 → Int32 → cf_O → Option (cf_O)) (v1 : Int32) (v3 : Int32) (v4 : Int32) (v5 : Int32) (v6 : Int32) (v7 : Int32) (s0 : Int32) (o0 : cf_O) : Option (cf_O) :=
  (if s0 = (0 : Int32) then fM_make_302 rc v1 v3 v4 v5 o0 else (if v1 < 0 ∨ 420 ≤ v1.toNatClampNeg then none else op_k (xp o0 86 v1.toNatClampNeg (vp_nar .boolean 1)) (fun o_3 => (if (0 : Int32) < 0 ∨ 5 ≤ (0 : Int32).toNatClampNeg then none else op_k (xp o_3 90 (0 : Int32).toNatClampNeg v6) (fun o_5 => (if (1 : Int32) < 0 ∨ 5 ≤ (1 : Int32).toNatClampNeg then none else op_k (xp o_5 90 (1 : Int32).toNatClampNeg v5) (fun o_7 => op_k (v1 ^^^ 1) (fun x_8 => (if (2 : Int32) < 0 ∨ 5 ≤ (2 : Int32).toNatClampNeg then none else op_k (xp o_7 90 (2 : Int32).toNatClampNeg x_8) (fun o_10 => (if (3 : Int32) < 0 ∨ 5 ≤ (3 : Int32).toNatClampNeg then none else op_k (xp o_10 90 (3 : Int32).toNatClampNeg (-1)) (fun o_12 => (if (4 : Int32) < 0 ∨ 5 ≤ (4 : Int32).toNatClampNeg then none else op_k (xp o_12 90 (4 : Int32).toNatClampNeg (-1)) (fun o_14 => Option.bind (fM_keepMatch_M87 v7 o_14) (fun q_15 => fM_make_302 rc v1 v3 v4 v5 q_15)))))))))))))))
noncomputable def fM_make_238 (rc : Nat → Int32 → Int32 → Int32 → Int32 → Int32 → cf_O → Option (cf_O)) (v1 : Int32) (v3 : Int32) (v4 : Int32) (v5 : Int32) (v6 : Int32) (v7 : Int32) (o0 : cf_O) : Option (cf_O) :=
  fM_make_239 rc v1 v3 v4 v5 v6 v7 0 o0
noncomputable def fM_make_234 (rc : Nat → Int32 → Int32 → Int32 → Int32 → Int32 → cf_O → Option (cf_O)) (v1 : Int32) (v3 : Int32) (v4 : Int32) (v5 : Int32) (v6 : Int32) (v7 : Int32) (o0 : cf_O) : Option (cf_O) :=
  fM_make_239 rc v1 v3 v4 v5 v6 v7 1 o0
noncomputable def fM_make_106 (rc : Nat → Int32 → Int32 → Int32 → Int32 → Int32 → cf_O → Option (cf_O)) (v1 : Int32) (v3 : Int32) (v4 : Int32) (v5 : Int32) (o0 : cf_O) : Option (cf_O) :=
  (if (o0.1 82) ≤ v5 then fM_make_308 rc o0 else (if v3 = (0 : Int32) then fM_make_308 rc o0 else op_k (4 * v5) (fun x_3 => op_k (x_3 + 2) (fun x_4 => (if x_4 < 0 ∨ 48 ≤ x_4.toNatClampNeg then none else op_k (o0.2.1 84 x_4.toNatClampNeg) (fun x_6 => (if x_6 = (1 : Int32) then op_k (4 * v5) (fun x_8 => op_k (x_8 + 3) (fun x_9 => (if x_9 < 0 ∨ 48 ≤ x_9.toNatClampNeg then none else op_k (o0.2.1 84 x_9.toNatClampNeg) (fun x_11 => (if x_11 = (1 : Int32) then op_k (4 * v5) (fun x_13 => op_k (x_13 + 1) (fun x_14 => (if x_14 < 0 ∨ 48 ≤ x_14.toNatClampNeg then none else op_k (o0.2.1 84 x_14.toNatClampNeg) (fun x_16 => op_k (v4 + x_16) (fun x_17 => op_k (5 * v1) (fun x_18 => (if v1 < 0 ∨ 420 ≤ v1.toNatClampNeg then none else op_k (o0.2.1 86 v1.toNatClampNeg) (fun x_20 => (if x_20 = (0 : Int32) then fM_make_234 rc v1 v3 v4 v5 x_17 x_18 o0 else (if x_18 < 0 ∨ 2100 ≤ x_18.toNatClampNeg then none else op_k (o0.2.1 87 x_18.toNatClampNeg) (fun x_23 => (if x_17 < x_23 then fM_make_234 rc v1 v3 v4 v5 x_17 x_18 o0 else (if x_18 < 0 ∨ 2100 ≤ x_18.toNatClampNeg then none else op_k (o0.2.1 87 x_18.toNatClampNeg) (fun x_26 => (if x_17 = x_26 then op_k (4 * v5) (fun x_28 => (if x_28 < 0 ∨ 48 ≤ x_28.toNatClampNeg then none else op_k (o0.2.1 84 x_28.toNatClampNeg) (fun x_30 => op_k (x_18 + 1) (fun x_31 => (if x_31 < 0 ∨ 2100 ≤ x_31.toNatClampNeg then none else op_k (o0.2.1 87 x_31.toNatClampNeg) (fun x_33 => op_k (4 * x_33) (fun x_34 => (if x_34 < 0 ∨ 48 ≤ x_34.toNatClampNeg then none else op_k (o0.2.1 84 x_34.toNatClampNeg) (fun x_36 => (if x_36 ≤ x_30 then fM_make_238 rc v1 v3 v4 v5 x_17 x_18 o0 else fM_make_234 rc v1 v3 v4 v5 x_17 x_18 o0)))))))))) else fM_make_238 rc v1 v3 v4 v5 x_17 x_18 o0))))))))))))))) else fM_make_302 rc v1 v3 v4 v5 o0))))) else fM_make_302 rc v1 v3 v4 v5 o0)))))))
noncomputable def fM_make_101 (rc : Nat → Int32 → Int32 → Int32 → Int32 → Int32 → cf_O → Option (cf_O)) (v1 : Int32) (v3 : Int32) (s0 : Int32) (o0 : cf_O) : Option (cf_O) :=
  rc 1 v1 0 v3 s0 0 o0
noncomputable def fM_make_82 (rc : Nat → Int32 → Int32 → Int32 → Int32 → Int32 → cf_O → Option (cf_O)) (v1 : Int32) (v2 : Int32) (s0 : Int32) (o0 : cf_O) : Option (cf_O) :=
  (if v2 = (0 : Int32) then op_k (v1 ^^^ 1) (fun x_2 => op_k (5 * x_2) (fun x_3 => (if x_3 < 0 ∨ 2100 ≤ x_3.toNatClampNeg then none else op_k (o0.2.1 89 x_3.toNatClampNeg) (fun x_5 => fM_make_101 rc v1 s0 x_5 o0)))) else fM_make_101 rc v1 s0 0 o0)
noncomputable def fM_make_77 (rc : Nat → Int32 → Int32 → Int32 → Int32 → Int32 → cf_O → Option (cf_O)) (v1 : Int32) (v2 : Int32) (o0 : cf_O) : Option (cf_O) :=
  fM_make_82 rc v1 v2 1 o0
noncomputable def fM_make_54 (rc : Nat → Int32 → Int32 → Int32 → Int32 → Int32 → cf_O → Option (cf_O)) (v1 : Int32) (o0 : cf_O) : Option (cf_O) :=
  op_k (v1 ^^^ 1) (fun x_1 => Option.bind (fM_isGiven x_1 o0) (fun q_2 => (if q_2 = (0 : Int32) then op_k (v1 ^^^ 1) (fun x_6 => (if x_6 < 0 ∨ 420 ≤ x_6.toNatClampNeg then none else op_k (o0.2.1 88 x_6.toNatClampNeg) (fun x_8 => (if x_8 = (0 : Int32) then fM_make_82 rc v1 q_2 0 o0 else fM_make_77 rc v1 q_2 o0)))) else fM_make_77 rc v1 q_2 o0)))
noncomputable def fM_make_14 (rc : Nat → Int32 → Int32 → Int32 → Int32 → Int32 → cf_O → Option (cf_O)) (v1 : Int32) (v2 : Int32) (o0 : cf_O) : Option (cf_O) :=
  (if (5 : Int32) ≤ v2 then fM_make_54 rc v1 o0 else (if v1 < 0 ∨ 420 ≤ v1.toNatClampNeg then none else op_k (o0.2.1 86 v1.toNatClampNeg) (fun x_3 => (if x_3 = (0 : Int32) then fM_make_54 rc v1 o0 else op_k (5 * v1) (fun x_5 => op_k (x_5 + v2) (fun x_6 => op_k (5 * v1) (fun x_7 => op_k (x_7 + v2) (fun x_8 => (if x_8 < 0 ∨ 2100 ≤ x_8.toNatClampNeg then none else op_k (o0.2.1 89 x_8.toNatClampNeg) (fun x_10 => (if x_6 < 0 ∨ 2100 ≤ x_6.toNatClampNeg then none else op_k (xp o0 87 x_6.toNatClampNeg x_10) (fun o_12 => op_k (v2 + 1) (fun x_13 => rc 0 v1 x_13 0 0 0 o_12)))))))))))))
noncomputable def fM_make_0 (rc : Nat → Int32 → Int32 → Int32 → Int32 → Int32 → cf_O → Option (cf_O)) (v1 : Int32) (o0 : cf_O) : Option (cf_O) :=
  (if v1 < 0 ∨ 420 ≤ v1.toNatClampNeg then none else op_k (o0.2.1 88 v1.toNatClampNeg) (fun x_2 => (if v1 < 0 ∨ 420 ≤ v1.toNatClampNeg then none else op_k (xp o0 86 v1.toNatClampNeg (vp_nar .boolean x_2)) (fun o_4 => rc 0 v1 0 0 0 0 o_4))))
noncomputable def gM_make (n : Nat) : Nat → Int32 → Int32 → Int32 → Int32 → Int32 → cf_O → Option (cf_O) := Nat.rec (motive := fun _ => Nat → Int32 → Int32 → Int32 → Int32 → Int32 → cf_O → Option (cf_O)) (fun _ _ _ _ _ _ _ => none) (fun _ rc => fun k u1i u2i u3i u4i u5i o0 => Nat.rec (motive := fun _ => Option (cf_O)) (fM_make_14 rc u1i u2i o0) (fun k _ => Nat.rec (motive := fun _ => Option (cf_O)) (fM_make_106 rc u1i u3i u4i u5i o0) (fun k _ => none) k) k) n
noncomputable def fM_make (v1 : Int32) (o0 : cf_O) : Option (cf_O) := fM_make_0 (gM_make cfFU) v1 o0
noncomputable def fM_makeAll_63 (rc : Nat → Int32 → cf_O → Option (cf_O)) (v1 : Int32) (o0 : cf_O) : Option (cf_O) :=
  Option.bind (fM_base o0) (fun q_1 => op_k (q_1 + (o0.1 43)) (fun x_4 => (if x_4 ≤ v1 then some o0 else Option.bind (fM_plainMatches v1 o0) (fun q_6 => op_k (2 * v1) (fun x_8 => Option.bind (fM_make x_8 q_6) (fun q_9 => op_k (2 * v1) (fun x_11 => op_k (x_11 + 1) (fun x_12 => Option.bind (fM_make x_12 q_9) (fun q_13 => op_k (v1 + 1) (fun x_15 => rc 2 x_15 q_13))))))))))
noncomputable def fM_makeAll_35 (rc : Nat → Int32 → cf_O → Option (cf_O)) (v1 : Int32) (o0 : cf_O) : Option (cf_O) :=
  Option.bind (fM_base o0) (fun q_1 => (if q_1 ≤ v1 then Option.bind (fM_base o0) (fun q_5 => rc 2 q_5 o0) else op_k (2 * v1) (fun x_8 => op_k (x_8 + 1) (fun x_9 => Option.bind (fM_make x_9 o0) (fun q_10 => op_k (v1 + 1) (fun x_12 => rc 1 x_12 q_10))))))
noncomputable def fM_makeAll_2 (rc : Nat → Int32 → cf_O → Option (cf_O)) (v1 : Int32) (o0 : cf_O) : Option (cf_O) :=
  (if (420 : Int32) ≤ v1 then rc 1 1 o0 else Option.bind (fM_isGiven v1 o0) (fun q_2 => (if v1 < 0 ∨ 420 ≤ v1.toNatClampNeg then none else op_k (xp o0 86 v1.toNatClampNeg (vp_nar .boolean q_2)) (fun o_6 => (if v1 < 0 ∨ 420 ≤ v1.toNatClampNeg then none else op_k (xp o_6 88 v1.toNatClampNeg (vp_nar .boolean 0)) (fun o_8 => op_k (v1 + 1) (fun x_9 => rc 0 x_9 o_8)))))))
noncomputable def fM_makeAll_0 (rc : Nat → Int32 → cf_O → Option (cf_O)) (o0 : cf_O) : Option (cf_O) :=
  rc 0 0 o0
noncomputable def gM_makeAll (n : Nat) : Nat → Int32 → cf_O → Option (cf_O) := Nat.rec (motive := fun _ => Nat → Int32 → cf_O → Option (cf_O)) (fun _ _ _ => none) (fun _ rc => fun k u1i o0 => Nat.rec (motive := fun _ => Option (cf_O)) (fM_makeAll_2 rc u1i o0) (fun k _ => Nat.rec (motive := fun _ => Option (cf_O)) (fM_makeAll_35 rc u1i o0) (fun k _ => Nat.rec (motive := fun _ => Option (cf_O)) (fM_makeAll_63 rc u1i o0) (fun k _ => none) k) k) k) n
noncomputable def fM_makeAll (o0 : cf_O) : Option (cf_O) := fM_makeAll_0 (gM_makeAll cfFU) o0
noncomputable def fM_isWanted_18 (s0 : Int32) (o0 : cf_O) : Option (Int32) :=
  (if ¬ (s0 = 0 ∨ s0 = 1) then none else some s0)
noncomputable def fM_isWanted_17 (o0 : cf_O) : Option (Int32) :=
  fM_isWanted_18 0 o0
noncomputable def fM_isWanted_0 (v1 : Int32) (o0 : cf_O) : Option (Int32) :=
  (if v1 ≤ (1 : Int32) then fM_isWanted_17 o0 else Option.bind (fM_isGiven v1 o0) (fun q_2 => (if q_2 = (0 : Int32) then fM_isWanted_18 1 o0 else fM_isWanted_17 o0)))
noncomputable def fM_isWanted (v1 : Int32) (o0 : cf_O) : Option (Int32) := fM_isWanted_0 v1 o0
noncomputable def fM_markAll_209 (rc : Nat → Int32 → Int32 → Int32 → Int32 → cf_O → Option (Int32 × cf_O)) (v1 : Int32) (v2 : Int32) (v3 : Int32) (o0 : cf_O) : Option (Int32 × cf_O) :=
  op_k (v3 + (-1)) (fun x_1 => rc 3 v1 v2 x_1 0 o0)
noncomputable def fM_markAll_203 (rc : Nat → Int32 → Int32 → Int32 → Int32 → cf_O → Option (Int32 × cf_O)) (v1 : Int32) (v2 : Int32) (v3 : Int32) (v4 : Int32) (o0 : cf_O) : Option (Int32 × cf_O) :=
  op_k (v4 + 1) (fun x_1 => rc 4 v1 v2 v3 x_1 o0)
noncomputable def fM_markAll_139 (rc : Nat → Int32 → Int32 → Int32 → Int32 → cf_O → Option (Int32 × cf_O)) (v1 : Int32) (v2 : Int32) (v3 : Int32) (v4 : Int32) (o0 : cf_O) : Option (Int32 × cf_O) :=
  (if (3 : Int32) ≤ v4 then fM_markAll_209 rc v1 v2 v3 o0 else (if v3 < 0 ∨ 420 ≤ v3.toNatClampNeg then none else op_k (o0.2.1 92 v3.toNatClampNeg) (fun x_3 => (if x_3 = (0 : Int32) then fM_markAll_209 rc v1 v2 v3 o0 else op_k (5 * v3) (fun x_5 => op_k (x_5 + 2) (fun x_6 => op_k (x_6 + v4) (fun x_7 => (if x_7 < 0 ∨ 2100 ≤ x_7.toNatClampNeg then none else op_k (o0.2.1 87 x_7.toNatClampNeg) (fun x_9 => (if x_9 < (0 : Int32) then fM_markAll_203 rc v1 v2 v3 v4 o0 else Option.bind (fM_isWanted x_9 o0) (fun q_11 => (if q_11 = (0 : Int32) then fM_markAll_203 rc v1 v2 v3 v4 o0 else (if x_9 < 0 ∨ 420 ≤ x_9.toNatClampNeg then none else op_k (o0.2.1 92 x_9.toNatClampNeg) (fun x_16 => (if x_16 = (0 : Int32) then (if x_9 < 0 ∨ 420 ≤ x_9.toNatClampNeg then none else op_k (xp o0 92 x_9.toNatClampNeg (vp_nar .boolean 1)) (fun o_19 => fM_markAll_203 rc v1 1 v3 v4 o_19)) else fM_markAll_203 rc v1 v2 v3 v4 o0)))))))))))))))
noncomputable def fM_markAll_132 (rc : Nat → Int32 → Int32 → Int32 → Int32 → cf_O → Option (Int32 × cf_O)) (v1 : Int32) (v2 : Int32) (v3 : Int32) (o0 : cf_O) : Option (Int32 × cf_O) :=
  (if v3 < (0 : Int32) then rc 2 v1 v2 0 0 o0 else rc 4 v1 v2 v3 0 o0)
noncomputable def fM_markAll_122 (rc : Nat → Int32 → Int32 → Int32 → Int32 → cf_O → Option (Int32 × cf_O)) (v1 : Int32) (v2 : Int32) (o0 : cf_O) : Option (Int32 × cf_O) :=
  (if v2 = (0 : Int32) then (if ¬ (v1 = 0 ∨ v1 = 1) then none else some (v1, o0)) else rc 3 v1 0 419 0 o0)
noncomputable def fM_markAll_113 (rc : Nat → Int32 → Int32 → Int32 → Int32 → cf_O → Option (Int32 × cf_O)) (v2 : Int32) (s0 : Int32) (o0 : cf_O) : Option (Int32 × cf_O) :=
  op_k (v2 + 1) (fun x_1 => rc 1 s0 x_1 0 0 o0)
noncomputable def fM_markAll_112 (rc : Nat → Int32 → Int32 → Int32 → Int32 → cf_O → Option (Int32 × cf_O)) (v2 : Int32) (o0 : cf_O) : Option (Int32 × cf_O) :=
  fM_markAll_113 rc v2 0 o0
noncomputable def fM_markAll_108 (rc : Nat → Int32 → Int32 → Int32 → Int32 → cf_O → Option (Int32 × cf_O)) (v2 : Int32) (o0 : cf_O) : Option (Int32 × cf_O) :=
  fM_markAll_113 rc v2 1 o0
noncomputable def fM_markAll_76 (rc : Nat → Int32 → Int32 → Int32 → Int32 → cf_O → Option (Int32 × cf_O)) (v1 : Int32) (v2 : Int32) (s1 : Int32) (s2 : Int32) (o0 : cf_O) : Option (Int32 × cf_O) :=
  (if s1 < 0 ∨ 420 ≤ s1.toNatClampNeg then none else op_k (xp o0 92 s1.toNatClampNeg (vp_nar .boolean s2)) (fun o_2 => (if v1 = (0 : Int32) then fM_markAll_112 rc v2 o_2 else (if v2 < 0 ∨ 6 ≤ v2.toNatClampNeg then none else op_k (o_2.2.1 47 v2.toNatClampNeg) (fun x_5 => Option.bind (fM_isWanted x_5 o_2) (fun q_6 => (if q_6 = (0 : Int32) then fM_markAll_108 rc v2 o_2 else (if v2 < 0 ∨ 6 ≤ v2.toNatClampNeg then none else op_k (o_2.2.1 47 v2.toNatClampNeg) (fun x_11 => (if x_11 < 0 ∨ 420 ≤ x_11.toNatClampNeg then none else op_k (o_2.2.1 86 x_11.toNatClampNeg) (fun x_13 => (if x_13 = (0 : Int32) then fM_markAll_112 rc v2 o_2 else fM_markAll_108 rc v2 o_2))))))))))))
noncomputable def fM_markAll_71 (rc : Nat → Int32 → Int32 → Int32 → Int32 → cf_O → Option (Int32 × cf_O)) (v1 : Int32) (v2 : Int32) (s1 : Int32) (o0 : cf_O) : Option (Int32 × cf_O) :=
  fM_markAll_76 rc v1 v2 s1 1 o0
noncomputable def fM_markAll_26 (rc : Nat → Int32 → Int32 → Int32 → Int32 → cf_O → Option (Int32 × cf_O)) (v1 : Int32) (v2 : Int32) (o0 : cf_O) : Option (Int32 × cf_O) :=
  (if (o0.1 40) ≤ v2 then rc 2 v1 v1 0 0 o0 else (if v2 < 0 ∨ 6 ≤ v2.toNatClampNeg then none else op_k (o0.2.1 47 v2.toNatClampNeg) (fun x_3 => (if v2 < 0 ∨ 6 ≤ v2.toNatClampNeg then none else op_k (o0.2.1 47 v2.toNatClampNeg) (fun x_5 => (if x_5 < 0 ∨ 420 ≤ x_5.toNatClampNeg then none else op_k (o0.2.1 92 x_5.toNatClampNeg) (fun x_7 => (if x_7 = (0 : Int32) then (if v2 < 0 ∨ 6 ≤ v2.toNatClampNeg then none else op_k (o0.2.1 47 v2.toNatClampNeg) (fun x_10 => Option.bind (fM_isWanted x_10 o0) (fun q_11 => (if q_11 = (0 : Int32) then fM_markAll_76 rc v1 v2 x_3 0 o0 else fM_markAll_71 rc v1 v2 x_3 o0)))) else fM_markAll_71 rc v1 v2 x_3 o0))))))))
noncomputable def fM_markAll_2 (rc : Nat → Int32 → Int32 → Int32 → Int32 → cf_O → Option (Int32 × cf_O)) (v1 : Int32) (o0 : cf_O) : Option (Int32 × cf_O) :=
  (if (420 : Int32) ≤ v1 then rc 1 1 0 0 0 o0 else (if v1 < 0 ∨ 420 ≤ v1.toNatClampNeg then none else op_k (xp o0 92 v1.toNatClampNeg (vp_nar .boolean 0)) (fun o_3 => op_k (v1 + 1) (fun x_4 => rc 0 x_4 0 0 0 o_3))))
noncomputable def fM_markAll_0 (rc : Nat → Int32 → Int32 → Int32 → Int32 → cf_O → Option (Int32 × cf_O)) (o0 : cf_O) : Option (Int32 × cf_O) :=
  rc 0 0 0 0 0 o0
noncomputable def gM_markAll (n : Nat) : Nat → Int32 → Int32 → Int32 → Int32 → cf_O → Option (Int32 × cf_O) := Nat.rec (motive := fun _ => Nat → Int32 → Int32 → Int32 → Int32 → cf_O → Option (Int32 × cf_O)) (fun _ _ _ _ _ _ => none) (fun _ rc => fun k u1i u2i u3i u4i o0 => Nat.rec (motive := fun _ => Option (Int32 × cf_O)) (fM_markAll_2 rc u1i o0) (fun k _ => Nat.rec (motive := fun _ => Option (Int32 × cf_O)) (fM_markAll_26 rc u1i u2i o0) (fun k _ => Nat.rec (motive := fun _ => Option (Int32 × cf_O)) (fM_markAll_122 rc u1i u2i o0) (fun k _ => Nat.rec (motive := fun _ => Option (Int32 × cf_O)) (fM_markAll_132 rc u1i u2i u3i o0) (fun k _ => Nat.rec (motive := fun _ => Option (Int32 × cf_O)) (fM_markAll_139 rc u1i u2i u3i u4i o0) (fun k _ => none) k) k) k) k) k) n
noncomputable def fM_markAll (o0 : cf_O) : Option (Int32 × cf_O) := fM_markAll_0 (gM_markAll cfFU) o0
noncomputable def fM_name_M83_39 (rc : Nat → Int32 → Int32 → cf_O → Option (cf_O)) (v2 : Int32) (v3 : Int32) (o0 : cf_O) : Option (cf_O) :=
  op_k (v3 + 1) (fun x_1 => rc 0 v2 x_1 o0)
noncomputable def fM_name_M83_9 (rc : Nat → Int32 → Int32 → cf_O → Option (cf_O)) (v2 : Int32) (v3 : Int32) (o0 : cf_O) : Option (cf_O) :=
  (if (8 : Int32) ≤ v3 then some o0 else op_k (8 * v2) (fun x_2 => op_k (x_2 + v3) (fun x_3 => (if x_3 < 0 ∨ 96 ≤ x_3.toNatClampNeg then none else op_k (o0.2.1 83 x_3.toNatClampNeg) (fun x_5 => (if x_5 ≤ (0 : Int32) then fM_name_M83_39 rc v2 v3 o0 else op_k (8 * v2) (fun x_7 => op_k (x_7 + v3) (fun x_8 => (if x_8 < 0 ∨ 96 ≤ x_8.toNatClampNeg then none else op_k (o0.2.1 83 x_8.toNatClampNeg) (fun x_10 => op_k (x_10.toInt64) (fun x_11 => Option.bind (fM_emit x_11 o0) (fun q_12 => fM_name_M83_39 rc v2 v3 q_12))))))))))))
noncomputable def fM_name_M83_0 (rc : Nat → Int32 → Int32 → cf_O → Option (cf_O)) (v2 : Int32) (o0 : cf_O) : Option (cf_O) :=
  Option.bind (fM_emit 32 o0) (fun q_1 => rc 0 v2 0 q_1)
noncomputable def gM_name_M83 (n : Nat) : Nat → Int32 → Int32 → cf_O → Option (cf_O) := Nat.rec (motive := fun _ => Nat → Int32 → Int32 → cf_O → Option (cf_O)) (fun _ _ _ _ => none) (fun _ rc => fun k u2i u3i o0 => Nat.rec (motive := fun _ => Option (cf_O)) (fM_name_M83_9 rc u2i u3i o0) (fun k _ => none) k) n
noncomputable def fM_name_M83 (v2 : Int32) (o0 : cf_O) : Option (cf_O) := fM_name_M83_0 (gM_name_M83 cfFU) v2 o0
noncomputable def fM_literalName_65 (rc : Nat → Int32 → Int32 → cf_O → Option (cf_O)) (v1 : Int32) (v2 : Int32) (o0 : cf_O) : Option (cf_O) :=
  op_k (v2 / 10) (fun x_1 => rc 0 v1 x_1 o0)
noncomputable def fM_literalName_38 (rc : Nat → Int32 → Int32 → cf_O → Option (cf_O)) (v1 : Int32) (v2 : Int32) (o0 : cf_O) : Option (cf_O) :=
  (if v2 ≤ (0 : Int32) then some o0 else op_k (v1 / 2) (fun x_2 => (if x_2 < v2 then fM_literalName_65 rc v1 v2 o0 else op_k (v1 / 2) (fun x_4 => (if v2 = 0 then none else op_k (x_4 / v2) (fun x_6 => op_k (x_6 - x_6 / 10 * 10) (fun x_7 => op_k (48 + x_7) (fun x_8 => op_k (x_8.toInt64) (fun x_9 => Option.bind (fM_emit x_9 o0) (fun q_10 => fM_literalName_65 rc v1 v2 q_10))))))))))
noncomputable def fM_literalName_0 (rc : Nat → Int32 → Int32 → cf_O → Option (cf_O)) (v1 : Int32) (o0 : cf_O) : Option (cf_O) :=
  op_k (v1 - v1 / 2 * 2) (fun x_1 => (if x_1 = (0 : Int32) then op_k (v1 / 2) (fun x_9 => Option.bind (fM_nodeName x_9 o0) (fun q_10 => some q_10)) else Option.bind (fM_emit 32 o0) (fun q_3 => Option.bind (fM_emit 109 q_3) (fun q_5 => Option.bind (fM_emit 95 q_5) (fun q_7 => rc 0 v1 100 q_7)))))
noncomputable def gM_literalName (n : Nat) : Nat → Int32 → Int32 → cf_O → Option (cf_O) := Nat.rec (motive := fun _ => Nat → Int32 → Int32 → cf_O → Option (cf_O)) (fun _ _ _ _ => none) (fun _ rc => fun k u1i u2i o0 => Nat.rec (motive := fun _ => Option (cf_O)) (fM_literalName_38 rc u1i u2i o0) (fun k _ => none) k) n
noncomputable def fM_literalName (v1 : Int32) (o0 : cf_O) : Option (cf_O) := fM_literalName_0 (gM_literalName cfFU) v1 o0
noncomputable def fM_writeInstance_57 (rc : Nat → Int32 → Int32 → Int32 → cf_O → Option (cf_O)) (v1 : Int32) (v2 : Int32) (v3 : Int32) (o0 : cf_O) : Option (cf_O) :=
  op_k (4 * v2) (fun x_1 => op_k (x_1 + 2) (fun x_2 => (if x_2 < 0 ∨ 48 ≤ x_2.toNatClampNeg then none else op_k (o0.2.1 84 x_2.toNatClampNeg) (fun x_4 => (if x_4 ≤ v3 then Option.bind (fM_literalName v1 o0) (fun q_6 => Option.bind (fM_emit 10 q_6) (fun q_8 => some q_8)) else op_k (5 * v1) (fun x_10 => op_k (x_10 + 2) (fun x_11 => op_k (x_11 + v3) (fun x_12 => (if x_12 < 0 ∨ 2100 ≤ x_12.toNatClampNeg then none else op_k (o0.2.1 87 x_12.toNatClampNeg) (fun x_14 => Option.bind (fM_literalName x_14 o0) (fun q_15 => op_k (v3 + 1) (fun x_17 => rc 0 v1 v2 x_17 q_15))))))))))))
noncomputable def fM_writeInstance_0 (rc : Nat → Int32 → Int32 → Int32 → cf_O → Option (cf_O)) (v1 : Int32) (o0 : cf_O) : Option (cf_O) :=
  op_k (5 * v1) (fun x_1 => op_k (x_1 + 1) (fun x_2 => (if x_2 < 0 ∨ 2100 ≤ x_2.toNatClampNeg then none else op_k (o0.2.1 87 x_2.toNatClampNeg) (fun x_4 => Option.bind (fM_emit 46 o0) (fun q_5 => Option.bind (fM_emit 103 q_5) (fun q_7 => Option.bind (fM_emit 97 q_7) (fun q_9 => Option.bind (fM_emit 116 q_9) (fun q_11 => Option.bind (fM_emit 101 q_11) (fun q_13 => Option.bind (fM_name_M83 x_4 q_13) (fun q_15 => rc 0 v1 x_4 0 q_15))))))))))
noncomputable def gM_writeInstance (n : Nat) : Nat → Int32 → Int32 → Int32 → cf_O → Option (cf_O) := Nat.rec (motive := fun _ => Nat → Int32 → Int32 → Int32 → cf_O → Option (cf_O)) (fun _ _ _ _ _ => none) (fun _ rc => fun k u1i u2i u3i o0 => Nat.rec (motive := fun _ => Option (cf_O)) (fM_writeInstance_57 rc u1i u2i u3i o0) (fun k _ => none) k) n
noncomputable def fM_writeInstance (v1 : Int32) (o0 : cf_O) : Option (cf_O) := fM_writeInstance_0 (gM_writeInstance cfFU) v1 o0
noncomputable def fM_writeMap_203 (rc : Nat → Int32 → cf_O → Option (cf_O)) (v1 : Int32) (o0 : cf_O) : Option (cf_O) :=
  op_k (v1 + 1) (fun x_1 => rc 3 x_1 o0)
noncomputable def fM_writeMap_180 (rc : Nat → Int32 → cf_O → Option (cf_O)) (v1 : Int32) (o0 : cf_O) : Option (cf_O) :=
  (if v1 < 0 ∨ 6 ≤ v1.toNatClampNeg then none else op_k (o0.2.1 47 v1.toNatClampNeg) (fun x_2 => (if x_2 ≤ (0 : Int32) then fM_writeMap_203 rc v1 o0 else Option.bind (fM_emit 49 o0) (fun q_4 => Option.bind (fM_emit 10 q_4) (fun q_6 => fM_writeMap_203 rc v1 q_6)))))
noncomputable def fM_writeMap_140 (rc : Nat → Int32 → cf_O → Option (cf_O)) (v1 : Int32) (o0 : cf_O) : Option (cf_O) :=
  Option.bind (fM_name_M42 v1 o0) (fun q_1 => Option.bind (fM_emit 10 q_1) (fun q_3 => (if v1 < 0 ∨ 6 ≤ v1.toNatClampNeg then none else op_k (q_3.2.1 47 v1.toNatClampNeg) (fun x_6 => (if x_6 ≤ (1 : Int32) then fM_writeMap_180 rc v1 q_3 else Option.bind (fM_emit 49 q_3) (fun q_8 => Option.bind (fM_emit 32 q_8) (fun q_10 => fM_writeMap_180 rc v1 q_10)))))))
noncomputable def fM_writeMap_107 (rc : Nat → Int32 → cf_O → Option (cf_O)) (v1 : Int32) (o0 : cf_O) : Option (cf_O) :=
  (if (o0.1 40) ≤ v1 then Option.bind (fM_word 3 o0) (fun q_2 => Option.bind (fM_emit 10 q_2) (fun q_4 => some q_4)) else Option.bind (fM_word 2 o0) (fun q_6 => (if v1 < 0 ∨ 6 ≤ v1.toNatClampNeg then none else op_k (q_6.2.1 47 v1.toNatClampNeg) (fun x_9 => (if x_9 ≤ (1 : Int32) then fM_writeMap_140 rc v1 q_6 else (if v1 < 0 ∨ 6 ≤ v1.toNatClampNeg then none else op_k (q_6.2.1 47 v1.toNatClampNeg) (fun x_12 => Option.bind (fM_literalName x_12 q_6) (fun q_13 => fM_writeMap_140 rc v1 q_13))))))))
noncomputable def fM_writeMap_81 (rc : Nat → Int32 → cf_O → Option (cf_O)) (v1 : Int32) (o0 : cf_O) : Option (cf_O) :=
  (if (o0.1 93) ≤ v1 then rc 3 0 o0 else (if v1 < 0 ∨ 420 ≤ v1.toNatClampNeg then none else op_k (o0.2.1 94 v1.toNatClampNeg) (fun x_3 => Option.bind (fM_writeInstance x_3 o0) (fun q_4 => op_k (v1 + 1) (fun x_6 => rc 2 x_6 q_4)))))
noncomputable def fM_writeMap_49 (rc : Nat → Int32 → cf_O → Option (cf_O)) (v1 : Int32) (o0 : cf_O) : Option (cf_O) :=
  (if (o0.1 40) ≤ v1 then Option.bind (fM_emit 10 o0) (fun q_2 => rc 2 0 q_2) else Option.bind (fM_name_M42 v1 o0) (fun q_4 => op_k (v1 + 1) (fun x_6 => rc 1 x_6 q_4)))
noncomputable def fM_writeMap_12 (rc : Nat → Int32 → cf_O → Option (cf_O)) (v1 : Int32) (o0 : cf_O) : Option (cf_O) :=
  (if (o0.1 39) ≤ v1 then Option.bind (fM_emit 10 o0) (fun q_2 => Option.bind (fM_word 1 q_2) (fun q_4 => rc 1 0 q_4)) else Option.bind (fM_name_M41 v1 o0) (fun q_6 => op_k (v1 + 1) (fun x_8 => rc 0 x_8 q_6)))
noncomputable def fM_writeMap_0 (rc : Nat → Int32 → cf_O → Option (cf_O)) (o0 : cf_O) : Option (cf_O) :=
  op_k (fp o0 96 0) (fun o_1 => Option.bind (fM_word 0 o_1) (fun q_2 => rc 0 0 q_2))
noncomputable def gM_writeMap (n : Nat) : Nat → Int32 → cf_O → Option (cf_O) := Nat.rec (motive := fun _ => Nat → Int32 → cf_O → Option (cf_O)) (fun _ _ _ => none) (fun _ rc => fun k u1i o0 => Nat.rec (motive := fun _ => Option (cf_O)) (fM_writeMap_12 rc u1i o0) (fun k _ => Nat.rec (motive := fun _ => Option (cf_O)) (fM_writeMap_49 rc u1i o0) (fun k _ => Nat.rec (motive := fun _ => Option (cf_O)) (fM_writeMap_81 rc u1i o0) (fun k _ => Nat.rec (motive := fun _ => Option (cf_O)) (fM_writeMap_107 rc u1i o0) (fun k _ => none) k) k) k) k) n
noncomputable def fM_writeMap (o0 : cf_O) : Option (cf_O) := fM_writeMap_0 (gM_writeMap cfFU) o0
noncomputable def fM_map_122 (rc : Nat → Int32 → cf_O → Option (Int32 × cf_O)) (v2 : Int32) (o0 : cf_O) : Option (Int32 × cf_O) :=
  op_k (v2 + 1) (fun x_1 => rc 0 x_1 o0)
noncomputable def fM_map_86 (rc : Nat → Int32 → cf_O → Option (Int32 × cf_O)) (v2 : Int32) (o0 : cf_O) : Option (Int32 × cf_O) :=
  (if (420 : Int32) ≤ v2 then op_k (fp o0 95 1) (fun o_2 => Option.bind (fM_writeMap o_2) (fun q_3 => op_k (fp q_3 95 0) (fun o_5 => some (o_5.1 93, o_5)))) else (if v2 < 0 ∨ 420 ≤ v2.toNatClampNeg then none else op_k (o0.2.1 92 v2.toNatClampNeg) (fun x_7 => (if x_7 = (0 : Int32) then fM_map_122 rc v2 o0 else (if (o0.1 93) < 0 ∨ 420 ≤ (o0.1 93).toNatClampNeg then none else op_k (xp o0 94 (o0.1 93).toNatClampNeg v2) (fun o_10 => op_k ((o_10.1 93) + 1) (fun x_11 => op_k (fp o_10 93 x_11) (fun o_12 => fM_map_122 rc v2 o_12))))))))
noncomputable def fM_map_19 (rc : Nat → Int32 → cf_O → Option (Int32 × cf_O)) (s0 : Int32) (o0 : cf_O) : Option (Int32 × cf_O) :=
  Option.bind (fM_refuse s0 0 0 o0) (fun q_1 => (if q_1.1 = (0 : Int32) then Option.bind (fM_cutAll 3 q_1.2) (fun q_5 => (if q_5.1 = (0 : Int32) then Option.bind (fM_again q_5.2) (fun q_20 => Option.bind (fM_refuse 0 1 0 q_20) (fun q_22 => some ((0 : Int32), q_22.2))) else Option.bind (fM_makeAll q_5.2) (fun q_9 => Option.bind (fM_markAll q_9) (fun q_11 => (if ¬ (q_11.1 = 0 ∨ q_11.1 = 1) then none else op_k (fp q_11.2 85 q_11.1) (fun o_15 => Option.bind (fM_again o_15) (fun q_16 => (if (q_16.1 85) = (0 : Int32) then some (((-1) : Int32), q_16) else op_k (fp q_16 93 0) (fun o_19 => rc 0 0 o_19))))))))) else some ((0 : Int32), q_1.2)))
noncomputable def fM_map_14 (rc : Nat → Int32 → cf_O → Option (Int32 × cf_O)) (o0 : cf_O) : Option (Int32 × cf_O) :=
  fM_map_19 rc 1 o0
noncomputable def fM_map_0 (rc : Nat → Int32 → cf_O → Option (Int32 × cf_O)) (o0 : cf_O) : Option (Int32 × cf_O) :=
  (if (o0.1 38) = (0 : Int32) then fM_map_14 rc o0 else (if (o0.1 78) = (0 : Int32) then fM_map_14 rc o0 else fM_map_19 rc 0 o0))
noncomputable def gM_map (n : Nat) : Nat → Int32 → cf_O → Option (Int32 × cf_O) := Nat.rec (motive := fun _ => Nat → Int32 → cf_O → Option (Int32 × cf_O)) (fun _ _ _ => none) (fun _ rc => fun k u2i o0 => Nat.rec (motive := fun _ => Option (Int32 × cf_O)) (fM_map_86 rc u2i o0) (fun k _ => none) k) n
noncomputable def fM_map (o0 : cf_O) : Option (Int32 × cf_O) := fM_map_0 (gM_map cfFU) o0
noncomputable def fM_mapped_161 (rc : Nat → Int32 → Int32 → Int32 → Int32 → cf_O → Option (Int32 × cf_O)) (s0 : Int32) (o0 : cf_O) : Option (Int32 × cf_O) :=
  some (s0, o0)
noncomputable def fM_mapped_133 (rc : Nat → Int32 → Int32 → Int32 → Int32 → cf_O → Option (Int32 × cf_O)) (v1 : Int32) (v2 : Int32) (v4 : Int32) (s0 : Int32) (o0 : cf_O) : Option (Int32 × cf_O) :=
  op_k (v4 + 1) (fun x_1 => rc 1 v1 v2 s0 x_1 o0)
noncomputable def fM_mapped_94 (rc : Nat → Int32 → Int32 → Int32 → Int32 → cf_O → Option (Int32 × cf_O)) (v1 : Int32) (v2 : Int32) (v3 : Int32) (v4 : Int32) (o0 : cf_O) : Option (Int32 × cf_O) :=
  (if (o0.1 40) ≤ v4 then (if v1 = (0 : Int32) then fM_mapped_161 rc (o0.1 93) o0 else (if v1 = (1 : Int32) then fM_mapped_161 rc v2 o0 else fM_mapped_161 rc v3 o0)) else (if v4 < 0 ∨ 6 ≤ v4.toNatClampNeg then none else op_k (o0.2.1 47 v4.toNatClampNeg) (fun x_5 => Option.bind (fM_timeOf x_5 o0) (fun q_6 => (if q_6 ≤ v3 then fM_mapped_133 rc v1 v2 v4 v3 o0 else (if v4 < 0 ∨ 6 ≤ v4.toNatClampNeg then none else op_k (o0.2.1 47 v4.toNatClampNeg) (fun x_11 => Option.bind (fM_timeOf x_11 o0) (fun q_12 => fM_mapped_133 rc v1 v2 v4 q_12 o0))))))))
noncomputable def fM_mapped_50 (rc : Nat → Int32 → Int32 → Int32 → Int32 → cf_O → Option (Int32 × cf_O)) (v1 : Int32) (v2 : Int32) (v3 : Int32) (v4 : Int32) (o0 : cf_O) : Option (Int32 × cf_O) :=
  (if (o0.1 93) ≤ v4 then rc 1 v1 v2 v3 0 o0 else (if v4 < 0 ∨ 420 ≤ v4.toNatClampNeg then none else op_k (o0.2.1 94 v4.toNatClampNeg) (fun x_3 => op_k (5 * x_3) (fun x_4 => op_k (x_4 + 1) (fun x_5 => (if x_5 < 0 ∨ 2100 ≤ x_5.toNatClampNeg then none else op_k (o0.2.1 87 x_5.toNatClampNeg) (fun x_7 => op_k (4 * x_7) (fun x_8 => (if x_8 < 0 ∨ 48 ≤ x_8.toNatClampNeg then none else op_k (o0.2.1 84 x_8.toNatClampNeg) (fun x_10 => op_k (v2 + x_10) (fun x_11 => op_k (v4 + 1) (fun x_12 => rc 0 v1 x_11 v3 x_12 o0))))))))))))
noncomputable def fM_mapped_34 (rc : Nat → Int32 → Int32 → Int32 → Int32 → cf_O → Option (Int32 × cf_O)) (v1 : Int32) (s1 : Int32) (s2 : Int32) (o0 : cf_O) : Option (Int32 × cf_O) :=
  Option.bind (fM_refuse s1 s2 0 o0) (fun q_1 => (if q_1.1 = (0 : Int32) then rc 0 v1 0 0 0 q_1.2 else some ((0 : Int32), q_1.2)))
noncomputable def fM_mapped_33 (rc : Nat → Int32 → Int32 → Int32 → Int32 → cf_O → Option (Int32 × cf_O)) (v1 : Int32) (s1 : Int32) (o0 : cf_O) : Option (Int32 × cf_O) :=
  fM_mapped_34 rc v1 s1 0 o0
noncomputable def fM_mapped_13 (rc : Nat → Int32 → Int32 → Int32 → Int32 → cf_O → Option (Int32 × cf_O)) (v1 : Int32) (s1 : Int32) (o0 : cf_O) : Option (Int32 × cf_O) :=
  (if (o0.1 85) = (0 : Int32) then fM_mapped_33 rc v1 s1 o0 else Option.bind (fM_in v1 0 2) (fun q_2 => (if q_2 = (0 : Int32) then fM_mapped_34 rc v1 s1 1 o0 else fM_mapped_33 rc v1 s1 o0)))
noncomputable def fM_mapped_0 (rc : Nat → Int32 → Int32 → Int32 → Int32 → cf_O → Option (Int32 × cf_O)) (v1 : Int32) (o0 : cf_O) : Option (Int32 × cf_O) :=
  (if (o0.1 85) = (0 : Int32) then fM_mapped_13 rc v1 1 o0 else fM_mapped_13 rc v1 0 o0)
noncomputable def gM_mapped (n : Nat) : Nat → Int32 → Int32 → Int32 → Int32 → cf_O → Option (Int32 × cf_O) := Nat.rec (motive := fun _ => Nat → Int32 → Int32 → Int32 → Int32 → cf_O → Option (Int32 × cf_O)) (fun _ _ _ _ _ _ => none) (fun _ rc => fun k u1i u2i u3i u4i o0 => Nat.rec (motive := fun _ => Option (Int32 × cf_O)) (fM_mapped_50 rc u1i u2i u3i u4i o0) (fun k _ => Nat.rec (motive := fun _ => Option (Int32 × cf_O)) (fM_mapped_94 rc u1i u2i u3i u4i o0) (fun k _ => none) k) k) n
noncomputable def fM_mapped (v1 : Int32) (o0 : cf_O) : Option (Int32 × cf_O) := fM_mapped_0 (gM_mapped cfFU) v1 o0
noncomputable def fM_instance_208 (s0 : Int32) (o0 : cf_O) : Option (Int32 × cf_O) :=
  some (s0, o0)
noncomputable def fM_instance_140 (v2 : Int32) (v4 : Int32) (s1 : Int32) (s2 : Int32) (s3 : Int32) (o0 : cf_O) : Option (Int32 × cf_O) :=
  Option.bind (fM_refuse s1 s2 s3 o0) (fun q_1 => (if q_1.1 = (0 : Int32) then (if v2 = (0 : Int32) then fM_instance_208 v4 q_1.2 else (if v2 = (1 : Int32) then op_k (5 * v4) (fun x_17 => op_k (x_17 + 1) (fun x_18 => (if x_18 < 0 ∨ 2100 ≤ x_18.toNatClampNeg then none else op_k (q_1.2.2.1 87 x_18.toNatClampNeg) (fun x_20 => fM_instance_208 x_20 q_1.2)))) else (if v2 = (2 : Int32) then op_k (5 * v4) (fun x_14 => (if x_14 < 0 ∨ 2100 ≤ x_14.toNatClampNeg then none else op_k (q_1.2.2.1 87 x_14.toNatClampNeg) (fun x_16 => fM_instance_208 x_16 q_1.2))) else op_k (5 * v4) (fun x_8 => op_k (x_8 + 2) (fun x_9 => op_k (x_9 + v2) (fun x_10 => op_k (x_10 - 3) (fun x_11 => (if x_11 < 0 ∨ 2100 ≤ x_11.toNatClampNeg then none else op_k (q_1.2.2.1 87 x_11.toNatClampNeg) (fun x_13 => fM_instance_208 x_13 q_1.2))))))))) else some ((0 : Int32), q_1.2)))
noncomputable def fM_instance_139 (v2 : Int32) (v4 : Int32) (s1 : Int32) (s2 : Int32) (o0 : cf_O) : Option (Int32 × cf_O) :=
  fM_instance_140 v2 v4 s1 s2 0 o0
noncomputable def fM_instance_127 (v2 : Int32) (v3 : Int32) (v4 : Int32) (s1 : Int32) (s2 : Int32) (o0 : cf_O) : Option (Int32 × cf_O) :=
  (if v3 = (0 : Int32) then fM_instance_139 v2 v4 s1 s2 o0 else (if (0 : Int32) ≤ v2 then fM_instance_139 v2 v4 s1 s2 o0 else fM_instance_140 v2 v4 s1 s2 1 o0))
noncomputable def fM_instance_126 (v2 : Int32) (v3 : Int32) (v4 : Int32) (s1 : Int32) (o0 : cf_O) : Option (Int32 × cf_O) :=
  fM_instance_127 v2 v3 v4 s1 0 o0
noncomputable def fM_instance_110 (v2 : Int32) (v3 : Int32) (v4 : Int32) (v6 : Int32) (s1 : Int32) (o0 : cf_O) : Option (Int32 × cf_O) :=
  (if (o0.1 85) = (0 : Int32) then fM_instance_126 v2 v3 v4 s1 o0 else (if v6 = (0 : Int32) then fM_instance_126 v2 v3 v4 s1 o0 else fM_instance_127 v2 v3 v4 s1 1 o0))
noncomputable def fM_instance_95 (v2 : Int32) (v3 : Int32) (v4 : Int32) (s0 : Int32) (o0 : cf_O) : Option (Int32 × cf_O) :=
  (if (o0.1 85) = (0 : Int32) then fM_instance_110 v2 v3 v4 s0 1 o0 else fM_instance_110 v2 v3 v4 s0 0 o0)
noncomputable def fM_instance_94 (v2 : Int32) (v3 : Int32) (v4 : Int32) (o0 : cf_O) : Option (Int32 × cf_O) :=
  fM_instance_95 v2 v3 v4 0 o0
noncomputable def fM_instance_90 (v2 : Int32) (v3 : Int32) (v4 : Int32) (o0 : cf_O) : Option (Int32 × cf_O) :=
  fM_instance_95 v2 v3 v4 1 o0
noncomputable def fM_instance_71 (v2 : Int32) (v3 : Int32) (v4 : Int32) (s0 : Int32) (o0 : cf_O) : Option (Int32 × cf_O) :=
  (if v3 = (0 : Int32) then fM_instance_90 v2 v3 v4 o0 else (if v2 ≤ (2 : Int32) then fM_instance_94 v2 v3 v4 o0 else op_k (v2 - 3) (fun x_3 => (if x_3 < s0 then fM_instance_94 v2 v3 v4 o0 else fM_instance_90 v2 v3 v4 o0))))
noncomputable def fM_instance_41 (v2 : Int32) (v3 : Int32) (s0 : Int32) (o0 : cf_O) : Option (Int32 × cf_O) :=
  (if v3 = (0 : Int32) then fM_instance_71 v2 v3 s0 0 o0 else op_k (5 * s0) (fun x_2 => op_k (x_2 + 1) (fun x_3 => (if x_3 < 0 ∨ 2100 ≤ x_3.toNatClampNeg then none else op_k (o0.2.1 87 x_3.toNatClampNeg) (fun x_5 => op_k (4 * x_5) (fun x_6 => op_k (x_6 + 2) (fun x_7 => (if x_7 < 0 ∨ 48 ≤ x_7.toNatClampNeg then none else op_k (o0.2.1 84 x_7.toNatClampNeg) (fun x_9 => fM_instance_71 v2 v3 s0 x_9 o0)))))))))
noncomputable def fM_instance_26 (v1 : Int32) (v2 : Int32) (s0 : Int32) (o0 : cf_O) : Option (Int32 × cf_O) :=
  (if s0 = (0 : Int32) then fM_instance_41 v2 s0 2 o0 else (if v1 < 0 ∨ 420 ≤ v1.toNatClampNeg then none else op_k (o0.2.1 94 v1.toNatClampNeg) (fun x_3 => fM_instance_41 v2 s0 x_3 o0)))
noncomputable def fM_instance_25 (v1 : Int32) (v2 : Int32) (o0 : cf_O) : Option (Int32 × cf_O) :=
  fM_instance_26 v1 v2 0 o0
noncomputable def fM_instance_0 (v1 : Int32) (v2 : Int32) (o0 : cf_O) : Option (Int32 × cf_O) :=
  (if (o0.1 85) = (0 : Int32) then fM_instance_25 v1 v2 o0 else op_k ((o0.1 93) - 1) (fun x_2 => Option.bind (fM_in v1 0 x_2) (fun q_3 => (if q_3 = (0 : Int32) then fM_instance_25 v1 v2 o0 else fM_instance_26 v1 v2 1 o0))))
noncomputable def fM_instance (v1 : Int32) (v2 : Int32) (o0 : cf_O) : Option (Int32 × cf_O) := fM_instance_0 v1 v2 o0
noncomputable def fM_mappedSign_56 (s0 : Int32) (o0 : cf_O) : Option (Int32 × cf_O) :=
  some (s0, o0)
noncomputable def fM_mappedSign_29 (v1 : Int32) (s1 : Int32) (s2 : Int32) (o0 : cf_O) : Option (Int32 × cf_O) :=
  Option.bind (fM_refuse s1 s2 0 o0) (fun q_1 => (if q_1.1 = (0 : Int32) then (if (q_1.2.1 96) ≤ v1 then fM_mappedSign_56 (-1) q_1.2 else (if v1 < 0 ∨ 24000 ≤ v1.toNatClampNeg then none else op_k (q_1.2.2.1 97 v1.toNatClampNeg) (fun x_7 => fM_mappedSign_56 x_7 q_1.2))) else some ((0 : Int32), q_1.2)))
noncomputable def fM_mappedSign_28 (v1 : Int32) (s1 : Int32) (o0 : cf_O) : Option (Int32 × cf_O) :=
  fM_mappedSign_29 v1 s1 0 o0
noncomputable def fM_mappedSign_13 (v1 : Int32) (s1 : Int32) (o0 : cf_O) : Option (Int32 × cf_O) :=
  (if (o0.1 85) = (0 : Int32) then fM_mappedSign_28 v1 s1 o0 else (if (0 : Int32) ≤ v1 then fM_mappedSign_28 v1 s1 o0 else fM_mappedSign_29 v1 s1 1 o0))
noncomputable def fM_mappedSign_0 (v1 : Int32) (o0 : cf_O) : Option (Int32 × cf_O) :=
  (if (o0.1 85) = (0 : Int32) then fM_mappedSign_13 v1 1 o0 else fM_mappedSign_13 v1 0 o0)
noncomputable def fM_mappedSign (v1 : Int32) (o0 : cf_O) : Option (Int32 × cf_O) := fM_mappedSign_0 v1 o0
