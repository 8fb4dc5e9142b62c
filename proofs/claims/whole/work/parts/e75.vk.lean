theorem ntz_t : ∀ t : Nat, t < 32 → (if (0 : Int32) < Int32.ofNat (2 ^ t - 1) then (if Int32.ofNat (2 ^ t - 1) ≤ (65536 : Int32) then fJInteger_numberOfTrailingZeros_I_34 (Int32.ofNat (2 ^ t - 1)) 1 else fJInteger_numberOfTrailingZeros_I_34 ((Int32.ofNat (2 ^ t - 1)).toUInt32 >>> ((16 : Int32).toUInt32 &&& Int32.toUInt32 31)).toInt32 17) else some (Int32.ofNat (2 ^ t - 1) &&& 32)) = some (Int32.ofNat t) := by decide +kernel
theorem low_n {n t : Nat} (hb : n.testBit t = true) (hl : ∀ j : Nat, j < t → n.testBit j = false) : ∃ q : Nat, n = 2 ^ (t + 1) * q + 2 ^ t := by
  have m0 : n % 2 ^ t = 0 := Nat.eq_of_testBit_eq (fun j => by
    rw [Nat.testBit_mod_two_pow, Nat.zero_testBit]
    by_cases c : j < t
    · rw [hl j c, Bool.and_false]
    · rw [decide_eq_false c, Bool.false_and])
  have m1 : n / 2 ^ t % 2 = 1 := by
    rw [Nat.testBit_eq_decide_div_mod_eq] at hb
    exact of_decide_eq_true hb
  refine ⟨n / 2 ^ t / 2, ?_⟩
  have e1 := Nat.div_add_mod n (2 ^ t)
  have e2 := Nat.div_add_mod (n / 2 ^ t) 2
  rw [m0] at e1
  rw [m1] at e2
  rw [Nat.pow_succ, Nat.mul_assoc, ← Nat.mul_succ]
  show n = 2 ^ t * (2 * (n / 2 ^ t / 2) + 1)
  rw [e2]; omega
theorem low_b {n t : Nat} (hb : n.testBit t = true) (hl : ∀ j : Nat, j < t → n.testBit j = false) (j : Nat) : (!n.testBit j && (n - 1).testBit j) = decide (j < t) := by
  obtain ⟨q, hq⟩ := low_n hb hl
  have p0 : 0 < 2 ^ t := Nat.pow_pos (by decide)
  have p1 : 2 ^ (t + 1) = 2 * 2 ^ t := by rw [Nat.pow_succ]; omega
  have e1 : n - 1 = 2 ^ (t + 1) * q + (2 ^ t - 1) := by omega
  have t1 := Nat.testBit_two_pow_mul_add q (b := 2 ^ t - 1) (i := t + 1) (by omega) j
  have t0 := Nat.testBit_two_pow_mul_add q (b := 2 ^ t) (i := t + 1) (by omega) j
  rw [← e1] at t1
  rw [← hq] at t0
  by_cases c : j < t
  · rw [hl j c, t1, if_pos (by omega), Nat.testBit_two_pow_sub_one]; rfl
  · rw [decide_eq_false c]
    by_cases d : j = t
    · rw [d, hb]; rfl
    · rw [t0, t1, if_neg (by omega), if_neg (by omega)]
      cases q.testBit (j - (t + 1)) <;> rfl
theorem ntz_i {i r : Int32} {t : Nat} (ht : t < 32) (hb : bt i t = true) (hl : ∀ j : Nat, j < t → bt i j = false) (h : fJInteger_numberOfTrailingZeros_I i = some r) : r = Int32.ofNat t := by
  unfold fJInteger_numberOfTrailingZeros_I fJInteger_numberOfTrailingZeros_I_0 at h
  rw [opk, opk, opk] at h
  have e : (i ^^^ (-1)) &&& (i - 1) = Int32.ofNat (2 ^ t - 1) := by
    apply Int32.toBitVec_inj.mp
    apply BitVec.eq_of_getLsbD_eq
    intro j hj
    have n0 : ¬ i.toBitVec.toNat = 0 := fun z => by
      have : i.toBitVec.toNat.testBit t = true := hb
      rw [z, Nat.zero_testBit] at this
      cases this
    have es : (i - 1).toBitVec.toNat = i.toBitVec.toNat - 1 := by
      rw [Int32.toBitVec_sub, BitVec.toNat_sub, show (1 : Int32).toBitVec.toNat = 1 from rfl]
      have := i.toBitVec.isLt
      omega
    have ej : (i - 1).toBitVec.getLsbD j = (i.toBitVec.toNat - 1).testBit j := by
      show (i - 1).toBitVec.toNat.testBit j = _
      rw [es]
    rw [Int32.toBitVec_and, Int32.toBitVec_xor, BitVec.getLsbD_and, BitVec.getLsbD_xor, ej]
    have em : (-1 : Int32).toBitVec.getLsbD j = true := by
      rw [show (-1 : Int32).toBitVec = BitVec.allOnes 32 from by decide, BitVec.getLsbD_allOnes, decide_eq_true hj]
    rw [em, Bool.xor_true]
    show (!i.toBitVec.toNat.testBit j && (i.toBitVec.toNat - 1).testBit j) = (Int32.ofNat (2 ^ t - 1)).toBitVec.getLsbD j
    rw [low_b hb hl j]
    have p2 : 2 ^ t ≤ 2 ^ 31 := Nat.pow_le_pow_right (by decide) (by omega)
    show _ = (BitVec.ofNat 32 (2 ^ t - 1)).getLsbD j
    rw [BitVec.getLsbD_ofNat, decide_eq_true hj, Bool.true_and, Nat.testBit_two_pow_sub_one]
  rw [e] at h
  have z := ntz_t t ht
  have h : (if (0 : Int32) < Int32.ofNat (2 ^ t - 1) then (if Int32.ofNat (2 ^ t - 1) ≤ (65536 : Int32) then fJInteger_numberOfTrailingZeros_I_34 (Int32.ofNat (2 ^ t - 1)) 1 else fJInteger_numberOfTrailingZeros_I_34 ((Int32.ofNat (2 ^ t - 1)).toUInt32 >>> ((16 : Int32).toUInt32 &&& Int32.toUInt32 31)).toInt32 17) else some (Int32.ofNat (2 ^ t - 1) &&& 32)) = some r := h
  rw [z] at h
  exact (Option.some.inj h).symm
theorem bt_lo {v : Int64} {j : Nat} (hj : j < 32) : bt v.toInt32 j = tbq v j := by
  unfold bt tbq
  show (v.toInt32.toBitVec).getLsbD j = _
  rw [Int64.toBitVec_toInt32, BitVec.getLsbD_signExtend, decide_eq_true hj, Bool.true_and, if_pos (by omega)]
theorem s32_z : ((32 : Int32).toInt64.toUInt64 &&& Int64.toUInt64 63).toNat % 64 = 32 := by decide
theorem bt_hi {v : Int64} {j : Nat} (hj : j < 32) : bt ((v.toUInt64 >>> ((32 : Int32).toInt64.toUInt64 &&& Int64.toUInt64 63)).toInt64).toInt32 j = tbq v (32 + j) := by
  rw [bt_lo hj, tbq_n, nv_shr s32_z, Nat.testBit_div_two_pow, Nat.add_comm]; rfl
theorem ntz_l {v : Int64} {r : Int32} {t : Nat} (ht : t < 64) (hb : tbq v t = true) (hl : ∀ j : Nat, j < t → tbq v j = false) (h : fJLong_numberOfTrailingZeros_J v = some r) : r.toInt = (t : Int) := by
  have on : ∀ u : Nat, u < 32 → (Int32.ofNat u).toInt = (u : Int) := fun u hu => Int32.toInt_ofNat_of_lt (by omega)
  unfold fJLong_numberOfTrailingZeros_J fJLong_numberOfTrailingZeros_J_0 at h
  rw [opk] at h
  rcases ifc h with ⟨a, h⟩ | ⟨a, h⟩
  · have t32 : 32 ≤ t := Nat.le_of_not_lt (fun l => by
      have z := bt_lo (v := v) l
      rw [a, hb] at z
      exact absurd z (by rw [show bt 0 t = false from by unfold bt; exact Nat.zero_testBit t]; decide))
    rw [opk, opk] at h
    obtain ⟨q, hq, h⟩ := bd h
    rw [opk] at h
    have eq := ntz_i (t := t - 32) (by omega) (by rw [bt_hi (by omega), show 32 + (t - 32) = t from by omega]; exact hb) (fun j hj => by rw [bt_hi (by omega)]; exact hl _ (by omega)) hq
    rw [← Option.some.inj h, Int32.toInt_add, eq, on _ (by omega), show (32 : Int32).toInt = 32 from rfl, i_bm (by omega) (by omega)]
    omega
  · have t32 : t < 32 := Nat.lt_of_not_le (fun l => a (by
      apply Int32.toBitVec_inj.mp
      apply BitVec.eq_of_getLsbD_eq
      intro j hj
      have z := bt_lo (v := v) hj
      rw [hl j (by omega)] at z
      have z : v.toInt32.toBitVec.getLsbD j = false := z
      rw [z]; exact BitVec.getLsbD_zero.symm))
    obtain ⟨q, hq, h⟩ := bd h
    have eq := ntz_i (t := t) t32 (by rw [bt_lo t32]; exact hb) (fun j hj => by rw [bt_lo (by omega)]; exact hl j hj) hq
    rw [← Option.some.inj h, eq, on t t32]
