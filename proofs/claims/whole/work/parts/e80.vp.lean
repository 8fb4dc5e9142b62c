def pcN : Nat → Nat → Nat
  | 0, _ => 0
  | k + 1, x => x % 2 + pcN k (x / 2)
theorem and_sp {i a b r s : Nat} (hr : r < 2 ^ i) (hs : s < 2 ^ i) : (2 ^ i * a + r) &&& (2 ^ i * b + s) = 2 ^ i * (a &&& b) + (r &&& s) := by
  apply Nat.eq_of_testBit_eq
  intro j
  rw [Nat.testBit_and, Nat.testBit_two_pow_mul_add _ hr, Nat.testBit_two_pow_mul_add _ hs, Nat.testBit_two_pow_mul_add _ (Nat.and_lt_two_pow _ hs)]
  split
  · rw [Nat.testBit_and]
  · rw [Nat.testBit_and]
def bm1 : Nat → Nat
  | 0 => 0
  | k + 1 => 4 * bm1 k + 1
def bm2 : Nat → Nat
  | 0 => 0
  | k + 1 => 16 * bm2 k + 3
def bm3 : Nat → Nat
  | 0 => 0
  | k + 1 => 256 * bm3 k + 15
def bs1 (k x : Nat) : Nat := x - (x / 2 &&& bm1 k)
def bs2 (k y : Nat) : Nat := (y &&& bm2 k) + (y / 4 &&& bm2 k)
def bs3 (k y : Nat) : Nat := (y + y / 16) &&& bm3 k
theorem bs1_s {k a d : Nat} (hd : d < 4) : bs1 (k + 1) (4 * a + d) = 4 * bs1 k a + (d % 2 + d / 2) := by
  unfold bs1
  have e : (4 * a + d) / 2 = 2 ^ 2 * (a / 2) + (2 * (a % 2) + d / 2) := by show _ = 4 * (a / 2) + _; omega
  have m : bm1 (k + 1) = 2 ^ 2 * bm1 k + 1 := rfl
  rw [e, m, and_sp (by show _ < 4; omega) (by decide), Nat.and_one_is_mod]
  have l : a / 2 &&& bm1 k ≤ a / 2 := Nat.and_le_left
  show 4 * a + d - (4 * (a / 2 &&& bm1 k) + _) = _
  generalize a / 2 &&& bm1 k = u at l ⊢
  omega
theorem bs2_s {k a d : Nat} (hd : d < 16) : bs2 (k + 1) (16 * a + d) = 16 * bs2 k a + (d % 4 + d / 4) := by
  unfold bs2
  have e : (16 * a + d) / 4 = 2 ^ 4 * (a / 4) + (4 * (a % 4) + d / 4) := by show _ = 16 * (a / 4) + _; omega
  have m : bm2 (k + 1) = 2 ^ 4 * bm2 k + 3 := rfl
  have a3 : ∀ z : Nat, z &&& 3 = z % 4 := fun z => Nat.and_two_pow_sub_one_eq_mod z 2
  rw [e, m, and_sp (by show _ < 16; omega) (by decide), show 16 * a + d = 2 ^ 4 * a + d from rfl, and_sp (by show _ < 16; omega) (by decide), a3, a3]
  show 16 * (a &&& bm2 k) + _ + (16 * (a / 4 &&& bm2 k) + _) = 16 * ((a &&& bm2 k) + (a / 4 &&& bm2 k)) + _
  generalize a &&& bm2 k = u
  generalize a / 4 &&& bm2 k = w
  omega
theorem bs3_s {k a e1 e0 : Nat} (h0 : e0 ≤ 4) (h1 : e1 ≤ 4) (ha : a % 16 ≤ 4) : bs3 (k + 1) (256 * a + (16 * e1 + e0)) = 256 * bs3 k a + (e0 + e1) := by
  unfold bs3
  have e : 256 * a + (16 * e1 + e0) + (256 * a + (16 * e1 + e0)) / 16 = 2 ^ 8 * (a + a / 16) + (16 * (a % 16 + e1) + (e0 + e1)) := by show _ = 256 * (a + a / 16) + _; omega
  have m : bm3 (k + 1) = 2 ^ 8 * bm3 k + 15 := rfl
  have a3 : ∀ z : Nat, z &&& 15 = z % 16 := fun z => Nat.and_two_pow_sub_one_eq_mod z 4
  rw [e, m, and_sp (by show _ < 256; omega) (by decide), a3]
  show 256 * _ + _ = 256 * _ + _
  omega
def bT (k x : Nat) : Nat := bs3 k (bs2 (2 * k) (bs1 (4 * k) x))
def bU (k x : Nat) : Nat := bs2 (2 * k) (bs1 (4 * k) x)
def p2 (c : Nat) : Nat := c % 2 + c / 2
theorem bU_s {k a d : Nat} (hd : d < 256) : bU (k + 1) (256 * a + d) = 256 * bU k a + (16 * (p2 (d / 16 % 4) + p2 (d / 64)) + (p2 (d % 4) + p2 (d / 4 % 4))) := by
  unfold bU
  have e1 : bs1 (4 * (k + 1)) (256 * a + d) = 16 * (16 * bs1 (4 * k) a + (4 * p2 (d / 64) + p2 (d / 16 % 4))) + (4 * p2 (d / 4 % 4) + p2 (d % 4)) := by
    have q1 := bs1_s (k := 4 * k + 3) (a := 64 * a + d / 4) (d := d % 4) (by omega)
    have q2 := bs1_s (k := 4 * k + 2) (a := 16 * a + d / 16) (d := d / 4 % 4) (by omega)
    have q3 := bs1_s (k := 4 * k + 1) (a := 4 * a + d / 64) (d := d / 16 % 4) (by omega)
    have q4 := bs1_s (k := 4 * k) (a := a) (d := d / 64) (by omega)
    rw [show 4 * (64 * a + d / 4) + d % 4 = 256 * a + d by omega] at q1
    rw [show 4 * (16 * a + d / 16) + d / 4 % 4 = 64 * a + d / 4 by omega] at q2
    rw [show 4 * (4 * a + d / 64) + d / 16 % 4 = 16 * a + d / 16 by omega] at q3
    rw [show 4 * (k + 1) = 4 * k + 3 + 1 by omega, q1, show 4 * k + 3 = 4 * k + 2 + 1 from rfl, q2, show 4 * k + 2 = 4 * k + 1 + 1 from rfl, q3, q4]
    unfold p2
    omega
  have b0 : ∀ c : Nat, c < 4 → p2 c ≤ 2 := fun c hc => by unfold p2; omega
  have c1 := b0 (d % 4) (by omega)
  have c2 := b0 (d / 4 % 4) (by omega)
  have c3 := b0 (d / 16 % 4) (by omega)
  have c4 := b0 (d / 64) (by omega)
  rw [e1, show 2 * (k + 1) = 2 * k + 1 + 1 by omega, bs2_s (by omega), bs2_s (by omega)]
  omega
theorem bU_b : ∀ (k x : Nat), bU k x % 16 ≤ 4
  | 0, x => by
    show (bs2 0 _) % 16 ≤ 4
    unfold bs2
    rw [show bm2 0 = 0 from rfl, Nat.and_zero, Nat.and_zero]; decide
  | k + 1, x => by
    have e : x = 256 * (x / 256) + x % 256 := by omega
    rw [e, bU_s (by omega)]
    have b0 : ∀ c : Nat, c < 4 → p2 c ≤ 2 := fun c hc => by unfold p2; omega
    have c1 := b0 (x % 256 % 4) (by omega)
    have c2 := b0 (x % 256 / 4 % 4) (by omega)
    omega
theorem pc8 : ∀ d : Nat, d < 256 → (p2 (d / 16 % 4) + p2 (d / 64)) + (p2 (d % 4) + p2 (d / 4 % 4)) = pcN 8 d := by decide +kernel
theorem bT_s (k x : Nat) : bT (k + 1) x = 256 * bT k (x / 256) + pcN 8 (x % 256) := by
  have e : x = 256 * (x / 256) + x % 256 := by omega
  have b0 : ∀ c : Nat, c < 4 → p2 c ≤ 2 := fun c hc => by unfold p2; omega
  have c1 := b0 (x % 256 % 4) (by omega)
  have c2 := b0 (x % 256 / 4 % 4) (by omega)
  have c3 := b0 (x % 256 / 16 % 4) (by omega)
  have c4 := b0 (x % 256 / 64) (by omega)
  show bs3 (k + 1) (bU (k + 1) x) = 256 * bs3 k (bU k (x / 256)) + _
  rw [← pc8 (x % 256) (by omega)]
  conv => lhs; rw [e, bU_s (by omega)]
  rw [bs3_s (by omega) (by omega) (bU_b k _)]
  omega
theorem pcN_a : ∀ (j k x : Nat), pcN (j + k) x = pcN j x + pcN k (x / 2 ^ j)
  | 0, k, x => by rw [Nat.zero_add, Nat.pow_zero, Nat.div_one]; show _ = 0 + _; omega
  | j + 1, k, x => by
    rw [show j + 1 + k = j + k + 1 by omega]
    show x % 2 + pcN (j + k) (x / 2) = x % 2 + pcN j (x / 2) + _
    rw [pcN_a j k (x / 2), Nat.pow_succ, Nat.mul_comm, Nat.div_div_eq_div_mul, Nat.add_assoc]
theorem pcN_m : ∀ (j x : Nat), pcN j (x % 2 ^ j) = pcN j x
  | 0, x => rfl
  | j + 1, x => by
    show x % 2 ^ (j + 1) % 2 + pcN j (x % 2 ^ (j + 1) / 2) = x % 2 + pcN j (x / 2)
    rw [Nat.pow_succ, Nat.mod_mul_left_mod, Nat.mul_comm, Nat.mod_mul_right_div_self, pcN_m j (x / 2)]
theorem pcN_le : ∀ (j x : Nat), pcN j x ≤ j
  | 0, x => Nat.le_refl 0
  | j + 1, x => by
    have := pcN_le j (x / 2)
    show x % 2 + pcN j (x / 2) ≤ j + 1
    omega
theorem pcN_c (k x : Nat) : pcN (8 + k) x = pcN 8 (x % 256) + pcN k (x / 256) := by
  rw [pcN_a 8 k x, ← pcN_m 8 x]
theorem dv_e {u m A R : Nat} (h : u = m * A + R) (hR : R < m) : u / m = A := by
  rw [h, Nat.mul_add_div (by omega), Nat.div_eq_of_lt hR, Nat.add_zero]
theorem sm_1a {q0 q1 q2 q3 q4 q5 q6 q7 t : Nat} (b0 : q0 ≤ 8) (et : t = 256 * (256 * (256 * (256 * (256 * (256 * (256 * (256 * 0 + q7) + q6) + q5) + q4) + q3) + q2) + q1) + q0) : t + t / 256 = 72057594037927936 * q7 + 281474976710656 * (q6 + q7) + 1099511627776 * (q5 + q6) + 4294967296 * (q4 + q5) + 16777216 * (q3 + q4) + 65536 * (q2 + q3) + 256 * (q1 + q2) + (q0 + q1) := by
  have d1 : t / 256 = 256 * (256 * (256 * (256 * (256 * (256 * q7 + q6) + q5) + q4) + q3) + q2) + q1 := dv_e (R := q0) (by rw [et]; omega) (by omega)
  rw [d1, et]
  clear d1 et b0
  omega
theorem sm_1b {c0 c1 c2 c3 c4 c5 c6 c7 u : Nat} (b0 : c0 ≤ 16) (b1 : c1 ≤ 16) (eu : u = 72057594037927936 * c7 + 281474976710656 * c6 + 1099511627776 * c5 + 4294967296 * c4 + 16777216 * c3 + 65536 * c2 + 256 * c1 + c0) : u + u / 65536 = 72057594037927936 * c7 + 281474976710656 * c6 + 1099511627776 * (c5 + c7) + 4294967296 * (c4 + c6) + 16777216 * (c3 + c5) + 65536 * (c2 + c4) + 256 * (c1 + c3) + (c0 + c2) := by
  have d1 : u / 65536 = 1099511627776 * c7 + 4294967296 * c6 + 16777216 * c5 + 65536 * c4 + 256 * c3 + c2 := dv_e (R := 256 * c1 + c0) (by rw [eu]; omega) (by omega)
  rw [d1, eu]
  clear d1 eu b0 b1
  omega
theorem sm_1c {c0 c1 c2 c3 c4 c5 c6 c7 u : Nat} (b0 : c0 ≤ 32) (b1 : c1 ≤ 32) (b2 : c2 ≤ 32) (b3 : c3 ≤ 32) (eu : u = 72057594037927936 * c7 + 281474976710656 * c6 + 1099511627776 * c5 + 4294967296 * c4 + 16777216 * c3 + 65536 * c2 + 256 * c1 + c0) : u + u / 4294967296 = 72057594037927936 * c7 + 281474976710656 * c6 + 1099511627776 * c5 + 4294967296 * c4 + 16777216 * (c3 + c7) + 65536 * (c2 + c6) + 256 * (c1 + c5) + (c0 + c4) := by
  have d1 : u / 4294967296 = 16777216 * c7 + 65536 * c6 + 256 * c5 + c4 := dv_e (R := 16777216 * c3 + 65536 * c2 + 256 * c1 + c0) (by rw [eu]; omega) (by omega)
  rw [d1, eu]
  clear d1 eu b0 b1 b2 b3
  omega
theorem sm_1d {c0 c1 c2 c3 c4 c5 c6 c7 : Nat} (b0 : c0 < 128) : (72057594037927936 * c7 + 281474976710656 * c6 + 1099511627776 * c5 + 4294967296 * c4 + 16777216 * c3 + 65536 * c2 + 256 * c1 + c0) % 128 = c0 := by
  have e : 72057594037927936 * c7 + 281474976710656 * c6 + 1099511627776 * c5 + 4294967296 * c4 + 16777216 * c3 + 65536 * c2 + 256 * c1 + c0 = 128 * (562949953421312 * c7 + 2199023255552 * c6 + 8589934592 * c5 + 33554432 * c4 + 131072 * c3 + 512 * c2 + 2 * c1) + c0 := by omega
  rw [e, Nat.mul_add_mod]
  exact Nat.mod_eq_of_lt b0
theorem sum8 {q0 q1 q2 q3 q4 q5 q6 q7 t u w : Nat} (b0 : q0 ≤ 8) (b1 : q1 ≤ 8) (b2 : q2 ≤ 8) (b3 : q3 ≤ 8) (b4 : q4 ≤ 8) (b5 : q5 ≤ 8) (b6 : q6 ≤ 8) (b7 : q7 ≤ 8) (et : t = 256 * (256 * (256 * (256 * (256 * (256 * (256 * (256 * 0 + q7) + q6) + q5) + q4) + q3) + q2) + q1) + q0) (eu : u = t + t / 256) (ew : w = u + u / 65536) : (w + w / 4294967296) % 128 = q0 + (q1 + (q2 + (q3 + (q4 + (q5 + (q6 + q7)))))) ∧ w + w / 4294967296 < 18446744073709551616 := by
  have e1 := eu.trans (sm_1a b0 et)
  clear et eu
  have e2 := ew.trans (sm_1b (by omega) (by omega) e1)
  clear ew e1
  have e3 := sm_1c (by omega) (by omega) (by omega) (by omega) e2
  clear e2
  constructor
  · rw [e3, sm_1d (by clear e3; omega)]
    clear e3
    omega
  · rw [e3]
    clear e3
    omega
theorem bT_0 (x : Nat) : bT 0 x = 0 := by
  show bs3 0 _ = 0
  unfold bs3
  rw [show bm3 0 = 0 from rfl, Nat.and_zero]
theorem bT_8 (x : Nat) : bT 8 x = 256 * (256 * (256 * (256 * (256 * (256 * (256 * (256 * 0 + pcN 8 (x / 256 / 256 / 256 / 256 / 256 / 256 / 256 % 256)) + pcN 8 (x / 256 / 256 / 256 / 256 / 256 / 256 % 256)) + pcN 8 (x / 256 / 256 / 256 / 256 / 256 % 256)) + pcN 8 (x / 256 / 256 / 256 / 256 % 256)) + pcN 8 (x / 256 / 256 / 256 % 256)) + pcN 8 (x / 256 / 256 % 256)) + pcN 8 (x / 256 % 256)) + pcN 8 (x % 256) := by
  rw [bT_s 7, bT_s 6, bT_s 5, bT_s 4, bT_s 3, bT_s 2, bT_s 1, bT_s 0, bT_0]
theorem pcN_8 (x : Nat) : pcN 64 x = pcN 8 (x % 256) + (pcN 8 (x / 256 % 256) + (pcN 8 (x / 256 / 256 % 256) + (pcN 8 (x / 256 / 256 / 256 % 256) + (pcN 8 (x / 256 / 256 / 256 / 256 % 256) + (pcN 8 (x / 256 / 256 / 256 / 256 / 256 % 256) + (pcN 8 (x / 256 / 256 / 256 / 256 / 256 / 256 % 256) + pcN 8 (x / 256 / 256 / 256 / 256 / 256 / 256 / 256 % 256))))))) := by
  have e7 := pcN_m 8 (x / 256 / 256 / 256 / 256 / 256 / 256 / 256)
  have e6 := pcN_c 8 (x / 256 / 256 / 256 / 256 / 256 / 256)
  have e5 := pcN_c 16 (x / 256 / 256 / 256 / 256 / 256)
  have e4 := pcN_c 24 (x / 256 / 256 / 256 / 256)
  have e3 := pcN_c 32 (x / 256 / 256 / 256)
  have e2 := pcN_c 40 (x / 256 / 256)
  have e1 := pcN_c 48 (x / 256)
  have e0 := pcN_c 56 x
  rw [show 8 + 56 = 64 from rfl] at e0
  rw [show 8 + 48 = 56 from rfl] at e1
  rw [show 8 + 40 = 48 from rfl] at e2
  rw [show 8 + 32 = 40 from rfl] at e3
  rw [show 8 + 24 = 32 from rfl] at e4
  rw [show 8 + 16 = 24 from rfl] at e5
  rw [show 8 + 8 = 16 from rfl] at e6
  rw [show 2 ^ 8 = 256 from rfl] at e7
  rw [e0, e1, e2, e3, e4, e5, e6, e7]
theorem pc64 (x : Nat) : (bT 8 x + bT 8 x / 256 + (bT 8 x + bT 8 x / 256) / 65536 + (bT 8 x + bT 8 x / 256 + (bT 8 x + bT 8 x / 256) / 65536) / 4294967296) % 128 = pcN 64 x ∧ bT 8 x + bT 8 x / 256 + (bT 8 x + bT 8 x / 256) / 65536 + (bT 8 x + bT 8 x / 256 + (bT 8 x + bT 8 x / 256) / 65536) / 4294967296 < 18446744073709551616 := by
  rw [pcN_8]
  exact sum8 (pcN_le 8 _) (pcN_le 8 _) (pcN_le 8 _) (pcN_le 8 _) (pcN_le 8 _) (pcN_le 8 _) (pcN_le 8 _) (pcN_le 8 _) (bT_8 x) rfl rfl
theorem nv_sub {x y : Int64} (h : nv y ≤ nv x) : nv (x - y) = nv x - nv y := by
  show (x - y).toBitVec.toNat = _
  rw [Int64.toBitVec_sub, BitVec.toNat_sub]
  have h1 : nv x < 18446744073709551616 := x.toBitVec.isLt
  have h2 : nv y < 18446744073709551616 := y.toBitVec.isLt
  show (2 ^ 64 - nv y + nv x) % 2 ^ 64 = _
  omega
theorem nv_add {x y : Int64} (h : nv x + nv y < 18446744073709551616) : nv (x + y) = nv x + nv y := by
  show (x + y).toBitVec.toNat = _
  rw [Int64.toBitVec_add, BitVec.toNat_add]
  exact Nat.mod_eq_of_lt h
theorem nv_al (x y : Int64) : nv (x &&& y) = nv x &&& nv y := by
  show (x &&& y).toBitVec.toNat = _
  rw [Int64.toBitVec_and, BitVec.toNat_and]
theorem us_c {x : Int64} {c : UInt64} {k : Nat} (h : c.toNat % 64 = k) : nv (x.toUInt64 >>> c).toInt64 = nv x / 2 ^ k := by
  show (x.toUInt64 >>> c).toNat = _
  rw [UInt64.toNat_shiftRight, h, Nat.shiftRight_eq_div_pow]; rfl
theorem bc_sp {x : Int64} {r : Int32} (h : fJLong_bitCount_J x = some r) : r.toInt = (pcN 64 (nv x) : Int) := by
  unfold fJLong_bitCount_J fJLong_bitCount_J_0 at h
  simp only [opk] at h
  have hx : nv x < 18446744073709551616 := x.toBitVec.isLt
  have c1 := us_c (x := x) (c := (1 : Int32).toInt64.toUInt64 &&& Int64.toUInt64 63) (k := 1) (by decide)
  generalize (x.toUInt64 >>> ((1 : Int32).toInt64.toUInt64 &&& Int64.toUInt64 63)).toInt64 = y1 at h c1
  have c1 : nv y1 = nv x / 2 := c1
  have L1 : nv (6148914691236517205 : Int64) = bm1 32 := by decide
  have L2 : nv (3689348814741910323 : Int64) = bm2 16 := by decide
  have L3 : nv (1085102592571150095 : Int64) = bm3 8 := by decide
  have c2 : nv (y1 &&& 6148914691236517205) = nv x / 2 &&& bm1 32 := by rw [nv_al, c1, L1]
  have l2 : nv (y1 &&& 6148914691236517205) ≤ nv x := by rw [c2]; exact Nat.le_trans Nat.and_le_left (Nat.div_le_self _ _)
  have c3 : nv (x - (y1 &&& 6148914691236517205)) = bs1 32 (nv x) := by rw [nv_sub l2, c2, bs1]
  generalize x - (y1 &&& 6148914691236517205) = y3 at h c3
  have c5 := us_c (x := y3) (c := (2 : Int32).toInt64.toUInt64 &&& Int64.toUInt64 63) (k := 2) (by decide)
  generalize (y3.toUInt64 >>> ((2 : Int32).toInt64.toUInt64 &&& Int64.toUInt64 63)).toInt64 = y5 at h c5
  have h3 : nv y3 < 18446744073709551616 := y3.toBitVec.isLt
  have c5 : nv y5 = nv y3 / 4 := c5
  have c4 : nv (y3 &&& 3689348814741910323) = nv y3 &&& bm2 16 := by rw [nv_al, L2]
  have c6 : nv (y5 &&& 3689348814741910323) = nv y3 / 4 &&& bm2 16 := by rw [nv_al, c5, L2]
  have bm : bm2 16 = 3689348814741910323 := by decide
  have m4 : nv y3 &&& bm2 16 ≤ 3689348814741910323 := by rw [← bm]; exact Nat.and_le_right
  have m6 : nv y3 / 4 &&& bm2 16 ≤ 3689348814741910323 := by rw [← bm]; exact Nat.and_le_right
  have c7 : nv ((y3 &&& 3689348814741910323) + (y5 &&& 3689348814741910323)) = bU 8 (nv x) := by
    rw [nv_add (by rw [c4, c6]; omega), c4, c6, c3, bU, bs2]
  have b7 : nv ((y3 &&& 3689348814741910323) + (y5 &&& 3689348814741910323)) ≤ 7378697629483820646 := by
    rw [nv_add (by rw [c4, c6]; omega), c4, c6]; omega
  generalize (y3 &&& 3689348814741910323) + (y5 &&& 3689348814741910323) = y7 at h c7 b7
  have c8 := us_c (x := y7) (c := (4 : Int32).toInt64.toUInt64 &&& Int64.toUInt64 63) (k := 4) (by decide)
  generalize (y7.toUInt64 >>> ((4 : Int32).toInt64.toUInt64 &&& Int64.toUInt64 63)).toInt64 = y8 at h c8
  have c8 : nv y8 = nv y7 / 16 := c8
  have c9 : nv (y7 + y8) = nv y7 + nv y7 / 16 := by rw [nv_add (by omega), c8]
  generalize y7 + y8 = y9 at h c9
  have c10 : nv (y9 &&& 1085102592571150095) = bT 8 (nv x) := by rw [nv_al, c9, c7, L3, bT, bU, bs3]
  generalize y9 &&& 1085102592571150095 = y10 at h c10
  have c11 := us_c (x := y10) (c := (8 : Int32).toInt64.toUInt64 &&& Int64.toUInt64 63) (k := 8) (by decide)
  generalize (y10.toUInt64 >>> ((8 : Int32).toInt64.toUInt64 &&& Int64.toUInt64 63)).toInt64 = y11 at h c11
  obtain ⟨z1, z2⟩ := pc64 (nv x)
  rw [← c10] at z1 z2
  have c11 : nv y11 = nv y10 / 256 := c11
  have c12 : nv (y10 + y11) = nv y10 + nv y10 / 256 := by rw [nv_add (by omega), c11]
  generalize y10 + y11 = y12 at h c12
  rw [← c12] at z1 z2
  have c13 := us_c (x := y12) (c := (16 : Int32).toInt64.toUInt64 &&& Int64.toUInt64 63) (k := 16) (by decide)
  generalize (y12.toUInt64 >>> ((16 : Int32).toInt64.toUInt64 &&& Int64.toUInt64 63)).toInt64 = y13 at h c13
  have c13 : nv y13 = nv y12 / 65536 := c13
  have c14 : nv (y12 + y13) = nv y12 + nv y12 / 65536 := by rw [nv_add (by omega), c13]
  generalize y12 + y13 = y14 at h c14
  rw [← c14] at z1 z2
  have c15 := us_c (x := y14) (c := (32 : Int32).toInt64.toUInt64 &&& Int64.toUInt64 63) (k := 32) (by decide)
  generalize (y14.toUInt64 >>> ((32 : Int32).toInt64.toUInt64 &&& Int64.toUInt64 63)).toInt64 = y15 at h c15
  have c15 : nv y15 = nv y14 / 4294967296 := c15
  have c16 : nv (y14 + y15) = nv y14 + nv y14 / 4294967296 := by rw [nv_add (by omega), c15]
  generalize y14 + y15 = y16 at h c16
  rw [← c16] at z1
  have er : y16.toInt32 &&& 127 = r := Option.some.inj h
  rw [← er, ← z1]
  have n : (y16.toInt32 &&& 127).toBitVec.toNat = nv y16 % 128 := by
    rw [Int32.toBitVec_and, BitVec.toNat_and, show (127 : Int32).toBitVec.toNat = 2 ^ 7 - 1 from rfl, Nat.and_two_pow_sub_one_eq_mod]
    have : y16.toInt32.toBitVec.toNat = nv y16 % 4294967296 := by
      show (y16.toBitVec.signExtend 32).toNat = _
      rw [BitVec.signExtend_eq_setWidth_of_le _ (by decide), BitVec.toNat_setWidth]
    rw [this]
    omega
  show (y16.toInt32 &&& 127).toBitVec.toInt = _
  rw [BitVec.toInt_eq_toNat_of_lt (by rw [n]; omega), n]
