def tt {α : Type} (x : Option α) (Q : α → Prop) : Prop := ∃ r, x = some r ∧ Q r
theorem tt_some {α : Type} {a : α} {Q : α → Prop} (h : Q a) : tt (some a) Q := ⟨a, rfl, h⟩
theorem tt_if {α : Type} {c : Prop} [Decidable c] {x y : Option α} {Q : α → Prop} (h1 : c → tt x Q) (h2 : ¬ c → tt y Q) : tt (if c then x else y) Q := by
  by_cases h : c
  · rw [if_pos h]; exact h1 h
  · rw [if_neg h]; exact h2 h
theorem tt_n {α : Type} {c : Prop} [Decidable c] {y : Option α} {Q : α → Prop} (h : ¬ c) (k : tt y Q) : tt (if c then none else y) Q := by rw [if_neg h]; exact k
theorem tt_w {α : Type} {c : Prop} [Decidable c] {y : Option α} {Q : α → Prop} (h : c) (k : tt y Q) : tt (if ¬ c then none else y) Q := by rw [if_neg (fun q => q h)]; exact k
theorem tt_kv {α : Type} {e : Int32} {f : Int32 → Option α} {Q : α → Prop} {P : Int32 → Prop} (h : P e) (k : ∀ x, P x → tt (f x) Q) : tt (op_k e f) Q := k e h
theorem tt_kl {α : Type} {e : Int64} {f : Int64 → Option α} {Q : α → Prop} (k : ∀ x, tt (f x) Q) : tt (op_k e f) Q := k e
theorem tt_ko {α β : Type} {e : β} {f : β → Option α} {Q : α → Prop} (k : tt (f e) Q) : tt (op_k e f) Q := k
theorem tt_b {α β : Type} {x : Option β} {f : β → Option α} {P : β → Prop} {Q : α → Prop} (h : tt x P) (k : ∀ r, P r → tt (f r) Q) : tt (x.bind f) Q := by
  obtain ⟨r, h1, h2⟩ := h
  rw [h1]; exact k r h2
theorem tt_bs {α β : Type} {a : β} {f : β → Option α} {Q : α → Prop} (k : tt (f a) Q) : tt ((some a).bind f) Q := k
theorem tt_bif {α β : Type} {c : Prop} [Decidable c] {x y : Option β} {f : β → Option α} {Q : α → Prop} (h1 : c → tt (x.bind f) Q) (h2 : ¬ c → tt (y.bind f) Q) : tt ((if c then x else y).bind f) Q := by
  by_cases h : c
  · rw [if_pos h]; exact h1 h
  · rw [if_neg h]; exact h2 h
theorem tt_bn {α β : Type} {c : Prop} [Decidable c] {y : Option β} {f : β → Option α} {Q : α → Prop} (h : ¬ c) (k : tt (y.bind f) Q) : tt ((if c then none else y).bind f) Q := by rw [if_neg h]; exact k
theorem tt_bw {α β : Type} {c : Prop} [Decidable c] {y : Option β} {f : β → Option α} {Q : α → Prop} (h : c) (k : tt (y.bind f) Q) : tt ((if ¬ c then none else y).bind f) Q := by rw [if_neg (fun q => q h)]; exact k
theorem tt_bkv {α β : Type} {e : Int32} {g : Int32 → Option β} {f : β → Option α} {Q : α → Prop} {P : Int32 → Prop} (h : P e) (k : ∀ x, P x → tt ((g x).bind f) Q) : tt ((op_k e g).bind f) Q := k e h
theorem tt_bko {α β γ : Type} {e : γ} {g : γ → Option β} {f : β → Option α} {Q : α → Prop} (k : tt ((g e).bind f) Q) : tt ((op_k e g).bind f) Q := k
theorem tt_mono {α : Type} {x : Option α} {P Q : α → Prop} (h : tt x P) (k : ∀ r, P r → Q r) : tt x Q := by
  obtain ⟨r, h1, h2⟩ := h
  exact ⟨r, h1, k r h2⟩
theorem i_lo (x : Int32) : -2147483648 ≤ x.toInt := Int32.le_toInt x
theorem i_hi (x : Int32) : x.toInt ≤ 2147483647 := by have := Int32.toInt_lt x; omega
theorem iv_top (x : Int32) : (-2147483648 : Int) ≤ x.toInt ∧ x.toInt ≤ 2147483647 := ⟨i_lo x, i_hi x⟩
theorem i_bm {z : Int} (h1 : -2147483648 ≤ z) (h2 : z ≤ 2147483647) : z.bmod 4294967296 = z := Int.bmod_eq_of_le (by omega) (by omega)
theorem i_add {x y : Int32} (h1 : -2147483648 ≤ x.toInt + y.toInt) (h2 : x.toInt + y.toInt ≤ 2147483647) : (x + y).toInt = x.toInt + y.toInt := by
  rw [Int32.toInt_add]; exact i_bm h1 h2
theorem i_sub {x y : Int32} (h1 : -2147483648 ≤ x.toInt - y.toInt) (h2 : x.toInt - y.toInt ≤ 2147483647) : (x - y).toInt = x.toInt - y.toInt := by
  rw [Int32.toInt_sub]; exact i_bm h1 h2
theorem i_mul {x y : Int32} (h1 : -2147483648 ≤ x.toInt * y.toInt) (h2 : x.toInt * y.toInt ≤ 2147483647) : (x * y).toInt = x.toInt * y.toInt := by
  rw [Int32.toInt_mul]; exact i_bm h1 h2
section IV
variable {x y : Int32} {a b c d e f : Int}
theorem iv_w (h1 : a ≤ c) (h2 : d ≤ b) (h : c ≤ x.toInt ∧ x.toInt ≤ d) : a ≤ x.toInt ∧ x.toInt ≤ b := ⟨Int.le_trans h1 h.1, Int.le_trans h.2 h2⟩
theorem iv_add (hx : a ≤ x.toInt ∧ x.toInt ≤ b) (hy : c ≤ y.toInt ∧ y.toInt ≤ d) (h1 : -2147483648 ≤ a + c) (h2 : b + d ≤ 2147483647) (h3 : e ≤ a + c) (h4 : b + d ≤ f) : e ≤ (x + y).toInt ∧ (x + y).toInt ≤ f := by
  rw [i_add (by omega) (by omega)]; omega
theorem iv_sub (hx : a ≤ x.toInt ∧ x.toInt ≤ b) (hy : c ≤ y.toInt ∧ y.toInt ≤ d) (h1 : -2147483648 ≤ a - d) (h2 : b - c ≤ 2147483647) (h3 : e ≤ a - d) (h4 : b - c ≤ f) : e ≤ (x - y).toInt ∧ (x - y).toInt ≤ f := by
  rw [i_sub (by omega) (by omega)]; omega
theorem iv_mul (hx : a ≤ x.toInt ∧ x.toInt ≤ b) (hy : c ≤ y.toInt ∧ y.toInt ≤ d) (h1 : 0 ≤ a) (h2 : 0 ≤ c) (h3 : b * d ≤ 2147483647) (h4 : e ≤ a * c) (h5 : b * d ≤ f) : e ≤ (x * y).toInt ∧ (x * y).toInt ≤ f := by
  have l1 : a * c ≤ x.toInt * y.toInt := Int.mul_le_mul hx.1 hy.1 h2 (by omega)
  have l2 : x.toInt * y.toInt ≤ b * d := Int.mul_le_mul hx.2 hy.2 (by omega) (by omega)
  have l3 : 0 ≤ a * c := Int.mul_nonneg h1 h2
  rw [i_mul (by omega) (by omega)]; omega
theorem iv_mulc {k : Int} (hx : k ≤ x.toInt ∧ x.toInt ≤ k) (hy : c ≤ y.toInt ∧ y.toInt ≤ d) (h1 : 0 ≤ k) (h2 : -2147483648 ≤ k * c) (h3 : k * d ≤ 2147483647) (h4 : e ≤ k * c) (h5 : k * d ≤ f) : e ≤ (x * y).toInt ∧ (x * y).toInt ≤ f := by
  have hk : x.toInt = k := by omega
  have l1 : k * c ≤ k * y.toInt := Int.mul_le_mul_of_nonneg_left hy.1 h1
  have l2 : k * y.toInt ≤ k * d := Int.mul_le_mul_of_nonneg_left hy.2 h1
  rw [i_mul (by rw [hk]; omega) (by rw [hk]; omega), hk]; omega
theorem i_dv (h0 : 0 ≤ x.toInt) (hc : 0 < y.toInt) : (x / y).toInt = x.toInt / y.toInt := by
  rw [Int32.toInt_div, Int.tdiv_eq_ediv_of_nonneg h0]
  have h1 : x.toInt / y.toInt ≤ x.toInt := Int.ediv_le_self _ h0
  have h2 : 0 ≤ x.toInt / y.toInt := Int.ediv_nonneg h0 (by omega)
  have := i_hi x
  exact i_bm (by omega) (by omega)
theorem iv_div {k : Int} (hx : a ≤ x.toInt ∧ x.toInt ≤ b) (hy : k ≤ y.toInt ∧ y.toInt ≤ k) (h0 : 0 ≤ a) (hc : 0 < k) (h3 : e ≤ a / k) (h4 : b / k ≤ f) : e ≤ (x / y).toInt ∧ (x / y).toInt ≤ f := by
  have hk : y.toInt = k := by omega
  rw [i_dv (by omega) (by omega), hk]
  exact ⟨Int.le_trans h3 (Int.ediv_le_ediv hc hx.1), Int.le_trans (Int.ediv_le_ediv hc hx.2) h4⟩
theorem i_rem (h0 : 0 ≤ x.toInt) (hc : 0 < y.toInt) : (x - x / y * y).toInt = x.toInt % y.toInt := by
  have e1 := i_dv h0 hc
  have hm := Int.mul_ediv_add_emod x.toInt y.toInt
  have h1 := Int.emod_nonneg x.toInt (b := y.toInt) (by omega)
  have h2 := Int.emod_lt_of_pos x.toInt hc
  have h3 : 0 ≤ x.toInt / y.toInt * y.toInt := Int.mul_nonneg (Int.ediv_nonneg h0 (by omega)) (by omega)
  have hx := i_hi x
  rw [Int.mul_comm] at hm
  have e2 : (x / y * y).toInt = x.toInt / y.toInt * y.toInt := by rw [i_mul (by rw [e1]; omega) (by rw [e1]; omega), e1]
  rw [i_sub (by rw [e2]; omega) (by rw [e2]; omega), e2]; omega
theorem iv_rem {k : Int} (hx : a ≤ x.toInt ∧ x.toInt ≤ b) (hy : k ≤ y.toInt ∧ y.toInt ≤ k) (h0 : 0 ≤ a) (hc : 0 < k) (h3 : e ≤ 0) (h4 : k - 1 ≤ f) : e ≤ (x - x / y * y).toInt ∧ (x - x / y * y).toInt ≤ f := by
  have hk : y.toInt = k := by omega
  rw [i_rem (by omega) (by omega), hk]
  have h1 := Int.emod_nonneg x.toInt (b := k) (by omega)
  have h2 := Int.emod_lt_of_pos x.toInt hc
  omega
theorem i_nn (h : 0 ≤ x.toInt) : (x.toBitVec.toNat : Int) = x.toInt := by
  have e : x.toInt = x.toBitVec.toInt := rfl
  rw [e] at h ⊢
  rw [BitVec.toInt_eq_toNat_cond] at h ⊢
  have := x.toBitVec.isLt
  split at h <;> split <;> omega
theorem i_nn' (h : x.toBitVec.toNat < 2147483648) : x.toInt = x.toBitVec.toNat := by
  have e : x.toInt = x.toBitVec.toInt := rfl
  rw [e, BitVec.toInt_eq_toNat_cond, if_pos (by omega)]
theorem i_and (h : 0 ≤ y.toInt) : 0 ≤ (x &&& y).toInt ∧ (x &&& y).toInt ≤ y.toInt := by
  have e : (x &&& y).toBitVec.toNat = x.toBitVec.toNat &&& y.toBitVec.toNat := by rw [Int32.toBitVec_and, BitVec.toNat_and]
  have l : x.toBitVec.toNat &&& y.toBitVec.toNat ≤ y.toBitVec.toNat := Nat.and_le_right
  have n := i_nn h
  have hi := i_hi y
  rw [i_nn' (by omega)]; omega
theorem iv_and (hy : c ≤ y.toInt ∧ y.toInt ≤ d) (h0 : 0 ≤ c) (h1 : e ≤ 0) (h2 : d ≤ f) : e ≤ (x &&& y).toInt ∧ (x &&& y).toInt ≤ f := by
  have := i_and (x := x) (y := y) (by omega); omega
theorem iv_andl (hx : a ≤ x.toInt ∧ x.toInt ≤ b) (h0 : 0 ≤ a) (h1 : e ≤ 0) (h2 : b ≤ f) : e ≤ (x &&& y).toInt ∧ (x &&& y).toInt ≤ f := by
  have e1 : x &&& y = y &&& x := by apply Int32.toBitVec_inj.mp; rw [Int32.toBitVec_and, Int32.toBitVec_and, BitVec.and_comm]
  rw [e1]; exact iv_and hx h0 h1 h2
theorem iv_or {w : Nat} (hx : a ≤ x.toInt ∧ x.toInt ≤ b) (hy : c ≤ y.toInt ∧ y.toInt ≤ d) (h0 : 0 ≤ a) (h1 : 0 ≤ c) (hw : w ≤ 31) (h2 : b < 2 ^ w) (h3 : d < 2 ^ w) (h4 : e ≤ 0) (h5 : (2 : Int) ^ w - 1 ≤ f) : e ≤ (x ||| y).toInt ∧ (x ||| y).toInt ≤ f := by
  have n1 := i_nn (x := x) (by omega)
  have n2 := i_nn (x := y) (by omega)
  have c1 : ((2 ^ w : Nat) : Int) = 2 ^ w := by norm_cast
  have m1 : x.toBitVec.toNat < 2 ^ w := by omega
  have m2 : y.toBitVec.toNat < 2 ^ w := by omega
  have m3 := Nat.or_lt_two_pow m1 m2
  have e1 : (x ||| y).toBitVec.toNat = x.toBitVec.toNat ||| y.toBitVec.toNat := by rw [Int32.toBitVec_or, BitVec.toNat_or]
  have p : 2 ^ w ≤ 2 ^ 31 := Nat.pow_le_pow_right (by omega) hw
  rw [i_nn' (by omega)]; omega
theorem iv_xor {w : Nat} (hx : a ≤ x.toInt ∧ x.toInt ≤ b) (hy : c ≤ y.toInt ∧ y.toInt ≤ d) (h0 : 0 ≤ a) (h1 : 0 ≤ c) (hw : w ≤ 31) (h2 : b < 2 ^ w) (h3 : d < 2 ^ w) (h4 : e ≤ 0) (h5 : (2 : Int) ^ w - 1 ≤ f) : e ≤ (x ^^^ y).toInt ∧ (x ^^^ y).toInt ≤ f := by
  have n1 := i_nn (x := x) (by omega)
  have n2 := i_nn (x := y) (by omega)
  have c1 : ((2 ^ w : Nat) : Int) = 2 ^ w := by norm_cast
  have m1 : x.toBitVec.toNat < 2 ^ w := by omega
  have m2 : y.toBitVec.toNat < 2 ^ w := by omega
  have m3 := Nat.xor_lt_two_pow m1 m2
  have e1 : (x ^^^ y).toBitVec.toNat = x.toBitVec.toNat ^^^ y.toBitVec.toNat := by rw [Int32.toBitVec_xor, BitVec.toNat_xor]
  have p : 2 ^ w ≤ 2 ^ 31 := Nat.pow_le_pow_right (by omega) hw
  rw [i_nn' (by omega)]; omega
theorem i_eq (h : x.toInt = y.toInt) : x = y := Int32.toInt_inj.mp h
theorem i_x1 (h : 0 ≤ x.toInt) : (x ^^^ 1).toInt = x.toInt + 1 - 2 * (x.toInt % 2) := by
  have n1 := i_nn h
  have e1 : (x ^^^ 1).toBitVec.toNat = x.toBitVec.toNat ^^^ 1 := by rw [Int32.toBitVec_xor, BitVec.toNat_xor]; rfl
  have d1 : (x.toBitVec.toNat ^^^ 1) / 2 = x.toBitVec.toNat / 2 := by
    have := Nat.xor_div_two_pow (a := x.toBitVec.toNat) (b := 1) (n := 1)
    simpa using this
  have d2 : (x.toBitVec.toNat ^^^ 1) % 2 = (x.toBitVec.toNat + 1) % 2 := by
    have h2 := Nat.xor_mod_two_pow (a := x.toBitVec.toNat) (b := 1) (n := 1)
    have e2 : (2 : Nat) ^ 1 = 2 := rfl
    rw [e2] at h2
    rw [h2]
    rcases Nat.mod_two_eq_zero_or_one x.toBitVec.toNat with q | q
    · rw [q]; show 1 = _; omega
    · rw [q]; show 0 = _; omega
  have hi := i_hi x
  rw [i_nn' (by omega)]; omega
theorem iv_x1 (hx : a ≤ x.toInt ∧ x.toInt ≤ b) (hy : c ≤ y.toInt ∧ y.toInt ≤ d) (h0 : 0 ≤ a) (h1 : 0 ≤ c) (h2 : d ≤ 1) (h3 : e ≤ a / 2 * 2) (h4 : b / 2 * 2 + 1 ≤ f) : e ≤ (x ^^^ y).toInt ∧ (x ^^^ y).toInt ≤ f := by
  have hy0 : y.toInt = 0 ∨ y.toInt = 1 := by omega
  rcases hy0 with h | h
  · have : y = 0 := i_eq h
    subst this
    have e0 : x ^^^ 0 = x := by apply Int32.toBitVec_inj.mp; rw [Int32.toBitVec_xor]; exact BitVec.xor_zero
    rw [e0]; omega
  · have : y = 1 := i_eq h
    subst this
    rw [i_x1 (by omega)]; omega
theorem i_sm {k : Int32} (h0 : 0 ≤ k.toInt) (h1 : k.toInt ≤ 31) : ((k &&& 31).toBitVec.smod 32).toNat = k.toBitVec.toNat := by
  have n := i_nn h0
  have hk : k = Int32.ofNat k.toBitVec.toNat := by
    apply Int32.toBitVec_inj.mp
    show k.toBitVec = BitVec.ofNat 32 k.toBitVec.toNat
    simp
  have key : ∀ n : Nat, n < 32 → ((Int32.ofNat n &&& 31).toBitVec.smod 32).toNat = n := by decide +kernel
  have := key k.toBitVec.toNat (by omega)
  rwa [← hk] at this
theorem i_shl {k : Int32} (hx : 0 ≤ x.toInt) (h0 : 0 ≤ k.toInt) (h1 : k.toInt ≤ 31) (h2 : x.toInt * 2 ^ k.toBitVec.toNat ≤ 2147483647) : (x <<< (k &&& 31)).toInt = x.toInt * 2 ^ k.toBitVec.toNat := by
  have n := i_nn hx
  have e : (x <<< (k &&& 31)).toBitVec.toNat = x.toBitVec.toNat * 2 ^ k.toBitVec.toNat % 2 ^ 32 := by
    rw [Int32.toBitVec_shiftLeft]
    show (x.toBitVec <<< ((k &&& 31).toBitVec.smod 32).toNat).toNat = _
    rw [i_sm h0 h1, BitVec.toNat_shiftLeft, Nat.shiftLeft_eq]
  have c1 : ((x.toBitVec.toNat * 2 ^ k.toBitVec.toNat : Nat) : Int) = x.toInt * 2 ^ k.toBitVec.toNat := by rw [← n]; norm_cast
  rw [Nat.mod_eq_of_lt (by omega)] at e
  rw [i_nn' (by omega), e, c1]
theorem iv_shl {k : Int32} {p q : Nat} (hx : a ≤ x.toInt ∧ x.toInt ≤ b) (hk : (p : Int) ≤ k.toInt ∧ k.toInt ≤ (q : Int)) (h0 : 0 ≤ a) (hq : q ≤ 31) (h2 : b * 2 ^ q ≤ 2147483647) (h3 : e ≤ a * 2 ^ p) (h4 : b * 2 ^ q ≤ f) : e ≤ (x <<< (k &&& 31)).toInt ∧ (x <<< (k &&& 31)).toInt ≤ f := by
  have n := i_nn (x := k) (by omega)
  have p1 : (2 : Int) ^ p ≤ 2 ^ k.toBitVec.toNat := by
    have : 2 ^ p ≤ 2 ^ k.toBitVec.toNat := Nat.pow_le_pow_right (by omega) (by omega)
    exact_mod_cast this
  have p2 : (2 : Int) ^ k.toBitVec.toNat ≤ 2 ^ q := by
    have : 2 ^ k.toBitVec.toNat ≤ 2 ^ q := Nat.pow_le_pow_right (by omega) (by omega)
    exact_mod_cast this
  have p0 : (0 : Int) ≤ 2 ^ p := by exact_mod_cast Nat.zero_le (2 ^ p)
  have l1 : a * 2 ^ p ≤ x.toInt * 2 ^ k.toBitVec.toNat := Int.mul_le_mul hx.1 p1 p0 (by omega)
  have l2 : x.toInt * 2 ^ k.toBitVec.toNat ≤ b * 2 ^ q := Int.mul_le_mul hx.2 p2 (by omega) (by omega)
  rw [i_shl (by omega) (by omega) (by omega) (by omega)]
  exact ⟨Int.le_trans h3 l1, Int.le_trans l2 h4⟩
theorem i_shr {k : Int32} (hx : 0 ≤ x.toInt) (h0 : 0 ≤ k.toInt) (h1 : k.toInt ≤ 31) : (x >>> (k &&& 31)).toInt = x.toInt / 2 ^ k.toBitVec.toNat := by
  have n := i_nn hx
  have hi := i_hi x
  have e : (x >>> (k &&& 31)).toBitVec = x.toBitVec.sshiftRight k.toBitVec.toNat := by
    rw [Int32.toBitVec_shiftRight]
    show x.toBitVec.sshiftRight ((k &&& 31).toBitVec.smod 32).toNat = _
    rw [i_sm h0 h1]
  have e2 : (x >>> (k &&& 31)).toInt = (x.toBitVec.sshiftRight k.toBitVec.toNat).toInt := by rw [← e]; rfl
  rw [e2, BitVec.toInt_sshiftRight, Int.shiftRight_eq_div_pow]
  norm_cast
theorem iv_shr {k : Int32} {p q : Nat} (hx : a ≤ x.toInt ∧ x.toInt ≤ b) (hk : (p : Int) ≤ k.toInt ∧ k.toInt ≤ (q : Int)) (h0 : 0 ≤ a) (hq : q ≤ 31) (h3 : e ≤ a / 2 ^ q) (h4 : b / 2 ^ p ≤ f) : e ≤ (x >>> (k &&& 31)).toInt ∧ (x >>> (k &&& 31)).toInt ≤ f := by
  have n := i_nn (x := k) (by omega)
  have p1 : 2 ^ p ≤ 2 ^ k.toBitVec.toNat := Nat.pow_le_pow_right (by omega) (by omega)
  have p2 : 2 ^ k.toBitVec.toNat ≤ 2 ^ q := Nat.pow_le_pow_right (by omega) (by omega)
  have q0 : 0 < 2 ^ p := Nat.pow_pos (by omega)
  have q1 : 0 < 2 ^ k.toBitVec.toNat := Nat.pow_pos (by omega)
  rw [i_shr (by omega) (by omega) (by omega)]
  obtain ⟨X, hX⟩ : ∃ X : Nat, x.toInt = X := ⟨x.toInt.toNat, by omega⟩
  obtain ⟨A, hA⟩ : ∃ A : Nat, a = A := ⟨a.toNat, by omega⟩
  obtain ⟨B, hB⟩ : ∃ B : Nat, b = B := ⟨b.toNat, by omega⟩
  subst hA hB
  rw [hX] at hx ⊢
  have u1 : A / 2 ^ q ≤ X / 2 ^ k.toBitVec.toNat := Nat.le_trans (Nat.div_le_div_left p2 q1) (Nat.div_le_div_right (by omega))
  have u2 : X / 2 ^ k.toBitVec.toNat ≤ B / 2 ^ p := Nat.le_trans (Nat.div_le_div_left p1 q0) (Nat.div_le_div_right (by omega))
  have v1 : ((A / 2 ^ q : Nat) : Int) = (A : Int) / 2 ^ q := by norm_cast
  have v2 : ((X / 2 ^ k.toBitVec.toNat : Nat) : Int) = (X : Int) / 2 ^ k.toBitVec.toNat := by norm_cast
  have v3 : ((B / 2 ^ p : Nat) : Int) = (B : Int) / 2 ^ p := by norm_cast
  rw [← v1] at h3
  rw [← v3] at h4
  rw [← v2]
  omega
theorem i_lt0 (h : 0 ≤ x.toInt) : ¬ x < 0 := by
  rw [Int32.lt_iff_toInt_lt]
  have : (0 : Int32).toInt = 0 := by decide
  omega
theorem ix_ok {n : Nat} (hx : a ≤ x.toInt ∧ x.toInt ≤ b) (h0 : 0 ≤ a) (h1 : b < n) : ¬ (x < 0 ∨ n ≤ x.toNatClampNeg) := by
  have e : x.toNatClampNeg = x.toInt.toNat := rfl
  rintro (h | h)
  · exact i_lt0 (by omega) h
  · omega
theorem iv_b (hx : a ≤ x.toInt ∧ x.toInt ≤ b) (h0 : 0 ≤ a) (h1 : b ≤ 1) : x = 0 ∨ x = 1 := by
  have : x.toInt = 0 ∨ x.toInt = 1 := by omega
  rcases this with h | h
  · exact Or.inl (i_eq h)
  · exact Or.inr (i_eq h)
theorem iv_nz0 (hx : a ≤ x.toInt ∧ x.toInt ≤ b) (h0 : 0 < a) : ¬ x = 0 := by
  rintro rfl
  have : (0 : Int32).toInt = 0 := by decide
  omega
theorem c_lt (h : x < y) : x.toInt < y.toInt := Int32.lt_iff_toInt_lt.mp h
theorem c_le (h : x ≤ y) : x.toInt ≤ y.toInt := Int32.le_iff_toInt_le.mp h
theorem c_nlt (h : ¬ x < y) : y.toInt ≤ x.toInt := by rw [Int32.lt_iff_toInt_lt] at h; omega
theorem c_nle (h : ¬ x ≤ y) : y.toInt < x.toInt := by rw [Int32.le_iff_toInt_le] at h; omega
theorem c_eq (h : x = y) : x.toInt = y.toInt := by rw [h]
theorem c_ne (h : ¬ x = y) : ¬ x.toInt = y.toInt := fun q => h (i_eq q)
theorem nr_ltl (h : x < y) (hx : a ≤ x.toInt ∧ x.toInt ≤ b) (hy : c ≤ y.toInt ∧ y.toInt ≤ d) (h1 : e ≤ a) (h2 : d - 1 ≤ f) : e ≤ x.toInt ∧ x.toInt ≤ f := by have := c_lt h; omega
theorem nr_ltr (h : x < y) (hx : a ≤ x.toInt ∧ x.toInt ≤ b) (hy : c ≤ y.toInt ∧ y.toInt ≤ d) (h1 : e ≤ a + 1) (h2 : d ≤ f) : e ≤ y.toInt ∧ y.toInt ≤ f := by have := c_lt h; omega
theorem nr_lel (h : x ≤ y) (hx : a ≤ x.toInt ∧ x.toInt ≤ b) (hy : c ≤ y.toInt ∧ y.toInt ≤ d) (h1 : e ≤ a) (h2 : d ≤ f) : e ≤ x.toInt ∧ x.toInt ≤ f := by have := c_le h; omega
theorem nr_ler (h : x ≤ y) (hx : a ≤ x.toInt ∧ x.toInt ≤ b) (hy : c ≤ y.toInt ∧ y.toInt ≤ d) (h1 : e ≤ a) (h2 : d ≤ f) : e ≤ y.toInt ∧ y.toInt ≤ f := by have := c_le h; omega
theorem nr_nltl (h : ¬ y < x) (hx : a ≤ x.toInt ∧ x.toInt ≤ b) (hy : c ≤ y.toInt ∧ y.toInt ≤ d) (h1 : e ≤ a) (h2 : d ≤ f) : e ≤ x.toInt ∧ x.toInt ≤ f := by have := c_nlt h; omega
theorem nr_nltr (h : ¬ y < x) (hx : a ≤ x.toInt ∧ x.toInt ≤ b) (hy : c ≤ y.toInt ∧ y.toInt ≤ d) (h1 : e ≤ a) (h2 : d ≤ f) : e ≤ y.toInt ∧ y.toInt ≤ f := by have := c_nlt h; omega
theorem nr_nlel (h : ¬ y ≤ x) (hx : a ≤ x.toInt ∧ x.toInt ≤ b) (hy : c ≤ y.toInt ∧ y.toInt ≤ d) (h1 : e ≤ a) (h2 : d - 1 ≤ f) : e ≤ x.toInt ∧ x.toInt ≤ f := by have := c_nle h; omega
theorem nr_nler (h : ¬ y ≤ x) (hx : a ≤ x.toInt ∧ x.toInt ≤ b) (hy : c ≤ y.toInt ∧ y.toInt ≤ d) (h1 : e ≤ a + 1) (h2 : d ≤ f) : e ≤ y.toInt ∧ y.toInt ≤ f := by have := c_nle h; omega
theorem nr_eql (h : x = y) (hx : a ≤ x.toInt ∧ x.toInt ≤ b) (hy : c ≤ y.toInt ∧ y.toInt ≤ d) (h1 : e ≤ max a c) (h2 : min b d ≤ f) : e ≤ x.toInt ∧ x.toInt ≤ f := by have := c_eq h; omega
theorem nr_eqr (h : x = y) (hx : a ≤ x.toInt ∧ x.toInt ≤ b) (hy : c ≤ y.toInt ∧ y.toInt ≤ d) (h1 : e ≤ max a c) (h2 : min b d ≤ f) : e ≤ y.toInt ∧ y.toInt ≤ f := by have := c_eq h; omega
theorem nr_nela (h : ¬ x = y) (hx : a ≤ x.toInt ∧ x.toInt ≤ b) (hy : a ≤ y.toInt ∧ y.toInt ≤ a) (h1 : e ≤ a + 1) (h2 : b ≤ f) : e ≤ x.toInt ∧ x.toInt ≤ f := by have := c_ne h; omega
theorem nr_nelb (h : ¬ x = y) (hx : a ≤ x.toInt ∧ x.toInt ≤ b) (hy : b ≤ y.toInt ∧ y.toInt ≤ b) (h1 : e ≤ a) (h2 : b - 1 ≤ f) : e ≤ x.toInt ∧ x.toInt ≤ f := by have := c_ne h; omega
theorem nr_nera (h : ¬ x = y) (hx : c ≤ x.toInt ∧ x.toInt ≤ c) (hy : c ≤ y.toInt ∧ y.toInt ≤ d) (h1 : e ≤ c + 1) (h2 : d ≤ f) : e ≤ y.toInt ∧ y.toInt ≤ f := by have := c_ne h; omega
theorem nr_nerb (h : ¬ x = y) (hx : d ≤ x.toInt ∧ x.toInt ≤ d) (hy : c ≤ y.toInt ∧ y.toInt ≤ d) (h1 : e ≤ c) (h2 : d - 1 ≤ f) : e ≤ y.toInt ∧ y.toInt ≤ f := by have := c_ne h; omega
theorem dd_eq (h : x = y) (hx : a ≤ x.toInt ∧ x.toInt ≤ b) (hy : c ≤ y.toInt ∧ y.toInt ≤ d) (h1 : b < c ∨ d < a) : False := by have := c_eq h; omega
theorem dd_ne (h : ¬ x = y) (hx : a ≤ x.toInt ∧ x.toInt ≤ a) (hy : a ≤ y.toInt ∧ y.toInt ≤ a) : False := by have := c_ne h; omega
theorem dd_lt (h : x < y) (hx : a ≤ x.toInt ∧ x.toInt ≤ b) (hy : c ≤ y.toInt ∧ y.toInt ≤ d) (h1 : d ≤ a) : False := by have := c_lt h; omega
theorem dd_le (h : x ≤ y) (hx : a ≤ x.toInt ∧ x.toInt ≤ b) (hy : c ≤ y.toInt ∧ y.toInt ≤ d) (h1 : d < a) : False := by have := c_le h; omega
theorem dd_nlt (h : ¬ y < x) (hx : a ≤ x.toInt ∧ x.toInt ≤ b) (hy : c ≤ y.toInt ∧ y.toInt ≤ d) (h1 : d < a) : False := by have := c_nlt h; omega
theorem dd_nle (h : ¬ y ≤ x) (hx : a ≤ x.toInt ∧ x.toInt ≤ b) (hy : c ≤ y.toInt ∧ y.toInt ≤ d) (h1 : d ≤ a) : False := by have := c_nle h; omega
end IV
abbrev ok_I : Type := (Nat → Int × Int) × (Nat → Int × Int)
def okO (I : ok_I) (o : cf_O) : Prop := (∀ k, (I.1 k).1 ≤ (o.1 k).toInt ∧ (o.1 k).toInt ≤ (I.1 k).2) ∧ ∀ k i, (I.2 k).1 ≤ (o.2.1 k i).toInt ∧ (o.2.1 k i).toInt ≤ (I.2 k).2
theorem ok_fp {I : ok_I} {o : cf_O} {k : Nat} {v : Int32} (h : okO I o) (hv : (I.1 k).1 ≤ v.toInt ∧ v.toInt ≤ (I.1 k).2) : okO I (fp o k v) := by
  refine ⟨fun j => ?_, h.2⟩
  show (I.1 j).1 ≤ (bif Nat.beq j k then v else o.1 j).toInt ∧ (bif Nat.beq j k then v else o.1 j).toInt ≤ (I.1 j).2
  cases hj : Nat.beq j k
  · exact h.1 j
  · rw [Nat.eq_of_beq_eq_true hj]; exact hv
theorem ok_xp {I : ok_I} {o : cf_O} {k i : Nat} {v : Int32} (h : okO I o) (hv : (I.2 k).1 ≤ v.toInt ∧ v.toInt ≤ (I.2 k).2) : okO I (xp o k i v) := by
  refine ⟨h.1, fun j q => ?_⟩
  show (I.2 j).1 ≤ ((bif Nat.beq j k then upd (o.2.1 k) i v else o.2.1 j) q).toInt ∧ ((bif Nat.beq j k then upd (o.2.1 k) i v else o.2.1 j) q).toInt ≤ (I.2 j).2
  cases hj : Nat.beq j k
  · exact h.2 j q
  · rw [Nat.eq_of_beq_eq_true hj]
    show (I.2 k).1 ≤ (upd (o.2.1 k) i v q).toInt ∧ (upd (o.2.1 k) i v q).toInt ≤ (I.2 k).2
    unfold upd
    split
    · exact hv
    · exact h.2 k q
theorem ok_yp {I : ok_I} {o : cf_O} {k i : Nat} {v : Int64} (h : okO I o) : okO I (yp o k i v) := h
abbrev fr_S : Type := (Nat → Bool) × (Nat → Bool) × (Nat → Bool)
def Fr (S : fr_S) (a b : cf_O) : Prop := (∀ k, S.1 k = false → b.1 k = a.1 k) ∧ (∀ k, S.2.1 k = false → b.2.1 k = a.2.1 k) ∧ ∀ k, S.2.2 k = false → b.2.2 k = a.2.2 k
theorem fr_rfl {S : fr_S} {a : cf_O} : Fr S a a := ⟨fun _ _ => rfl, fun _ _ => rfl, fun _ _ => rfl⟩
theorem fr_fp {S : fr_S} {a b : cf_O} {k : Nat} {v : Int32} (h : Fr S a b) (hk : S.1 k = true) : Fr S a (fp b k v) := by
  refine ⟨fun j hj => ?_, h.2⟩
  show (bif Nat.beq j k then v else b.1 j) = a.1 j
  cases q : Nat.beq j k
  · exact h.1 j hj
  · rw [Nat.eq_of_beq_eq_true q, hk] at hj; cases hj
theorem fr_xp {S : fr_S} {a b : cf_O} {k i : Nat} {v : Int32} (h : Fr S a b) (hk : S.2.1 k = true) : Fr S a (xp b k i v) := by
  refine ⟨h.1, fun j hj => ?_, h.2.2⟩
  show (bif Nat.beq j k then upd (b.2.1 k) i v else b.2.1 j) = a.2.1 j
  cases q : Nat.beq j k
  · exact h.2.1 j hj
  · rw [Nat.eq_of_beq_eq_true q, hk] at hj; cases hj
theorem fr_yp {S : fr_S} {a b : cf_O} {k i : Nat} {v : Int64} (h : Fr S a b) (hk : S.2.2 k = true) : Fr S a (yp b k i v) := by
  refine ⟨h.1, h.2.1, fun j hj => ?_⟩
  show (bif Nat.beq j k then vp_updL (b.2.2 k) i v else b.2.2 j) = a.2.2 j
  cases q : Nat.beq j k
  · exact h.2.2 j hj
  · rw [Nat.eq_of_beq_eq_true q, hk] at hj; cases hj
def fr_L (l : List Nat) (k : Nat) : Bool := l.any (Nat.beq k)
def fr_M (a b c : List Nat) : fr_S := (fr_L a, fr_L b, fr_L c)
theorem fr_any {l m : List Nat} (h : l.all (fr_L m) = true) {k : Nat} (hk : fr_L m k = false) : fr_L l k = false := by
  induction l with
  | nil => rfl
  | cons x l ih =>
    unfold List.all at h
    rw [Bool.and_eq_true] at h
    have h1 := ih h.2
    have h2 := h.1
    show (Nat.beq k x || fr_L l k) = false
    rw [h1, Bool.or_false]
    cases q : Nat.beq k x
    · rfl
    · rw [Nat.eq_of_beq_eq_true q] at hk; rw [hk] at h2; cases h2
theorem fr_tr {a1 a2 a3 b1 b2 b3 : List Nat} {a b c : cf_O} (h : Fr (fr_M b1 b2 b3) a b) (g : Fr (fr_M a1 a2 a3) b c) (h1 : a1.all (fr_L b1) = true) (h2 : a2.all (fr_L b2) = true) (h3 : a3.all (fr_L b3) = true) : Fr (fr_M b1 b2 b3) a c :=
  ⟨fun k hk => (g.1 k (fr_any h1 hk)).trans (h.1 k hk), fun k hk => (g.2.1 k (fr_any h2 hk)).trans (h.2.1 k hk), fun k hk => (g.2.2 k (fr_any h3 hk)).trans (h.2.2 k hk)⟩
theorem fr_iv {S : fr_S} {a b : cf_O} {k : Nat} {l h : Int} (f : Fr S a b) (hk : S.1 k = false) (i : l ≤ (a.1 k).toInt ∧ (a.1 k).toInt ≤ h) : l ≤ (b.1 k).toInt ∧ (b.1 k).toInt ≤ h := by rw [f.1 k hk]; exact i
theorem iv_nz (x : Int32) : (0 : Int) ≤ (vp_nar .boolean x).toInt ∧ (vp_nar .boolean x).toInt ≤ 1 := iv_and (y := 1) (c := 1) (d := 1) (by decide) (by decide) (by decide) (by decide)
theorem tt_bb {α β γ : Type} {x : Option γ} {h : γ → Option β} {f : β → Option α} {Q : α → Prop} (k : tt (x.bind (fun a => (h a).bind f)) Q) : tt ((x.bind h).bind f) Q := by
  cases x with
  | none => exact k
  | some a => exact k
theorem tt_bkl {α β : Type} {e : Int64} {g : Int64 → Option β} {f : β → Option α} {Q : α → Prop} (k : ∀ x, tt ((g x).bind f) Q) : tt ((op_k e g).bind f) Q := k e
theorem ix_rel {x : Int32} {n : Nat} (h0 : 0 ≤ x.toInt) (h1 : x.toInt < n) : ¬ (x < 0 ∨ n ≤ x.toNatClampNeg) := ix_ok (a := 0) (b := (n : Int) - 1) ⟨h0, by omega⟩ (by omega) (by omega)
theorem iq_add {x y : Int32} {a b c d : Int} (hx : a ≤ x.toInt ∧ x.toInt ≤ b) (hy : c ≤ y.toInt ∧ y.toInt ≤ d) (h1 : -2147483648 ≤ a + c) (h2 : b + d ≤ 2147483647) : (x + y).toInt = x.toInt + y.toInt := i_add (by omega) (by omega)
theorem iq_sub {x y : Int32} {a b c d : Int} (hx : a ≤ x.toInt ∧ x.toInt ≤ b) (hy : c ≤ y.toInt ∧ y.toInt ≤ d) (h1 : -2147483648 ≤ a - d) (h2 : b - c ≤ 2147483647) : (x - y).toInt = x.toInt - y.toInt := i_sub (by omega) (by omega)
theorem iq_mul {x y : Int32} {a b c d : Int} (hx : a ≤ x.toInt ∧ x.toInt ≤ b) (hy : c ≤ y.toInt ∧ y.toInt ≤ d) (h1 : 0 ≤ a) (h2 : 0 ≤ c) (h3 : b * d ≤ 2147483647) (h4 : (0 : Int) ≤ 0) : (x * y).toInt = x.toInt * y.toInt := by
  have l1 : 0 ≤ x.toInt * y.toInt := Int.mul_nonneg (by omega) (by omega)
  have l2 : x.toInt * y.toInt ≤ b * d := Int.mul_le_mul hx.2 hy.2 (by omega) (by omega)
  exact i_mul (by omega) (by omega)
theorem iv_remv {x y : Int32} {a b c d e f : Int} (hx : a ≤ x.toInt ∧ x.toInt ≤ b) (hy : c ≤ y.toInt ∧ y.toInt ≤ d) (h0 : 0 ≤ a) (hc : 0 < c) (h3 : e ≤ 0) (h4 : d - 1 ≤ f) : e ≤ (x - x / y * y).toInt ∧ (x - x / y * y).toInt ≤ f := by
  rw [i_rem (by omega) (by omega)]
  have h1 := Int.emod_nonneg x.toInt (b := y.toInt) (by omega)
  have h2 := Int.emod_lt_of_pos x.toInt (b := y.toInt) (by omega)
  omega
theorem iv_divv {x y : Int32} {a b c d e f : Int} (hx : a ≤ x.toInt ∧ x.toInt ≤ b) (hy : c ≤ y.toInt ∧ y.toInt ≤ d) (h0 : 0 ≤ a) (hc : 0 < c) (h3 : e ≤ 0) (h4 : b ≤ f) : e ≤ (x / y).toInt ∧ (x / y).toInt ≤ f := by
  rw [i_dv (by omega) (by omega)]
  have h1 : x.toInt / y.toInt ≤ x.toInt := Int.ediv_le_self _ (by omega)
  have h2 : 0 ≤ x.toInt / y.toInt := Int.ediv_nonneg (by omega) (by omega)
  omega
theorem tn_n (x : Int32) : (x.toNatClampNeg : Int) = max 0 x.toInt := by
  have e : x.toNatClampNeg = x.toInt.toNat := rfl
  omega
theorem up_s (f : Nat → Int32) (i : Nat) (v : Int32) : upd f i v i = v := by unfold upd; exact if_pos rfl
theorem up_o {f : Nat → Int32} {i j : Nat} {v : Int32} (h : ¬ j = i) : upd f i v j = f j := by unfold upd; exact if_neg h
theorem xp_same {o : cf_O} {k i : Nat} {v : Int32} : (xp o k i v).2.1 k i = v := by
  show (bif Nat.beq k k then upd (o.2.1 k) i v else o.2.1 k) i = v
  rw [Nat.beq_refl]
  show upd (o.2.1 k) i v i = v
  unfold upd
  exact if_pos rfl
abbrev Tn (n : Int32) (f : Nat → Int32) : Prop := ∀ i : Nat, (i : Int) < n.toInt → 1 ≤ (f i).toInt
theorem Tn_0 (f : Nat → Int32) : Tn 0 f := fun i h => by
  have : (0 : Int32).toInt = 0 := by decide
  omega
theorem Tn_u {n v : Int32} {f : Nat → Int32} {i : Nat} (h : Tn n f) (hv : 1 ≤ v.toInt) : Tn n (upd f i v) := fun j hj => by
  unfold upd
  split
  · exact hv
  · exact h j hj
theorem Tn_s {n x : Int32} {f : Nat → Int32} (h : Tn n f) (hx : x.toInt = n.toInt + 1) (h1 : 1 ≤ (f n.toNatClampNeg).toInt) : Tn x f := fun j hj => by
  rcases (show (j : Int) < n.toInt ∨ n.toInt ≤ (j : Int) by omega) with q | q
  · exact h j q
  · have e := tn_n n
    have : j = n.toNatClampNeg := by omega
    rw [this]; exact h1
theorem iv_subo {x y : Int32} {a b : Int} (h1 : a ≤ x.toInt - y.toInt) (h2 : x.toInt - y.toInt ≤ b) (h3 : -2147483648 ≤ a) (h4 : b ≤ 2147483647) : a ≤ (x - y).toInt ∧ (x - y).toInt ≤ b := by
  rw [i_sub (by omega) (by omega)]; exact ⟨h1, h2⟩
theorem sh_one {j : Int32} (h0 : 0 ≤ j.toInt) (h1 : j.toInt ≤ 30) : ((1 : Int32) <<< (j &&& 31)).toInt = ((2 ^ j.toBitVec.toNat : Nat) : Int) := by
  have n := i_nn h0
  have p : 2 ^ j.toBitVec.toNat ≤ 2 ^ 30 := Nat.pow_le_pow_right (by omega) (by omega)
  have c : ((2 ^ j.toBitVec.toNat : Nat) : Int) = 2 ^ j.toBitVec.toNat := by norm_cast
  have e1 : (1 : Int32).toInt = 1 := by decide
  rw [i_shl (by decide) h0 (by omega) (by rw [e1]; omega), e1, c]; omega
theorem bit_ix {s r j d X Y : Int32} (hj : 0 ≤ j.toInt) (hd1 : 1 ≤ d.toInt) (hn : j.toInt + d.toInt ≤ 8) (hs0 : 0 ≤ s.toInt) (hs : s.toInt < ((1 : Int32) <<< (j &&& (31 : Int32))).toInt) (hr0 : 0 ≤ r.toInt) (hY : Y = (1 : Int32) <<< (d &&& 31)) (hr : r.toInt < Y.toInt) (hX : X = r <<< (j &&& 31)) : 0 ≤ (s ||| X).toInt ∧ (s ||| X).toInt ≤ 255 := by
  rw [hY, sh_one (by omega) (by omega)] at hr
  rw [sh_one (by omega) (by omega)] at hs
  have n1 := i_nn hj
  have n2 := i_nn (x := d) (by omega)
  obtain ⟨R, hR⟩ : ∃ R : Nat, r.toInt = R := ⟨r.toInt.toNat, by omega⟩
  have p1 : 2 ^ j.toBitVec.toNat ≤ 2 ^ 8 := Nat.pow_le_pow_right (by omega) (by omega)
  have p2 : 2 ^ d.toBitVec.toNat * 2 ^ j.toBitVec.toNat ≤ 2 ^ 8 := by rw [← Nat.pow_add]; exact Nat.pow_le_pow_right (by omega) (by omega)
  have p3 : (R + 1) * 2 ^ j.toBitVec.toNat ≤ 2 ^ d.toBitVec.toNat * 2 ^ j.toBitVec.toNat := Nat.mul_le_mul_right _ (by omega)
  have p4 : 0 < 2 ^ j.toBitVec.toNat := Nat.pow_pos (by omega)
  rw [Nat.succ_mul] at p3
  have e : r.toInt * 2 ^ j.toBitVec.toNat = ((R * 2 ^ j.toBitVec.toNat : Nat) : Int) := by rw [hR]; norm_cast
  have hx : X.toInt = ((R * 2 ^ j.toBitVec.toNat : Nat) : Int) := by rw [hX, i_shl hr0 hj (by omega) (by rw [e]; omega), e]
  exact iv_or (w := 8) (a := 0) (b := 255) (c := 0) (d := 255) ⟨hs0, by omega⟩ ⟨by omega, by omega⟩ (by decide) (by decide) (by decide) (by decide) (by decide) (by decide) (by decide)
def lg5 (x : Int64) : Int := if x.toInt ≤ 0 then 0 else (Nat.log2 x.toInt.toNat / 5 + 1 : Nat)
theorem lg5_0 (x : Int64) : 0 ≤ lg5 x := by unfold lg5; split <;> omega
theorem lg5_13 (x : Int64) : lg5 x ≤ 13 := by
  unfold lg5
  split
  · omega
  · have h := Int64.toInt_lt x
    have hl : Nat.log2 x.toInt.toNat < 63 := (Nat.log2_lt (by omega)).mpr (by omega)
    omega
theorem lg5_s {x : Int64} (h : 0 < x.toInt) : lg5 (x >>> (((5 : Int32).toInt64) &&& 63)) = lg5 x - 1 := by
  have e : (x >>> (((5 : Int32).toInt64) &&& 63)).toInt = x.toInt / 32 := by
    have e1 : (x >>> (((5 : Int32).toInt64) &&& 63)).toBitVec = x.toBitVec.sshiftRight 5 := by
      rw [Int64.toBitVec_shiftRight]
      show x.toBitVec.sshiftRight ((((5 : Int32).toInt64) &&& 63).toBitVec.smod 64).toNat = _
      rw [show ((((5 : Int32).toInt64) &&& 63).toBitVec.smod 64).toNat = 5 by decide +kernel]
    have e2 : (x >>> (((5 : Int32).toInt64) &&& 63)).toInt = (x.toBitVec.sshiftRight 5).toInt := by rw [← e1]; rfl
    rw [e2, BitVec.toInt_sshiftRight, Int.shiftRight_eq_div_pow]
    rfl
  obtain ⟨n, hn⟩ : ∃ n : Nat, x.toInt = n := ⟨x.toInt.toNat, by omega⟩
  unfold lg5
  rw [e, hn]
  by_cases h32 : n < 32
  · have hl : Nat.log2 n < 5 := (Nat.log2_lt (by omega)).mpr (by omega)
    rw [if_pos (by omega), if_neg (by omega)]
    simp only [Int.toNat_natCast]
    omega
  · rw [if_neg (by omega), if_neg (by omega)]
    have e3 : ((n : Int) / 32).toNat = n / 32 := by omega
    have e4 : n / 32 = n / 2 / 2 / 2 / 2 / 2 := by omega
    have l1 : Nat.log2 n = Nat.log2 (n / 2) + 1 := by rw [Nat.log2_def, if_pos (by omega)]
    have l2 : Nat.log2 (n / 2) = Nat.log2 (n / 2 / 2) + 1 := by rw [Nat.log2_def, if_pos (by omega)]
    have l3 : Nat.log2 (n / 2 / 2) = Nat.log2 (n / 2 / 2 / 2) + 1 := by rw [Nat.log2_def, if_pos (by omega)]
    have l4 : Nat.log2 (n / 2 / 2 / 2) = Nat.log2 (n / 2 / 2 / 2 / 2) + 1 := by rw [Nat.log2_def, if_pos (by omega)]
    have l5 : Nat.log2 (n / 2 / 2 / 2 / 2) = Nat.log2 (n / 2 / 2 / 2 / 2 / 2) + 1 := by rw [Nat.log2_def, if_pos (by omega)]
    rw [e3, e4]
    simp only [Int.toNat_natCast]
    omega
theorem iv_divn {x y : Int32} {k a b e f : Int} (hx : a ≤ x.toInt ∧ x.toInt ≤ b) (hy : k ≤ y.toInt ∧ y.toInt ≤ k) (h0 : -k < a) (hc : 0 < k) (hb : 0 ≤ b) (h3 : e ≤ 0) (h4 : b / k ≤ f) : e ≤ (x / y).toInt ∧ (x / y).toInt ≤ f := by
  have hk : y.toInt = k := by omega
  by_cases h : 0 ≤ x.toInt
  · rw [i_dv h (by omega), hk]
    have h1 : 0 ≤ x.toInt / k := Int.ediv_nonneg h (by omega)
    have h2 : x.toInt / k ≤ b / k := Int.ediv_le_ediv hc hx.2
    omega
  · have e1 : (x / y).toInt = 0 := by
      rw [Int32.toInt_div, hk]
      have : x.toInt.tdiv k = 0 := by
        obtain ⟨n, hn⟩ : ∃ n : Int, x.toInt = -n := ⟨-x.toInt, by omega⟩
        rw [hn, Int.neg_tdiv, Int.tdiv_eq_ediv_of_nonneg (by omega), Int.ediv_eq_zero_of_lt (by omega) (by omega)]
        rfl
      rw [this]
      decide
    have h5 : 0 ≤ b / k := Int.ediv_nonneg hb (by omega)
    rw [e1]; omega
abbrev Fp (f : Nat → Int32) : Prop := ∀ j : Nat, j % 4 = 2 → 0 ≤ (f j).toInt ∧ (f j).toInt ≤ 3
theorem Fp_u {f : Nat → Int32} {i : Nat} {v : Int32} (h : Fp f) (hv : i % 4 = 2 → 0 ≤ v.toInt ∧ v.toInt ≤ 3) : Fp (upd f i v) := fun j hj => by
  unfold upd
  split
  · rename_i e; exact hv (by rw [← e]; exact hj)
  · exact h j hj
abbrev Mt (f : Nat → Int32) : Prop := ∀ j : Nat, (j % 5 = 1 → 0 ≤ (f j).toInt ∧ (f j).toInt ≤ 11) ∧ (2 ≤ j % 5 → -1 ≤ (f j).toInt ∧ (f j).toInt ≤ 417)
theorem Mt_u {f : Nat → Int32} {i : Nat} {v : Int32} (h : Mt f) (hv : (i % 5 = 1 → 0 ≤ v.toInt ∧ v.toInt ≤ 11) ∧ (2 ≤ i % 5 → -1 ≤ v.toInt ∧ v.toInt ≤ 417)) : Mt (upd f i v) := fun j => by
  unfold upd
  split
  · rename_i e; rw [e]; exact hv
  · exact h j
abbrev Mp (p : Int32) (f : Nat → Int32) : Prop := ∀ j : Nat, 2 ≤ j → (j : Int) < 2 + p.toInt → 0 ≤ (f j).toInt
theorem Mp_u {p : Int32} {f : Nat → Int32} {i : Nat} {v : Int32} (h : Mp p f) (hv : 2 ≤ i → (i : Int) < 2 + p.toInt → 0 ≤ v.toInt) : Mp p (upd f i v) := fun j h1 h2 => by
  unfold upd
  split
  · rename_i e; rw [e] at h1 h2; exact hv h1 h2
  · exact h j h1 h2
abbrev Mq (k p : Int32) (f : Nat → Int32) : Prop := ∀ j : Nat, 2 ≤ j → (j : Int) < 2 + k.toInt → (j : Int) < 2 + p.toInt → 0 ≤ (f j).toInt
theorem Mq_0 (p : Int32) (f : Nat → Int32) : Mq 0 p f := fun j h1 h2 h3 => by
  have : (0 : Int32).toInt = 0 := by decide
  omega
theorem Mq_s {k k2 p : Int32} {f : Nat → Int32} {i : Nat} {v : Int32} (h : Mq k p f) (hk : k2.toInt = k.toInt + 1) (hi : (i : Int) = 2 + k.toInt) (hv : k.toInt < p.toInt → 0 ≤ v.toInt) : Mq k2 p (upd f i v) := fun j h1 h2 h3 => by
  unfold upd
  split
  · exact hv (by omega)
  · exact h j h1 (by omega) h3
theorem Mq_e {k p : Int32} {f : Nat → Int32} (h : Mq k p f) (hk : p.toInt ≤ k.toInt) : Mp p f := fun j h1 h2 => h j h1 (by omega) h2
def nz (f : Nat → Int32) : Nat → Int
  | 0 => 0
  | n + 1 => nz f n + (if (f n).toInt = 0 then 1 else 0)
theorem nz_b (f : Nat → Int32) (n : Nat) : 0 ≤ nz f n ∧ nz f n ≤ (n : Int) := by
  induction n with
  | zero => exact ⟨Int.le_refl 0, Int.le_refl 0⟩
  | succ n ih =>
    show 0 ≤ nz f n + (if (f n).toInt = 0 then 1 else 0) ∧ nz f n + (if (f n).toInt = 0 then 1 else 0) ≤ ((n + 1 : Nat) : Int)
    split <;> omega
theorem nz_same (f : Nat → Int32) (i : Nat) (v : Int32) : ∀ n, n ≤ i → nz (upd f i v) n = nz f n := by
  intro n
  induction n with
  | zero => intro _; rfl
  | succ n ih =>
    intro h
    show nz (upd f i v) n + (if (upd f i v n).toInt = 0 then 1 else 0) = nz f n + (if (f n).toInt = 0 then 1 else 0)
    rw [ih (by omega), show upd f i v n = f n by unfold upd; exact if_neg (by omega)]
theorem nz_u (f : Nat → Int32) (i : Nat) (v : Int32) (h0 : (f i).toInt = 0) (hv : ¬ v.toInt = 0) : ∀ n, i < n → nz (upd f i v) n = nz f n - 1 := by
  intro n
  induction n with
  | zero => intro h; omega
  | succ n ih =>
    intro h
    show nz (upd f i v) n + (if (upd f i v n).toInt = 0 then 1 else 0) = nz f n + (if (f n).toInt = 0 then 1 else 0) - 1
    by_cases e : i = n
    · subst e
      rw [nz_same f i v i (by omega), show upd f i v i = v by unfold upd; exact if_pos rfl, if_neg hv, if_pos h0]; omega
    · rw [ih (by omega), show upd f i v n = f n by unfold upd; exact if_neg (by omega)]; omega
theorem nz_x {o : cf_O} {k i n : Nat} {v : Int32} (hi : i < n) (h0 : (o.2.1 k i).toInt = 0) (hv : ¬ v.toInt = 0) : nz ((xp o k i v).2.1 k) n = nz (o.2.1 k) n - 1 := by
  have e : (xp o k i v).2.1 k = upd (o.2.1 k) i v := by
    show (bif Nat.beq k k then upd (o.2.1 k) i v else o.2.1 k) = _
    rw [Nat.beq_refl]; rfl
  rw [e]; exact nz_u _ _ _ h0 hv n hi
abbrev Rf (rc rf tn : Nat → Int32) : Prop := ∀ t r j : Nat, j = 16 * t + r → (r : Int) < (rc t).toInt → (rf j).toInt + (tn t).toInt ≤ 1601
theorem Rf_row {rc rf tn : Nat → Int32} {t i : Nat} {v c : Int32} (h : Rf rc rf tn) (hb : ∀ t, (rc t).toInt ≤ 16) (ht : (rc t).toInt ≤ 15) (h0 : 0 ≤ (rc t).toInt) (hi : (i : Int) = 16 * (t : Int) + (rc t).toInt) (hc : c.toInt = (rc t).toInt + 1) (hv : v.toInt + (tn t).toInt ≤ 1601) : Rf (upd rc t c) (upd rf i v) tn := fun t2 r j hj hr => by
  have hb2 := hb t2
  unfold upd at hr ⊢
  by_cases e : t2 = t
  · subst e
    rw [if_pos rfl] at hr
    by_cases e2 : j = i
    · rw [if_pos e2]; exact hv
    · rw [if_neg e2]; exact h t2 r j hj (by omega)
  · rw [if_neg e] at hr
    rw [if_neg (by omega)]
    exact h t2 r j hj hr
theorem Rf_tab {rc rf tn : Nat → Int32} {t i : Nat} {w c : Int32} (h : Rf rc rf tn) (hc : c.toInt = 0) (hi : i = t) : Rf (upd rc t c) rf (upd tn i w) := fun t2 r j hj hr => by
  subst hi
  unfold upd at hr ⊢
  by_cases e : t2 = i
  · rw [if_pos e, hc] at hr; omega
  · rw [if_neg e] at hr ⊢; exact h t2 r j hj hr
theorem nz_q {o : cf_O} {k i n : Nat} {v : Int32} : (i < n ∧ (o.2.1 k i).toInt = 0 ∧ ¬ v.toInt = 0) → nz ((xp o k i v).2.1 k) n = nz (o.2.1 k) n - 1 := fun h => nz_x h.1 h.2.1 h.2.2
theorem nz_w {f : Nat → Int32} {i n : Nat} {v : Int32} : (i < n ∧ (f i).toInt = 0 ∧ ¬ v.toInt = 0) → nz (upd f i v) n = nz f n - 1 := fun h => nz_u f i v h.2.1 h.2.2 n h.1
theorem tt_klr {α : Type} {e : Int64} {f : Int64 → Option α} {Q : α → Prop} (k : ∀ x, x = e → tt (f x) Q) : tt (op_k e f) Q := k e rfl
theorem lg5_w {v x : Int64} {y : Int32} (hy : y = lg_cmp v 0) (hx : x = v >>> (((5 : Int32).toInt64) &&& 63)) : y.toInt ≤ 0 ∨ lg5 x = lg5 v - 1 := by
  by_cases h : 0 < v.toInt
  · right; rw [hx]; exact lg5_s h
  · left
    rw [hy]
    unfold lg_cmp
    have z : (0 : Int64).toInt = 0 := by decide
    have h1 : ¬ v > 0 := fun q => h (by have := Int64.lt_iff_toInt_lt.mp q; omega)
    rw [if_neg h1]
    split <;> decide
def czb (f k : Int32) : Int := if ((f >>> ((8 * k) &&& 31)) &&& 255).toInt = 0 then 0 else 1
def cz (f : Int32) (k : Int) : Int := (if k ≤ 0 then czb f 0 else 0) + (if k ≤ 1 then czb f 1 else 0) + (if k ≤ 2 then czb f 2 else 0) + (if k ≤ 3 then czb f 3 else 0)
theorem czb_b (f k : Int32) : 0 ≤ czb f k ∧ czb f k ≤ 1 := by unfold czb; split <;> decide
theorem cz_b (f : Int32) (k : Int) : 0 ≤ cz f k ∧ cz f k ≤ 4 := by
  have h0 := czb_b f 0
  have h1 := czb_b f 1
  have h2 := czb_b f 2
  have h3 := czb_b f 3
  unfold cz
  repeat' split
  all_goals omega
theorem cz_e (f : Int32) (k : Int) (h : 4 ≤ k) : cz f k = 0 := by
  unfold cz
  rw [if_neg (by omega), if_neg (by omega), if_neg (by omega), if_neg (by omega)]; rfl
theorem cz_h {f k x4 x6 x8 : Int32} (h4 : x4 = 8 * k) (h6 : x6 = f >>> (x4 &&& 31)) (h8 : x8 = x6 &&& 255) : (0 ≤ k.toInt ∧ k.toInt ≤ 3) → (x8.toInt = 0 ∧ cz f k.toInt = cz f (k.toInt + 1)) ∨ (¬ x8.toInt = 0 ∧ cz f k.toInt = cz f (k.toInt + 1) + 1) := fun hk => by
  have e : czb f k = if x8.toInt = 0 then 0 else 1 := by rw [h8, h6, h4]; rfl
  have c : k = 0 ∨ k = 1 ∨ k = 2 ∨ k = 3 := by
    have : k.toInt = 0 ∨ k.toInt = 1 ∨ k.toInt = 2 ∨ k.toInt = 3 := by omega
    rcases this with q | q | q | q
    · exact Or.inl (i_eq q)
    · exact Or.inr (Or.inl (i_eq q))
    · exact Or.inr (Or.inr (Or.inl (i_eq q)))
    · exact Or.inr (Or.inr (Or.inr (i_eq q)))
  have e0 : (0 : Int32).toInt = 0 := by decide
  have e1 : (1 : Int32).toInt = 1 := by decide
  have e2 : (2 : Int32).toInt = 2 := by decide
  have e3 : (3 : Int32).toInt = 3 := by decide
  by_cases hx : x8.toInt = 0
  · rw [if_pos hx] at e
    refine Or.inl ⟨hx, ?_⟩
    rcases c with q | q | q | q <;> subst q <;> simp only [cz, e0, e1, e2, e3, e] <;> simp
  · rw [if_neg hx] at e
    refine Or.inr ⟨hx, ?_⟩
    rcases c with q | q | q | q <;> subst q <;> simp only [cz, e0, e1, e2, e3, e] <;> simp <;> omega
theorem lg5_p {v : Int64} {y : Int32} (hy : y = lg_cmp v 0) : y.toInt ≤ 0 ∨ 1 ≤ lg5 v := by
  rcases lg5_w hy rfl with h | h
  · exact Or.inl h
  · right
    have := lg5_0 (v >>> (((5 : Int32).toInt64) &&& 63))
    omega
abbrev Cv (c a b : Int32) (f : Nat → Int32) : Prop := ∀ i : Nat, (i : Int) < c.toInt → 1 ≤ (f i).toInt ∧ (f i).toInt ≤ a.toInt + b.toInt
theorem Cv_0 (a b : Int32) (f : Nat → Int32) : Cv 0 a b f := fun i h => by
  have : (0 : Int32).toInt = 0 := by decide
  omega
theorem Cv_s {c c2 a b v : Int32} {f : Nat → Int32} {i : Nat} (h : Cv c a b f) (hc : c2.toInt = c.toInt + 1) (hi : (i : Int) = c.toInt) (hv : 1 ≤ v.toInt ∧ v.toInt ≤ a.toInt + b.toInt) : Cv c2 a b (upd f i v) := fun j hj => by
  unfold upd
  split
  · exact hv
  · exact h j (by omega)
abbrev Ch (z c a b : Int32) (f : Nat → Int32) : Prop := z.toInt = 1 → Cv c a b f
theorem Ch_at {z c a b : Int32} {f : Nat → Int32} (h : Ch z c a b f) (i : Nat) : z.toInt = 1 → (i : Int) < c.toInt → 1 ≤ (f i).toInt ∧ (f i).toInt ≤ a.toInt + b.toInt := fun q => h q i
abbrev Cn (cs cn : Nat → Int32) : Prop := ∀ c k j : Nat, j = 5 * c + k → (k : Int) < (cs c).toInt → 1 ≤ (cn j).toInt
theorem Cn_al {cs cn : Nat → Int32} {a i : Nat} {v w : Int32} (h : Cn cs cn) (hb : ∀ c, (cs c).toInt ≤ 5) (hi : (i : Int) = 5 * (a : Int)) (hv : v.toInt ≤ 0 ∨ (v.toInt = 1 ∧ 1 ≤ w.toInt)) : Cn (upd cs a v) (upd cn i w) := fun c k j hj hk => by
  have hb2 := hb c
  unfold upd at hk ⊢
  by_cases e : c = a
  · rw [if_pos e] at hk
    rw [if_pos (by omega)]
    omega
  · rw [if_neg e] at hk
    rw [if_neg (by omega)]
    exact h c k j hj hk
abbrev Cw (at_ v : Int32) (cs cn : Nat → Int32) : Prop := ∀ c k j : Nat, j = 5 * c + k → (k : Int) < (cs c).toInt → (c = at_.toNatClampNeg → (k : Int) < v.toInt) → 1 ≤ (cn j).toInt
theorem Cw_0 {cs cn : Nat → Int32} {a m : Int32} (h : Cn cs cn) : Cw a 0 (upd cs a.toNatClampNeg m) cn := fun c k j hj hk hc => by
  unfold upd at hk
  by_cases e : c = a.toNatClampNeg
  · have := hc e
    have z : (0 : Int32).toInt = 0 := by decide
    omega
  · rw [if_neg e] at hk
    exact h c k j hj hk
theorem Cw_s {a v v2 w : Int32} {cs cn : Nat → Int32} {i : Nat} (h : Cw a v cs cn) (hb : ∀ c, (cs c).toInt ≤ 5) (hv2 : v2.toInt = v.toInt + 1) (hv : 0 ≤ v.toInt ∧ v.toInt ≤ 4) (hi : (i : Int) = 5 * (a.toNatClampNeg : Int) + v.toInt) (hw : 1 ≤ w.toInt) : Cw a v2 cs (upd cn i w) := fun c k j hj hk hc => by
  have hb2 := hb c
  unfold upd
  by_cases e : j = i
  · rw [if_pos e]; exact hw
  · rw [if_neg e]
    refine h c k j hj hk (fun q => ?_)
    have := hc q
    omega
theorem Cw_e {a v : Int32} {cs cn : Nat → Int32} (h : Cw a v cs cn) (hv : (cs a.toNatClampNeg).toInt ≤ v.toInt) : Cn cs cn := fun c k j hj hk => h c k j hj hk (fun q => by rw [q] at hk; omega)
abbrev Jn (n : Int32) (f : Nat → Int32) : Prop := ∀ k : Nat, (k : Int) < n.toInt → 1 ≤ (f k).toInt
theorem Jn_0 (f : Nat → Int32) : Jn 0 f := fun k h => by
  have : (0 : Int32).toInt = 0 := by decide
  omega
theorem Jn_s {n n2 v : Int32} {f : Nat → Int32} {i : Nat} (h : Jn n f) (hn : n2.toInt = n.toInt + 1) (hi : (i : Int) = n.toInt) (hv : 1 ≤ v.toInt) : Jn n2 (upd f i v) := fun k hk => by
  unfold upd
  split
  · exact hv
  · exact h k (by omega)
theorem Jn_e {n m : Int32} {f : Nat → Int32} (h : Jn n f) (hn : m.toInt ≤ n.toInt) : Jn m f := fun k hk => h k (by omega)
abbrev Sk (n m : Int) (cc cs : Nat → Int32) : Prop := ∀ c : Nat, 301 * n ≤ (c : Int) → (c : Int) < 301 * n + (cc n.toNat).toInt → (cs c).toInt ≤ m
theorem Sk_0 {n m : Int} {cc cs : Nat → Int32} {c : Int32} {i : Nat} (hi : i = n.toNat) (hc : c.toInt = 0) : Sk n m (upd cc i c) cs := fun q h1 h2 => by
  unfold upd at h2
  rw [if_pos hi.symm, hc] at h2
  omega
theorem Sk_k {n m : Int} {cc cs : Nat → Int32} {c2 v : Int32} {a i : Nat} (h : Sk n m cc cs) (ha : a = n.toNat) (hc : c2.toInt = (cc a).toInt + 1) (hi : (i : Int) = 301 * n + (cc a).toInt) (hv : v.toInt ≤ m) : Sk n m (upd cc a c2) (upd cs i v) := fun q h1 h2 => by
  unfold upd at h2 ⊢
  subst ha
  rw [if_pos rfl, hc] at h2
  by_cases e : q = i
  · rw [if_pos e]; exact hv
  · rw [if_neg e]; exact h q h1 (by omega)
theorem Sk_m {n m m2 : Int} {cc cs : Nat → Int32} (h : Sk n m cc cs) (hm : m ≤ m2) : Sk n m2 cc cs := fun q h1 h2 => Int.le_trans (h q h1 h2) hm
abbrev Lc (b : Int) (f g : Nat → Int32) : Prop := ∀ c : Nat, (c : Int) < 301 * b → g c = f c
theorem Lc_r (b : Int) (f : Nat → Int32) : Lc b f f := fun _ _ => rfl
theorem Lc_t {b : Int} {f g h : Nat → Int32} (h1 : Lc b f g) (h2 : Lc b g h) : Lc b f h := fun c hc => (h2 c hc).trans (h1 c hc)
theorem Lc_u {b : Int} {f g : Nat → Int32} {i : Nat} {v : Int32} (h : Lc b f g) (hi : 301 * b ≤ (i : Int)) : Lc b f (upd g i v) := fun c hc => by
  unfold upd
  rw [if_neg (by omega)]
  exact h c hc
abbrev Al (n : Int) (cc f g : Nat → Int32) : Prop := ∀ c : Nat, ((c : Int) = 301 * n + (cc n.toNat).toInt → (g c).toInt ≤ 1) ∧ (¬ (c : Int) = 301 * n + (cc n.toNat).toInt → g c = f c)
theorem Al_u {n : Int} {cc f : Nat → Int32} {i a : Nat} {v : Int32} (ha : a = n.toNat) (hi : (i : Int) = 301 * n + (cc a).toInt) (hv : v.toInt ≤ 1) : Al n cc f (upd f i v) := fun c => by
  subst ha
  unfold upd
  refine ⟨fun h => ?_, fun h => ?_⟩
  · rw [if_pos (by omega)]; exact hv
  · rw [if_neg (by omega)]
abbrev Sz (n m : Int) (cc cs : Nat → Int32) : Prop := ∀ c : Nat, 301 * n ≤ (c : Int) → (c : Int) ≤ 301 * n + (cc n.toNat).toInt → (cs c).toInt ≤ m
theorem Sz_a {n m k N : Int} {cc cs cs2 : Nat → Int32} (h : Sk n k cc cs) (ha : Al n cc cs cs2) (hk : k ≤ m) (hm : 1 ≤ m) (hN : N = n) : Sz N m cc cs2 := fun c h1 h2 => by
  subst hN
  by_cases e : (c : Int) = 301 * N + (cc N.toNat).toInt
  · have := (ha c).1 e; omega
  · rw [(ha c).2 e]
    have := h c h1 (by omega)
    omega
theorem Lc_a {n N : Int} {cc f g h : Nat → Int32} (h1 : Lc n f g) (ha : Al n cc g h) (h0 : 0 ≤ (cc n.toNat).toInt) (hN : N = n) : Lc N f h := fun c hc => by
  subst hN
  rw [(ha c).2 (by omega)]
  exact h1 c hc
abbrev Ub (n : Int) (f g : Nat → Int32) : Prop := ∀ i : Nat, ¬ i = n.toNat → g i = f i
theorem Ub_u {n : Int} {f : Nat → Int32} {i : Nat} {v : Int32} (hi : i = n.toNat) : Ub n f (upd f i v) := fun j hj => by
  unfold upd
  rw [if_neg (by omega)]
abbrev Fb (n : Int) (cc best : Nat → Int32) : Prop := 301 * n ≤ (best n.toNat).toInt ∧ (best n.toNat).toInt ≤ 301 * n + (cc n.toNat).toInt ∧ (cc n.toNat).toInt ≤ 300
theorem Fb_u {n : Int} {cc f : Nat → Int32} {i : Nat} {v : Int32} (hi : i = n.toNat) (h1 : 301 * n ≤ v.toInt) (h2 : v.toInt ≤ 301 * n + (cc i).toInt) (h3 : (cc i).toInt ≤ 300) : Fb n cc (upd f i v) := by
  subst hi
  have e : upd f n.toNat v n.toNat = v := by unfold upd; exact if_pos rfl
  refine ⟨by rw [e]; exact h1, by rw [e]; exact h2, h3⟩
abbrev Bs (b g m : Int) (best cs : Nat → Int32) : Prop := ∀ n : Nat, b ≤ (n : Int) → (n : Int) < b + g → 301 * (n : Int) ≤ (best n).toInt ∧ (best n).toInt ≤ 301 * (n : Int) + 300 ∧ (cs (best n).toNatClampNeg).toInt ≤ m
theorem Bs_0 (b m : Int) (best cs : Nat → Int32) : Bs b 0 m best cs := fun n h1 h2 => by omega
theorem Bs_s {b g g2 m N N2 : Int} {best best1 best2 cs cs2 cc : Nat → Int32} (h : Bs b g m best cs) (hl : Lc N cs cs2) (hz : Sz N m cc cs2) (hu : Ub N2 best1 best2) (hb1 : best1 = best) (hN : N = b + g) (hN2 : N2 = N) (hg : g2 = g + 1) (hb : 1 ≤ b) (hg0 : 0 ≤ g) (hf : Fb N2 cc best2) : Bs b g2 m best2 cs2 := fun n hn1 hn2 => by
  subst hN2
  subst hb1
  obtain ⟨h1, h2, h3⟩ := hf
  by_cases e : (n : Int) = N2
  · have en : n = N2.toNat := by omega
    rw [en]
    have t := tn_n (best2 N2.toNat)
    refine ⟨by omega, by omega, hz _ (by omega) (by omega)⟩
  · have hb2 := hu n (by omega)
    obtain ⟨q1, q2, q3⟩ := h n hn1 (by omega)
    have t := tn_n (best1 n)
    rw [hb2]
    refine ⟨q1, q2, ?_⟩
    rw [hl _ (by omega)]
    exact q3
theorem Bs_w {b b2 g g2 m m2 : Int} {best cs : Nat → Int32} (h : Bs b g m best cs) (hb : b2 = b) (hg : g2 ≤ g) (hm : m2 = m) : Bs b2 g2 m2 best cs := fun n h1 h2 => by rw [hm]; exact h n (by omega) (by omega)
abbrev Bc (r b g m : Int) (best cs : Nat → Int32) : Prop := r = 1 → Bs b g m best cs
theorem Bc_e {r b g m : Int} {best cs : Nat → Int32} (h : Bc r b g m best cs) (hr : r = 1) : Bs b g m best cs := h hr
theorem Bs_at {b g m : Int} {best cs : Nat → Int32} (h : Bs b g m best cs) (n : Nat) {x : Int32} (hx : x = best n) (h1 : b ≤ (n : Int)) (h2 : (n : Int) < b + g) : (cs x.toNatClampNeg).toInt ≤ m := by rw [hx]; exact (h n h1 h2).2.2
abbrev Bt (z b g m : Int) (best cs : Nat → Int32) : Prop := z = 0 → Bs b g m best cs
theorem Bt_e {z b g m : Int} {best cs : Nat → Int32} (h : Bt z b g m best cs) (hz : z = 0) : Bs b g m best cs := h hz
def ch (gv tn : Nat → Int32) (t u : Nat) : Prop := ∃ k j : Nat, j = 6 * t + k ∧ (k : Int) + 1 < (tn t).toInt ∧ (gv j).toInt = 8 + (u : Int)
def Ac1 (n : Int) (gv tn : Nat → Int32) (t : Nat) : Prop := ∃ R : Nat → Prop, (∀ u, ch gv tn t u → R u) ∧ (∀ a u : Nat, (a : Int) < n → R a → ch gv tn a u → R u) ∧ ¬ R t
abbrev Ac (n : Int) (gv tn : Nat → Int32) : Prop := ∀ t : Nat, (t : Int) < n → Ac1 n gv tn t
abbrev Gv (n : Int) (gv tn : Nat → Int32) : Prop := ∀ t k j : Nat, j = 6 * t + k → (t : Int) < n → (k : Int) + 1 < (tn t).toInt → (gv j).toInt ≤ 7 + n
abbrev Gp (T K n : Int) (gv tn : Nat → Int32) : Prop := ∀ t k j : Nat, j = 6 * t + k → ((t : Int) < T ∨ ((t : Int) = T ∧ (k : Int) < K)) → (k : Int) + 1 < (tn t).toInt → (gv j).toInt ≤ 7 + n
theorem Gp_0 (n : Int) (gv tn : Nat → Int32) : Gp 0 0 n gv tn := fun t k j _ h _ => by omega
theorem Gp_s {T K K2 n : Int} {gv tn : Nat → Int32} {i : Nat} {v : Int32} (h : Gp T K n gv tn) (hb : ∀ t, (tn t).toInt ≤ 6) (hi : (i : Int) = 6 * T + K) (h0 : 0 ≤ K ∧ K ≤ 4) (hK : K2 = K + 1) (hv : v.toInt ≤ 7 + n) : Gp T K2 n (upd gv i v) tn := fun t k j hj hc hk => by
  have hb2 := hb t
  unfold upd
  split
  · exact hv
  · exact h t k j hj (by omega) hk
theorem Gp_n {T T2 K n : Int} {gv tn : Nat → Int32} (h : Gp T K n gv tn) (hK : (tn T.toNat).toInt ≤ K + 1) (h0 : 0 ≤ T) (hT : T2 = T + 1) : Gp T2 0 n gv tn := fun t k j hj hc hk => by
  by_cases e : (t : Int) = T
  · have et : t = T.toNat := by omega
    rw [et] at hk
    exact h t k j hj (by omega) (by rw [et]; exact hk)
  · exact h t k j hj (by omega) hk
theorem Gp_e {T n : Int} {gv tn : Nat → Int32} (h : Gp T 0 n gv tn) (hT : n ≤ T) : Gv n gv tn := fun t k j hj ht hk => h t k j hj (by omega) hk
abbrev Cl (w t A K : Int) (re gv tn : Nat → Int32) : Prop := w = 0 → ∀ a k j u : Nat, j = 6 * a + k → (k : Int) + 1 < (tn a).toInt → (gv j).toInt = 8 + (u : Int) → ((a : Int) < A ∨ ((a : Int) = A ∧ (k : Int) < K)) → ((a : Int) = t ∨ (re a).toInt = 1) → (re u).toInt = 1
theorem Cl_n {w t A A2 K : Int} {re gv tn : Nat → Int32} (h : Cl w t A K re gv tn) (hK : (tn A.toNat).toInt ≤ K + 1) (h0 : 0 ≤ A) (hA : A2 = A + 1) : Cl w t A2 0 re gv tn := fun hw a k j u hj hk hu hc hr => by
  by_cases e : (a : Int) = A
  · have ea : a = A.toNat := by omega
    have hk2 := hk
    rw [ea] at hk2
    exact h hw a k j u hj hk hu (by omega) hr
  · exact h hw a k j u hj hk hu (by omega) hr
theorem Cl_k {w t A K K2 : Int} {re gv tn : Nat → Int32} {g x : Int32} {i : Nat} (h : Cl w t A K re gv tn) (hx : x.toInt = g.toInt - 8) (hg : g.toInt = (gv i).toInt) (hi : (i : Int) = 6 * A + K) (hK0 : 0 ≤ K) (hA0 : 0 ≤ A) (hK : K2 = K + 1) (hd : (¬ A = t ∧ ¬ (re A.toNat).toInt = 1) ∨ x.toInt < 0 ∨ (re x.toNatClampNeg).toInt = 1) : Cl w t A K2 re gv tn := fun hw a k j u hj hk hu hc hr => by
  by_cases e : (a : Int) = A ∧ (k : Int) = K
  · have ea : a = A.toNat := by omega
    have ej : j = i := by omega
    have tx := tn_n x
    rw [ej] at hu
    have eu : u = x.toNatClampNeg := by omega
    rcases hd with q | q | q
    · rw [← ea] at q; omega
    · omega
    · rw [eu]; exact q
  · exact h hw a k j u hj hk hu (by omega) hr
abbrev Tr (r t n : Int) (gv tn : Nat → Int32) : Prop := r = 0 → Ac1 n gv tn t.toNat
theorem Tr_i {r t n A : Int} {re gv tn : Nat → Int32} (h : Cl 0 t A 0 re gv tn) (hA : n ≤ A) (h0 : 0 ≤ t) (ht : t < n) (hr : r = (re t.toNat).toInt) : Tr r t n gv tn := fun hz => by
  refine ⟨fun u => (re u).toInt = 1, ?_, ?_, ?_⟩
  · rintro u ⟨k, j, hj, hk, hu⟩
    exact h rfl t.toNat k j u hj hk hu (by omega) (by omega)
  · rintro a u ha hR ⟨k, j, hj, hk, hu⟩
    exact h rfl a k j u hj hk hu (by omega) (Or.inr hR)
  · show ¬ (re t.toNat).toInt = 1
    omega
abbrev Rd (f v n : Int) (gv tn : Nat → Int32) : Prop := f = 0 → Gv n gv tn ∧ ∀ t : Nat, (t : Int) < v → Ac1 n gv tn t
theorem Rd_s {f v x n r : Int} {gv tn : Nat → Int32} (h : Rd f v n gv tn) (ht : Tr r v n gv tn) (hr : r = 0) (h0 : 0 ≤ v) (hx : x = v + 1) : Rd f x n gv tn := fun hf => ⟨(h hf).1, fun t q => by
  by_cases e : (t : Int) = v
  · have et : t = v.toNat := by omega
    rw [et]; exact ht hr
  · exact (h hf).2 t (by omega)⟩
noncomputable def cnt (P : Nat → Prop) : Nat → Nat
  | 0 => 0
  | m + 1 => cnt P m + @ite Nat (P m) (Classical.propDecidable (P m)) 1 0
theorem cnt_le (P : Nat → Prop) (m : Nat) : cnt P m ≤ m := by
  induction m with
  | zero => exact Nat.le_refl 0
  | succ m ih => unfold cnt; split <;> omega
theorem cnt_mono {P Q : Nat → Prop} (h : ∀ u, P u → Q u) (m : Nat) : cnt P m ≤ cnt Q m := by
  induction m with
  | zero => exact Nat.le_refl 0
  | succ m ih =>
    unfold cnt
    by_cases q : P m
    · rw [if_pos q, if_pos (h m q)]; omega
    · rw [if_neg q]; split <;> omega
theorem cnt_lt {P Q : Nat → Prop} (h : ∀ u, P u → Q u) {x : Nat} (hq : Q x) (hp : ¬ P x) (m : Nat) (hx : x < m) : cnt P m < cnt Q m := by
  induction m with
  | zero => omega
  | succ m ih =>
    unfold cnt
    by_cases e : x = m
    · subst e
      rw [if_neg hp, if_pos hq]
      have := cnt_mono h x
      omega
    · have := ih (by omega)
      by_cases q : P m
      · rw [if_pos q, if_pos (h m q)]; omega
      · rw [if_neg q]; split <;> omega
def rch (n : Int) (gv tn : Nat → Int32) (t u : Nat) : Prop := ∀ R : Nat → Prop, (∀ u, ch gv tn t u → R u) → (∀ a u : Nat, (a : Int) < n → R a → ch gv tn a u → R u) → R u
noncomputable def rk (n : Int) (gv tn : Nat → Int32) (t : Nat) : Nat := cnt (rch n gv tn t) 31
theorem rk_lt {n : Int} {gv tn : Nat → Int32} {t u : Nat} (hc : ch gv tn t u) (hu : (u : Int) < n) (hn : n ≤ 31) (ha : Ac1 n gv tn u) : rk n gv tn u < rk n gv tn t := by
  refine cnt_lt (fun w hw => ?_) (x := u) (fun R h1 _ => h1 u hc) ?_ 31 (by omega)
  · intro R h1 h2
    exact hw R (fun v hv => h2 u v hu (h1 u hc) hv) h2
  · intro h
    obtain ⟨R, h1, h2, h3⟩ := ha
    exact h3 (h R h1 h2)
theorem rk_le (n : Int) (gv tn : Nat → Int32) (t : Nat) : rk n gv tn t ≤ 31 := cnt_le _ _
abbrev Tk (n op : Int) (ot fd gv tn : Nat → Int32) : Prop := (∀ i : Nat, (i : Int) < op → 0 ≤ (ot i).toInt ∧ (ot i).toInt < n ∧ (fd (ot i).toNatClampNeg).toInt = 0) ∧ ∀ i : Nat, (i : Int) + 1 < op → ch gv tn (ot i).toNatClampNeg (ot (i + 1)).toNatClampNeg
theorem Tk_rk {n op : Int} {ot fd gv tn : Nat → Int32} (h : Tk n op ot fd gv tn) (hA : Ac n gv tn) (hn : n ≤ 31) : ∀ d i : Nat, ((i + d : Nat) : Int) < op → rk n gv tn (ot (i + d)).toNatClampNeg + d ≤ rk n gv tn (ot i).toNatClampNeg := by
  intro d
  induction d with
  | zero => intro i _; exact Nat.le_refl _
  | succ d ih =>
    intro i hi
    have h1 := ih i (by omega)
    have hb := h.1 (i + d + 1) (by omega)
    have tx := tn_n (ot (i + d + 1))
    have h2 := rk_lt (h.2 (i + d) (by omega)) (by omega) hn (hA _ (by omega))
    show rk n gv tn (ot (i + d + 1)).toNatClampNeg + (d + 1) ≤ _
    omega
abbrev To (t op : Int) (ot : Nat → Int32) : Prop := 1 ≤ op ∧ (ot (op - 1).toNat).toInt = t
theorem To_i {t i : Int32} {op : Int} {ot : Nat → Int32} (ht : t.toInt = (ot i.toNatClampNeg).toInt) (hi : i.toInt = op - 1) (h1 : 1 ≤ op) : To t.toInt op ot := by
  refine ⟨h1, ?_⟩
  have e : (op - 1).toNat = i.toNatClampNeg := by have := tn_n i; omega
  rw [e]; exact ht.symm
abbrev Nx (w t n : Int) (fd gv tn : Nat → Int32) : Prop := w = -1 ∨ (0 ≤ w ∧ w < n ∧ (fd w.toNat).toInt = 0 ∧ ch gv tn t.toNat w.toNat)
abbrev Cg (X t n : Int) (gv tn : Nat → Int32) : Prop := 8 ≤ X → X - 8 < n ∧ ch gv tn t.toNat (X - 8).toNat
theorem Cg_i {n T K : Int} {gv tn : Nat → Int32} {X : Int32} {i : Nat} (h : Gv n gv tn) (hX : X.toInt = (gv i).toInt) (hi : (i : Int) = 6 * T + K) (hT : 0 ≤ T ∧ T < n) (hK : 0 ≤ K) (hk : K + 1 < (tn T.toNat).toInt) : Cg X.toInt T n gv tn := fun h8 => by
  have hg := h T.toNat K.toNat i (by omega) (by omega) (by omega)
  refine ⟨by omega, K.toNat, i, by omega, by omega, ?_⟩
  rw [← hX]; omega
theorem Nx_s {w : Int32} {X t n : Int} {fd gv tn : Nat → Int32} (hc : Cg X t n gv tn) (hw : w.toInt = X - 8) (h0 : 0 ≤ w.toInt) (hf : (fd w.toNatClampNeg).toInt = 0) : Nx w.toInt t n fd gv tn := by
  obtain ⟨q1, q2⟩ := hc (by omega)
  refine Or.inr ⟨h0, by omega, hf, ?_⟩
  rw [hw]; exact q2
theorem Tk_0 {n : Int} {ot fd gv tn : Nat → Int32} {v : Int32} {i : Nat} (hi : i = 0) (h0 : 0 ≤ v.toInt ∧ v.toInt < n) (hf : (fd v.toNatClampNeg).toInt = 0) : Tk n 1 (upd ot i v) fd gv tn := by
  subst hi
  refine ⟨fun j hj => ?_, fun j hj => by omega⟩
  have : j = 0 := by omega
  subst this
  have e : upd ot 0 v 0 = v := by unfold upd; exact if_pos rfl
  rw [e]; exact ⟨h0.1, h0.2, hf⟩
theorem Tk_push {n op op2 t : Int} {ot fd gv tn : Nat → Int32} {v : Int32} {i : Nat} (h : Tk n op ot fd gv tn) (hto : To t op ot) (hnx : Nx v.toInt t n fd gv tn) (hv : 0 ≤ v.toInt) (hi : (i : Int) = op) (hop : op2 = op + 1) : Tk n op2 (upd ot i v) fd gv tn := by
  have hx : 0 ≤ v.toInt ∧ v.toInt < n ∧ (fd v.toInt.toNat).toInt = 0 ∧ ch gv tn t.toNat v.toInt.toNat := by rcases hnx with q | q <;> first | omega | exact q
  have eu : ∀ j : Nat, j ≠ i → upd ot i v j = ot j := fun j q => by unfold upd; exact if_neg q
  have ei : upd ot i v i = v := by unfold upd; exact if_pos rfl
  refine ⟨fun j hj => ?_, fun j hj => ?_⟩
  · by_cases e : j = i
    · rw [e, ei]; exact ⟨hx.1, hx.2.1, hx.2.2.1⟩
    · rw [eu j e]; exact h.1 j (by omega)
  · rw [eu j (by omega)]
    by_cases e : j + 1 = i
    · rw [e, ei]
      have ej : j = (op - 1).toNat := by omega
      have et : (ot j).toNatClampNeg = t.toNat := by
        have := hto.2
        rw [← ej] at this
        show (ot j).toInt.toNat = t.toNat
        rw [this]
      rw [et]; exact hx.2.2.2
    · rw [eu (j + 1) e]; exact h.2 j (by omega)
theorem Tk_pop {n op op2 t : Int} {ot fd gv tn : Nat → Int32} {v : Int32} {i : Nat} (h : Tk n op ot fd gv tn) (hA : Ac n gv tn) (hn : n ≤ 31) (hto : To t op ot) (hi : i = t.toNat) (hop : op2 = op - 1) : Tk n op2 ot (upd fd i v) gv tn := by
  refine ⟨fun j hj => ?_, fun j hj => h.2 j (by omega)⟩
  obtain ⟨q1, q2, q3⟩ := h.1 j (by omega)
  refine ⟨q1, q2, ?_⟩
  have ho := hto.1
  have hr := Tk_rk h hA hn ((op - 1).toNat - j) j (by omega)
  have e : j + ((op - 1).toNat - j) = (op - 1).toNat := by omega
  rw [e] at hr
  have et : (ot (op - 1).toNat).toNatClampNeg = t.toNat := by
    show (ot (op - 1).toNat).toInt.toNat = t.toNat
    rw [hto.2]
  rw [et] at hr
  unfold upd
  rw [if_neg]
  · exact q3
  · intro z
    rw [z, hi] at hr
    omega
theorem Ft_b {n op t w : Int} {ot fd gv tn : Nat → Int32} (h : Tk n op ot fd gv tn) (hA : Ac n gv tn) (hn : n ≤ 30) (hto : To t op ot) (hnx : Nx w t n fd gv tn) : w < 0 ∨ op ≤ 31 := by
  rcases hnx with q | ⟨q0, q1, q2, q3⟩
  · left; omega
  · right
    have ho := hto.1
    have hr := Tk_rk h hA (by omega) (op - 1).toNat 0 (by omega)
    have et : (ot (0 + (op - 1).toNat)).toNatClampNeg = t.toNat := by
      rw [Nat.zero_add]
      show (ot (op - 1).toNat).toInt.toNat = t.toNat
      rw [hto.2]
    rw [et] at hr
    have h2 := rk_lt q3 (by omega) (by omega) (hA _ (by omega))
    have h3 := rk_le n gv tn (ot 0).toNatClampNeg
    omega
theorem Ft_z {x y : Int32} {n op : Int} {ot fd gv tn : Nat → Int32} (h : Tk n op ot fd gv tn) (ht : x.toInt = (ot y.toNatClampNeg).toInt) (hi : y.toInt = op - 1) (h1 : 1 ≤ op) : (fd x.toNatClampNeg).toInt = 0 ∧ 0 ≤ x.toInt ∧ x.toInt < n := by
  have e : x = ot y.toNatClampNeg := i_eq ht
  have := tn_n y
  have q := h.1 y.toNatClampNeg (by omega)
  rw [e]; exact ⟨q.2.2, q.1, q.2.1⟩
theorem fz_c {f : Nat → Int32} {x y z : Int32} (h : z.toInt = (f x.toNatClampNeg).toInt) (hz : z.toInt = 0) (hxy : y.toInt = x.toInt) : (f y.toNatClampNeg).toInt = 0 := by
  have e : y = x := i_eq hxy
  rw [e, ← h]; exact hz
def Lmd (h k : Int) : Prop := h = 0 ∨ 2 ≤ k
theorem lmd_i {h k : Int} (q : h = 0 ∨ 2 ≤ k) : Lmd h k := q
theorem lmd_e {h k : Int} (q : Lmd h k) : h = 0 ∨ 2 ≤ k := q

theorem nb_v {x : Int32} (h : 0 ≤ x.toInt ∧ x.toInt ≤ 1) : vp_nar .boolean x = x := by
  have c : x = 0 ∨ x = 1 := by
    rcases (show x.toInt = 0 ∨ x.toInt = 1 by omega) with q | q
    · exact Or.inl (i_eq q)
    · exact Or.inr (i_eq q)
  rcases c with q | q <;> subst q <;> rfl
abbrev Gn (inp x : Int) : Prop := x % 2 = 0 ∧ 1 ≤ x / 2 ∧ x / 2 ≤ inp
def Oky (inp : Int) (md hp : Nat → Int32) (y : Nat) : Prop := ¬ (md y).toInt = 0 ∨ ¬ (hp y).toInt = 0 ∨ Gn inp (y : Int)
def Wt (R : Nat → Prop) (fc b : Nat → Int32) (x : Nat) : Prop := ∀ k : Nat, k < 3 → ((b (5 * x + 2 + k)).toInt = -1 ∧ (fc (4 * (b (5 * x + 1)).toNatClampNeg + 2)).toInt ≤ (k : Int)) ∨ (2 ≤ (b (5 * x + 2 + k)).toInt ∧ (b (5 * x + 2 + k)).toInt ≤ 417 ∧ R (b (5 * x + 2 + k)).toNatClampNeg)
theorem Wt_m {R S : Nat → Prop} {fc b : Nat → Int32} {x : Nat} (h : Wt R fc b x) (hm : ∀ y, y < 420 → R y → S y) : Wt S fc b x := fun k hk => by
  rcases h k hk with q | ⟨q1, q2, q3⟩
  · exact Or.inl q
  · have := tn_n (b (5 * x + 2 + k))
    exact Or.inr ⟨q1, q2, hm _ (by omega) q3⟩
theorem Wt_c {R : Nat → Prop} {fc b c : Nat → Int32} {x : Nat} (h : Wt R fc b x) (he : ∀ j : Nat, 5 * x + 1 ≤ j → j ≤ 5 * x + 4 → c j = b j) : Wt R fc c x := fun k hk => by
  have e1 := he (5 * x + 1) (by omega) (by omega)
  have e2 := he (5 * x + 2 + k) (by omega) (by omega)
  have := h k hk
  rw [← e1, ← e2] at this
  exact this
abbrev Pl (fc hp pb md : Nat → Int32) : Prop := ∀ x : Nat, x < 420 → ¬ (hp x).toInt = 0 → Wt (fun y => ¬ (md y).toInt = 0) fc pb x
abbrev Md (inp : Int) (fc md mb hp : Nat → Int32) : Prop := ∀ x : Nat, x < 420 → ¬ (md x).toInt = 0 → Gn inp (x : Int) ∨ Wt (Oky inp md hp) fc mb x
abbrev Fu (a inp : Int) (md : Nat → Int32) : Prop := ∀ x : Nat, x < 420 → a ≤ (x : Int) → ¬ (md x).toInt = 0 → Gn inp (x : Int)
abbrev Hl (a b : Int) (hp md : Nat → Int32) : Prop := ∀ x : Nat, x < 420 → ¬ (hp x).toInt = 0 → ¬ (md x).toInt = 0 ∨ (a ≤ (x : Int) ∧ (x : Int) < b)
theorem Fu_w {a b inp : Int} {md : Nat → Int32} (h : Fu a inp md) (hw : a ≤ b) : Fu b inp md := fun x h1 h2 h3 => h x h1 (by omega) h3
theorem Hl_w {a b c d : Int} {hp md : Nat → Int32} (h : Hl a b hp md) (hw : b ≤ a ∨ (c ≤ a ∧ b ≤ d)) : Hl c d hp md := fun x h1 h2 => by
  rcases h x h1 h2 with q | q
  · exact Or.inl q
  · right; omega
abbrev Km (a K : Int) (m f g : Nat → Int32) : Prop := ∀ j : Nat, (a ≤ (j : Int) ∧ (j : Int) < a + K → g j = m (j - a.toNat)) ∧ (¬ (a ≤ (j : Int) ∧ (j : Int) < a + K) → g j = f j)
theorem Km_0 (a : Int) (m f : Nat → Int32) : Km a 0 m f f := fun j => ⟨fun h => by omega, fun _ => rfl⟩
theorem Km_s {a K K2 : Int} {m f g : Nat → Int32} {i n : Nat} {v : Int32} (h : Km a K m f g) (hK : K2 = K + 1) (ha : 0 ≤ a) (hK0 : 0 ≤ K) (hi : (i : Int) = a + K) (hn : (n : Int) = K) (hv : v = m n) : Km a K2 m f (upd g i v) := fun j => by
  by_cases e : j = i
  · subst e
    rw [up_s]
    refine ⟨fun _ => ?_, fun q => absurd ⟨by omega, by omega⟩ q⟩
    rw [hv, show j - a.toNat = n by omega]
  · rw [up_o e]
    refine ⟨fun q => (h j).1 (by omega), fun q => (h j).2 (by omega)⟩
theorem Km_e {a K : Int} {m f g : Nat → Int32} (h : Km a K m f g) {b : Int} (hK : 5 ≤ K) (hK2 : K ≤ 5) (hb : b = a) : Km b 5 m f g := fun j => by
  have e : K = 5 := by omega
  subst e
  subst hb
  exact h j
abbrev Mf (p : Int) (fc m : Nat → Int32) : Prop := p = (fc (4 * (m 1).toNatClampNeg + 2)).toInt
abbrev Ms (K p : Int) (fc m : Nat → Int32) : Prop := Mf p fc m ∧ ∀ k : Nat, k < 3 → (k : Int) < K → ((m (2 + k)).toInt = -1 ∧ p ≤ (k : Int)) ∨ (2 ≤ (m (2 + k)).toInt ∧ (m (2 + k)).toInt ≤ 417 ∧ (k : Int) < p)
theorem Ms_0 {p : Int} {fc m : Nat → Int32} (h : Mf p fc m) : Ms 0 p fc m := ⟨h, fun k _ q => by omega⟩
theorem Ms_s {K K2 p : Int} {fc m : Nat → Int32} {i : Nat} {v : Int32} (h : Ms K p fc m) (hK : K2 = K + 1) (hK0 : 0 ≤ K) (hi : (i : Int) = 2 + K) (hv : (v.toInt = -1 ∧ p ≤ K) ∨ (2 ≤ v.toInt ∧ v.toInt ≤ 417 ∧ K < p)) : Ms K2 p fc (upd m i v) := by
  refine ⟨?_, fun k h1 h2 => ?_⟩
  · show p = (fc (4 * (upd m i v 1).toNatClampNeg + 2)).toInt
    rw [up_o (by omega)]; exact h.1
  · by_cases e : 2 + k = i
    · rw [e, up_s]; omega
    · rw [up_o e]; exact h.2 k h1 (by omega)
theorem Ms_z {K p : Int} {fc m : Nat → Int32} {i : Nat} {v : Int32} (h : Ms K p fc m) (hi : i = 0) : Ms K p fc (upd m i v) := by
  subst hi
  refine ⟨?_, fun k h1 h2 => ?_⟩
  · show p = (fc (4 * (upd m 0 v 1).toNatClampNeg + 2)).toInt
    rw [up_o (by omega)]; exact h.1
  · rw [up_o (by omega)]; exact h.2 k h1 h2
theorem Ms_w {K p q : Int} {fc m : Nat → Int32} (h : Ms K p fc m) (hK : 3 ≤ K) (hp : q = p) : Ms 3 q fc m := by
  subst hp
  exact ⟨h.1, fun k h1 _ => h.2 k h1 (by omega)⟩
abbrev Mm (K : Int) (md m : Nat → Int32) : Prop := ∀ k : Nat, k < 3 → (k : Int) < K → ¬ (md (m (2 + k)).toNatClampNeg).toInt = 0
theorem Mm_0 (md m : Nat → Int32) : Mm 0 md m := fun k _ q => by omega
theorem Mm_s {K K2 : Int} {md m : Nat → Int32} {x y : Int32} {i : Nat} (h : Mm K md m) (hK : K2 = K + 1) (hi : (i : Int) = 2 + K) (hx : x.toInt = (m i).toInt) (hy : y.toInt = (md x.toNatClampNeg).toInt) (hn : ¬ y.toInt = 0) : Mm K2 md m := fun k h1 h2 => by
  by_cases e : (k : Int) = K
  · have : 2 + k = i := by omega
    rw [this, ← i_eq hx, ← hy]; exact hn
  · exact h k h1 (by omega)
theorem Mm_z {K L : Int} {md m : Nat → Int32} {i : Nat} {v : Int32} (h : Mm K md m) (hi : i = 0) (hL : L ≤ K) : Mm L md (upd m i v) := fun k h1 h2 => by
  subst hi
  rw [up_o (by omega)]; exact h k h1 (by omega)
theorem Pl_n {p a : Int} {fc hp pb pb2 md m : Nat → Int32} {x : Nat} {v : Int32} (h : Pl fc hp pb md) (hk : Km a 5 m pb pb2) (ha : a = 5 * (x : Int)) (hs : Ms 3 p fc m) (hm : Mm p md m) : Pl fc (upd hp x v) pb2 md := fun z hz hn => by
  by_cases e : z = x
  · subst e
    have e1 : pb2 (5 * z + 1) = m 1 := by rw [(hk _).1 (by omega)]; congr 1; omega
    intro k hk3
    have e2 : pb2 (5 * z + 2 + k) = m (2 + k) := by rw [(hk _).1 (by omega)]; congr 1; omega
    rw [e1, e2]
    have hf : p = _ := hs.1
    rcases hs.2 k hk3 (by omega) with q | ⟨q1, q2, q3⟩
    · exact Or.inl ⟨q.1, by rw [← hf]; exact q.2⟩
    · exact Or.inr ⟨q1, q2, hm k hk3 q3⟩
  · rw [up_o e] at hn
    exact Wt_c (h z hz hn) (fun j h1 h2 => (hk j).2 (by omega))
theorem Md_h {inp : Int} {fc md mb hp : Nat → Int32} {x : Nat} {v : Int32} (h : Md inp fc md mb hp) (hv : ¬ v.toInt = 0) : Md inp fc md mb (upd hp x v) := fun z hz hn => by
  rcases h z hz hn with q | q
  · exact Or.inl q
  · refine Or.inr (Wt_m q (fun y _ hy => ?_))
    rcases hy with w | w | w
    · exact Or.inl w
    · refine Or.inr (Or.inl ?_)
      by_cases e : y = x
      · rw [e, up_s]; exact hv
      · rw [up_o e]; exact w
    · exact Or.inr (Or.inr w)
theorem Hl_h {a b : Int} {hp md : Nat → Int32} {x : Nat} {v : Int32} (h : Hl a b hp md) (hx : a ≤ (x : Int) ∧ (x : Int) < b) : Hl a b (upd hp x v) md := fun z hz hn => by
  by_cases e : z = x
  · right; omega
  · rw [up_o e] at hn; exact h z hz hn
abbrev Mc (l K inp : Int) (fc md mb hp pb : Nat → Int32) : Prop := (∀ x : Nat, x < 420 → ¬ (x : Int) = l → ¬ (md x).toInt = 0 → Gn inp (x : Int) ∨ Wt (Oky inp md hp) fc mb x) ∧ (∀ j : Nat, (j : Int) < K → mb (5 * l.toNat + j) = pb (5 * l.toNat + j)) ∧ (¬ (md l.toNat).toInt = 0 → ¬ (hp l.toNat).toInt = 0)
theorem md_0 {a inp : Int} {md : Nat → Int32} {x : Nat} (h : Fu a inp md) (hx : x < 420) (ha : a ≤ (x : Int)) (hg : (x : Int) % 2 = 1 ∨ inp < (x : Int) / 2) : (md x).toInt = 0 := by
  by_cases e : (md x).toInt = 0
  · exact e
  · have := h x hx ha e
    unfold Gn at this
    omega
theorem md_up {md : Nat → Int32} {x y : Nat} {v : Int32} (h0 : (md x).toInt = 0 ∨ ¬ v.toInt = 0) (hy : ¬ (md y).toInt = 0) : ¬ (upd md x v y).toInt = 0 := by
  by_cases e : y = x
  · subst e
    rw [up_s]
    rcases h0 with q | q
    · exact absurd q hy
    · exact q
  · rw [up_o e]; exact hy
theorem Ok_up {inp : Int} {md hp : Nat → Int32} {x y : Nat} {v : Int32} (h0 : (md x).toInt = 0 ∨ ¬ v.toInt = 0) (h : Oky inp md hp y) : Oky inp (upd md x v) hp y := by
  rcases h with q | q
  · exact Or.inl (md_up h0 q)
  · exact Or.inr q
theorem Pl_m {fc hp pb md : Nat → Int32} {x : Nat} {v : Int32} (h : Pl fc hp pb md) (h0 : (md x).toInt = 0 ∨ ¬ v.toInt = 0) : Pl fc hp pb (upd md x v) := fun z hz hn => Wt_m (h z hz hn) (fun y _ hy => md_up h0 hy)
theorem Mc_0 {l inp : Int} {fc md mb hp pb : Nat → Int32} {x : Nat} {v : Int32} (h : Md inp fc md mb hp) (hx : (x : Int) = l) (h0 : (md x).toInt = 0) (hv : v.toInt = (hp x).toInt) : Mc l 0 inp fc (upd md x v) mb hp pb := by
  have el : l.toNat = x := by omega
  refine ⟨fun z hz hl hn => ?_, fun j hj => by omega, fun hn => ?_⟩
  · rw [up_o (by omega)] at hn
    rcases h z hz hn with q | q
    · exact Or.inl q
    · exact Or.inr (Wt_m q (fun y _ hy => Ok_up (Or.inl h0) hy))
  · rw [el] at hn ⊢
    rw [up_s, hv] at hn
    exact hn
theorem Mc_s {l K K2 inp : Int} {fc md mb hp pb : Nat → Int32} {i j : Nat} {v : Int32} (h : Mc l K inp fc md mb hp pb) (hK : K2 = K + 1) (h0 : 0 ≤ K ∧ K ≤ 4) (hl : 0 ≤ l) (hi : (i : Int) = 5 * l + K) (hj : j = i) (hv : v = pb j) : Mc l K2 inp fc md (upd mb i v) hp pb := by
  subst hj
  refine ⟨fun z hz hzl hn => ?_, fun q hq => ?_, h.2.2⟩
  · rcases h.1 z hz hzl hn with w | w
    · exact Or.inl w
    · exact Or.inr (Wt_c w (fun y h1 h2 => up_o (by omega)))
  · by_cases e : 5 * l.toNat + q = j
    · rw [e, up_s]; exact hv
    · rw [up_o e]; exact h.2.1 q (by omega)
theorem Mc_e {l K inp : Int} {fc md mb hp pb : Nat → Int32} (h : Mc l K inp fc md mb hp pb) (hp2 : Pl fc hp pb md) (hl : 0 ≤ l ∧ l < 420) (hK : 5 ≤ K ∨ (md l.toNat).toInt = 0) : Md inp fc md mb hp := fun z hz hn => by
  by_cases e : (z : Int) = l
  · have el : l.toNat = z := by omega
    have hh := h.2.2
    have hc := h.2.1
    rw [el] at hK hh hc
    have h5 : 5 ≤ K := by
      rcases hK with q | q
      · exact q
      · exact absurd q hn
    refine Or.inr (Wt_m (Wt_c (hp2 z hz (hh hn)) (fun j h1 h2 => ?_)) (fun y _ hy => Or.inl hy))
    have := hc (j - 5 * z) (by omega)
    rw [show 5 * z + (j - 5 * z) = j by omega] at this
    exact this
  · exact h.1 z hz e hn
theorem Fu_m {a b inp : Int} {md : Nat → Int32} {x : Nat} {v : Int32} (h : Fu a inp md) (hx : (x : Int) < b) (hb : a ≤ b) : Fu b inp (upd md x v) := fun z hz h1 hn => by
  rw [up_o (by omega)] at hn
  exact h z hz (by omega) hn
theorem Hl_m {a b c : Int} {hp md : Nat → Int32} {x : Nat} {v : Int32} (h : Hl a b hp md) (h0 : (md x).toInt = 0 ∨ ¬ v.toInt = 0) (hv : ¬ (hp x).toInt = 0 → ¬ v.toInt = 0) (hx : (x : Int) = a ∨ c = a) (hc : c ≤ a + 1) : Hl c b hp (upd md x v) := fun z hz hn => by
  rcases h z hz hn with q | q
  · exact Or.inl (md_up h0 q)
  · by_cases e : z = x
    · subst e; left; rw [up_s]; exact hv hn
    · right; omega
abbrev Cm (c l inp : Int) (hp : Nat → Int32) : Prop := c = 0 ∨ ∀ y : Nat, (y : Int) = l + 1 - 2 * (l % 2) → ¬ (hp y).toInt = 0 ∨ Gn inp (y : Int)
theorem Cm_g {c l inp : Int} {hp : Nat → Int32} (h : (l + 1 - 2 * (l % 2)) % 2 = 0 ∧ 1 ≤ (l + 1 - 2 * (l % 2)) / 2 ∧ (l + 1 - 2 * (l % 2)) / 2 ≤ inp) : Cm c l inp hp := Or.inr (fun y hy => Or.inr (by unfold Gn; rw [hy]; exact h))
theorem Cm_h {c l inp : Int} {hp : Nat → Int32} {x z : Int32} (hx : x.toInt = l + 1 - 2 * (l % 2)) (h0 : 0 ≤ x.toInt) (hz : z.toInt = (hp x.toNatClampNeg).toInt) (hn : ¬ z.toInt = 0) : Cm c l inp hp := Or.inr (fun y hy => Or.inl (by
  have := tn_n x
  rw [show y = x.toNatClampNeg by omega, ← hz]; exact hn))
theorem Md_n {l inp c a : Int} {fc md mb mb2 hp m : Nat → Int32} {x : Nat} {v : Int32} (h : Md inp fc md mb hp) (hk : Km a 5 m mb mb2) (ha : a = 5 * (x : Int)) (hv : ¬ v.toInt = 0) (hs : Ms 3 1 fc m) (hc : Cm c l inp hp) (hc0 : ¬ c = 0) (hl : l = (x : Int)) (h2 : (m 2).toInt = l + 1 - 2 * (l % 2)) : Md inp fc (upd md x v) mb2 hp := fun z hz hn => by
  have hf : (1 : Int) = _ := hs.1
  by_cases e : z = x
  · subst e
    have e1 : mb2 (5 * z + 1) = m 1 := by rw [(hk _).1 (by omega)]; congr 1; omega
    refine Or.inr (fun k hk3 => ?_)
    have e2 : mb2 (5 * z + 2 + k) = m (2 + k) := by rw [(hk _).1 (by omega)]; congr 1; omega
    rw [e1, e2]
    rcases hs.2 k hk3 (by omega) with q | ⟨q1, q2, q3⟩
    · exact Or.inl ⟨q.1, by rw [← hf]; exact q.2⟩
    · have ek : k = 0 := by omega
      subst ek
      refine Or.inr ⟨q1, q2, Or.inr ?_⟩
      rcases hc with w | w
      · exact absurd w hc0
      · have := tn_n (m (2 + 0))
        have h2' : (m (2 + 0)).toInt = l + 1 - 2 * (l % 2) := h2
        exact w _ (by omega)
  · rw [up_o e] at hn
    rcases h z hz hn with q | q
    · exact Or.inl q
    · exact Or.inr (Wt_m (Wt_c q (fun j h1 h2 => (hk j).2 (by omega))) (fun y _ hy => Ok_up (Or.inr hv) hy))
theorem Ms_1 {fc m : Nat → Int32} {u v w y : Int32} {x : Int32} (hf : (fc (4 * v.toNatClampNeg + 2)).toInt = 1) (h2 : 2 ≤ w.toInt ∧ w.toInt ≤ 417) (h3 : y.toInt = -1) (h4 : x.toInt = -1) : Ms 3 1 fc (upd (upd (upd (upd (upd m 0 u) 1 v) 2 w) 3 y) 4 x) := by
  refine ⟨?_, fun k hk _ => ?_⟩
  · show (1 : Int) = (fc (4 * (upd (upd (upd (upd (upd m 0 u) 1 v) 2 w) 3 y) 4 x 1).toNatClampNeg + 2)).toInt
    rw [up_o (by decide), up_o (by decide), up_o (by decide), up_s]; exact hf.symm
  · rcases (show k = 0 ∨ k = 1 ∨ k = 2 by omega) with q | q | q <;> subst q
    · rw [up_o (by decide), up_o (by decide), up_s]; right; omega
    · rw [up_o (by decide), up_s]; left; omega
    · rw [up_s]; left; omega
abbrev Rs (K inp : Int) (hp md : Nat → Int32) : Prop := ∀ x : Nat, (x : Int) < K → (hp x).toInt = 0 ∧ (¬ (md x).toInt = 0 → Gn inp (x : Int))
theorem Rs_0 (inp : Int) (hp md : Nat → Int32) : Rs 0 inp hp md := fun x h => by omega
theorem Rs_s {K K2 inp : Int} {hp md : Nat → Int32} {i j : Nat} {v w : Int32} (h : Rs K inp hp md) (hK : K2 = K + 1) (hi : (i : Int) = K) (hj : j = i) (hv : v.toInt = 0) (hw : ¬ w.toInt = 0 → K % 2 = 0 ∧ 1 ≤ K / 2 ∧ K / 2 ≤ inp) : Rs K2 inp (upd hp i v) (upd md j w) := fun x hx => by
  subst hj
  by_cases e : x = j
  · subst e
    rw [up_s, up_s]
    exact ⟨hv, fun q => by unfold Gn; rw [hi]; exact hw q⟩
  · rw [up_o e, up_o e]; exact h x (by omega)
theorem Rs_P {K inp : Int} {fc hp pb md : Nat → Int32} (h : Rs K inp hp md) (hK : 420 ≤ K) : Pl fc hp pb md := fun x hx hn => absurd (h x (by omega)).1 hn
theorem Rs_M {K inp : Int} {fc hp mb md : Nat → Int32} (h : Rs K inp hp md) (hK : 420 ≤ K) : Md inp fc md mb hp := fun x hx hn => Or.inl ((h x (by omega)).2 hn)
theorem Rs_F {K a inp : Int} {hp md : Nat → Int32} (h : Rs K inp hp md) (hK : 420 ≤ K) : Fu a inp md := fun x hx _ hn => (h x (by omega)).2 hn
theorem Rs_H {K a b inp : Int} {hp md : Nat → Int32} (h : Rs K inp hp md) (hK : 420 ≤ K) : Hl a b hp md := fun x hx hn => absurd (h x (by omega)).1 hn
abbrev In (c inp : Int) (md ii : Nat → Int32) : Prop := c = 0 ∨ ∀ x : Nat, x < 420 → ¬ (ii x).toInt = 0 → 2 ≤ x ∧ x ≤ 417 ∧ ¬ Gn inp (x : Int) ∧ ¬ (md x).toInt = 0
abbrev Iz0 (K : Int) (ii : Nat → Int32) : Prop := ∀ x : Nat, (x : Int) < K → (ii x).toInt = 0
theorem Iz_0 (ii : Nat → Int32) : Iz0 0 ii := fun x h => by omega
theorem Iz_s {K K2 : Int} {ii : Nat → Int32} {i : Nat} {v : Int32} (h : Iz0 K ii) (hK : K2 = K + 1) (hi : (i : Int) = K) (hv : v.toInt = 0) : Iz0 K2 (upd ii i v) := fun x hx => by
  by_cases e : x = i
  · rw [e, up_s]; exact hv
  · rw [up_o e]; exact h x (by omega)
theorem In_0 {K c inp : Int} {md ii : Nat → Int32} (h : Iz0 K ii) (hK : 420 ≤ K) : In c inp md ii := Or.inr (fun x hx hn => absurd (h x (by omega)) hn)
theorem In_z {c inp : Int} {md ii : Nat → Int32} (h : c = 0) : In c inp md ii := Or.inl h
theorem In_u {c d inp : Int} {md ii : Nat → Int32} {x : Int32} {v : Int32} (h : In c inp md ii) (hc : ¬ c = 0) (hx : 0 ≤ x.toInt) (hv : v.toInt = 0 ∨ ¬ (ii x.toNatClampNeg).toInt = 0 ∨ (2 ≤ x.toInt ∧ x.toInt ≤ 417 ∧ ¬ (x.toInt % 2 = 0 ∧ 1 ≤ x.toInt / 2 ∧ x.toInt / 2 ≤ inp) ∧ ¬ (md x.toNatClampNeg).toInt = 0)) : In d inp md (upd ii x.toNatClampNeg v) := by
  rcases h with q | q
  · exact absurd q hc
  · refine Or.inr (fun z hz hn => ?_)
    by_cases e : z = x.toNatClampNeg
    · subst e
      rw [up_s] at hn
      have t := tn_n x
      rcases hv with w | w | ⟨w1, w2, w3, w4⟩
      · exact absurd w hn
      · exact q _ hz w
      · have ex : ((x.toNatClampNeg : Nat) : Int) = x.toInt := by omega
        refine ⟨by omega, by omega, ?_, w4⟩
        unfold Gn
        rw [ex]; exact w3
    · rw [up_o e] at hn; exact q z hz hn
theorem In_p {c inp : Int} {fc md mb hp ii : Nat → Int32} {l x z : Int32} {i : Nat} {k : Int} {v : Int32} (h : In c inp md ii) (hM : Md inp fc md mb hp) (hH : Hl 0 0 hp md) (hz : z.toInt = (ii l.toNatClampNeg).toInt) (hn : ¬ z.toInt = 0) (hl : 0 ≤ l.toInt ∧ l.toInt < 420) (hx : x.toInt = (mb i).toInt) (hi : (i : Int) = 5 * l.toInt + 2 + k) (hk : 0 ≤ k ∧ k ≤ 2) (h2 : 2 ≤ x.toInt) (h4 : x.toInt ≤ 417) (hw : ¬ (x.toInt % 2 = 0 ∧ 1 ≤ x.toInt / 2 ∧ x.toInt / 2 ≤ inp)) : In c inp md (upd ii x.toNatClampNeg v) := by
  rcases h with q | q
  · exact Or.inl q
  · by_cases hc : c = 0
    · exact Or.inl hc
    · have t := tn_n l
      have tx := tn_n x
      rw [hz] at hn
      obtain ⟨g1, g2, g3, g4⟩ := q _ (by omega) hn
      refine In_u (c := c) (Or.inr q) hc (by omega) (Or.inr (Or.inr ⟨h2, by omega, hw, ?_⟩))
      rcases hM _ (by omega) g4 with w | w
      · exact absurd w g3
      · have ww := w k.toNat (by omega)
        have ei : 5 * l.toNatClampNeg + 2 + k.toNat = i := by omega
        rw [ei, ← i_eq hx] at ww
        rcases ww with y | ⟨_, _, y⟩
        · omega
        · rcases y with y | y | y
          · exact y
          · rcases hH _ (by omega) y with u | u
            · exact u
            · omega
          · have ex : ((x.toNatClampNeg : Nat) : Int) = x.toInt := by omega
            unfold Gn at y
            rw [ex] at y
            exact absurd y hw
abbrev Iq (x : Int) (mb fc : Nat → Int32) : Prop := 2 ≤ x ∧ x ≤ 417 ∧ ∀ k : Nat, k < 3 → ((mb (5 * x.toNat + 2 + k)).toInt = -1 ∧ (fc (4 * (mb (5 * x.toNat + 1)).toNatClampNeg + 2)).toInt ≤ (k : Int)) ∨ 2 ≤ (mb (5 * x.toNat + 2 + k)).toInt
abbrev Iw (ii mb fc : Nat → Int32) : Prop := ∀ x : Nat, x < 420 → ¬ (ii x).toInt = 0 → Iq (x : Int) mb fc
abbrev Iv (c : Int) (ii mb fc : Nat → Int32) : Prop := c = 0 ∨ Iw ii mb fc
theorem In_e {c d inp : Int} {fc md mb hp ii : Nat → Int32} (h : In c inp md ii) (hM : Md inp fc md mb hp) (hd : d = c) : Iv d ii mb fc := by
  subst hd
  rcases h with q | q
  · exact Or.inl q
  · refine Or.inr (fun x hx hn => ?_)
    obtain ⟨g1, g2, g3, g4⟩ := q x hx hn
    refine ⟨by omega, by omega, fun k hk => ?_⟩
    rcases hM x hx g4 with w | w
    · exact absurd w g3
    · rcases w k hk with y | y
      · exact Or.inl y
      · exact Or.inr y.1
theorem Iv_e {c : Int} {ii mb fc : Nat → Int32} (h : Iv c ii mb fc) (hc : ¬ c = 0) : Iw ii mb fc := by
  rcases h with q | q
  · exact absurd q hc
  · exact q
abbrev Io (c : Int) (io mb fc : Nat → Int32) : Prop := ∀ i : Nat, (i : Int) < c → Iq (io i).toInt mb fc
theorem Io_0 (io mb fc : Nat → Int32) : Io 0 io mb fc := fun i h => by omega
theorem Io_s {c c2 : Int} {ii io mb fc : Nat → Int32} {i : Nat} {v z : Int32} (h : Io c io mb fc) (hw : Iw ii mb fc) (hc : c2 = c + 1) (hi : (i : Int) = c) (hz : z.toInt = (ii v.toNatClampNeg).toInt) (hn : ¬ z.toInt = 0) (hv : 0 ≤ v.toInt ∧ v.toInt < 420) : Io c2 (upd io i v) mb fc := fun j hj => by
  by_cases e : j = i
  · rw [e, up_s]
    have t := tn_n v
    have := hw v.toNatClampNeg (by omega) (by rw [← hz]; exact hn)
    rw [show ((v.toNatClampNeg : Nat) : Int) = v.toInt by omega] at this
    exact this
  · rw [up_o e]; exact h j (by omega)
theorem Io_at {c : Int} {io mb fc : Nat → Int32} {i : Nat} {x : Int32} (h : Io c io mb fc) (hi : (i : Int) < c) (hx : x.toInt = (io i).toInt) : Iq x.toInt mb fc := by rw [hx]; exact h i hi
abbrev Iz (x y : Int) (mb fc : Nat → Int32) : Prop := Iq x mb fc ∧ y = (mb (5 * x.toNat + 1)).toInt
theorem Iz_i {x y : Int32} {mb fc : Nat → Int32} {i : Nat} (h : Iq x.toInt mb fc) (hy : y.toInt = (mb i).toInt) (hi : (i : Int) = 5 * x.toInt + 1) : Iz x.toInt y.toInt mb fc := ⟨h, by rw [hy]; congr 2; have := h.1; omega⟩
theorem Iz_at {x y : Int} {mb fc : Nat → Int32} (h : Iz x y mb fc) (j i k : Nat) : (j : Int) = 5 * x + 2 + (k : Int) → k < 3 → (i : Int) = 4 * y + 2 → 0 ≤ y → ((mb j).toInt = -1 ∧ (fc i).toInt ≤ (k : Int)) ∨ 2 ≤ (mb j).toInt := fun hj hk hi hy => by
  have h1 := h.1.1
  have e1 : 5 * x.toNat + 2 + k = j := by omega
  have e2 : 4 * (mb (5 * x.toNat + 1)).toNatClampNeg + 2 = i := by
    have := tn_n (mb (5 * x.toNat + 1))
    have := h.2
    omega
  have := h.1.2.2 k hk
  rw [e1, e2] at this
  exact this
abbrev Pa (K p : Int) (f : Nat → Int32) : Prop := ∀ k : Nat, (k : Int) < K → (f k).toInt < p
theorem Pa_0 (p : Int) (f : Nat → Int32) : Pa 0 p f := fun k h => by omega
theorem Pa_s {K K2 : Int} {p v x : Int32} {f : Nat → Int32} {i : Nat} (h : Pa K p.toInt f) (hK : K2 = K + 1) (hi : (i : Int) = K) (hv : v = x - x / p * p) (hx : 0 ≤ x.toInt) (hp : 0 < p.toInt) : Pa K2 p.toInt (upd f i v) := fun k hk => by
  by_cases e : k = i
  · rw [e, up_s, hv, i_rem hx hp]; exact Int.emod_lt_of_pos _ hp
  · rw [up_o e]; exact h k (by omega)
theorem Pa_w {K L p : Int} {f : Nat → Int32} (h : Pa K p f) (hw : L ≤ K) : Pa L p f := fun k hk => h k (by omega)
theorem Cf_i {x6 x8 i v : Int32} {fc : Nat → Int32} {r : Int} (h6 : x6.toInt = (fc i.toNatClampNeg).toInt) (h8 : x8.toInt = r) (h : x6.toInt = x8.toInt) (hi : i.toInt = 4 * v.toInt + 2) (h0 : 0 ≤ v.toInt) : r = (fc (4 * v.toNatClampNeg + 2)).toInt := by
  have t1 := tn_n i
  have t2 := tn_n v
  rw [show 4 * v.toNatClampNeg + 2 = i.toNatClampNeg by omega, ← h6, h, h8]
theorem Mf_1 {p a : Int} {fc m : Nat → Int32} {i : Nat} {v : Int32} (h1 : p = a) (h2 : a = (fc (4 * v.toNatClampNeg + 2)).toInt) (hi : i = 1) : Mf p fc (upd m i v) := by
  subst hi
  show p = (fc (4 * (upd m 1 v 1).toNatClampNeg + 2)).toInt
  rw [up_s, h1]; exact h2
theorem Cf_0 {x6 i v : Int32} {fc : Nat → Int32} (h6 : x6.toInt = (fc i.toNatClampNeg).toInt) (hi : i.toInt = 4 * v.toInt + 2) (h0 : 0 ≤ v.toInt) : x6.toInt = (fc (4 * v.toNatClampNeg + 2)).toInt := by
  have t1 := tn_n i
  have t2 := tn_n v
  rw [show 4 * v.toNatClampNeg + 2 = i.toNatClampNeg by omega, ← h6]
theorem m2_w {m : Nat → Int32} {u v w y x : Int32} {l : Int} (h : w.toInt = l) : (upd (upd (upd (upd (upd m 0 u) 1 v) 2 w) 3 y) 4 x 2).toInt = l := by
  rw [up_o (by decide), up_o (by decide), up_s]; exact h
theorem Io_l {c : Int} {io mb fc : Nat → Int32} (h : Io c io mb fc) (i : Nat) : (i : Int) < c → 2 ≤ (io i).toInt ∧ (io i).toInt ≤ 417 := fun q => ⟨(h i q).1, (h i q).2.1⟩

theorem i_xb {x y : Int32} (h : 0 ≤ x.toInt) (h0 : 0 ≤ y.toInt) (h1 : y.toInt ≤ 1) : (x ^^^ y).toInt = x.toInt - x.toInt % 2 + (x.toInt + y.toInt) % 2 := by
  rcases (show y.toInt = 0 ∨ y.toInt = 1 by omega) with q | q
  · have e : y = 0 := i_eq q
    subst e
    rw [show x ^^^ 0 = x from Int32.xor_zero]
    omega
  · have e : y = 1 := i_eq q
    subst e
    rw [i_x1 h]
    omega
abbrev Gx (b n : Int) (on tw : Nat → Int32) : Prop := ∀ g : Nat, (g : Int) < n → 2 ≤ (on g).toInt ∧ (on g).toInt / 2 < (tw g).toInt / 2 ∧ (tw g).toInt / 2 < b + (g : Int)
theorem Gx_z {b n : Int} {on tw : Nat → Int32} (h : n ≤ 0) : Gx b n on tw := fun g q => by omega
theorem Gx_b {b c n : Int} {on tw : Nat → Int32} (h : Gx b n on tw) (hb : c = b) : Gx c n on tw := by subst hb; exact h
theorem Gx_s {b n n2 : Int} {on tw : Nat → Int32} {i j : Nat} {x y : Int32} (h : Gx b n on tw) (hn : n2 = n + 1) (hi : (i : Int) = n) (hj : j = i) (hx : 2 ≤ x.toInt) (hxy : x.toInt / 2 < y.toInt / 2) (hy : y.toInt < 2 * (b + n)) : Gx b n2 (upd on i x) (upd tw j y) := fun g hg => by
  subst hj
  by_cases e : g = j
  · rw [e, up_s, up_s]; omega
  · rw [up_o e, up_o e]; exact h g (by omega)
abbrev Ce (n : Int) (f g : Nat → Int32) : Prop := ∀ i : Nat, (i : Int) < n → g i = f i
theorem Ce_0 (f g : Nat → Int32) : Ce 0 f g := fun i h => by omega
theorem Ce_s {n n2 : Int} {f g : Nat → Int32} {i : Nat} {v : Int32} (h : Ce n f g) (hn : n2 = n + 1) (hi : (i : Int) = n) (hv : v.toInt = (f i).toInt) : Ce n2 f (upd g i v) := fun j hj => by
  by_cases e : j = i
  · rw [e, up_s]; exact i_eq hv
  · rw [up_o e]; exact h j (by omega)
theorem Gx_c {b n n2 K : Int} {on tw on2 tw2 : Nat → Int32} (h : Gx b n on tw) (h1 : Ce K on on2) (h2 : Ce K tw tw2) (hn : n2 = n) (hK : n ≤ K) : Gx b n2 on2 tw2 := fun g hg => by
  rw [h1 g (by omega), h2 g (by omega)]; exact h g (by omega)
abbrev No (n N : Int) (f : Nat → Int32) : Prop := ∀ k : Nat, (k : Int) < n → (f k).toInt < 2 * N
theorem No_z {n N : Int} {f : Nat → Int32} (h : n ≤ 0) : No n N f := fun k q => by omega
theorem No_w {n n2 N N2 : Int} {f : Nat → Int32} (h : No n N f) (hn : n2 ≤ n) (hN : N ≤ N2) : No n2 N2 f := fun k q => by
  have := h k (by omega)
  omega
theorem No_s {n n2 N : Int} {f : Nat → Int32} {i : Nat} {v : Int32} (h : No n N f) (hn : n2 = n + 1) (hi : (i : Int) = n) (hv : v.toInt < 2 * N) : No n2 N (upd f i v) := fun k q => by
  by_cases e : k = i
  · rw [e, up_s]; exact hv
  · rw [up_o e]; exact h k (by omega)
theorem No_c {n n2 N N2 K : Int} {f g : Nat → Int32} (h : No n N f) (h1 : Ce K f g) (hK : n2 ≤ K) (hn : n2 ≤ n) (hN : N ≤ N2) : No n2 N2 g := fun k q => by
  rw [h1 k (by omega)]
  have := h k (by omega)
  omega
abbrev Fn (n N : Int) (ou re : Nat → Int32) : Prop := ∀ k : Nat, (k : Int) < n → (re ((ou k).toInt / 2).toNat).toInt < 2 * N
theorem Fn_at {n N : Int} {ou re : Nat → Int32} (h : Fn n N ou re) (k i : Nat) : (k : Int) < n → (i : Int) = (ou k).toInt / 2 → (re i).toInt < 2 * N := fun h1 h2 => by
  have := h k h1
  rw [show ((ou k).toInt / 2).toNat = i by omega] at this
  exact this
abbrev Gl (t N : Int) (gv tn lo : Nat → Int32) : Prop := ∀ k j : Nat, (j : Int) = 6 * t + (k : Int) → (k : Int) + 1 < (tn t.toNat).toInt → (8 ≤ (gv j).toInt → (lo ((gv j).toInt - 8).toNat).toInt < 2 * N) ∧ ((gv j).toInt < 8 → 2 * ((gv j).toInt + 1) < 2 * N)
theorem Gl_at {t : Int32} {N : Int} {gv tn lo : Nat → Int32} (h : Gl t.toInt N gv tn lo) (k j : Nat) : (j : Int) = 6 * t.toInt + (k : Int) → (k : Int) + 1 < (tn t.toNatClampNeg).toInt → (gv j).toInt < 8 → 2 * ((gv j).toInt + 1) < 2 * N := fun h1 h2 => (h k j h1 h2).2
theorem Gl_of {t : Int32} {N : Int} {gv tn lo : Nat → Int32} (h : Gl t.toInt N gv tn lo) (k j i : Nat) : (j : Int) = 6 * t.toInt + (k : Int) → (k : Int) + 1 < (tn t.toNatClampNeg).toInt → 8 ≤ (gv j).toInt → (i : Int) = (gv j).toInt - 8 → (lo i).toInt < 2 * N := fun h1 h2 h3 h4 => by
  have := (h k j h1 h2).1 h3
  rw [show ((gv j).toInt - 8).toNat = i by omega] at this
  exact this
abbrev Vl (n N : Int) (fd lo : Nat → Int32) : Prop := ∀ t : Nat, (t : Int) < n → ¬ (fd t).toInt = 0 → (lo t).toInt < 2 * N
theorem Vl_w {n N N2 : Int} {fd lo : Nat → Int32} (h : Vl n N fd lo) (hN : N ≤ N2) : Vl n N2 fd lo := fun t h1 h2 => by
  have := h t h1 h2
  omega
theorem Vl_s {n N N2 : Int} {fd lo : Nat → Int32} {i j : Nat} {v w : Int32} (h : Vl n N fd lo) (hN : N ≤ N2) (hj : j = i) (hv : v.toInt < 2 * N2) : Vl n N2 (upd fd j w) (upd lo i v) := fun t h1 h2 => by
  subst hj
  by_cases e : t = j
  · rw [e, up_s]; exact hv
  · rw [up_o e] at h2 ⊢
    have := h t h1 h2
    omega
theorem Vl_at {n N : Int} {fd lo : Nat → Int32} (h : Vl n N fd lo) (i : Nat) : (i : Int) < n → ¬ (fd i).toInt = 0 → (lo i).toInt < 2 * N := h i
abbrev Fc (n : Int) (fd : Nat → Int32) : Prop := ∀ t : Nat, (t : Int) < n → (fd t).toInt = 0
theorem Fc_0 (fd : Nat → Int32) : Fc 0 fd := fun t h => by omega
theorem Fc_s {n n2 : Int} {fd : Nat → Int32} {i : Nat} {v : Int32} (h : Fc n fd) (hn : n2 = n + 1) (hi : (i : Int) = n) (hv : v.toInt = 0) : Fc n2 (upd fd i v) := fun t q => by
  by_cases e : t = i
  · rw [e, up_s]; exact hv
  · rw [up_o e]; exact h t (by omega)
theorem Fc_V {n m N : Int} {fd lo : Nat → Int32} (h : Fc n fd) (hm : m ≤ n) : Vl m N fd lo := fun t h1 h2 => absurd (h t (by omega)) h2
abbrev Gi (n inp : Int) (gv tn : Nat → Int32) : Prop := ∀ t k j : Nat, j = 6 * t + k → (t : Int) < n → (k : Int) + 1 < (tn t).toInt → (gv j).toInt < 8 → (gv j).toInt < inp
abbrev Gj (T K inp : Int) (gv tn : Nat → Int32) : Prop := ∀ t k j : Nat, j = 6 * t + k → ((t : Int) < T ∨ ((t : Int) = T ∧ (k : Int) < K)) → (k : Int) + 1 < (tn t).toInt → (gv j).toInt < 8 → (gv j).toInt < inp
theorem Gj_0 (inp : Int) (gv tn : Nat → Int32) : Gj 0 0 inp gv tn := fun t k j _ h _ => by omega
theorem Gj_s {T K K2 inp : Int} {gv tn : Nat → Int32} {i : Nat} {v : Int32} (h : Gj T K inp gv tn) (hb : ∀ t, (tn t).toInt ≤ 6) (hi : (i : Int) = 6 * T + K) (h0 : 0 ≤ K ∧ K ≤ 4) (hK : K2 = K + 1) (hv : 8 ≤ v.toInt ∨ v.toInt < inp) : Gj T K2 inp (upd gv i v) tn := fun t k j hj hc hk h8 => by
  have hb2 := hb t
  by_cases e : j = i
  · rw [e, up_s] at h8 ⊢; omega
  · rw [up_o e] at h8 ⊢; exact h t k j hj (by omega) hk h8
theorem Gj_n {T T2 K inp : Int} {gv tn : Nat → Int32} (h : Gj T K inp gv tn) (hK : (tn T.toNat).toInt ≤ K + 1) (h0 : 0 ≤ T) (hT : T2 = T + 1) : Gj T2 0 inp gv tn := fun t k j hj hc hk h8 => by
  by_cases e : (t : Int) = T
  · have et : t = T.toNat := by omega
    have hk2 := hk
    rw [et] at hk2
    exact h t k j hj (by omega) hk h8
  · exact h t k j hj (by omega) hk h8
theorem Gj_e {T n inp : Int} {gv tn : Nat → Int32} (h : Gj T 0 inp gv tn) (hT : n ≤ T) : Gi n inp gv tn := fun t k j hj ht hk h8 => h t k j hj (by omega) hk h8
abbrev Ri (f n inp : Int) (gv tn : Nat → Int32) : Prop := f = 0 → Gi n inp gv tn
abbrev Nz (w t K : Int) (fd gv tn : Nat → Int32) : Prop := w < 0 → ∀ k j : Nat, (j : Int) = 6 * t + (k : Int) → K < (k : Int) → (k : Int) + 1 < (tn t.toNat).toInt → 8 ≤ (gv j).toInt → ¬ (fd ((gv j).toInt - 8).toNat).toInt = 0
theorem Nz_0 {w K : Int} {t : Int32} {fd gv tn : Nat → Int32} (hK : (tn t.toNatClampNeg).toInt ≤ K + 2) : Nz w t.toInt K fd gv tn := fun _ k j hj h1 h2 => by
  have h3 : (k : Int) + 1 < (tn t.toNatClampNeg).toInt := h2
  omega
theorem Nz_p {w t K : Int} {fd gv tn : Nat → Int32} (h : 0 ≤ w) : Nz w t K fd gv tn := fun q => by omega
theorem Nz_s {w t K K2 : Int} {fd gv tn : Nat → Int32} {i : Nat} {x g : Int32} (h : Nz w t K fd gv tn) (hg : g.toInt = (gv i).toInt) (hi : (i : Int) = 6 * t + K) (hK : K2 = K - 1) (hx : x.toInt = g.toInt - 8) (hd : x.toInt < 0 ∨ ¬ (fd x.toNatClampNeg).toInt = 0) : Nz w t K2 fd gv tn := fun hw k j hj h1 h2 h8 => by
  by_cases e : (k : Int) = K
  · have ej : j = i := by omega
    rw [ej, ← hg] at h8 ⊢
    rcases hd with q | q
    · omega
    · have tx := tn_n x
      rw [show (g.toInt - 8).toNat = x.toNatClampNeg by omega]
      exact q
  · exact h hw k j hj (by omega) h2 h8
theorem Gl_i {n N inp t w K : Int} {fd lo gv tn : Nat → Int32} (hV : Vl n N fd lo) (hG : Gv n gv tn) (hI : Gi n inp gv tn) (hN : Nz w t K fd gv tn) (hw : w < 0) (hK : K < 0) (ht : 0 ≤ t ∧ t < n) (hb : inp + 1 ≤ N) : Gl t N gv tn lo := fun k j hj hk => by
  have e : j = 6 * t.toNat + k := by omega
  refine ⟨fun h8 => ?_, fun h8 => ?_⟩
  · have h1 := hG t.toNat k j e (by omega) hk
    exact hV _ (by omega) (hN hw k j hj (by omega) hk h8)
  · have := hI t.toNat k j e (by omega) hk h8
    omega
abbrev Ft (op t : Int) (ot fd : Nat → Int32) : Prop := (op ≤ 0 → ¬ (fd t.toNat).toInt = 0) ∧ (1 ≤ op → (ot 0).toInt = t)
theorem Ft_0 {t : Int} {ot fd : Nat → Int32} {i : Nat} {v : Int32} (hi : i = 0) (hv : v.toInt = t) : Ft 1 t (upd ot i v) fd := ⟨fun q => by omega, fun _ => by rw [hi, up_s]; exact hv⟩
theorem Ft_push {op op2 t : Int} {ot fd : Nat → Int32} {i : Nat} {v : Int32} (h : Ft op t ot fd) (ho : 1 ≤ op) (hi : (i : Int) = op) (hp : op2 = op + 1) : Ft op2 t (upd ot i v) fd := ⟨fun q => by omega, fun _ => by rw [up_o (by omega)]; exact h.2 ho⟩
theorem Ft_pop {op op2 t u : Int} {ot fd : Nat → Int32} {i : Nat} {v : Int32} (h : Ft op t ot fd) (hto : To u op ot) (hi : (i : Int) = u) (hp : op2 = op - 1) (hv : ¬ v.toInt = 0) : Ft op2 t ot (upd fd i v) := by
  refine ⟨fun q => ?_, fun q => h.2 (by omega)⟩
  have h1 := hto.1
  have e : op = 1 := by omega
  have h2 := hto.2
  subst e
  have h3 := h.2 (by omega)
  have h4 : (ot 0).toInt = u := h2
  rw [show t.toNat = i by omega, up_s]
  exact hv

noncomputable def sm (P : Nat → Prop) (w : Nat → Nat) : Nat → Nat
  | 0 => 0
  | m + 1 => sm P w m + @ite Nat (P m) (Classical.propDecidable (P m)) (w m) 0
theorem sm_t {P : Nat → Prop} {w : Nat → Nat} {m : Nat} (h : P m) : sm P w (m + 1) = sm P w m + w m := by
  show sm P w m + @ite Nat (P m) (Classical.propDecidable (P m)) (w m) 0 = _
  rw [if_pos h]
theorem sm_f {P : Nat → Prop} {w : Nat → Nat} {m : Nat} (h : ¬ P m) : sm P w (m + 1) = sm P w m := by
  show sm P w m + @ite Nat (P m) (Classical.propDecidable (P m)) (w m) 0 = _
  rw [if_neg h]; rfl
theorem sm_mono {P Q : Nat → Prop} {w u : Nat → Nat} : ∀ m : Nat, (∀ g, g < m → P g → Q g ∧ w g ≤ u g) → sm P w m ≤ sm Q u m := by
  intro m
  induction m with
  | zero => intro _; exact Nat.le_refl 0
  | succ m ih =>
    intro h
    have h1 := ih (fun g hg hp => h g (by omega) hp)
    by_cases q : P m
    · have h2 := h m (by omega) q
      rw [sm_t q, sm_t h2.1]; omega
    · rw [sm_f q]
      by_cases q2 : Q m
      · rw [sm_t q2]; omega
      · rw [sm_f q2]; exact h1
theorem sm_cg {P Q : Nat → Prop} {w : Nat → Nat} (m : Nat) (h : ∀ g, g < m → (P g ↔ Q g)) : sm P w m = sm Q w m := Nat.le_antisymm (sm_mono m (fun g hg hp => ⟨(h g hg).mp hp, Nat.le_refl _⟩)) (sm_mono m (fun g hg hp => ⟨(h g hg).mpr hp, Nat.le_refl _⟩))
theorem sm_add {P Q : Nat → Prop} {w : Nat → Nat} {x : Nat} : ∀ m : Nat, x < m → ¬ P x → (∀ g, g < m → (Q g ↔ P g ∨ g = x)) → sm Q w m = sm P w m + w x := by
  intro m
  induction m with
  | zero => intro h; omega
  | succ m ih =>
    intro hx hp h
    by_cases e : x = m
    · subst e
      rw [sm_t ((h x (by omega)).mpr (Or.inr rfl)), sm_f hp, sm_cg x (fun g hg => ⟨fun q => ((h g (by omega)).mp q).elim id (fun z => by omega), fun q => (h g (by omega)).mpr (Or.inl q)⟩)]
    · have h1 := ih (by omega) hp (fun g hg => h g (by omega))
      by_cases q : P m
      · rw [sm_t ((h m (by omega)).mpr (Or.inl q)), sm_t q, h1]; omega
      · rw [sm_f (fun z => ((h m (by omega)).mp z).elim q (fun y => e y.symm)), sm_f q, h1]
theorem sm_hi {P : Nat → Prop} {w : Nat → Nat} {c l : Nat} (hw : ∀ g, w g ≤ c) : ∀ m : Nat, (∀ g, g < m → P g → l ≤ g) → sm P w m ≤ c * (m - l) := by
  intro m
  induction m with
  | zero => intro _; exact Nat.zero_le _
  | succ m ih =>
    intro h
    have h1 := ih (fun g hg hp => h g (by omega) hp)
    by_cases q : P m
    · have h2 := h m (by omega) q
      have h3 := hw m
      rw [sm_t q, show m + 1 - l = (m - l) + 1 by omega, Nat.mul_succ]; omega
    · rw [sm_f q]
      exact Nat.le_trans h1 (Nat.mul_le_mul_left c (by omega))
theorem sm_at {P : Nat → Prop} {w : Nat → Nat} {x : Nat} : ∀ m : Nat, x < m → P x → w x ≤ sm P w m := by
  intro m
  induction m with
  | zero => intro h; omega
  | succ m ih =>
    intro hx hp
    by_cases e : x = m
    · subst e; rw [sm_t hp]; omega
    · have h1 := ih (by omega) hp
      by_cases q : P m
      · rw [sm_t q]; omega
      · rw [sm_f q]; exact h1
theorem sm_2 {P : Nat → Prop} {w : Nat → Nat} {x y m : Nat} (hx : x < m) (hy : y < m) (hn : ¬ x = y) (px : P x) (py : P y) : w x + w y ≤ sm P w m := by
  have h1 := sm_add (P := fun g => P g ∧ ¬ g = x) (Q := P) (w := w) (x := x) m hx (fun q => q.2 rfl) (fun g _ => ⟨fun q => (Classical.em (g = x)).elim Or.inr (fun z => Or.inl ⟨q, z⟩), fun q => q.elim And.left (fun z => by rw [z]; exact px)⟩)
  have h2 := sm_at (P := fun g => P g ∧ ¬ g = x) (w := w) (x := y) m hy ⟨py, fun z => hn z.symm⟩
  omega
def e1 (on tw : Nat → Int32) (n g : Nat) : Nat := (if (on g).toInt / 2 = (n : Int) then 1 else 0) + (if (tw g).toInt / 2 = (n : Int) then 1 else 0)
def eo (ou : Nat → Int32) (n i : Nat) : Nat := if (ou i).toInt / 2 = (n : Int) then 1 else 0
theorem e1_b (on tw : Nat → Int32) (n g : Nat) : e1 on tw n g ≤ 2 := by unfold e1; split <;> split <;> omega
theorem eo_b (ou : Nat → Int32) (n i : Nat) : eo ou n i ≤ 1 := by unfold eo; split <;> omega
abbrev Uo (K : Int) (ou us : Nat → Int32) : Prop := ∀ n : Nat, n < 210 → (us n).toInt = ((sm (fun _ => True) (eo ou n) K.toNat : Nat) : Int)
abbrev Nk (K : Int) (ou nd : Nat → Int32) : Prop := ∀ k i : Nat, (k : Int) < K → (i : Int) = (ou k).toInt / 2 → ¬ (nd i).toInt = 0
theorem Uo_0 {K : Int} {ou us : Nat → Int32} (h : Fc K us) (hK : 210 ≤ K) : Uo 0 ou us := fun n hn => h n (by omega)
theorem Nk_0 (ou nd : Nat → Int32) : Nk 0 ou nd := fun k i h => by omega
theorem Uo_b {K : Int} {ou us : Nat → Int32} (h : Uo K ou us) (i : Nat) : i < 210 → 0 ≤ K → 0 ≤ (us i).toInt ∧ (us i).toInt ≤ K := fun hi hK => by
  rw [h i hi]
  have := sm_hi (P := fun _ => True) (w := eo ou i) (c := 1) (l := 0) (eo_b ou i) K.toNat (fun _ _ _ => Nat.zero_le _)
  omega
theorem Uo_s {K K2 : Int} {ou us : Nat → Int32} {i k : Nat} {v : Int32} (h : Uo K ou us) (hK : K2 = K + 1) (h0 : 0 ≤ K) (hk : (k : Int) = K) (hi : (i : Int) = (ou k).toInt / 2) (hv : v.toInt = (us i).toInt + 1) : Uo K2 ou (upd us i v) := fun n hn => by
  have e : K2.toNat = K.toNat + 1 := by omega
  have ek : k = K.toNat := by omega
  rw [e, sm_t trivial, ← ek]
  by_cases q : n = i
  · rw [q, up_s, hv, h i (by omega), ← ek]
    have : eo ou i k = 1 := by unfold eo; rw [if_pos hi.symm]
    omega
  · rw [up_o q, h n hn, ← ek]
    have : eo ou n k = 0 := by unfold eo; rw [if_neg (by omega)]
    omega
theorem Nk_s {K K2 : Int} {ou nd : Nat → Int32} {i k : Nat} {v : Int32} (h : Nk K ou nd) (hK : K2 = K + 1) (hk : (k : Int) = K) (hi : (i : Int) = (ou k).toInt / 2) (hv : ¬ v.toInt = 0) : Nk K2 ou (upd nd i v) := fun a j ha hj => by
  by_cases q : j = i
  · rw [q, up_s]; exact hv
  · rw [up_o q]
    by_cases z : a = k
    · subst z; omega
    · exact h a j (by omega) hj
abbrev Lk (lo b G K : Int) (ou on tw nd us : Nat → Int32) : Prop := (∀ n : Nat, n < 210 → (us n).toInt = ((sm (fun _ => True) (eo ou n) K.toNat : Nat) : Int) + ((sm (fun g => lo < (g : Int) ∧ ¬ (nd (b + (g : Int)).toNat).toInt = 0) (e1 on tw n) G.toNat : Nat) : Int)) ∧ (∀ g j i : Nat, lo < (g : Int) → (g : Int) < G → (j : Int) = b + (g : Int) → ¬ (nd j).toInt = 0 → ((i : Int) = (on g).toInt / 2 ∨ (i : Int) = (tw g).toInt / 2) → ¬ (nd i).toInt = 0) ∧ Nk K ou nd
theorem Lk_0 {lo b G K K2 : Int} {ou on tw nd us : Nat → Int32} (h : Uo K2 ou us) (hn : Nk K2 ou nd) (hK : K2 = K) (hl : lo = G - 1) (hG : 0 ≤ G) : Lk lo b G K ou on tw nd us := by
  subst hK
  refine ⟨fun n hn => ?_, fun g j i h1 h2 => by omega, hn⟩
  rw [h n hn]
  have := sm_hi (P := fun g => lo < (g : Int) ∧ ¬ (nd (b + (g : Int)).toNat).toInt = 0) (w := e1 on tw n) (c := 2) (l := G.toNat) (e1_b on tw n) G.toNat (fun g _ q => by have := q.1; omega)
  rw [Nat.sub_self] at this
  omega
theorem Lk_b {lo b G K : Int} {ou on tw nd us : Nat → Int32} (h : Lk lo b G K ou on tw nd us) (i : Nat) : i < 210 → 0 ≤ K → -1 ≤ lo → lo < G → 0 ≤ (us i).toInt ∧ (us i).toInt ≤ K + 2 * (G - 1 - lo) := fun hi hK h1 h2 => by
  rw [h.1 i hi]
  have t1 := sm_hi (P := fun _ => True) (w := eo ou i) (c := 1) (l := 0) (eo_b ou i) K.toNat (fun _ _ _ => Nat.zero_le _)
  have t2 := sm_hi (P := fun g => lo < (g : Int) ∧ ¬ (nd (b + (g : Int)).toNat).toInt = 0) (w := e1 on tw i) (c := 2) (l := (lo + 1).toNat) (e1_b on tw i) G.toNat (fun g _ q => by have := q.1; omega)
  omega
theorem Lk_n {lo lo2 b G K : Int} {ou on tw nd us : Nat → Int32} {j : Nat} (h : Lk lo b G K ou on tw nd us) (h0 : 0 ≤ lo) (hb : 0 ≤ b) (hj : (j : Int) = b + lo) (hz : (nd j).toInt = 0) (hl : lo2 = lo - 1) : Lk lo2 b G K ou on tw nd us := by
  refine ⟨fun n hn => ?_, fun g k i h1 h2 h3 h4 => ?_, h.2.2⟩
  · rw [h.1 n hn, sm_cg (P := fun g => lo2 < (g : Int) ∧ ¬ (nd (b + (g : Int)).toNat).toInt = 0) (Q := fun g => lo < (g : Int) ∧ ¬ (nd (b + (g : Int)).toNat).toInt = 0) G.toNat (fun g _ => ⟨fun q => ⟨?_, q.2⟩, fun q => ⟨by have := q.1; omega, q.2⟩⟩)]
    by_cases e : (g : Int) = lo
    · exfalso
      have := q.2
      rw [e, show (b + lo).toNat = j by omega] at this
      exact this hz
    · have := q.1; omega
  · by_cases e : (g : Int) = lo
    · have : k = j := by omega
      rw [this] at h4
      exact absurd hz h4
    · exact h.2.1 g k i (by omega) h2 h3 h4
theorem Lk_s {lo lo2 b G K : Int} {ou on tw nd us : Nat → Int32} {g a c j : Nat} {p q x y : Int32} (h : Lk lo b G K ou on tw nd us) (hG : Gx b G on tw) (h0 : 0 ≤ lo) (hlG : lo < G) (hb : 0 ≤ b) (hg : (g : Int) = lo) (ha : (a : Int) = (on g).toInt / 2) (hc : (c : Int) = (tw g).toInt / 2) (hj : (j : Int) = b + lo) (hn : ¬ (nd j).toInt = 0) (hp : ¬ p.toInt = 0) (hq : ¬ q.toInt = 0) (hx : x.toInt = (us a).toInt + 1) (hy : y.toInt = (us c).toInt + 1) (hl : lo2 = lo - 1) : Lk lo2 b G K ou on tw (upd (upd nd a p) c q) (upd (upd us a x) c y) := by
  obtain ⟨g1, g2, g3⟩ := hG g (by omega)
  have hm : ∀ i : Nat, ¬ (nd i).toInt = 0 → ¬ (upd (upd nd a p) c q i).toInt = 0 := fun i hi => by
    by_cases e : i = c
    · rw [e, up_s]; exact hq
    · rw [up_o e]
      by_cases e2 : i = a
      · rw [e2, up_s]; exact hp
      · rw [up_o e2]; exact hi
  have hs : ∀ i : Nat, b + lo ≤ (i : Int) → upd (upd nd a p) c q i = nd i := fun i hi => by rw [up_o (by omega), up_o (by omega)]
  refine ⟨fun n hn2 => ?_, fun g2 k i h1 h2 h3 h4 h5 => ?_, fun k i h1 h2 => hm i (h.2.2 k i h1 h2)⟩
  · have hu : (upd (upd us a x) c y n).toInt = (us n).toInt + (e1 on tw n g : Int) := by
      unfold e1
      by_cases e : n = c
      · rw [e, up_s, if_neg (by omega), if_pos hc.symm]; omega
      · rw [up_o e]
        by_cases e2 : n = a
        · rw [e2, up_s, if_pos ha.symm, if_neg (by omega)]; omega
        · rw [up_o e2, if_neg (by omega), if_neg (by omega)]; omega
    have hadd := sm_add (P := fun g => lo < (g : Int) ∧ ¬ (nd (b + (g : Int)).toNat).toInt = 0) (Q := fun g => lo2 < (g : Int) ∧ ¬ (upd (upd nd a p) c q (b + (g : Int)).toNat).toInt = 0) (w := e1 on tw n) (x := g) G.toNat (by omega) (fun z => by have := z.1; omega) (fun r _ => ⟨fun z => ?_, fun z => ?_⟩)
    · rw [hu, h.1 n hn2, hadd]; omega
    · by_cases e : r = g
      · exact Or.inr e
      · left
        have z1 := z.1
        have z2 := z.2
        rw [hs _ (by omega)] at z2
        exact ⟨by omega, z2⟩
    · rcases z with z | z
      · have z1 := z.1
        have z2 := z.2
        refine ⟨by omega, ?_⟩
        rw [hs _ (by omega)]; exact z2
      · refine ⟨by omega, ?_⟩
        rw [z, hs _ (by omega), show (b + (g : Int)).toNat = j by omega]; exact hn
  · by_cases e : (g2 : Int) = lo
    · have eg : g2 = g := by omega
      rw [eg] at h5
      rcases h5 with z | z
      · by_cases e2 : i = c
        · rw [e2, up_s]; exact hq
        · rw [up_o e2, show i = a by omega, up_s]; exact hp
      · rw [show i = c by omega, up_s]; exact hq
    · rw [hs k (by omega)] at h4
      exact hm i (h.2.1 g2 k i (by omega) h2 h3 h4 h5)
abbrev Ga (r l inp : Int) (us : Nat → Int32) : Prop := (r = 1 ∧ l % 2 = 0 ∧ inp + 1 ≤ l / 2 ∧ (us (l / 2).toNat).toInt = 1) ∨ (r = 0 ∧ ¬ (l % 2 = 0 ∧ inp + 1 ≤ l / 2 ∧ (us (l / 2).toNat).toInt = 1))
theorem Ga_t {r l inp : Int} {us : Nat → Int32} {x z : Int32} (hz : z.toInt = (us x.toNatClampNeg).toInt) (hr : r = 1) (hx : x.toInt = l / 2) (h1 : z.toInt = 1) (h2 : l % 2 = 0) (h3 : inp + 1 ≤ x.toInt) (h0 : 0 ≤ x.toInt) : Ga r l inp us := by
  have t := tn_n x
  refine Or.inl ⟨hr, h2, by omega, ?_⟩
  rw [show (l / 2).toNat = x.toNatClampNeg by omega, ← hz]; exact h1
theorem Ga_g {r l inp : Int} {us : Nat → Int32} {x z : Int32} (hz : z.toInt = (us x.toNatClampNeg).toInt) (hr : r = 0) (hx : x.toInt = l / 2) (h1 : ¬ z.toInt = 1) (h0 : 0 ≤ x.toInt) : Ga r l inp us := by
  have t := tn_n x
  refine Or.inr ⟨hr, fun q => ?_⟩
  have q3 := q.2.2
  rw [show (l / 2).toNat = x.toNatClampNeg by omega, ← hz] at q3
  exact h1 q3
theorem Ga_f {r l inp : Int} {us : Nat → Int32} (hr : r = 0) (h : ¬ l % 2 = 0 ∨ l / 2 < inp + 1) : Ga r l inp us := Or.inr ⟨hr, fun q => by omega⟩
theorem Ga_e {r l inp : Int} {us : Nat → Int32} (h : Ga r l inp us) (hr : ¬ r = 0) : l % 2 = 0 ∧ inp + 1 ≤ l / 2 ∧ (us (l / 2).toNat).toInt = 1 := by
  rcases h with q | q
  · exact q.2
  · omega
abbrev Ap (b G : Int) (on tw nd us ap : Nat → Int32) : Prop := ∀ n : Nat, n < 210 → ¬ (ap n).toInt = 0 → b ≤ (n : Int) ∧ (us n).toInt = 1 ∧ ∃ g j : Nat, (g : Int) < G ∧ (j : Int) = b + (g : Int) ∧ ¬ (nd j).toInt = 0 ∧ ((on g).toInt = 2 * (n : Int) ∨ (tw g).toInt = 2 * (n : Int))
theorem Ap_0 {K b G : Int} {on tw nd us ap : Nat → Int32} (h : Fc K ap) (hK : 210 ≤ K) : Ap b G on tw nd us ap := fun n hn q => absurd (h n (by omega)) q
theorem Ap_u {b G : Int} {on tw nd us ap : Nat → Int32} {i g j : Nat} {v l : Int32} (h : Ap b G on tw nd us ap) (hl : l.toInt = (on g).toInt ∨ l.toInt = (tw g).toInt) (hi : (i : Int) = l.toInt / 2) (hg : (g : Int) < G) (hj : (j : Int) = b + (g : Int)) (hn : ¬ (nd j).toInt = 0) (hv : v.toInt = 0 ∨ (∃ x : Int32, x.toInt = (ap i).toInt ∧ ¬ x.toInt = 0) ∨ (l.toInt % 2 = 0 ∧ b ≤ l.toInt / 2 ∧ (us (l.toInt / 2).toNat).toInt = 1)) : Ap b G on tw nd us (upd ap i v) := fun n h1 h2 => by
  by_cases e : n = i
  · subst e
    rw [up_s] at h2
    rcases hv with q | ⟨x, q1, q2⟩ | ⟨q1, q2, q3⟩
    · exact absurd q h2
    · exact h n h1 (by rw [← q1]; exact q2)
    · rw [show (l.toInt / 2).toNat = n by omega] at q3
      refine ⟨by omega, q3, g, j, hg, hj, hn, ?_⟩
      omega
  · rw [up_o e] at h2
    exact h n h1 h2
abbrev Od (b : Int) (re : Nat → Int32) : Prop := ∀ n : Nat, (n : Int) < b → (re n).toInt = 2 * (n : Int)
theorem Od_0 (re : Nat → Int32) : Od 0 re := fun n h => by omega
theorem Od_s {b b2 : Int} {re : Nat → Int32} {i : Nat} {v : Int32} (h : Od b re) (hb : b2 = b + 1) (hi : (i : Int) = b) (hv : v.toInt = 2 * b) : Od b2 (upd re i v) := fun n hn => by
  by_cases e : n = i
  · rw [e, up_s]; omega
  · rw [up_o e]; exact h n (by omega)
theorem Od_w {b b2 : Int} {re : Nat → Int32} (h : Od b re) (hb : b2 ≤ b) : Od b2 re := fun n hn => h n (by omega)
abbrev Rn (L b N : Int) (nd re : Nat → Int32) : Prop := ∀ n : Nat, (n : Int) < L → ((n : Int) < b ∨ ¬ (nd n).toInt = 0) → (re n).toInt < 2 * N
theorem Rn_0 {L b c N : Int} {nd re : Nat → Int32} (h : Od c re) (hL : L ≤ c) (hN : c ≤ N) : Rn L b N nd re := fun n hn _ => by
  rw [h n (by omega)]; omega
theorem Rn_w {L b N N2 : Int} {nd re : Nat → Int32} (h : Rn L b N nd re) (hN : N ≤ N2) : Rn L b N2 nd re := fun n h1 h2 => by
  have := h n h1 h2
  omega
theorem Rn_s {L L2 b N : Int} {nd re : Nat → Int32} {i : Nat} {v : Int32} (h : Rn L b N nd re) (hL : L2 = L + 1) (hi : (i : Int) = L) (hv : v.toInt < 2 * N) : Rn L2 b N nd (upd re i v) := fun n h1 h2 => by
  by_cases e : n = i
  · rw [e, up_s]; exact hv
  · rw [up_o e]; exact h n (by omega) h2
theorem Rn_k {L L2 b N : Int} {nd re : Nat → Int32} {i : Nat} (h : Rn L b N nd re) (hL : L2 = L + 1) (hi : (i : Int) = L) (hb : b ≤ L) (hz : (nd i).toInt = 0) : Rn L2 b N nd re := fun n h1 h2 => by
  by_cases e : n = i
  · rw [e] at h2
    rcases h2 with q | q
    · omega
    · exact absurd hz q
  · exact h n (by omega) h2
theorem Rn_at {L b N : Int} {nd re : Nat → Int32} (h : Rn L b N nd re) (i : Nat) : (i : Int) < L → ((i : Int) < b ∨ ¬ (nd i).toInt = 0) → (re i).toInt < 2 * N := h i
theorem Lk_k {lo b G K : Int} {ou on tw nd us : Nat → Int32} (h : Lk lo b G K ou on tw nd us) (g j i : Nat) : lo < (g : Int) → (g : Int) < G → (j : Int) = b + (g : Int) → ¬ (nd j).toInt = 0 → ((i : Int) = (on g).toInt / 2 ∨ (i : Int) = (tw g).toInt / 2) → ¬ (nd i).toInt = 0 := h.2.1 g j i
theorem Fn_i {lo b b2 G K N L : Int} {ou on tw nd us re : Nat → Int32} (h : Lk lo b G K ou on tw nd us) (hr : Rn L b2 N nd re) (ho : No K L ou) (hp : ∀ k, 0 ≤ (ou k).toInt) : Fn K N ou re := fun k hk => by
  have h1 := ho k hk
  have h2 := hp k
  exact hr _ (by omega) (Or.inr (h.2.2 k _ hk (by omega)))
abbrev Lr (v L inp : Int) (nd : Nat → Int32) : Prop := v < 0 ∨ (v < L ∧ (v ≤ inp ∨ ¬ (nd v.toNat).toInt = 0))
theorem Lr_e {v : Int32} {L inp : Int} {nd : Nat → Int32} (h : Lr v.toInt L inp nd) : v.toInt < 0 ∨ (v.toInt < L ∧ (v.toInt ≤ inp ∨ ¬ (nd v.toNatClampNeg).toInt = 0)) := h
theorem Rn_kid {lo b G K L N : Int} {ou on tw nd us re : Nat → Int32} {z : Int32} (hR : Rn L b N nd re) (hL : Lk lo b G K ou on tw nd us) (hG : Gx b G on tw) (g j i : Nat) (hz : z.toInt = (re i).toInt) (h1 : lo < (g : Int)) (h2 : (g : Int) < G) (hj : (j : Int) = b + (g : Int)) (hn : ¬ (nd j).toInt = 0) (hi : (i : Int) = (on g).toInt / 2 ∨ (i : Int) = (tw g).toInt / 2) (hl : L = b + (g : Int)) : z.toInt < 2 * N := by
  obtain ⟨g1, g2, g3⟩ := hG g h2
  rw [hz]
  exact hR i (by omega) (Or.inr (hL.2.1 g j i h1 h2 hj hn hi))
theorem Rn_like {b inp L N : Int} {nd re : Nat → Int32} {v z : Int32} (hR : Rn L b N nd re) (hL : Lr v.toInt L inp nd) (hz : z.toInt = (re v.toNatClampNeg).toInt) (h0 : 0 ≤ v.toInt) (hb : inp < b) : z.toInt < 2 * N := by
  have t := tn_n v
  rw [hz]
  rcases hL with q | ⟨q1, q2⟩
  · omega
  · refine hR _ (by omega) ?_
    rcases q2 with q | q
    · left; omega
    · right; exact q
def I_M : ok_I := (fun k => bif Nat.beq k 0 then (0, 3) else bif Nat.beq k 1 then (0, 0) else bif Nat.beq k 2 then (0, 1600) else bif Nat.beq k 4 then (0, 0) else bif Nat.beq k 5 then (0, 4) else bif Nat.beq k 7 then (0, 801) else bif Nat.beq k 8 then (0, 0) else bif Nat.beq k 9 then (0, 0) else bif Nat.beq k 10 then (0, 8) else bif Nat.beq k 11 then (0, 0) else bif Nat.beq k 12 then (0, 0) else bif Nat.beq k 13 then (0, 6) else bif Nat.beq k 14 then (0, 0) else bif Nat.beq k 15 then (0, 0) else bif Nat.beq k 17 then (0, 30) else bif Nat.beq k 18 then (0, 0) else bif Nat.beq k 19 then (0, 0) else bif Nat.beq k 20 then (0, 0) else bif Nat.beq k 21 then (0, 0) else bif Nat.beq k 22 then (0, 0) else bif Nat.beq k 23 then (0, 0) else bif Nat.beq k 24 then (0, 0) else bif Nat.beq k 25 then (0, 0) else bif Nat.beq k 26 then (0, 0) else bif Nat.beq k 27 then (0, 0) else bif Nat.beq k 28 then (0, 0) else bif Nat.beq k 29 then (0, 32) else bif Nat.beq k 30 then (0, 0) else bif Nat.beq k 31 then (0, 200) else bif Nat.beq k 32 then (0, 0) else bif Nat.beq k 33 then (0, 0) else bif Nat.beq k 34 then (0, 0) else bif Nat.beq k 35 then (0, 0) else bif Nat.beq k 36 then (0, 1) else bif Nat.beq k 37 then (0, 9) else bif Nat.beq k 38 then (0, 1) else bif Nat.beq k 39 then (0, 8) else bif Nat.beq k 40 then (0, 6) else bif Nat.beq k 41 then (0, 0) else bif Nat.beq k 42 then (0, 0) else bif Nat.beq k 43 then (0, 200) else bif Nat.beq k 44 then (0, 0) else bif Nat.beq k 45 then (0, 0) else bif Nat.beq k 46 then (0, 0) else bif Nat.beq k 47 then (0, 0) else bif Nat.beq k 48 then (0, 0) else bif Nat.beq k 49 then (0, 0) else bif Nat.beq k 50 then (0, 0) else bif Nat.beq k 51 then (0, 0) else bif Nat.beq k 52 then (0, 420) else bif Nat.beq k 53 then (0, 0) else bif Nat.beq k 54 then (0, 420) else bif Nat.beq k 55 then (0, 0) else bif Nat.beq k 56 then (0, 0) else bif Nat.beq k 57 then (0, 0) else bif Nat.beq k 58 then (0, 0) else bif Nat.beq k 59 then (0, 0) else bif Nat.beq k 60 then (0, 0) else bif Nat.beq k 61 then (0, 0) else bif Nat.beq k 62 then (0, 0) else bif Nat.beq k 63 then (0, 0) else bif Nat.beq k 64 then (0, 1) else bif Nat.beq k 65 then (0, 5) else bif Nat.beq k 66 then (0, 1) else bif Nat.beq k 67 then (0, 0) else bif Nat.beq k 68 then (0, 0) else bif Nat.beq k 69 then (0, 0) else bif Nat.beq k 70 then (0, 16) else bif Nat.beq k 71 then (0, 0) else bif Nat.beq k 72 then (0, 0) else bif Nat.beq k 73 then (0, 200) else bif Nat.beq k 74 then (0, 0) else bif Nat.beq k 75 then (0, 0) else bif Nat.beq k 76 then (0, 90000) else bif Nat.beq k 77 then (0, 0) else bif Nat.beq k 78 then (0, 1) else bif Nat.beq k 79 then (0, 12) else bif Nat.beq k 80 then (0, 0) else bif Nat.beq k 81 then (0, 0) else bif Nat.beq k 82 then (0, 12) else bif Nat.beq k 83 then (0, 0) else bif Nat.beq k 84 then (0, 0) else bif Nat.beq k 85 then (0, 1) else bif Nat.beq k 86 then (0, 0) else bif Nat.beq k 87 then (0, 0) else bif Nat.beq k 88 then (0, 0) else bif Nat.beq k 89 then (0, 0) else bif Nat.beq k 90 then (0, 0) else bif Nat.beq k 91 then (0, 0) else bif Nat.beq k 92 then (0, 0) else bif Nat.beq k 93 then (0, 420) else bif Nat.beq k 94 then (0, 0) else bif Nat.beq k 95 then (0, 1) else bif Nat.beq k 96 then (0, 24000) else bif Nat.beq k 97 then (0, 0) else bif Nat.beq k 98 then (0, 0) else (-2147483648, 2147483647), fun k => bif Nat.beq k 0 then (0, 0) else bif Nat.beq k 1 then (0, 255) else bif Nat.beq k 2 then (0, 0) else bif Nat.beq k 3 then (0, 0) else bif Nat.beq k 4 then (0, 0) else bif Nat.beq k 5 then (0, 0) else bif Nat.beq k 6 then (0, 0) else bif Nat.beq k 7 then (0, 0) else bif Nat.beq k 8 then (0, 1599) else bif Nat.beq k 9 then (0, 1600) else bif Nat.beq k 10 then (0, 0) else bif Nat.beq k 11 then (0, 1599) else bif Nat.beq k 12 then (0, 1600) else bif Nat.beq k 13 then (0, 0) else bif Nat.beq k 14 then (0, 1599) else bif Nat.beq k 15 then (0, 1600) else bif Nat.beq k 16 then (0, 0) else bif Nat.beq k 17 then (0, 0) else bif Nat.beq k 19 then (0, 6) else bif Nat.beq k 20 then (0, 1599) else bif Nat.beq k 21 then (0, 1600) else bif Nat.beq k 22 then (0, 16) else bif Nat.beq k 23 then (0, 1599) else bif Nat.beq k 24 then (0, 1) else bif Nat.beq k 25 then ((-1), 37) else bif Nat.beq k 26 then (0, 417) else bif Nat.beq k 27 then (0, 1) else bif Nat.beq k 28 then (0, 1) else bif Nat.beq k 29 then (0, 0) else bif Nat.beq k 30 then (0, 29) else bif Nat.beq k 31 then (0, 0) else bif Nat.beq k 32 then (0, 417) else bif Nat.beq k 33 then (0, 417) else bif Nat.beq k 35 then (0, 417) else bif Nat.beq k 36 then (0, 0) else bif Nat.beq k 37 then (0, 0) else bif Nat.beq k 38 then (0, 0) else bif Nat.beq k 39 then (0, 0) else bif Nat.beq k 40 then (0, 0) else bif Nat.beq k 41 then (0, 255) else bif Nat.beq k 42 then (0, 255) else bif Nat.beq k 43 then (0, 0) else bif Nat.beq k 44 then (0, 417) else bif Nat.beq k 45 then (0, 417) else bif Nat.beq k 47 then (0, 417) else bif Nat.beq k 48 then (0, 406) else bif Nat.beq k 49 then (0, 1) else bif Nat.beq k 50 then (0, 1) else bif Nat.beq k 51 then (0, 417) else bif Nat.beq k 52 then (0, 0) else bif Nat.beq k 53 then (0, 417) else bif Nat.beq k 54 then (0, 0) else bif Nat.beq k 55 then (0, 417) else bif Nat.beq k 56 then (0, 0) else bif Nat.beq k 57 then (0, 300) else bif Nat.beq k 58 then (0, 208) else bif Nat.beq k 59 then (0, 5) else bif Nat.beq k 61 then (0, 208) else bif Nat.beq k 62 then (0, 208) else bif Nat.beq k 63 then (0, 63209) else bif Nat.beq k 64 then (0, 0) else bif Nat.beq k 65 then (0, 0) else bif Nat.beq k 66 then (0, 0) else bif Nat.beq k 67 then (0, 208) else bif Nat.beq k 68 then (0, 1) else bif Nat.beq k 69 then ((-1), 81) else bif Nat.beq k 70 then (0, 0) else bif Nat.beq k 71 then (0, 1) else bif Nat.beq k 72 then (0, 1) else bif Nat.beq k 73 then (0, 0) else bif Nat.beq k 74 then (0, 208) else bif Nat.beq k 75 then (0, 1) else bif Nat.beq k 76 then (0, 0) else bif Nat.beq k 78 then (0, 0) else bif Nat.beq k 79 then (0, 0) else bif Nat.beq k 80 then (0, 255) else bif Nat.beq k 82 then (0, 0) else bif Nat.beq k 83 then (0, 255) else bif Nat.beq k 85 then (0, 0) else bif Nat.beq k 86 then (0, 1) else bif Nat.beq k 88 then (0, 1) else bif Nat.beq k 91 then (0, 255) else bif Nat.beq k 92 then (0, 1) else bif Nat.beq k 93 then (0, 0) else bif Nat.beq k 94 then (0, 419) else bif Nat.beq k 95 then (0, 0) else bif Nat.beq k 96 then (0, 0) else bif Nat.beq k 98 then (0, 2) else (-2147483648, 2147483647))
