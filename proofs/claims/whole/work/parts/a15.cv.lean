theorem tt_klv {α : Type} {e : Int64} {f : Int64 → Option α} {Q : α → Prop} {P : Int64 → Prop} (h : P e) (k : ∀ x, P x → tt (f x) Q) : tt (op_k e f) Q := k e h
theorem tt_bklv {α β : Type} {e : Int64} {g : Int64 → Option β} {f : β → Option α} {Q : α → Prop} {P : Int64 → Prop} (h : P e) (k : ∀ x, P x → tt ((g x).bind f) Q) : tt ((op_k e g).bind f) Q := k e h
theorem iv_i8 (x : Int32) : (-128 : Int) ≤ x.toInt8.toInt32.toInt ∧ x.toInt8.toInt32.toInt ≤ 127 := by
  rw [Int8.toInt_toInt32]
  have h1 := Int8.le_toInt x.toInt8
  have h2 := Int8.toInt_lt x.toInt8
  omega
section CV
variable {x y : Int32} {z c : Int64} {a b e f : Int}
theorem ivl_i (h : a ≤ z.toInt ∧ z.toInt ≤ b) (h0 : -2147483648 ≤ a) (h1 : b ≤ 2147483647) : a ≤ z.toInt32.toInt ∧ z.toInt32.toInt ≤ b := by
  rw [Int64.toInt_toInt32, i_bm (by omega) (by omega)]; exact h
theorem ivl_of (h : a ≤ x.toInt ∧ x.toInt ≤ b) : a ≤ x.toInt64.toInt ∧ x.toInt64.toInt ≤ b := by
  rw [Int32.toInt_toInt64]; exact h
theorem l_nn (h : 0 ≤ z.toInt) : (z.toBitVec.toNat : Int) = z.toInt := by
  have e : z.toInt = z.toBitVec.toInt := rfl
  rw [e] at h ⊢
  rw [BitVec.toInt_eq_toNat_cond] at h ⊢
  have := z.toBitVec.isLt
  split at h <;> split <;> omega
theorem l_nn' (h : z.toBitVec.toNat < 9223372036854775808) : z.toInt = z.toBitVec.toNat := by
  have e : z.toInt = z.toBitVec.toInt := rfl
  rw [e, BitVec.toInt_eq_toNat_cond, if_pos (by omega)]
theorem ivl_and (hc : 0 ≤ c.toInt) (h1 : e ≤ 0) (h2 : c.toInt ≤ f) : e ≤ (z &&& c).toInt ∧ (z &&& c).toInt ≤ f := by
  have e1 : (z &&& c).toBitVec.toNat = z.toBitVec.toNat &&& c.toBitVec.toNat := by rw [Int64.toBitVec_and, BitVec.toNat_and]
  have l : z.toBitVec.toNat &&& c.toBitVec.toNat ≤ c.toBitVec.toNat := Nat.and_le_right
  have n := l_nn hc
  have hi := Int64.toInt_lt c
  rw [l_nn' (by omega)]; omega
theorem ivl_shr {k : Nat} {s : UInt64} (hk : 1 ≤ k) (hs : s.toNat % 64 = k) (ha : a ≤ 0) (hb : (2 : Int) ^ (64 - k) - 1 ≤ b) : a ≤ ((z.toUInt64 >>> s).toInt64).toInt ∧ ((z.toUInt64 >>> s).toInt64).toInt ≤ b := by
  have e1 : ((z.toUInt64 >>> s).toInt64).toBitVec.toNat = z.toUInt64.toNat >>> (s.toNat % 64) := by
    show (z.toUInt64 >>> s).toNat = _
    rw [UInt64.toNat_shiftRight]
  have hz : z.toUInt64.toNat < 2 ^ 64 := z.toUInt64.toBitVec.isLt
  have hk2 : k < 64 := by omega
  rw [hs, Nat.shiftRight_eq_div_pow] at e1
  have p1 : z.toUInt64.toNat / 2 ^ k < 2 ^ (64 - k) := by
    apply Nat.div_lt_of_lt_mul
    rw [← Nat.pow_add, show k + (64 - k) = 64 by omega]; exact hz
  have p2 : 2 ^ (64 - k) ≤ 2 ^ 63 := Nat.pow_le_pow_right (by omega) (by omega)
  have c1 : ((2 ^ (64 - k) : Nat) : Int) = 2 ^ (64 - k) := by norm_cast
  rw [l_nn' (by omega), e1]
  omega
theorem iv_ushr {k : Nat} {s : UInt32} (hx : a ≤ x.toInt ∧ x.toInt ≤ b) (h0 : 0 ≤ a) (hk : 1 ≤ k) (hs : s.toNat % 32 = k) (he : e ≤ a / 2 ^ k) (hf : b / 2 ^ k ≤ f) : e ≤ ((x.toUInt32 >>> s).toInt32).toInt ∧ ((x.toUInt32 >>> s).toInt32).toInt ≤ f := by
  have e1 : ((x.toUInt32 >>> s).toInt32).toBitVec.toNat = x.toUInt32.toNat >>> (s.toNat % 32) := by
    show (x.toUInt32 >>> s).toNat = _
    rw [UInt32.toNat_shiftRight]
  have e2 : x.toUInt32.toNat = x.toBitVec.toNat := rfl
  rw [hs, Nat.shiftRight_eq_div_pow, e2] at e1
  have n := i_nn (x := x) (by omega)
  have hi := i_hi x
  have p : x.toBitVec.toNat / 2 ^ k ≤ x.toBitVec.toNat := Nat.div_le_self _ _
  have c1 : ((x.toBitVec.toNat / 2 ^ k : Nat) : Int) = x.toInt / 2 ^ k := by
    rw [← n]; norm_cast
  have hp : (0 : Int) < 2 ^ k := Int.pow_pos (by decide)
  rw [i_nn' (by omega), e1, c1]
  exact ⟨Int.le_trans he (Int.ediv_le_ediv hp hx.1), Int.le_trans (Int.ediv_le_ediv hp hx.2) hf⟩
theorem iv_mx {c d : Int} (hx : a ≤ x.toInt ∧ x.toInt ≤ b) (hy : c ≤ y.toInt ∧ y.toInt ≤ d) (h1 : e ≤ a ∨ e ≤ c) (h2 : b ≤ f) (h3 : d ≤ f) (h4 : True) : e ≤ (op_mx x y).toInt ∧ (op_mx x y).toInt ≤ f := by
  unfold op_mx
  split
  · rename_i q
    have q2 := Int32.lt_iff_toInt_lt.mp q
    omega
  · rename_i q
    have q2 : ¬ x.toInt < y.toInt := fun z => q (Int32.lt_iff_toInt_lt.mpr z)
    omega
theorem iv_mn {c d : Int} (hx : a ≤ x.toInt ∧ x.toInt ≤ b) (hy : c ≤ y.toInt ∧ y.toInt ≤ d) (h1 : e ≤ a) (h2 : e ≤ c) (h3 : b ≤ f ∨ d ≤ f) (h4 : True) : e ≤ (op_mn x y).toInt ∧ (op_mn x y).toInt ≤ f := by
  unfold op_mn
  split
  · rename_i q
    have q2 := Int32.lt_iff_toInt_lt.mp q
    omega
  · rename_i q
    have q2 : ¬ y.toInt < x.toInt := fun z => q (Int32.lt_iff_toInt_lt.mpr z)
    omega
end CV
theorem iv_pow (j : Nat) : (0 : Int) ≤ (cf_powers j).toInt ∧ (cf_powers j).toInt ≤ 81 := by
  unfold cf_powers
  rcases (show j = 0 ∨ j = 1 ∨ j = 2 ∨ j = 3 ∨ j = 4 ∨ 5 ≤ j by omega) with h | h | h | h | h | h
  · subst h; decide
  · subst h; decide
  · subst h; decide
  · subst h; decide
  · subst h; decide
  · rw [List.getD_eq_getElem?_getD, List.getElem?_eq_none (by simpa using h)]; decide
theorem sb_all (l : List (List Int32)) (h : ∀ s ∈ l, ∀ v ∈ s, (0 : Int) ≤ v.toInt ∧ v.toInt ≤ 127) (i j : Nat) : (0 : Int) ≤ ((l.getD i []).getD j 0).toInt ∧ ((l.getD i []).getD j 0).toInt ≤ 127 := by
  rw [List.getD_eq_getElem?_getD, List.getD_eq_getElem?_getD]
  cases e : l[i]? with
  | none =>
    show (0 : Int) ≤ ((([] : List Int32)[j]?).getD 0).toInt ∧ ((([] : List Int32)[j]?).getD 0).toInt ≤ 127
    rw [List.getElem?_nil]
    exact ⟨by decide, by decide⟩
  | some s =>
    show (0 : Int) ≤ (s[j]?.getD 0).toInt ∧ (s[j]?.getD 0).toInt ≤ 127
    cases e2 : s[j]? with
    | none => exact ⟨by decide, by decide⟩
    | some v => exact h s (List.mem_of_getElem? e) v (List.mem_of_getElem? e2)
theorem iv_sb (i j : Nat) : (0 : Int) ≤ (cf_sb i j).toInt ∧ (cf_sb i j).toInt ≤ 127 := sb_all _ (by decide +kernel) i j
theorem iv_c16 (x : UInt32) : (0 : Int) ≤ ((x % 65536).toInt32).toInt ∧ ((x % 65536).toInt32).toInt ≤ 65535 := by
  have e1 : ((x % 65536).toInt32).toBitVec.toNat = x.toNat % 65536 := by
    show (x % 65536).toNat = _
    rw [UInt32.toNat_mod]; rfl
  have h := Nat.mod_lt x.toNat (show 0 < 65536 by decide)
  rw [i_nn' (by omega), e1]
  omega
theorem iv_pow1 {x : Int32} {a b : Int} (h : a ≤ x.toInt ∧ x.toInt ≤ b) (h0 : 0 ≤ a) (h1 : b ≤ 4) : (1 : Int) ≤ (cf_powers x.toNatClampNeg).toInt ∧ (cf_powers x.toNatClampNeg).toInt ≤ 81 := by
  have t := tn_n x
  generalize x.toNatClampNeg = j at t ⊢
  unfold cf_powers
  rcases (show j = 0 ∨ j = 1 ∨ j = 2 ∨ j = 3 ∨ j = 4 by omega) with q | q | q | q | q <;> (subst q; decide)
theorem iv_nc {x : Int32} {a b : Int} (h : a ≤ x.toInt ∧ x.toInt ≤ b) (h0 : 0 ≤ a) (h1 : b ≤ 65535) : vp_nar .char x = x := by
  rw [vp_nar_char]
  apply Int32.toBitVec_inj.mp
  apply BitVec.eq_of_toNat_eq
  have n := i_nn (x := x) (by omega)
  show x.toUInt32.toUInt16.toUInt32.toNat = x.toBitVec.toNat
  rw [UInt16.toNat_toUInt32, UInt32.toNat_toUInt16]
  show x.toBitVec.toNat % 2 ^ 16 = _
  omega
theorem iv_nby (x : Int32) : (-128 : Int) ≤ (vp_nar .byte x).toInt ∧ (vp_nar .byte x).toInt ≤ 127 := by rw [vp_nar_byte]; exact iv_i8 x
theorem iv_nb {x : Int32} {a b : Int} (h : a ≤ x.toInt ∧ x.toInt ≤ b) (h0 : -128 ≤ a) (h1 : b ≤ 127) : vp_nar .byte x = x := by
  rw [vp_nar_byte]
  apply i_eq
  rw [Int8.toInt_toInt32, Int32.toInt_toInt8]
  exact Int.bmod_eq_of_le (by omega) (by omega)
theorem i_s1 {x : Int32} (hx : 0 ≤ x.toInt) : (x >>> ((1 : Int32) &&& 31)).toInt = x.toInt / 2 := by
  rw [i_shr hx (by decide) (by decide)]; rfl
theorem i_a1 {x : Int32} (hx : 0 ≤ x.toInt) : (x &&& 1).toInt = x.toInt % 2 := by
  have n := i_nn hx
  have e : (x &&& 1).toBitVec.toNat = x.toBitVec.toNat % 2 := by
    rw [Int32.toBitVec_and, BitVec.toNat_and, show (1 : Int32).toBitVec.toNat = 2 ^ 1 - 1 from rfl, Nat.and_two_pow_sub_one_eq_mod]
  have n2 := i_nn' (x := x &&& 1) (by omega)
  omega

def I_Tx : ok_I := (fun k => bif Nat.beq k 0 then (0, 0) else bif Nat.beq k 1 then (0, 0) else bif Nat.beq k 2 then (0, 0) else bif Nat.beq k 3 then (0, 1600) else bif Nat.beq k 4 then ((-1), 1602) else bif Nat.beq k 5 then (0, 10) else bif Nat.beq k 6 then (0, 1601) else bif Nat.beq k 7 then (0, 0) else bif Nat.beq k 8 then (0, 0) else bif Nat.beq k 9 then (0, 0) else bif Nat.beq k 10 then (0, 0) else bif Nat.beq k 11 then (0, 0) else bif Nat.beq k 12 then (0, 0) else bif Nat.beq k 13 then (0, 0) else bif Nat.beq k 14 then (0, 0) else bif Nat.beq k 15 then (0, 0) else bif Nat.beq k 16 then (0, 0) else bif Nat.beq k 17 then (0, 0) else bif Nat.beq k 18 then (0, 0) else bif Nat.beq k 19 then (0, 0) else bif Nat.beq k 20 then (0, 0) else bif Nat.beq k 21 then (0, 0) else bif Nat.beq k 22 then (0, 0) else bif Nat.beq k 23 then (0, 0) else bif Nat.beq k 24 then (0, 0) else bif Nat.beq k 25 then (0, 0) else bif Nat.beq k 26 then (0, 0) else bif Nat.beq k 27 then (0, 0) else bif Nat.beq k 28 then (0, 0) else bif Nat.beq k 29 then (0, 0) else bif Nat.beq k 30 then (0, 0) else bif Nat.beq k 31 then (0, 0) else bif Nat.beq k 32 then (0, 0) else bif Nat.beq k 33 then (0, 0) else bif Nat.beq k 34 then (0, 0) else bif Nat.beq k 35 then (0, 0) else bif Nat.beq k 36 then (0, 0) else bif Nat.beq k 37 then (0, 0) else bif Nat.beq k 38 then (0, 0) else bif Nat.beq k 39 then (0, 0) else bif Nat.beq k 40 then (0, 0) else bif Nat.beq k 41 then (0, 0) else bif Nat.beq k 42 then (0, 0) else bif Nat.beq k 43 then (0, 0) else bif Nat.beq k 44 then (0, 0) else bif Nat.beq k 45 then (0, 0) else bif Nat.beq k 46 then (0, 0) else bif Nat.beq k 47 then (0, 0) else bif Nat.beq k 48 then (0, 0) else bif Nat.beq k 49 then (0, 0) else bif Nat.beq k 50 then (0, 0) else bif Nat.beq k 51 then (0, 0) else bif Nat.beq k 52 then (0, 0) else bif Nat.beq k 53 then (0, 0) else bif Nat.beq k 54 then (0, 0) else bif Nat.beq k 55 then (0, 0) else bif Nat.beq k 56 then (0, 0) else bif Nat.beq k 57 then (0, 0) else bif Nat.beq k 58 then (0, 0) else bif Nat.beq k 59 then (0, 0) else bif Nat.beq k 60 then (0, 0) else bif Nat.beq k 61 then (0, 0) else bif Nat.beq k 62 then (0, 0) else bif Nat.beq k 63 then (0, 0) else (-2147483648, 2147483647), fun k => bif Nat.beq k 0 then ((-128), 127) else bif Nat.beq k 1 then (0, 1599) else bif Nat.beq k 2 then (0, 1600) else bif Nat.beq k 3 then (0, 0) else bif Nat.beq k 4 then (0, 0) else bif Nat.beq k 5 then (0, 0) else bif Nat.beq k 6 then (0, 0) else bif Nat.beq k 7 then (0, 0) else bif Nat.beq k 8 then (0, 0) else bif Nat.beq k 9 then (0, 0) else bif Nat.beq k 10 then (0, 0) else bif Nat.beq k 11 then (0, 0) else bif Nat.beq k 12 then (0, 0) else bif Nat.beq k 13 then (0, 0) else bif Nat.beq k 14 then (0, 0) else bif Nat.beq k 15 then (0, 0) else bif Nat.beq k 16 then (0, 0) else bif Nat.beq k 17 then (0, 0) else bif Nat.beq k 18 then (0, 0) else bif Nat.beq k 19 then (0, 0) else bif Nat.beq k 20 then (0, 0) else bif Nat.beq k 21 then (0, 0) else bif Nat.beq k 22 then (0, 0) else bif Nat.beq k 23 then (0, 0) else bif Nat.beq k 24 then (0, 0) else bif Nat.beq k 25 then (0, 0) else bif Nat.beq k 26 then (0, 0) else bif Nat.beq k 27 then (0, 0) else bif Nat.beq k 28 then (0, 0) else bif Nat.beq k 29 then (0, 0) else bif Nat.beq k 30 then (0, 0) else bif Nat.beq k 31 then (0, 0) else bif Nat.beq k 32 then (0, 0) else bif Nat.beq k 33 then (0, 0) else bif Nat.beq k 34 then (0, 0) else bif Nat.beq k 35 then (0, 0) else bif Nat.beq k 36 then (0, 0) else bif Nat.beq k 37 then (0, 0) else bif Nat.beq k 38 then (0, 0) else bif Nat.beq k 39 then (0, 0) else bif Nat.beq k 40 then (0, 0) else bif Nat.beq k 41 then (0, 0) else bif Nat.beq k 42 then (0, 0) else bif Nat.beq k 43 then (0, 0) else bif Nat.beq k 44 then (0, 0) else bif Nat.beq k 45 then (0, 0) else bif Nat.beq k 46 then (0, 0) else bif Nat.beq k 47 then (0, 0) else bif Nat.beq k 48 then (0, 0) else bif Nat.beq k 49 then (0, 0) else bif Nat.beq k 50 then (0, 0) else bif Nat.beq k 51 then (0, 0) else bif Nat.beq k 52 then (0, 0) else bif Nat.beq k 53 then (0, 0) else bif Nat.beq k 54 then (0, 0) else bif Nat.beq k 55 then (0, 0) else bif Nat.beq k 56 then (0, 0) else bif Nat.beq k 57 then (0, 0) else bif Nat.beq k 58 then (0, 0) else bif Nat.beq k 59 then (0, 0) else bif Nat.beq k 60 then (0, 0) else bif Nat.beq k 61 then (0, 0) else bif Nat.beq k 62 then (0, 0) else bif Nat.beq k 63 then (0, 0) else (-2147483648, 2147483647))
def I_Nl : ok_I := (fun k => bif Nat.beq k 0 then (0, 8) else bif Nat.beq k 1 then (0, 6) else bif Nat.beq k 3 then (0, 0) else bif Nat.beq k 4 then (0, 0) else bif Nat.beq k 5 then (0, 2147483647) else bif Nat.beq k 6 then (0, 30) else bif Nat.beq k 7 then (0, 0) else bif Nat.beq k 8 then (0, 0) else bif Nat.beq k 9 then (0, 0) else bif Nat.beq k 10 then (0, 0) else bif Nat.beq k 11 then (0, 0) else bif Nat.beq k 12 then (0, 0) else bif Nat.beq k 13 then (0, 0) else bif Nat.beq k 14 then (0, 0) else bif Nat.beq k 15 then (0, 0) else bif Nat.beq k 16 then (0, 0) else bif Nat.beq k 17 then (0, 0) else bif Nat.beq k 18 then (0, 0) else bif Nat.beq k 19 then (0, 0) else bif Nat.beq k 20 then (0, 0) else bif Nat.beq k 21 then (0, 0) else bif Nat.beq k 22 then (0, 0) else bif Nat.beq k 23 then (0, 0) else bif Nat.beq k 24 then (0, 0) else bif Nat.beq k 25 then (0, 0) else bif Nat.beq k 26 then (0, 0) else bif Nat.beq k 27 then (0, 0) else bif Nat.beq k 28 then (0, 0) else bif Nat.beq k 29 then (0, 0) else bif Nat.beq k 30 then (0, 0) else bif Nat.beq k 31 then (0, 0) else bif Nat.beq k 32 then (0, 0) else bif Nat.beq k 33 then (0, 0) else bif Nat.beq k 34 then (0, 0) else bif Nat.beq k 35 then (0, 0) else bif Nat.beq k 36 then (0, 0) else bif Nat.beq k 37 then (0, 0) else bif Nat.beq k 38 then (0, 0) else bif Nat.beq k 39 then (0, 0) else bif Nat.beq k 40 then (0, 0) else bif Nat.beq k 41 then (0, 0) else bif Nat.beq k 42 then (0, 0) else bif Nat.beq k 43 then (0, 0) else bif Nat.beq k 44 then (0, 0) else bif Nat.beq k 45 then (0, 0) else bif Nat.beq k 46 then (0, 0) else bif Nat.beq k 47 then (0, 0) else bif Nat.beq k 48 then (0, 0) else bif Nat.beq k 49 then (0, 0) else bif Nat.beq k 50 then (0, 0) else bif Nat.beq k 51 then (0, 0) else bif Nat.beq k 52 then (0, 0) else bif Nat.beq k 53 then (0, 0) else bif Nat.beq k 54 then (0, 0) else bif Nat.beq k 55 then (0, 0) else bif Nat.beq k 56 then (0, 0) else bif Nat.beq k 57 then (0, 0) else bif Nat.beq k 58 then (0, 0) else bif Nat.beq k 59 then (0, 0) else bif Nat.beq k 60 then (0, 0) else bif Nat.beq k 61 then (0, 0) else bif Nat.beq k 62 then (0, 0) else bif Nat.beq k 63 then (0, 0) else (-2147483648, 2147483647), fun k => bif Nat.beq k 0 then (0, 0) else bif Nat.beq k 1 then (0, 0) else bif Nat.beq k 2 then (0, 0) else bif Nat.beq k 3 then (0, 0) else bif Nat.beq k 4 then (0, 0) else bif Nat.beq k 5 then (0, 0) else bif Nat.beq k 6 then (0, 0) else bif Nat.beq k 7 then (0, 0) else bif Nat.beq k 8 then (0, 5) else bif Nat.beq k 9 then (0, 2147483647) else bif Nat.beq k 10 then (0, 16) else bif Nat.beq k 13 then ((-1), 37) else bif Nat.beq k 14 then ((-1), 37) else bif Nat.beq k 15 then (0, 1073741823) else bif Nat.beq k 16 then ((-1), 417) else bif Nat.beq k 17 then (0, 0) else bif Nat.beq k 18 then (0, 0) else bif Nat.beq k 19 then (0, 0) else bif Nat.beq k 20 then (0, 0) else bif Nat.beq k 21 then (0, 0) else bif Nat.beq k 22 then (0, 0) else bif Nat.beq k 23 then (0, 0) else bif Nat.beq k 24 then (0, 0) else bif Nat.beq k 25 then (0, 0) else bif Nat.beq k 26 then (0, 0) else bif Nat.beq k 27 then (0, 0) else bif Nat.beq k 28 then (0, 0) else bif Nat.beq k 29 then (0, 0) else bif Nat.beq k 30 then (0, 0) else bif Nat.beq k 31 then (0, 0) else bif Nat.beq k 32 then (0, 0) else bif Nat.beq k 33 then (0, 0) else bif Nat.beq k 34 then (0, 0) else bif Nat.beq k 35 then (0, 0) else bif Nat.beq k 36 then (0, 0) else bif Nat.beq k 37 then (0, 0) else bif Nat.beq k 38 then (0, 0) else bif Nat.beq k 39 then (0, 0) else bif Nat.beq k 40 then (0, 0) else bif Nat.beq k 41 then (0, 0) else bif Nat.beq k 42 then (0, 0) else bif Nat.beq k 43 then (0, 0) else bif Nat.beq k 44 then (0, 0) else bif Nat.beq k 45 then (0, 0) else bif Nat.beq k 46 then (0, 0) else bif Nat.beq k 47 then (0, 0) else bif Nat.beq k 48 then (0, 0) else bif Nat.beq k 49 then (0, 0) else bif Nat.beq k 50 then (0, 0) else bif Nat.beq k 51 then (0, 0) else bif Nat.beq k 52 then (0, 0) else bif Nat.beq k 53 then (0, 0) else bif Nat.beq k 54 then (0, 0) else bif Nat.beq k 55 then (0, 0) else bif Nat.beq k 56 then (0, 0) else bif Nat.beq k 57 then (0, 0) else bif Nat.beq k 58 then (0, 0) else bif Nat.beq k 59 then (0, 0) else bif Nat.beq k 60 then (0, 0) else bif Nat.beq k 61 then (0, 0) else bif Nat.beq k 62 then (0, 0) else bif Nat.beq k 63 then (0, 0) else (-2147483648, 2147483647))
def I_Gr : ok_I := (fun k => bif Nat.beq k 0 then (0, 8) else bif Nat.beq k 1 then (0, 6) else bif Nat.beq k 2 then (0, 200) else bif Nat.beq k 3 then (0, 1) else bif Nat.beq k 4 then (0, 0) else bif Nat.beq k 5 then (0, 0) else bif Nat.beq k 6 then (0, 0) else bif Nat.beq k 7 then (0, 0) else bif Nat.beq k 8 then (0, 0) else bif Nat.beq k 9 then (0, 0) else bif Nat.beq k 10 then (0, 0) else bif Nat.beq k 11 then (0, 0) else bif Nat.beq k 12 then (0, 0) else bif Nat.beq k 13 then (0, 0) else bif Nat.beq k 14 then (0, 0) else bif Nat.beq k 15 then (0, 0) else bif Nat.beq k 16 then (0, 0) else bif Nat.beq k 17 then (0, 0) else bif Nat.beq k 18 then (0, 0) else bif Nat.beq k 19 then (0, 0) else bif Nat.beq k 20 then (0, 0) else bif Nat.beq k 21 then (0, 0) else bif Nat.beq k 22 then (0, 0) else bif Nat.beq k 23 then (0, 0) else bif Nat.beq k 24 then (0, 0) else bif Nat.beq k 25 then (0, 0) else bif Nat.beq k 26 then (0, 0) else bif Nat.beq k 27 then (0, 0) else bif Nat.beq k 28 then (0, 0) else bif Nat.beq k 29 then (0, 0) else bif Nat.beq k 30 then (0, 0) else bif Nat.beq k 31 then (0, 0) else bif Nat.beq k 32 then (0, 0) else bif Nat.beq k 33 then (0, 0) else bif Nat.beq k 34 then (0, 0) else bif Nat.beq k 35 then (0, 0) else bif Nat.beq k 36 then (0, 0) else bif Nat.beq k 37 then (0, 0) else bif Nat.beq k 38 then (0, 0) else bif Nat.beq k 39 then (0, 0) else bif Nat.beq k 40 then (0, 0) else bif Nat.beq k 41 then (0, 0) else bif Nat.beq k 42 then (0, 0) else bif Nat.beq k 43 then (0, 0) else bif Nat.beq k 44 then (0, 0) else bif Nat.beq k 45 then (0, 0) else bif Nat.beq k 46 then (0, 0) else bif Nat.beq k 47 then (0, 0) else bif Nat.beq k 48 then (0, 0) else bif Nat.beq k 49 then (0, 0) else bif Nat.beq k 50 then (0, 0) else bif Nat.beq k 51 then (0, 0) else bif Nat.beq k 52 then (0, 0) else bif Nat.beq k 53 then (0, 0) else bif Nat.beq k 54 then (0, 0) else bif Nat.beq k 55 then (0, 0) else bif Nat.beq k 56 then (0, 0) else bif Nat.beq k 57 then (0, 0) else bif Nat.beq k 58 then (0, 0) else bif Nat.beq k 59 then (0, 0) else bif Nat.beq k 60 then (0, 0) else bif Nat.beq k 61 then (0, 0) else bif Nat.beq k 62 then (0, 0) else bif Nat.beq k 63 then (0, 0) else (-2147483648, 2147483647), fun k => bif Nat.beq k 0 then (0, 0) else bif Nat.beq k 1 then (0, 0) else bif Nat.beq k 2 then (0, 0) else bif Nat.beq k 3 then (0, 0) else bif Nat.beq k 4 then (0, 417) else bif Nat.beq k 5 then (0, 417) else bif Nat.beq k 7 then (0, 417) else bif Nat.beq k 8 then (0, 208) else bif Nat.beq k 9 then (0, 208) else bif Nat.beq k 10 then (0, 0) else bif Nat.beq k 11 then (0, 0) else bif Nat.beq k 12 then (0, 0) else bif Nat.beq k 13 then (0, 0) else bif Nat.beq k 14 then (0, 0) else bif Nat.beq k 15 then (0, 0) else bif Nat.beq k 16 then (0, 0) else bif Nat.beq k 17 then (0, 0) else bif Nat.beq k 18 then (0, 0) else bif Nat.beq k 19 then (0, 0) else bif Nat.beq k 20 then (0, 0) else bif Nat.beq k 21 then (0, 0) else bif Nat.beq k 22 then (0, 0) else bif Nat.beq k 23 then (0, 0) else bif Nat.beq k 24 then (0, 0) else bif Nat.beq k 25 then (0, 0) else bif Nat.beq k 26 then (0, 0) else bif Nat.beq k 27 then (0, 0) else bif Nat.beq k 28 then (0, 0) else bif Nat.beq k 29 then (0, 0) else bif Nat.beq k 30 then (0, 0) else bif Nat.beq k 31 then (0, 0) else bif Nat.beq k 32 then (0, 0) else bif Nat.beq k 33 then (0, 0) else bif Nat.beq k 34 then (0, 0) else bif Nat.beq k 35 then (0, 0) else bif Nat.beq k 36 then (0, 0) else bif Nat.beq k 37 then (0, 0) else bif Nat.beq k 38 then (0, 0) else bif Nat.beq k 39 then (0, 0) else bif Nat.beq k 40 then (0, 0) else bif Nat.beq k 41 then (0, 0) else bif Nat.beq k 42 then (0, 0) else bif Nat.beq k 43 then (0, 0) else bif Nat.beq k 44 then (0, 0) else bif Nat.beq k 45 then (0, 0) else bif Nat.beq k 46 then (0, 0) else bif Nat.beq k 47 then (0, 0) else bif Nat.beq k 48 then (0, 0) else bif Nat.beq k 49 then (0, 0) else bif Nat.beq k 50 then (0, 0) else bif Nat.beq k 51 then (0, 0) else bif Nat.beq k 52 then (0, 0) else bif Nat.beq k 53 then (0, 0) else bif Nat.beq k 54 then (0, 0) else bif Nat.beq k 55 then (0, 0) else bif Nat.beq k 56 then (0, 0) else bif Nat.beq k 57 then (0, 0) else bif Nat.beq k 58 then (0, 0) else bif Nat.beq k 59 then (0, 0) else bif Nat.beq k 60 then (0, 0) else bif Nat.beq k 61 then (0, 0) else bif Nat.beq k 62 then (0, 0) else bif Nat.beq k 63 then (0, 0) else (-2147483648, 2147483647))
def I_Fu : ok_I := (fun k => bif Nat.beq k 0 then (0, 1) else bif Nat.beq k 1 then (0, 0) else bif Nat.beq k 2 then (0, 0) else bif Nat.beq k 3 then (0, 0) else bif Nat.beq k 4 then (0, 0) else bif Nat.beq k 5 then (0, 0) else bif Nat.beq k 6 then (0, 0) else bif Nat.beq k 7 then (0, 0) else bif Nat.beq k 8 then (0, 0) else bif Nat.beq k 9 then (0, 0) else bif Nat.beq k 10 then (0, 0) else bif Nat.beq k 11 then (0, 0) else bif Nat.beq k 12 then (0, 0) else bif Nat.beq k 13 then (0, 0) else bif Nat.beq k 14 then (0, 0) else bif Nat.beq k 15 then (0, 0) else bif Nat.beq k 16 then (0, 0) else bif Nat.beq k 17 then (0, 0) else bif Nat.beq k 18 then (0, 0) else bif Nat.beq k 19 then (0, 0) else bif Nat.beq k 20 then (0, 0) else bif Nat.beq k 21 then (0, 0) else bif Nat.beq k 22 then (0, 0) else bif Nat.beq k 23 then (0, 0) else bif Nat.beq k 24 then (0, 0) else bif Nat.beq k 25 then (0, 0) else bif Nat.beq k 26 then (0, 0) else bif Nat.beq k 27 then (0, 0) else bif Nat.beq k 28 then (0, 0) else bif Nat.beq k 29 then (0, 0) else bif Nat.beq k 30 then (0, 0) else bif Nat.beq k 31 then (0, 0) else bif Nat.beq k 32 then (0, 0) else bif Nat.beq k 33 then (0, 0) else bif Nat.beq k 34 then (0, 0) else bif Nat.beq k 35 then (0, 0) else bif Nat.beq k 36 then (0, 0) else bif Nat.beq k 37 then (0, 0) else bif Nat.beq k 38 then (0, 0) else bif Nat.beq k 39 then (0, 0) else bif Nat.beq k 40 then (0, 0) else bif Nat.beq k 41 then (0, 0) else bif Nat.beq k 42 then (0, 0) else bif Nat.beq k 43 then (0, 0) else bif Nat.beq k 44 then (0, 0) else bif Nat.beq k 45 then (0, 0) else bif Nat.beq k 46 then (0, 0) else bif Nat.beq k 47 then (0, 0) else bif Nat.beq k 48 then (0, 0) else bif Nat.beq k 49 then (0, 0) else bif Nat.beq k 50 then (0, 0) else bif Nat.beq k 51 then (0, 0) else bif Nat.beq k 52 then (0, 0) else bif Nat.beq k 53 then (0, 0) else bif Nat.beq k 54 then (0, 0) else bif Nat.beq k 55 then (0, 0) else bif Nat.beq k 56 then (0, 0) else bif Nat.beq k 57 then (0, 0) else bif Nat.beq k 58 then (0, 0) else bif Nat.beq k 59 then (0, 0) else bif Nat.beq k 60 then (0, 0) else bif Nat.beq k 61 then (0, 0) else bif Nat.beq k 62 then (0, 0) else bif Nat.beq k 63 then (0, 0) else (-2147483648, 2147483647), fun k => bif Nat.beq k 0 then (0, 0) else bif Nat.beq k 1 then (0, 0) else bif Nat.beq k 5 then (0, 0) else bif Nat.beq k 6 then (0, 0) else bif Nat.beq k 7 then (0, 0) else bif Nat.beq k 8 then (0, 0) else bif Nat.beq k 9 then (0, 0) else bif Nat.beq k 10 then (0, 0) else bif Nat.beq k 11 then (0, 0) else bif Nat.beq k 12 then (0, 0) else bif Nat.beq k 13 then (0, 0) else bif Nat.beq k 14 then (0, 0) else bif Nat.beq k 15 then (0, 0) else bif Nat.beq k 16 then (0, 0) else bif Nat.beq k 17 then (0, 0) else bif Nat.beq k 18 then (0, 0) else bif Nat.beq k 19 then (0, 0) else bif Nat.beq k 20 then (0, 0) else bif Nat.beq k 21 then (0, 0) else bif Nat.beq k 22 then (0, 0) else bif Nat.beq k 23 then (0, 0) else bif Nat.beq k 24 then (0, 0) else bif Nat.beq k 25 then (0, 0) else bif Nat.beq k 26 then (0, 0) else bif Nat.beq k 27 then (0, 0) else bif Nat.beq k 28 then (0, 0) else bif Nat.beq k 29 then (0, 0) else bif Nat.beq k 30 then (0, 0) else bif Nat.beq k 31 then (0, 0) else bif Nat.beq k 32 then (0, 0) else bif Nat.beq k 33 then (0, 0) else bif Nat.beq k 34 then (0, 0) else bif Nat.beq k 35 then (0, 0) else bif Nat.beq k 36 then (0, 0) else bif Nat.beq k 37 then (0, 0) else bif Nat.beq k 38 then (0, 0) else bif Nat.beq k 39 then (0, 0) else bif Nat.beq k 40 then (0, 0) else bif Nat.beq k 41 then (0, 0) else bif Nat.beq k 42 then (0, 0) else bif Nat.beq k 43 then (0, 0) else bif Nat.beq k 44 then (0, 0) else bif Nat.beq k 45 then (0, 0) else bif Nat.beq k 46 then (0, 0) else bif Nat.beq k 47 then (0, 0) else bif Nat.beq k 48 then (0, 0) else bif Nat.beq k 49 then (0, 0) else bif Nat.beq k 50 then (0, 0) else bif Nat.beq k 51 then (0, 0) else bif Nat.beq k 52 then (0, 0) else bif Nat.beq k 53 then (0, 0) else bif Nat.beq k 54 then (0, 0) else bif Nat.beq k 55 then (0, 0) else bif Nat.beq k 56 then (0, 0) else bif Nat.beq k 57 then (0, 0) else bif Nat.beq k 58 then (0, 0) else bif Nat.beq k 59 then (0, 0) else bif Nat.beq k 60 then (0, 0) else bif Nat.beq k 61 then (0, 0) else bif Nat.beq k 62 then (0, 0) else bif Nat.beq k 63 then (0, 0) else (-2147483648, 2147483647))
def I_Cu : ok_I := (fun k => bif Nat.beq k 1 then (0, 0) else bif Nat.beq k 2 then (0, 0) else bif Nat.beq k 3 then (0, 62909) else bif Nat.beq k 4 then (1024, 131072) else bif Nat.beq k 5 then (1024, 131072) else bif Nat.beq k 6 then (0, 0) else bif Nat.beq k 7 then (0, 0) else bif Nat.beq k 8 then (0, 0) else bif Nat.beq k 9 then (0, 0) else bif Nat.beq k 10 then (0, 0) else bif Nat.beq k 11 then (0, 0) else bif Nat.beq k 12 then (0, 0) else bif Nat.beq k 13 then (0, 0) else bif Nat.beq k 14 then (0, 0) else bif Nat.beq k 15 then (0, 0) else bif Nat.beq k 16 then (0, 0) else bif Nat.beq k 17 then (0, 0) else bif Nat.beq k 18 then (0, 0) else bif Nat.beq k 19 then (0, 0) else bif Nat.beq k 20 then (0, 0) else bif Nat.beq k 21 then (0, 0) else bif Nat.beq k 22 then (0, 0) else bif Nat.beq k 23 then (0, 0) else bif Nat.beq k 24 then (0, 0) else bif Nat.beq k 25 then (0, 0) else bif Nat.beq k 26 then (0, 0) else bif Nat.beq k 27 then (0, 0) else bif Nat.beq k 28 then (0, 0) else bif Nat.beq k 29 then (0, 0) else bif Nat.beq k 30 then (0, 0) else bif Nat.beq k 31 then (0, 0) else bif Nat.beq k 32 then (0, 0) else bif Nat.beq k 33 then (0, 0) else bif Nat.beq k 34 then (0, 0) else bif Nat.beq k 35 then (0, 0) else bif Nat.beq k 36 then (0, 0) else bif Nat.beq k 37 then (0, 0) else bif Nat.beq k 38 then (0, 0) else bif Nat.beq k 39 then (0, 0) else bif Nat.beq k 40 then (0, 0) else bif Nat.beq k 41 then (0, 0) else bif Nat.beq k 42 then (0, 0) else bif Nat.beq k 43 then (0, 0) else bif Nat.beq k 44 then (0, 0) else bif Nat.beq k 45 then (0, 0) else bif Nat.beq k 46 then (0, 0) else bif Nat.beq k 47 then (0, 0) else bif Nat.beq k 48 then (0, 0) else bif Nat.beq k 49 then (0, 0) else bif Nat.beq k 50 then (0, 0) else bif Nat.beq k 51 then (0, 0) else bif Nat.beq k 52 then (0, 0) else bif Nat.beq k 53 then (0, 0) else bif Nat.beq k 54 then (0, 0) else bif Nat.beq k 55 then (0, 0) else bif Nat.beq k 56 then (0, 0) else bif Nat.beq k 57 then (0, 0) else bif Nat.beq k 58 then (0, 0) else bif Nat.beq k 59 then (0, 0) else bif Nat.beq k 60 then (0, 0) else bif Nat.beq k 61 then (0, 0) else bif Nat.beq k 62 then (0, 0) else bif Nat.beq k 63 then (0, 0) else (-2147483648, 2147483647), fun k => bif Nat.beq k 0 then (0, 0) else bif Nat.beq k 2 then (0, 62909) else bif Nat.beq k 3 then (0, 0) else bif Nat.beq k 4 then (0, 0) else bif Nat.beq k 5 then (0, 0) else bif Nat.beq k 6 then (0, 0) else bif Nat.beq k 7 then (0, 0) else bif Nat.beq k 8 then (0, 0) else bif Nat.beq k 9 then (0, 0) else bif Nat.beq k 10 then (0, 0) else bif Nat.beq k 11 then (0, 0) else bif Nat.beq k 12 then (0, 0) else bif Nat.beq k 13 then (0, 0) else bif Nat.beq k 14 then (0, 0) else bif Nat.beq k 15 then (0, 0) else bif Nat.beq k 16 then (0, 0) else bif Nat.beq k 17 then (0, 0) else bif Nat.beq k 18 then (0, 0) else bif Nat.beq k 19 then (0, 0) else bif Nat.beq k 20 then (0, 0) else bif Nat.beq k 21 then (0, 0) else bif Nat.beq k 22 then (0, 0) else bif Nat.beq k 23 then (0, 0) else bif Nat.beq k 24 then (0, 0) else bif Nat.beq k 25 then (0, 0) else bif Nat.beq k 26 then (0, 0) else bif Nat.beq k 27 then (0, 0) else bif Nat.beq k 28 then (0, 0) else bif Nat.beq k 29 then (0, 0) else bif Nat.beq k 30 then (0, 0) else bif Nat.beq k 31 then (0, 0) else bif Nat.beq k 32 then (0, 0) else bif Nat.beq k 33 then (0, 0) else bif Nat.beq k 34 then (0, 0) else bif Nat.beq k 35 then (0, 0) else bif Nat.beq k 36 then (0, 0) else bif Nat.beq k 37 then (0, 0) else bif Nat.beq k 38 then (0, 0) else bif Nat.beq k 39 then (0, 0) else bif Nat.beq k 40 then (0, 0) else bif Nat.beq k 41 then (0, 0) else bif Nat.beq k 42 then (0, 0) else bif Nat.beq k 43 then (0, 0) else bif Nat.beq k 44 then (0, 0) else bif Nat.beq k 45 then (0, 0) else bif Nat.beq k 46 then (0, 0) else bif Nat.beq k 47 then (0, 0) else bif Nat.beq k 48 then (0, 0) else bif Nat.beq k 49 then (0, 0) else bif Nat.beq k 50 then (0, 0) else bif Nat.beq k 51 then (0, 0) else bif Nat.beq k 52 then (0, 0) else bif Nat.beq k 53 then (0, 0) else bif Nat.beq k 54 then (0, 0) else bif Nat.beq k 55 then (0, 0) else bif Nat.beq k 56 then (0, 0) else bif Nat.beq k 57 then (0, 0) else bif Nat.beq k 58 then (0, 0) else bif Nat.beq k 59 then (0, 0) else bif Nat.beq k 60 then (0, 0) else bif Nat.beq k 61 then (0, 0) else bif Nat.beq k 62 then (0, 0) else bif Nat.beq k 63 then (0, 0) else (-2147483648, 2147483647))
def I_Co : ok_I := (fun k => bif Nat.beq k 0 then (0, 5) else bif Nat.beq k 2 then (0, 0) else bif Nat.beq k 3 then (0, 0) else bif Nat.beq k 4 then (0, 0) else bif Nat.beq k 5 then (0, 0) else bif Nat.beq k 6 then (0, 0) else bif Nat.beq k 7 then (0, 0) else bif Nat.beq k 8 then (0, 0) else bif Nat.beq k 9 then (0, 0) else bif Nat.beq k 10 then (0, 0) else bif Nat.beq k 11 then (0, 0) else bif Nat.beq k 12 then (0, 0) else bif Nat.beq k 13 then (0, 0) else bif Nat.beq k 14 then (0, 0) else bif Nat.beq k 15 then (0, 0) else bif Nat.beq k 16 then (0, 0) else bif Nat.beq k 17 then (0, 0) else bif Nat.beq k 18 then (0, 0) else bif Nat.beq k 19 then (0, 0) else bif Nat.beq k 20 then (0, 0) else bif Nat.beq k 21 then (0, 0) else bif Nat.beq k 22 then (0, 0) else bif Nat.beq k 23 then (0, 0) else bif Nat.beq k 24 then (0, 0) else bif Nat.beq k 25 then (0, 0) else bif Nat.beq k 26 then (0, 0) else bif Nat.beq k 27 then (0, 0) else bif Nat.beq k 28 then (0, 0) else bif Nat.beq k 29 then (0, 0) else bif Nat.beq k 30 then (0, 0) else bif Nat.beq k 31 then (0, 0) else bif Nat.beq k 32 then (0, 0) else bif Nat.beq k 33 then (0, 0) else bif Nat.beq k 34 then (0, 0) else bif Nat.beq k 35 then (0, 0) else bif Nat.beq k 36 then (0, 0) else bif Nat.beq k 37 then (0, 0) else bif Nat.beq k 38 then (0, 0) else bif Nat.beq k 39 then (0, 0) else bif Nat.beq k 40 then (0, 0) else bif Nat.beq k 41 then (0, 0) else bif Nat.beq k 42 then (0, 0) else bif Nat.beq k 43 then (0, 0) else bif Nat.beq k 44 then (0, 0) else bif Nat.beq k 45 then (0, 0) else bif Nat.beq k 46 then (0, 0) else bif Nat.beq k 47 then (0, 0) else bif Nat.beq k 48 then (0, 0) else bif Nat.beq k 49 then (0, 0) else bif Nat.beq k 50 then (0, 0) else bif Nat.beq k 51 then (0, 0) else bif Nat.beq k 52 then (0, 0) else bif Nat.beq k 53 then (0, 0) else bif Nat.beq k 54 then (0, 0) else bif Nat.beq k 55 then (0, 0) else bif Nat.beq k 56 then (0, 0) else bif Nat.beq k 57 then (0, 0) else bif Nat.beq k 58 then (0, 0) else bif Nat.beq k 59 then (0, 0) else bif Nat.beq k 60 then (0, 0) else bif Nat.beq k 61 then (0, 0) else bif Nat.beq k 62 then (0, 0) else bif Nat.beq k 63 then (0, 0) else (-2147483648, 2147483647), fun k => bif Nat.beq k 0 then (0, 0) else bif Nat.beq k 1 then (0, 0) else bif Nat.beq k 2 then (0, 208) else bif Nat.beq k 3 then (0, 2) else bif Nat.beq k 5 then (0, 0) else bif Nat.beq k 6 then (0, 0) else bif Nat.beq k 7 then (0, 0) else bif Nat.beq k 8 then (0, 0) else bif Nat.beq k 9 then (0, 0) else bif Nat.beq k 10 then (0, 0) else bif Nat.beq k 11 then (0, 0) else bif Nat.beq k 12 then (0, 0) else bif Nat.beq k 13 then (0, 0) else bif Nat.beq k 14 then (0, 0) else bif Nat.beq k 15 then (0, 0) else bif Nat.beq k 16 then (0, 0) else bif Nat.beq k 17 then (0, 0) else bif Nat.beq k 18 then (0, 0) else bif Nat.beq k 19 then (0, 0) else bif Nat.beq k 20 then (0, 0) else bif Nat.beq k 21 then (0, 0) else bif Nat.beq k 22 then (0, 0) else bif Nat.beq k 23 then (0, 0) else bif Nat.beq k 24 then (0, 0) else bif Nat.beq k 25 then (0, 0) else bif Nat.beq k 26 then (0, 0) else bif Nat.beq k 27 then (0, 0) else bif Nat.beq k 28 then (0, 0) else bif Nat.beq k 29 then (0, 0) else bif Nat.beq k 30 then (0, 0) else bif Nat.beq k 31 then (0, 0) else bif Nat.beq k 32 then (0, 0) else bif Nat.beq k 33 then (0, 0) else bif Nat.beq k 34 then (0, 0) else bif Nat.beq k 35 then (0, 0) else bif Nat.beq k 36 then (0, 0) else bif Nat.beq k 37 then (0, 0) else bif Nat.beq k 38 then (0, 0) else bif Nat.beq k 39 then (0, 0) else bif Nat.beq k 40 then (0, 0) else bif Nat.beq k 41 then (0, 0) else bif Nat.beq k 42 then (0, 0) else bif Nat.beq k 43 then (0, 0) else bif Nat.beq k 44 then (0, 0) else bif Nat.beq k 45 then (0, 0) else bif Nat.beq k 46 then (0, 0) else bif Nat.beq k 47 then (0, 0) else bif Nat.beq k 48 then (0, 0) else bif Nat.beq k 49 then (0, 0) else bif Nat.beq k 50 then (0, 0) else bif Nat.beq k 51 then (0, 0) else bif Nat.beq k 52 then (0, 0) else bif Nat.beq k 53 then (0, 0) else bif Nat.beq k 54 then (0, 0) else bif Nat.beq k 55 then (0, 0) else bif Nat.beq k 56 then (0, 0) else bif Nat.beq k 57 then (0, 0) else bif Nat.beq k 58 then (0, 0) else bif Nat.beq k 59 then (0, 0) else bif Nat.beq k 60 then (0, 0) else bif Nat.beq k 61 then (0, 0) else bif Nat.beq k 62 then (0, 0) else bif Nat.beq k 63 then (0, 0) else (-2147483648, 2147483647))
def I_Cv : ok_I := (fun k => bif Nat.beq k 0 then (0, 200) else bif Nat.beq k 2 then (0, 0) else bif Nat.beq k 3 then (0, 0) else bif Nat.beq k 4 then (0, 0) else bif Nat.beq k 5 then (0, 0) else bif Nat.beq k 6 then (0, 0) else bif Nat.beq k 7 then (0, 0) else bif Nat.beq k 8 then (0, 0) else bif Nat.beq k 9 then (0, 0) else bif Nat.beq k 10 then (0, 0) else bif Nat.beq k 11 then (0, 0) else bif Nat.beq k 12 then (0, 0) else bif Nat.beq k 13 then (0, 0) else bif Nat.beq k 14 then (0, 0) else bif Nat.beq k 15 then (0, 0) else bif Nat.beq k 16 then (0, 0) else bif Nat.beq k 17 then (0, 0) else bif Nat.beq k 18 then (0, 0) else bif Nat.beq k 19 then (0, 0) else bif Nat.beq k 20 then (0, 0) else bif Nat.beq k 21 then (0, 0) else bif Nat.beq k 22 then (0, 0) else bif Nat.beq k 23 then (0, 0) else bif Nat.beq k 24 then (0, 0) else bif Nat.beq k 25 then (0, 0) else bif Nat.beq k 26 then (0, 0) else bif Nat.beq k 27 then (0, 0) else bif Nat.beq k 28 then (0, 0) else bif Nat.beq k 29 then (0, 0) else bif Nat.beq k 30 then (0, 0) else bif Nat.beq k 31 then (0, 0) else bif Nat.beq k 32 then (0, 0) else bif Nat.beq k 33 then (0, 0) else bif Nat.beq k 34 then (0, 0) else bif Nat.beq k 35 then (0, 0) else bif Nat.beq k 36 then (0, 0) else bif Nat.beq k 37 then (0, 0) else bif Nat.beq k 38 then (0, 0) else bif Nat.beq k 39 then (0, 0) else bif Nat.beq k 40 then (0, 0) else bif Nat.beq k 41 then (0, 0) else bif Nat.beq k 42 then (0, 0) else bif Nat.beq k 43 then (0, 0) else bif Nat.beq k 44 then (0, 0) else bif Nat.beq k 45 then (0, 0) else bif Nat.beq k 46 then (0, 0) else bif Nat.beq k 47 then (0, 0) else bif Nat.beq k 48 then (0, 0) else bif Nat.beq k 49 then (0, 0) else bif Nat.beq k 50 then (0, 0) else bif Nat.beq k 51 then (0, 0) else bif Nat.beq k 52 then (0, 0) else bif Nat.beq k 53 then (0, 0) else bif Nat.beq k 54 then (0, 0) else bif Nat.beq k 55 then (0, 0) else bif Nat.beq k 56 then (0, 0) else bif Nat.beq k 57 then (0, 0) else bif Nat.beq k 58 then (0, 0) else bif Nat.beq k 59 then (0, 0) else bif Nat.beq k 60 then (0, 0) else bif Nat.beq k 61 then (0, 0) else bif Nat.beq k 62 then (0, 0) else bif Nat.beq k 63 then (0, 0) else (-2147483648, 2147483647), fun k => bif Nat.beq k 0 then (0, 0) else bif Nat.beq k 1 then (0, 0) else bif Nat.beq k 2 then (0, 208) else bif Nat.beq k 5 then (0, 0) else bif Nat.beq k 7 then (0, 0) else bif Nat.beq k 8 then (0, 0) else bif Nat.beq k 9 then (0, 0) else bif Nat.beq k 10 then (0, 0) else bif Nat.beq k 11 then (0, 0) else bif Nat.beq k 12 then (0, 0) else bif Nat.beq k 13 then (0, 0) else bif Nat.beq k 14 then (0, 0) else bif Nat.beq k 15 then (0, 0) else bif Nat.beq k 16 then (0, 0) else bif Nat.beq k 17 then (0, 0) else bif Nat.beq k 18 then (0, 0) else bif Nat.beq k 19 then (0, 0) else bif Nat.beq k 20 then (0, 0) else bif Nat.beq k 21 then (0, 0) else bif Nat.beq k 22 then (0, 0) else bif Nat.beq k 23 then (0, 0) else bif Nat.beq k 24 then (0, 0) else bif Nat.beq k 25 then (0, 0) else bif Nat.beq k 26 then (0, 0) else bif Nat.beq k 27 then (0, 0) else bif Nat.beq k 28 then (0, 0) else bif Nat.beq k 29 then (0, 0) else bif Nat.beq k 30 then (0, 0) else bif Nat.beq k 31 then (0, 0) else bif Nat.beq k 32 then (0, 0) else bif Nat.beq k 33 then (0, 0) else bif Nat.beq k 34 then (0, 0) else bif Nat.beq k 35 then (0, 0) else bif Nat.beq k 36 then (0, 0) else bif Nat.beq k 37 then (0, 0) else bif Nat.beq k 38 then (0, 0) else bif Nat.beq k 39 then (0, 0) else bif Nat.beq k 40 then (0, 0) else bif Nat.beq k 41 then (0, 0) else bif Nat.beq k 42 then (0, 0) else bif Nat.beq k 43 then (0, 0) else bif Nat.beq k 44 then (0, 0) else bif Nat.beq k 45 then (0, 0) else bif Nat.beq k 46 then (0, 0) else bif Nat.beq k 47 then (0, 0) else bif Nat.beq k 48 then (0, 0) else bif Nat.beq k 49 then (0, 0) else bif Nat.beq k 50 then (0, 0) else bif Nat.beq k 51 then (0, 0) else bif Nat.beq k 52 then (0, 0) else bif Nat.beq k 53 then (0, 0) else bif Nat.beq k 54 then (0, 0) else bif Nat.beq k 55 then (0, 0) else bif Nat.beq k 56 then (0, 0) else bif Nat.beq k 57 then (0, 0) else bif Nat.beq k 58 then (0, 0) else bif Nat.beq k 59 then (0, 0) else bif Nat.beq k 60 then (0, 0) else bif Nat.beq k 61 then (0, 0) else bif Nat.beq k 62 then (0, 0) else bif Nat.beq k 63 then (0, 0) else (-2147483648, 2147483647))
def I_Mp : ok_I := (fun k => bif Nat.beq k 0 then (0, 418) else bif Nat.beq k 3 then (0, 0) else bif Nat.beq k 4 then (0, 0) else bif Nat.beq k 5 then (0, 0) else bif Nat.beq k 6 then (0, 0) else bif Nat.beq k 7 then (0, 0) else bif Nat.beq k 8 then (0, 0) else bif Nat.beq k 9 then (0, 0) else bif Nat.beq k 10 then (0, 0) else bif Nat.beq k 11 then (0, 0) else bif Nat.beq k 12 then (0, 0) else bif Nat.beq k 13 then (0, 0) else bif Nat.beq k 14 then (0, 0) else bif Nat.beq k 15 then (0, 0) else bif Nat.beq k 16 then (0, 0) else bif Nat.beq k 17 then (0, 0) else bif Nat.beq k 18 then (0, 0) else bif Nat.beq k 19 then (0, 0) else bif Nat.beq k 20 then (0, 0) else bif Nat.beq k 21 then (0, 0) else bif Nat.beq k 22 then (0, 0) else bif Nat.beq k 23 then (0, 0) else bif Nat.beq k 24 then (0, 0) else bif Nat.beq k 25 then (0, 0) else bif Nat.beq k 26 then (0, 0) else bif Nat.beq k 27 then (0, 0) else bif Nat.beq k 28 then (0, 0) else bif Nat.beq k 29 then (0, 0) else bif Nat.beq k 30 then (0, 0) else bif Nat.beq k 31 then (0, 0) else bif Nat.beq k 32 then (0, 0) else bif Nat.beq k 33 then (0, 0) else bif Nat.beq k 34 then (0, 0) else bif Nat.beq k 35 then (0, 0) else bif Nat.beq k 36 then (0, 0) else bif Nat.beq k 37 then (0, 0) else bif Nat.beq k 38 then (0, 0) else bif Nat.beq k 39 then (0, 0) else bif Nat.beq k 40 then (0, 0) else bif Nat.beq k 41 then (0, 0) else bif Nat.beq k 42 then (0, 0) else bif Nat.beq k 43 then (0, 0) else bif Nat.beq k 44 then (0, 0) else bif Nat.beq k 45 then (0, 0) else bif Nat.beq k 46 then (0, 0) else bif Nat.beq k 47 then (0, 0) else bif Nat.beq k 48 then (0, 0) else bif Nat.beq k 49 then (0, 0) else bif Nat.beq k 50 then (0, 0) else bif Nat.beq k 51 then (0, 0) else bif Nat.beq k 52 then (0, 0) else bif Nat.beq k 53 then (0, 0) else bif Nat.beq k 54 then (0, 0) else bif Nat.beq k 55 then (0, 0) else bif Nat.beq k 56 then (0, 0) else bif Nat.beq k 57 then (0, 0) else bif Nat.beq k 58 then (0, 0) else bif Nat.beq k 59 then (0, 0) else bif Nat.beq k 60 then (0, 0) else bif Nat.beq k 61 then (0, 0) else bif Nat.beq k 62 then (0, 0) else bif Nat.beq k 63 then (0, 0) else (-2147483648, 2147483647), fun k => bif Nat.beq k 0 then (0, 0) else bif Nat.beq k 1 then (0, 0) else bif Nat.beq k 2 then (0, 0) else bif Nat.beq k 3 then (0, 417) else bif Nat.beq k 4 then (0, 0) else bif Nat.beq k 5 then (0, 0) else bif Nat.beq k 6 then (0, 1) else bif Nat.beq k 7 then (0, 0) else bif Nat.beq k 8 then (0, 0) else bif Nat.beq k 9 then (0, 0) else bif Nat.beq k 10 then (0, 0) else bif Nat.beq k 11 then (0, 0) else bif Nat.beq k 12 then (0, 0) else bif Nat.beq k 13 then (0, 0) else bif Nat.beq k 14 then (0, 0) else bif Nat.beq k 15 then (0, 0) else bif Nat.beq k 16 then (0, 0) else bif Nat.beq k 17 then (0, 0) else bif Nat.beq k 18 then (0, 0) else bif Nat.beq k 19 then (0, 0) else bif Nat.beq k 20 then (0, 0) else bif Nat.beq k 21 then (0, 0) else bif Nat.beq k 22 then (0, 0) else bif Nat.beq k 23 then (0, 0) else bif Nat.beq k 24 then (0, 0) else bif Nat.beq k 25 then (0, 0) else bif Nat.beq k 26 then (0, 0) else bif Nat.beq k 27 then (0, 0) else bif Nat.beq k 28 then (0, 0) else bif Nat.beq k 29 then (0, 0) else bif Nat.beq k 30 then (0, 0) else bif Nat.beq k 31 then (0, 0) else bif Nat.beq k 32 then (0, 0) else bif Nat.beq k 33 then (0, 0) else bif Nat.beq k 34 then (0, 0) else bif Nat.beq k 35 then (0, 0) else bif Nat.beq k 36 then (0, 0) else bif Nat.beq k 37 then (0, 0) else bif Nat.beq k 38 then (0, 0) else bif Nat.beq k 39 then (0, 0) else bif Nat.beq k 40 then (0, 0) else bif Nat.beq k 41 then (0, 0) else bif Nat.beq k 42 then (0, 0) else bif Nat.beq k 43 then (0, 0) else bif Nat.beq k 44 then (0, 0) else bif Nat.beq k 45 then (0, 0) else bif Nat.beq k 46 then (0, 0) else bif Nat.beq k 47 then (0, 0) else bif Nat.beq k 48 then (0, 0) else bif Nat.beq k 49 then (0, 0) else bif Nat.beq k 50 then (0, 0) else bif Nat.beq k 51 then (0, 0) else bif Nat.beq k 52 then (0, 0) else bif Nat.beq k 53 then (0, 0) else bif Nat.beq k 54 then (0, 0) else bif Nat.beq k 55 then (0, 0) else bif Nat.beq k 56 then (0, 0) else bif Nat.beq k 57 then (0, 0) else bif Nat.beq k 58 then (0, 0) else bif Nat.beq k 59 then (0, 0) else bif Nat.beq k 60 then (0, 0) else bif Nat.beq k 61 then (0, 0) else bif Nat.beq k 62 then (0, 0) else bif Nat.beq k 63 then (0, 0) else (-2147483648, 2147483647))
def I_Li : ok_I := (fun k => bif Nat.beq k 0 then (0, 12) else bif Nat.beq k 1 then ((-1), 11) else bif Nat.beq k 2 then (0, 0) else bif Nat.beq k 3 then (0, 0) else bif Nat.beq k 4 then (0, 0) else bif Nat.beq k 5 then (0, 0) else bif Nat.beq k 6 then (0, 0) else bif Nat.beq k 7 then (0, 576) else bif Nat.beq k 8 then (0, 0) else bif Nat.beq k 9 then (0, 0) else bif Nat.beq k 10 then (0, 0) else bif Nat.beq k 11 then (0, 0) else bif Nat.beq k 12 then (0, 0) else bif Nat.beq k 13 then (0, 0) else bif Nat.beq k 14 then (0, 0) else bif Nat.beq k 15 then (0, 0) else bif Nat.beq k 16 then (0, 0) else bif Nat.beq k 17 then (0, 0) else bif Nat.beq k 18 then (0, 0) else bif Nat.beq k 19 then (0, 0) else bif Nat.beq k 20 then (0, 0) else bif Nat.beq k 21 then (0, 0) else bif Nat.beq k 22 then (0, 0) else bif Nat.beq k 23 then (0, 0) else bif Nat.beq k 24 then (0, 0) else bif Nat.beq k 25 then (0, 0) else bif Nat.beq k 26 then (0, 0) else bif Nat.beq k 27 then (0, 0) else bif Nat.beq k 28 then (0, 0) else bif Nat.beq k 29 then (0, 0) else bif Nat.beq k 30 then (0, 0) else bif Nat.beq k 31 then (0, 0) else bif Nat.beq k 32 then (0, 0) else bif Nat.beq k 33 then (0, 0) else bif Nat.beq k 34 then (0, 0) else bif Nat.beq k 35 then (0, 0) else bif Nat.beq k 36 then (0, 0) else bif Nat.beq k 37 then (0, 0) else bif Nat.beq k 38 then (0, 0) else bif Nat.beq k 39 then (0, 0) else bif Nat.beq k 40 then (0, 0) else bif Nat.beq k 41 then (0, 0) else bif Nat.beq k 42 then (0, 0) else bif Nat.beq k 43 then (0, 0) else bif Nat.beq k 44 then (0, 0) else bif Nat.beq k 45 then (0, 0) else bif Nat.beq k 46 then (0, 0) else bif Nat.beq k 47 then (0, 0) else bif Nat.beq k 48 then (0, 0) else bif Nat.beq k 49 then (0, 0) else bif Nat.beq k 50 then (0, 0) else bif Nat.beq k 51 then (0, 0) else bif Nat.beq k 52 then (0, 0) else bif Nat.beq k 53 then (0, 0) else bif Nat.beq k 54 then (0, 0) else bif Nat.beq k 55 then (0, 0) else bif Nat.beq k 56 then (0, 0) else bif Nat.beq k 57 then (0, 0) else bif Nat.beq k 58 then (0, 0) else bif Nat.beq k 59 then (0, 0) else bif Nat.beq k 60 then (0, 0) else bif Nat.beq k 61 then (0, 0) else bif Nat.beq k 62 then (0, 0) else bif Nat.beq k 63 then (0, 0) else (-2147483648, 2147483647), fun k => bif Nat.beq k 0 then (0, 0) else bif Nat.beq k 1 then (0, 0) else bif Nat.beq k 2 then (0, 0) else bif Nat.beq k 5 then (0, 3) else bif Nat.beq k 7 then (0, 0) else bif Nat.beq k 8 then (0, 11) else bif Nat.beq k 9 then (0, 511) else bif Nat.beq k 10 then ((-1), 575) else bif Nat.beq k 11 then ((-1), 575) else bif Nat.beq k 12 then (0, 0) else bif Nat.beq k 13 then (0, 0) else bif Nat.beq k 14 then (0, 0) else bif Nat.beq k 15 then (0, 0) else bif Nat.beq k 16 then (0, 0) else bif Nat.beq k 17 then (0, 0) else bif Nat.beq k 18 then (0, 0) else bif Nat.beq k 19 then (0, 0) else bif Nat.beq k 20 then (0, 0) else bif Nat.beq k 21 then (0, 0) else bif Nat.beq k 22 then (0, 0) else bif Nat.beq k 23 then (0, 0) else bif Nat.beq k 24 then (0, 0) else bif Nat.beq k 25 then (0, 0) else bif Nat.beq k 26 then (0, 0) else bif Nat.beq k 27 then (0, 0) else bif Nat.beq k 28 then (0, 0) else bif Nat.beq k 29 then (0, 0) else bif Nat.beq k 30 then (0, 0) else bif Nat.beq k 31 then (0, 0) else bif Nat.beq k 32 then (0, 0) else bif Nat.beq k 33 then (0, 0) else bif Nat.beq k 34 then (0, 0) else bif Nat.beq k 35 then (0, 0) else bif Nat.beq k 36 then (0, 0) else bif Nat.beq k 37 then (0, 0) else bif Nat.beq k 38 then (0, 0) else bif Nat.beq k 39 then (0, 0) else bif Nat.beq k 40 then (0, 0) else bif Nat.beq k 41 then (0, 0) else bif Nat.beq k 42 then (0, 0) else bif Nat.beq k 43 then (0, 0) else bif Nat.beq k 44 then (0, 0) else bif Nat.beq k 45 then (0, 0) else bif Nat.beq k 46 then (0, 0) else bif Nat.beq k 47 then (0, 0) else bif Nat.beq k 48 then (0, 0) else bif Nat.beq k 49 then (0, 0) else bif Nat.beq k 50 then (0, 0) else bif Nat.beq k 51 then (0, 0) else bif Nat.beq k 52 then (0, 0) else bif Nat.beq k 53 then (0, 0) else bif Nat.beq k 54 then (0, 0) else bif Nat.beq k 55 then (0, 0) else bif Nat.beq k 56 then (0, 0) else bif Nat.beq k 57 then (0, 0) else bif Nat.beq k 58 then (0, 0) else bif Nat.beq k 59 then (0, 0) else bif Nat.beq k 60 then (0, 0) else bif Nat.beq k 61 then (0, 0) else bif Nat.beq k 62 then (0, 0) else bif Nat.beq k 63 then (0, 0) else (-2147483648, 2147483647))
def I_Re : ok_I := (fun k => bif Nat.beq k 0 then (0, 0) else bif Nat.beq k 1 then (0, 0) else bif Nat.beq k 2 then (0, 0) else bif Nat.beq k 3 then (0, 0) else bif Nat.beq k 4 then (0, 0) else bif Nat.beq k 5 then (0, 0) else bif Nat.beq k 6 then (0, 0) else bif Nat.beq k 7 then (0, 210) else bif Nat.beq k 8 then (0, 0) else bif Nat.beq k 9 then (0, 0) else bif Nat.beq k 10 then (0, 0) else bif Nat.beq k 11 then (0, 16) else bif Nat.beq k 12 then (0, 0) else bif Nat.beq k 13 then (0, 0) else bif Nat.beq k 14 then (0, 0) else bif Nat.beq k 15 then (0, 0) else bif Nat.beq k 16 then (0, 0) else bif Nat.beq k 17 then (0, 0) else bif Nat.beq k 18 then (0, 0) else bif Nat.beq k 19 then (0, 0) else bif Nat.beq k 20 then (0, 0) else bif Nat.beq k 21 then (0, 0) else bif Nat.beq k 22 then (0, 0) else bif Nat.beq k 23 then (0, 0) else bif Nat.beq k 24 then (0, 0) else bif Nat.beq k 25 then (0, 0) else bif Nat.beq k 26 then (0, 0) else bif Nat.beq k 27 then (0, 0) else bif Nat.beq k 28 then (0, 0) else bif Nat.beq k 29 then (0, 0) else bif Nat.beq k 30 then (0, 0) else bif Nat.beq k 31 then (0, 0) else bif Nat.beq k 32 then (0, 0) else bif Nat.beq k 33 then (0, 0) else bif Nat.beq k 34 then (0, 0) else bif Nat.beq k 35 then (0, 0) else bif Nat.beq k 36 then (0, 0) else bif Nat.beq k 37 then (0, 0) else bif Nat.beq k 38 then (0, 0) else bif Nat.beq k 39 then (0, 0) else bif Nat.beq k 40 then (0, 0) else bif Nat.beq k 41 then (0, 0) else bif Nat.beq k 42 then (0, 0) else bif Nat.beq k 43 then (0, 0) else bif Nat.beq k 44 then (0, 0) else bif Nat.beq k 45 then (0, 0) else bif Nat.beq k 46 then (0, 0) else bif Nat.beq k 47 then (0, 0) else bif Nat.beq k 48 then (0, 0) else bif Nat.beq k 49 then (0, 0) else bif Nat.beq k 50 then (0, 0) else bif Nat.beq k 51 then (0, 0) else bif Nat.beq k 52 then (0, 0) else bif Nat.beq k 53 then (0, 0) else bif Nat.beq k 54 then (0, 0) else bif Nat.beq k 55 then (0, 0) else bif Nat.beq k 56 then (0, 0) else bif Nat.beq k 57 then (0, 0) else bif Nat.beq k 58 then (0, 0) else bif Nat.beq k 59 then (0, 0) else bif Nat.beq k 60 then (0, 0) else bif Nat.beq k 61 then (0, 0) else bif Nat.beq k 62 then (0, 0) else bif Nat.beq k 63 then (0, 0) else (-2147483648, 2147483647), fun k => bif Nat.beq k 0 then (0, 1) else bif Nat.beq k 3 then (0, 1) else bif Nat.beq k 4 then (0, 417) else bif Nat.beq k 5 then (0, 417) else bif Nat.beq k 6 then (0, 417) else bif Nat.beq k 7 then (0, 0) else bif Nat.beq k 9 then (0, 4) else bif Nat.beq k 10 then (0, 80) else bif Nat.beq k 11 then (0, 0) else bif Nat.beq k 12 then (0, 0) else bif Nat.beq k 13 then (0, 0) else bif Nat.beq k 14 then (0, 0) else bif Nat.beq k 15 then (0, 0) else bif Nat.beq k 16 then (0, 0) else bif Nat.beq k 17 then (0, 0) else bif Nat.beq k 18 then (0, 0) else bif Nat.beq k 19 then (0, 0) else bif Nat.beq k 20 then (0, 0) else bif Nat.beq k 21 then (0, 0) else bif Nat.beq k 22 then (0, 0) else bif Nat.beq k 23 then (0, 0) else bif Nat.beq k 24 then (0, 0) else bif Nat.beq k 25 then (0, 0) else bif Nat.beq k 26 then (0, 0) else bif Nat.beq k 27 then (0, 0) else bif Nat.beq k 28 then (0, 0) else bif Nat.beq k 29 then (0, 0) else bif Nat.beq k 30 then (0, 0) else bif Nat.beq k 31 then (0, 0) else bif Nat.beq k 32 then (0, 0) else bif Nat.beq k 33 then (0, 0) else bif Nat.beq k 34 then (0, 0) else bif Nat.beq k 35 then (0, 0) else bif Nat.beq k 36 then (0, 0) else bif Nat.beq k 37 then (0, 0) else bif Nat.beq k 38 then (0, 0) else bif Nat.beq k 39 then (0, 0) else bif Nat.beq k 40 then (0, 0) else bif Nat.beq k 41 then (0, 0) else bif Nat.beq k 42 then (0, 0) else bif Nat.beq k 43 then (0, 0) else bif Nat.beq k 44 then (0, 0) else bif Nat.beq k 45 then (0, 0) else bif Nat.beq k 46 then (0, 0) else bif Nat.beq k 47 then (0, 0) else bif Nat.beq k 48 then (0, 0) else bif Nat.beq k 49 then (0, 0) else bif Nat.beq k 50 then (0, 0) else bif Nat.beq k 51 then (0, 0) else bif Nat.beq k 52 then (0, 0) else bif Nat.beq k 53 then (0, 0) else bif Nat.beq k 54 then (0, 0) else bif Nat.beq k 55 then (0, 0) else bif Nat.beq k 56 then (0, 0) else bif Nat.beq k 57 then (0, 0) else bif Nat.beq k 58 then (0, 0) else bif Nat.beq k 59 then (0, 0) else bif Nat.beq k 60 then (0, 0) else bif Nat.beq k 61 then (0, 0) else bif Nat.beq k 62 then (0, 0) else bif Nat.beq k 63 then (0, 0) else (-2147483648, 2147483647))
def I_Sc : ok_I := (fun k => bif Nat.beq k 0 then (0, 1) else bif Nat.beq k 1 then (0, 0) else bif Nat.beq k 2 then (0, 0) else bif Nat.beq k 3 then (0, 0) else bif Nat.beq k 4 then (0, 0) else bif Nat.beq k 5 then (0, 0) else bif Nat.beq k 6 then (0, 0) else bif Nat.beq k 7 then (0, 0) else bif Nat.beq k 8 then (0, 0) else bif Nat.beq k 9 then (0, 0) else bif Nat.beq k 10 then (0, 0) else bif Nat.beq k 11 then (0, 0) else bif Nat.beq k 12 then (0, 0) else bif Nat.beq k 13 then (0, 0) else bif Nat.beq k 14 then (0, 0) else bif Nat.beq k 15 then (0, 0) else bif Nat.beq k 16 then (0, 0) else bif Nat.beq k 17 then (0, 0) else bif Nat.beq k 18 then (0, 0) else bif Nat.beq k 19 then (0, 0) else bif Nat.beq k 20 then (0, 0) else bif Nat.beq k 21 then (0, 0) else bif Nat.beq k 22 then (0, 0) else bif Nat.beq k 23 then (0, 0) else bif Nat.beq k 24 then (0, 0) else bif Nat.beq k 25 then (0, 0) else bif Nat.beq k 26 then (0, 0) else bif Nat.beq k 27 then (0, 0) else bif Nat.beq k 28 then (0, 0) else bif Nat.beq k 29 then (0, 0) else bif Nat.beq k 30 then (0, 0) else bif Nat.beq k 31 then (0, 0) else bif Nat.beq k 32 then (0, 0) else bif Nat.beq k 33 then (0, 0) else bif Nat.beq k 34 then (0, 0) else bif Nat.beq k 35 then (0, 0) else bif Nat.beq k 36 then (0, 0) else bif Nat.beq k 37 then (0, 0) else bif Nat.beq k 38 then (0, 0) else bif Nat.beq k 39 then (0, 0) else bif Nat.beq k 40 then (0, 0) else bif Nat.beq k 41 then (0, 0) else bif Nat.beq k 42 then (0, 0) else bif Nat.beq k 43 then (0, 0) else bif Nat.beq k 44 then (0, 0) else bif Nat.beq k 45 then (0, 0) else bif Nat.beq k 46 then (0, 0) else bif Nat.beq k 47 then (0, 0) else bif Nat.beq k 48 then (0, 0) else bif Nat.beq k 49 then (0, 0) else bif Nat.beq k 50 then (0, 0) else bif Nat.beq k 51 then (0, 0) else bif Nat.beq k 52 then (0, 0) else bif Nat.beq k 53 then (0, 0) else bif Nat.beq k 54 then (0, 0) else bif Nat.beq k 55 then (0, 0) else bif Nat.beq k 56 then (0, 0) else bif Nat.beq k 57 then (0, 0) else bif Nat.beq k 58 then (0, 0) else bif Nat.beq k 59 then (0, 0) else bif Nat.beq k 60 then (0, 0) else bif Nat.beq k 61 then (0, 0) else bif Nat.beq k 62 then (0, 0) else bif Nat.beq k 63 then (0, 0) else (-2147483648, 2147483647), fun k => bif Nat.beq k 0 then (0, 0) else bif Nat.beq k 1 then (0, 0) else bif Nat.beq k 2 then (0, 0) else bif Nat.beq k 3 then (0, 0) else bif Nat.beq k 4 then (0, 0) else bif Nat.beq k 5 then (0, 0) else bif Nat.beq k 6 then (0, 0) else bif Nat.beq k 7 then (0, 0) else bif Nat.beq k 8 then (0, 0) else bif Nat.beq k 9 then (0, 0) else bif Nat.beq k 10 then (0, 0) else bif Nat.beq k 11 then (0, 0) else bif Nat.beq k 12 then (0, 0) else bif Nat.beq k 13 then (0, 0) else bif Nat.beq k 14 then (0, 0) else bif Nat.beq k 15 then (0, 0) else bif Nat.beq k 16 then (0, 0) else bif Nat.beq k 17 then (0, 0) else bif Nat.beq k 18 then (0, 0) else bif Nat.beq k 19 then (0, 0) else bif Nat.beq k 20 then (0, 0) else bif Nat.beq k 21 then (0, 0) else bif Nat.beq k 22 then (0, 0) else bif Nat.beq k 23 then (0, 0) else bif Nat.beq k 24 then (0, 0) else bif Nat.beq k 25 then (0, 0) else bif Nat.beq k 26 then (0, 0) else bif Nat.beq k 27 then (0, 0) else bif Nat.beq k 28 then (0, 0) else bif Nat.beq k 29 then (0, 0) else bif Nat.beq k 30 then (0, 0) else bif Nat.beq k 31 then (0, 0) else bif Nat.beq k 32 then (0, 0) else bif Nat.beq k 33 then (0, 0) else bif Nat.beq k 34 then (0, 0) else bif Nat.beq k 35 then (0, 0) else bif Nat.beq k 36 then (0, 0) else bif Nat.beq k 37 then (0, 0) else bif Nat.beq k 38 then (0, 0) else bif Nat.beq k 39 then (0, 0) else bif Nat.beq k 40 then (0, 0) else bif Nat.beq k 41 then (0, 0) else bif Nat.beq k 42 then (0, 0) else bif Nat.beq k 43 then (0, 0) else bif Nat.beq k 44 then (0, 0) else bif Nat.beq k 45 then (0, 0) else bif Nat.beq k 46 then (0, 0) else bif Nat.beq k 47 then (0, 0) else bif Nat.beq k 48 then (0, 0) else bif Nat.beq k 49 then (0, 0) else bif Nat.beq k 50 then (0, 0) else bif Nat.beq k 51 then (0, 0) else bif Nat.beq k 52 then (0, 0) else bif Nat.beq k 53 then (0, 0) else bif Nat.beq k 54 then (0, 0) else bif Nat.beq k 55 then (0, 0) else bif Nat.beq k 56 then (0, 0) else bif Nat.beq k 57 then (0, 0) else bif Nat.beq k 58 then (0, 0) else bif Nat.beq k 59 then (0, 0) else bif Nat.beq k 60 then (0, 0) else bif Nat.beq k 61 then (0, 0) else bif Nat.beq k 62 then (0, 0) else bif Nat.beq k 63 then (0, 0) else (-2147483648, 2147483647))
def I_SB : ok_I := (fun k => bif Nat.beq k 0 then (16, 400000) else bif Nat.beq k 1 then (0, 0) else bif Nat.beq k 2 then (0, 1) else bif Nat.beq k 3 then (0, 90000) else bif Nat.beq k 4 then (0, 0) else bif Nat.beq k 5 then (0, 0) else bif Nat.beq k 6 then (0, 0) else bif Nat.beq k 7 then (0, 0) else bif Nat.beq k 8 then (0, 0) else bif Nat.beq k 9 then (0, 0) else bif Nat.beq k 10 then (0, 0) else bif Nat.beq k 11 then (0, 0) else bif Nat.beq k 12 then (0, 0) else bif Nat.beq k 13 then (0, 0) else bif Nat.beq k 14 then (0, 0) else bif Nat.beq k 15 then (0, 0) else bif Nat.beq k 16 then (0, 0) else bif Nat.beq k 17 then (0, 0) else bif Nat.beq k 18 then (0, 0) else bif Nat.beq k 19 then (0, 0) else bif Nat.beq k 20 then (0, 0) else bif Nat.beq k 21 then (0, 0) else bif Nat.beq k 22 then (0, 0) else bif Nat.beq k 23 then (0, 0) else bif Nat.beq k 24 then (0, 0) else bif Nat.beq k 25 then (0, 0) else bif Nat.beq k 26 then (0, 0) else bif Nat.beq k 27 then (0, 0) else bif Nat.beq k 28 then (0, 0) else bif Nat.beq k 29 then (0, 0) else bif Nat.beq k 30 then (0, 0) else bif Nat.beq k 31 then (0, 0) else bif Nat.beq k 32 then (0, 0) else bif Nat.beq k 33 then (0, 0) else bif Nat.beq k 34 then (0, 0) else bif Nat.beq k 35 then (0, 0) else bif Nat.beq k 36 then (0, 0) else bif Nat.beq k 37 then (0, 0) else bif Nat.beq k 38 then (0, 0) else bif Nat.beq k 39 then (0, 0) else bif Nat.beq k 40 then (0, 0) else bif Nat.beq k 41 then (0, 0) else bif Nat.beq k 42 then (0, 0) else bif Nat.beq k 43 then (0, 0) else bif Nat.beq k 44 then (0, 0) else bif Nat.beq k 45 then (0, 0) else bif Nat.beq k 46 then (0, 0) else bif Nat.beq k 47 then (0, 0) else bif Nat.beq k 48 then (0, 0) else bif Nat.beq k 49 then (0, 0) else bif Nat.beq k 50 then (0, 0) else bif Nat.beq k 51 then (0, 0) else bif Nat.beq k 52 then (0, 0) else bif Nat.beq k 53 then (0, 0) else bif Nat.beq k 54 then (0, 0) else bif Nat.beq k 55 then (0, 0) else bif Nat.beq k 56 then (0, 0) else bif Nat.beq k 57 then (0, 0) else bif Nat.beq k 58 then (0, 0) else bif Nat.beq k 59 then (0, 0) else bif Nat.beq k 60 then (0, 0) else bif Nat.beq k 61 then (0, 0) else bif Nat.beq k 62 then (0, 0) else bif Nat.beq k 63 then (0, 0) else (-2147483648, 2147483647), fun k => bif Nat.beq k 0 then ((-128), 127) else bif Nat.beq k 1 then (0, 0) else bif Nat.beq k 2 then (0, 0) else bif Nat.beq k 3 then (0, 0) else bif Nat.beq k 4 then (0, 0) else bif Nat.beq k 5 then (0, 0) else bif Nat.beq k 6 then (0, 0) else bif Nat.beq k 7 then (0, 0) else bif Nat.beq k 8 then (0, 0) else bif Nat.beq k 9 then (0, 0) else bif Nat.beq k 10 then (0, 0) else bif Nat.beq k 11 then (0, 0) else bif Nat.beq k 12 then (0, 0) else bif Nat.beq k 13 then (0, 0) else bif Nat.beq k 14 then (0, 0) else bif Nat.beq k 15 then (0, 0) else bif Nat.beq k 16 then (0, 0) else bif Nat.beq k 17 then (0, 0) else bif Nat.beq k 18 then (0, 0) else bif Nat.beq k 19 then (0, 0) else bif Nat.beq k 20 then (0, 0) else bif Nat.beq k 21 then (0, 0) else bif Nat.beq k 22 then (0, 0) else bif Nat.beq k 23 then (0, 0) else bif Nat.beq k 24 then (0, 0) else bif Nat.beq k 25 then (0, 0) else bif Nat.beq k 26 then (0, 0) else bif Nat.beq k 27 then (0, 0) else bif Nat.beq k 28 then (0, 0) else bif Nat.beq k 29 then (0, 0) else bif Nat.beq k 30 then (0, 0) else bif Nat.beq k 31 then (0, 0) else bif Nat.beq k 32 then (0, 0) else bif Nat.beq k 33 then (0, 0) else bif Nat.beq k 34 then (0, 0) else bif Nat.beq k 35 then (0, 0) else bif Nat.beq k 36 then (0, 0) else bif Nat.beq k 37 then (0, 0) else bif Nat.beq k 38 then (0, 0) else bif Nat.beq k 39 then (0, 0) else bif Nat.beq k 40 then (0, 0) else bif Nat.beq k 41 then (0, 0) else bif Nat.beq k 42 then (0, 0) else bif Nat.beq k 43 then (0, 0) else bif Nat.beq k 44 then (0, 0) else bif Nat.beq k 45 then (0, 0) else bif Nat.beq k 46 then (0, 0) else bif Nat.beq k 47 then (0, 0) else bif Nat.beq k 48 then (0, 0) else bif Nat.beq k 49 then (0, 0) else bif Nat.beq k 50 then (0, 0) else bif Nat.beq k 51 then (0, 0) else bif Nat.beq k 52 then (0, 0) else bif Nat.beq k 53 then (0, 0) else bif Nat.beq k 54 then (0, 0) else bif Nat.beq k 55 then (0, 0) else bif Nat.beq k 56 then (0, 0) else bif Nat.beq k 57 then (0, 0) else bif Nat.beq k 58 then (0, 0) else bif Nat.beq k 59 then (0, 0) else bif Nat.beq k 60 then (0, 0) else bif Nat.beq k 61 then (0, 0) else bif Nat.beq k 62 then (0, 0) else bif Nat.beq k 63 then (0, 0) else (-2147483648, 2147483647))
def I_F : ok_I := (fun k => bif Nat.beq k 0 then (0, 0) else bif Nat.beq k 1 then (0, 0) else bif Nat.beq k 2 then (0, 0) else bif Nat.beq k 3 then (0, 0) else bif Nat.beq k 4 then (0, 0) else bif Nat.beq k 5 then (0, 0) else bif Nat.beq k 6 then (0, 0) else bif Nat.beq k 7 then (0, 0) else bif Nat.beq k 8 then (0, 0) else bif Nat.beq k 9 then (0, 0) else bif Nat.beq k 10 then (0, 0) else bif Nat.beq k 11 then (0, 0) else bif Nat.beq k 12 then (0, 0) else bif Nat.beq k 13 then (0, 0) else bif Nat.beq k 14 then (0, 0) else bif Nat.beq k 15 then ((-1), 2147483647) else bif Nat.beq k 16 then (0, 1) else bif Nat.beq k 17 then (0, 1) else bif Nat.beq k 18 then (0, 1) else bif Nat.beq k 19 then (0, 0) else bif Nat.beq k 20 then (0, 0) else bif Nat.beq k 21 then (0, 0) else bif Nat.beq k 22 then (0, 0) else bif Nat.beq k 23 then (0, 0) else bif Nat.beq k 24 then (0, 0) else bif Nat.beq k 25 then (0, 0) else bif Nat.beq k 26 then (0, 0) else bif Nat.beq k 27 then (0, 0) else bif Nat.beq k 28 then (0, 0) else bif Nat.beq k 29 then (0, 0) else bif Nat.beq k 30 then (0, 4) else bif Nat.beq k 31 then (0, 0) else bif Nat.beq k 32 then (0, 0) else bif Nat.beq k 33 then (0, 0) else bif Nat.beq k 34 then (0, 0) else bif Nat.beq k 35 then (0, 0) else bif Nat.beq k 36 then (0, 0) else bif Nat.beq k 37 then (0, 0) else bif Nat.beq k 38 then (0, 0) else bif Nat.beq k 39 then (0, 0) else bif Nat.beq k 40 then (0, 0) else bif Nat.beq k 41 then (0, 0) else bif Nat.beq k 42 then (0, 0) else bif Nat.beq k 43 then (0, 0) else bif Nat.beq k 44 then (0, 0) else bif Nat.beq k 45 then (0, 0) else bif Nat.beq k 46 then (0, 0) else bif Nat.beq k 47 then (0, 0) else bif Nat.beq k 48 then (0, 0) else bif Nat.beq k 49 then (0, 0) else bif Nat.beq k 50 then (0, 0) else bif Nat.beq k 51 then (0, 0) else bif Nat.beq k 52 then (0, 0) else bif Nat.beq k 53 then (0, 0) else bif Nat.beq k 54 then (0, 0) else bif Nat.beq k 55 then (0, 0) else bif Nat.beq k 56 then (0, 0) else bif Nat.beq k 57 then (0, 0) else bif Nat.beq k 58 then (0, 0) else bif Nat.beq k 59 then (0, 0) else bif Nat.beq k 60 then (0, 0) else bif Nat.beq k 61 then (0, 0) else bif Nat.beq k 62 then (0, 0) else bif Nat.beq k 63 then (0, 0) else (-2147483648, 2147483647), fun k => bif Nat.beq k 0 then (0, 0) else bif Nat.beq k 1 then (0, 0) else bif Nat.beq k 2 then (0, 0) else bif Nat.beq k 3 then (0, 0) else bif Nat.beq k 4 then (0, 0) else bif Nat.beq k 5 then (0, 0) else bif Nat.beq k 6 then (0, 0) else bif Nat.beq k 7 then (0, 0) else bif Nat.beq k 8 then (0, 0) else bif Nat.beq k 9 then (0, 0) else bif Nat.beq k 10 then (0, 0) else bif Nat.beq k 11 then (0, 0) else bif Nat.beq k 12 then (0, 0) else bif Nat.beq k 13 then (0, 0) else bif Nat.beq k 14 then (0, 0) else bif Nat.beq k 15 then (0, 0) else bif Nat.beq k 16 then (0, 0) else bif Nat.beq k 17 then (0, 0) else bif Nat.beq k 18 then (0, 0) else bif Nat.beq k 19 then (0, 0) else bif Nat.beq k 20 then (0, 0) else bif Nat.beq k 21 then (0, 0) else bif Nat.beq k 22 then (0, 0) else bif Nat.beq k 23 then (0, 0) else bif Nat.beq k 24 then (0, 0) else bif Nat.beq k 25 then (0, 0) else bif Nat.beq k 26 then (0, 0) else bif Nat.beq k 27 then (0, 0) else bif Nat.beq k 28 then (0, 0) else bif Nat.beq k 29 then (0, 0) else bif Nat.beq k 30 then (0, 0) else bif Nat.beq k 31 then (0, 0) else bif Nat.beq k 32 then (0, 0) else bif Nat.beq k 33 then (0, 0) else bif Nat.beq k 34 then (0, 0) else bif Nat.beq k 35 then (0, 0) else bif Nat.beq k 36 then (0, 0) else bif Nat.beq k 37 then (0, 0) else bif Nat.beq k 38 then (0, 0) else bif Nat.beq k 39 then (0, 0) else bif Nat.beq k 40 then (0, 0) else bif Nat.beq k 41 then (0, 0) else bif Nat.beq k 42 then (0, 0) else bif Nat.beq k 43 then (0, 0) else bif Nat.beq k 44 then (0, 0) else bif Nat.beq k 45 then (0, 0) else bif Nat.beq k 46 then (0, 0) else bif Nat.beq k 47 then (0, 0) else bif Nat.beq k 48 then (0, 0) else bif Nat.beq k 49 then (0, 0) else bif Nat.beq k 50 then (0, 0) else bif Nat.beq k 51 then (0, 0) else bif Nat.beq k 52 then (0, 0) else bif Nat.beq k 53 then (0, 0) else bif Nat.beq k 54 then (0, 0) else bif Nat.beq k 55 then (0, 0) else bif Nat.beq k 56 then (0, 0) else bif Nat.beq k 57 then (0, 0) else bif Nat.beq k 58 then (0, 0) else bif Nat.beq k 59 then (0, 0) else bif Nat.beq k 60 then (0, 0) else bif Nat.beq k 61 then (0, 0) else bif Nat.beq k 62 then (0, 0) else bif Nat.beq k 63 then (0, 0) else (-2147483648, 2147483647))
def nbF : Nat → Nat → Nat
  | 0, _ => 0
  | k + 1, n => if n = 0 then 0 else nbF k (n / 256) + 1
theorem nbF_le : ∀ k n, nbF k n ≤ k
  | 0, _ => Nat.le_refl 0
  | k + 1, n => by
    rw [nbF]
    have := nbF_le k (n / 256)
    split <;> omega
theorem nbF_st : ∀ k n, n < 256 ^ k → nbF (k + 1) n = nbF k n
  | 0, n, h => by
    have e : n = 0 := by simpa using h
    show (if n = 0 then 0 else _) = 0
    rw [if_pos e]
  | k + 1, n, h => by
    show (if n = 0 then 0 else nbF (k + 1) (n / 256) + 1) = (if n = 0 then 0 else nbF k (n / 256) + 1)
    have h2 : n / 256 < 256 ^ k := Nat.div_lt_of_lt_mul (by rw [Nat.pow_succ] at h; omega)
    rw [nbF_st k (n / 256) h2]
def nb (x : Int64) : Int := ((nbF 8 x.toBitVec.toNat : Nat) : Int)
theorem nb_0 (x : Int64) : 0 ≤ nb x ∧ nb x ≤ 8 := by
  have := nbF_le 8 x.toBitVec.toNat
  unfold nb; omega
abbrev sh8 (x : Int64) : Int64 := (x.toUInt64 >>> ((8 : Int32).toInt64.toUInt64 &&& Int64.toUInt64 63)).toInt64
theorem sh8_n (x : Int64) : (sh8 x).toBitVec.toNat = x.toBitVec.toNat / 256 := by
  show (x.toUInt64 >>> ((8 : Int32).toInt64.toUInt64 &&& Int64.toUInt64 63)).toNat = _
  rw [UInt64.toNat_shiftRight, show ((8 : Int32).toInt64.toUInt64 &&& Int64.toUInt64 63).toNat % 64 = 8 from by decide, Nat.shiftRight_eq_div_pow]; rfl
theorem lc_ne {v : Int64} {y : Int32} (hy : y = lg_cmp v 0) : y.toInt = 0 ∨ ¬ v = 0 := by
  by_cases e : v = 0
  · left
    rw [hy, e]; decide
  · exact Or.inr e
theorem nb_w {v x : Int64} {y : Int32} (hy : y = lg_cmp v 0) (hx : x = sh8 v) : y.toInt = 0 ∨ nb x = nb v - 1 := by
  rcases lc_ne hy with h | h
  · exact Or.inl h
  · right
    have h0 : ¬ v.toBitVec.toNat = 0 := fun q => h (Int64.toBitVec_inj.mp (BitVec.eq_of_toNat_eq q))
    have hl := v.toBitVec.isLt
    unfold nb
    rw [hx, sh8_n]
    have e1 : nbF 8 v.toBitVec.toNat = nbF 7 (v.toBitVec.toNat / 256) + 1 := by rw [nbF, if_neg h0]
    have e2 : nbF 8 (v.toBitVec.toNat / 256) = nbF 7 (v.toBitVec.toNat / 256) := nbF_st 7 _ (by omega)
    rw [e1, e2]; omega
theorem nb_p {v : Int64} {y : Int32} (hy : y = lg_cmp v 0) : y.toInt = 0 ∨ 1 ≤ nb v := by
  rcases nb_w hy rfl with h | h
  · exact Or.inl h
  · have := (nb_0 (sh8 v)).1
    right; omega
theorem iq_mulc {x y : Int32} {k c d : Int} (hx : k ≤ x.toInt ∧ x.toInt ≤ k) (hy : c ≤ y.toInt ∧ y.toInt ≤ d) (h1 : 0 ≤ k) (h2 : -2147483648 ≤ k * c) (h3 : k * d ≤ 2147483647) : (x * y).toInt = x.toInt * y.toInt := by
  have hk : x.toInt = k := by omega
  have l1 : k * c ≤ k * y.toInt := Int.mul_le_mul_of_nonneg_left hy.1 h1
  have l2 : k * y.toInt ≤ k * d := Int.mul_le_mul_of_nonneg_left hy.2 h1
  exact i_mul (by rw [hk]; omega) (by rw [hk]; omega)
abbrev Bo (x : Int64) : Prop := ∀ k : Nat, x.toBitVec.toNat / 256 ^ k % 256 < 209
theorem Bo_s {v x : Int64} (h : Bo v) (hx : x = sh8 v) : Bo x := fun k => by
  rw [hx, sh8_n, Nat.div_div_eq_div_mul]
  have := h (k + 1)
  rw [Nat.pow_succ, Nat.mul_comm] at this
  exact this
theorem by_0 {v x : Int64} {z : Int32} (h : Bo v) (hx : x = v &&& 255) (hz : z = x.toInt32) : 0 ≤ z.toInt ∧ z.toInt < 209 := by
  have e1 : x.toBitVec.toNat = v.toBitVec.toNat % 256 := by
    rw [hx, Int64.toBitVec_and, BitVec.toNat_and, show (255 : Int64).toBitVec.toNat = 2 ^ 8 - 1 from rfl, Nat.and_two_pow_sub_one_eq_mod]
  have h0 := h 0
  rw [Nat.pow_zero, Nat.div_one] at h0
  have e2 : x.toInt = ((v.toBitVec.toNat % 256 : Nat) : Int) := by rw [l_nn' (by omega), e1]
  have := ivl_i (z := x) (a := 0) (b := 208) (by omega) (by decide) (by decide)
  rw [hz]; omega
theorem by_k {v x y : Int64} {z s : Int32} {j : Int} (h : Bo v) (hx : x = (v.toUInt64 >>> (s.toInt64.toUInt64 &&& Int64.toUInt64 63)).toInt64) (hy : y = x &&& 255) (hz : z = y.toInt32) (hs : s.toInt = 8 * j) (h0 : 0 ≤ j) (h1 : j ≤ 7) : 0 ≤ z.toInt ∧ z.toInt < 209 := by
  refine by_0 (v := x) ?_ hy hz
  have es : (s.toInt64.toUInt64 &&& Int64.toUInt64 63).toNat % 64 = 8 * j.toNat := by
    have n1 : s.toInt64.toUInt64.toNat = s.toInt64.toBitVec.toNat := rfl
    have n2 : s.toInt64.toInt = s.toInt := Int32.toInt_toInt64 s
    have n3 := l_nn (z := s.toInt64) (by omega)
    rw [UInt64.toNat_and, n1, show (Int64.toUInt64 63).toNat = 2 ^ 6 - 1 from by decide, Nat.and_two_pow_sub_one_eq_mod]
    omega
  intro k
  have e1 : x.toBitVec.toNat = v.toBitVec.toNat / 256 ^ j.toNat := by
    rw [hx]
    show (v.toUInt64 >>> (s.toInt64.toUInt64 &&& Int64.toUInt64 63)).toNat = _
    rw [UInt64.toNat_shiftRight, es, Nat.shiftRight_eq_div_pow, Nat.pow_mul]; rfl
  rw [e1, Nat.div_div_eq_div_mul, ← Nat.pow_add]
  exact h _
abbrev Bz (x : Int64) : Prop := x.toBitVec.toNat < 1099511627776
abbrev Bk (x : Int64) : Prop := Bz x ∧ Bo x
theorem hi32 {v x : Int64} {z : Int32} (hx : x = (v.toUInt64 >>> ((32 : Int32).toInt64.toUInt64 &&& Int64.toUInt64 63)).toInt64) (hz : z = x.toInt32) (hv : Bz v) : 0 ≤ z.toInt ∧ z.toInt < 256 := by
  have hv : v.toBitVec.toNat < 1099511627776 := hv
  have e1 : x.toBitVec.toNat = v.toBitVec.toNat / 4294967296 := by
    rw [hx]
    show (v.toUInt64 >>> ((32 : Int32).toInt64.toUInt64 &&& Int64.toUInt64 63)).toNat = _
    rw [UInt64.toNat_shiftRight, show ((32 : Int32).toInt64.toUInt64 &&& Int64.toUInt64 63).toNat % 64 = 32 from by decide, Nat.shiftRight_eq_div_pow]; rfl
  have e2 : x.toInt = ((v.toBitVec.toNat / 4294967296 : Nat) : Int) := by rw [l_nn' (by omega), e1]
  have := ivl_i (z := x) (a := 0) (b := 255) (by omega) (by decide) (by decide)
  rw [hz]; omega
def N24 (r : Int) (x : Int64) : Prop := Bz x → 24 ≤ r
def S5 (r : Int) (x : Int64) : Prop := Bz x → r ≤ 5
theorem S5_i {r q : Int} {x : Int64} (h : N24 q x) (e : r = 8 - q / 8) : S5 r x := fun b => by have := h b; omega
theorem S5_e {r : Int} {x : Int64} (h : S5 r x) (b : Bz x) : r ≤ 5 := h b

theorem on_c {x : Int32} (h : 0 ≤ x.toInt) : Int32.ofNat x.toNatClampNeg = x := by
  refine Int32.toInt_inj.mp ?_
  rw [Int32.toInt_ofNat_of_lt x.toNatClampNeg_lt, tn_n]
  omega
def seenF (p : Int32) : Nat → Int32
  | 0 => 0
  | k + 1 => seenF p k ||| ((1 : Int32) <<< (((p >>> ((3 * Int32.ofNat k + 1) &&& 31)) &&& 3) &&& 31))
def Sf (s p k : Int32) : Prop := s = seenF p k.toNatClampNeg
theorem Sf_0 (p : Int32) : Sf 0 p 0 := by
  unfold Sf
  rw [show (0 : Int32).toNatClampNeg = 0 from by decide]; rfl
theorem Sf_s {s p k a b c d e s2 k2 : Int32} (h : Sf s p k) (ea : a = 3 * k) (eb : b = a + 1) (ec : c = p >>> (b &&& 31)) (ed : d = c &&& 3) (ee : e = (1 : Int32) <<< (d &&& 31)) (es : s2 = s ||| e) (h0 : 0 ≤ k.toInt) (h1 : k2.toInt = k.toInt + 1) : Sf s2 p k2 := by
  have h : s = seenF p k.toNatClampNeg := h
  have e1 : k2.toNatClampNeg = k.toNatClampNeg + 1 := by rw [← Int.ofNat_inj, tn_n, Int.natCast_add, tn_n]; omega
  unfold Sf
  rw [e1, seenF, on_c h0, es, ee, ed, ec, eb, ea, ← h]
def Ec (r p n : Int32) : Prop := r.toInt = 0 ∨ seenF p n.toNatClampNeg = (1 : Int32) <<< (n &&& 31) - 1
theorem Ec_0 {r p n : Int32} (h : r.toInt = 0) : Ec r p n := Or.inl h
theorem Ec_p {r k p x : Int32} (h : Ec r k x) (e : x.toInt = p.toInt) : Ec r k p := by rw [← Int32.toInt_inj.mp e]; exact h
theorem Ec_i {r s p k n a b : Int32} (h : Sf s p k) (hk : k.toInt = n.toInt) (ea : a = (1 : Int32) <<< (n &&& 31)) (eb : b = a - 1) (es : s.toInt = b.toInt) : Ec r p n := by
  have h : s = seenF p k.toNatClampNeg := h
  have e1 := Int32.toInt_inj.mp es
  have e2 := Int32.toInt_inj.mp hk
  right
  rw [← ea, ← eb, ← e1, ← e2]
  exact h.symm
def ctF (n : Int32) : Nat → Nat
  | 0 => 0
  | j + 1 => ctF n j + (if seenF (Int32.ofNat j) n.toNatClampNeg = (1 : Int32) <<< (n &&& 31) - 1 then 1 else 0)
theorem ctF_2 : ctF 2 64 = 8 := by decide +kernel
theorem ctF_3 : ctF 3 512 = 48 := by decide +kernel
theorem ctF_m (n : Int32) {i j : Nat} (h : i ≤ j) : ctF n i ≤ ctF n j := by
  induction h with
  | refl => exact Nat.le_refl _
  | step _ ih => exact Nat.le_trans ih (Nat.le_add_right _ _)
theorem ctF_1 {p k : Int32} (h : seenF k p.toNatClampNeg = (1 : Int32) <<< (p &&& 31) - 1) (h0 : 0 ≤ k.toInt) : ctF p (k.toNatClampNeg + 1) = ctF p k.toNatClampNeg + 1 := by
  rw [ctF, on_c h0, if_pos h]
def Wy (w i : Int) (k p : Int32) : Prop := w ≤ 48 * i + ((ctF p k.toNatClampNeg : Nat) : Int) ∧ ctF p k.toNatClampNeg ≤ 48
theorem Wy_0 {w i : Int} {p : Int32} (h : w ≤ 48 * i) : Wy w i 0 p := by
  unfold Wy
  rw [show (0 : Int32).toNatClampNeg = 0 from by decide, ctF]
  omega
theorem Wy_e {w i : Int} {k p : Int32} (h : Wy w i k p) : w ≤ 48 * i + 48 := by
  have h1 := h.1
  have h2 := h.2
  omega
theorem Wy_t {p x6 x7 k : Int32} (e7 : x7.toInt = ((1 : Int32) <<< (x6 &&& 31)).toInt) (h2 : 1 < p.toInt) (h3 : p.toInt ≤ 3) (e6 : x6.toInt = 3 * p.toInt) (hl : k.toInt < x7.toInt) : ctF p (k.toNatClampNeg + 1) ≤ 48 := by
  have hc : p.toInt = 2 ∨ p.toInt = 3 := by omega
  have hn := tn_n k
  rcases hc with hc | hc
  · have ep : p = 2 := Int32.toInt_inj.mp hc
    have e : x6 = 6 := Int32.toInt_inj.mp (by rw [e6, hc]; rfl)
    rw [e, show ((1 : Int32) <<< ((6 : Int32) &&& 31)).toInt = 64 from by decide] at e7
    have := ctF_m 2 (i := k.toNatClampNeg + 1) (j := 64) (by omega)
    rw [ctF_2] at this
    rw [ep]; omega
  · have ep : p = 3 := Int32.toInt_inj.mp hc
    have e : x6 = 9 := Int32.toInt_inj.mp (by rw [e6, hc]; rfl)
    rw [e, show ((1 : Int32) <<< ((9 : Int32) &&& 31)).toInt = 512 from by decide] at e7
    have := ctF_m 3 (i := k.toNatClampNeg + 1) (j := 512) (by omega)
    rw [ctF_3] at this
    rw [ep]; omega
theorem Wy_n {w i : Int} {k k2 p : Int32} (h : Wy w i k p) (ht : ctF p (k.toNatClampNeg + 1) ≤ 48) (h0 : 0 ≤ k.toInt) (hk : k2.toInt = k.toInt + 1) : Wy w i k2 p := by
  have e1 : k2.toNatClampNeg = k.toNatClampNeg + 1 := by rw [← Int.ofNat_inj, tn_n, Int.natCast_add, tn_n]; omega
  have hm : ctF p k.toNatClampNeg ≤ ctF p (k.toNatClampNeg + 1) := ctF_m p (Nat.le_succ _)
  have h1 := h.1
  unfold Wy
  rw [e1]
  omega
theorem Wy_c {w w2 i : Int} {r k k2 p : Int32} (h : Wy w i k p) (ht : ctF p (k.toNatClampNeg + 1) ≤ 48) (hr : Ec r k p) (hn : ¬ r.toInt = 0) (h0 : 0 ≤ k.toInt) (hk : k2.toInt = k.toInt + 1) (hw : w2 = w + 1) : Wy w2 i k2 p := by
  have e1 : k2.toNatClampNeg = k.toNatClampNeg + 1 := by rw [← Int.ofNat_inj, tn_n, Int.natCast_add, tn_n]; omega
  have hc := ctF_1 (hr.resolve_left hn) h0
  have h1 := h.1
  unfold Wy
  rw [e1]
  omega
theorem Wy_l {w i : Int} {r k p : Int32} (h : Wy w i k p) (ht : ctF p (k.toNatClampNeg + 1) ≤ 48) (hr : Ec r k p) (h0 : 0 ≤ k.toInt) : r.toInt = 0 ∨ w ≤ 48 * i + 47 := by
  by_cases hn : r.toInt = 0
  · exact Or.inl hn
  · have hc := ctF_1 (hr.resolve_left hn) h0
    have h1 := h.1
    right; omega

def sh (b : Int) (f : Nat → Int32) : Nat → Int32 := fun g => f (b + (g : Int)).toNat
def cu (N : Int) (f : Nat → Int32) : Nat → Int32 := fun n => if (n : Int) < N then f n else 0
theorem sh_e {b : Int} {f : Nat → Int32} {g j : Nat} (h : (j : Int) = b + (g : Int)) : sh b f g = f j := by
  unfold sh
  rw [show (b + (g : Int)).toNat = j by omega]
theorem cu_e {N : Int} {f : Nat → Int32} {n : Nat} (h : (n : Int) < N) : cu N f n = f n := if_pos h
theorem cu_u {N : Int} {f : Nat → Int32} {i : Nat} {v : Int32} (h : (i : Int) < N) : cu N (upd f i v) = upd (cu N f) i v := by
  funext n
  by_cases e : n = i
  · rw [e, cu_e h, up_s, up_s]
  · rw [up_o e]
    unfold cu
    rw [up_o e]
abbrev Aq (L b G : Int) (on tw nd us ap : Nat → Int32) : Prop := (∀ n : Nat, b ≤ (n : Int) → (n : Int) < b + L → ¬ (ap n).toInt = 0 → (us n).toInt = 1 ∧ ∃ g j : Nat, (g : Int) < G ∧ (j : Int) = b + (g : Int) ∧ ¬ (nd j).toInt = 0 ∧ ((on g).toInt = 2 * (n : Int) ∨ (tw g).toInt = 2 * (n : Int))) ∧ (∀ g n j : Nat, (g : Int) < L → (j : Int) = b + (g : Int) → ¬ (nd j).toInt = 0 → ((n : Int) = (on g).toInt / 2 ∨ (n : Int) = (tw g).toInt / 2) → (n : Int) < b → (ap n).toInt = 0)
def Lw (h r b G : Int) (ro : Nat) (pl on tw nd : Nat → Int32) : Prop := (h = 1 ∧ r = 0 ∧ (pl 0).toInt = 2 * (b + (ro : Int))) ∨ Lv h r b G ro pl on tw nd
theorem Lw_b {h r b G : Int} {ro : Nat} {pl on tw nd : Nat → Int32} (q : Lw h r b G ro pl on tw nd) (hG : 1 ≤ G) : 1 ≤ h + r ∧ h + r ≤ 1 + G := by
  rcases q with ⟨q1, q2, -⟩ | q
  · omega
  · have := Lv_b q (by omega)
    omega
theorem Lw_0 {h r b G : Int} {ro i : Nat} {pl on tw nd : Nat → Int32} {x : Int32} (hh : h = 1) (hr : r = 0) (hi : i = 0) (hx : x.toInt = 2 * (b + (ro : Int))) : Lw h r b G ro (upd pl i x) on tw nd := by
  subst hi
  exact Or.inl ⟨hh, hr, by rw [up_s]; exact hx⟩
theorem Lv_lt {h r b G : Int} {ro i : Nat} {pl on tw nd : Nat → Int32} (q : Lv h r b G ro pl on tw nd) (hx : Gx b G on tw) (hi : (i : Int) < h) : (pl i).toInt / 2 < b + (ro : Int) := by
  obtain ⟨V, v1, v2, v3, v4, v5, v6⟩ := q
  obtain ⟨g0, w1, w2⟩ := v6 i hi
  obtain ⟨z1, z2, z3⟩ := v2 g0 w1
  obtain ⟨y1, y2, y3⟩ := hx g0 z1
  omega
theorem Lw_g {h h2 r b G : Int} {ro i j k : Nat} {pl on tw nd : Nat → Int32} {x y l : Int32} (q : Lw h r b G ro pl on tw nd) (hx : Gx b G on tw) (h0 : 1 ≤ h) (hh : h2 = h + 1) (hi : (i : Int) = h - 1) (hj : (j : Int) = h) (hl : l.toInt = (pl i).toInt) (hn : l.toInt / 2 = b + (ro : Int)) (hG : (ro : Int) < G) (hb : 0 ≤ b) (hnd : ¬ (nd k).toInt = 0) (hk : (k : Int) = b + (ro : Int)) (hxv : x.toInt = (tw ro).toInt) (hyv : y.toInt = (on ro).toInt) : Lw h2 r b G ro (upd (upd pl i x) j y) on tw nd := by
  rcases q with ⟨q1, q2, q3⟩ | q
  · exact Or.inr (Lv_0 (by omega) q2 hG hk hb hnd hxv hyv (by omega) (by omega))
  · have := Lv_lt q hx (i := i) (by omega)
    omega
theorem Lw_p {h h2 r b G K : Int} {ro i j m : Nat} {ou pl on tw nd us ap : Nat → Int32} {x y l : Int32} (q : Lw h r b G ro pl on tw nd) (hx : Gx b G on tw) (hk : Lk (-1) b G K ou on tw nd us) (ha : Aq G b G on tw nd us ap) (h0 : 1 ≤ h) (hh : h2 = h + 1) (hi : (i : Int) = h - 1) (hj : (j : Int) = h) (hl : l.toInt = (pl i).toInt) (hn : ¬ l.toInt / 2 = b + (ro : Int)) (hm : (m : Int) = l.toInt / 2) (hap : ¬ (ap m).toInt = 0) (hb : 0 ≤ b) (hbG : b + G ≤ 210) (hxv : ∀ g : Nat, (m : Int) = b + (g : Int) → x.toInt = (tw g).toInt) (hyv : ∀ g : Nat, (m : Int) = b + (g : Int) → y.toInt = (on g).toInt) : Lw h2 r b G ro (upd (upd pl i x) j y) on tw nd := by
  rcases q with ⟨q1, q2, q3⟩ | q
  · exfalso
    have e : i = 0 := by omega
    rw [e] at hl
    omega
  · have q0 := q
    obtain ⟨V, v1, v2, v3, v4, v5, v6⟩ := q0
    obtain ⟨g0, w1, w2⟩ := v6 i (by omega)
    obtain ⟨z1, z2, z3⟩ := v2 g0 w1
    obtain ⟨y1, y2, y3⟩ := hx g0 z1
    have hbm : b ≤ (m : Int) := by
      rcases Int.lt_or_le (m : Int) b with e | e
      · exact absurd (ha.2 g0 m (b + (g0 : Int)).toNat z1 (by omega) z2 (by omega) e) hap
      · exact e
    obtain ⟨a2, g, j', a3, a4, a5, a6⟩ := ha.1 m hbm (by omega) hap
    have heven : l.toInt % 2 = 0 := by
      rcases (show l.toInt % 2 = 0 ∨ l.toInt % 2 = 1 by omega) with e | hodd
      · exact e
      · exfalso
        obtain ⟨x1, x2, x3⟩ := hx g a3
        have ne : ¬ g = g0 := fun e3 => by
          subst e3
          omega
        have b1 := hk.1 m (by omega)
        have b2 := sm_2 (P := fun g => (-1 : Int) < (g : Int) ∧ ¬ (nd (b + (g : Int)).toNat).toInt = 0) (w := e1 on tw m) (x := g) (y := g0) (m := G.toNat) (by omega) (by omega) ne ⟨by omega, by rw [show (b + (g : Int)).toNat = j' by omega]; exact a5⟩ ⟨by omega, z2⟩
        have c1 : 1 ≤ e1 on tw m g := by
          unfold e1
          rcases a6 with a6 | a6
          · rw [if_pos (by omega)]; omega
          · rw [if_pos (show (tw g).toInt / 2 = (m : Int) by omega)]; omega
        have c2 : 1 ≤ e1 on tw m g0 := by
          unfold e1
          rcases w2 with w2 | w2
          · rw [if_pos (by omega)]; omega
          · rw [if_pos (show (tw g0).toInt / 2 = (m : Int) by omega)]; omega
        omega
    obtain ⟨mm, hmm⟩ : ∃ mm : Nat, (m : Int) = b + (mm : Int) := ⟨((m : Int) - b).toNat, by omega⟩
    exact Or.inr (Lv_put (m := mm) (l := l) q hx hk hh h0 hi hj hl (by omega) (by rw [show (b + (mm : Int)).toNat = m by omega]; exact a2) hb hbG (hxv mm hmm) (hyv mm hmm))
theorem Lw_l {h h2 r r2 b G : Int} {ro i : Nat} {pl on tw nd : Nat → Int32} {l : Int32} (q : Lw h r b G ro pl on tw nd) (h0 : 1 ≤ h) (hh : h2 = h - 1) (hr : r2 = r + 1) (hi : (i : Int) = h - 1) (hl : l.toInt = (pl i).toInt) (hn : ¬ l.toInt / 2 = b + (ro : Int)) : Lw h2 r2 b G ro pl on tw nd := by
  rcases q with ⟨q1, q2, q3⟩ | q
  · exfalso
    have e : i = 0 := by omega
    rw [e] at hl
    omega
  · exact Or.inr (Lv_pop q hh hr h0)
def Mk (l b N : Int) (us ap ap2 : Nat → Int32) : Prop := ∃ v : Int32, ap2 = upd ap (l / 2).toNat v ∧ (v.toInt = 0 ∨ (l % 2 = 0 ∧ b ≤ l / 2 ∧ l / 2 < N ∧ (us (l / 2).toNat).toInt = 1))
theorem Mk_0 {l b N : Int} {us ap : Nat → Int32} {i : Nat} {v : Int32} (hi : (i : Int) = l / 2) (hv : v.toInt = 0) : Mk l b N us ap (upd ap i v) := ⟨v, by rw [show (l / 2).toNat = i by omega], Or.inl hv⟩
theorem Mk_1 {l b N : Int} {us ap : Nat → Int32} {i : Nat} {v : Int32} (hi : (i : Int) = l / 2) (h1 : l % 2 = 0) (h2 : b ≤ l / 2) (h3 : l / 2 < N) (hu : (us i).toInt = 1) : Mk l b N us ap (upd ap i v) := ⟨v, by rw [show (l / 2).toNat = i by omega], Or.inr ⟨h1, h2, h3, by rw [show (l / 2).toNat = i by omega]; exact hu⟩⟩
theorem Aq_0 {L b G : Int} {on tw nd us ap : Nat → Int32} (h : L ≤ 0) : Aq L b G on tw nd us ap := ⟨fun n h1 h2 => absurd h2 (by omega), fun g n j h1 => absurd h1 (by omega)⟩
theorem Aq_e {L L2 b G : Int} {on tw nd us ap : Nat → Int32} (h : Aq L b G on tw nd us ap) (e : L2 = L) : Aq L2 b G on tw nd us ap := by rw [e]; exact h
theorem Aq_n {L L2 b G : Int} {on tw nd us ap : Nat → Int32} {j : Nat} {v : Int32} (h : Aq L b G on tw nd us ap) (hj : (j : Int) = b + L) (hL : L2 = L + 1) (h0 : 0 ≤ L) (hv : v.toInt = 0) (hz : (nd j).toInt = 0) : Aq L2 b G on tw nd us (upd ap j v) := by
  refine ⟨fun n h1 h2 hn => ?_, fun g n jj h1 h2 h3 h4 h5 => ?_⟩
  · by_cases e : n = j
    · rw [e, up_s] at hn; exact absurd hv hn
    · rw [up_o e] at hn; exact h.1 n h1 (by omega) hn
  · rw [up_o (show ¬ n = j by omega)]
    by_cases eg : (g : Int) = L
    · exact absurd (show (nd jj).toInt = 0 by rw [show jj = j by omega]; exact hz) h3
    · exact h.2 g n jj (by omega) h2 h3 h4 h5
theorem Aq_s {L L2 b G N : Int} {on tw nd us ap ap2 ap3 : Nat → Int32} {g j : Nat} {v p q : Int32} (h : Aq L b G on tw nd (cu N us) ap) (hx : Gx b G on tw) (hj : (j : Int) = b + L) (hg : (g : Int) = L) (hG : L < G) (hL : L2 = L + 1) (hv : v.toInt = 0) (hn : ¬ (nd j).toInt = 0) (hp : p.toInt = (on g).toInt) (hq : q.toInt = (tw g).toInt) (m1 : Mk p.toInt b N us (upd ap j v) ap2) (m2 : Mk q.toInt b N us ap2 ap3) : Aq L2 b G on tw nd (cu N us) ap3 := by
  obtain ⟨v1, e1, w1⟩ := m1
  obtain ⟨v2, e2, w2⟩ := m2
  obtain ⟨y1, y2, y3⟩ := hx g (by omega)
  have ea : ((p.toInt / 2).toNat : Int) = p.toInt / 2 := by omega
  have ec : ((q.toInt / 2).toNat : Int) = q.toInt / 2 := by omega
  subst e2 e1
  refine ⟨fun n h1 h2 hne => ?_, fun g' n jj h1 h2 h3 h4 h5 => ?_⟩
  · by_cases e : n = (q.toInt / 2).toNat
    · rw [e, up_s] at hne
      rcases w2 with w | ⟨k1, k2, k3, k4⟩
      · exact absurd w hne
      · refine ⟨?_, g, j, by omega, by omega, hn, Or.inr (by omega)⟩
        rw [e, cu_e (by omega)]; exact k4
    · rw [up_o e] at hne
      by_cases e' : n = (p.toInt / 2).toNat
      · rw [e', up_s] at hne
        rcases w1 with w | ⟨k1, k2, k3, k4⟩
        · exact absurd w hne
        · refine ⟨?_, g, j, by omega, by omega, hn, Or.inl (by omega)⟩
          rw [e', cu_e (by omega)]; exact k4
      · rw [up_o e'] at hne
        by_cases ej : n = j
        · rw [ej, up_s] at hne; exact absurd hv hne
        · rw [up_o ej] at hne; exact h.1 n h1 (by omega) hne
  · by_cases e : n = (q.toInt / 2).toNat
    · rw [e, up_s]
      rcases w2 with w | ⟨k1, k2, k3, k4⟩
      · exact w
      · exfalso; omega
    · rw [up_o e]
      by_cases e' : n = (p.toInt / 2).toNat
      · rw [e', up_s]
        rcases w1 with w | ⟨k1, k2, k3, k4⟩
        · exact w
        · exfalso; omega
      · rw [up_o e', up_o (show ¬ n = j by omega)]
        by_cases eg : (g' : Int) = L
        · exfalso
          rw [show g' = g by omega] at h4
          omega
        · exact h.2 g' n jj (by omega) h2 h3 h4 h5
def Us (l : Int) (nd nd2 us us2 : Nat → Int32) : Prop := ∃ p x : Int32, nd2 = upd nd (l / 2).toNat p ∧ us2 = upd us (l / 2).toNat x ∧ ¬ p.toInt = 0 ∧ ((us (l / 2).toNat).toInt < 2147483647 → x.toInt = (us (l / 2).toNat).toInt + 1)
theorem Us_i {l : Int} {nd us : Nat → Int32} {i j : Nat} {p x y : Int32} (hi : (i : Int) = l / 2) (hj : (j : Int) = l / 2) (hp : ¬ p.toInt = 0) (ey : y = us j) (ex : x = y + 1) : Us l nd (upd nd i p) us (upd us j x) := by
  have e1 : (l / 2).toNat = i := by omega
  have e2 : (l / 2).toNat = j := by omega
  refine ⟨p, x, by rw [e1], by rw [e2], hp, fun h => ?_⟩
  rw [e2] at h ⊢
  rw [ex, ey]
  have a := Int32.le_toInt (us j)
  have b : (1 : Int32).toInt = 1 := rfl
  exact (i_add (y := 1) (by omega) (by omega)).trans (by omega)
theorem Fc_c {K N : Int} {us : Nat → Int32} (h : Fc K us) (hN : N ≤ K) : Fc 210 (cu N us) := fun t _ => by
  by_cases q : (t : Int) < N
  · rw [cu_e q]; exact h t (by omega)
  · unfold cu
    rw [if_neg q]; rfl
theorem Uo_u {K K2 N : Int} {ou nd nd2 us us2 : Nat → Int32} {k : Nat} {l : Int32} (h : Uo K ou (cu N us)) (m : Us l.toInt nd nd2 us us2) (hK : K2 = K + 1) (h0 : 0 ≤ K) (hk : (k : Int) = K) (hl : l.toInt = (ou k).toInt) (hN : l.toInt / 2 < N) (hN2 : N ≤ 210) (hp : 0 ≤ l.toInt) (hb : K ≤ 6) : Uo K2 ou (cu N us2) := by
  obtain ⟨p, x, e1, e2, hp', hx⟩ := m
  have ei : ((l.toInt / 2).toNat : Int) = l.toInt / 2 := by omega
  have hb' := Uo_b h (l.toInt / 2).toNat (by omega) h0
  rw [cu_e (by omega)] at hb'
  rw [e2, cu_u (by omega)]
  exact Uo_s (k := k) h hK h0 hk (by rw [← hl]; omega) (by rw [cu_e (by omega)]; exact hx (by omega))
theorem Nk_u {K K2 N : Int} {ou nd nd2 us us2 : Nat → Int32} {k : Nat} {l : Int32} (h : Nk K ou (cu N nd)) (m : Us l.toInt nd nd2 us us2) (hK : K2 = K + 1) (hk : (k : Int) = K) (hl : l.toInt = (ou k).toInt) (hN : l.toInt / 2 < N) (hp : 0 ≤ l.toInt) : Nk K2 ou (cu N nd2) := by
  obtain ⟨p, x, e1, e2, hp', hx⟩ := m
  rw [e1, cu_u (by omega)]
  exact Nk_s (k := k) h hK hk (by rw [← hl]; omega) hp'
theorem Lk_e {lo lo2 b G K : Int} {ou on tw nd us : Nat → Int32} (h : Lk lo b G K ou on tw nd us) (e : lo2 = lo) : Lk lo2 b G K ou on tw nd us := by rw [e]; exact h
theorem Lk_u {lo lo2 b G K N : Int} {ou on tw nd nd2 nd3 us us2 us3 : Nat → Int32} {g j : Nat} {p q : Int32} (h : Lk lo b G K ou on tw (cu N nd) (cu N us)) (hG : Gx b G on tw) (h0 : 0 ≤ lo) (hlG : lo < G) (hb : 0 ≤ b) (hK : 0 ≤ K) (hK2 : K ≤ 6) (hN : N = b + G) (hN2 : N ≤ 210) (hg : (g : Int) = lo) (hj : (j : Int) = b + lo) (hn : ¬ (cu N nd j).toInt = 0) (hp : p.toInt = (on g).toInt) (hq : q.toInt = (tw g).toInt) (m1 : Us p.toInt nd nd2 us us2) (m2 : Us q.toInt nd2 nd3 us2 us3) (hl : lo2 = lo - 1) : Lk lo2 b G K ou on tw (cu N nd3) (cu N us3) := by
  obtain ⟨p1, x1, a1, a2, a3, a4⟩ := m1
  obtain ⟨p2, x2, b1, b2, b3, b4⟩ := m2
  obtain ⟨y1, y2, y3⟩ := hG g (by omega)
  have ea : ((p.toInt / 2).toNat : Int) = p.toInt / 2 := by omega
  have ec : ((q.toInt / 2).toNat : Int) = q.toInt / 2 := by omega
  have c1 := Lk_b h (p.toInt / 2).toNat (by omega) hK (by omega) hlG
  have c2 := Lk_b h (q.toInt / 2).toNat (by omega) hK (by omega) hlG
  rw [cu_e (by omega)] at c1
  rw [cu_e (by omega)] at c2
  have hne : ¬ (q.toInt / 2).toNat = (p.toInt / 2).toNat := by omega
  rw [a2, up_o hne] at b4
  rw [b1, b2, a1, a2, cu_u (by omega), cu_u (by omega), cu_u (by omega), cu_u (by omega)]
  exact Lk_s (g := g) (a := (p.toInt / 2).toNat) (c := (q.toInt / 2).toNat) (j := j) h hG h0 hlG hb hg (by rw [ea, hp]) (by rw [ec, hq]) hj hn a3 b3 (by rw [cu_e (by omega)]; exact a4 (by omega)) (by rw [cu_e (by omega)]; exact b4 (by omega)) hl

theorem i_mn (x y : Int32) : (op_mn x y).toInt = min x.toInt y.toInt := by
  unfold op_mn
  by_cases h : y < x
  · rw [if_pos h]
    have := Int32.lt_iff_toInt_lt.mp h
    omega
  · rw [if_neg h]
    have : ¬ y.toInt < x.toInt := fun q => h (Int32.lt_iff_toInt_lt.mpr q)
    omega
theorem i_mx (x y : Int32) : (op_mx x y).toInt = max x.toInt y.toInt := by
  unfold op_mx
  by_cases h : x < y
  · rw [if_pos h]
    have := Int32.lt_iff_toInt_lt.mp h
    omega
  · rw [if_neg h]
    have : ¬ x.toInt < y.toInt := fun q => h (Int32.lt_iff_toInt_lt.mpr q)
    omega
theorem sh_u {b : Int} {f : Nat → Int32} {i j : Nat} {v : Int32} (h : (j : Int) = b + (i : Int)) (hb : 0 ≤ b) : sh b (upd f j v) = upd (sh b f) i v := by
  funext g
  by_cases e : g = i
  · rw [e, up_s, sh_e h, up_s]
  · rw [up_o e]
    unfold sh
    rw [up_o (by omega)]
def Chn (b N : Int) (fi ch : Nat → Int32) : Prop := (∀ l : Nat, l < 418 → (fi l).toInt = 0 ∨ (b ≤ (fi l).toInt ∧ (fi l).toInt < N)) ∧ (∀ g : Nat, b ≤ (g : Int) → (g : Int) < N → (ch g).toInt = 0 ∨ (b ≤ (ch g).toInt ∧ (ch g).toInt < N))
def GI (b n : Int) (f g fi ch : Nat → Int32) : Prop := Gx b n (sh b f) (sh b g) ∧ Chn b (b + n) fi ch
theorem GI_0 {b : Int} {f g fi ch : Nat → Int32} (h : Fc 418 fi) : GI b 0 f g fi ch := ⟨Gx_z (Int.le_refl 0), fun l hl => Or.inl (h l (by omega)), fun g h1 h2 => absurd h2 (by omega)⟩
theorem Fc_e {K K2 : Int} {f : Nat → Int32} (h : Fc K f) (e : K2 = K) : Fc K2 f := by rw [e]; exact h
def Gt (r b N : Int) (fi ch : Nat → Int32) : Prop := Chn b N fi ch → r = 0 ∨ (b ≤ r ∧ r < N)
theorem Gt_0 {b N : Int} {fi ch : Nat → Int32} {x : Int32} {i : Nat} (hx : x.toInt = (fi i).toInt) (hi : (i : Int) < 418) : Gt x.toInt b N fi ch := fun h => by rw [hx]; exact h.1 i (by omega)
theorem Gt_s {b N : Int} {fi ch : Nat → Int32} {v x : Int32} {i : Nat} (h : Gt v.toInt b N fi ch) (hv : ¬ v.toInt = 0) (hx : x.toInt = (ch i).toInt) (hi : (i : Int) = v.toInt) : Gt x.toInt b N fi ch := fun q => by
  have := h q
  rw [hx]
  exact q.2 i (by omega) (by omega)
def Ng (l g r b n n2 : Int) (f h fi ch f2 h2 fi2 ch2 : Nat → Int32) : Prop := GI b n f h fi ch → 2 ≤ l → l / 2 < g / 2 → g < 2 * (b + n) → GI b n2 f2 h2 fi2 ch2 ∧ r < b + n2 ∧ n ≤ n2
theorem Ng_f {l g r b n : Int} {f h fi ch : Nat → Int32} (hr : r < b + n) : Ng l g r b n n f h fi ch f h fi ch := fun a _ _ _ => ⟨a, hr, Int.le_refl _⟩
theorem Ng_s {r b n n2 : Int} {f h fi ch : Nat → Int32} {p q z x : Int32} {i j k m : Nat} (hj : (j : Int) = b + n) (hk : k = j) (hm : m = j) (hr : r = b + n) (hz : z.toInt = b + n) (hn : n2 = n + 1) (h0 : 0 ≤ n) (hb : 0 ≤ b) (hi : (i : Int) < 418) (hx : x.toInt = (fi i).toInt) : Ng p.toInt q.toInt r b n n2 f h fi ch (upd f j p) (upd h k q) (upd fi i z) (upd ch m x) := fun a h1 h2 h3 => by
  subst hk hm
  obtain ⟨a1, a2, a3⟩ := a
  refine ⟨⟨?_, fun l hl => ?_, fun g g1 g2 => ?_⟩, by omega, by omega⟩
  · rw [sh_u (i := n.toNat) (by omega) hb, sh_u (i := n.toNat) (by omega) hb]
    exact Gx_s a1 hn (by omega) rfl h1 h2 h3
  · by_cases e : l = i
    · rw [e, up_s]; right; omega
    · rw [up_o e]
      have := a2 l hl
      omega
  · by_cases e : g = m
    · rw [e, up_s]
      have := a2 i (by omega)
      omega
    · rw [up_o e]
      have := a3 g g1 (by omega)
      omega
def Anc (x y r b n n2 : Int) (f h fi ch f2 h2 fi2 ch2 : Nat → Int32) : Prop := GI b n f h fi ch → x < 2 * (b + n) → y < 2 * (b + n) → GI b n2 f2 h2 fi2 ch2 ∧ r < 2 * (b + n2) ∧ n ≤ n2
theorem Anc_m {x y r b n : Int} {f h fi ch : Nat → Int32} (hr : r ≤ x ∨ r ≤ y) : Anc x y r b n n f h fi ch f h fi ch := fun a h1 h2 => ⟨a, by omega, Int.le_refl _⟩
theorem Anc_t {x y r q b n : Int} {f h fi ch : Nat → Int32} (hg : Gt q b (b + n) fi ch) (hr : r = 2 * q) (hb : 0 < b) (hn : 0 ≤ n) : Anc x y r b n n f h fi ch f h fi ch := fun a h1 h2 => ⟨a, by have := hg a.2; omega, Int.le_refl _⟩
theorem Anc_n {x y r l g q b n n2 : Int} {f h fi ch f2 h2 fi2 ch2 : Nat → Int32} (hn : Ng l g q b n n2 f h fi ch f2 h2 fi2 ch2) (hr : r = 2 * q) (hl : 2 ≤ l) (hlg : l / 2 < g / 2) (hg : g ≤ x ∨ g ≤ y) : Anc x y r b n n2 f h fi ch f2 h2 fi2 ch2 := fun a h1 h2 => by
  obtain ⟨c1, c2, c3⟩ := hn a hl hlg (by omega)
  exact ⟨c1, by omega, c3⟩
theorem Anc_o {x y x2 y2 r q b n n2 : Int} {f h fi ch f2 h2 fi2 ch2 : Nat → Int32} (hn : Anc x2 y2 q b n n2 f h fi ch f2 h2 fi2 ch2) (hx : x2 = x + 1 - 2 * (x % 2)) (hy : y2 = y + 1 - 2 * (y % 2)) (hr : r = q + 1 - 2 * (q % 2)) : Anc x y r b n n2 f h fi ch f2 h2 fi2 ch2 := fun a h1 h2 => by
  obtain ⟨c1, c2, c3⟩ := hn a (by omega) (by omega)
  exact ⟨c1, by omega, c3⟩
def Fo (r l : Int) (re : Nat → Int32) : Prop := r / 2 = (re (l / 2).toNat).toInt / 2
theorem Fo_i {r l : Int} {re : Nat → Int32} {x : Int32} {i : Nat} (hx : x.toInt = (re i).toInt) (hi : (i : Int) = l / 2) (hr : r / 2 = x.toInt / 2) : Fo r l re := by
  unfold Fo
  rw [show (l / 2).toNat = i by omega, hr, hx]
def Rr (g b : Int) (nd ap re : Nat → Int32) (k : Int) (row : Nat → Int32) : Prop := ∀ N : Int, Rq g b N nd ap re → No k N row
theorem Rr_0 {g b k : Int} {nd ap re row : Nat → Int32} (h : k ≤ 0) : Rr g b nd ap re k row := fun N _ => No_z h
theorem Rr_s {g h r b G K k k2 : Int} {ro i m j : Nat} {ou pl on tw nd us ap re row : Nat → Int32} {l z : Int32} (hR : Rr g b nd ap re k row) (q : Lw h r b G ro pl on tw nd) (hx : Gx b G on tw) (hk : Lk (-1) b G K ou on tw nd us) (hg : g = b + (ro : Int)) (h0 : 1 ≤ h) (hi : (i : Int) = h - 1) (hl : l.toInt = (pl i).toInt) (hn : ¬ l.toInt / 2 = b + (ro : Int)) (hm : (m : Int) = l.toInt / 2) (hap : (ap m).toInt = 0) (hb : 0 ≤ b) (hF : Fo z.toInt l.toInt re) (hj : (j : Int) = k) (hk2 : k2 = k + 1) : Rr g b nd ap re k2 (upd row j z) := fun N hN => by
  rcases q with ⟨q1, q2, q3⟩ | q
  · exfalso
    have e : i = 0 := by omega
    rw [e] at hl
    omega
  · obtain ⟨V, v1, v2, v3, v4, v5, v6⟩ := q
    obtain ⟨g0, w1, w2⟩ := v6 i (by omega)
    obtain ⟨z1, z2, z3⟩ := v2 g0 w1
    obtain ⟨y1, y2, y3⟩ := hx g0 z1
    have hnd : ¬ (nd m).toInt = 0 := hk.2.1 g0 (b + (g0 : Int)).toNat m (by omega) z1 (by omega) z2 (by omega)
    have h1 := hN m (by omega) (Or.inr ⟨hnd, hap⟩)
    have hF : z.toInt / 2 = (re (l.toInt / 2).toNat).toInt / 2 := hF
    rw [show (l.toInt / 2).toNat = m by omega] at hF
    exact No_s (hR N hN) hk2 hj (by omega)
def Tlr (k r k2 : Int) (row row2 : Nat → Int32) : Prop := ∀ N : Int, No k N row → r < 2 * N ∧ No k2 N row2
def Tmr (k r : Int) (row row2 : Nat → Int32) : Prop := ∀ N : Int, No k N row → r < 2 * N ∧ No k N row2
theorem Tmr_0 {k : Int} {row row2 : Nat → Int32} {x : Int32} {i : Nat} (e : row2 = row) (hx : x.toInt = (row2 i).toInt) (hi : (i : Int) < k) : Tmr k x.toInt row row2 := fun N h => ⟨by rw [hx, e]; exact h i hi, by rw [e]; exact h⟩
theorem Tmr_s {k r : Int} {row row2 : Nat → Int32} {x : Int32} {i j : Nat} (h : Tmr k r row row2) (hx : x.toInt = (row2 j).toInt) (hj : (j : Int) < k) : Tmr k r row (upd row2 i x) := fun N q => ⟨(h N q).1, No_u (h N q).2 (by rw [hx]; exact (h N q).2 j hj)⟩
theorem Tlr_i {k r k2 : Int} {row row2 : Nat → Int32} (h : Tmr k r row row2) (hk : k2 ≤ k) : Tlr k r k2 row row2 := fun N q => ⟨(h N q).1, No_w (h N q).2 hk (Int.le_refl _)⟩
theorem GI_b {b b2 n : Int} {f g fi ch : Nat → Int32} (h : GI b n f g fi ch) (e : b2 = b) : GI b2 n f g fi ch := by rw [e]; exact h
theorem Jr_s {x y r b n n2 k k1 k2 : Int} {f h fi ch f2 h2 fi2 ch2 row row1 row2 : Nat → Int32} (hA : Anc x y r b n n2 f h fi ch f2 h2 fi2 ch2) (hG : GI b n f h fi ch) (hR : No k (b + n) row) (t1 : Tlr k x k1 row row1) (t2 : Tlr k1 y k2 row1 row2) : GI b n2 f2 h2 fi2 ch2 ∧ r < 2 * (b + n2) ∧ n ≤ n2 ∧ No k2 (b + n2) row2 := by
  obtain ⟨a1, a2⟩ := t1 _ hR
  obtain ⟨c1, c2⟩ := t2 _ a2
  obtain ⟨d1, d2, d3⟩ := hA hG a1 c1
  exact ⟨d1, d2, d3, No_w c2 (Int.le_refl _) (by omega)⟩
theorem GI_e {b b2 n n2 : Int} {f g fi ch : Nat → Int32} (h : GI b n f g fi ch) (e : b2 = b) (e2 : n2 = n) : GI b2 n2 f g fi ch := by rw [e, e2]; exact h
theorem Fn_c {b G K N L : Int} {ou on tw nd us ap re : Nat → Int32} (hk : Lk (-1) b G K ou on tw nd us) (ha : Aq G b G on tw nd us ap) (hr : Rq L b N nd ap re) (hL : b + G ≤ L) (ho : No K (b + G) ou) (hp : ∀ k, 0 ≤ (ou k).toInt) (hb : 0 ≤ b) (hbG : b + G ≤ 210) : Fn K N ou re := fun k hk' => by
  have h1 := ho k hk'
  have h2 := hp k
  have eq : (((ou k).toInt / 2).toNat : Int) = (ou k).toInt / 2 := by omega
  have hnd := hk.2.2 k ((ou k).toInt / 2).toNat hk' eq
  refine hr _ (by omega) ?_
  by_cases e : (((ou k).toInt / 2).toNat : Int) < b
  · exact Or.inl e
  · refine Or.inr ⟨hnd, ?_⟩
    rcases Int.decEq (ap ((ou k).toInt / 2).toNat).toInt 0 with e2 | e2
    · exfalso
      obtain ⟨a2, g, j, a3, a4, a5, a6⟩ := ha.1 _ (by omega) (by omega) e2
      have b1 := hk.1 ((ou k).toInt / 2).toNat (by omega)
      have b2 := sm_at (P := fun _ => True) (w := eo ou ((ou k).toInt / 2).toNat) (x := k) K.toNat (by omega) trivial
      have b3 := sm_at (P := fun g => (-1 : Int) < (g : Int) ∧ ¬ (nd (b + (g : Int)).toNat).toInt = 0) (w := e1 on tw ((ou k).toInt / 2).toNat) (x := g) G.toNat (by omega) ⟨by omega, by rw [show (b + (g : Int)).toNat = j by omega]; exact a5⟩
      have c1 : 1 ≤ e1 on tw ((ou k).toInt / 2).toNat g := by
        unfold e1
        rcases a6 with a6 | a6
        · rw [if_pos (by omega)]; omega
        · rw [if_pos (show (tw g).toInt / 2 = ((((ou k).toInt / 2).toNat : Nat) : Int) by omega)]; omega
      have c2 : eo ou ((ou k).toInt / 2).toNat k = 1 := by unfold eo; rw [if_pos eq.symm]
      omega
    · exact e2
def Trs (v K : Int) (ou re rs : Nat → Int32) : Prop := ∀ N : Int, Fn K N ou re → No v N rs
theorem Trs_0 {v K : Int} {ou re rs : Nat → Int32} (h : v ≤ 0) : Trs v K ou re rs := fun N _ => No_z h
theorem Trs_s {v v2 K : Int} {ou re rs : Nat → Int32} {l z : Int32} {i k : Nat} (h : Trs v K ou re rs) (hv : v2 = v + 1) (hi : (i : Int) = v) (hK : v < K) (hk : (k : Int) = v) (hl : l.toInt = (ou k).toInt) (hF : Fo z.toInt l.toInt re) : Trs v2 K ou re (upd rs i z) := fun N q => by
  have h1 := q k (by omega)
  have hF : z.toInt / 2 = (re (l.toInt / 2).toNat).toInt / 2 := hF
  rw [hl] at hF
  exact No_s (h N q) hv hi (by omega)
theorem Trs_e {v v2 K : Int} {ou re rs : Nat → Int32} (h : Trs v K ou re rs) (e : v2 ≤ v) : Trs v2 K ou re rs := fun N q => No_w (h N q) e (Int.le_refl _)

theorem tt_be {α β : Type} {x : Option β} {f : β → Option α} {P : β → Prop} {Q : α → Prop} (h : tt x P) (k : ∀ r, P r → x = some r → tt (f r) Q) : tt (x.bind f) Q := by
  obtain ⟨r, e, p⟩ := h
  have := k r p e
  rw [e]; exact this
theorem nz_ok {x : Int32} (h : 0 ≤ x.toInt) : ¬ x < 0 := i_lt0 h
theorem ix_v {x l : Int32} (h0 : 0 ≤ x.toInt) (h1 : x.toInt < l.toInt) : ¬ (x < 0 ∨ l.toNatClampNeg ≤ x.toNatClampNeg) := by
  have e : x.toNatClampNeg = x.toInt.toNat := rfl
  have e2 : l.toNatClampNeg = l.toInt.toNat := rfl
  rintro (h | h)
  · exact i_lt0 (by omega) h
  · omega
theorem cp_ok {l x : Int32} (h0 : 0 ≤ l.toInt) (h1 : 2 * l.toInt ≤ x.toInt) (h2 : l.toInt + 16 ≤ x.toInt) (h3 : x.toInt ≤ 67108864) : ¬ ((l < 0) ∨ (x < 0) ∨ (x.toNatClampNeg < l.toNatClampNeg + 16) ∨ (x.toNatClampNeg < 2 * l.toNatClampNeg) ∨ (67108864 < x.toNatClampNeg)) := by
  have e : x.toNatClampNeg = x.toInt.toNat := rfl
  have e2 : l.toNatClampNeg = l.toInt.toNat := rfl
  rintro (h | h | h | h | h)
  · exact i_lt0 h0 h
  · exact i_lt0 (by omega) h
  · omega
  · omega
  · omega
theorem cp_okb {l x : Int32} {f : Nat → Int32} (h0 : 0 ≤ l.toInt) (h1 : 2 * l.toInt ≤ x.toInt) (h2 : l.toInt + 16 ≤ x.toInt) (h3 : x.toInt ≤ 67108864) (hf : ∀ i, -128 ≤ (f i).toInt ∧ (f i).toInt ≤ 127) : ¬ ((l < 0) ∨ (x < 0) ∨ (x.toNatClampNeg < l.toNatClampNeg + 16) ∨ (x.toNatClampNeg < 2 * l.toNatClampNeg) ∨ (67108864 < x.toNatClampNeg) ∨ (¬ ∀ i, i < l.toNatClampNeg → vp_nar .byte (f i) = f i)) := by
  have e : x.toNatClampNeg = x.toInt.toNat := rfl
  have e2 : l.toNatClampNeg = l.toInt.toNat := rfl
  rintro (h | h | h | h | h | h)
  · exact i_lt0 h0 h
  · exact i_lt0 (by omega) h
  · omega
  · omega
  · omega
  · exact h (fun i _ => iv_nb (hf i) (by decide) (by decide))
theorem ac_ok {x l : Int32} {n : Nat} (h0 : 0 ≤ x.toInt) (h1 : x.toInt + n ≤ l.toInt) : ¬ (x < 0 ∨ l.toNatClampNeg < x.toNatClampNeg + n) := by
  have e : x.toNatClampNeg = x.toInt.toNat := rfl
  have e2 : l.toNatClampNeg = l.toInt.toNat := rfl
  rintro (h | h)
  · exact i_lt0 (by omega) h
  · omega
theorem ok_gp {I : ok_I} {o : cf_O} {k : Nat} {v : Int32} (h : okO I o) (hv : (I.1 k).1 ≤ v.toInt ∧ v.toInt ≤ (I.1 k).2) : okO I (gp o k v) := by
  refine ⟨fun j => ?_, h.2⟩
  show (I.1 j).1 ≤ (bif Nat.beq j k then v else o.1 j).toInt ∧ (bif Nat.beq j k then v else o.1 j).toInt ≤ (I.1 j).2
  cases hj : Nat.beq j k
  · exact h.1 j
  · rw [Nat.eq_of_beq_eq_true hj]; exact hv
theorem ok_gb {I : ok_I} {o : cf_O} {k : Nat} {v : Int32} (h : okO I o) (hv : (I.1 k).1 ≤ v.toInt ∧ v.toInt ≤ (I.1 k).2) (h0 : (I.2 k).1 ≤ 0 ∧ 0 ≤ (I.2 k).2) : okO I (gb o k v) := by
  refine ⟨fun j => ?_, fun j i => ?_⟩
  · show (I.1 j).1 ≤ (bif Nat.beq j k then v else o.1 j).toInt ∧ (bif Nat.beq j k then v else o.1 j).toInt ≤ (I.1 j).2
    cases hj : Nat.beq j k
    · exact h.1 j
    · rw [Nat.eq_of_beq_eq_true hj]; exact hv
  · show (I.2 j).1 ≤ ((bif Nat.beq j k then gcp (o.1 k).toNatClampNeg 0 (o.2.1 k) else o.2.1 j) i).toInt ∧ ((bif Nat.beq j k then gcp (o.1 k).toNatClampNeg 0 (o.2.1 k) else o.2.1 j) i).toInt ≤ (I.2 j).2
    cases hj : Nat.beq j k
    · exact h.2 j i
    · rw [Nat.eq_of_beq_eq_true hj]
      show (I.2 k).1 ≤ (gcp (o.1 k).toNatClampNeg 0 (o.2.1 k) i).toInt ∧ (gcp (o.1 k).toNatClampNeg 0 (o.2.1 k) i).toInt ≤ (I.2 k).2
      unfold gcp
      split
      · exact h.2 k i
      · exact h0
theorem ok_cb {I : ok_I} {o : cf_O} {k s : Nat} {x n : Int32} (h : okO I o) (h0 : (I.2 k).1 ≤ 0 ∧ 127 ≤ (I.2 k).2) : okO I (cb o k s x n) := by
  refine ⟨h.1, fun j i => ?_⟩
  show (I.2 j).1 ≤ ((bif Nat.beq j k then va_cpy (cf_sb s) (o.2.1 k) (0 : Int32).toNatClampNeg x.toNatClampNeg n.toNatClampNeg else o.2.1 j) i).toInt ∧ ((bif Nat.beq j k then va_cpy (cf_sb s) (o.2.1 k) (0 : Int32).toNatClampNeg x.toNatClampNeg n.toNatClampNeg else o.2.1 j) i).toInt ≤ (I.2 j).2
  cases hj : Nat.beq j k
  · exact h.2 j i
  · rw [Nat.eq_of_beq_eq_true hj]
    show (I.2 k).1 ≤ (va_cpy (cf_sb s) (o.2.1 k) (0 : Int32).toNatClampNeg x.toNatClampNeg n.toNatClampNeg i).toInt ∧ (va_cpy (cf_sb s) (o.2.1 k) (0 : Int32).toNatClampNeg x.toNatClampNeg n.toNatClampNeg i).toInt ≤ (I.2 k).2
    unfold va_cpy
    split
    · have := iv_sb s ((0 : Int32).toNatClampNeg + (i - x.toNatClampNeg)); omega
    · exact h.2 k i
theorem fr_gp {S : fr_S} {a b : cf_O} {k : Nat} {v : Int32} (h : Fr S a b) (hk : S.1 k = true) (hk2 : S.2.2 k = true) : Fr S a (gp b k v) := by
  refine ⟨fun j hj => ?_, h.2.1, fun j hj => ?_⟩
  · show (bif Nat.beq j k then v else b.1 j) = a.1 j
    cases q : Nat.beq j k
    · exact h.1 j hj
    · rw [Nat.eq_of_beq_eq_true q, hk] at hj; cases hj
  · show (bif Nat.beq j k then gcp (b.1 k).toNatClampNeg 0 (b.2.2 k) else b.2.2 j) = a.2.2 j
    cases q : Nat.beq j k
    · exact h.2.2 j hj
    · rw [Nat.eq_of_beq_eq_true q, hk2] at hj; cases hj
theorem fr_gb {S : fr_S} {a b : cf_O} {k : Nat} {v : Int32} (h : Fr S a b) (hk : S.1 k = true) (hk2 : S.2.1 k = true) : Fr S a (gb b k v) := by
  refine ⟨fun j hj => ?_, fun j hj => ?_, h.2.2⟩
  · show (bif Nat.beq j k then v else b.1 j) = a.1 j
    cases q : Nat.beq j k
    · exact h.1 j hj
    · rw [Nat.eq_of_beq_eq_true q, hk] at hj; cases hj
  · show (bif Nat.beq j k then gcp (b.1 k).toNatClampNeg 0 (b.2.1 k) else b.2.1 j) = a.2.1 j
    cases q : Nat.beq j k
    · exact h.2.1 j hj
    · rw [Nat.eq_of_beq_eq_true q, hk2] at hj; cases hj
theorem fr_cb {S : fr_S} {a b : cf_O} {k s : Nat} {x n : Int32} (h : Fr S a b) (hk : S.2.1 k = true) : Fr S a (cb b k s x n) := by
  refine ⟨h.1, fun j hj => ?_, h.2.2⟩
  show (bif Nat.beq j k then va_cpy (cf_sb s) (b.2.1 k) (0 : Int32).toNatClampNeg x.toNatClampNeg n.toNatClampNeg else b.2.1 j) = a.2.1 j
  cases q : Nat.beq j k
  · exact h.2.1 j hj
  · rw [Nat.eq_of_beq_eq_true q, hk] at hj; cases hj
theorem opn {c : Prop} [Decidable c] {β : Type} {x : Option β} {r : β} (h : (if c then none else x) = some r) : ¬ c ∧ x = some r := by
  by_cases hc : c
  · rw [if_pos hc] at h; cases h
  · rw [if_neg hc] at h; exact ⟨hc, h⟩
theorem opw {c : Prop} [Decidable c] {β : Type} {x : Option β} {r : β} (h : (if ¬ c then none else x) = some r) : c ∧ x = some r := by
  by_cases hc : c
  · rw [if_neg (fun q => q hc)] at h; exact ⟨hc, h⟩
  · rw [if_pos hc] at h; cases h

def enc : List Nat → Nat
  | [] => 0
  | a :: l => a + 256 * enc l
def Fall : Nat → List Nat → Prop
  | _, [] => True
  | g, a :: l => (0 < a ∧ a < g) ∧ Fall a l
theorem Fall_le {g h : Nat} : ∀ {l : List Nat}, Fall g l → g ≤ h → Fall h l
  | [], _, _ => trivial
  | _ :: _, q, e => ⟨⟨q.1.1, by have := q.1.2; omega⟩, q.2⟩
theorem enc_lt : ∀ {l : List Nat} {g : Nat}, Fall g l → g ≤ 256 → enc l < 256 ^ l.length
  | [], _, _, _ => Nat.one_pos
  | a :: l, g, h, hg => by
    have h1 := enc_lt h.2 (by have := h.1.2; omega)
    show a + 256 * enc l < 256 ^ (l.length + 1)
    rw [Nat.pow_succ]
    have := h.1.2
    omega
abbrev nv (x : Int64) : Nat := x.toBitVec.toNat
theorem nv_and (x : Int64) : nv (x &&& 255) = nv x % 256 := by
  show (x &&& 255).toBitVec.toNat = _
  rw [Int64.toBitVec_and, BitVec.toNat_and, show (255 : Int64).toBitVec.toNat = 2 ^ 8 - 1 from rfl, Nat.and_two_pow_sub_one_eq_mod]
theorem nv_inj {x y : Int64} (h : nv x = nv y) : x = y := Int64.toBitVec_inj.mp (BitVec.eq_of_toNat_eq h)
theorem nv_or (x y : Int64) : nv (x ||| y) = nv x ||| nv y := by
  show (x ||| y).toBitVec.toNat = _
  rw [Int64.toBitVec_or, BitVec.toNat_or]
theorem enc_mod {a : Nat} {l : List Nat} (h : a < 256) : enc (a :: l) % 256 = a := by show (a + 256 * enc l) % 256 = a; omega
theorem enc_div {a : Nat} {l : List Nat} (h : a < 256) : enc (a :: l) / 256 = enc l := by show (a + 256 * enc l) / 256 = enc l; omega
theorem enc_hd {g : Nat} {l : List Nat} (h : Fall g l) (hg : g ≤ 256) : enc l % 256 = l.headD 0 := by
  cases l with
  | nil => rfl
  | cons a l => exact enc_mod (by have := h.1.2; omega)
theorem enc_tl {g : Nat} {l : List Nat} (h : Fall g l) (hg : g ≤ 256) : enc l / 256 = enc l.tail := by
  cases l with
  | nil => rfl
  | cons a l => exact enc_div (by have := h.1.2; omega)
theorem enc_nil {g : Nat} {l : List Nat} (h : Fall g l) (e : enc l = 0) : l = [] := by
  cases l with
  | nil => rfl
  | cons a l => have e : a + 256 * enc l = 0 := e; have := h.1.1; omega
def mxh (a b : List Nat) : Nat := max (a.headD 0) (b.headD 0)
def dro (g : Nat) (a : List Nat) : List Nat := if a.headD 0 = g then a.tail else a
def mrg : Nat → List Nat → List Nat → List Nat
  | 0, _, _ => []
  | n + 1, a, b => if mxh a b = 0 then [] else mxh a b :: mrg n (dro (mxh a b) a) (dro (mxh a b) b)
def rsa : Nat → List Nat → List Nat → Prop
  | 0, a, b => a = [] ∧ b = []
  | n + 1, a, b => rsa n (dro (mxh a b) a) (dro (mxh a b) b)
theorem Fall_t {g : Nat} {l : List Nat} (h : Fall g l) : Fall g l.tail := by
  cases l with
  | nil => trivial
  | cons a l => exact Fall_le h.2 (by have := h.1.2; omega)
theorem Fall_d {g m : Nat} {l : List Nat} (h : Fall g l) : Fall g (dro m l) := by
  unfold dro
  split
  · exact Fall_t h
  · exact h
theorem Fall_m {g m : Nat} {l : List Nat} (h : Fall g l) (hm : l.headD 0 ≤ m) : Fall (if m = 0 then g else m) (dro m l) := by
  cases l with
  | nil =>
    have e : dro m [] = [] := by unfold dro; split <;> rfl
    rw [e]; trivial
  | cons a l =>
    have hm : a ≤ m := hm
    have h0 := h.1.1
    rw [if_neg (by omega)]
    unfold dro
    by_cases e : a = m
    · rw [if_pos (show (a :: l).headD 0 = m from e)]
      rw [← e]; exact h.2
    · rw [if_neg (show ¬ (a :: l).headD 0 = m from e)]
      exact ⟨⟨h0, by omega⟩, h.2⟩
theorem mrg_Fall : ∀ (n : Nat) {g : Nat} {a b : List Nat}, Fall g a → Fall g b → Fall g (mrg n a b)
  | 0, _, _, _, _, _ => trivial
  | n + 1, g, a, b, ha, hb => by
    rw [mrg]
    split
    · trivial
    · rename_i hm
      refine ⟨⟨by omega, ?_⟩, ?_⟩
      · unfold mxh at hm ⊢
        cases a with
        | nil => cases b with
          | nil => exact absurd rfl hm
          | cons y b => show max 0 y < g; have := hb.1.2; omega
        | cons x a => cases b with
          | nil => show max x 0 < g; have := ha.1.2; omega
          | cons y b => show max x y < g; have := ha.1.2; have := hb.1.2; omega
      · have h1 := Fall_m (m := mxh a b) ha (by unfold mxh; omega)
        have h2 := Fall_m (m := mxh a b) hb (by unfold mxh; omega)
        rw [if_neg hm] at h1 h2
        exact mrg_Fall n h1 h2
theorem mrg_len : ∀ (n : Nat) (a b : List Nat), (mrg n a b).length ≤ n
  | 0, _, _ => Nat.le_refl 0
  | n + 1, a, b => by
    rw [mrg]
    split
    · exact Nat.zero_le _
    · have := mrg_len n (dro (mxh a b) a) (dro (mxh a b) b)
      show _ + 1 ≤ _; omega
theorem mxl_n {x y : Int64} (hx : nv x < 256) (hy : nv y < 256) : nv (op_mxl x y) = max (nv x) (nv y) := by
  have e1 := l_nn' (z := x) (by show nv x < _; omega)
  have e2 := l_nn' (z := y) (by show nv y < _; omega)
  unfold op_mxl
  split
  · rename_i h
    have := Int64.lt_iff_toInt_lt.mp h
    have e1 : x.toInt = (nv x : Int) := e1
    have e2 : y.toInt = (nv y : Int) := e2
    omega
  · rename_i h
    have h2 : ¬ y.toInt < x.toInt := fun q => h (Int64.lt_iff_toInt_lt.mpr q)
    have e1 : x.toInt = (nv x : Int) := e1
    have e2 : y.toInt = (nv y : Int) := e2
    omega
theorem shl_n {x : Int64} {s : Int32} {k : Nat} (hs : s.toInt = 8 * (k : Int)) (hk : k ≤ 6) (hx : nv x < 256) : nv (x <<< (s.toInt64 &&& 63)) = nv x * 256 ^ k := by
  have es : (s.toInt64 &&& 63).toBitVec.toNat = 8 * k := by
    have n2 : s.toInt64.toInt = s.toInt := Int32.toInt_toInt64 s
    have n3 := l_nn (z := s.toInt64) (by omega)
    rw [Int64.toBitVec_and, BitVec.toNat_and, show (63 : Int64).toBitVec.toNat = 2 ^ 6 - 1 from rfl, Nat.and_two_pow_sub_one_eq_mod]
    omega
  show (x <<< (s.toInt64 &&& 63)).toBitVec.toNat = _
  rw [Int64.toBitVec_shiftLeft]
  have eb : (s.toInt64 &&& 63).toBitVec = BitVec.ofNat 64 (8 * k) := BitVec.eq_of_toNat_eq (by rw [es, BitVec.toNat_ofNat]; omega)
  have e64 : ((s.toInt64 &&& 63).toBitVec.smod 64).toNat = 8 * k := by
    rw [eb]
    rcases (show k = 0 ∨ k = 1 ∨ k = 2 ∨ k = 3 ∨ k = 4 ∨ k = 5 ∨ k = 6 by omega) with q | q | q | q | q | q | q <;> (subst q; rfl)
  rw [BitVec.shiftLeft_eq', BitVec.toNat_shiftLeft, e64, Nat.shiftLeft_eq]
  have hp : nv x * 2 ^ (8 * k) < 2 ^ 64 := by
    have h1 : 2 ^ (8 * k) ≤ 2 ^ 48 := Nat.pow_le_pow_right (by decide) (by omega)
    have h2 : nv x * 2 ^ (8 * k) ≤ 256 * 2 ^ 48 := Nat.mul_le_mul (by omega) h1
    have h3 : 256 * 2 ^ 48 < 2 ^ 64 := by decide
    omega
  rw [Nat.mod_eq_of_lt hp, Nat.pow_mul]
theorem dro_n {g m : Nat} {a : List Nat} {x G : Int64} (ha : Fall g a) (hg : g ≤ 256) (ex : nv x = enc a) (eG : nv G = m) : nv (if lg_cmp (x &&& 255) G = 0 then sh8 x else x) = enc (dro m a) := by
  have e1 : nv (x &&& 255) = a.headD 0 := by rw [nv_and, ex]; exact enc_hd ha hg
  by_cases h : a.headD 0 = m
  · rw [if_pos ((lg_cmp_eq _ _).mpr (nv_inj (by rw [e1, eG]; exact h)))]
    show (sh8 x).toBitVec.toNat = _
    rw [sh8_n]
    unfold dro
    rw [if_pos h, ← enc_tl ha hg, ← ex]
  · rw [if_neg (fun q => h (by rw [← e1, ← eG, (lg_cmp_eq _ _).mp q]))]
    unfold dro
    rw [if_neg h]; exact ex
theorem enc_e {g : Nat} {l : List Nat} (h : Fall g l) (e : l.headD 0 = 0) : l = [] := by
  cases l with
  | nil => rfl
  | cons a l => have e : a = 0 := e; have := h.1.1; omega
theorem or_add {j z k : Nat} (hj : j < 256 ^ k) : j ||| z * 256 ^ k = j + 256 ^ k * z := by
  have e : (256 : Nat) ^ k = 2 ^ (8 * k) := by rw [Nat.pow_mul]
  rw [e] at hj ⊢
  rw [Nat.or_comm, Nat.mul_comm z, ← Nat.two_pow_add_eq_or_of_lt hj, Nat.add_comm]
theorem mrg_00 : ∀ n, mrg n [] [] = []
  | 0 => rfl
  | n + 1 => by rw [mrg, if_pos (show mxh [] [] = 0 from rfl)]
theorem join_go : ∀ (m fuel g : Nat) (a b : List Nat) (v4 v11 : Int32) (x y j r : Int64), g ≤ 256 → Fall g a → Fall g b → nv x = enc a → nv y = enc b → 0 ≤ v11.toInt → v4.toInt = v11.toInt + m → v4.toInt ≤ 5 → nv j < 256 ^ v11.toInt.toNat →
    gCu_join fuel 0 v4 x y j v11 = some r → (rsa m a b ∧ nv r = nv j + 256 ^ v11.toInt.toNat * enc (mrg m a b)) ∨ (¬ rsa m a b ∧ r = 0)
  | m, 0, g, a, b, v4, v11, x, y, j, r, hg, ha, hb, ex, ey, h0, h4, h5, hj, h => by cases (show none = some r from h)
  | 0, fuel + 1, g, a, b, v4, v11, x, y, j, r, hg, ha, hb, ex, ey, h0, h4, h5, hj, h => by
    have h : fCu_join_12 (gCu_join fuel) v4 x y j v11 = some r := h
    unfold fCu_join_12 at h
    rw [if_pos (Int32.le_iff_toInt_le.mpr (by omega))] at h
    have h : (if lg_cmp x 0 = 0 then (if lg_cmp y 0 = 0 then some j else some (0 : Int64)) else some (0 : Int64)) = some r := h
    have zx : lg_cmp x 0 = 0 ↔ a = [] := by
      rw [lg_cmp_eq]
      exact ⟨fun q => enc_nil ha (by rw [← ex, q]; rfl), fun q => nv_inj (by rw [ex, q]; rfl)⟩
    have zy : lg_cmp y 0 = 0 ↔ b = [] := by
      rw [lg_cmp_eq]
      exact ⟨fun q => enc_nil hb (by rw [← ey, q]; rfl), fun q => nv_inj (by rw [ey, q]; rfl)⟩
    by_cases q1 : a = []
    · by_cases q2 : b = []
      · rw [if_pos (zx.mpr q1), if_pos (zy.mpr q2)] at h
        cases h
        exact Or.inl ⟨⟨q1, q2⟩, by show nv j = nv j + _ * 0; omega⟩
      · rw [if_pos (zx.mpr q1), if_neg (fun q => q2 (zy.mp q))] at h
        cases h
        exact Or.inr ⟨fun q => q2 q.2, rfl⟩
    · rw [if_neg (fun q => q1 (zx.mp q))] at h
      cases h
      exact Or.inr ⟨fun q => q1 q.1, rfl⟩
  | m + 1, fuel + 1, g, a, b, v4, v11, x, y, j, r, hg, ha, hb, ex, ey, h0, h4, h5, hj, h => by
    have h : fCu_join_12 (gCu_join fuel) v4 x y j v11 = some r := h
    unfold fCu_join_12 at h
    rw [if_neg (fun q => by have := Int32.le_iff_toInt_le.mp q; omega)] at h
    have e1 : nv (x &&& 255) = a.headD 0 := by rw [nv_and, ex]; exact enc_hd ha hg
    have e2 : nv (y &&& 255) = b.headD 0 := by rw [nv_and, ey]; exact enc_hd hb hg
    have l1 : nv (x &&& 255) < 256 := by rw [nv_and]; omega
    have l2 : nv (y &&& 255) < 256 := by rw [nv_and]; omega
    obtain ⟨G, eG⟩ : ∃ G, G = op_mxl (x &&& 255) (y &&& 255) := ⟨_, rfl⟩
    have nG : nv G = mxh a b := by rw [eG, mxl_n l1 l2, e1, e2]; rfl
    have h : (if lg_cmp (x &&& 255) G = 0 then (if lg_cmp (y &&& 255) G = 0 then gCu_join fuel 0 v4 (sh8 x) (sh8 y) (j ||| G <<< ((8 * v11).toInt64 &&& 63)) (v11 + 1) else gCu_join fuel 0 v4 (sh8 x) y (j ||| G <<< ((8 * v11).toInt64 &&& 63)) (v11 + 1)) else (if lg_cmp (y &&& 255) G = 0 then gCu_join fuel 0 v4 x (sh8 y) (j ||| G <<< ((8 * v11).toInt64 &&& 63)) (v11 + 1) else gCu_join fuel 0 v4 x y (j ||| G <<< ((8 * v11).toInt64 &&& 63)) (v11 + 1))) = some r := by rw [eG]; exact h
    have h : gCu_join fuel 0 v4 (if lg_cmp (x &&& 255) G = 0 then sh8 x else x) (if lg_cmp (y &&& 255) G = 0 then sh8 y else y) (j ||| G <<< ((8 * v11).toInt64 &&& 63)) (v11 + 1) = some r := by
      split at h <;> split at h <;> rename_i q1 q2
      · rw [if_pos q1, if_pos q2]; exact h
      · rw [if_pos q1, if_neg q2]; exact h
      · rw [if_neg q1, if_pos q2]; exact h
      · rw [if_neg q1, if_neg q2]; exact h
    have e8 : (8 * v11).toInt = 8 * ((v11.toInt.toNat : Nat) : Int) := by
      rw [i_mul (x := 8) (y := v11) (by show -2147483648 ≤ (8 : Int) * v11.toInt; omega) (by show (8 : Int) * v11.toInt ≤ 2147483647; omega)]
      show (8 : Int) * v11.toInt = _; omega
    have e11 : (v11 + 1).toInt = v11.toInt + 1 := by
      rw [i_add (x := v11) (y := 1) (by show -2147483648 ≤ v11.toInt + (1 : Int); omega) (by show v11.toInt + (1 : Int) ≤ 2147483647; omega)]; rfl
    have k1 : (v11 + 1).toInt.toNat = v11.toInt.toNat + 1 := by omega
    have lG : nv G < 256 := by rw [nG]; unfold mxh; omega
    have nj : nv (j ||| G <<< ((8 * v11).toInt64 &&& 63)) = nv j + 256 ^ v11.toInt.toNat * mxh a b := by
      rw [nv_or, shl_n e8 (by omega) lG, or_add hj, nG]
    have hj2 : nv (j ||| G <<< ((8 * v11).toInt64 &&& 63)) < 256 ^ (v11 + 1).toInt.toNat := by
      rw [nj, k1, Nat.pow_succ]
      have h1 : 256 ^ v11.toInt.toNat * mxh a b ≤ 256 ^ v11.toInt.toNat * 255 := Nat.mul_le_mul_left _ (by rw [← nG]; omega)
      omega
    rcases join_go m fuel g (dro (mxh a b) a) (dro (mxh a b) b) v4 (v11 + 1) _ _ _ r hg (Fall_d ha) (Fall_d hb) (dro_n ha hg ex nG) (dro_n hb hg ey nG) (by omega) (by omega) h5 hj2 h with ⟨q1, q2⟩ | ⟨q1, q2⟩
    · refine Or.inl ⟨q1, ?_⟩
      rw [q2, nj, k1, mrg]
      by_cases hm : mxh a b = 0
      · have ea : a = [] := enc_e ha (by unfold mxh at hm; omega)
        have eb : b = [] := enc_e hb (by unfold mxh at hm; omega)
        rw [if_pos hm, ea, eb]
        show nv j + _ * 0 + _ * enc (mrg m (dro 0 []) (dro 0 [])) = nv j + _ * 0
        rw [show dro 0 [] = [] from rfl, mrg_00]
        show nv j + _ * 0 + _ * 0 = nv j + _ * 0
        omega
      · rw [if_neg hm]
        show nv j + 256 ^ v11.toInt.toNat * mxh a b + 256 ^ (v11.toInt.toNat + 1) * enc _ = nv j + 256 ^ v11.toInt.toNat * (mxh a b + 256 * enc _)
        rw [Nat.pow_succ, Nat.mul_add, Nat.mul_assoc]
        omega
    · exact Or.inr ⟨q1, q2⟩
theorem join_sp {g : Nat} {a b : List Nat} {v4 : Int32} {x y r : Int64} (hg : g ≤ 256) (ha : Fall g a) (hb : Fall g b) (ex : nv x = enc a) (ey : nv y = enc b) (h0 : 0 ≤ v4.toInt) (h5 : v4.toInt ≤ 5) (h : fCu_join x y v4 = some r) :
    (rsa v4.toInt.toNat a b ∧ nv r = enc (mrg v4.toInt.toNat a b)) ∨ (¬ rsa v4.toInt.toNat a b ∧ r = 0) := by
  have h : gCu_join cfFU 0 v4 x y 0 0 = some r := h
  have z : (0 : Int32).toInt = 0 := rfl
  have q := join_go v4.toInt.toNat cfFU g a b v4 0 x y 0 r hg ha hb ex ey (by rw [z]; omega) (by rw [z]; omega) h5 (by rw [z]; exact Nat.one_pos) h
  rcases q with ⟨q1, q2⟩ | q
  · refine Or.inl ⟨q1, ?_⟩
    rw [q2, z]
    show 0 + 256 ^ 0 * _ = _
    omega
  · exact Or.inr q
def dpl (f : Nat → Int32) : Int32 → List Nat → Int32
  | v, [] => v
  | v, a :: l => dpl f (op_mx v (f a)) l
theorem nz_e {g : Nat} {l : List Nat} {x : Int64} (h : Fall g l) (ex : nv x = enc l) : lg_cmp x 0 = 0 ↔ l = [] := by
  rw [lg_cmp_eq]
  exact ⟨fun q => enc_nil h (by rw [← ex, q]; rfl), fun q => nv_inj (by rw [ex, q]; rfl)⟩
theorem by_n {g a : Nat} {l : List Nat} {x : Int64} (h : Fall g (a :: l)) (hg : g ≤ 256) (ex : nv x = enc (a :: l)) : (x &&& 255).toInt32.toNatClampNeg = a := by
  have e1 : nv (x &&& 255) = a := by rw [nv_and, ex]; exact enc_mod (by have := h.1.2; omega)
  have hl := h.1.2
  have e2 : (x &&& 255).toInt = (a : Int) := by rw [l_nn' (by show nv _ < _; omega)]; show ((nv (x &&& 255) : Nat) : Int) = a; rw [e1]
  have e3 : (x &&& 255).toInt32.toInt = (a : Int) := by rw [Int64.toInt_toInt32, i_bm (by omega) (by omega)]; exact e2
  have e4 : (x &&& 255).toInt32.toNatClampNeg = (x &&& 255).toInt32.toInt.toNat := rfl
  omega
theorem depth_go : ∀ (l : List Nat) (fuel g : Nat) (v3 r : Int32) (v4 : Int64) (o : cf_O), g ≤ 256 → Fall g l → nv v4 = enc l → gCu_depthOf fuel 0 v3 v4 o = some r → r = dpl (o.2.1 1) v3 l + 1
  | l, 0, g, v3, r, v4, o, hg, hl, e, h => by cases (show none = some r from h)
  | [], fuel + 1, g, v3, r, v4, o, hg, hl, e, h => by
    have h : (if lg_cmp v4 0 = 0 then some (v3 + 1) else _) = some r := h
    rw [if_pos ((nz_e hl e).mpr rfl)] at h
    exact (Option.some.inj h).symm
  | a :: l, fuel + 1, g, v3, r, v4, o, hg, hl, e, h => by
    have h : fCu_depthOf_5 (gCu_depthOf fuel) v3 v4 o = some r := h
    unfold fCu_depthOf_5 at h
    have h : (if lg_cmp v4 0 = 0 then _ else (if (v4 &&& 255).toInt32 < 0 ∨ 209 ≤ (v4 &&& 255).toInt32.toNatClampNeg then none else gCu_depthOf fuel 0 (op_mx v3 (o.2.1 1 (v4 &&& 255).toInt32.toNatClampNeg)) (sh8 v4) o)) = some r := h
    rw [if_neg (fun q => by cases (nz_e hl e).mp q)] at h
    obtain ⟨-, h⟩ := opn h
    rw [by_n hl hg e] at h
    exact depth_go l fuel g (op_mx v3 (o.2.1 1 a)) r (sh8 v4) o hg (Fall_t hl) (by show (sh8 v4).toBitVec.toNat = _; rw [sh8_n]; show nv v4 / 256 = _; rw [e]; exact enc_tl hl hg) h
theorem depth_sp {l : List Nat} {g : Nat} {v : Int64} {o : cf_O} {r : Int32} (hg : g ≤ 256) (hl : Fall g l) (e : nv v = enc l) (h : fCu_depthOf v o = some r) : r = dpl (o.2.1 1) 0 l + 1 := depth_go l cfFU g 0 r v o hg hl e h
def prt : List Nat → List Nat → List Nat
  | c, [] => c
  | c, b :: w => prt (dro b c) w
theorem part_go : ∀ (w c : List Nat) (fuel g : Nat) (x y : Int64) (r : Int32), g ≤ 256 → Fall g c → Fall g w → nv x = enc c → nv y = enc w → gCu_isPart fuel 0 x y = some r → (r = 1 ∧ prt c w = []) ∨ (r = 0 ∧ ¬ prt c w = [])
  | w, c, 0, g, x, y, r, hg, hc, hw, ex, ey, h => by cases (show none = some r from h)
  | [], c, fuel + 1, g, x, y, r, hg, hc, hw, ex, ey, h => by
    have h : fCu_isPart_6 (gCu_isPart fuel) x y = some r := h
    unfold fCu_isPart_6 at h
    have h : (if lg_cmp y 0 = 0 then (if lg_cmp x 0 = 0 then fCu_isPart_58 (gCu_isPart fuel) 1 else fCu_isPart_58 (gCu_isPart fuel) 0) else _) = some r := h
    rw [if_pos ((nz_e hw ey).mpr rfl)] at h
    by_cases q : c = []
    · rw [if_pos ((nz_e hc ex).mpr q)] at h
      unfold fCu_isPart_58 at h
      obtain ⟨-, h⟩ := opw h
      exact Or.inl ⟨(Option.some.inj h).symm, q⟩
    · rw [if_neg (fun z => q ((nz_e hc ex).mp z))] at h
      unfold fCu_isPart_58 at h
      obtain ⟨-, h⟩ := opw h
      exact Or.inr ⟨(Option.some.inj h).symm, q⟩
  | b :: w, c, fuel + 1, g, x, y, r, hg, hc, hw, ex, ey, h => by
    have h : fCu_isPart_6 (gCu_isPart fuel) x y = some r := h
    unfold fCu_isPart_6 at h
    have h : (if lg_cmp y 0 = 0 then _ else (if lg_cmp (x &&& 255) (y &&& 255) = 0 then gCu_isPart fuel 0 (sh8 x) (sh8 y) else gCu_isPart fuel 0 x (sh8 y))) = some r := h
    rw [if_neg (fun q => by cases (nz_e hw ey).mp q)] at h
    have eb : nv (y &&& 255) = b := by rw [nv_and, ey]; exact enc_mod (by have := hw.1.2; omega)
    have h : gCu_isPart fuel 0 (if lg_cmp (x &&& 255) (y &&& 255) = 0 then sh8 x else x) (sh8 y) = some r := by
      split at h <;> rename_i q
      · rw [if_pos q]; exact h
      · rw [if_neg q]; exact h
    exact part_go w (dro b c) fuel g _ (sh8 y) r hg (Fall_d hc) (Fall_t hw) (dro_n hc hg ex eb) (by show (sh8 y).toBitVec.toNat = _; rw [sh8_n]; show nv y / 256 = _; rw [ey]; exact enc_tl hw hg) h
theorem part_sp {c w : List Nat} {g : Nat} {x y : Int64} {r : Int32} (hg : g ≤ 256) (hc : Fall g c) (hw : Fall g w) (ex : nv x = enc c) (ey : nv y = enc w) (h : fCu_isPart x y = some r) : (r = 1 ∧ prt c w = []) ∨ (r = 0 ∧ ¬ prt c w = []) := part_go w c cfFU g x y r hg hc hw ex ey h

def Cnn (g : Nat) (v : Int64) : Prop := ∃ l, nv v = enc l ∧ Fall g l ∧ l.length ≤ 5
theorem Cn_0 {g : Nat} : Cnn g 0 := ⟨[], rfl, trivial, Nat.zero_le _⟩
theorem Cn_w {g h : Nat} {v : Int64} (q : Cnn g v) (e : g ≤ h) : Cnn h v := by
  obtain ⟨l, a, b, c⟩ := q
  exact ⟨l, a, Fall_le b e, c⟩
theorem enc_k : ∀ {l : List Nat} {g : Nat} (k : Nat), Fall g l → g ≤ 209 → enc l / 256 ^ k % 256 < 209
  | [], _, k, _, _ => by show 0 / 256 ^ k % 256 < 209; rw [Nat.zero_div]; decide
  | a :: l, g, 0, h, hg => by rw [Nat.pow_zero, Nat.div_one, enc_mod (by have := h.1.2; omega)]; have := h.1.2; omega
  | a :: l, g, k + 1, h, hg => by
    rw [Nat.pow_succ, Nat.mul_comm, ← Nat.div_div_eq_div_mul, enc_div (by have := h.1.2; omega)]
    exact enc_k k h.2 (by have := h.1.2; omega)
theorem Cn_k {g : Nat} {v : Int64} (q : Cnn g v) (hg : g ≤ 209) : Bk v := by
  obtain ⟨l, a, b, c⟩ := q
  refine ⟨?_, fun k => ?_⟩
  · show nv v < 1099511627776
    rw [a]
    have h1 := enc_lt b (by omega)
    have h2 : 256 ^ l.length ≤ 256 ^ 5 := Nat.pow_le_pow_right (by decide) c
    have h3 : (256 : Nat) ^ 5 = 1099511627776 := by decide
    omega
  · show nv v / 256 ^ k % 256 < 209
    rw [a]; exact enc_k k b hg
def Kw (w u : Int) (f : Nat → Int64) : Prop := nv (f (w - 1).toNat) < 209 ∧ ∀ i : Nat, (i : Int) < u → ¬ (i : Int) = w - 1 → Cnn (nv (f (w - 1).toNat)) (f i)
def Adp (u : Int) (v : Int64) (f f2 : Nat → Int64) : Prop := f2 u.toNat = v ∧ ∀ i : Nat, (i : Int) < u → f2 i = f i
def Pe (u : Int) (f f2 : Nat → Int64) : Prop := ∀ i : Nat, (i : Int) < u → f2 i = f i
def Sy (x y w : Int) (f : Nat → Int32) : Prop := ∀ k : Nat, ((k : Int) = x ∨ (k : Int) = x + 1 ∨ (k : Int) = y ∨ (k : Int) = y + 1) → 0 ≤ (f k).toInt ∧ (f k).toInt ≤ w - 1
theorem uL_s (f : Nat → Int64) (i : Nat) (v : Int64) : vp_updL f i v i = v := by unfold vp_updL; exact if_pos rfl
theorem uL_o {f : Nat → Int64} {i j : Nat} {v : Int64} (h : ¬ j = i) : vp_updL f i v j = f j := by unfold vp_updL; exact if_neg h
theorem Adp_1 {u : Int} {v : Int64} {f : Nat → Int64} {n : Nat} (h : n = u.toNat) (h0 : 0 ≤ u) : Adp u v f (vp_updL f n v) := ⟨by rw [h, uL_s], fun i hi => uL_o (by omega)⟩
theorem Adp_2 {u : Int} {v : Int64} {f : Nat → Int64} {n L : Nat} (h : n = u.toNat) (h0 : 0 ≤ u) (hL : u ≤ (L : Int)) : Adp u v f (vp_updL (gcp L 0 f) n v) :=
  ⟨by rw [h, uL_s], fun i hi => by rw [uL_o (by omega)]; unfold gcp; exact if_pos (by omega)⟩
theorem Pe_0 {u : Int} {f : Nat → Int64} : Pe u f f := fun _ _ => rfl
theorem Pe_a {u w : Int} {v : Int64} {f f1 f2 : Nat → Int64} (h : Pe u f f1) (a : Adp w v f1 f2) (e : u ≤ w) : Pe u f f2 := fun i hi => (a.2 i (by omega)).trans (h i hi)
theorem Pe_t {u w : Int} {f f1 f2 : Nat → Int64} (h : Pe u f f1) (a : Pe w f1 f2) (e : u ≤ w) : Pe u f f2 := fun i hi => (a i (by omega)).trans (h i hi)
theorem Kw_a {w u u2 : Int} {v : Int64} {f f2 : Nat → Int64} (h : Kw w u f) (a : Adp u v f f2) (c : Cnn (nv (f (w - 1).toNat)) v) (e : u2 = u + 1) (h1 : 1 ≤ w) (h2 : w ≤ u) : Kw w u2 f2 := by
  have e0 : f2 (w - 1).toNat = f (w - 1).toNat := a.2 _ (by omega)
  refine ⟨by rw [e0]; exact h.1, fun i hi hn => ?_⟩
  rw [e0]
  by_cases q : (i : Int) < u
  · rw [a.2 i q]; exact h.2 i q hn
  · rw [show i = u.toNat by omega, a.1]; exact c
theorem Kj {w u : Int} {f : Nat → Int64} {i j : Nat} {v : Int32} {x y q : Int64} (h : Kw w u f) (hi : (i : Int) < u) (hi2 : ¬ (i : Int) = w - 1) (hj : (j : Int) < u) (hj2 : ¬ (j : Int) = w - 1) (ex : x = f i) (ey : y = f j) (h0 : 0 ≤ v.toInt) (h5 : v.toInt ≤ 5) (e : fCu_join x y v = some q) : Cnn (nv (f (w - 1).toNat)) q := by
  obtain ⟨a, a1, a2, a3⟩ := h.2 i hi hi2
  obtain ⟨b, b1, b2, b3⟩ := h.2 j hj hj2
  have hg := h.1
  rcases join_sp (g := nv (f (w - 1).toNat)) (by omega) a2 b2 (by rw [ex]; exact a1) (by rw [ey]; exact b1) h0 h5 e with ⟨q1, q2⟩ | ⟨q1, q2⟩
  · exact ⟨_, q2, mrg_Fall _ a2 b2, Nat.le_trans (mrg_len _ _ _) (by omega)⟩
  · rw [q2]; exact Cn_0
def Stt (n u : Int) (f : Nat → Int32) : Prop := ∀ k : Nat, 1 ≤ (k : Int) → (k : Int) < n → 0 ≤ (f k).toInt ∧ (f k).toInt ≤ u
def Ka (n u : Int) (f : Nat → Int64) : Prop := ∀ i : Nat, (i : Int) < u → Cnn n.toNat (f i)
theorem Stt_0 {u : Int} {f : Nat → Int32} : Stt 1 u f := fun k h1 h2 => by omega
theorem Ka_0 {n : Int} {f : Nat → Int64} : Ka n 0 f := fun i h => by omega
theorem Stt_w {n u w : Int} {f : Nat → Int32} (h : Stt n u f) (e : u ≤ w) : Stt n w f := fun k h1 h2 => ⟨(h k h1 h2).1, Int.le_trans (h k h1 h2).2 e⟩
theorem Stt_s {n u : Int} {f : Nat → Int32} {i : Nat} {v : Int32} (h : Stt n u f) (hi : (i : Int) = n) (h0 : 0 ≤ v.toInt) (hv : v.toInt ≤ u) : Stt (n + 1) u (upd f i v) := fun k h1 h2 => by
  by_cases e : k = i
  · rw [e, up_s]; exact ⟨h0, hv⟩
  · rw [up_o e]; exact h k h1 (by omega)
theorem Stt_o {n u : Int} {f : Nat → Int32} {i : Nat} {v : Int32} (h : Stt n u f) (hi : n ≤ (i : Int)) : Stt n u (upd f i v) := fun k h1 h2 => by
  rw [up_o (by omega)]; exact h k h1 h2
theorem Sy_i {n u w x y : Int} {f : Nat → Int32} (h : Stt n u f) (hw : u ≤ w - 1) (h1 : 1 ≤ x) (h2 : x + 1 < n) (h3 : 1 ≤ y) (h4 : y + 1 < n) : Sy x y w f := fun k hk => by
  have := h k (by omega) (by omega)
  exact ⟨this.1, by omega⟩
theorem Kw_i {n u w u2 : Int} {v : Int64} {f f2 : Nat → Int64} (h : Ka n u f) (a : Adp u v f f2) (hv : nv v = n.toNat) (h0 : 0 ≤ u) (hn : n < 209) (ew : w = u + 1) (e2 : u2 = u + 1) : Kw w u2 f2 := by
  have e0 : f2 (w - 1).toNat = v := by rw [show (w - 1).toNat = u.toNat by omega]; exact a.1
  refine ⟨by rw [e0, hv]; omega, fun i hi hx => ?_⟩
  rw [e0, hv, a.2 i (by omega)]
  exact h i (by omega)
theorem nv_32 {v : Int32} (h : 0 ≤ v.toInt) : nv v.toInt64 = v.toInt.toNat := by
  have e : v.toInt64.toInt = v.toInt := Int32.toInt_toInt64 v
  have := l_nn (z := v.toInt64) (by omega)
  show v.toInt64.toBitVec.toNat = _
  omega
theorem Cn_1 {n : Int} {v : Int64} (hv : nv v = n.toNat) (h1 : 1 ≤ n) : Cnn (n + 1).toNat v := ⟨[n.toNat], by rw [hv]; show n.toNat = n.toNat + 256 * 0; omega, ⟨⟨by omega, by omega⟩, trivial⟩, by show 1 ≤ 5; decide⟩
theorem Ka_n {n u u2 : Int} {v : Int64} {f f2 : Nat → Int64} (h : Ka n u f) (a : Adp u v f f2) (hv : nv v = n.toNat) (h1 : 1 ≤ n) (e2 : u2 = u + 1) : Ka (n + 1) u2 f2 := fun i hi => by
  by_cases q : (i : Int) < u
  · rw [a.2 i q]; exact Cn_w (h i q) (by omega)
  · by_cases z : 0 ≤ u
    · rw [show i = u.toNat by omega, a.1]; exact Cn_1 hv h1
    · exact absurd hi (by omega)
theorem Ka_k {w u n : Int} {f : Nat → Int64} (h : Kw w u f) (hv : nv (f (w - 1).toNat) = n.toNat) (h1 : 1 ≤ n) (hw : 1 ≤ w) : Ka (n + 1) u f := fun i hi => by
  by_cases q : (i : Int) = w - 1
  · rw [show i = (w - 1).toNat by omega]; exact Cn_1 hv h1
  · have := h.2 i hi q
    rw [hv] at this
    exact Cn_w this (by omega)
theorem Gx_at {b n : Int} {f h : Nat → Int32} {v : Int32} (q : Gx b n (sh b f) (sh b h)) (h0 : 0 ≤ b) (h1 : b ≤ v.toInt) (h2 : v.toInt < b + n) : 2 ≤ (f v.toNatClampNeg).toInt ∧ (f v.toNatClampNeg).toInt / 2 < (h v.toNatClampNeg).toInt / 2 ∧ (h v.toNatClampNeg).toInt / 2 < v.toInt := by
  have t := q (v.toInt - b).toNat (by omega)
  have e : ((v.toNatClampNeg : Nat) : Int) = b + ((v.toInt - b).toNat : Int) := by rw [tn_n]; omega
  rw [sh_e e, sh_e e] at t
  exact ⟨t.1, t.2.1, by omega⟩
def Nvp (n s : Int) (f : Nat → Int64) : Prop := nv (f s.toNat) = n.toNat
theorem Nvp_a {n u : Int} {v : Int64} {f f2 : Nat → Int64} (a : Adp u v f f2) (hv : nv v = n.toNat) : Nvp n u f2 := by unfold Nvp; rw [a.1]; exact hv
theorem Nvp_p {n s u : Int} {f f2 : Nat → Int64} (h : Nvp n s f) (p : Pe u f f2) (h0 : 0 ≤ s) (hs : s < u) : Nvp n s f2 := by unfold Nvp; rw [p s.toNat (by omega)]; exact h
theorem Nvp_e {n s w : Int} {f : Nat → Int64} (h : Nvp n s f) (e : w = s) : Nvp n w f := by rw [e]; exact h
theorem Kw_e {w w2 u u2 : Int} {f : Nat → Int64} (h : Kw w u f) (e : w2 = w) (e2 : u2 = u) : Kw w2 u2 f := by rw [e, e2]; exact h
theorem Kw_b {w u : Int} {f : Nat → Int64} {i : Nat} {v : Int64} (h : Kw w u f) (hi : (i : Int) < u) (hn : ¬ (i : Int) = w - 1) (e : v = f i) : Bo v := by
  rw [e]; exact (Cn_k (h.2 i hi hn) (by have := h.1; omega)).2
theorem Stt_e {n n2 u u2 : Int} {f : Nat → Int32} (h : Stt n u f) (e : n2 = n) (e2 : u ≤ u2) : Stt n2 u2 f := by rw [e]; exact Stt_w h e2
theorem Stt_u {n u u2 : Int} {f : Nat → Int32} {i : Nat} {v : Int32} (h : Stt n u f) (hi : (i : Int) = n) (hv : v.toInt = u) (h0 : 0 ≤ u) (e : u2 = u) : Stt (n + 1) u2 (upd f i v) := by rw [e]; exact Stt_s h hi (by omega) (by omega)
theorem Ka_e {n n2 u u2 : Int} {f : Nat → Int64} (h : Ka n u f) (e : n2 = n) (e2 : u2 = u) : Ka n2 u2 f := by rw [e, e2]; exact h
def Fq (r N u : Int) (f : Nat → Int32) (p : Nat → Int64) : Prop := r = 0 ∨ (Stt (N + 1) u f ∧ Ka N u p)
theorem Fq_0 {N u : Int} {f : Nat → Int32} {p : Nat → Int64} {r : Int} (e : r = 0) : Fq r N u f p := Or.inl e
def Sts (v u : Int) (f : Nat → Int32) : Prop := v = 1 ∨ Stt (v + 1) u f
theorem Sts_v {v u : Int} {f : Nat → Int32} (h : Sts v u f) : Stt v u f := by
  rcases h with h | h
  · rw [h]; exact Stt_0
  · exact fun k h1 h2 => h k h1 (by omega)
theorem Sts_1 {v u : Int} {f : Nat → Int32} (h : v = 1) : Sts v u f := Or.inl h
theorem Sts_n {v w u u2 : Int} {f g : Nat → Int32} {i j : Nat} {a b : Int32} (h : Sts v u f) (eg : g = upd f i a) (hi : (i : Int) = v) (ha : a.toInt = u) (h0 : 0 ≤ u) (hu : u ≤ u2) (hj : (j : Int) = v + 1) (hb : b.toInt = u2) (ew : w = v + 1) : Sts w u2 (upd g j b) := by
  refine Or.inr ?_
  rw [ew, eg]
  exact Stt_s (Stt_w (Stt_s (Sts_v h) hi (by omega) (by omega)) hu) hj (by omega) (by omega)
theorem Ka_q {n s u : Int} {f : Nat → Int64} (h : Kw (s + 1) u f) (z : Nvp n s f) (h1 : 1 ≤ n) (h0 : 0 ≤ s) : Ka (n + 1) u f := by
  refine Ka_k h ?_ h1 (by omega)
  rw [show (s + 1 - 1).toNat = s.toNat by omega]
  exact z
def Fqq (r N u : Int) (f : Nat → Int32) (p : Nat → Int64) : Prop := r = 0 ∨ (Sts N u f ∧ Ka N u p)
theorem Fqq_0 {N u r : Int} {f : Nat → Int32} {p : Nat → Int64} (e : r = 0) : Fqq r N u f p := Or.inl e
theorem Fqq_1 {r N v u : Int} {f : Nat → Int32} {p : Nat → Int64} (h1 : Sts v u f) (h2 : Ka v u p) (e : N = v) : Fqq r N u f p := by rw [e]; exact Or.inr ⟨h1, h2⟩
theorem nv_e {x : Int64} {v : Int32} (e : x = v.toInt64) (h : 0 ≤ v.toInt) : nv x = v.toInt.toNat := by rw [e]; exact nv_32 h

theorem sh0r {x s : Int32} (h : (0 : Int) ≤ s.toInt ∧ s.toInt ≤ 0) : (x >>> (s &&& 31)).toInt = x.toInt := by
  have e : s = 0 := Int32.toInt_inj.mp (by show s.toInt = 0; omega)
  rw [e, show (0 : Int32) &&& 31 = 0 from by decide]
  congr 1
  apply Int32.toBitVec_inj.mp
  rw [Int32.toBitVec_shiftRight]
  show x.toBitVec.sshiftRight 0 = x.toBitVec
  simp
theorem sh0l {x s : Int32} (h : (0 : Int) ≤ s.toInt ∧ s.toInt ≤ 0) : (x <<< (s &&& 31)).toInt = x.toInt := by
  have e : s = 0 := Int32.toInt_inj.mp (by show s.toInt = 0; omega)
  rw [e, show (0 : Int32) &&& 31 = 0 from by decide]
  congr 1
  apply Int32.toBitVec_inj.mp
  rw [Int32.toBitVec_shiftLeft]
  show x.toBitVec <<< (0 : Nat) = x.toBitVec
  simp
theorem iv_c16i {x : Int32} {a b : Int} (h : a ≤ x.toInt ∧ x.toInt ≤ b) (h0 : 0 ≤ a) (h1 : b ≤ 65535) : a ≤ ((x.toUInt32 % 65536).toInt32).toInt ∧ ((x.toUInt32 % 65536).toInt32).toInt ≤ b := by
  have n := i_nn (x := x) (by omega)
  have e1 : ((x.toUInt32 % 65536).toInt32).toBitVec.toNat = x.toBitVec.toNat := by
    show (x.toUInt32 % 65536).toNat = _
    rw [UInt32.toNat_mod]
    show x.toBitVec.toNat % 65536 = _
    omega
  have e2 := i_nn' (x := (x.toUInt32 % 65536).toInt32) (by rw [e1]; omega)
  rw [e2, e1]; omega
theorem i_dvn {x y : Int32} (hx : x.toInt ≤ 0) (h0 : -2147483647 ≤ x.toInt) (hy : 0 < y.toInt) : (x / y).toInt = -((-x.toInt) / y.toInt) := by
  rw [Int32.toInt_div_of_ne_left x y (fun e => by rw [e] at h0; exact absurd h0 (by decide))]
  have e : x.toInt.tdiv y.toInt = -((-x.toInt).tdiv y.toInt) := by rw [Int.neg_tdiv, Int.neg_neg]
  rw [e, Int.tdiv_eq_ediv_of_nonneg (by omega)]
theorem iq_neg {x : Int32} {a b : Int} (h : a ≤ x.toInt ∧ x.toInt ≤ b) (h0 : -2147483647 ≤ a) : (-x).toInt = -x.toInt := by
  have := i_hi x
  rw [Int32.toInt_neg, i_bm (by omega) (by omega)]
theorem iv_neg {x : Int32} {a b : Int} (h : a ≤ x.toInt ∧ x.toInt ≤ b) (h0 : -2147483647 ≤ a) : -b ≤ (-x).toInt ∧ (-x).toInt ≤ -a := by rw [iq_neg h h0]; omega
theorem iv_dvn {x y : Int32} {a b c d k : Int} (h : a ≤ x.toInt ∧ x.toInt ≤ b) (hy : k ≤ y.toInt ∧ y.toInt ≤ k) (hb : b ≤ 0) (h0 : -2147483647 ≤ a) (hk : 0 < k) (hc : c ≤ -((-a) / k)) (hd : -((-b) / k) ≤ d) : c ≤ (x / y).toInt ∧ (x / y).toInt ≤ d := by
  rw [i_dvn (by omega) (by omega) (by omega), show y.toInt = k by omega]
  have h1 : (-b) / k ≤ (-x.toInt) / k := Int.ediv_le_ediv hk (by omega)
  have h2 : (-x.toInt) / k ≤ (-a) / k := Int.ediv_le_ediv hk (by omega)
  omega
theorem iq_mulr {x y : Int32} {k c d : Int} (hy : c ≤ x.toInt ∧ x.toInt ≤ d) (hx : k ≤ y.toInt ∧ y.toInt ≤ k) (h1 : 0 ≤ k) (h2 : -2147483648 ≤ c * k) (h3 : d * k ≤ 2147483647) : (x * y).toInt = x.toInt * k := by
  have hk : y.toInt = k := by omega
  have l1 : c * k ≤ x.toInt * k := Int.mul_le_mul_of_nonneg_right hy.1 h1
  have l2 : x.toInt * k ≤ d * k := Int.mul_le_mul_of_nonneg_right hy.2 h1
  rw [i_mul (by rw [hk]; omega) (by rw [hk]; omega), hk]
theorem iv_mulr {x y : Int32} {k c d e f : Int} (hy : c ≤ x.toInt ∧ x.toInt ≤ d) (hx : k ≤ y.toInt ∧ y.toInt ≤ k) (h1 : 0 ≤ k) (h2 : -2147483648 ≤ c * k) (h3 : d * k ≤ 2147483647) (he : e ≤ c * k) (hf : d * k ≤ f) : e ≤ (x * y).toInt ∧ (x * y).toInt ≤ f := by
  rw [iq_mulr hy hx h1 h2 h3]
  have l1 : c * k ≤ x.toInt * k := Int.mul_le_mul_of_nonneg_right hy.1 h1
  have l2 : x.toInt * k ≤ d * k := Int.mul_le_mul_of_nonneg_right hy.2 h1
  omega
theorem ne_k {x k : Int32} {a b : Int} (h : a ≤ x.toInt ∧ x.toInt ≤ b) (hk : b < k.toInt) : ¬ x = k := fun e => by rw [e] at h; omega
def Ctk (n : Int) (g : Nat → Int32) (t : Nat → Int64) : Prop := ∀ c : Nat, (c : Int) < n → Bz (t (g c).toNatClampNeg)
def Ctq (r : Int64) (c n : Int) (g : Nat → Int32) (t : Nat → Int64) : Prop := Ctk n g t → 0 ≤ c → c < n → Bz r
theorem Ctq_i {r : Int64} {v x : Int32} {n : Int} {g : Nat → Int32} {t : Nat → Int64} (ex : x = g v.toNatClampNeg) (er : r = t x.toNatClampNeg) : Ctq r v.toInt n g t := fun h h0 h1 => by
  rw [er, ex]; exact h _ (by rw [tn_n]; omega)
theorem Ctq_e {r : Int64} {c n : Int} {g : Nat → Int32} {t : Nat → Int64} (q : Ctq r c n g t) (h : Ctk n g t) (h0 : 0 ≤ c) (h1 : c < n) : Bz r := q h h0 h1

def Fan (lo hi r b n n2 : Int) (re f h fi ch f2 h2 fi2 ch2 : Nat → Int32) : Prop := ∃ l1 l2 : Int, Fo l1 lo re ∧ Fo l2 hi re ∧ Anc l1 l2 r b n n2 f h fi ch f2 h2 fi2 ch2
theorem Fan_i {lo hi x y l1 l2 r b n n2 : Int} {re f h fi ch f2 h2 fi2 ch2 : Nat → Int32} (h1 : Fo l1 x re) (h2' : Fo l2 y re) (a : Anc l1 l2 r b n n2 f h fi ch f2 h2 fi2 ch2) (ex : x = lo) (ey : y = hi) : Fan lo hi r b n n2 re f h fi ch f2 h2 fi2 ch2 := by
  subst ex; subst ey; exact ⟨l1, l2, h1, h2', a⟩
theorem Fo_lt {r l N : Int} {re : Nat → Int32} (h : Fo r l re) (q : (re (l / 2).toNat).toInt < 2 * N) : r < 2 * N := by
  unfold Fo at h; omega
theorem Fan_s {lo hi r b n n2 bb G K L N : Int} {re f h fi ch f2 h2 fi2 ch2 ou on tw nd us : Nat → Int32} {g j : Nat} (F : Fan lo hi r b n n2 re f h fi ch f2 h2 fi2 ch2) (hG : GI b n f h fi ch) (hR : Rn L bb N nd re) (hL : Lk (-1) bb G K ou on tw nd us) (hX : Gx bb G on tw) (hN : N = b + n) (hj : (j : Int) = bb + (g : Int)) (hg : (g : Int) < G) (hlo : lo = (on g).toInt) (hhi : hi = (tw g).toInt) (hn : ¬ (nd j).toInt = 0) (hLb : L = bb + (g : Int)) : GI b n2 f2 h2 fi2 ch2 ∧ r < 2 * (b + n2) ∧ n ≤ n2 := by
  obtain ⟨l1, l2, a1, a2, a3⟩ := F
  obtain ⟨g1, g2, g3⟩ := hX g hg
  subst hN
  refine a3 hG (Fo_lt a1 ?_) (Fo_lt a2 ?_)
  · rw [hlo]
    exact hR _ (by omega) (Or.inr (hL.2.1 g j _ (by omega) hg hj hn (Or.inl (by omega))))
  · rw [hhi]
    exact hR _ (by omega) (Or.inr (hL.2.1 g j _ (by omega) hg hj hn (Or.inr (by omega))))
def Ig (r v i g : Int) : Prop := r = 0 → v ≤ i ∨ 1 + i + g ≤ v
theorem Ig_e {r v i g : Int} (h : Ig r v i g) (e : r = 0) (hv : v < 1 + i + g) : v ≤ i := by have := h e; omega
def Lrc (r L inp : Int) (nd : Nat → Int32) : Prop := r < 0 ∨ (r / 2 < L ∧ (r / 2 ≤ inp ∨ ¬ (nd (r / 2).toNat).toInt = 0))
theorem Lrc_n {r L inp : Int} {nd : Nat → Int32} (h : r < 0) : Lrc r L inp nd := Or.inl h
theorem Lrc_i {r L L2 inp : Int} {nd : Nat → Int32} {i : Nat} (hi : (i : Int) = r / 2) (hl : r / 2 < L) (e : L2 = L) (h : r / 2 ≤ inp ∨ ¬ (nd i).toInt = 0) : Lrc r L2 inp nd := by
  rw [e]
  refine Or.inr ⟨hl, ?_⟩
  rcases h with h | h
  · exact Or.inl h
  · rw [show (r / 2).toNat = i by omega]; exact Or.inr h
theorem Rn_lik {z l L L2 b N M inp : Int} {nd re : Nat → Int32} (hR : Rn L b N (cu M nd) re) (hL : Lrc l L2 inp nd) (e : L2 = L) (hM : L ≤ M) (hF : Fo z l re) (h0 : 0 ≤ l) (hb : inp < b) : z < 2 * N := by
  rw [e] at hL
  rcases hL with q | ⟨q1, q2⟩
  · omega
  · refine Fo_lt hF (hR _ (by omega) ?_)
    rcases q2 with q | q
    · left; omega
    · right; rw [cu_e (by omega)]; exact q
theorem No_i {n N N2 : Int} {f : Nat → Int32} (h : No n N f) (e : N ≤ N2) : No n N2 f := fun k hk => by have := h k hk; omega

def Bm (v : Int64) : Prop := ∃ s : Nat, s < 64 ∧ nv v = 2 ^ s
noncomputable def bcc (s t : Nat) : Bool := match fJLong_bitCount_J (Int64.ofBitVec (BitVec.ofNat 64 (2 ^ s ||| 2 ^ t))) with
  | some r => decide (r.toInt ≤ 2)
  | none => true
set_option maxRecDepth 100000 in
theorem bcc_all : (List.range 64).all (fun s => (List.range 64).all (fun t => bcc s t)) = true := by decide +kernel
theorem bc2 {a b : Int64} {r : Int32} (ha : Bm a) (hb : Bm b) (h : fJLong_bitCount_J (a ||| b) = some r) : r.toInt ≤ 2 := by
  obtain ⟨s, hs, ea⟩ := ha
  obtain ⟨t, ht, eb⟩ := hb
  have e : a ||| b = Int64.ofBitVec (BitVec.ofNat 64 (2 ^ s ||| 2 ^ t)) := nv_inj (by
    rw [nv_or, ea, eb]
    show _ = (BitVec.ofNat 64 (2 ^ s ||| 2 ^ t)).toNat
    rw [BitVec.toNat_ofNat, Nat.mod_eq_of_lt]
    exact Nat.or_lt_two_pow (Nat.pow_lt_pow_right (by decide) hs) (Nat.pow_lt_pow_right (by decide) ht))
  have q := List.all_eq_true.mp bcc_all s (List.mem_range.mpr hs)
  have q2 := List.all_eq_true.mp q t (List.mem_range.mpr ht)
  unfold bcc at q2
  rw [← e, h] at q2
  exact of_decide_eq_true q2
def Pj (x y z w u : Int) (f : Nat → Int32) (p m : Nat → Int64) : Prop := z = 2 ∧ u = w ∧ 1 ≤ x ∧ x < y ∧ y < 209 ∧ (f (x.toNat + 1)).toInt ≤ w - 1 ∧ (f (y.toNat + 1)).toInt ≤ w - 1 ∧
  ∀ k : Nat, ((k : Int) = x ∨ (k : Int) = y) → 0 ≤ (f k).toInt ∧ (f k).toInt < (f (k + 1)).toInt ∧ nv (p (f k).toInt.toNat) = k ∧ Bm (m (f k).toInt.toNat)
def Jqa (x y z w u u2 i : Int) (f : Nat → Int32) (p m : Nat → Int64) : Prop := Pj x y z w u f p m → w < u2 ∨ i = (f x.toNat).toInt
def Jqb (x y z w u u2 i j : Int) (f : Nat → Int32) (p m : Nat → Int64) : Prop := Pj x y z w u f p m → w < u2 ∨ (i = (f x.toNat).toInt ∧ j = (f y.toNat).toInt)
def Jqp (x y z w u u2 r : Int) (f : Nat → Int32) (p m : Nat → Int64) : Prop := Pj x y z w u f p m → r = 0 ∨ w < u2
def Lim (v : Int64) (z : Int) : Prop := z = 2 → nv v = 65536
theorem Lim_i {z s : Int32} {v : Int64} (hs : s.toInt = 8 * z.toInt) (e : v = (1 : Int64) <<< (s.toInt64 &&& 63)) : Lim v z.toInt := fun h => by
  rw [e, shl_n (k := 2) (by omega) (by decide) (by decide)]; rfl
theorem lc_lt {a b : Int64} {n : Nat} (ha : nv a = n) (hn : n < 209) (hb : nv b = 65536) : (lg_cmp a b).toInt < 0 := by
  have e1 := l_nn' (z := a) (by show nv a < _; omega)
  have e2 := l_nn' (z := b) (by show nv b < _; omega)
  have h : a < b := Int64.lt_iff_toInt_lt.mpr (by have e1 : a.toInt = (nv a : Int) := e1; have e2 : b.toInt = (nv b : Int) := e2; omega)
  have := Int32.lt_iff_toInt_lt.mp ((lg_cmp_lt a b).mpr h)
  exact this
section JQ
variable {x y z w u u2 i j : Int} {f : Nat → Int32} {p m p2 m2 : Nat → Int64}
theorem Jqa_x {i2 r : Int} {s : Int32} {k : Nat} (h : Jqa x y z w u u2 i f p m) (hk : (k : Int) = x + 1) (hs : s = f k) (hi : s.toInt ≤ i) (ei : i2 = i) : Jqp x y z w u u2 r f p m := fun P => by
  rcases h P with q | q
  · exact Or.inr q
  · have t := P.2.2.2.2.2.2.2 x.toNat (by have := P.2.2.1; omega)
    rw [show x.toNat + 1 = k by have := P.2.2.1; omega, ← hs] at t
    omega
theorem Jqa_l {r : Int} {v5 a : Int64} {c : Int32} {n : Nat} (h : Jqa x y z w u u2 i f p m) (hp : Pe u p p2) (hL : Lim v5 z) (hn : (n : Int) = i) (ha : a = p2 n) (hc : c = lg_cmp a v5) (h0 : 0 ≤ c.toInt) : Jqp x y z w u u2 r f p m := fun P => by
  rcases h P with q | q
  · exact Or.inr q
  · exfalso
    have t := P.2.2.2.2.2.2.2 x.toNat (by have := P.2.2.1; omega)
    have b1 := P.2.2.2.2.2.1
    have e : a = p (f x.toNat).toInt.toNat := by rw [ha, show n = (f x.toNat).toInt.toNat by omega]; exact hp _ (by have := P.2.1; omega)
    have := lc_lt (a := a) (b := v5) (n := x.toNat) (by rw [e]; exact t.2.2.1) (by have := P.2.2.2.1; have := P.2.2.2.2.1; omega) (hL P.1)
    rw [hc] at h0
    omega
theorem Jqb_x {i2 : Int} {s : Int32} {k : Nat} (h : Jqb x y z w u u2 i j f p m) (hk : (k : Int) = y + 1) (hs : s = f k) (hj : s.toInt ≤ j) : Jqa x y z w u u2 i2 f p m := fun P => by
  rcases h P with q | q
  · exact Or.inl q
  · have t := P.2.2.2.2.2.2.2 y.toNat (by have := P.2.2.1; have := P.2.2.2.1; omega)
    rw [show y.toNat + 1 = k by have := P.2.2.1; have := P.2.2.2.1; omega, ← hs] at t
    omega
theorem Jqb_l {i2 : Int} {v5 a : Int64} {c : Int32} {n : Nat} (h : Jqb x y z w u u2 i j f p m) (hp : Pe u p p2) (hL : Lim v5 z) (hn : (n : Int) = j) (ha : a = p2 n) (hc : c = lg_cmp a v5) (h0 : 0 ≤ c.toInt) : Jqa x y z w u u2 i2 f p m := fun P => by
  rcases h P with q | q
  · exact Or.inl q
  · exfalso
    have t := P.2.2.2.2.2.2.2 y.toNat (by have := P.2.2.1; have := P.2.2.2.1; omega)
    have b1 := P.2.2.2.2.2.2.1
    have e : a = p (f y.toNat).toInt.toNat := by rw [ha, show n = (f y.toNat).toInt.toNat by omega]; exact hp _ (by have := P.2.1; omega)
    have := lc_lt (a := a) (b := v5) (n := y.toNat) (by rw [e]; exact t.2.2.1) (by have := P.2.2.2.2.1; omega) (hL P.1)
    rw [hc] at h0
    omega
theorem Jqb_c {j2 : Int} {ni nj : Nat} {a b c : Int64} {q : Int32} (h : Jqb x y z w u u2 i j f p m) (hm : Pe u m m2) (hi : (ni : Int) = i) (hj : (nj : Int) = j) (ea : a = m2 ni) (eb : b = m2 nj) (ec : c = a ||| b) (eq : fJLong_bitCount_J c = some q) (hq : 2 < q.toInt) : Jqb x y z w u u2 i j2 f p m := fun P => by
  rcases h P with t | ⟨t1, t2⟩
  · exact Or.inl t
  · exfalso
    have kx := P.2.2.2.2.2.2.2 x.toNat (by have := P.2.2.1; omega)
    have ky := P.2.2.2.2.2.2.2 y.toNat (by have := P.2.2.1; have := P.2.2.2.1; omega)
    have e1 : a = m (f x.toNat).toInt.toNat := by rw [ea, show ni = (f x.toNat).toInt.toNat by omega]; exact hm _ (by have := P.2.1; have := P.2.2.2.2.2.1; omega)
    have e2 : b = m (f y.toNat).toInt.toNat := by rw [eb, show nj = (f y.toNat).toInt.toNat by omega]; exact hm _ (by have := P.2.1; have := P.2.2.2.2.2.2.1; omega)
    have := bc2 (a := a) (b := b) (by rw [e1]; exact kx.2.2.2) (by rw [e2]; exact ky.2.2.2) (by rw [← ec]; exact eq)
    omega
theorem mrg2 {x y : Nat} (h0 : 0 < x) (h : x < y) : mrg 2 [x] [y] = [y, x] ∧ rsa 2 [x] [y] := by
  have e1 : mxh [x] [y] = y := by show max x y = y; omega
  have d1 : dro y [x] = [x] := by unfold dro; exact if_neg (show ¬ x = y by omega)
  have d2 : dro y [y] = [] := by unfold dro; exact if_pos rfl
  have e2 : mxh [x] [] = x := by show max x 0 = x; omega
  have d3 : dro x [x] = [] := by unfold dro; exact if_pos rfl
  have d4 : dro x [] = [] := by unfold dro; split <;> rfl
  constructor
  · rw [mrg, e1, if_neg (by omega), d1, d2, mrg, e2, if_neg (by omega), d3, d4]; rfl
  · show rsa 1 (dro (mxh [x] [y]) [x]) (dro (mxh [x] [y]) [y])
    rw [e1, d1, d2]
    show rsa 0 (dro (mxh [x] []) [x]) (dro (mxh [x] []) [])
    rw [e2, d3, d4]
    exact ⟨rfl, rfl⟩
theorem ush_n {x : Int64} {s : Int32} {k : Nat} (hs : s.toInt = 8 * (k : Int)) (hk : k ≤ 7) : nv (x.toUInt64 >>> (s.toInt64.toUInt64 &&& Int64.toUInt64 63)).toInt64 = nv x / 256 ^ k := by
  have es : (s.toInt64.toUInt64 &&& Int64.toUInt64 63).toNat % 64 = 8 * k := by
    have n1 : s.toInt64.toUInt64.toNat = s.toInt64.toBitVec.toNat := rfl
    have n2 : s.toInt64.toInt = s.toInt := Int32.toInt_toInt64 s
    have n3 := l_nn (z := s.toInt64) (by omega)
    rw [UInt64.toNat_and, n1, show (Int64.toUInt64 63).toNat = 2 ^ 6 - 1 from by decide, Nat.and_two_pow_sub_one_eq_mod]
    omega
  show (x.toUInt64 >>> (s.toInt64.toUInt64 &&& Int64.toUInt64 63)).toNat = _
  rw [UInt64.toNat_shiftRight, es, Nat.shiftRight_eq_div_pow, Nat.pow_mul]; rfl
theorem Jqb_j {j2 : Int} {ni nj : Nat} {a b q s : Int64} {v3 sh c : Int32} (h : Jqb x y v3.toInt w u u2 i j f p m) (hp : Pe u p p2) (hi : (ni : Int) = i) (hj : (nj : Int) = j) (ea : a = p2 ni) (eb : b = p2 nj) (eq : fCu_join a b v3 = some q) (hsh : sh.toInt = 8 * (v3.toInt - 1)) (es : s = (q.toUInt64 >>> (sh.toInt64.toUInt64 &&& Int64.toUInt64 63)).toInt64) (hc : c = lg_cmp s 0) (h0 : c.toInt = 0) : Jqb x y v3.toInt w u u2 i j2 f p m := fun P => by
  rcases h P with t | ⟨t1, t2⟩
  · exact Or.inl t
  · exfalso
    have hz := P.1
    have h1 := P.2.2.1
    have h2 := P.2.2.2.1
    have h3 := P.2.2.2.2.1
    have kx := P.2.2.2.2.2.2.2 x.toNat (by omega)
    have ky := P.2.2.2.2.2.2.2 y.toNat (by omega)
    have e1 : a = p (f x.toNat).toInt.toNat := by rw [ea, show ni = (f x.toNat).toInt.toNat by omega]; exact hp _ (by have := P.2.1; have := P.2.2.2.2.2.1; omega)
    have e2 : b = p (f y.toNat).toInt.toNat := by rw [eb, show nj = (f y.toNat).toInt.toNat by omega]; exact hp _ (by have := P.2.1; have := P.2.2.2.2.2.2.1; omega)
    have n1 : nv a = enc [x.toNat] := by rw [e1, kx.2.2.1]; show x.toNat = x.toNat + 256 * 0; omega
    have n2 : nv b = enc [y.toNat] := by rw [e2, ky.2.2.1]; show y.toNat = y.toNat + 256 * 0; omega
    obtain ⟨m1, m3⟩ := mrg2 (x := x.toNat) (y := y.toNat) (by omega) (by omega)
    have hv : v3.toInt.toNat = 2 := by omega
    have jj := join_sp (g := 209) (by decide) (show Fall 209 [x.toNat] from ⟨⟨by omega, by omega⟩, trivial⟩) (show Fall 209 [y.toNat] from ⟨⟨by omega, by omega⟩, trivial⟩) n1 n2 (by omega) (by omega) eq
    rw [hv] at jj
    rcases jj with ⟨-, j2⟩ | ⟨j1, -⟩
    · rw [m1] at j2
      have j3 : nv q = y.toNat + 256 * (x.toNat + 256 * 0) := j2
      have s1 : nv s = nv q / 256 ^ 1 := by rw [es]; exact ush_n (k := 1) (by omega) (by decide)
      have s2 : nv s = x.toNat := by rw [s1, j3]; omega
      have z0 : lg_cmp s 0 = 0 := by rw [← hc]; exact Int32.toInt_inj.mp h0
      have := (lg_cmp_eq _ _).mp z0
      rw [this] at s2
      have s2 : (0 : Nat) = x.toNat := s2
      omega
    · exact j1 m3
end JQ

def Rnk (n : Int) (f : Nat → Int32) (p m : Nat → Int64) : Prop := ∀ k : Nat, 1 ≤ (k : Int) → (k : Int) < n → 0 ≤ (f k).toInt ∧ (f k).toInt < (f (k + 1)).toInt ∧ nv (p (f k).toInt.toNat) = k ∧ Bm (m (f k).toInt.toNat)
theorem Rnk_0 {n : Int} {f : Nat → Int32} {p m : Nat → Int64} (h : n ≤ 1) : Rnk n f p m := fun k h1 h2 => by omega
theorem Rnk_p {n s u : Int} {f : Nat → Int32} {p m p2 m2 : Nat → Int64} (h : Rnk n f p m) (hS : Stt (n + 1) s f) (hp : Pe u p p2) (hm : Pe u m m2) (hu : s ≤ u) : Rnk n f p2 m2 := fun k h1 h2 => by
  obtain ⟨a, b, c, d⟩ := h k h1 h2
  have t := hS (k + 1) (by omega) (by omega)
  rw [hp _ (by omega), hm _ (by omega)]
  exact ⟨a, b, c, d⟩
theorem Pj_i {x y z w u n s : Int} {f : Nat → Int32} {p m : Nat → Int64} (hR : Rnk n f p m) (hS : Stt (n + 1) s f) (hz : z = 2) (hu : u = w) (h1 : 1 ≤ x) (hxy : x < y) (hyn : y < n) (hn : n < 210) (hw : w = s + 1) : Pj x y z w u f p m := by
  refine ⟨hz, hu, h1, hxy, by omega, ?_, ?_, ?_⟩
  · have := hS (x.toNat + 1) (by omega) (by omega); omega
  · have := hS (y.toNat + 1) (by omega) (by omega); omega
  · intro k hk
    exact hR k (by omega) (by omega)
theorem Nzd {x y z w u u2 r : Int} {f : Nat → Int32} {p m : Nat → Int64} (h : Jqp x y z w u u2 r f p m) (P : z = 2 → Pj x y z w u f p m) : ¬ z = 2 ∨ r = 0 ∨ w < u2 := by
  by_cases q : z = 2
  · exact Or.inr (h (P q))
  · exact Or.inl q
def Dep (n : Int) (d : Nat → Int32) : Prop := ∀ k : Nat, 1 ≤ (k : Int) → (k : Int) < n → 0 ≤ (d k).toInt ∧ (d k).toInt ≤ (k : Int)
theorem mx_n (x y : Int32) : (op_mx x y).toInt = max x.toInt y.toInt := by
  unfold op_mx
  split
  · rename_i h; have := Int32.lt_iff_toInt_lt.mp h; omega
  · rename_i h; have h2 : ¬ x.toInt < y.toInt := fun q => h (Int32.lt_iff_toInt_lt.mpr q); omega
theorem dpl_b : ∀ {l : List Nat} {g : Nat} {d : Nat → Int32} {v : Int32} {n : Int}, Fall g l → Dep n d → (g : Int) ≤ n → 1 ≤ n → 0 ≤ v.toInt → v.toInt ≤ n - 1 → 0 ≤ (dpl d v l).toInt ∧ (dpl d v l).toInt ≤ n - 1
  | [], _, _, _, _, _, _, _, _, h0, h1 => ⟨h0, h1⟩
  | a :: l, g, d, v, n, h, hd, hg, hn, h0, h1 => by
    have t := hd a (by have := h.1.1; omega) (by have := h.1.2; omega)
    have hl := h.1.2
    exact dpl_b (l := l) (g := a) (v := op_mx v (d a)) h.2 hd (by omega) hn (by rw [mx_n]; omega) (by rw [mx_n]; omega)
theorem dpl_u : ∀ {l : List Nat} {g j : Nat} {d : Nat → Int32} {v w : Int32}, Fall g l → g ≤ j → dpl (upd d j w) v l = dpl d v l
  | [], _, _, _, _, _, _, _ => rfl
  | a :: l, g, j, d, v, w, h, hg => by
    show dpl (upd d j w) (op_mx v (upd d j w a)) l = dpl d (op_mx v (d a)) l
    rw [up_o (by have := h.1.2; omega)]
    exact dpl_u h.2 (by have := h.1.2; omega)
def Dat (n v s u : Int) (d : Nat → Int32) (p : Nat → Int64) : Prop := ∃ i : Nat, s < (i : Int) ∧ (i : Int) < u ∧ ∃ l, nv (p i) = enc l ∧ Fall n.toNat l ∧ l.length ≤ 5 ∧ (dpl d 0 l + 1).toInt = v
def Dao (n v s u : Int) (d : Nat → Int32) (p : Nat → Int64) : Prop := (v = 209 ∧ u = s + 1) ∨ Dat n v s u d p
theorem Dao_0 {n v s u : Int} {d : Nat → Int32} {p : Nat → Int64} (hv : v = 209) (hu : u = s + 1) : Dao n v s u d p := Or.inl ⟨hv, hu⟩
theorem Dao_s {n s u u2 w : Int} {v v2 q : Int32} {i : Nat} {x : Int64} {d : Nat → Int32} {p : Nat → Int64} {o : cf_O} (h : Dao n v.toInt s u d p) (hK : Kw w (u + 1) p) (hN : Nvp n s p) (ew : w = s + 1) (hi : (i : Int) = u) (hs : s < u) (hx : x = p i) (e : fCu_depthOf x o = some q) (eo : o.2.1 1 = d) (hd : Dep n d) (h1 : 1 ≤ n) (hn : n < 209) (hv : v2.toInt = min v.toInt q.toInt) (eu : u2 = u + 1) (hs0 : 0 ≤ s) : Dao n v2.toInt s u2 d p := by
  have hg : nv (p (w - 1).toNat) = n.toNat := by rw [ew, show (s + 1 - 1).toNat = s.toNat by omega]; exact hN
  have c := hK.2 i (by omega) (by omega)
  rw [hg] at c
  obtain ⟨l, l1, l2, l3⟩ := c
  have r := depth_sp (g := n.toNat) (l := l) (by omega) l2 (by rw [hx]; exact l1) e
  rw [eo] at r
  have b := dpl_b (n := n) (v := 0) l2 hd (by omega) h1 (by decide) (by show (0 : Int) ≤ n - 1; omega)
  have r1 : q.toInt = (dpl d 0 l).toInt + 1 := by rw [r, i_add (by show -2147483648 ≤ _ + (1 : Int); omega) (by show _ + (1 : Int) ≤ 2147483647; omega)]; rfl
  refine Or.inr ?_
  rcases h with ⟨hv1, hu1⟩ | ⟨k, k1, k2, k3, k4, k5, k6, k7⟩
  · exact ⟨i, by omega, by omega, l, l1, l2, l3, by rw [← r]; omega⟩
  · by_cases z : v.toInt ≤ q.toInt
    · exact ⟨k, k1, by omega, k3, k4, k5, k6, by omega⟩
    · exact ⟨i, by omega, by omega, l, l1, l2, l3, by rw [← r]; omega⟩
def Rkg (n s u : Int) (d : Nat → Int32) (p : Nat → Int64) : Prop := (0 ≤ (d n.toNat).toInt ∧ (d n.toNat).toInt ≤ n) ∧ Dat n (d n.toNat).toInt s u d p
def Rkq (r n s u : Int) (d : Nat → Int32) (p : Nat → Int64) : Prop := r = 0 ∨ Rkg n s u d p
theorem Rkq_i {r n v s s2 u u2 : Int} {w : Int32} {j : Nat} {d : Nat → Int32} {p : Nat → Int64} (h : Dao n v s u d p) (hw : w.toInt = v) (hj : (j : Int) = n) (hu : s + 1 < u) (eu : u2 = u) (hd : Dep n d) (h1 : 1 ≤ n) (hn : n < 209) (es : s2 = s) : Rkq r n s2 u2 (upd d j w) p := by
  refine Or.inr ?_
  subst es
  have ej : n.toNat = j := by omega
  rcases h with ⟨-, q⟩ | ⟨k, k1, k2, k3, k4, k5, k6, k7⟩
  · omega
  · have b := dpl_b (n := n) (v := 0) k5 hd (by omega) h1 (by decide) (by show (0 : Int) ≤ n - 1; omega)
    have r1 : (dpl d 0 k3 + 1).toInt = (dpl d 0 k3).toInt + 1 := by rw [i_add (by show -2147483648 ≤ _ + (1 : Int); omega) (by show _ + (1 : Int) ≤ 2147483647; omega)]; rfl
    refine ⟨?_, k, k1, by omega, k3, k4, k5, k6, ?_⟩
    · rw [ej, up_s]; omega
    · rw [dpl_u k5 (by omega), ej, up_s]; omega
theorem Rkq_0 {r n s u : Int} {d : Nat → Int32} {p : Nat → Int64} (h : r = 0) : Rkq r n s u d p := Or.inl h
theorem Kw_m {w u u2 : Int} {p : Nat → Int64} (h : Kw w u p) (e : u2 ≤ u) : Kw w u2 p := ⟨h.1, fun i hi hn => h.2 i (by omega) hn⟩

def Rwx (n s u : Int) (p : Nat → Int64) : Prop := ∀ i : Nat, s < (i : Int) → (i : Int) < u → Cnn n.toNat (p i)
def Rka (inp n u : Int) (f d : Nat → Int32) (p : Nat → Int64) : Prop := (n ≤ inp + 1 ∨ (f n.toNat).toInt = u) ∧ ∀ k : Nat, inp < (k : Int) → (k : Int) < n → Dat (k : Int) (d k).toInt (f k).toInt (f (k + 1)).toInt d p ∧ Rwx (k : Int) (f k).toInt (f (k + 1)).toInt p
theorem Rka_0 {inp n u : Int} {f d : Nat → Int32} {p : Nat → Int64} (h : n ≤ inp + 1) : Rka inp n u f d p := ⟨Or.inl h, fun k h1 h2 => by omega⟩
theorem Dep_0 {n : Int} {d : Nat → Int32} (h : n ≤ 1) : Dep n d := fun k h1 h2 => by omega
theorem Dep_o {n : Int} {d : Nat → Int32} {i : Nat} {v : Int32} (h : Dep n d) (hi : (i : Int) = n) : Dep n (upd d i v) := fun k h1 h2 => by rw [up_o (by omega)]; exact h k h1 h2
def Dpq (r n : Int) (d d2 : Nat → Int32) : Prop := r = 0 ∨ ∀ k : Nat, ¬ (k : Int) = n → d2 k = d k
theorem Dpq_0 {r n : Int} {d d2 : Nat → Int32} (h : r = 0) : Dpq r n d d2 := Or.inl h
theorem Dpq_i {r n : Int} {d e : Nat → Int32} {i : Nat} {v : Int32} (h : e = d) (hi : (i : Int) = n) : Dpq r n d (upd e i v) := Or.inr (fun k hk => by rw [up_o (by omega), h])
def Stq (n u U inp : Int) (f d : Nat → Int32) (p m : Nat → Int64) (F D : Nat → Int32) (P M : Nat → Int64) : Prop := (∀ k : Nat, (k : Int) < n → F k = f k) ∧ (F n.toNat).toInt = u ∧ (F (n.toNat + 1)).toInt = U ∧ u < U ∧ (∀ k : Nat, ¬ (k : Int) = n → D k = d k) ∧ (0 ≤ (D n.toNat).toInt ∧ (D n.toNat).toInt ≤ n) ∧ Pe u p P ∧ nv (P u.toNat) = n.toNat ∧ Pe u m M ∧ Bm (M u.toNat) ∧ (n ≤ inp ∨ (Dat n (D n.toNat).toInt u U D P ∧ Rwx n u U P))
theorem dpl_e : ∀ {l : List Nat} {g : Nat} {d e : Nat → Int32} {v : Int32}, Fall g l → (∀ k, k < g → e k = d k) → dpl e v l = dpl d v l
  | [], _, _, _, _, _, _ => rfl
  | a :: l, g, d, e, v, h, he => by
    show dpl e (op_mx v (e a)) l = dpl d (op_mx v (d a)) l
    rw [he a h.1.2]
    exact dpl_e h.2 (fun k hk => he k (by have := h.1.2; omega))
theorem Dat_t {n v s u s2 u2 U : Int} {d e : Nat → Int32} {p q : Nat → Int64} (h : Dat n v s u d p) (hp : Pe U p q) (hU : u ≤ U) (es : s2 = s) (eu : u ≤ u2) (he : ∀ k : Nat, (k : Int) < n → e k = d k) : Dat n v s2 u2 e q := by
  obtain ⟨i, i1, i2, l, l1, l2, l3, l4⟩ := h
  refine ⟨i, by omega, by omega, l, ?_, l2, l3, ?_⟩
  · rw [hp i (by omega)]; exact l1
  · rw [dpl_e l2 (fun k hk => he k (by omega))]; exact l4
theorem Stq_all {n u U inp : Int} {f d F D : Nat → Int32} {p m P M : Nat → Int64} (S : Stq n u U inp f d p m F D P M) (hs : Sts n u f) (hR : Rnk n f p m) (hd : Dep n d) (hA : Rka inp n u f d p) (h1 : 1 ≤ n) (h0 : 0 ≤ u) (hI : 0 ≤ inp) : Rnk (n + 1) F P M ∧ Dep (n + 1) D ∧ Rka inp (n + 1) U F D P := by
  obtain ⟨s1, s2, s3, s4, s5, s6, s7, s8, s9, s10, s11⟩ := S
  have nx : ∀ k : Nat, 1 ≤ (k : Int) → (k : Int) < n → (f (k + 1)).toInt ≤ u ∧ (f (k + 1)).toInt ≤ (F (k + 1)).toInt := by
    intro k q1 q2
    have t : (f (k + 1)).toInt ≤ u := by
      rcases hs with z | z
      · omega
      · exact (z (k + 1) (by omega) (by omega)).2
    refine ⟨t, ?_⟩
    by_cases e : ((k + 1 : Nat) : Int) < n
    · rw [s1 _ e]; exact Int.le_refl _
    · rw [show k + 1 = n.toNat by omega, s2, show n.toNat = k + 1 by omega]; exact t
  refine ⟨fun k q1 q2 => ?_, fun k q1 q2 => ?_, Or.inr (by rw [show (n + 1).toNat = n.toNat + 1 by omega]; exact s3), fun k q1 q2 => ?_⟩
  · by_cases e : (k : Int) < n
    · obtain ⟨a, b, c, dd⟩ := hR k q1 e
      have t := nx k q1 e
      rw [s1 k e, s7 _ (by omega), s9 _ (by omega)]
      exact ⟨a, by omega, c, dd⟩
    · have ek : k = n.toNat := by omega
      rw [ek, s2]
      exact ⟨h0, by rw [s3]; exact s4, s8, s10⟩
  · by_cases e : (k : Int) < n
    · rw [s5 k (by omega)]; exact hd k q1 e
    · have ek : k = n.toNat := by omega
      rw [ek]; exact ⟨s6.1, by have := s6.2; omega⟩
  · by_cases e : (k : Int) < n
    · rw [s5 k (by omega)]
      have q3 : 1 ≤ (k : Int) := by omega
      have t := nx k q3 e
      have hk := hA.2 k q1 e
      refine ⟨Dat_t hk.1 s7 t.1 (by rw [s1 k e]) t.2 (fun j hj => s5 j (by omega)), fun i i1 i2 => ?_⟩
      rw [s1 k e] at i1
      have i3 : (i : Int) < (f (k + 1)).toInt := by
        by_cases e9 : ((k + 1 : Nat) : Int) < n
        · rw [s1 _ e9] at i2; exact i2
        · have e8 : k + 1 = n.toNat := by omega
          rw [e8, s2] at i2
          rcases hA.1 with z | z
          · omega
          · rw [e8, z]; exact i2
      rw [s7 i (by omega)]
      exact hk.2 i i1 i3
    · have ek : k = n.toNat := by omega
      rcases s11 with z | z
      · omega
      · rw [ek, s2, s3]
        have : ((n.toNat : Nat) : Int) = n := by omega
        rw [this]; exact z
theorem bm_all : ∀ k : Nat, k < 64 → nv ((1 : Int64) <<< ((Int32.ofNat k).toInt64 &&& 63)) = 2 ^ k := by decide +kernel
theorem Bm_i {w : Int64} {s : Int32} (e : w = (1 : Int64) <<< (s.toInt64 &&& 63)) (h : 0 ≤ s.toInt) (h2 : s.toInt ≤ 63) : Bm w := by
  refine ⟨s.toInt.toNat, by omega, ?_⟩
  have es : s = Int32.ofNat s.toInt.toNat := by
    apply Int32.toInt_inj.mp
    rw [Int32.toInt_ofNat_of_lt (by omega)]
    omega
  have t := bm_all s.toInt.toNat (by omega)
  rw [← es] at t
  rw [e]; exact t
theorem Stq_n {n u U inp : Int} {f d g F D : Nat → Int32} {p m P M : Nat → Int64} {i j : Nat} {a b : Int32} {v w : Int64} (eg : g = upd f i a) (hi : (i : Int) = n) (ha : a.toInt = u) (eF : F = upd g j b) (hj : (j : Int) = n + 1) (hb : b.toInt = U) (eD : D = upd d i 0) (aP : Adp u v p P) (hv : nv v = n.toNat) (aM : Adp u w m M) (hw : Bm w) (hU : U = u + 1) (hinp : n ≤ inp) (h1 : 1 ≤ n) : Stq n u U inp f d p m F D P M := by
  have ei : n.toNat = i := by omega
  have ej : n.toNat + 1 = j := by omega
  refine ⟨fun k hk => ?_, ?_, ?_, by omega, fun k hk => ?_, ?_, aP.2, ?_, aM.2, ?_, Or.inl hinp⟩
  · rw [eF, up_o (by omega), eg, up_o (by omega)]
  · rw [eF, up_o (by omega), eg, ei, up_s]; exact ha
  · rw [eF, ej, up_s]; exact hb
  · rw [eD, up_o (by omega)]
  · rw [eD, ei, up_s]; exact ⟨by decide, by show (0 : Int) ≤ n; omega⟩
  · rw [aP.1]; exact hv
  · rw [aM.1]; exact hw
theorem Stq_g {n u U U1 inp r s : Int} {f d g F D D1 : Nat → Int32} {p m P P1 M M1 : Nat → Int64} {i j : Nat} {a b : Int32} {v w : Int64} (eg : g = upd f i a) (hi : (i : Int) = n) (ha : a.toInt = u) (eF : F = upd g j b) (hj : (j : Int) = n + 1) (hb : b.toInt = U) (eD : D1 = upd d i 0) (aP : Adp u v p P1) (hv : nv v = n.toNat) (aM : Adp u w m M1) (hw : Bm w) (pP : Pe U1 P1 P) (pM : Pe U1 M1 M) (hU1 : U1 = u + 1) (hU : U1 ≤ U) (h0 : 0 ≤ u) (dq : Dpq r n D1 D) (rk : Rkq r n s U D P) (hr : ¬ r = 0) (es : s = u) (h1 : 1 ≤ n) (kw : Kw (s + 1) U P) (nvp : Nvp n s P) : Stq n u U inp f d p m F D P M := by
  have ei : n.toNat = i := by omega
  have ej : n.toNat + 1 = j := by omega
  rcases dq with z | dq
  · exact absurd z hr
  rcases rk with z | rk
  · exact absurd z hr
  refine ⟨fun k hk => ?_, ?_, ?_, by omega, fun k hk => ?_, rk.1, fun q hq => ?_, ?_, fun q hq => ?_, ?_, Or.inr ⟨by rw [← es]; exact rk.2, fun q q1 q2 => ?_⟩⟩
  · rw [eF, up_o (by omega), eg, up_o (by omega)]
  · rw [eF, up_o (by omega), eg, ei, up_s]; exact ha
  · rw [eF, ej, up_s]; exact hb
  · rw [dq k hk, eD, up_o (by omega)]
  · rw [pP q (by omega)]; exact aP.2 q hq
  · rw [pP _ (by omega), aP.1]; exact hv
  · rw [pM q (by omega)]; exact aM.2 q hq
  · rw [pM _ (by omega), aM.1]; exact hw
  · have c := kw.2 q q2 (by omega)
    rw [show (s + 1 - 1).toNat = s.toNat by omega, show nv (P s.toNat) = n.toNat from nvp] at c
    exact c
theorem Rnk_e {n n2 : Int} {f : Nat → Int32} {p m : Nat → Int64} (h : Rnk n f p m) (e : n2 = n) : Rnk n2 f p m := by rw [e]; exact h
theorem Dep_e {n n2 : Int} {d : Nat → Int32} (h : Dep n d) (e : n2 = n) : Dep n2 d := by rw [e]; exact h
theorem Rka_e {inp n n2 u u2 : Int} {f d : Nat → Int32} {p : Nat → Int64} (h : Rka inp n u f d p) (e : n2 = n) (eu : u2 = u) : Rka inp n2 u2 f d p := by rw [e, eu]; exact h
theorem Rnk_a {n u : Int} {f : Nat → Int32} {p m P M : Nat → Int64} {i : Nat} {a : Int32} {v w : Int64} (hR : Rnk n f p m) (hs : Sts n u f) (hi : (i : Int) = n) (ha : a.toInt = u) (aP : Adp u v p P) (aM : Adp u w m M) (h1 : 1 ≤ n) : Rnk n (upd f i a) P M := fun k q1 q2 => by
  obtain ⟨x, y, z, t⟩ := hR k q1 q2
  have b : (f (k + 1)).toInt ≤ u := by
    rcases hs with z | z
    · omega
    · exact (z (k + 1) (by omega) (by omega)).2
  rw [up_o (by omega), aP.2 _ (by omega), aM.2 _ (by omega)]
  refine ⟨x, ?_, z, t⟩
  by_cases e : k + 1 = i
  · rw [e, up_s]; omega
  · rw [up_o e]; exact y
def Fqr (r inp N u : Int) (f d : Nat → Int32) (p : Nat → Int64) : Prop := r = 0 ∨ (Sts N u f ∧ Ka N u p ∧ Dep N d ∧ Rka inp N u f d p)
theorem Fqr_0 {r inp N u : Int} {f d : Nat → Int32} {p : Nat → Int64} (e : r = 0) : Fqr r inp N u f d p := Or.inl e
theorem Fqr_1 {r inp N v u : Int} {f d : Nat → Int32} {p : Nat → Int64} (h1 : Sts v u f) (h2 : Ka v u p) (h3 : Dep v d) (h4 : Rka inp v u f d p) (e : N = v) : Fqr r inp N u f d p := by rw [e]; exact Or.inr ⟨h1, h2, h3, h4⟩

def Lmp (m u : Int) (p : Nat → Int64) : Prop := ∀ i : Nat, (i : Int) < u → nv (p i) < 256 ^ m.toNat
def Lnw (m u u2 : Int) (p : Nat → Int64) : Prop := ∀ i : Nat, u ≤ (i : Int) → (i : Int) < u2 → nv (p i) < 256 ^ m.toNat
theorem Lnw_0 {m u u2 : Int} {p : Nat → Int64} (e : u2 ≤ u) : Lnw m u u2 p := fun i h1 h2 => by omega
theorem Lnw_a {m u w w2 : Int} {v : Int64} {p p2 : Nat → Int64} (h : Lnw m u w p) (a : Adp w v p p2) (hv : nv v < 256 ^ m.toNat) (e : w2 = w + 1) (h0 : 0 ≤ w) : Lnw m u w2 p2 := fun i h1 h2 => by
  by_cases q : (i : Int) < w
  · rw [a.2 i q]; exact h i h1 q
  · rw [show i = w.toNat by omega, a.1]; exact hv
theorem pw_0 {m : Nat} : nv 0 < 256 ^ m := Nat.pow_pos (by decide)
theorem Kj2 {w u : Int} {f : Nat → Int64} {i j : Nat} {v : Int32} {x y q : Int64} (h : Kw w u f) (hi : (i : Int) < u) (hi2 : ¬ (i : Int) = w - 1) (hj : (j : Int) < u) (hj2 : ¬ (j : Int) = w - 1) (ex : x = f i) (ey : y = f j) (h0 : 0 ≤ v.toInt) (h5 : v.toInt ≤ 5) (e : fCu_join x y v = some q) : nv q < 256 ^ v.toInt.toNat := by
  obtain ⟨a, a1, a2, a3⟩ := h.2 i hi hi2
  obtain ⟨b, b1, b2, b3⟩ := h.2 j hj hj2
  have hg := h.1
  rcases join_sp (g := nv (f (w - 1).toNat)) (by omega) a2 b2 (by rw [ex]; exact a1) (by rw [ey]; exact b1) h0 h5 e with ⟨q1, q2⟩ | ⟨q1, q2⟩
  · rw [q2]
    have z := enc_lt (mrg_Fall v.toInt.toNat a2 b2) (by omega)
    exact Nat.lt_of_lt_of_le z (Nat.pow_le_pow_right (by decide) (mrg_len _ _ _))
  · rw [q2]; exact pw_0
theorem Lmp_0 {m u : Int} {p : Nat → Int64} (e : u ≤ 0) : Lmp m u p := fun i h => by omega
theorem Lmp_j {m s u u2 : Int} {p p2 : Nat → Int64} (h : Lmp m u p) (hp : Pe u p p2) (hn : Lnw s u u2 p2) (e : s ≤ m) : Lmp m u2 p2 := fun i hi => by
  by_cases q : (i : Int) < u
  · rw [hp i q]; exact h i q
  · exact Nat.lt_of_lt_of_le (hn i (by omega) hi) (Nat.pow_le_pow_right (by decide) (by omega))
theorem Lmp_a {m u u2 n : Int} {v : Int64} {p p2 : Nat → Int64} (h : Lmp m u p) (a : Adp u v p p2) (hv : nv v = n.toNat) (hn : n < 209) (hm : 1 ≤ m) (e : u2 = u + 1) (h0 : 0 ≤ u) : Lmp m u2 p2 := fun i hi => by
  by_cases q : (i : Int) < u
  · rw [a.2 i q]; exact h i q
  · rw [show i = u.toNat by omega, a.1, hv]
    have : 256 ^ 1 ≤ 256 ^ m.toNat := Nat.pow_le_pow_right (by decide) (by omega)
    omega
theorem Lmp_e {m m2 u u2 : Int} {p : Nat → Int64} (h : Lmp m u p) (e : m2 = m) (e2 : u2 = u) : Lmp m2 u2 p := by rw [e, e2]; exact h
def Fqs (r inp N u : Int) (f d : Nat → Int32) (p : Nat → Int64) : Prop := Fqr r inp N u f d p ∧ (r = 0 ∨ Lmp r u p)
theorem Fqs_0 {r inp N u : Int} {f d : Nat → Int32} {p : Nat → Int64} (e : r = 0) : Fqs r inp N u f d p := ⟨Or.inl e, Or.inl e⟩
theorem Fqs_1 {r inp N v u m : Int} {f d : Nat → Int32} {p : Nat → Int64} (h1 : Sts v u f) (h2 : Ka v u p) (h3 : Dep v d) (h4 : Rka inp v u f d p) (e : N = v) (h5 : Lmp m u p) (em : r = m) : Fqs r inp N u f d p := ⟨Fqr_1 h1 h2 h3 h4 e, Or.inr (by rw [em]; exact h5)⟩

def Ctg (g T : Int) (d : Nat → Int32) (v : Int64) : Prop := ∃ l, nv v = enc l ∧ Fall g.toNat l ∧ l.length ≤ 5 ∧ (dpl d 0 l).toInt + 1 ≤ T
def Cgg (g : Int) (d : Nat → Int32) (v : Int64) : Prop := Ctg g (d g.toNat).toInt d v
def Brw (g u : Int) (f d : Nat → Int32) (p : Nat → Int64) : Prop := 1 ≤ g ∧ g < 209 ∧ 0 ≤ (f g.toNat).toInt ∧ (f (g.toNat + 1)).toInt ≤ u ∧ Dep g d ∧ Dat g (d g.toNat).toInt (f g.toNat).toInt (f (g.toNat + 1)).toInt d p ∧ Rwx g (f g.toNat).toInt (f (g.toNat + 1)).toInt p
def Bhl (r g : Int) (f : Nat → Int32) : Prop := r = (f (g.toNat + 1)).toInt
theorem Bhl_i {r : Int32} {g : Int} {f : Nat → Int32} {i : Nat} (e : r = f i) (hi : (i : Int) = g + 1) (h0 : 0 ≤ g) : Bhl r.toInt g f := by
  unfold Bhl; rw [e, show g.toNat + 1 = i by omega]
theorem Brw_i {r inp N u g : Int} {f d : Nat → Int32} {p : Nat → Int64} (h : Fqr r inp N u f d p) (hr : ¬ r = 0) (h1 : inp < g) (h0 : 0 ≤ inp) (h2 : g < N) (hN : N ≤ 209) : Brw g u f d p := by
  rcases h with h | ⟨a, b, c, e⟩
  · exact absurd h hr
  rcases a with a | a
  · omega
  have a1 := a g.toNat (by omega) (by omega)
  have a2 := a (g.toNat + 1) (by omega) (by omega)
  have t := e.2 g.toNat (by omega) (by omega)
  rw [show ((g.toNat : Nat) : Int) = g by omega] at t
  exact ⟨by omega, by omega, a1.1, a2.2, fun k k1 k2 => c k k1 (by omega), t.1, t.2⟩
theorem Brw_l {g u r : Int} {f d : Nat → Int32} {p : Nat → Int64} (h : Brw g u f d p) (B : Bhl r g f) : r ≤ u := by rw [B]; exact h.2.2.2.1
theorem Brw_at {g u a r : Int} {f d : Nat → Int32} {p : Nat → Int64} {i : Nat} {x : Int64} (h : Brw g u f d p) (B : Bhl r g f) (hi : (i : Int) = a) (h1 : (f g.toNat).toInt + 1 ≤ a) (h2 : a < r) (hx : x = p i) : Cnn g.toNat x := by
  rw [B] at h2; rw [hx]; exact h.2.2.2.2.2.2 i (by omega) (by omega)
theorem Cnn_lt {g : Nat} {x : Int64} (h : Cnn g x) (hg : g ≤ 209) : lg_cmp x 9223372036854775807 < 0 := by
  have b := (Cn_k h hg).1
  have b : nv x < 1099511627776 := b
  have e1 : x.toInt = (nv x : Int) := l_nn' (z := x) (by show nv x < _; omega)
  have e2 : (9223372036854775807 : Int64).toInt = 9223372036854775807 := by decide
  exact (lg_cmp_lt _ _).mpr (Int64.lt_iff_toInt_lt.mpr (by rw [e2]; omega))
theorem Cnn_b {g : Nat} {x : Int64} (h : Cnn g x) (hg : g ≤ 209) : Bo x := (Cn_k h hg).2
theorem dp_at {g u : Int} {f d : Nat → Int32} {p : Nat → Int64} {x : Int64} {o : cf_O} {q : Int32} {l : List Nat} (h : Brw g u f d p) (h1 : nv x = enc l) (h2 : Fall g.toNat l) (e : fCu_depthOf x o = some q) (eo : o.2.1 1 = d) : q.toInt = (dpl d 0 l).toInt + 1 ∧ (dpl d 0 l + 1).toInt = (dpl d 0 l).toInt + 1 := by
  have g1 := h.1
  have g2 := h.2.1
  have r := depth_sp (g := g.toNat) (l := l) (by omega) h2 h1 e
  rw [eo] at r
  have b := dpl_b (n := g) (v := 0) h2 h.2.2.2.2.1 (by omega) g1 (by decide) (by show (0 : Int) ≤ g - 1; omega)
  have r1 : (dpl d 0 l + 1).toInt = (dpl d 0 l).toInt + 1 := by rw [i_add (by show -2147483648 ≤ _ + (1 : Int); omega) (by show _ + (1 : Int) ≤ 2147483647; omega)]; rfl
  exact ⟨by rw [r, r1], r1⟩
def Bst (g a : Int) (b : Int64) (f d : Nat → Int32) (p : Nat → Int64) : Prop := (b = 9223372036854775807 ∧ Dat g (d g.toNat).toInt (a - 1) (f (g.toNat + 1)).toInt d p) ∨ Cgg g d b
theorem Bst_0 {g u a : Int} {f d : Nat → Int32} {p : Nat → Int64} (h : Brw g u f d p) (e : a = (f g.toNat).toInt + 1) : Bst g a 9223372036854775807 f d p := by
  refine Or.inl ⟨rfl, ?_⟩
  rw [show a - 1 = (f g.toNat).toInt by omega]; exact h.2.2.2.2.2.1
theorem Bst_x {g a r : Int} {b : Int64} {f d : Nat → Int32} {p : Nat → Int64} (h : Bst g a b f d p) (B : Bhl r g f) (e : r ≤ a) : Cgg g d b := by
  rcases h with ⟨-, i, i1, i2, -⟩ | h
  · rw [B] at e; omega
  · exact h
theorem Bst_k {g a a2 : Int} {b x : Int64} {c : Int32} {f d : Nat → Int32} {p : Nat → Int64} (h : Bst g a b f d p) (hx : Cnn g.toNat x) (hg : g < 209) (hc : c = lg_cmp x b) (c0 : 0 ≤ c.toInt) : Bst g a2 b f d p := by
  rcases h with ⟨h, -⟩ | h
  · exfalso
    have t := Int32.lt_iff_toInt_lt.mp (Cnn_lt hx (by omega))
    rw [hc, h] at c0
    have e0 : (0 : Int32).toInt = 0 := rfl
    omega
  · exact Or.inr h
theorem Bst_t {g u a a2 : Int} {x : Int64} {q : Int32} {f d : Nat → Int32} {p : Nat → Int64} {o : cf_O} (hB : Brw g u f d p) (hx : Cnn g.toNat x) (e : fCu_depthOf x o = some q) (eo : o.2.1 1 = d) (hq : q.toInt = (d g.toNat).toInt) : Bst g a2 x f d p := by
  obtain ⟨l, l1, l2, l3⟩ := hx
  have t := dp_at hB l1 l2 e eo
  exact Or.inr ⟨l, l1, l2, l3, by omega⟩
theorem Bst_t2 {g u a2 : Int} {x y : Int64} {q : Int32} {i : Nat} {f d : Nat → Int32} {p : Nat → Int64} {o : cf_O} (hB : Brw g u f d p) (hy : Cnn g.toNat y) (e : fCu_depthOf x o = some q) (eo : o.2.1 1 = d) (ex : x = p i) (ey : y = p i) (hq : q.toInt = (d g.toNat).toInt) : Bst g a2 y f d p := by
  have exy : x = y := ex.trans ey.symm
  rw [exy] at e
  exact Bst_t (a := 0) hB hy e eo hq
theorem Bst_n {g u a a2 : Int} {b x : Int64} {q : Int32} {i : Nat} {f d : Nat → Int32} {p : Nat → Int64} {o : cf_O} (h : Bst g a b f d p) (hB : Brw g u f d p) (hi : (i : Int) = a) (hx : x = p i) (e : fCu_depthOf x o = some q) (eo : o.2.1 1 = d) (hq : ¬ q.toInt = (d g.toNat).toInt) (ea : a2 = a + 1) : Bst g a2 b f d p := by
  rcases h with ⟨h, k, k1, k2, l, l1, l2, l3, l4⟩ | h
  · refine Or.inl ⟨h, k, ?_, k2, l, l1, l2, l3, l4⟩
    by_cases z : k = i
    · exfalso
      have t := dp_at hB (x := x) (by rw [hx, ← z]; exact l1) l2 e eo
      omega
    · omega
  · exact Or.inr h
def Fst (g a w T : Int) (b : Int64) (f d : Nat → Int32) (p : Nat → Int64) : Prop := (b = 9223372036854775807 ∧ w = 209 ∧ Dat g (d g.toNat).toInt (a - 1) (f (g.toNat + 1)).toInt d p) ∨ Ctg g T d b
theorem Fst_0 {g u a w T : Int} {f d : Nat → Int32} {p : Nat → Int64} (h : Brw g u f d p) (e : a = (f g.toNat).toInt + 1) (ew : w = 209) : Fst g a w T 9223372036854775807 f d p := by
  refine Or.inl ⟨rfl, ew, ?_⟩
  rw [show a - 1 = (f g.toNat).toInt by omega]; exact h.2.2.2.2.2.1
theorem Fst_x {g a r w T : Int} {b : Int64} {f d : Nat → Int32} {p : Nat → Int64} (h : Fst g a w T b f d p) (B : Bhl r g f) (e : r ≤ a) : Ctg g T d b := by
  rcases h with ⟨-, -, i, i1, i2, -⟩ | h
  · rw [B] at e; omega
  · exact h
theorem Fst_k {g a a2 w w2 T : Int} {b : Int64} {f d : Nat → Int32} {p : Nat → Int64} (h : Fst g a w T b f d p) (hw : w < 209) : Fst g a2 w2 T b f d p := by
  rcases h with ⟨-, h, -⟩ | h
  · omega
  · exact Or.inr h
theorem Fst_t {g u a2 w2 T : Int} {x : Int64} {q : Int32} {f d : Nat → Int32} {p : Nat → Int64} {o : cf_O} (hB : Brw g u f d p) (hx : Cnn g.toNat x) (e : fCu_depthOf x o = some q) (eo : o.2.1 1 = d) (hq : q.toInt ≤ T) : Fst g a2 w2 T x f d p := by
  obtain ⟨l, l1, l2, l3⟩ := hx
  have t := dp_at hB l1 l2 e eo
  exact Or.inr ⟨l, l1, l2, l3, by omega⟩
theorem Fst_n {g u a a2 w T : Int} {b x : Int64} {q : Int32} {i : Nat} {f d : Nat → Int32} {p : Nat → Int64} {o : cf_O} (h : Fst g a w T b f d p) (hB : Brw g u f d p) (hi : (i : Int) = a) (hx : x = p i) (e : fCu_depthOf x o = some q) (eo : o.2.1 1 = d) (hT : (d g.toNat).toInt ≤ T) (hq : T < q.toInt) (ea : a2 = a + 1) : Fst g a2 w T b f d p := by
  rcases h with ⟨h, hw, k, k1, k2, l, l1, l2, l3, l4⟩ | h
  · refine Or.inl ⟨h, hw, k, ?_, k2, l, l1, l2, l3, l4⟩
    by_cases z : k = i
    · exfalso
      have t := dp_at hB (x := x) (by rw [hx, ← z]; exact l1) l2 e eo
      omega
    · omega
  · exact Or.inr h

def Inb (v : Int64) (k : Int) : Prop := ∃ j : Nat, ((nv v / 256 ^ j % 256 : Nat) : Int) = k
theorem sm_8 {s : Int32} {j : Int} (hs : s.toInt = 8 * j) : (s.toInt64.toUInt64 &&& Int64.toUInt64 63).toNat % 64 = 8 * (j % 8).toNat := by
  have n1 : s.toInt64.toUInt64.toNat = s.toInt64.toBitVec.toNat := rfl
  have n2 : s.toInt64.toInt = s.toInt := Int32.toInt_toInt64 s
  have n3 : s.toInt64.toInt = if 2 * s.toInt64.toBitVec.toNat < 2 ^ 64 then (s.toInt64.toBitVec.toNat : Int) else (s.toInt64.toBitVec.toNat : Int) - (2 ^ 64 : Nat) := BitVec.toInt_eq_toNat_cond _
  rw [UInt64.toNat_and, n1, show (Int64.toUInt64 63).toNat = 2 ^ 6 - 1 from by decide, Nat.and_two_pow_sub_one_eq_mod]
  split at n3 <;> omega
theorem Inb_i {v x y : Int64} {s z j8 : Int32} (hx : x = (v.toUInt64 >>> (s.toInt64.toUInt64 &&& Int64.toUInt64 63)).toInt64) (hy : y = x &&& 255) (hz : z = y.toInt32) (hs8 : s = 8 * j8) : Inb v z.toInt := by
  obtain ⟨j, hs⟩ : ∃ j : Int, s.toInt = 8 * j := by
    have e : s.toInt % 4294967296 = (8 * j8.toInt) % 4294967296 := by
      rw [hs8, Int32.toInt_mul, show (8 : Int32).toInt = 8 from rfl]
      exact Int.bmod_emod
    exact ⟨s.toInt / 8, by omega⟩
  refine ⟨(j % 8).toNat, ?_⟩
  have e1 : nv x = nv v / 256 ^ (j % 8).toNat := by
    rw [hx]
    show (v.toUInt64 >>> (s.toInt64.toUInt64 &&& Int64.toUInt64 63)).toNat = _
    rw [UInt64.toNat_shiftRight, sm_8 hs, Nat.shiftRight_eq_div_pow, Nat.pow_mul]; rfl
  have e2 : nv y = nv x % 256 := by rw [hy, nv_and]
  have e3 : y.toInt = (nv y : Int) := l_nn' (z := y) (by show nv y < _; omega)
  rw [hz, Int64.toInt_toInt32, i_bm (by omega) (by omega), e3, e2, e1]
theorem nodeAt_sp {v : Int64} {p r : Int32} (h : fCu_nodeAt v p = some r) : Inb v r.toInt := by
  unfold fCu_nodeAt fCu_nodeAt_0 at h
  cases hs : fCu_sizeOf v with
  | none => rw [hs] at h; cases h
  | some s =>
    rw [hs] at h
    have h : some ((v.toUInt64 >>> ((8 * (s - 1 - p)).toInt64.toUInt64 &&& Int64.toUInt64 63)).toInt64 &&& 255).toInt32 = some r := h
    injection h with h
    exact Inb_i rfl rfl h.symm rfl
theorem enc_in : ∀ {l : List Nat} {g : Nat} (k : Nat), Fall g l → g ≤ 256 → enc l / 256 ^ k % 256 = 0 ∨ enc l / 256 ^ k % 256 ∈ l
  | [], _, k, _, _ => Or.inl (by show 0 / 256 ^ k % 256 = 0; rw [Nat.zero_div])
  | a :: l, g, 0, h, hg => Or.inr (by rw [Nat.pow_zero, Nat.div_one, enc_mod (by have := h.1.2; omega)]; exact List.mem_cons_self)
  | a :: l, g, k + 1, h, hg => by
    rw [Nat.pow_succ, Nat.mul_comm, ← Nat.div_div_eq_div_mul, enc_div (by have := h.1.2; omega)]
    rcases enc_in k h.2 (by have := h.1.2; omega) with q | q
    · exact Or.inl q
    · exact Or.inr (List.mem_cons_of_mem _ q)
theorem dpl_v : ∀ {l : List Nat} {d : Nat → Int32} {v : Int32}, v.toInt ≤ (dpl d v l).toInt
  | [], _, _ => Int.le_refl _
  | a :: l, d, v => by
    have t := dpl_v (l := l) (d := d) (v := op_mx v (d a))
    rw [mx_n] at t
    show _ ≤ (dpl d (op_mx v (d a)) l).toInt
    omega
theorem dpl_m : ∀ {l : List Nat} {d : Nat → Int32} {v : Int32} {k : Nat}, k ∈ l → (d k).toInt ≤ (dpl d v l).toInt
  | [], _, _, _, h => by cases h
  | a :: l, d, v, k, h => by
    rcases List.mem_cons.mp h with e | e
    · have t := dpl_v (l := l) (d := d) (v := op_mx v (d a))
      rw [mx_n] at t
      show _ ≤ (dpl d (op_mx v (d a)) l).toInt
      rw [e]; omega
    · exact dpl_m (l := l) e
theorem Fall_mm : ∀ {l : List Nat} {g k : Nat}, Fall g l → k ∈ l → k < g
  | [], _, _, _, h => by cases h
  | a :: l, g, k, h, hk => by
    rcases List.mem_cons.mp hk with e | e
    · rw [e]; exact h.1.2
    · have := Fall_mm h.2 e; have := h.1.2; omega
theorem Ctg_in {g T k : Int} {d : Nat → Int32} {v : Int64} (h : Ctg g T d v) (b : Inb v k) (h1 : 1 ≤ k) (hg : g ≤ 209) : k < g ∧ (d k.toNat).toInt + 1 ≤ T := by
  obtain ⟨l, l1, l2, l3, l4⟩ := h
  obtain ⟨j, hj⟩ := b
  rw [l1] at hj
  rcases enc_in j l2 (by omega) with q | q
  · omega
  · have e : enc l / 256 ^ j % 256 = k.toNat := by omega
    rw [e] at q
    have t := dpl_m (d := d) (v := 0) q
    have t2 := Fall_mm l2 q
    exact ⟨by omega, by omega⟩
theorem Ctg_k {g T : Int} {d : Nat → Int32} {v : Int64} (h : Ctg g T d v) (hg : g ≤ 209) : Bk v := by
  obtain ⟨l, l1, l2, l3, l4⟩ := h
  exact Cn_k (g := g.toNat) ⟨l, l1, l2, l3⟩ (by omega)
theorem Ctg_w {g T : Int} {d : Nat → Int32} {v : Int64} (h : Cgg g d v) (e : (d g.toNat).toInt ≤ T) : Ctg g T d v := by
  obtain ⟨l, l1, l2, l3, l4⟩ := h
  exact ⟨l, l1, l2, l3, by omega⟩
theorem mn_n (x y : Int32) : (op_mn x y).toInt = min x.toInt y.toInt := by
  unfold op_mn
  split
  · rename_i h; have := Int32.lt_iff_toInt_lt.mp h; omega
  · rename_i h; have h2 : ¬ y.toInt < x.toInt := fun q => h (Int32.lt_iff_toInt_lt.mpr q); omega
def Wnp (v : Int64) (T : Int) (t t2 : Nat → Int32) : Prop := ∀ k : Nat, t2 k = t k ∨ (Inb v (k : Int) ∧ 1 ≤ k ∧ (t2 k).toInt = T)
theorem Wnp_0 {v : Int64} {T : Int} {t : Nat → Int32} : Wnp v T t t := fun k => Or.inl rfl
theorem Wnp_s {v : Int64} {T q : Int} {t t2 : Nat → Int32} {i : Nat} {w : Int32} (h : Wnp v T t t2) (b : Inb v q) (hi : (i : Int) = q) (h1 : 1 ≤ q) (hv : w.toInt = T ∨ w.toInt = (t2 i).toInt) : Wnp v T t (upd t2 i w) := fun k => by
  by_cases e : k = i
  · rw [e, up_s]
    rcases hv with z | z
    · exact Or.inr ⟨by rw [hi]; exact b, by omega, z⟩
    · rw [Int32.toInt_inj.mp z]; exact h i
  · rw [up_o e]; exact h k
theorem Wnp_m {v : Int64} {T q : Int} {t t2 : Nat → Int32} {i : Nat} {w x y : Int32} (h : Wnp v T t t2) (b : Inb v q) (hi : (i : Int) = q) (h1 : 1 ≤ q) (em : w = op_mn x y) (hx : x = t2 i) (hy : y.toInt = T) : Wnp v T t (upd t2 i w) := Wnp_s h b hi h1 (by rw [← hx, em, mn_n, hy]; omega)
def Tdm (d t : Nat → Int32) : Prop := ∀ k : Nat, k < 209 → (t k).toInt = -1 ∨ (d k).toInt ≤ (t k).toInt
def Fmo (K : Int) (f : Nat → Int32) : Prop := ∀ k : Nat, (k : Int) < K → (f k).toInt = -1
theorem Fmo_0 (f : Nat → Int32) : Fmo 0 f := fun k h => by omega
theorem Fmo_s {n n2 : Int} {f : Nat → Int32} {i : Nat} {v : Int32} (h : Fmo n f) (hn : n2 = n + 1) (hi : (i : Int) = n) (hv : v.toInt = -1) : Fmo n2 (upd f i v) := fun k q => by
  by_cases e : k = i
  · rw [e, up_s]; exact hv
  · rw [up_o e]; exact h k (by omega)
theorem Fmo_e {n n2 : Int} {f : Nat → Int32} (h : Fmo n f) (e : n2 = n) : Fmo n2 f := by rw [e]; exact h
theorem Tdm_0 {d t : Nat → Int32} (h : Fmo 209 t) : Tdm d t := fun k hk => Or.inl (h k (by omega))
theorem Tdm_s {d t : Nat → Int32} {i : Nat} {v : Int32} (h : Tdm d t) (hv : (d i).toInt ≤ v.toInt) : Tdm d (upd t i v) := fun k hk => by
  by_cases e : k = i
  · rw [e, up_s]; exact Or.inr hv
  · rw [up_o e]; exact h k hk
def Gmx (N G : Int) (f d : Nat → Int32) : Prop := ∀ k : Nat, (k : Int) < N → (d ((f k).toInt / 2).toNat).toInt ≤ G
theorem Gmx_0 {G : Int} {f d : Nat → Int32} : Gmx 0 G f d := fun k h => by omega
theorem Gmx_s {n n2 G G2 : Int} {f d : Nat → Int32} {i : Nat} {x3 x4 x6 w w2 : Int32} (h : Gmx n G f d) (hi : (i : Int) = n) (em : w2 = op_mx w x6) (e6 : x6 = d x4.toNatClampNeg) (e3 : x3 = f i) (h4 : x4.toInt = x3.toInt / 2) (hG : G = w.toInt) (hG2 : G2 = w2.toInt) (hn : n2 = n + 1) : Gmx n2 G2 f d := fun k hk => by
  have hG : G2 = max G x6.toInt := by rw [hG2, em, mx_n, hG]
  by_cases e : k = i
  · rw [e, ← e3, ← h4]
    have : (d x4.toInt.toNat) = x6 := e6.symm
    rw [this]; omega
  · have := h k (by omega); omega
theorem Gmx_t {n G : Int} {f d t : Nat → Int32} {i : Nat} {x3 x4 w : Int32} (h : Gmx n G f d) (T : Tdm d t) (hi : (i : Int) < n) (e3 : x3 = f i) (h4 : x4.toInt = x3.toInt / 2) (hw : w.toInt = G) : Tdm d (upd t x4.toNatClampNeg w) := by
  refine Tdm_s T ?_
  have t := h i hi
  rw [← e3, ← h4] at t
  have t : (d x4.toNatClampNeg).toInt ≤ G := t
  omega
theorem Gmx_e {n n2 G : Int} {f d : Nat → Int32} (h : Gmx n G f d) (e : n2 ≤ n) : Gmx n2 G f d := fun k hk => h k (by omega)
def Tkd (g N : Int) (t : Nat → Int32) (k : Nat → Int64) : Prop := ∀ i : Nat, g < (i : Int) → (i : Int) < N → (t i).toInt = -1 ∨ Bk (k i)
theorem Tkd_0 {g N : Int} {t : Nat → Int32} {k : Nat → Int64} (h : N ≤ g + 1) : Tkd g N t k := fun i h1 h2 => by omega
theorem Tkd_n {g g2 N : Int} {t : Nat → Int32} {k : Nat → Int64} {j : Nat} {x : Int32} (h : Tkd g N t k) (hj : (j : Int) = g) (e : x = t j) (hx : x.toInt = -1) (e2 : g2 = g - 1) : Tkd g2 N t k := fun i h1 h2 => by
  by_cases z : i = j
  · rw [z, ← e]; exact Or.inl hx
  · exact h i (by omega) h2
theorem Tdm_at {d t : Nat → Int32} {g : Int32} {x : Int32} (h : Tdm d t) (e : x = t g.toNatClampNeg) (hx : ¬ x.toInt = -1) (hg : g.toInt < 209) : (d g.toInt.toNat).toInt ≤ x.toInt := by
  rcases h g.toNatClampNeg (by have := tn_n g; omega) with q | q
  · rw [← e] at q; omega
  · rw [← e] at q; exact q
theorem Tdm_or {d t : Nat → Int32} {g : Int32} {x : Int32} (h : Tdm d t) (e : x = t g.toNatClampNeg) (hg : g.toInt < 209) : x.toInt = -1 ∨ (d g.toNatClampNeg).toInt ≤ x.toInt := by
  rcases h g.toNatClampNeg (by have := tn_n g; omega) with q | q
  · rw [← e] at q; exact Or.inl q
  · rw [← e] at q; exact Or.inr q
theorem Cho_s {g g2 N T T2 : Int} {d t t2 : Nat → Int32} {tk : Nat → Int64} {i : Nat} {q x : Int64} {xT yT : Int32} (hT : Tdm d t) (hK : Tkd g N t tk) (hc : Ctg g T d q) (hi : (i : Int) = g) (ex : x = vp_updL tk i q i) (W : Wnp x T2 t t2) (eT1 : T = xT.toInt) (eT2 : yT = xT - 1) (eT3 : T2 = yT.toInt) (hg : g < 209) (e2 : g2 = g - 1) (h0 : 0 ≤ g) : Tdm d t2 ∧ Tkd g2 N t2 (vp_updL tk i q) := by
  rw [uL_s] at ex
  have eT : T2 = T - 1 := by
    obtain ⟨l, l1, l2, l3, l4⟩ := hc
    have z := dpl_v (l := l) (d := d) (v := 0)
    have z : (0 : Int) ≤ (dpl d 0 l).toInt := z
    have b := Int32.toInt_lt xT
    rw [eT3, eT2, Int32.toInt_sub, show (1 : Int32).toInt = 1 from rfl, i_bm (by omega) (by omega)]; omega
  refine ⟨fun k hk => ?_, fun k h1 h2 => ?_⟩
  · rcases W k with z | ⟨z1, z2, z3⟩
    · rw [z]; exact hT k hk
    · have t := Ctg_in hc (by rw [← ex]; exact z1) (by omega) (by omega)
      exact Or.inr (by have t2 := t.2; rw [show ((k : Int)).toNat = k by omega] at t2; omega)
  · by_cases z : k = i
    · rw [z, uL_s]; exact Or.inr (Ctg_k hc (by omega))
    · rw [uL_o z]
      rcases W k with y | ⟨z1, z2, z3⟩
      · rw [y]; exact hK k (by omega) h2
      · have t := Ctg_in hc (by rw [← ex]; exact z1) (by omega) (by omega)
        omega
theorem Tkd_at {g N : Int} {t : Nat → Int32} {k : Nat → Int64} {j : Nat} {x : Int32} {y : Int64} (h : Tkd g N t k) (h1 : g < (j : Int)) (h2 : (j : Int) < N) (e : x = t j) (hx : ¬ x.toInt = -1) (ey : y = k j) : Bk y := by
  rcases h j h1 h2 with q | q
  · rw [← e] at q; exact absurd q hx
  · rw [ey]; exact q
theorem Ctk_0 {n : Int} {g : Nat → Int32} {t : Nat → Int64} (h : n ≤ 0) : Ctk n g t := fun c hc => by omega
theorem Ctk_s {n n2 : Int} {g : Nat → Int32} {t : Nat → Int64} {i : Nat} {v : Int32} (h : Ctk n g t) (hi : (i : Int) = n) (hv : Bk (t v.toNatClampNeg)) (e : n2 = n + 1) : Ctk n2 (upd g i v) t := fun c hc => by
  by_cases z : c = i
  · rw [z, up_s]; exact hv.1
  · rw [up_o z]; exact h c (by omega)

theorem lo_k {v : Int64} {z : Int32} (hz : z = v.toInt32) (h : nv v < 16777216) : 0 ≤ z.toInt ∧ z.toInt < 16777216 := by
  have e : v.toInt = (nv v : Int) := l_nn' (z := v) (by show nv v < _; omega)
  rw [hz, Int64.toInt_toInt32, i_bm (by omega) (by omega)]; omega
theorem hi_0 {v x : Int64} {z : Int32} (hx : x = (v.toUInt64 >>> ((32 : Int32).toInt64.toUInt64 &&& Int64.toUInt64 63)).toInt64) (hz : z = x.toInt32) (hv : nv v < 4294967296) : z.toInt = 0 := by
  have e1 : nv x = nv v / 4294967296 := by
    rw [hx]
    show (v.toUInt64 >>> ((32 : Int32).toInt64.toUInt64 &&& Int64.toUInt64 63)).toNat = _
    rw [UInt64.toNat_shiftRight, show ((32 : Int32).toInt64.toUInt64 &&& Int64.toUInt64 63).toNat % 64 = 32 from by decide, Nat.shiftRight_eq_div_pow]; rfl
  have e2 : x.toInt = (nv x : Int) := l_nn' (z := x) (by show nv x < _; omega)
  rw [hz, Int64.toInt_toInt32, i_bm (by omega) (by omega)]; omega
theorem ush16 {v z : Int32} (h : 0 ≤ v.toInt) (e : z = (v.toUInt32 >>> ((16 : Int32).toUInt32 &&& Int32.toUInt32 31)).toInt32) : z.toInt = v.toInt / 65536 := by
  have t := iv_ushr (x := v) (k := 16) (s := ((16 : Int32).toUInt32 &&& Int32.toUInt32 31)) (a := v.toInt) (b := v.toInt) (e := v.toInt / 2 ^ 16) (f := v.toInt / 2 ^ 16) ⟨Int.le_refl _, Int.le_refl _⟩ h (by decide) (by decide) (Int.le_refl _) (Int.le_refl _)
  rw [e]; omega
def N40 (r : Int) (x : Int64) : Prop := (nv x < 16777216 → 40 ≤ r) ∧ (nv x < 4294967296 → 32 ≤ r)
def S34 (r : Int) (x : Int64) : Prop := (nv x < 16777216 → r ≤ 3) ∧ (nv x < 4294967296 → r ≤ 4)
theorem S34_i {r q : Int} {x : Int64} (h : N40 q x) (e : r = 8 - q / 8) : S34 r x := ⟨fun b => by have := h.1 b; omega, fun b => by have := h.2 b; omega⟩
theorem S34_3 {r u m : Int} {x : Int64} {p : Nat → Int64} {i : Nat} (h : S34 r x) (L : Lmp m u p) (em : m = 3) (hx : x = p i) (hi : (i : Int) < u) : r ≤ 3 := h.1 (by have t := L i hi; rw [em] at t; rw [hx]; exact t)
theorem S34_4 {r u m : Int} {x : Int64} {p : Nat → Int64} {i : Nat} (h : S34 r x) (L : Lmp m u p) (em : m = 4) (hx : x = p i) (hi : (i : Int) < u) : r ≤ 4 := h.2 (by have t := L i hi; rw [em] at t; rw [hx]; exact t)
def Ful (r v : Int) : Prop := v ≤ 3 → 0 ≤ r ∧ r ≤ 255 ∧ (v ≤ 2 → r ≤ 15) ∧ (v ≤ 1 → r ≤ 3) ∧ (v ≤ 0 → r ≤ 1)
def fulF (v : Int32) : Int32 := ((1 : Int32) <<< (((1 : Int32) <<< (v &&& 31)) &&& 31)) - 1
theorem ful_all : ∀ k : Nat, k < 4 → 0 ≤ (fulF (Int32.ofNat k)).toInt ∧ (fulF (Int32.ofNat k)).toInt ≤ 255 ∧ (k ≤ 2 → (fulF (Int32.ofNat k)).toInt ≤ 15) ∧ (k ≤ 1 → (fulF (Int32.ofNat k)).toInt ≤ 3) ∧ (k ≤ 0 → (fulF (Int32.ofNat k)).toInt ≤ 1) := by decide +kernel
theorem Ful_i {v x y z : Int32} (ex : x = (1 : Int32) <<< (v &&& 31)) (ey : y = (1 : Int32) <<< (x &&& 31)) (ez : z = y - 1) (h0 : 0 ≤ v.toInt) : Ful z.toInt v.toInt := fun h => by
  have es : v = Int32.ofNat v.toInt.toNat := by
    apply Int32.toInt_inj.mp
    rw [Int32.toInt_ofNat_of_lt (by omega)]
    omega
  have t := ful_all v.toInt.toNat (by omega)
  rw [← es] at t
  have e : z = fulF v := by rw [ez, ey, ex]; rfl
  rw [e]
  omega
theorem Ful_a {s t : Int} {x q z : Int32} (h : Ful q.toInt s) (e : z = x &&& q) (et : t = s) : Ful z.toInt t := fun b => by
  have b1 := h (by omega)
  have b2 := i_and (x := x) (y := q) (by omega)
  rw [e]; omega
theorem Ful_x {s : Int} {x q z : Int32} (e : z = x ^^^ q) (h : Ful q.toInt s) (h2 : Ful x.toInt s) : Ful z.toInt s := fun hs => by
  have a := h hs
  have b := h2 hs
  have c1 : 0 ≤ z.toInt ∧ z.toInt ≤ 255 := by rw [e]; exact iv_xor (w := 8) ⟨b.1, b.2.1⟩ ⟨a.1, a.2.1⟩ (by decide) (by decide) (by decide) (by decide) (by decide) (by decide) (by decide)
  refine ⟨c1.1, c1.2, fun g => ?_, fun g => ?_, fun g => ?_⟩
  · have c2 : 0 ≤ z.toInt ∧ z.toInt ≤ 15 := by rw [e]; exact iv_xor (w := 4) ⟨b.1, b.2.2.1 g⟩ ⟨a.1, a.2.2.1 g⟩ (by decide) (by decide) (by decide) (by decide) (by decide) (by decide) (by decide)
    exact c2.2
  · have c2 : 0 ≤ z.toInt ∧ z.toInt ≤ 3 := by rw [e]; exact iv_xor (w := 2) ⟨b.1, b.2.2.2.1 g⟩ ⟨a.1, a.2.2.2.1 g⟩ (by decide) (by decide) (by decide) (by decide) (by decide) (by decide) (by decide)
    exact c2.2
  · have c2 : 0 ≤ z.toInt ∧ z.toInt ≤ 1 := by rw [e]; exact iv_xor (w := 1) ⟨b.1, b.2.2.2.2 g⟩ ⟨a.1, a.2.2.2.2 g⟩ (by decide) (by decide) (by decide) (by decide) (by decide) (by decide) (by decide)
    exact c2.2
theorem Ful_b {r s : Int} (h : Ful r s) (hs : s ≤ 3) : 0 ≤ r ∧ r ≤ 255 := ⟨(h hs).1, (h hs).2.1⟩
theorem Ful_e {s s2 r r2 : Int} (h : Ful r s) (e : s2 = s) (e2 : r2 = r) : Ful r2 s2 := by rw [e, e2]; exact h
theorem Fqs_l {r inp N u m : Int} {f d : Nat → Int32} {p : Nat → Int64} (h : Fqs r inp N u f d p) (hr : ¬ r = 0) (e : m = r) : Lmp m u p := by
  rcases h.2 with q | q
  · exact absurd q hr
  · rw [e]; exact q

theorem nv_shl {x : Int64} {s : Int32} {k : Nat} (e : ((s.toInt64 &&& 63).toBitVec.smod 64).toNat = k) : nv (x <<< (s.toInt64 &&& 63)) = nv x * 2 ^ k % 2 ^ 64 := by
  show (x <<< (s.toInt64 &&& 63)).toBitVec.toNat = _
  rw [Int64.toBitVec_shiftLeft, BitVec.shiftLeft_eq', BitVec.toNat_shiftLeft, e, Nat.shiftLeft_eq]
theorem pk_z {n k : Nat} (hk : 34 ≤ k) : n * 2 ^ k % 2 ^ 64 % 2 ^ 34 = 0 := by
  rw [Nat.mod_mod_of_dvd _ (Nat.pow_dvd_pow 2 (by decide)), show k = (k - 34) + 34 by omega, Nat.pow_add, ← Nat.mul_assoc, Nat.mul_mod_left]
theorem pack_sp {c t : Int32} {p r : Int64} {o : cf_O} (h : fMp_pack c t p o = some r) (hp : nv p < 2 ^ 30) : 0 ≤ c.toInt ∧ c.toInt < 12 ∧ nv r % 2 ^ 34 = c.toInt.toNat * 2 ^ 30 + nv p := by
  unfold fMp_pack fMp_pack_0 at h
  by_cases q : c < 0 ∨ 12 ≤ c.toNatClampNeg
  · rw [if_pos q] at h; cases h
  rw [if_neg q] at h
  have h : (if c < 0 ∨ 12 ≤ c.toNatClampNeg then none else some (((t + o.2.1 4 c.toNatClampNeg).toInt64 <<< ((44 : Int32).toInt64 &&& 63) ||| (o.2.1 3 c.toNatClampNeg).toInt64 <<< ((34 : Int32).toInt64 &&& 63)) ||| c.toInt64 <<< ((30 : Int32).toInt64 &&& 63) ||| p)) = some r := h
  rw [if_neg q] at h
  injection h with h
  have c0 : 0 ≤ c.toInt := by
    by_cases z : c < 0
    · exact absurd (Or.inl z) q
    · have z0 : ¬ c.toInt < (0 : Int32).toInt := fun y => z (Int32.lt_iff_toInt_lt.mpr y)
      have e0 : (0 : Int32).toInt = 0 := rfl
      omega
  have c1 : c.toInt < 12 := by
    by_cases z : 12 ≤ c.toNatClampNeg
    · exact absurd (Or.inr z) q
    · have := tn_n c; omega
  refine ⟨c0, c1, ?_⟩
  rw [← h, nv_or, nv_or, nv_or, nv_shl (k := 44) (by decide), nv_shl (k := 34) (by decide), nv_shl (k := 30) (by decide), nv_32 c0, Nat.or_mod_two_pow, Nat.or_mod_two_pow, Nat.or_mod_two_pow, pk_z (by decide), pk_z (by decide), Nat.zero_or, Nat.zero_or]
  have e1 : c.toInt.toNat * 2 ^ 30 % 2 ^ 64 % 2 ^ 34 = c.toInt.toNat * 2 ^ 30 := by omega
  have e2 : nv p % 2 ^ 34 = nv p := Nat.mod_eq_of_lt (by omega)
  rw [e1, e2, ← Nat.shiftLeft_eq, ← Nat.shiftLeft_add_eq_or_of_lt hp]
theorem nv_shr {x : Int64} {s : Int32} {k : Nat} (e : (s.toInt64.toUInt64 &&& Int64.toUInt64 63).toNat % 64 = k) : nv ((x.toUInt64 >>> (s.toInt64.toUInt64 &&& Int64.toUInt64 63)).toInt64) = nv x / 2 ^ k := by
  show (x.toUInt64 >>> (s.toInt64.toUInt64 &&& Int64.toUInt64 63)).toNat = _
  rw [UInt64.toNat_shiftRight, e, Nat.shiftRight_eq_div_pow]; rfl
theorem nv_am {x m : Int64} {k : Nat} (hm : nv m = 2 ^ k - 1) : nv (x &&& m) = nv x % 2 ^ k := by
  have hm : m.toBitVec.toNat = 2 ^ k - 1 := hm
  show (x &&& m).toBitVec.toNat = _
  rw [Int64.toBitVec_and, BitVec.toNat_and, hm, Nat.and_two_pow_sub_one_eq_mod]
theorem nv_lo {x : Int64} (h : nv x < 2147483648) : x.toInt32.toInt = (nv x : Int) := by
  have e : x.toInt = (nv x : Int) := l_nn' (z := x) (by show nv x < _; omega)
  rw [Int64.toInt_toInt32, i_bm (by omega) (by omega), e]
theorem cellOf_sp {v : Int64} {r : Int32} (h : fMp_cellOf v = some r) : r.toInt = ((nv v / 2 ^ 30 % 16 : Nat) : Int) := by
  have h : some (((v.toUInt64 >>> ((30 : Int32).toInt64.toUInt64 &&& Int64.toUInt64 63)).toInt64 &&& 15).toInt32) = some r := h
  injection h with h
  have e1 : nv ((v.toUInt64 >>> ((30 : Int32).toInt64.toUInt64 &&& Int64.toUInt64 63)).toInt64 &&& 15) = nv v / 2 ^ 30 % 16 := by
    rw [nv_am (k := 4) rfl, nv_shr (k := 30) (by decide)]
  rw [← h, nv_lo (by rw [e1]; omega), e1]
theorem pin_sh : ∀ k : Nat, k < 3 → ((30 - 10 * (Int32.ofNat k + 1)).toInt64.toUInt64 &&& Int64.toUInt64 63).toNat % 64 = 20 - 10 * k := by decide +kernel
theorem pinOf_sp {v : Int64} {k r : Int32} (h : fMp_pinOf v k = some r) (h0 : 0 ≤ k.toInt) (h2 : k.toInt ≤ 2) : r.toInt = ((nv v / 2 ^ (20 - 10 * k.toInt.toNat) % 1024 : Nat) : Int) := by
  have h : some (((v.toUInt64 >>> ((30 - 10 * (k + 1)).toInt64.toUInt64 &&& Int64.toUInt64 63)).toInt64 &&& 1023).toInt32) = some r := h
  injection h with h
  have es : k = Int32.ofNat k.toInt.toNat := by
    apply Int32.toInt_inj.mp
    rw [Int32.toInt_ofNat_of_lt (by omega)]
    omega
  have t := pin_sh k.toInt.toNat (by omega)
  rw [← es] at t
  have e1 : nv ((v.toUInt64 >>> ((30 - 10 * (k + 1)).toInt64.toUInt64 &&& Int64.toUInt64 63)).toInt64 &&& 1023) = nv v / 2 ^ (20 - 10 * k.toInt.toNat) % 1024 := by
    rw [nv_am (k := 10) rfl, nv_shr t]
  rw [← h, nv_lo (by rw [e1]; omega), e1]

def Mgd (v : Int64) : Prop := nv v / 2 ^ 30 % 16 < 12 ∧ nv v / 2 ^ 20 % 1024 < 418 ∧ nv v / 2 ^ 10 % 1024 < 418 ∧ nv v % 1024 < 418
def Pks (k : Int) (v : Int64) : Prop := ∃ a b c : Nat, a < 418 ∧ b < 418 ∧ c < 418 ∧ nv v = a * 2 ^ 20 + b * 2 ^ 10 + c ∧ (k ≤ 0 → a = 0) ∧ (k ≤ 1 → b = 0) ∧ (k ≤ 2 → c = 0)
theorem Pks_0 : Pks 0 0 := ⟨0, 0, 0, by decide, by decide, by decide, rfl, fun _ => rfl, fun _ => rfl, fun _ => rfl⟩
theorem Pks_g {k : Int} {c t : Int32} {p r : Int64} {o : cf_O} (h : Pks k p) (e : fMp_pack c t p o = some r) : Mgd r := by
  obtain ⟨x, y, z, x1, y1, z1, e1, -⟩ := h
  obtain ⟨c0, c1, e2⟩ := pack_sp e (by omega)
  unfold Mgd
  omega
theorem pin_sl : ∀ k : Nat, k < 3 → (((30 - 10 * (Int32.ofNat k + 1)).toInt64 &&& 63).toBitVec.smod 64).toNat = 20 - 10 * k := by decide +kernel
theorem Pks_s {k l s : Int32} {p q r : Int64} (h : Pks k.toInt p) (h0 : 0 ≤ k.toInt) (h2 : k.toInt ≤ 2) (l0 : 0 ≤ l.toInt) (l1 : l.toInt < 418) (es : s = 30 - 10 * (k + 1)) (eq : q = l.toInt64 <<< (s.toInt64 &&& 63)) (er : r = p ||| q) : Pks (k.toInt + 1) r := by
  have ek : k = Int32.ofNat k.toInt.toNat := by
    apply Int32.toInt_inj.mp
    rw [Int32.toInt_ofNat_of_lt (by omega)]
    omega
  have t := pin_sl k.toInt.toNat (by omega)
  rw [← ek, ← es] at t
  obtain ⟨x, y, z, x1, y1, z1, e1, g1, g2, g3⟩ := h
  have n1 : nv r = nv p ||| (l.toInt.toNat * 2 ^ (20 - 10 * k.toInt.toNat) % 2 ^ 64) := by rw [er, nv_or, eq, nv_shl t, nv_32 l0]
  rcases (show k.toInt.toNat = 0 ∨ k.toInt.toNat = 1 ∨ k.toInt.toNat = 2 by omega) with w | w | w
  · rw [w] at n1
    have a0 := g1 (by omega)
    have b0 := g2 (by omega)
    have c0 := g3 (by omega)
    have n2 : nv p = 0 := by rw [e1, a0, b0, c0]
    rw [n2, Nat.zero_or] at n1
    exact ⟨l.toInt.toNat, 0, 0, by omega, by decide, by decide, by omega, fun _ => by omega, fun _ => rfl, fun _ => rfl⟩
  · rw [w] at n1
    have b0 := g2 (by omega)
    have c0 := g3 (by omega)
    have n2 : nv p = x <<< 20 := by rw [Nat.shiftLeft_eq, e1, b0, c0]; omega
    rw [n2, show l.toInt.toNat * 2 ^ (20 - 10 * 1) % 2 ^ 64 = l.toInt.toNat * 1024 by omega, ← Nat.shiftLeft_add_eq_or_of_lt (by omega), Nat.shiftLeft_eq] at n1
    clear n2
    exact ⟨x, l.toInt.toNat, 0, x1, by omega, by decide, by rw [n1, Nat.add_zero], fun _ => by omega, fun _ => by omega, fun _ => rfl⟩
  · rw [w] at n1
    have c0 := g3 (by omega)
    have n2 : nv p = (x * 1024 + y) <<< 10 := by rw [Nat.shiftLeft_eq, e1, c0]; omega
    rw [n2, show l.toInt.toNat * 2 ^ (20 - 10 * 2) % 2 ^ 64 = l.toInt.toNat by omega, ← Nat.shiftLeft_add_eq_or_of_lt (by omega), Nat.shiftLeft_eq] at n1
    clear n2
    exact ⟨x, y, l.toInt.toNat, x1, y1, by omega, by rw [n1, Nat.add_mul, Nat.mul_assoc], fun _ => by omega, fun _ => by omega, fun _ => by omega⟩
def Mgx (v : Int64) : Prop := v = 9223372036854775807 ∨ Mgd v
theorem Pks_t {k k2 l s a b : Int32} {p q r m : Int64} (h : Pks k.toInt p) (er : r = p ||| q) (eq : q = m <<< (s.toInt64 &&& 63)) (e0 : m = l.toInt64) (e1 : s = 30 - b) (e2 : b = 10 * a) (e3 : a = k + 1) (h0 : 0 ≤ k.toInt) (h2 : k.toInt ≤ 2) (l0 : 0 ≤ l.toInt) (l1 : l.toInt < 418) (ek : k2.toInt = k.toInt + 1) : Pks k2.toInt r := by
  rw [ek]; exact Pks_s (s := s) h h0 h2 l0 l1 (by rw [e1, e2, e3]) (by rw [eq, e0]) er

theorem of_n {v : Int32} (h : 0 ≤ v.toInt) : Int32.ofNat v.toInt.toNat = v := by
  apply Int32.toInt_inj.mp
  have := Int32.toInt_lt v
  rw [Int32.toInt_ofNat_of_lt (by omega)]
  omega
def rngL (q : Int) : Int := if 16 ≤ q ∧ q < 32 then 2 else if 256 ≤ q then 3 else 0
def plcF (p k : Int32) : Int32 := ((p >>> ((3 * k) &&& 31)) &&& 7) >>> ((1 : Int32) &&& 31)
def Pcs (p : Int32) (n : Int) : Prop := ∀ k : Int32, 0 ≤ k.toInt → k.toInt < n → (plcF p k).toInt < n
theorem pl_2 : ∀ v : Nat, v < 64 → seenF (Int32.ofNat v) 2 = 3 → ∀ k : Nat, k < 2 → (plcF (Int32.ofNat v) (Int32.ofNat k)).toInt < 2 := by decide +kernel
theorem pl_3 : ∀ v : Nat, v < 512 → seenF (Int32.ofNat v) 3 = 7 → ∀ k : Nat, k < 3 → (plcF (Int32.ofNat v) (Int32.ofNat k)).toInt < 3 := by decide +kernel
theorem Pcs_i {r v p x6 x7 : Int32} (E : Ec r v p) (e7 : x7.toInt = ((1 : Int32) <<< (x6 &&& 31)).toInt) (h2 : 1 < p.toInt) (h3 : p.toInt ≤ 3) (e6 : x6.toInt = 3 * p.toInt) (h0 : 0 ≤ v.toInt) (hl : v.toInt < x7.toInt) : r.toInt = 0 ∨ Pcs v p.toInt := by
  rcases E with E | E
  · exact Or.inl E
  right
  intro k k0 k1
  rcases (show p.toInt = 2 ∨ p.toInt = 3 by omega) with hc | hc
  · have ep : p = 2 := Int32.toInt_inj.mp hc
    have e : x6 = 6 := Int32.toInt_inj.mp (by rw [e6, hc]; rfl)
    rw [e, show ((1 : Int32) <<< ((6 : Int32) &&& 31)).toInt = 64 from by decide] at e7
    rw [ep, show (2 : Int32).toNatClampNeg = 2 from by decide, show (1 : Int32) <<< ((2 : Int32) &&& 31) - 1 = 3 from by decide] at E
    have t := pl_2 v.toInt.toNat (by omega) (by rw [of_n h0]; exact E) k.toInt.toNat (by omega)
    rw [of_n h0, of_n k0] at t
    omega
  · have ep : p = 3 := Int32.toInt_inj.mp hc
    have e : x6 = 9 := Int32.toInt_inj.mp (by rw [e6, hc]; rfl)
    rw [e, show ((1 : Int32) <<< ((9 : Int32) &&& 31)).toInt = 512 from by decide] at e7
    rw [ep, show (3 : Int32).toNatClampNeg = 3 from by decide, show (1 : Int32) <<< ((3 : Int32) &&& 31) - 1 = 7 from by decide] at E
    have t := pl_3 v.toInt.toNat (by omega) (by rw [of_n h0]; exact E) k.toInt.toNat (by omega)
    rw [of_n h0, of_n k0] at t
    omega
def Lwy (W : Int) (wc wp ch fi pi : Nat → Int32) : Prop :=
  (∀ q : Nat, q < 512 → (fi q).toInt = -1 ∨ (0 ≤ (fi q).toInt ∧ (fi q).toInt < W ∧ (pi (wc (fi q).toNatClampNeg).toNatClampNeg).toInt = rngL q)) ∧
  (∀ w : Nat, (w : Int) < W → Pcs (wp w) (pi (wc w).toNatClampNeg).toInt ∧ ((ch w).toInt = -1 ∨ (0 ≤ (ch w).toInt ∧ (ch w).toInt < W ∧ (pi (wc (ch w).toNatClampNeg).toNatClampNeg).toInt = (pi (wc w).toNatClampNeg).toInt)))
theorem Lwy_0 {W : Int} {wc wp ch fi pi : Nat → Int32} (h : Fmo 512 fi) (hW : W = 0) : Lwy W wc wp ch fi pi := ⟨fun q hq => Or.inl (h q (by omega)), fun w hw => by omega⟩
theorem Lwy_a {W W2 : Int} {wc wp ch fi pi : Nat → Int32} {c p q x w : Int32} {i j : Nat} (h : Lwy W wc wp ch fi pi) (P : Pcs p (pi c.toNatClampNeg).toInt) (hq : rngL q.toInt = (pi c.toNatClampNeg).toInt) (ex : x = fi j) (ew : w.toInt = W) (w0 : 0 ≤ W) (ei : (i : Int) = W) (ej : (j : Int) = q.toInt) (hj : (j : Int) < 512) (e2 : W2 = W + 1) : Lwy W2 (upd wc i c) (upd wp i p) (upd ch i x) (upd fi j w) pi := by
  obtain ⟨h1, h2⟩ := h
  have nw : w.toNatClampNeg = i := by have := tn_n w; omega
  constructor
  · intro r hr
    by_cases er : r = j
    · rw [er, up_s]
      right
      rw [nw, up_s]
      refine ⟨by omega, by omega, ?_⟩
      rw [← hq, ej]
    · rw [up_o er]
      rcases h1 r hr with t | ⟨t0, t1, t2⟩
      · exact Or.inl t
      · right
        have n1 := tn_n (fi r)
        rw [up_o (show ¬ (fi r).toNatClampNeg = i by omega)]
        exact ⟨t0, by omega, t2⟩
  · intro v hv
    by_cases ev : v = i
    · rw [ev, up_s, up_s, up_s]
      refine ⟨P, ?_⟩
      rw [ex]
      rcases h1 j (by omega) with t | ⟨t0, t1, t2⟩
      · exact Or.inl t
      · right
        have n1 := tn_n (fi j)
        rw [up_o (show ¬ (fi j).toNatClampNeg = i by omega), t2, ← hq, ej]
        exact ⟨t0, by omega, rfl⟩
    · rw [up_o ev, up_o ev, up_o ev]
      obtain ⟨p1, p2⟩ := h2 v (by omega)
      refine ⟨p1, ?_⟩
      rcases p2 with t | ⟨t0, t1, t2⟩
      · exact Or.inl t
      · right
        have n1 := tn_n (ch v)
        rw [up_o (show ¬ (ch v).toNatClampNeg = i by omega)]
        exact ⟨t0, by omega, t2⟩
def Tb (v i : Int) (p : Int32) : Prop := 0 ≤ v ∧ v.toNat < 2 ^ i.toNat ∧ 0 ≤ i ∧ i.toNat ≤ 2 ^ p.toInt.toNat
def Tbc (v i : Int) (p : Int32) : Prop := 0 ≤ v ∧ v.toNat < 2 ^ i.toNat ∧ 0 ≤ i ∧ i.toNat < 2 ^ p.toInt.toNat
theorem Tb_0 {p : Int32} : Tb 0 0 p := ⟨by decide, by decide, by decide, Nat.zero_le _⟩
theorem sh1_all : ∀ k : Nat, k < 4 → ((1 : Int32) <<< (Int32.ofNat k &&& 31)).toInt = ((2 ^ k : Nat) : Int) := by decide +kernel
theorem sh1_e {p x : Int32} (ex : x = (1 : Int32) <<< (p &&& 31)) (p0 : 0 ≤ p.toInt) (p3 : p.toInt ≤ 3) : x.toInt = ((2 ^ p.toInt.toNat : Nat) : Int) := by
  have t := sh1_all p.toInt.toNat (by omega)
  rw [of_n p0] at t
  rw [ex, t]
theorem Tb_g {v i : Int} {p x y : Int32} (h : Tb v i p) (ex : x = (1 : Int32) <<< (y &&& 31)) (ey : y.toInt = p.toInt) (p0 : 0 ≤ p.toInt) (p3 : p.toInt ≤ 3) (hl : i < x.toInt) : Tbc v i p := by
  rw [Int32.toInt_inj.mp ey] at ex
  have e := sh1_e ex p0 p3
  exact ⟨h.1, h.2.1, h.2.2.1, by have := h.2.2.1; omega⟩
theorem shb_all : ∀ k : Nat, k < 8 → ∀ m : Nat, m < 2 → 0 ≤ ((Int32.ofNat m) <<< (Int32.ofNat k &&& 31)).toInt ∧ ((Int32.ofNat m) <<< (Int32.ofNat k &&& 31)).toInt ≤ ((2 ^ k : Nat) : Int) := by decide +kernel
theorem Tb_n {v i a b c d i2 p : Int32} (h : Tbc v.toInt i.toInt p) (ed : d = v ||| c) (ec : c = a <<< (i &&& 31)) (ea : a = b &&& 1) (p0 : 0 ≤ p.toInt) (p3 : p.toInt ≤ 3) (ei : i2.toInt = i.toInt + 1) : Tb d.toInt i2.toInt p := by
  obtain ⟨h0, h1, h2, h3⟩ := h
  have p8 : 2 ^ p.toInt.toNat ≤ 2 ^ 3 := Nat.pow_le_pow_right (by decide) (by omega)
  have a1 : 0 ≤ a.toInt ∧ a.toInt ≤ 1 := by rw [ea]; exact i_and (x := b) (y := 1) (by decide)
  have s := shb_all i.toInt.toNat (by omega) a.toInt.toNat (by omega)
  rw [of_n a1.1, of_n h2, ← ec] at s
  have e2 : i2.toInt.toNat = i.toInt.toNat + 1 := by omega
  have d1 : 0 ≤ d.toInt ∧ d.toInt.toNat < 2 ^ (i.toInt.toNat + 1) := by
    rcases (show i.toInt.toNat = 0 ∨ i.toInt.toNat = 1 ∨ i.toInt.toNat = 2 ∨ i.toInt.toNat = 3 ∨ i.toInt.toNat = 4 ∨ i.toInt.toNat = 5 ∨ i.toInt.toNat = 6 ∨ i.toInt.toNat = 7 by omega) with w | w | w | w | w | w | w | w <;> rw [w] at h1 s ⊢
    · have z := iv_or (x := v) (y := c) (a := 0) (b := 1) (c := 0) (d := 1) (e := 0) (f := 1) (w := 1) ⟨h0, by omega⟩ ⟨s.1, by omega⟩ (by decide) (by decide) (by decide) (by decide) (by decide) (by decide) (by decide); rw [← ed] at z; omega
    · have z := iv_or (x := v) (y := c) (a := 0) (b := 3) (c := 0) (d := 3) (e := 0) (f := 3) (w := 2) ⟨h0, by omega⟩ ⟨s.1, by omega⟩ (by decide) (by decide) (by decide) (by decide) (by decide) (by decide) (by decide); rw [← ed] at z; omega
    · have z := iv_or (x := v) (y := c) (a := 0) (b := 7) (c := 0) (d := 7) (e := 0) (f := 7) (w := 3) ⟨h0, by omega⟩ ⟨s.1, by omega⟩ (by decide) (by decide) (by decide) (by decide) (by decide) (by decide) (by decide); rw [← ed] at z; omega
    · have z := iv_or (x := v) (y := c) (a := 0) (b := 15) (c := 0) (d := 15) (e := 0) (f := 15) (w := 4) ⟨h0, by omega⟩ ⟨s.1, by omega⟩ (by decide) (by decide) (by decide) (by decide) (by decide) (by decide) (by decide); rw [← ed] at z; omega
    · have z := iv_or (x := v) (y := c) (a := 0) (b := 31) (c := 0) (d := 31) (e := 0) (f := 31) (w := 5) ⟨h0, by omega⟩ ⟨s.1, by omega⟩ (by decide) (by decide) (by decide) (by decide) (by decide) (by decide) (by decide); rw [← ed] at z; omega
    · have z := iv_or (x := v) (y := c) (a := 0) (b := 63) (c := 0) (d := 63) (e := 0) (f := 63) (w := 6) ⟨h0, by omega⟩ ⟨s.1, by omega⟩ (by decide) (by decide) (by decide) (by decide) (by decide) (by decide) (by decide); rw [← ed] at z; omega
    · have z := iv_or (x := v) (y := c) (a := 0) (b := 127) (c := 0) (d := 127) (e := 0) (f := 127) (w := 7) ⟨h0, by omega⟩ ⟨s.1, by omega⟩ (by decide) (by decide) (by decide) (by decide) (by decide) (by decide) (by decide); rw [← ed] at z; omega
    · have z := iv_or (x := v) (y := c) (a := 0) (b := 255) (c := 0) (d := 255) (e := 0) (f := 255) (w := 8) ⟨h0, by omega⟩ ⟨s.1, by omega⟩ (by decide) (by decide) (by decide) (by decide) (by decide) (by decide) (by decide); rw [← ed] at z; omega
  exact ⟨d1.1, by rw [e2]; exact d1.2, by omega, by omega⟩
theorem ls_all : ∀ k : Nat, k < 4 → ((1 : Int32) <<< (((1 : Int32) <<< (Int32.ofNat k &&& 31)) &&& 31)).toInt = ((2 ^ 2 ^ k : Nat) : Int) := by decide +kernel
theorem ls_e {p v q : Int32} (e : fLi_listOf p v = some q) (p0 : 0 ≤ p.toInt) (p3 : p.toInt ≤ 3) (v0 : 0 ≤ v.toInt) (v1 : v.toInt ≤ 255) : q.toInt = ((2 ^ 2 ^ p.toInt.toNat : Nat) : Int) + v.toInt := by
  have e : some (((1 : Int32) <<< (((1 : Int32) <<< (p &&& 31)) &&& 31)) + v) = some q := e
  injection e with e
  have t := ls_all p.toInt.toNat (by omega)
  rw [of_n p0] at t
  have b : 2 ^ 2 ^ p.toInt.toNat ≤ 2 ^ 2 ^ 3 := Nat.pow_le_pow_right (by decide) (Nat.pow_le_pow_right (by decide) (by omega))
  generalize 2 ^ 2 ^ p.toInt.toNat = z at t b ⊢
  rw [← e, Int32.toInt_add, t, i_bm (by omega) (by omega)]
theorem Tb_l {v i p x y z q : Int32} (h : Tb v.toInt i.toInt p) (ex : x = (1 : Int32) <<< (y &&& 31)) (ey : y.toInt = p.toInt) (hx : x.toInt ≤ i.toInt) (h2 : 1 < p.toInt) (h3 : p.toInt ≤ 3) (e : fLi_listOf z v = some q) (ez : z.toInt = p.toInt) : rngL q.toInt = p.toInt ∧ 16 ≤ q.toInt ∧ q.toInt < 512 := by
  rw [Int32.toInt_inj.mp ey] at ex
  rw [Int32.toInt_inj.mp ez] at e
  obtain ⟨g0, g1, g2, g3⟩ := h
  have s := sh1_e ex (by omega) h3
  have ei : i.toInt.toNat = 2 ^ p.toInt.toNat := by omega
  rw [ei] at g1
  unfold rngL
  rcases (show p.toInt.toNat = 2 ∨ p.toInt.toNat = 3 by omega) with w | w
  · rw [w] at g1
    have z := ls_e e (by omega) h3 g0 (by omega)
    rw [w] at z
    rw [if_pos (by omega)]; omega
  · rw [w] at g1
    have z := ls_e e (by omega) h3 g0 (by omega)
    rw [w] at z
    rw [if_neg (by omega), if_pos (by omega)]; omega
theorem Ls_r {p v q : Int32} (e : fLi_listOf p v = some q) (F : Ful v.toInt p.toInt) (p0 : 0 ≤ p.toInt) (p3 : p.toInt ≤ 3) : rngL q.toInt ≤ p.toInt := by
  obtain ⟨f1, f2, f3, f4, f5⟩ := F p3
  have z := ls_e e p0 p3 f1 f2
  unfold rngL
  rcases (show p.toInt.toNat = 0 ∨ p.toInt.toNat = 1 ∨ p.toInt.toNat = 2 ∨ p.toInt.toNat = 3 by omega) with w | w | w | w <;> rw [w] at z <;> split <;> (try split) <;> omega
def Ivr (c : Int) (pi : Nat → Int32) : Prop := c = -1 ∨ (0 ≤ c ∧ (pi c.toNat).toInt = 1)
def Lbr (W c : Int) (wc wp ch fi pi : Nat → Int32) : Prop := Lwy W wc wp ch fi pi ∧ Ivr c pi
def Lbs (r W c : Int) (wc wp ch fi pi : Nat → Int32) : Prop := ¬ r = 0 ∨ Lbr W c wc wp ch fi pi

def Cnd (s : Int) (nd : Nat → Int32) (v : Int64) : Prop := ∀ j : Nat, (j : Int) < s → Inb v (nd j).toInt
theorem Cnd_0 {nd : Nat → Int32} {v : Int64} : Cnd 0 nd v := fun j hj => by omega
theorem Cnd_s {s s2 : Int} {nd : Nat → Int32} {v : Int64} {i : Nat} {z : Int32} (h : Cnd s nd v) (b : Inb v z.toInt) (hi : (i : Int) = s) (e : s2 = s + 1) : Cnd s2 (upd nd i z) v := fun j hj => by
  by_cases ej : j = i
  · rw [ej, up_s]; exact b
  · rw [up_o ej]; exact h j (by omega)
theorem Cnd_e {s s2 : Int} {nd : Nat → Int32} {v : Int64} (h : Cnd s nd v) (e : s2 ≤ s) : Cnd s2 nd v := fun j hj => h j (by omega)
theorem Cnn_in {g : Nat} {k : Int} {v : Int64} (h : Cnn g v) (b : Inb v k) (h1 : 1 ≤ g) (hg : g ≤ 209) : k < g := by
  obtain ⟨l, l1, l2, l3⟩ := h
  obtain ⟨j, hj⟩ := b
  rw [l1] at hj
  rcases enc_in j l2 (by omega) with q | q
  · omega
  · have t2 := Fall_mm l2 q
    omega
def celN (v : Int64) : Nat := nv v / 2 ^ 30 % 16
def pinN (v : Int64) (k : Nat) : Nat := nv v / 2 ^ (20 - 10 * k) % 1024
def Qp (s : Int) (nd : Nat → Int32) (m : Nat → Int64) (a : Nat) : Prop := ¬ m a = 9223372036854775807 ∧ ∃ j : Nat, (j : Int) < s ∧ ((a / 2 : Nat) : Int) = (nd j).toInt
def Pls (p n : Int32) (s : Int) : Prop := Pcs p n.toInt ∧ n.toInt ≤ s
def Wok (w W s : Int) (wc pi : Nat → Int32) : Prop := w < W ∧ (pi (wc w.toNat).toNatClampNeg).toInt ≤ s
theorem Pls_i {W s : Int} {wc wp ch fi pi : Nat → Int32} {v c : Int32} (h : Lwy W wc wp ch fi pi) (o : Wok v.toInt W s wc pi) (ec : c = wc v.toNatClampNeg) (h0 : 0 ≤ v.toInt) : Pls (wp v.toNatClampNeg) (pi c.toNatClampNeg) s := by
  rw [ec]
  exact ⟨(h.2 v.toInt.toNat (by have := o.1; omega)).1, o.2⟩
theorem Qp_i {s : Int} {nd : Nat → Int32} {m : Nat → Int64} {y8 x8 n k x9 x10 x11 x12 x14 x15 x16 x17 y : Int32} {z : Int64} (P : Pls y8 n s) (e17 : x17 = x15 + x16) (e15 : x15 = 2 * x14) (e14 : x14 = nd x12.toNatClampNeg) (e12 : x12 = x11 >>> ((1 : Int32) &&& 31)) (e11 : x11 = x10 &&& 7) (e10 : x10 = x8 >>> (x9 &&& 31)) (e9 : x9 = 3 * k) (e16 : x16 = x11 &&& 1) (ey : y = lg_cmp z 9223372036854775807) (ez : z = m x17.toNatClampNeg) (hn : ¬ y.toInt = 0) (k0 : 0 ≤ k.toInt) (k1 : k.toInt < n.toInt) (p0 : 0 ≤ x12.toInt) (n0 : 0 ≤ x14.toInt) (n1 : x14.toInt ≤ 208) (e8 : x8 = y8) : Qp s nd m x17.toInt.toNat := by
  rw [← e8] at P
  have a16 : 0 ≤ x16.toInt ∧ x16.toInt ≤ 1 := by rw [e16]; exact i_and (x := x11) (y := 1) (by decide)
  have i15 : x15.toInt = 2 * x14.toInt := by rw [e15, Int32.toInt_mul, show (2 : Int32).toInt = 2 from rfl, i_bm (by omega) (by omega)]
  have i17 : x17.toInt = x15.toInt + x16.toInt := by rw [e17, Int32.toInt_add, i_bm (by omega) (by omega)]
  have t := P.1 k k0 k1
  have e : plcF x8 k = x12 := by rw [e12, e11, e10, e9]; rfl
  rw [e] at t
  refine ⟨fun q => ?_, x12.toNatClampNeg, ?_, ?_⟩
  · apply hn
    have q2 : z = 9223372036854775807 := by rw [ez]; exact q
    rw [ey, (lg_cmp_eq _ _).mpr q2]; rfl
  · rw [tn_n]; have := P.2; omega
  · rw [← e14]; omega
def Pkq (s : Int) (nd : Nat → Int32) (m : Nat → Int64) (k : Int) (v : Int64) : Prop := ∃ a b c : Nat, a < 418 ∧ b < 418 ∧ c < 418 ∧ nv v = a * 2 ^ 20 + b * 2 ^ 10 + c ∧ (k ≤ 0 → a = 0) ∧ (k ≤ 1 → b = 0) ∧ (k ≤ 2 → c = 0) ∧ (1 ≤ k → Qp s nd m a) ∧ (2 ≤ k → Qp s nd m b) ∧ (3 ≤ k → Qp s nd m c)
theorem Pkq_0 {s : Int} {nd : Nat → Int32} {m : Nat → Int64} : Pkq s nd m 0 0 := ⟨0, 0, 0, by decide, by decide, by decide, rfl, fun _ => rfl, fun _ => rfl, fun _ => rfl, fun h => absurd h (by decide), fun h => absurd h (by decide), fun h => absurd h (by decide)⟩
theorem Pkq_s {S : Int} {nd : Nat → Int32} {m : Nat → Int64} {k l s : Int32} {p q r : Int64} (h : Pkq S nd m k.toInt p) (Q : Qp S nd m l.toInt.toNat) (h0 : 0 ≤ k.toInt) (h2 : k.toInt ≤ 2) (l0 : 0 ≤ l.toInt) (l1 : l.toInt < 418) (es : s = 30 - 10 * (k + 1)) (eq : q = l.toInt64 <<< (s.toInt64 &&& 63)) (er : r = p ||| q) : Pkq S nd m (k.toInt + 1) r := by
  have t := pin_sl k.toInt.toNat (by omega)
  rw [of_n h0, ← es] at t
  obtain ⟨x, y, z, x1, y1, z1, e1, g1, g2, g3, q1, q2, q3⟩ := h
  have n1 : nv r = nv p ||| (l.toInt.toNat * 2 ^ (20 - 10 * k.toInt.toNat) % 2 ^ 64) := by rw [er, nv_or, eq, nv_shl t, nv_32 l0]
  rcases (show k.toInt.toNat = 0 ∨ k.toInt.toNat = 1 ∨ k.toInt.toNat = 2 by omega) with w | w | w
  · rw [w] at n1
    have a0 := g1 (by omega)
    have b0 := g2 (by omega)
    have c0 := g3 (by omega)
    have n2 : nv p = 0 := by rw [e1, a0, b0, c0]
    rw [n2, Nat.zero_or] at n1
    exact ⟨l.toInt.toNat, 0, 0, by omega, by decide, by decide, by omega, fun _ => by omega, fun _ => rfl, fun _ => rfl, fun _ => Q, fun _ => by omega, fun _ => by omega⟩
  · rw [w] at n1
    have b0 := g2 (by omega)
    have c0 := g3 (by omega)
    have n2 : nv p = x <<< 20 := by rw [Nat.shiftLeft_eq, e1, b0, c0]; omega
    rw [n2, show l.toInt.toNat * 2 ^ (20 - 10 * 1) % 2 ^ 64 = l.toInt.toNat * 1024 by omega, ← Nat.shiftLeft_add_eq_or_of_lt (by omega), Nat.shiftLeft_eq] at n1
    clear n2
    exact ⟨x, l.toInt.toNat, 0, x1, by omega, by decide, by rw [n1, Nat.add_zero], fun _ => by omega, fun _ => by omega, fun _ => rfl, fun _ => q1 (by omega), fun _ => Q, fun _ => by omega⟩
  · rw [w] at n1
    have c0 := g3 (by omega)
    have n2 : nv p = (x * 1024 + y) <<< 10 := by rw [Nat.shiftLeft_eq, e1, c0]; omega
    rw [n2, show l.toInt.toNat * 2 ^ (20 - 10 * 2) % 2 ^ 64 = l.toInt.toNat by omega, ← Nat.shiftLeft_add_eq_or_of_lt (by omega), Nat.shiftLeft_eq] at n1
    clear n2
    exact ⟨x, y, l.toInt.toNat, x1, y1, by omega, by rw [n1, Nat.add_mul, Nat.mul_assoc], fun _ => by omega, fun _ => by omega, fun _ => by omega, fun _ => q1 (by omega), fun _ => q2 (by omega), fun _ => Q⟩
theorem Pkq_t {S : Int} {nd : Nat → Int32} {mm : Nat → Int64} {k k2 l s a b : Int32} {p q r m : Int64} (h : Pkq S nd mm k.toInt p) (er : r = p ||| q) (eq : q = m <<< (s.toInt64 &&& 63)) (e0 : m = l.toInt64) (e1 : s = 30 - b) (e2 : b = 10 * a) (e3 : a = k + 1) (Q : Qp S nd mm l.toInt.toNat) (h0 : 0 ≤ k.toInt) (h2 : k.toInt ≤ 2) (l0 : 0 ≤ l.toInt) (l1 : l.toInt < 418) (ek : k2.toInt = k.toInt + 1) : Pkq S nd mm k2.toInt r := by
  rw [ek]; exact Pkq_s (s := s) h Q h0 h2 l0 l1 (by rw [e1, e2, e3]) (by rw [eq, e0]) er
def Mgc (r : Int64) (s : Int) (nd : Nat → Int32) (m : Nat → Int64) (pi : Nat → Int32) : Prop := r = 9223372036854775807 ∨ (Mgd r ∧ ∀ j : Nat, (j : Int) < (pi (celN r)).toInt → Qp s nd m (pinN r j))
theorem Pkq_g {S k : Int} {nd : Nat → Int32} {m : Nat → Int64} {pi : Nat → Int32} {c t x : Int32} {p r : Int64} {o : cf_O} (h : Pkq S nd m k p) (e : fMp_pack c t p o = some r) (ex : x = pi c.toNatClampNeg) (hk : x.toInt ≤ k) (h3 : x.toInt ≤ 3) : Mgc r S nd m pi := by
  obtain ⟨x, y, z, x1, y1, z1, e1, g1, g2, g3, q1, q2, q3⟩ := h
  obtain ⟨c0, c1, e2⟩ := pack_sp e (by omega)
  have ec : celN r = c.toNatClampNeg := by unfold celN; have := tn_n c; omega
  refine Or.inr ⟨by unfold Mgd; omega, fun j hj => ?_⟩
  rw [ec, ← ex] at hj
  unfold pinN
  rcases (show j = 0 ∨ j = 1 ∨ j = 2 by omega) with w | w | w <;> rw [w]
  · rw [show nv r / 2 ^ (20 - 10 * 0) % 1024 = x by omega]; exact q1 (by omega)
  · rw [show nv r / 2 ^ (20 - 10 * 1) % 1024 = y by omega]; exact q2 (by omega)
  · rw [show nv r / 2 ^ (20 - 10 * 2) % 1024 = z by omega]; exact q3 (by omega)
theorem mnl_or (x y : Int64) : op_mnl x y = x ∨ op_mnl x y = y := by unfold op_mnl; split; exact Or.inr rfl; exact Or.inl rfl
theorem Mgc_m {s : Int} {nd pi : Nat → Int32} {m : Nat → Int64} {x y z : Int64} (e : z = op_mnl x y) (h : Mgc x s nd m pi) (h2 : Mgc y s nd m pi) : Mgc z s nd m pi := by
  rcases mnl_or x y with q | q <;> rw [e, q]
  · exact h
  · exact h2
theorem Wok_0 {W s : Int} {wc wp ch fi pi : Nat → Int32} {p q v x : Int32} (h : Lwy W wc wp ch fi pi) (F : Ful v.toInt s) (e : fLi_listOf p v = some q) (es : p.toInt = s) (p0 : 0 ≤ s) (p3 : s ≤ 3) (ex : x = fi q.toNatClampNeg) (q0 : 0 ≤ q.toInt) (q1 : q.toInt < 512) : x.toInt = -1 ∨ Wok x.toInt W s wc pi := by
  rw [← es] at F
  have r := Ls_r e F (by omega) (by omega)
  have n := tn_n q
  rcases h.1 q.toNatClampNeg (by omega) with t | ⟨t0, t1, t2⟩
  · left; rw [ex]; exact t
  · right
    rw [ex]
    refine ⟨t1, ?_⟩
    have t2 : (pi (wc (fi q.toNatClampNeg).toInt.toNat).toNatClampNeg).toInt = _ := t2
    rw [t2, show ((q.toNatClampNeg : Nat) : Int) = q.toInt by omega]
    omega
theorem Wok_n {W s : Int} {wc wp ch fi pi : Nat → Int32} {v x : Int32} (h : Lwy W wc wp ch fi pi) (o : Wok v.toInt W s wc pi) (v0 : 0 ≤ v.toInt) (ex : x = ch v.toNatClampNeg) : x.toInt = -1 ∨ Wok x.toInt W s wc pi := by
  have n := tn_n v
  rcases (h.2 v.toNatClampNeg (by have := o.1; omega)).2 with t | ⟨t0, t1, t2⟩
  · left; rw [ex]; exact t
  · right
    rw [ex]
    refine ⟨t1, ?_⟩
    have t2 : (pi (wc (ch v.toNatClampNeg).toInt.toNat).toNatClampNeg).toInt = (pi (wc v.toInt.toNat).toNatClampNeg).toInt := t2
    rw [t2]; exact o.2
def Mgz (B : Int) (v : Int64) (m : Nat → Int64) (pi : Nat → Int32) : Prop := Mgd v ∧ ∀ j : Nat, (j : Int) < (pi (celN v)).toInt → ((pinN v j : Nat) : Int) < B ∧ ¬ m (pinN v j) = 9223372036854775807
def Mgo (B : Int) (v : Int64) (m : Nat → Int64) (pi : Nat → Int32) : Prop := v = 0 ∨ v = 9223372036854775807 ∨ Mgz B v m pi
theorem Mgd_n {v : Int64} (h : Mgd v) : ¬ v = 9223372036854775807 := fun q => by
  have h := h.1
  rw [q] at h
  exact absurd h (by decide)
theorem Mgc_o {g s : Int} {nd pi : Nat → Int32} {m : Nat → Int64} {r v : Int64} (h : Mgc r s nd m pi) (C : Cnd s nd v) (N : Cnn g.toNat v) (g1 : 1 ≤ g) (g2 : g ≤ 209) : Mgo (2 * g) r m pi := by
  rcases h with q | ⟨q, w⟩
  · exact Or.inr (Or.inl q)
  · refine Or.inr (Or.inr ⟨q, fun j hj => ?_⟩)
    obtain ⟨a, b, b1, b2⟩ := w j hj
    have := Cnn_in N (C b b1) (by omega) (by omega)
    exact ⟨by omega, a⟩
theorem Mgo_m {B : Int} {pi : Nat → Int32} {m : Nat → Int64} {x y z : Int64} (e : z = op_mnl x y) (h : Mgo B x m pi) (h2 : Mgo B y m pi) : Mgo B z m pi := by
  rcases mnl_or x y with q | q <;> rw [e, q]
  · exact h
  · exact h2
def Pln (g : Int) (p m : Nat → Int64) (pi : Nat → Int32) : Prop := Mgo (2 * g) (p (2 * g).toNat) m pi ∧ Mgo (2 * g) (p (2 * g + 1).toNat) m pi
theorem Pln_s {g : Int} {p m : Nat → Int64} {pi : Nat → Int32} {i j a b : Nat} {x17 x21 x29 x33 q18 q30 : Int64} (h : Pln g p m pi) (e33 : x33 = op_mnl x29 q30) (e29 : x29 = vp_updL p i x21 b) (e21 : x21 = op_mnl x17 q18) (e17 : x17 = p a) (G1 : Mgo (2 * g) q18 m pi) (G2 : Mgo (2 * g) q30 m pi) (ei : (i : Int) = 2 * g) (ej : (j : Int) = 2 * g + 1) (ea : (a : Int) = 2 * g) (eb : (b : Int) = 2 * g + 1) : Pln g (vp_updL (vp_updL p i x21) j x33) m pi := by
  have h1 : (2 * g).toNat = i := by omega
  have h2 : (2 * g + 1).toNat = j := by omega
  have h3 : a = i := by omega
  have h4 : b = j := by omega
  unfold Pln at h ⊢
  rw [h1, h2] at h ⊢
  rw [uL_s, uL_o (show ¬ i = j by omega), uL_s]
  rw [h4, uL_o (show ¬ j = i by omega)] at e29
  rw [h3] at e17
  exact ⟨Mgo_m e21 (by rw [e17]; exact h.1) G1, Mgo_m e33 (by rw [e29]; exact h.2) G2⟩
def Mby (r own opp : Int64) (l : Int) (pi : Nat → Int32) : Prop := r = own ∨ (¬ opp = 9223372036854775807 ∧ Mgd r ∧ (pi (celN r)).toInt = 1 ∧ ((pinN r 0 : Nat) : Int) = l)
theorem Mby_i {c t w x11 x2 x8 : Int32} {x12 x13 r own x5 : Int64} {p : Nat → Int64} {o : cf_O} {pi : Nat → Int32} (e : fMp_pack c t x13 o = some r) (e13 : x13 = x12 <<< ((20 : Int32).toInt64 &&& 63)) (e12 : x12 = x11.toInt64) (I : Ivr c.toInt pi) (hc : ¬ c.toInt = -1) (e8 : x8 = lg_cmp x5 9223372036854775807) (e5 : x5 = p x2.toNatClampNeg) (ew : x2 = w) (ew2 : x11 = w) (h8 : ¬ x8.toInt = 0) (h0 : 0 ≤ x11.toInt) (h1 : x11.toInt ≤ 417) : Mby r own (p w.toNatClampNeg) w.toInt pi := by
  rw [ew] at e5
  rw [← ew2] at e5 ⊢
  have n13 : nv x13 = x11.toInt.toNat * 2 ^ 20 := by
    rw [e13, nv_shl (k := 20) (by decide), e12, nv_32 h0]
    omega
  obtain ⟨c0, c1, e2⟩ := pack_sp e (by omega)
  rcases I with I | ⟨I0, I1⟩
  · exact absurd I hc
  right
  have ec : celN r = c.toInt.toNat := by unfold celN; omega
  refine ⟨fun q => ?_, by unfold Mgd; omega, by rw [ec]; exact I1, by unfold pinN; omega⟩
  apply h8
  have q2 : x5 = 9223372036854775807 := by rw [e5]; exact q
  rw [e8, (lg_cmp_eq _ _).mpr q2]; rfl
theorem xr_e {x : Int32} {n : Int} (e : x.toInt = 2 * n) (h0 : 0 ≤ n) (h1 : n ≤ 208) : (x ^^^ 1).toInt = 2 * n + 1 := by
  have k : ∀ i : Nat, i < 209 → (Int32.ofNat (2 * i) ^^^ 1).toInt = 2 * (i : Int) + 1 := by decide +kernel
  have t := k n.toNat (by omega)
  rw [show 2 * n.toNat = x.toInt.toNat by omega, of_n (by omega)] at t
  omega
theorem xr_o {x : Int32} {n : Int} (e : x.toInt = 2 * n + 1) (h0 : 0 ≤ n) (h1 : n ≤ 208) : (x ^^^ 1).toInt = 2 * n := by
  have k : ∀ i : Nat, i < 209 → (Int32.ofNat (2 * i + 1) ^^^ 1).toInt = 2 * (i : Int) := by decide +kernel
  have t := k n.toNat (by omega)
  rw [show 2 * n.toNat + 1 = x.toInt.toNat by omega, of_n (by omega)] at t
  omega
def Mal (n : Int) (m : Nat → Int64) (pi : Nat → Int32) : Prop := ∀ l : Nat, 2 ≤ l → (l : Int) < 2 * n → Mgo (2 * n) (m l) m pi
theorem Mal_0 {m : Nat → Int64} {pi : Nat → Int32} : Mal 1 m pi := fun l h1 h2 => by omega
theorem Mgo_w {B B2 : Int} {v : Int64} {m m2 : Nat → Int64} {pi : Nat → Int32} (h : Mgo B v m pi) (e : B ≤ B2) (hm : ∀ k : Nat, (k : Int) < B → m2 k = m k) : Mgo B2 v m2 pi := by
  rcases h with q | q | ⟨q, w⟩
  · exact Or.inl q
  · exact Or.inr (Or.inl q)
  · refine Or.inr (Or.inr ⟨q, fun j hj => ?_⟩)
    obtain ⟨a, b⟩ := w j hj
    exact ⟨by omega, by rw [hm _ a]; exact b⟩
theorem Mby_t {r own opp : Int64} {l B : Int} {m : Nat → Int64} {pi : Nat → Int32} (h : Mby r own opp l pi) (ho : Mgo B own m pi) (hl : l < B) (hm : ¬ opp = 9223372036854775807 → ¬ m l.toNat = 9223372036854775807) : Mgo B r m pi := by
  rcases h with q | ⟨a, b, c, d⟩
  · rw [q]; exact ho
  · refine Or.inr (Or.inr ⟨b, fun j hj => ?_⟩)
    have ej : j = 0 := by omega
    rw [ej, show pinN r 0 = l.toNat by omega]
    exact ⟨by omega, hm a⟩
theorem Mby_n {r own opp : Int64} {l : Int} {pi : Nat → Int32} (h : Mby r own opp l pi) (ho : ¬ own = 9223372036854775807) : ¬ r = 9223372036854775807 := by
  rcases h with q | ⟨a, b, c, d⟩
  · rw [q]; exact ho
  · exact Mgd_n b
theorem Mal_s {n n2 : Int} {p m : Nat → Int64} {pi : Nat → Int32} {x2 x11 : Int32} {r1 r2 : Int64} {i j : Nat} (h : Mal n m pi) (B1 : Mby r1 (p x2.toNatClampNeg) (p (x2 ^^^ 1).toNatClampNeg) (x2 ^^^ 1).toInt pi) (B2 : Mby r2 (p x11.toNatClampNeg) (p (x11 ^^^ 1).toNatClampNeg) (x11 ^^^ 1).toInt pi) (P : Pln n p m pi) (e2 : x2.toInt = 2 * n) (e11 : x11.toInt = 2 * n + 1) (ei : (i : Int) = 2 * n) (ej : (j : Int) = 2 * n + 1) (n1 : 1 ≤ n) (n8 : n ≤ 208) (en : n2 = n + 1) : Mal n2 (vp_updL (vp_updL m i r1) j r2) pi := by
  have x1 := xr_e e2 (by omega) n8
  have x2' := xr_o e11 (by omega) n8
  have c1 : x2.toNatClampNeg = i := by have := tn_n x2; omega
  have c2 : (x2 ^^^ 1).toNatClampNeg = j := by have := tn_n (x2 ^^^ 1); omega
  have c3 : x11.toNatClampNeg = j := by have := tn_n x11; omega
  have c4 : (x11 ^^^ 1).toNatClampNeg = i := by have := tn_n (x11 ^^^ 1); omega
  unfold Pln at P
  rw [show (2 * n).toNat = i by omega, show (2 * n + 1).toNat = j by omega] at P
  rw [c1, c2] at B1
  rw [c3, c4] at B2
  have hm : ∀ k : Nat, (k : Int) < 2 * n → vp_updL (vp_updL m i r1) j r2 k = m k := fun k hk => by rw [uL_o (by omega), uL_o (by omega)]
  have mi : vp_updL (vp_updL m i r1) j r2 i = r1 := by rw [uL_o (by omega), uL_s]
  have mj : vp_updL (vp_updL m i r1) j r2 j = r2 := uL_s _ _ _
  intro l l2 hl
  by_cases el : l = j
  · rw [el, mj]
    refine Mby_t B2 (Mgo_w P.2 (by omega) hm) (by omega) (fun q => ?_)
    rw [show (x11 ^^^ 1).toInt.toNat = i by omega, mi]
    exact Mby_n B1 q
  · by_cases el2 : l = i
    · rw [el2, mi]
      refine Mby_t B1 (Mgo_w P.1 (by omega) hm) (by omega) (fun q => ?_)
      rw [show (x2 ^^^ 1).toInt.toNat = j by omega, mj]
      exact Mby_n B2 q
    · rw [hm l (by omega)]
      exact Mgo_w (h l l2 (by omega)) (by omega) hm
theorem Mal_e {n n2 : Int} {m : Nat → Int64} {pi : Nat → Int32} (h : Mal n m pi) (e : n = n2) : Mal n2 m pi := by rw [← e]; exact h
def Mam (n : Int) (m : Nat → Int64) (pi : Nat → Int32) : Prop := ∀ l : Nat, (l : Int) < 2 * n → Mgo (2 * n) (m l) m pi
theorem Mam_i {n : Int} {m : Nat → Int64} {pi : Nat → Int32} {i j : Nat} (h : Mal n m pi) (ei : i = 0) (ej : j = 1) : Mam n (vp_updL (vp_updL m i 0) j 0) pi := fun l hl => by
  rw [ei, ej]
  by_cases l1 : l = 1
  · rw [l1, uL_s]; exact Or.inl rfl
  · rw [uL_o l1]
    by_cases l0 : l = 0
    · rw [l0, uL_s]; exact Or.inl rfl
    · rw [uL_o l0]
      rcases h l (by omega) hl with q | q | ⟨q, w⟩
      · exact Or.inl q
      · exact Or.inr (Or.inl q)
      · refine Or.inr (Or.inr ⟨q, fun k hk => ?_⟩)
        obtain ⟨a, b⟩ := w k hk
        refine ⟨a, ?_⟩
        by_cases k1 : pinN (m l) k = 1
        · rw [k1, uL_s]; decide
        · rw [uL_o k1]
          by_cases k0 : pinN (m l) k = 0
          · rw [k0, uL_s]; decide
          · rw [uL_o k0]; exact b
def Wtz (K : Int) (w : Nat → Int32) : Prop := ∀ l : Nat, (l : Int) < K → (w l).toInt = 0
theorem Wtz_0 {w : Nat → Int32} : Wtz 0 w := fun l hl => by omega
theorem Wtz_s {K K2 : Int} {w : Nat → Int32} {i : Nat} (h : Wtz K w) (hi : (i : Int) = K) (e : K2 = K + 1) : Wtz K2 (upd w i (vp_nar .boolean 0)) := fun l hl => by
  by_cases el : l = i
  · rw [el, up_s]; rfl
  · rw [up_o el]; exact h l (by omega)
def Wtd (n : Int) (m : Nat → Int64) (w : Nat → Int32) : Prop := ∀ l : Nat, (l : Int) < 2 * n → (w l).toInt = 0 ∨ ¬ m l = 9223372036854775807
theorem Wtd_0 {K n : Int} {m : Nat → Int64} {w : Nat → Int32} (h : Wtz K w) (e : 2 * n ≤ K) : Wtd n m w := fun l hl => Or.inl (h l (by omega))
theorem Wtd_s {n : Int} {m : Nat → Int64} {w : Nat → Int32} {i : Nat} {v : Int32} (h : Wtd n m w) (q : ¬ m i = 9223372036854775807) : Wtd n m (upd w i v) := fun l hl => by
  by_cases el : l = i
  · right; rw [el]; exact q
  · rw [up_o el]; exact h l hl
theorem lgm_n {x z : Int64} {y : Int32} (ey : y = lg_cmp z 9223372036854775807) (ez : z = x) (hn : ¬ y.toInt = 0) : ¬ x = 9223372036854775807 := fun q => hn (by rw [ey, (lg_cmp_eq _ _).mpr (by rw [ez]; exact q)]; rfl)
theorem Mgz_i {n : Int} {m : Nat → Int64} {pi w : Nat → Int32} {x5 x7 x11 : Int32} {x10 : Int64} (A : Mam n m pi) (W : Wtd n m w) (e7 : x7 = w x5.toNatClampNeg) (e11 : x11 = lg_cmp x10 0) (e10 : x10 = m x5.toNatClampNeg) (n7 : ¬ x7.toInt = 0) (n11 : ¬ x11.toInt = 0) (h0 : 0 ≤ x5.toInt) (h1 : x5.toInt < 2 * n) : Mgz (2 * n) (m x5.toNatClampNeg) m pi := by
  have t := tn_n x5
  rcases A x5.toNatClampNeg (by omega) with q | q | q
  · exact absurd (by rw [e11, (lg_cmp_eq _ _).mpr (show x10 = 0 by rw [e10]; exact q)]; rfl) n11
  · rcases W x5.toNatClampNeg (by omega) with z | z
    · exact absurd (by rw [e7]; exact z) n7
    · exact absurd q z
  · exact q
theorem Mgd_c {v x : Int64} {q : Int32} (h : Mgd v) (e : fMp_cellOf x = some q) (ex : x = v) : q.toInt = ((celN v : Nat) : Int) ∧ q.toInt ≤ 11 := by
  rw [ex] at e
  have t := cellOf_sp e
  have := h.1
  unfold celN
  omega
theorem Mgd_p {v x : Int64} {k q : Int32} (h : Mgd v) (e : fMp_pinOf x k = some q) (ex : x = v) (h0 : 0 ≤ k.toInt) (h2 : k.toInt ≤ 2) : q.toInt = ((pinN v k.toInt.toNat : Nat) : Int) ∧ q.toInt ≤ 417 := by
  rw [ex] at e
  have t := pinOf_sp e h0 h2
  have a := h.2.1
  have b := h.2.2.1
  have c := h.2.2.2
  unfold pinN
  rcases (show k.toInt.toNat = 0 ∨ k.toInt.toNat = 1 ∨ k.toInt.toNat = 2 by omega) with w | w | w <;> rw [w] at t ⊢ <;> omega
theorem Mgz_p {B : Int} {v x : Int64} {m : Nat → Int64} {pi : Nat → Int32} {k q c y : Int32} (h : Mgz B v m pi) (e : fMp_pinOf x k = some q) (ex : x = v) (ec : c.toInt = ((celN v : Nat) : Int)) (ey : y = pi c.toNatClampNeg) (hk : k.toInt < y.toInt) (h0 : 0 ≤ k.toInt) (h2 : k.toInt ≤ 2) : ¬ m q.toNatClampNeg = 9223372036854775807 := by
  have t := Mgd_p h.1 e ex h0 h2
  have cc : c.toNatClampNeg = celN v := by have := tn_n c; omega
  have qq : q.toNatClampNeg = pinN v k.toInt.toNat := by have := tn_n q; omega
  rw [qq]
  rw [cc] at ey
  exact (h.2 k.toInt.toNat (by rw [← ey]; omega)).2
def Tki (s : Int) (li : Nat → Int32) (m : Nat → Int64) : Prop := ∀ i : Nat, (i : Int) < s → 2 ≤ (li i).toInt ∧ (li i).toInt < 418 ∧ Mgd (m (li i).toNatClampNeg)
theorem Tki_0 {li : Nat → Int32} {m : Nat → Int64} : Tki 0 li m := fun i hi => by omega
theorem Tki_s {s s2 : Int} {li : Nat → Int32} {m : Nat → Int64} {i : Nat} {v : Int32} (h : Tki s li m) (g : Mgd (m v.toNatClampNeg)) (hi : (i : Int) = s) (h1 : 2 ≤ v.toInt) (h2 : v.toInt < 418) (e : s2 = s + 1) : Tki s2 (upd li i v) m := fun j hj => by
  by_cases ej : j = i
  · rw [ej, up_s]; exact ⟨h1, h2, g⟩
  · rw [up_o ej]; exact h j (by omega)
def Tks (r s : Int) (li : Nat → Int32) (m : Nat → Int64) : Prop := r = 0 ∨ Tki s li m
theorem Pln_0 {g : Int} {p m : Nat → Int64} {pi : Nat → Int32} {i j : Nat} (ei : (i : Int) = 2 * g) (ej : (j : Int) = 2 * g + 1) : Pln g (vp_updL (vp_updL p i 9223372036854775807) j 9223372036854775807) m pi := by
  unfold Pln
  rw [show (2 * g).toNat = i by omega, show (2 * g + 1).toNat = j by omega, uL_s, uL_o (by omega), uL_s]
  exact ⟨Or.inr (Or.inl rfl), Or.inr (Or.inl rfl)⟩
theorem Pln_g {g : Int} {p m : Nat → Int64} {pi : Nat → Int32} {i j k : Nat} (ei : (i : Int) = 2 * g) (ej : (j : Int) = 2 * g + 1) (ek : (k : Int) = 2 * g) : Pln g (vp_updL (vp_updL (vp_updL p i 9223372036854775807) j 9223372036854775807) k 0) m pi := by
  unfold Pln
  rw [show (2 * g).toNat = k by omega, show (2 * g + 1).toNat = j by omega, uL_s, uL_o (by omega), uL_s]
  exact ⟨Or.inl rfl, Or.inr (Or.inl rfl)⟩
theorem Tki_m {s : Int} {li : Nat → Int32} {m : Nat → Int64} {i : Nat} {x : Int32} {y : Int64} (h : Tki s li m) (hi : (i : Int) < s) (ey : y = m x.toNatClampNeg) (ex : x = li i) : Mgd y := by rw [ey, ex]; exact (h i hi).2.2
theorem Tki_v {s : Int} {li : Nat → Int32} {m m2 : Nat → Int64} (h : Tki s li m) (e : m2 = m) : Tki s li m2 := by rw [e]; exact h

def Nod (v : Int64) (k : Nat) : Prop := 1 ≤ k ∧ ∃ j : Nat, nv v / 256 ^ j % 256 = k
theorem Nod_0 {k : Nat} (h : Nod 0 k) : False := by
  obtain ⟨h1, j, hj⟩ := h
  have e : nv 0 = 0 := rfl
  rw [e, Nat.zero_div] at hj
  omega
theorem Nod_m {v : Int64} {k g : Nat} {l : List Nat} (h : Nod v k) (e : nv v = enc l) (F : Fall g l) (hg : g ≤ 256) : k ∈ l := by
  obtain ⟨h1, j, hj⟩ := h
  rw [e] at hj
  rcases enc_in j F hg with q | q
  · omega
  · rw [hj] at q; exact q
theorem enc_at : ∀ {l : List Nat} {g k : Nat}, Fall g l → g ≤ 256 → k ∈ l → ∃ j : Nat, enc l / 256 ^ j % 256 = k
  | [], _, _, _, _, h => by cases h
  | a :: l, g, k, F, hg, h => by
    have a1 := F.1.2
    rcases List.mem_cons.mp h with e | e
    · refine ⟨0, ?_⟩
      show (a + 256 * enc l) / 256 ^ 0 % 256 = k
      rw [Nat.pow_zero, Nat.div_one, Nat.add_mul_mod_self_left, e, Nat.mod_eq_of_lt (by omega)]
    · obtain ⟨j, hj⟩ := enc_at (l := l) (g := a) F.2 (by omega) e
      refine ⟨j + 1, ?_⟩
      show (a + 256 * enc l) / 256 ^ (j + 1) % 256 = k
      rw [Nat.pow_succ, Nat.mul_comm (256 ^ j) 256, ← Nat.div_div_eq_div_mul, Nat.add_mul_div_left _ _ (by decide), Nat.div_eq_of_lt (show a < 256 by omega), Nat.zero_add]
      exact hj
theorem Fall_p : ∀ {l : List Nat} {g k : Nat}, Fall g l → k ∈ l → 1 ≤ k
  | [], _, _, _, h => by cases h
  | a :: l, g, k, h, hk => by
    rcases List.mem_cons.mp hk with e | e
    · rw [e]; exact h.1.1
    · exact Fall_p h.2 e
theorem Nod_i {v : Int64} {k g : Nat} {l : List Nat} (h : k ∈ l) (e : nv v = enc l) (F : Fall g l) (hg : g ≤ 256) : Nod v k := by
  obtain ⟨j, hj⟩ := enc_at F hg h
  exact ⟨Fall_p F h, j, by rw [e]; exact hj⟩
theorem head_m {a : List Nat} {m : Nat} (h : a.headD 0 = m) (hm : 0 < m) : m ∈ a := by
  cases a with
  | nil => have h : 0 = m := h; omega
  | cons x l => have h : x = m := h; rw [h]; exact List.mem_cons_self
theorem dro_m {m k : Nat} {a : List Nat} (h : k ∈ dro m a) : k ∈ a := by
  unfold dro at h
  split at h
  · exact List.mem_of_mem_tail h
  · exact h
theorem mrg_m : ∀ {n k : Nat} {a b : List Nat}, k ∈ mrg n a b → k ∈ a ∨ k ∈ b
  | 0, _, _, _, h => by cases h
  | n + 1, k, a, b, h => by
    have h : k ∈ (if mxh a b = 0 then [] else mxh a b :: mrg n (dro (mxh a b) a) (dro (mxh a b) b)) := h
    by_cases z : mxh a b = 0
    · rw [if_pos z] at h; cases h
    · rw [if_neg z] at h
      rcases List.mem_cons.mp h with e | e
      · rw [e]
        have d : mxh a b = max (a.headD 0) (b.headD 0) := rfl
        rcases (show a.headD 0 = mxh a b ∨ b.headD 0 = mxh a b by omega) with q | q
        · exact Or.inl (head_m q (by omega))
        · exact Or.inr (head_m q (by omega))
      · rcases mrg_m e with q | q
        · exact Or.inl (dro_m q)
        · exact Or.inr (dro_m q)
def Sbq (q x y : Int64) : Prop := ∀ k : Nat, Nod q k → Nod x k ∨ Nod y k
theorem Sbq_0 {x y : Int64} : Sbq 0 x y := fun k h => (Nod_0 h).elim
theorem Kj3 {w u : Int} {f : Nat → Int64} {i j : Nat} {v : Int32} {x y q : Int64} (h : Kw w u f) (hi : (i : Int) < u) (hi2 : ¬ (i : Int) = w - 1) (hj : (j : Int) < u) (hj2 : ¬ (j : Int) = w - 1) (ex : x = f i) (ey : y = f j) (h0 : 0 ≤ v.toInt) (h5 : v.toInt ≤ 5) (e : fCu_join x y v = some q) : Sbq q (f i) (f j) := by
  obtain ⟨a, a1, a2, a3⟩ := h.2 i hi hi2
  obtain ⟨b, b1, b2, b3⟩ := h.2 j hj hj2
  have hg := h.1
  rcases join_sp (g := nv (f (w - 1).toNat)) (by omega) a2 b2 (by rw [ex]; exact a1) (by rw [ey]; exact b1) h0 h5 e with ⟨q1, q2⟩ | ⟨q1, q2⟩
  · intro k hk
    have m := Nod_m hk q2 (mrg_Fall v.toInt.toNat a2 b2) (by omega)
    rcases mrg_m m with z | z
    · exact Or.inl (Nod_i z a1 a2 (by omega))
    · exact Or.inr (Nod_i z b1 b2 (by omega))
  · rw [q2]; exact Sbq_0
def Rwi (x v : Int) (f : Nat → Int32) : Prop := (f x.toNat).toInt ≤ v
def Rwj (x v : Int) (f : Nat → Int32) : Prop := (f x.toNat).toInt ≤ v ∧ v < (f (x.toNat + 1)).toInt
theorem Rwj_i {x v : Int} {f : Nat → Int32} {z : Int32} {j : Nat} (h : Rwi x v f) (e : z = f j) (hj : (j : Int) = x + 1) (h0 : 0 ≤ x) (hl : v < z.toInt) : Rwj x v f := ⟨h, by rw [show x.toNat + 1 = j by omega, ← e]; exact hl⟩
theorem Rwi_n {x v v2 : Int} {f : Nat → Int32} (h : Rwi x v f) (e : v2 = v + 1) : Rwi x v2 f := by unfold Rwi at h ⊢; omega
def Sbj (x y s u : Int) (f : Nat → Int32) (py p : Nat → Int64) : Prop := ∀ i : Nat, s ≤ (i : Int) → (i : Int) < u → ∃ a b : Nat, Rwj x a f ∧ Rwj y b f ∧ Sbq (p i) (py a) (py b)
theorem Sbj_0 {x y s u : Int} {f : Nat → Int32} {py p : Nat → Int64} (e : u ≤ s) : Sbj x y s u f py p := fun i h1 h2 => by omega
theorem Sbj_a {x y s u u2 w : Int} {f : Nat → Int32} {py p p2 : Nat → Int64} {v : Int64} {i j : Nat} {a b : Int} (h : Sbj x y s u f py p) (A : Adp u v p p2) (B : Sbq v (p i) (p j)) (R1 : Rwj x a f) (R2 : Rwj y b f) (P : Pe w py p) (ei : (i : Int) = a) (ej : (j : Int) = b) (hi : a < w) (hj : b < w) (e : u2 = u + 1) (h0 : 0 ≤ u) : Sbj x y s u2 f py p2 := fun k h1 h2 => by
  by_cases ek : (k : Int) = u
  · refine ⟨i, j, by rw [ei]; exact R1, by rw [ej]; exact R2, ?_⟩
    rw [show k = u.toNat by omega, A.1, ← P i (by omega), ← P j (by omega)]
    exact B
  · rw [A.2 k (by omega)]
    exact h k h1 (by omega)
theorem Sbj_t {x y x2 y2 s u u2 n w : Int} {f F : Nat → Int32} {p p2 : Nat → Int64} (h : Sbj x y s u f p p) (B : Sbj x2 y2 u u2 f p p2) (P : Pe u p p2) (T : Stt n w f) (ex : x2 = x) (ey : y2 = y) (x1 : 1 ≤ x) (y1 : 1 ≤ y) (xn : x + 1 < n) (yn : y + 1 < n) (hw : w < u) (eF : F = f) : Sbj x y s u2 F p2 p2 := fun i h1 h2 => by
  rw [eF]
  have t1 := T (x.toNat + 1) (by omega) (by omega)
  have t2 := T (y.toNat + 1) (by omega) (by omega)
  by_cases hi : (i : Int) < u
  · obtain ⟨a, b, r1, r2, q⟩ := h i h1 hi
    have := r1.2
    have := r2.2
    refine ⟨a, b, r1, r2, ?_⟩
    rw [P i hi, P a (by omega), P b (by omega)]
    exact q
  · rw [ex, ey] at B
    obtain ⟨a, b, r1, r2, q⟩ := B i (by omega) h2
    have := r1.2
    have := r2.2
    refine ⟨a, b, r1, r2, ?_⟩
    rw [P a (by omega), P b (by omega)]
    exact q
def Cls (inp N : Int) (lo hi : Nat → Int32) (S : Nat → Prop) : Prop := ∀ g : Nat, inp < (g : Int) → (g : Int) < N → S g → S ((lo g).toInt / 2).toNat ∧ S ((hi g).toInt / 2).toNat
def Rcs (n u inp N : Int) (lo hi f : Nat → Int32) (p : Nat → Int64) : Prop := (n = 1 ∨ (f n.toNat).toInt = u) ∧ ∀ S : Nat → Prop, Cls inp N lo hi S → ∀ g : Nat, 1 ≤ g → (g : Int) < n → S g → ∀ i : Nat, Rwj g i f → ∀ k : Nat, Nod (p i) k → S k
theorem Rcs_0 {u inp N : Int} {lo hi f : Nat → Int32} {p : Nat → Int64} : Rcs 1 u inp N lo hi f p := ⟨Or.inl rfl, fun S C g h1 h2 => by omega⟩
theorem Rcs_s {n n2 u U U2 inp N : Int} {f d F D lo hi : Nat → Int32} {p m P M : Nat → Int64} (T : Stq n u U inp f d p m F D P M) (h : Rcs n u inp N lo hi f p) (hs : Sts n u f) (B : (n ≤ inp ∧ U = u + 1) ∨ (inp < n ∧ 2 ≤ (lo n.toNat).toInt ∧ (lo n.toNat).toInt / 2 < n ∧ 2 ≤ (hi n.toNat).toInt ∧ (hi n.toNat).toInt / 2 < n ∧ Sbj ((lo n.toNat).toInt / 2) ((hi n.toNat).toInt / 2) (u + 1) U F P P)) (h1 : 1 ≤ n) (h8 : n < 209) (hN : n < N) (h0 : 0 ≤ u) (e2 : n2 = n + 1) (eU : U2 = U) : Rcs n2 U2 inp N lo hi F P := by
  obtain ⟨t1, t2, t3, t4, t5, t6, t7, t8, t9⟩ := T
  rw [e2, eU]
  refine ⟨Or.inr (by rw [show (n + 1).toNat = n.toNat + 1 by omega]; exact t3), fun S C => ?_⟩
  have A : ∀ g : Nat, 1 ≤ g → (g : Int) < n → S g → ∀ i : Nat, Rwj g i F → ∀ k : Nat, Nod (P i) k → S k := by
    intro g g1 g2 hS i r k hk
    have hs : Stt (n + 1) u f := hs.resolve_left (by omega)
    have f1 := hs (g + 1) (by omega) (by omega)
    have r1 := r.1
    have r2 := r.2
    rw [show ((g : Int)).toNat = g by omega, t1 g g2] at r1
    rw [show ((g : Int)).toNat = g by omega] at r2
    have r3 : (i : Int) < (f (g + 1)).toInt := by
      by_cases eg : (g : Int) + 1 = n
      · rw [show g + 1 = n.toNat by omega, t2] at r2
        rw [show g + 1 = n.toNat by omega, h.1.resolve_left (by omega)]; exact r2
      · rw [t1 (g + 1) (by omega)] at r2; exact r2
    rw [t7 i (by omega)] at hk
    exact h.2 S C g g1 g2 hS i ⟨by rw [show ((g : Int)).toNat = g by omega]; exact r1, by rw [show ((g : Int)).toNat = g by omega]; exact r3⟩ k hk
  intro g g1 g2 hS i r k hk
  by_cases gn : (g : Int) < n
  · exact A g g1 gn hS i r k hk
  · have eg : g = n.toNat := by omega
    have r1 := r.1
    have r2 := r.2
    rw [show ((g : Int)).toNat = n.toNat by omega] at r1 r2
    rw [t2] at r1
    rw [t3] at r2
    by_cases iu : (i : Int) = u
    · obtain ⟨k1, j, hj⟩ := hk
      rw [show i = u.toNat by omega, t8] at hj
      have : k = g := by
        cases j with
        | zero => rw [Nat.pow_zero, Nat.div_one, Nat.mod_eq_of_lt (by omega)] at hj; omega
        | succ j =>
          have z : n.toNat / 256 ^ (j + 1) = 0 := Nat.div_eq_of_lt (Nat.lt_of_lt_of_le (show n.toNat < 256 ^ 1 by omega) (Nat.pow_le_pow_right (by decide) (by omega)))
          rw [z] at hj; omega
      rw [this]; exact hS
    · rcases B with ⟨b1, b2⟩ | ⟨b1, b2, b3, b4, b5, b6⟩
      · omega
      · obtain ⟨a, b, ra, rb, q⟩ := b6 i (by omega) (by omega)
        rw [eg] at hS
        obtain ⟨s1, s2⟩ := C n.toNat (by omega) (by omega) hS
        rcases q k hk with z | z
        · exact A _ (by omega) (by omega) s1 a (by rw [show (((((lo n.toNat).toInt / 2).toNat : Nat)) : Int) = (lo n.toNat).toInt / 2 by omega]; exact ra) k z
        · exact A _ (by omega) (by omega) s2 b (by rw [show (((((hi n.toNat).toInt / 2).toNat : Nat)) : Int) = (hi n.toNat).toInt / 2 by omega]; exact rb) k z
def Rcf (r u inp N : Int) (lo hi f : Nat → Int32) (p : Nat → Int64) : Prop := r = 0 ∨ Rcs N u inp N lo hi f p
theorem Rcs_e {n n2 u u2 inp N : Int} {lo hi f : Nat → Int32} {p : Nat → Int64} (h : Rcs n u inp N lo hi f p) (e : n2 = n) (e2 : u2 = u) : Rcs n2 u2 inp N lo hi f p := by rw [e, e2]; exact h
theorem Sbj_e {x y s s2 u : Int} {f : Nat → Int32} {py p : Nat → Int64} (h : Sbj x y s u f py p) (e : s2 = s) : Sbj x y s2 u f py p := by rw [e]; exact h
theorem Sbj_f {x y s s2 u n : Int} {f F : Nat → Int32} {p : Nat → Int64} {j : Nat} {b : Int32} (h : Sbj x y s u f p p) (eF : F = upd f j b) (ej : (j : Int) = n + 1) (x0 : 0 ≤ x) (xn : x < n) (y0 : 0 ≤ y) (yn : y < n) (e : s2 = s) : Sbj x y s2 u F p p := fun i h1 h2 => by
  obtain ⟨a, c, r1, r2, q⟩ := h i (by omega) h2
  refine ⟨a, c, ?_, ?_, q⟩
  · unfold Rwj at r1 ⊢; rw [eF, up_o (by omega), up_o (by omega)]; exact r1
  · unfold Rwj at r2 ⊢; rw [eF, up_o (by omega), up_o (by omega)]; exact r2

def Inr (g : Int) (v : Int64) (f : Nat → Int32) (p : Nat → Int64) : Prop := ∃ i : Nat, Rwj g i f ∧ v = p i
def Inq (g : Int) (v : Int64) (f : Nat → Int32) (p : Nat → Int64) : Prop := v = 9223372036854775807 ∨ Inr g v f p
theorem Cgg_n {g : Int} {d : Nat → Int32} {v : Int64} (h : Cgg g d v) (hg : g ≤ 209) : ¬ v = 9223372036854775807 := fun q => by
  obtain ⟨l, l1, l2, l3, l4⟩ := h
  have z := enc_lt l2 (by omega)
  have z2 : 256 ^ l.length ≤ 256 ^ 5 := Nat.pow_le_pow_right (by decide) l3
  have e : nv 9223372036854775807 = 9223372036854775807 := by decide
  rw [q, e] at l1
  generalize 256 ^ l.length = w at z z2
  omega
theorem Inq_s {g a r : Int} {x : Int64} {f : Nat → Int32} {p : Nat → Int64} {i : Nat} (B : Bhl r g f) (ex : x = p i) (ei : (i : Int) = a) (h1 : (f g.toNat).toInt + 1 ≤ a) (h2 : a < r) : Inq g x f p := by
  have B : (f (g.toNat + 1)).toInt = r := by first | exact B | exact B.symm
  exact Or.inr ⟨i, ⟨by omega, by omega⟩, ex⟩
theorem Inr_i {g : Int} {d f : Nat → Int32} {p : Nat → Int64} {v : Int64} (h : Inq g v f p) (C : Cgg g d v) (hg : g ≤ 209) : Inr g v f p := h.resolve_left (Cgg_n C hg)
theorem Inr_4 {g u m r : Int} {d f : Nat → Int32} {p : Nat → Int64} {v : Int64} (I : Inr g v f p) (B : Brw g u f d p) (L : Lmp m u p) (em : m = 4) (h : S34 r v) : r ≤ 4 := by
  obtain ⟨i, ri, e⟩ := I
  have := B.2.2.2.1
  have := ri.2
  exact S34_4 h L em e (by omega)
def Fcn (s : Int) (nd re : Nat → Int32) (N : Int) : Prop := ∀ j : Nat, (j : Int) < s → (re (nd j).toNatClampNeg).toInt < 2 * N
theorem Fcn_w {s N N2 : Int} {nd re : Nat → Int32} (h : Fcn s nd re N) (e : N ≤ N2) : Fcn s nd re N2 := fun j hj => by have := h j hj; omega
theorem Fcn_at {s N : Int} {nd re : Nat → Int32} {j : Nat} {x y : Int32} (h : Fcn s nd re N) (ey : y = re x.toNatClampNeg) (ex : x = nd j) (hj : (j : Int) < s) : y.toInt < 2 * N := by rw [ey, ex]; exact h j hj
theorem Fcn_i {s g b G K L N NN u inp : Int} {nodes re ou nd us lo hi f d : Nat → Int32} {p : Nat → Int64} {v : Int64} (R : Rn L b N nd re) (C : Cnd s nodes v) (I : Inr g v f p) (Q : Rcs NN u inp NN lo hi f p) (Lk' : Lk (-1) b G K ou (sh b lo) (sh b hi) nd us) (hG : Gx b G (sh b lo) (sh b hi)) (Cg : Cgg g d v) (hn : ¬ (nd g.toNat).toInt = 0) (eL : g = L) (eb : b = inp + 1) (eN : NN = b + G) (g1 : 1 ≤ g) (gN : g < NN) (g9 : g ≤ 209) (b0 : 1 ≤ b) (n0 : ∀ j, 0 ≤ (nodes j).toInt) : Fcn s nodes re N := fun j hj => by
  have cls : Cls inp NN lo hi (fun k => (k : Int) < b ∨ ¬ (nd k).toInt = 0) := by
    intro q q1 q2 hq
    have hq : ¬ (nd q).toInt = 0 := hq.resolve_left (by omega)
    have e : (q : Int) = b + ((q - b.toNat : Nat) : Int) := by omega
    have t := hG (q - b.toNat) (by omega)
    rw [sh_e e, sh_e e] at t
    refine ⟨Or.inr ?_, Or.inr ?_⟩
    · exact Lk_k Lk' (q - b.toNat) q _ (by omega) (by omega) e hq (Or.inl (by rw [sh_e e]; omega))
    · exact Lk_k Lk' (q - b.toNat) q _ (by omega) (by omega) e hq (Or.inr (by rw [sh_e e]; omega))
  obtain ⟨i, r, ev⟩ := I
  have key := Q.2 _ cls g.toNat (by omega) (by omega) (Or.inr hn) i (by rw [show ((g.toNat : Nat) : Int) = g by omega]; exact r)
  have c := C j hj
  have nn := n0 j
  obtain ⟨l, l1, l2, l3, l4⟩ := Cg
  have lt := Cnn_in (g := g.toNat) ⟨l, l1, l2, l3⟩ c (by omega) (by omega)
  have tn := tn_n (nodes j)
  by_cases z : (nodes j).toInt = 0
  · exact R _ (by omega) (Or.inl (by omega))
  · obtain ⟨jj, hjj⟩ := c
    have nd' : Nod v (nodes j).toNatClampNeg := ⟨by omega, jj, by omega⟩
    rw [ev] at nd'
    exact R _ (by omega) (key _ nd')

def Rok (x : Int32) : Prop := ∀ k : Int32, 0 ≤ k.toInt → k.toInt < 6 → ¬ ((x >>> ((2 * k) &&& 31)) &&& 3).toInt = 3
def Rwo (f : Nat → Int32) : Prop := ∀ i : Nat, Rok (f i)
theorem Rok_0 : Rok 0 := by
  intro k h0 h1
  have t : ∀ i : Nat, i < 6 → ¬ (((0 : Int32) >>> ((2 * Int32.ofNat i) &&& 31)) &&& 3).toInt = 3 := by decide +kernel
  have z := t k.toInt.toNat (by omega)
  rw [of_n h0] at z
  exact z
theorem Rwo_s {f : Nat → Int32} {i : Nat} {v : Int32} (h : Rwo f) (hv : Rok v) : Rwo (upd f i v) := fun j => by
  by_cases e : j = i
  · rw [e, up_s]; exact hv
  · rw [up_o e]; exact h j
def digF (x j : Int32) : Int32 := (x >>> ((2 * j) &&& 31)) &&& 3
def okb (k x : Nat) : Bool := decide (x < 4 ^ k) && (decide (¬ (digF (Int32.ofNat x) 0).toInt = 3) && (decide (¬ (digF (Int32.ofNat x) 1).toInt = 3) && (decide (¬ (digF (Int32.ofNat x) 2).toInt = 3) && (decide (¬ (digF (Int32.ofNat x) 3).toInt = 3) && (decide (¬ (digF (Int32.ofNat x) 4).toInt = 3) && decide (¬ (digF (Int32.ofNat x) 5).toInt = 3))))))
def addF (x d k : Int32) : Int32 := x ||| (d <<< ((2 * k) &&& 31))
theorem okb_s : ∀ k : Nat, k < 5 → ∀ x : Nat, x < 1024 → okb k x = true → ∀ d : Nat, d < 3 → okb (k + 1) (addF (Int32.ofNat x) (Int32.ofNat d) (Int32.ofNat k)).toInt.toNat = true ∧ 0 ≤ (addF (Int32.ofNat x) (Int32.ofNat d) (Int32.ofNat k)).toInt ∧ (addF (Int32.ofNat x) (Int32.ofNat d) (Int32.ofNat k)).toInt < 1024 := by decide +kernel
def Rkd (k : Int) (x : Int32) : Prop := 0 ≤ x.toInt ∧ x.toInt < 1024 ∧ okb k.toNat x.toInt.toNat = true
theorem Rkd_0 : Rkd 0 0 := ⟨by decide, by decide, by decide⟩
theorem Rkd_s {x y z d k k2 a : Int32} (h : Rkd k.toInt x) (ez : z = x ||| y) (ey : y = d <<< (a &&& 31)) (ea : a = 2 * k) (k0 : 0 ≤ k.toInt) (k5 : k.toInt < 5) (d0 : 0 ≤ d.toInt) (d2 : d.toInt < 3) (e2 : k2.toInt = k.toInt + 1) : Rkd k2.toInt z := by
  obtain ⟨h0, h1, h2⟩ := h
  have t := okb_s k.toInt.toNat (by omega) x.toInt.toNat (by omega) h2 d.toInt.toNat (by omega)
  rw [of_n h0, of_n d0, of_n k0] at t
  have e : z = addF x d k := by rw [ez, ey, ea]; rfl
  rw [← e] at t
  exact ⟨t.2.1, t.2.2, by rw [e2, show (k.toInt + 1).toNat = k.toInt.toNat + 1 by omega]; exact t.1⟩
theorem Rkd_r {k : Int} {x : Int32} (h : Rkd k x) : Rok x := by
  obtain ⟨h0, h1, h2⟩ := h
  unfold okb at h2
  rw [of_n h0] at h2
  simp only [Bool.and_eq_true, decide_eq_true_eq] at h2
  intro j j0 j6
  rw [← of_n j0]
  rcases (show j.toInt.toNat = 0 ∨ j.toInt.toNat = 1 ∨ j.toInt.toNat = 2 ∨ j.toInt.toNat = 3 ∨ j.toInt.toNat = 4 ∨ j.toInt.toNat = 5 by omega) with w | w | w | w | w | w <;> rw [w]
  · exact h2.2.1
  · exact h2.2.2.1
  · exact h2.2.2.2.1
  · exact h2.2.2.2.2.1
  · exact h2.2.2.2.2.2.1
  · exact h2.2.2.2.2.2.2
def Rks (x : Int32) : Prop := x.toInt = -1 ∨ Rok x

def Sok (inp tabs s : Int) : Prop := (0 ≤ s ∧ s < inp) ∨ (8 ≤ s ∧ s < 8 + tabs)
def bt (x : Int32) (u : Nat) : Bool := x.toBitVec.toNat.testBit u
theorem bt_or {x y : Int32} {u : Nat} : bt (x ||| y) u = (bt x u || bt y u) := by unfold bt; rw [Int32.toBitVec_or, BitVec.toNat_or, Nat.testBit_or]
theorem bt_1 {x s : Int32} (ex : x = (1 : Int32) <<< (s &&& 31)) (s0 : 0 ≤ s.toInt) (s9 : s.toInt ≤ 29) : bt x s.toInt.toNat = true := by
  have t : ∀ i : Nat, i < 30 → bt ((1 : Int32) <<< (Int32.ofNat i &&& 31)) i = true := by decide +kernel
  have z := t s.toInt.toNat (by omega)
  rw [of_n s0] at z
  rw [ex]; exact z
theorem bv_n : ∀ i : Nat, i < 30 → (Int32.ofNat i).toBitVec.toNat = i := by decide +kernel
theorem bt_t {x v a b : Int32} (eb : b = a &&& 1) (ea : a = x >>> (v &&& 31)) (x0 : 0 ≤ x.toInt) (v0 : 0 ≤ v.toInt) (v9 : v.toInt ≤ 29) : (b.toInt = 0 ∧ bt x v.toInt.toNat = false) ∨ (¬ b.toInt = 0 ∧ bt x v.toInt.toNat = true) := by
  have z := bv_n v.toInt.toNat (by omega)
  rw [of_n v0] at z
  have e : a.toInt = x.toInt / 2 ^ v.toBitVec.toNat := by rw [ea]; exact i_shr x0 v0 (by omega)
  have n := i_nn x0
  rw [z] at e
  have e1 : a.toInt = ((x.toInt.toNat / 2 ^ v.toInt.toNat : Nat) : Int) := by
    rw [e, Int.natCast_ediv, Int.natCast_pow, show ((x.toInt.toNat : Nat) : Int) = x.toInt by omega]; rfl
  have a0 : 0 ≤ a.toInt := by rw [e1]; exact Int.natCast_nonneg _
  have e2 : b.toInt = a.toInt % 2 := by rw [eb]; exact i_a1 a0
  have e3 : bt x v.toInt.toNat = decide (x.toInt.toNat / 2 ^ v.toInt.toNat % 2 = 1) := by
    unfold bt
    rw [show x.toBitVec.toNat = x.toInt.toNat by omega]
    exact Nat.testBit_eq_decide_div_mod_eq
  rw [e3]
  by_cases q : x.toInt.toNat / 2 ^ v.toInt.toNat % 2 = 1
  · right; rw [decide_eq_true q]; exact ⟨by omega, rfl⟩
  · left; rw [decide_eq_false q]; exact ⟨by omega, rfl⟩
def cntF (x : Int32) : Nat → Nat
  | 0 => 0
  | n + 1 => cntF x n + (if bt x n = true then 1 else 0)
theorem cntb_le {x y : Int32} : ∀ n : Nat, (∀ u, u < n → bt x u = true → bt y u = true) → cntF x n ≤ cntF y n
  | 0, _ => Nat.le_refl _
  | n + 1, h => by
    have i := cntb_le n (fun u hu => h u (by omega))
    show cntF x n + (if bt x n = true then 1 else 0) ≤ cntF y n + (if bt y n = true then 1 else 0)
    by_cases q : bt x n = true
    · rw [if_pos q, if_pos (h n (by omega) q)]; omega
    · rw [if_neg q]; omega
theorem cntb_lt {x y : Int32} {w : Nat} (hy : bt y w = true) (hx : bt x w = false) : ∀ n : Nat, w < n → (∀ u, u < n → bt x u = true → bt y u = true) → cntF x n < cntF y n
  | 0, hw, _ => by omega
  | n + 1, hw, h => by
    show cntF x n + (if bt x n = true then 1 else 0) < cntF y n + (if bt y n = true then 1 else 0)
    by_cases e : w = n
    · have i := cntb_le (x := x) (y := y) n (fun u hu => h u (by omega))
      rw [← e, hx, hy, if_neg (by decide), if_pos rfl, e]; omega
    · have i := cntb_lt hy hx n (by omega) (fun u hu => h u (by omega))
      by_cases q : bt x n = true
      · rw [if_pos q, if_pos (h n (by omega) q)]; omega
      · rw [if_neg q]; omega
theorem cntb_n {x : Int32} : ∀ n : Nat, cntF x n ≤ n
  | 0 => Nat.le_refl _
  | n + 1 => by
    have i := cntb_n (x := x) n
    show cntF x n + (if bt x n = true then 1 else 0) ≤ n + 1
    split <;> omega
theorem cntb_m {x : Int32} {t : Nat} (h : bt x t = false) : ∀ n : Nat, t < n → cntF x n < n
  | 0, ht => by omega
  | n + 1, ht => by
    show cntF x n + (if bt x n = true then 1 else 0) < n + 1
    by_cases e : t = n
    · have i := cntb_n (x := x) n
      rw [← e, h, if_neg (by decide), e]; omega
    · have i := cntb_m h n (by omega)
      split <;> omega
def Rea (K : Int) (wi so re : Nat → Int32) : Prop := ∀ t : Nat, (t : Int) < K → ∀ k : Nat, 6 * t ≤ k → (k : Int) < 6 * t + (wi t).toInt → 8 ≤ (so k).toInt → bt (re t) ((so k).toInt - 8).toNat = true
def Reb (t k : Int) (so re : Nat → Int32) : Prop := ∀ j : Nat, 6 * t ≤ (j : Int) → (j : Int) < k → 8 ≤ (so j).toInt → bt (re t.toNat) ((so j).toInt - 8).toNat = true
theorem Rea_0 {wi so re : Nat → Int32} : Rea 0 wi so re := fun t ht => by omega
theorem Rea_u {K : Int} {wi so re : Nat → Int32} {i : Nat} {v : Int32} (h : Rea K wi so re) (hi : (i : Int) = K) : Rea K wi so (upd re i v) := fun t ht k h1 h2 h3 => by
  rw [up_o (by omega)]; exact h t ht k h1 h2 h3
theorem Reb_0 {t k : Int} {so re : Nat → Int32} (e : k = 6 * t) : Reb t k so re := fun j h1 h2 => by omega
theorem Reb_n {t k k2 : Int} {so re : Nat → Int32} {i : Nat} {x : Int32} (h : Reb t k so re) (ex : x = so i) (hi : (i : Int) = k) (hl : x.toInt < 8) (e : k2 = k + 1) : Reb t k2 so re := fun j h1 h2 h3 => by
  by_cases ej : j = i
  · rw [ej, ← ex] at h3; omega
  · exact h j h1 (by omega) h3
theorem Reb_s {t k k2 : Int} {so re : Nat → Int32} {i n : Nat} {y z a b c : Int32} (h : Reb t k so re) (ec : c = a ||| b) (eb : b = (1 : Int32) <<< (z &&& 31)) (ea : a = re n) (ez : z.toInt = y.toInt - 8) (ey : y = so i) (hi : (i : Int) = k) (hn : (n : Int) = t) (z0 : 0 ≤ z.toInt) (z9 : z.toInt ≤ 29) (e : k2 = k + 1) : Reb t k2 so (upd re n c) := fun j h1 h2 h3 => by
  rw [show t.toNat = n by omega, up_s, ec, bt_or]
  by_cases ej : j = i
  · rw [ej, ← ey, ← ez, bt_1 eb z0 z9, Bool.or_true]
  · have q := h j h1 (by omega) h3
    rw [show t.toNat = n by omega, ← ea] at q
    rw [q, Bool.true_or]
theorem Rea_n {K K2 k : Int} {wi so re : Nat → Int32} {i : Nat} {x : Int32} (h : Rea K wi so re) (q : Reb K k so re) (ex : x = wi i) (hi : (i : Int) = K) (hk : 6 * K + x.toInt ≤ k) (e : K2 = K + 1) : Rea K2 wi so re := fun t ht k' h1 h2 h3 => by
  by_cases et : t = i
  · rw [et, ← ex] at h2
    rw [et] at h1 ⊢
    have z := q k' (by omega) (by omega) h3
    rw [show K.toNat = i by omega] at z
    exact z
  · exact h t (by omega) k' h1 h2 h3
def Trc (m T : Int) (re : Nat → Int32) : Prop := ∀ k : Nat, (k : Int) < m → ∀ t : Nat, (t : Int) < T → bt (re t) k = true → ∀ u : Nat, bt (re k) u = true → bt (re t) u = true
theorem Trc_0 {T : Int} {re : Nat → Int32} : Trc 0 T re := fun k hk => by omega
def nwF (R : Nat → Int32) (m t : Nat) : Int32 := if bt (R t) m = true then R t ||| R m else R t
def Mid (m v T : Int) (wi so re : Nat → Int32) : Prop := ∃ R : Nat → Int32, Trc m T R ∧ Rea T wi so R ∧ ∀ t : Nat, re t = if (t : Int) < v then nwF R m.toNat t else R t
theorem Mid_0 {m T : Int} {wi so re : Nat → Int32} (h : Trc m T re) (h2 : Rea T wi so re) : Mid m 0 T wi so re := ⟨re, h, h2, fun t => by rw [if_neg (by omega)]⟩
theorem Mid_n {m v v2 T : Int} {wi so re : Nat → Int32} {i : Nat} {x : Int32} (h : Mid m v T wi so re) (ex : x = re i) (hi : (i : Int) = v) (hb : bt x m.toNat = false) (e : v2 = v + 1) : Mid m v2 T wi so re := by
  obtain ⟨R, h1, h2, h3⟩ := h
  refine ⟨R, h1, h2, fun t => ?_⟩
  by_cases et : t = i
  · have q := h3 i
    rw [if_neg (by omega)] at q
    rw [et, if_pos (by omega), q]
    unfold nwF
    rw [ex, q] at hb
    rw [if_neg (by rw [hb]; decide)]
  · rw [h3 t]
    by_cases tv : (t : Int) < v
    · rw [if_pos tv, if_pos (by omega)]
    · rw [if_neg tv, if_neg (by omega)]
theorem or_self32 (x : Int32) : x ||| x = x := by apply Int32.toBitVec_inj.mp; rw [Int32.toBitVec_or, BitVec.or_self]
theorem Mid_s {m v v2 T : Int} {wi so re : Nat → Int32} {i j : Nat} {x y z w : Int32} (h : Mid m v T wi so re) (hb : bt w m.toNat = true) (ez : z = x ||| y) (ex : x = re i) (ey : y = re j) (ew : w = re i) (hi : (i : Int) = v) (hj : (j : Int) = m) (e : v2 = v + 1) : Mid m v2 T wi so (upd re i z) := by
  obtain ⟨R, h1, h2, h3⟩ := h
  refine ⟨R, h1, h2, fun t => ?_⟩
  have qi := h3 i
  rw [if_neg (by omega)] at qi
  have qj : re j = R j := by
    rw [h3 j]
    by_cases jv : (j : Int) < v
    · rw [if_pos jv, show m.toNat = j by omega]
      unfold nwF
      split
      · exact or_self32 _
      · rfl
    · rw [if_neg jv]
  by_cases et : t = i
  · rw [et, up_s, if_pos (by omega), ez, ex, ey, qi, qj]
    unfold nwF
    rw [ew, qi] at hb
    rw [if_pos hb, show m.toNat = j by omega]
  · rw [up_o et, h3 t]
    by_cases tv : (t : Int) < v
    · rw [if_pos tv, if_pos (by omega)]
    · rw [if_neg tv, if_neg (by omega)]
theorem nw_or {R : Nat → Int32} {m t u : Nat} (h : bt (R t) u = true) : bt (nwF R m t) u = true := by
  unfold nwF
  split
  · rw [bt_or, h, Bool.true_or]
  · exact h
theorem nw_in {R : Nat → Int32} {m t u : Nat} (h : bt (nwF R m t) u = true) : bt (R t) u = true ∨ (bt (R t) m = true ∧ bt (R m) u = true) := by
  unfold nwF at h
  split at h
  · rename_i q
    rw [bt_or, Bool.or_eq_true] at h
    rcases h with h | h
    · exact Or.inl h
    · exact Or.inr ⟨q, h⟩
  · exact Or.inl h
theorem nw_m {R : Nat → Int32} {m t u : Nat} (h : bt (R t) m = true) (hu : bt (R m) u = true) : bt (nwF R m t) u = true := by
  unfold nwF
  rw [if_pos h, bt_or, hu, Bool.or_true]
theorem Mid_x {m m2 v T : Int} {wi so re : Nat → Int32} (h : Mid m v T wi so re) (hv : T ≤ v) (m0 : 0 ≤ m) (mT : m < T) (e : m2 = m + 1) : Trc m2 T re ∧ Rea T wi so re := by
  obtain ⟨R, h1, h2, h3⟩ := h
  have E : ∀ t : Nat, (t : Int) < T → re t = nwF R m.toNat t := fun t ht => by rw [h3 t, if_pos (by omega)]
  constructor
  · intro k hk t ht hkt u hu
    rw [E t ht] at hkt ⊢
    rw [E k (by omega)] at hu
    by_cases km : k = m.toNat
    · rw [km] at hu hkt
      have hm : bt (R t) m.toNat = true := by
        rcases nw_in hkt with q | q
        · exact q
        · exact q.1
      rcases nw_in hu with q | q
      · exact nw_m hm q
      · exact nw_m hm q.2
    · rcases nw_in hkt with q | ⟨q1, q2⟩
      · rcases nw_in hu with z | ⟨z1, z2⟩
        · exact nw_or (h1 k (by omega) t ht q u z)
        · exact nw_m (h1 k (by omega) t ht q m.toNat z1) z2
      · rcases nw_in hu with z | ⟨z1, z2⟩
        · exact nw_m q1 (h1 k (by omega) m.toNat (by omega) q2 u z)
        · exact nw_m q1 z2
  · intro t ht k k1 k2 k3
    rw [E t ht]
    exact nw_or (h2 t ht k k1 k2 k3)
def Nrg (K : Int) (re : Nat → Int32) : Prop := ∀ t : Nat, (t : Int) < K → bt (re t) t = false
theorem Nrg_0 {re : Nat → Int32} : Nrg 0 re := fun t ht => by omega
theorem Nrg_s {K K2 : Int} {re : Nat → Int32} {i : Nat} {x : Int32} (h : Nrg K re) (ex : x = re i) (hi : (i : Int) = K) (hb : bt x K.toNat = false) (e : K2 = K + 1) : Nrg K2 re := fun t ht => by
  by_cases et : t = i
  · rw [et, ← ex, show i = K.toNat by omega]; exact hb
  · exact h t (by omega)
def Lor (r T : Int) (wi so re : Nat → Int32) : Prop := ¬ r = -1 ∨ (Trc T T re ∧ Rea T wi so re ∧ Nrg T re)
def Osk (K inp tabs : Int) (os : Nat → Int32) : Prop := ∀ k : Nat, (k : Int) < K → Sok inp tabs (os k).toInt
def Ssk (K inp tabs : Int) (wi so : Nat → Int32) : Prop := ∀ t : Nat, (t : Int) < K → ∀ k : Nat, 6 * t ≤ k → (k : Int) < 6 * t + (wi t).toInt → Sok inp tabs (so k).toInt
def Ssj (a b inp tabs : Int) (so : Nat → Int32) : Prop := ∀ k : Nat, a ≤ (k : Int) → (k : Int) < b → Sok inp tabs (so k).toInt
theorem Osk_0 {inp tabs : Int} {os : Nat → Int32} : Osk 0 inp tabs os := fun k hk => by omega
theorem Osk_s {K K2 inp tabs : Int} {os : Nat → Int32} {i : Nat} {v : Int32} (h : Osk K inp tabs os) (s : Sok inp tabs v.toInt) (hi : (i : Int) = K) (e : K2 = K + 1) : Osk K2 inp tabs (upd os i v) := fun k hk => by
  by_cases ek : k = i
  · rw [ek, up_s]; exact s
  · rw [up_o ek]; exact h k (by omega)
theorem Osk_e {K K2 inp tabs : Int} {os : Nat → Int32} (h : Osk K inp tabs os) (e : K2 ≤ K) : Osk K2 inp tabs os := fun k hk => h k (by omega)
theorem Ssk_0 {inp tabs : Int} {wi so : Nat → Int32} : Ssk 0 inp tabs wi so := fun t ht => by omega
theorem Ssj_0 {a b inp tabs : Int} {so : Nat → Int32} (e : b ≤ a) : Ssj a b inp tabs so := fun k h1 h2 => by omega
theorem Ssj_s {a b b2 inp tabs : Int} {so : Nat → Int32} {i : Nat} {v : Int32} (h : Ssj a b inp tabs so) (s : Sok inp tabs v.toInt) (hi : (i : Int) = b) (e : b2 = b + 1) : Ssj a b2 inp tabs (upd so i v) := fun k h1 h2 => by
  by_cases ek : k = i
  · rw [ek, up_s]; exact s
  · rw [up_o ek]; exact h k h1 (by omega)
theorem Ssk_u {K inp tabs : Int} {wi so : Nat → Int32} {i : Nat} {v : Int32} (h : Ssk K inp tabs wi so) (hi : 6 * K ≤ (i : Int)) (hw : ∀ t, (wi t).toInt ≤ 5) : Ssk K inp tabs wi (upd so i v) := fun t ht k h1 h2 => by
  have := hw t
  rw [up_o (by omega)]; exact h t ht k h1 h2
theorem Ssk_n {K K2 b inp tabs : Int} {wi so : Nat → Int32} {i : Nat} {x : Int32} (h : Ssk K inp tabs wi so) (q : Ssj (6 * K) b inp tabs so) (ex : x = wi i) (hi : (i : Int) = K) (hk : 6 * K + x.toInt ≤ b) (e : K2 = K + 1) : Ssk K2 inp tabs wi so := fun t ht k h1 h2 => by
  by_cases et : t = i
  · rw [et, ← ex] at h2
    rw [et] at h1
    exact q k (by omega) (by omega)
  · exact h t (by omega) k h1 h2
theorem Ssk_e {K K2 inp tabs : Int} {wi so : Nat → Int32} (h : Ssk K inp tabs wi so) (e : K2 ≤ K) : Ssk K2 inp tabs wi so := fun k hk => h k (by omega)
def Lws (r K T inp : Int) (wi so os : Nat → Int32) : Prop := ¬ r = -1 ∨ (Osk K inp T os ∧ Ssk T inp T wi so)
def Dpt (inp tabs : Int) (wi so : Nat → Int32) : Nat → Int → Prop
  | 0, s => 0 ≤ s ∧ s < inp
  | n + 1, s => (0 ≤ s ∧ s < inp) ∨ (8 ≤ s ∧ s - 8 < tabs ∧ ∀ k : Nat, (k : Int) < (wi (s - 8).toNat).toInt → Dpt inp tabs wi so n (so (6 * (s - 8).toNat + k)).toInt)
def Nok (K inp tabs : Int) (wi so os : Nat → Int32) : Prop := ∀ k : Nat, (k : Int) < K → Dpt inp tabs wi so 30 (os k).toInt
def Nks (r K inp tabs : Int) (wi so os : Nat → Int32) : Prop := ¬ r = 0 ∨ Nok K inp tabs wi so os
theorem Dpt_i {inp tabs : Int} {wi so : Nat → Int32} {n : Nat} {s : Int} (h0 : 0 ≤ s) (h1 : s < inp) : Dpt inp tabs wi so n s := by
  cases n with
  | zero => exact ⟨h0, h1⟩
  | succ n => exact Or.inl ⟨h0, h1⟩
theorem Dpt_t {inp tabs : Int} {wi so re : Nat → Int32} (hS : Ssk tabs inp tabs wi so) (hT : Trc tabs tabs re) (hR : Rea tabs wi so re) (hN : Nrg tabs re) (h30 : tabs ≤ 30) : ∀ (n : Nat) (t : Nat), (t : Int) < tabs → cntF (re t) 30 < n → Dpt inp tabs wi so n (8 + t)
  | 0, t, ht, hc => by omega
  | n + 1, t, ht, hc => by
    refine Or.inr ⟨by omega, by omega, fun k hk => ?_⟩
    rw [show (8 + (t : Int) - 8).toNat = t by omega] at hk ⊢
    have s := hS t ht (6 * t + k) (by omega) (by omega)
    rcases s with ⟨s0, s1⟩ | ⟨s0, s1⟩
    · exact Dpt_i s0 s1
    · have b := hR t ht (6 * t + k) (by omega) (by omega) s0
      generalize (so (6 * t + k)).toInt = q at s0 s1 b ⊢
      have ht2 : ((q - 8).toNat : Int) < tabs := by omega
      have c := cntb_lt b (hN (q - 8).toNat ht2) 30 (by omega) (fun u hu hb => hT (q - 8).toNat ht2 t ht b u hb)
      have d := Dpt_t hS hT hR hN h30 n (q - 8).toNat ht2 (by omega)
      rw [show 8 + ((q - 8).toNat : Int) = q by omega] at d
      exact d
theorem Nok_i {K inp tabs : Int} {wi so os re : Nat → Int32} (hO : Osk K inp tabs os) (hS : Ssk tabs inp tabs wi so) (hT : Trc tabs tabs re) (hR : Rea tabs wi so re) (hN : Nrg tabs re) (h30 : tabs ≤ 30) : Nok K inp tabs wi so os := fun k hk => by
  rcases hO k hk with ⟨s0, s1⟩ | ⟨s0, s1⟩
  · exact Dpt_i s0 s1
  · have ht : (((os k).toInt - 8).toNat : Int) < tabs := by omega
    have c := cntb_m (hN _ ht) 30 (by omega)
    have d := Dpt_t hS hT hR hN h30 30 _ ht c
    rw [show 8 + (((os k).toInt - 8).toNat : Int) = (os k).toInt by omega] at d
    exact d
theorem sh1_b {x s : Int32} (ex : x = (1 : Int32) <<< (s &&& 31)) (s0 : 0 ≤ s.toInt) (s9 : s.toInt ≤ 29) : 1 ≤ x.toInt ∧ x.toInt ≤ 536870912 := by
  have t : ∀ i : Nat, i < 30 → 1 ≤ ((1 : Int32) <<< (Int32.ofNat i &&& 31)).toInt ∧ ((1 : Int32) <<< (Int32.ofNat i &&& 31)).toInt ≤ 536870912 := by decide +kernel
  have z := t s.toInt.toNat (by omega)
  rw [of_n s0] at z
  rw [ex]; exact z
theorem or_b {x y z : Int32} (ez : z = x ||| y) (x0 : 0 ≤ x.toInt) (x1 : x.toInt ≤ 1073741823) (y0 : 0 ≤ y.toInt) (y1 : y.toInt ≤ 1073741823) : 0 ≤ z.toInt ∧ z.toInt ≤ 1073741823 := by
  rw [ez]; exact iv_or (w := 30) ⟨x0, x1⟩ ⟨y0, y1⟩ (by decide) (by decide) (by decide) (by decide) (by decide) (by decide) (by decide)
def Lto (N : Int) (li : Nat → Int32) : Prop := ∀ t : Nat, t < 30 → (li t).toInt = -1 ∨ (li t).toInt < 2 * N
theorem Lto_w {N N2 : Int} {li : Nat → Int32} (h : Lto N li) (e : N ≤ N2) : Lto N2 li := fun t ht => by rcases h t ht with q | q; exact Or.inl q; exact Or.inr (by omega)
def Srd (t inp : Int) (wi so li : Nat → Int32) : Prop := ∀ k : Nat, (k : Int) < (wi t.toNat).toInt → (0 ≤ (so (6 * t.toNat + k)).toInt ∧ (so (6 * t.toNat + k)).toInt < inp) ∨ (8 ≤ (so (6 * t.toNat + k)).toInt ∧ 0 ≤ (li ((so (6 * t.toNat + k)).toInt - 8).toNat).toInt)
theorem Srd_at {t inp k : Int} {wi so li : Nat → Int32} {i j : Nat} {x w : Int32} (h : Srd t inp wi so li) (ex : x = so i) (ew : w = wi j) (hi : (i : Int) = 6 * t + k) (hj : (j : Int) = t) (k0 : 0 ≤ k) (k1 : k < w.toInt) : (0 ≤ x.toInt ∧ x.toInt < inp) ∨ (8 ≤ x.toInt ∧ 0 ≤ (li (x.toInt - 8).toNat).toInt) := by
  have z := h k.toNat (by rw [show t.toNat = j by omega, ← ew]; omega)
  rw [show 6 * t.toNat + k.toNat = i by omega, ← ex] at z
  exact z
theorem Rok_at {x a b k d : Int32} (h : Rok x) (ed : d = b &&& 3) (eb : b = x >>> (a &&& 31)) (ea : a = 2 * k) (k0 : 0 ≤ k.toInt) (k6 : k.toInt < 6) : ¬ d.toInt = 3 := by
  rw [ed, eb, ea]; exact h k k0 k6
theorem xb_2 {x b z : Int32} (ez : z = x ^^^ b) (x0 : 0 ≤ x.toInt) (b0 : 0 ≤ b.toInt) (b1 : b.toInt ≤ 1) : z.toInt = x.toInt - x.toInt % 2 + (x.toInt + b.toInt) % 2 := by
  rw [ez]; exact i_xb x0 b0 b1
theorem Lto_at {N : Int} {li : Nat → Int32} {x y : Int32} (h : Lto N li) (ex : x = li y.toNatClampNeg) (hy : y.toInt ≤ 29) : x.toInt = -1 ∨ x.toInt < 2 * N := by rw [ex]; exact h _ (by have := tn_n y; omega)
theorem li_at {s x y : Int32} {li : Nat → Int32} (ex : x = li y.toNatClampNeg) (ey : y.toInt = s.toInt - 8) : (li (s.toInt - 8).toNat).toInt = x.toInt := by
  rw [ex, ← ey]; rfl
theorem Rok_w {f : Nat → Int32} {i : Nat} {x : Int32} (h : Rwo f) (e : x = f i) : Rok x := by rw [e]; exact h i
theorem Lto_0 {N : Int} {li : Nat → Int32} (h : Fmo 30 li) : Lto N li := fun t ht => Or.inl (h t (by omega))
theorem Lto_s {N N2 : Int} {li : Nat → Int32} {i : Nat} {v : Int32} (h : Lto N li) (hv : v.toInt < 2 * N2) (e : N ≤ N2) : Lto N2 (upd li i v) := fun t ht => by
  by_cases et : t = i
  · rw [et, up_s]; exact Or.inr hv
  · rw [up_o et]; rcases h t ht with q | q
    · exact Or.inl q
    · exact Or.inr (by omega)
theorem Dpt_z {inp tabs v s : Int} {wi so : Nat → Int32} (h : Dpt inp tabs wi so (Int.toNat (30 - v)) s) (h0 : 0 ≤ v) (h1 : v ≤ 30) : (0 ≤ s ∧ s < inp) ∨ (8 ≤ s ∧ s - 8 < tabs ∧ v ≤ 29) := by
  by_cases e : v = 30
  · rw [e] at h; exact Or.inl h
  · obtain ⟨n, hn⟩ : ∃ n, Int.toNat (30 - v) = n + 1 := ⟨Int.toNat (29 - v), by omega⟩
    rw [hn] at h
    rcases h with q | ⟨q1, q2, -⟩
    · exact Or.inl q
    · exact Or.inr ⟨q1, q2, by omega⟩
def Dpc (inp tabs : Int) (wi so : Nat → Int32) (n : Nat) (t : Int) : Prop := ∀ k : Nat, (k : Int) < (wi t.toNat).toInt → Dpt inp tabs wi so n (so (6 * t.toNat + k)).toInt
theorem Dpc_i {inp tabs v s t : Int} {wi so : Nat → Int32} (h : Dpt inp tabs wi so (Int.toNat (30 - v)) s) (hs : 8 ≤ s) (hi : inp ≤ 8) (hv : v ≤ 29) (et : t = s - 8) : Dpc inp tabs wi so (Int.toNat (29 - v)) t := by
  rw [show Int.toNat (30 - v) = Int.toNat (29 - v) + 1 by omega] at h
  rcases h with q | ⟨-, -, q⟩
  · omega
  · rw [et]; exact q
theorem Dpc_at {inp tabs v v2 t k : Int} {wi so : Nat → Int32} {i j : Nat} {x w : Int32} (h : Dpc inp tabs wi so (Int.toNat (29 - v)) t) (ex : x = so i) (ew : w = wi j) (hi : (i : Int) = 6 * t + k) (hj : (j : Int) = t) (k0 : 0 ≤ k) (k1 : k < w.toInt) (e : v2 = v + 1) : Dpt inp tabs wi so (Int.toNat (30 - v2)) x.toInt := by
  have z := h k.toNat (by rw [show t.toNat = j by omega, ← ew]; omega)
  rw [show 6 * t.toNat + k.toNat = i by omega, ← ex, show Int.toNat (29 - v) = Int.toNat (30 - v2) by omega] at z
  exact z
def Lmm (li l2 : Nat → Int32) : Prop := ∀ t : Nat, 0 ≤ (li t).toInt → 0 ≤ (l2 t).toInt
def Lmn (s : Int) (li l2 : Nat → Int32) : Prop := Lmm li l2 ∧ (8 ≤ s → 0 ≤ (l2 (s - 8).toNat).toInt)
theorem Lmm_0 {li : Nat → Int32} : Lmm li li := fun t h => h
theorem Lmm_t {a b d : Nat → Int32} (h : Lmm a b) (g : Lmm b d) : Lmm a d := fun t q => g t (h t q)
theorem Lmm_s {a b : Nat → Int32} {i : Nat} {v : Int32} (h : Lmm a b) (hv : 0 ≤ v.toInt) : Lmm a (upd b i v) := fun t q => by
  by_cases et : t = i
  · rw [et, up_s]; exact hv
  · rw [up_o et]; exact h t q
def Srv (K t inp : Int) (so li : Nat → Int32) : Prop := ∀ k : Nat, (k : Int) < K → (0 ≤ (so (6 * t.toNat + k)).toInt ∧ (so (6 * t.toNat + k)).toInt < inp) ∨ (8 ≤ (so (6 * t.toNat + k)).toInt ∧ 0 ≤ (li ((so (6 * t.toNat + k)).toInt - 8).toNat).toInt)
theorem Srv_0 {t inp : Int} {so li : Nat → Int32} : Srv 0 t inp so li := fun k hk => by omega
theorem Srv_s {K K2 t inp inp2 : Int} {so so2 li l2 : Nat → Int32} {i : Nat} {x : Int32} (h : Srv K t inp so li) (es : so2 = so) (ei : inp2 = inp) (L : Lmn x.toInt li l2) (ex : x = so i) (hi : (i : Int) = 6 * t + K) (hx : (0 ≤ x.toInt ∧ x.toInt < inp) ∨ 8 ≤ x.toInt) (t0 : 0 ≤ t) (e : K2 = K + 1) : Srv K2 t inp2 so2 l2 := fun k hk => by
  rw [es, ei]
  by_cases ek : (k : Int) = K
  · rw [show 6 * t.toNat + k = i by omega, ← ex]
    rcases hx with q | q
    · exact Or.inl q
    · exact Or.inr ⟨q, L.2 q⟩
  · rcases h k (by omega) with q | ⟨q1, q2⟩
    · exact Or.inl q
    · exact Or.inr ⟨q1, L.1 _ q2⟩
theorem Srd_i {K t inp : Int} {wi so li : Nat → Int32} {j : Nat} {w : Int32} (h : Srv K t inp so li) (ew : w = wi j) (hj : (j : Int) = t) (hw : w.toInt ≤ K) : Srd t inp wi so li := fun k hk => by
  rw [show t.toNat = j by omega, ← ew] at hk
  exact h k (by omega)
theorem Lmn_u {s : Int} {a b : Nat → Int32} {i : Nat} {v : Int32} (h : Lmm a b) (hv : 0 ≤ v.toInt) (hi : (i : Int) = s - 8) : Lmn s a (upd b i v) := ⟨Lmm_s h hv, fun _ => by rw [show (s - 8).toNat = i by omega, up_s]; exact hv⟩
theorem Lmn_0 {s : Int} {a : Nat → Int32} (h : s < 8) : Lmn s a a := ⟨Lmm_0, fun q => by omega⟩
theorem Lmn_1 {s : Int} {a : Nat → Int32} {i : Nat} {x : Int32} (ex : x = a i) (hi : (i : Int) = s - 8) (hx : 0 ≤ x.toInt) : Lmn s a a := ⟨Lmm_0, fun _ => by rw [show (s - 8).toNat = i by omega, ← ex]; exact hx⟩
theorem Dpt_e {inp tabs v v2 s : Int} {wi so : Nat → Int32} (h : Dpt inp tabs wi so (Int.toNat (30 - v)) s) (e : v2 = v) : Dpt inp tabs wi so (Int.toNat (30 - v2)) s := by rw [e]; exact h
theorem mx_0 {x z : Int32} (e : z = op_mx x 0) : z.toInt = max x.toInt 0 := by
  have z0 : (0 : Int32).toInt = 0 := rfl
  rw [e]; unfold op_mx
  split
  · rename_i h; have := Int32.lt_iff_toInt_lt.mp h; omega
  · rename_i h; have h2 : ¬ x.toInt < (0 : Int32).toInt := fun q => h (Int32.lt_iff_toInt_lt.mpr q); omega
theorem Nok_at {K inp tabs : Int} {wi so os : Nat → Int32} {i : Nat} {x : Int32} (h : Nok K inp tabs wi so os) (ex : x = os i) (hi : (i : Int) < K) : Dpt inp tabs wi so (Int.toNat (30 - 0)) x.toInt := by rw [ex]; exact h i hi
theorem Nok_p {K inp tabs : Int} {wi so os : Nat → Int32} {i : Nat} {x : Int32} (h : Nok K inp tabs wi so os) (ex : x = os i) (hi : (i : Int) < K) : (0 ≤ x.toInt ∧ x.toInt < inp) ∨ (8 ≤ x.toInt ∧ x.toInt - 8 < tabs ∧ (0 : Int) ≤ 29) := Dpt_z (Nok_at h ex hi) (by decide) (by decide)

def Hct (h s : Int) (g : Nat → Int32) (c : Nat → Int64) : Prop := h = 0 ∨ Ctk s g c
def Hlb (c W i : Int) (wc wp ch fi pi : Nat → Int32) : Prop := c = 0 ∨ Lbr W i wc wp ch fi pi
theorem Hct_k {h s : Int} {g : Nat → Int32} {c : Nat → Int64} (q : Hct h s g c) (e : ¬ h = 0) : Ctk s g c := q.resolve_left e
theorem Hlb_l {c W i : Int} {wc wp ch fi pi : Nat → Int32} (q : Hlb c W i wc wp ch fi pi) (e : ¬ c = 0) : Lbr W i wc wp ch fi pi := q.resolve_left e
theorem Hlb_s {r c W i : Int} {wc wp ch fi pi : Nat → Int32} (q : Lbs r W i wc wp ch fi pi) (e : r = 0) : Hlb c W i wc wp ch fi pi := Or.inr (q.resolve_left (fun h => h e))
theorem Tks_k {h s : Int} {li : Nat → Int32} {m : Nat → Int64} (q : Tks h s li m) (e : ¬ h = 0) : Tki s li m := q.resolve_left e
theorem Nks_k {r K inp tabs : Int} {wi so os : Nat → Int32} (q : Nks r K inp tabs wi so os) (e : r = 0) : Nok K inp tabs wi so os := q.resolve_left (fun h => h e)
theorem Fqs_r {r inp N u : Int} {f d : Nat → Int32} {p : Nat → Int64} (h : Fqs r inp N u f d p) : Fqr r inp N u f d p := h.1
theorem GI_x {b n : Int} {f g fi ch : Nat → Int32} (h : GI b n f g fi ch) : Gx b n (sh b f) (sh b g) := h.1
theorem val_b {v n x : Int32} (ex : x = (v.toUInt32 >>> (n.toUInt32 &&& Int32.toUInt32 31)).toInt32) (n0 : 0 ≤ n.toInt) (n8 : n.toInt ≤ 8) : ¬ x.toInt = 0 ∨ (0 ≤ v.toInt ∧ v.toInt ≤ 255) := by
  by_cases hx : x.toInt = 0
  · right
    have k : ∀ i : Nat, i < 9 → ((Int32.ofNat i).toUInt32 &&& Int32.toUInt32 31).toNat % 32 = i := by decide +kernel
    have z := k n.toInt.toNat (by omega)
    rw [of_n n0] at z
    have e0 : x = 0 := Int32.toInt_inj.mp hx
    have e1 : v.toUInt32 >>> (n.toUInt32 &&& Int32.toUInt32 31) = Int32.toUInt32 0 := congrArg Int32.toUInt32 (ex.symm.trans e0)
    have e2 : (v.toUInt32 >>> (n.toUInt32 &&& Int32.toUInt32 31)).toNat = 0 := by rw [e1]; rfl
    rw [UInt32.toNat_shiftRight, z, Nat.shiftRight_eq_div_pow] at e2
    have e3 : v.toUInt32.toNat < 2 ^ n.toInt.toNat := by
      have := Nat.lt_mul_div_succ v.toUInt32.toNat (show 0 < 2 ^ n.toInt.toNat from Nat.pow_pos (by decide))
      rw [e2] at this; omega
    have e4 : 2 ^ n.toInt.toNat ≤ 2 ^ 8 := Nat.pow_le_pow_right (by decide) (by omega)
    have e5 : v.toUInt32.toNat = v.toBitVec.toNat := rfl
    have e6 := i_nn' (x := v) (by omega)
    omega
  · exact Or.inl hx

