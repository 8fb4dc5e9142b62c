/-! what the forge keeps -/
def Hct (h s : Int) (g : Nat → Int32) (c : Nat → Int64) : Prop := h = 0 ∨ Ctk s g c
def Hlb (c W i : Int) (wc wp ch fi pi : Nat → Int32) : Prop := c = 0 ∨ Lbr W i wc wp ch fi pi
theorem Hct_k {h s : Int} {g : Nat → Int32} {c : Nat → Int64} (q : Hct h s g c) (e : ¬ h = 0) : Ctk s g c := q.resolve_left e
theorem Hlb_l {c W i : Int} {wc wp ch fi pi : Nat → Int32} (q : Hlb c W i wc wp ch fi pi) (e : ¬ c = 0) : Lbr W i wc wp ch fi pi := q.resolve_left e
theorem Hlb_s {r c W i : Int} {wc wp ch fi pi : Nat → Int32} (q : Lbs r W i wc wp ch fi pi) (e : r = 0) : Hlb c W i wc wp ch fi pi := Or.inr (q.resolve_left (fun h => h e))
theorem Tks_k {h s : Int} {li : Nat → Int32} {m : Nat → Int64} (q : Tks h s li m) (e : ¬ h = 0) : Tki s li m := q.resolve_left e
theorem Nks_k {r K inp tabs : Int} {wi so os : Nat → Int32} (q : Nks r K inp tabs wi so os) (e : r = 0) : Nok K inp tabs wi so os := q.resolve_left (fun h => h e)
theorem Fqs_r {r inp N u : Int} {f d : Nat → Int32} {p : Nat → Int64} (h : Fqs r inp N u f d p) : Fqr r inp N u f d p := h.1
theorem GI_x {b n : Int} {f g fi ch : Nat → Int32} (h : GI b n f g fi ch) : Gx b n (sh b f) (sh b g) := h.1
theorem val_b {v n x : Int32} (ex : x = (v.toUInt32 >>> (n.toUInt32 &&& Int32.toUInt32 31)).toInt32) (n0 : 0 ≤ n.toInt) (n8 : n.toInt ≤ 8) : ¬ x.toInt = 0 ∨ (0 ≤ v.toInt ∧ v.toInt ≤ 255) := by
  by_cases hx : x.toInt = 0
  · right
    have k : ∀ i : Nat, i < 9 → ((Int32.ofNat i).toUInt32 &&& Int32.toUInt32 31).toNat % 32 = i := by decide +kernel
    have z := k n.toInt.toNat (by omega)
    rw [of_n n0] at z
    have e0 : x = 0 := Int32.toInt_inj.mp hx
    have e1 : v.toUInt32 >>> (n.toUInt32 &&& Int32.toUInt32 31) = Int32.toUInt32 0 := congrArg Int32.toUInt32 (ex.symm.trans e0)
    have e2 : (v.toUInt32 >>> (n.toUInt32 &&& Int32.toUInt32 31)).toNat = 0 := by rw [e1]; rfl
    rw [UInt32.toNat_shiftRight, z, Nat.shiftRight_eq_div_pow] at e2
    have e3 : v.toUInt32.toNat < 2 ^ n.toInt.toNat := by
      have := Nat.lt_mul_div_succ v.toUInt32.toNat (show 0 < 2 ^ n.toInt.toNat from Nat.pow_pos (by decide))
      rw [e2] at this; omega
    have e4 : 2 ^ n.toInt.toNat ≤ 2 ^ 8 := Nat.pow_le_pow_right (by decide) (by omega)
    have e5 : v.toUInt32.toNat = v.toBitVec.toNat := rfl
    have e6 := i_nn' (x := v) (by omega)
    omega
  · exact Or.inl hx

