theorem ush_q {v z : Int32} {k : Nat} {s : UInt32} (h : 0 ≤ v.toInt) (hk : 1 ≤ k) (hs : s.toNat % 32 = k) (e : z = (v.toUInt32 >>> s).toInt32) : z.toInt = v.toInt / 2 ^ k := by
  have t := iv_ushr (x := v) (k := k) (s := s) (a := v.toInt) (b := v.toInt) (e := v.toInt / 2 ^ k) (f := v.toInt / 2 ^ k) ⟨Int.le_refl _, Int.le_refl _⟩ h hk hs (Int.le_refl _) (Int.le_refl _)
  rw [e]; omega
def NzP (v n r : Int32) : Prop := ∃ k : Nat, r.toInt = n.toInt - (k : Int) ∧ 2 ^ k ≤ v.toInt.toNat ∧ v.toInt.toNat < 2 * 2 ^ k
theorem nz_73 {v n r : Int32} (h1 : 1 ≤ v.toInt) (h4 : v.toInt < 4) (n0 : 1 ≤ n.toInt) (n9 : n.toInt ≤ 31) (h : fJInteger_numberOfLeadingZeros_I_73 v n = some r) : NzP v n r := by
  unfold fJInteger_numberOfLeadingZeros_I_73 at h
  rw [opk, opk] at h
  have e := (Option.some.inj h).symm
  have q := ush_q (v := v) (k := 1) (s := ((1 : Int32).toUInt32 &&& Int32.toUInt32 31)) (by omega) (by decide) (by decide) rfl
  have q : ((v.toUInt32 >>> ((1 : Int32).toUInt32 &&& Int32.toUInt32 31)).toInt32).toInt = v.toInt / 2 := q
  have e2 : r.toInt = n.toInt - v.toInt / 2 := by rw [e, i_sub' (by omega) (by omega) (by omega) (by omega), q]
  rcases (show v.toInt = 1 ∨ v.toInt = 2 ∨ v.toInt = 3 by omega) with z | z | z
  · exact ⟨0, by omega, by rw [z]; decide, by rw [z]; decide⟩
  · exact ⟨1, by omega, by rw [z]; decide, by rw [z]; decide⟩
  · exact ⟨1, by omega, by rw [z]; decide, by rw [z]; decide⟩
theorem nz_s {v w n m r : Int32} {j : Nat} (v0 : 0 ≤ v.toInt) (hw : w.toInt = v.toInt / 2 ^ j) (hm : m.toInt = n.toInt - (j : Int)) (h : NzP w m r) : NzP v n r := by
  obtain ⟨k, k1, k2, k3⟩ := h
  have ew : w.toInt.toNat = v.toInt.toNat / 2 ^ j := by
    have e1 : v.toInt = (v.toInt.toNat : Int) := by omega
    rw [hw, e1, show ((2 : Int) ^ j) = ((2 ^ j : Nat) : Int) from by rw [Int.natCast_pow]; rfl, ← Int.natCast_ediv]; rfl
  rw [ew] at k2 k3
  have p : 0 < 2 ^ j := Nat.pow_pos (by decide)
  have a := (Nat.le_div_iff_mul_le p).mp k2
  have c := (Nat.div_lt_iff_lt_mul p).mp k3
  refine ⟨k + j, by omega, by rw [Nat.pow_add]; exact a, by rw [Nat.pow_add, ← Nat.mul_assoc]; exact c⟩
theorem i_ad {n : Int32} {c : Int} {d : Int32} (hd : d.toInt = c) (h0 : 0 ≤ n.toInt) (h1 : n.toInt ≤ 31) (c0 : -31 ≤ c) (c1 : c ≤ 0) : (n + d).toInt = n.toInt + c := by
  rw [Int32.toInt_add, hd, i_bm (by omega) (by omega)]
theorem nz_61 {v n r : Int32} (h1 : 1 ≤ v.toInt) (h4 : v.toInt < 16) (n0 : 3 ≤ n.toInt) (n9 : n.toInt ≤ 31) (h : fJInteger_numberOfLeadingZeros_I_61 v n = some r) : NzP v n r := by
  unfold fJInteger_numberOfLeadingZeros_I_61 at h
  rcases ifc h with ⟨a, h⟩ | ⟨a, h⟩
  · have a : v.toInt < 4 := Int32.lt_iff_toInt_lt.mp a
    exact nz_73 h1 a (by omega) n9 h
  · have a : ¬ v.toInt < 4 := fun q => a (Int32.lt_iff_toInt_lt.mpr q)
    rw [opk, opk] at h
    have q := ush_q (v := v) (k := 2) (s := ((2 : Int32).toUInt32 &&& Int32.toUInt32 31)) (by omega) (by decide) (by decide) rfl
    have m := i_ad (n := n) (c := -2) (d := -2) (by decide) (by omega) n9 (by decide) (by decide)
    have q' := q
    rw [show ((2 : Int) ^ 2) = 4 from rfl] at q'
    exact nz_s (j := 2) (by omega) q (by omega) (nz_73 (by omega) (by omega) (by omega) (by omega) h)
theorem nz_48 {v n r : Int32} (h1 : 1 ≤ v.toInt) (h4 : v.toInt < 256) (n0 : 7 ≤ n.toInt) (n9 : n.toInt ≤ 31) (h : fJInteger_numberOfLeadingZeros_I_48 v n = some r) : NzP v n r := by
  unfold fJInteger_numberOfLeadingZeros_I_48 at h
  rcases ifc h with ⟨a, h⟩ | ⟨a, h⟩
  · have a : v.toInt < 16 := Int32.lt_iff_toInt_lt.mp a
    exact nz_61 h1 a (by omega) n9 h
  · have a : ¬ v.toInt < 16 := fun q => a (Int32.lt_iff_toInt_lt.mpr q)
    rw [opk, opk] at h
    have q := ush_q (v := v) (k := 4) (s := ((4 : Int32).toUInt32 &&& Int32.toUInt32 31)) (by omega) (by decide) (by decide) rfl
    have m := i_ad (n := n) (c := -4) (d := -4) (by decide) (by omega) n9 (by decide) (by decide)
    have q' := q
    rw [show ((2 : Int) ^ 4) = 16 from rfl] at q'
    exact nz_s (j := 4) (by omega) q (by omega) (nz_61 (by omega) (by omega) (by omega) (by omega) h)
theorem nz_33 {v n r : Int32} (h1 : 1 ≤ v.toInt) (h4 : v.toInt < 65536) (n0 : 15 ≤ n.toInt) (n9 : n.toInt ≤ 31) (h : fJInteger_numberOfLeadingZeros_I_33 v n = some r) : NzP v n r := by
  unfold fJInteger_numberOfLeadingZeros_I_33 at h
  rcases ifc h with ⟨a, h⟩ | ⟨a, h⟩
  · have a : v.toInt < 256 := Int32.lt_iff_toInt_lt.mp a
    exact nz_48 h1 a (by omega) n9 h
  · have a : ¬ v.toInt < 256 := fun q => a (Int32.lt_iff_toInt_lt.mpr q)
    rw [opk, opk] at h
    have q := ush_q (v := v) (k := 8) (s := ((8 : Int32).toUInt32 &&& Int32.toUInt32 31)) (by omega) (by decide) (by decide) rfl
    have m := i_ad (n := n) (c := -8) (d := -8) (by decide) (by omega) n9 (by decide) (by decide)
    have q' := q
    rw [show ((2 : Int) ^ 8) = 256 from rfl] at q'
    exact nz_s (j := 8) (by omega) q (by omega) (nz_48 (by omega) (by omega) (by omega) (by omega) h)
theorem nz_i {v r : Int32} (h1 : 1 ≤ v.toInt) (h : fJInteger_numberOfLeadingZeros_I v = some r) : NzP v 31 r := by
  unfold fJInteger_numberOfLeadingZeros_I fJInteger_numberOfLeadingZeros_I_0 at h
  rcases ifc h with ⟨a, h⟩ | ⟨a, h⟩
  · have i : v.toInt ≤ 2147483647 := (iv_top v).2
    rcases ifc h with ⟨a, h⟩ | ⟨a, h⟩
    · have a : v.toInt < 65536 := Int32.lt_iff_toInt_lt.mp a
      exact nz_33 h1 a (by decide) (by decide) h
    · have a : ¬ v.toInt < 65536 := fun q => a (Int32.lt_iff_toInt_lt.mpr q)
      rw [opk] at h
      have q := ush_q (v := v) (k := 16) (s := ((16 : Int32).toUInt32 &&& Int32.toUInt32 31)) (by omega) (by decide) (by decide) rfl
      have q' := q
      rw [show ((2 : Int) ^ 16) = 65536 from rfl] at q'
      exact nz_s (n := 31) (m := 15) (j := 16) (by omega) q (by decide) (nz_33 (by omega) (by omega) (by decide) (by decide) h)
  · exact absurd (Int32.lt_iff_toInt_lt.mpr (show (0 : Int32).toInt < v.toInt by rw [show (0 : Int32).toInt = 0 from rfl]; omega)) a
theorem kb_lo {lo k m : Nat} (h1 : 2 ^ lo ≤ m) (h2 : m < 2 * 2 ^ k) : lo ≤ k := by
  rcases Nat.lt_or_ge k lo with q | q
  · have := Nat.pow_le_pow_right (n := 2) (by decide) (show k + 1 ≤ lo from q)
    rw [Nat.pow_succ] at this; omega
  · exact q
theorem kb_hi {hi k m : Nat} (h1 : m < 2 ^ hi) (h2 : 2 ^ k ≤ m) : k < hi := by
  rcases Nat.lt_or_ge k hi with q | q
  · exact q
  · have := Nat.pow_le_pow_right (n := 2) (by decide) q
    omega
theorem bm_neg {N : Nat} (h1 : 2147483648 ≤ N) (h2 : N < 4294967296) : ((N : Nat) : Int).bmod 4294967296 < 0 := by
  have e : ((N : Nat) : Int) % ((4294967296 : Nat) : Int) = (N : Int) := Int.emod_eq_of_lt (by omega) (by omega)
  have e2 : ((N : Nat) : Int) = (((N : Int) - 4294967296) + ((4294967296 : Nat) : Int)) := by omega
  rw [e2, Int.add_bmod_right, i_bm (by omega) (by omega)]; omega
theorem sz_f {q r : Int32} {s : Nat} (h0 : 0 ≤ q.toInt) (h1 : q.toInt ≤ 64) (e : q.toInt / 8 = 8 - (s : Int)) (hs : s ≤ 8) (h : r = 8 - q / 8) : r.toInt = (s : Int) := by
  have d := i_dv (x := q) (y := 8) h0 (by decide)
  rw [show (8 : Int32).toInt = 8 from rfl] at d
  rw [h, Int32.toInt_sub, d, show (8 : Int32).toInt = 8 from rfl, i_bm (by omega) (by omega)]; omega
theorem sizeOf_sp {v : Int64} {r : Int32} {s : Nat} (h1 : 1 ≤ s) (h5 : s ≤ 5) (lo : 256 ^ (s - 1) ≤ nv v) (hi : nv v < 256 ^ s) (h : fCu_sizeOf v = some r) : r.toInt = (s : Int) := by
  unfold fCu_sizeOf fCu_sizeOf_0 at h
  obtain ⟨q, hq, h⟩ := bd h
  rw [opk, opk] at h
  have er := (Option.some.inj h).symm
  unfold fJLong_numberOfLeadingZeros_J fJLong_numberOfLeadingZeros_J_0 at hq
  rw [opk, opk] at hq
  have lo2 : 2 ^ (8 * (s - 1)) ≤ nv v := by rw [Nat.pow_mul]; exact lo
  have hi2 : nv v < 2 ^ (8 * s) := by rw [Nat.pow_mul]; exact hi
  by_cases c : s ≤ 4
  · have b4 : nv v < 4294967296 := Nat.lt_of_lt_of_le hi2 (Nat.le_trans (Nat.pow_le_pow_right (by decide) (show 8 * s ≤ 32 by omega)) (by decide))
    have z := hi_0 (v := v) rfl rfl b4
    rcases ifc hq with ⟨_, hq⟩ | ⟨a, _⟩
    · rw [opk] at hq
      obtain ⟨u, hu, hq⟩ := bd hq
      rw [opk] at hq
      have eq : q = 32 + u := (Option.some.inj hq).symm
      have ev : v.toInt = (nv v : Int) := l_nn' (z := v) (by show nv v < _; omega)
      by_cases d : nv v < 2147483648
      · have ex : v.toInt32.toInt = (nv v : Int) := by rw [Int64.toInt_toInt32, i_bm (by omega) (by omega)]; exact ev
        have p1 : 1 ≤ nv v := Nat.le_trans (Nat.pow_pos (by decide)) lo
        obtain ⟨k, k1, k2, k3⟩ := nz_i (v := v.toInt32) (by omega) hu
        rw [show v.toInt32.toInt.toNat = nv v by omega] at k2 k3
        have l := kb_lo lo2 k3
        have m := kb_hi hi2 k2
        have u31 : u.toInt = 31 - (k : Int) := k1
        have e32 : q.toInt = 63 - (k : Int) := by rw [eq, Int32.toInt_add, u31, show (32 : Int32).toInt = 32 from rfl, i_bm (by omega) (by omega)]; omega
        exact sz_f (by omega) (by omega) (by omega) (by omega) er
      · have es : s = 4 := by
          rcases Nat.lt_or_ge s 4 with y | y
          · have := Nat.lt_of_lt_of_le hi2 (Nat.pow_le_pow_right (n := 2) (by decide) (show 8 * s ≤ 24 by omega))
            have e : (2 : Nat) ^ 24 = 16777216 := by decide
            omega
          · omega
        have ex : v.toInt32.toInt < 0 := by
          have e := Int64.toInt_toInt32 v
          rw [ev] at e
          have e : v.toInt32.toInt = ((nv v : Nat) : Int).bmod 4294967296 := e
          rw [e]; exact bm_neg (by omega) b4
        unfold fJInteger_numberOfLeadingZeros_I fJInteger_numberOfLeadingZeros_I_0 at hu
        rcases ifc hu with ⟨a, _⟩ | ⟨_, hu⟩
        · have a := Int32.lt_iff_toInt_lt.mp a
          rw [show (0 : Int32).toInt = 0 from rfl] at a; omega
        · rcases ifc hu with ⟨a, _⟩ | ⟨_, hu⟩
          · rw [a, show (0 : Int32).toInt = 0 from rfl] at ex; omega
          · have eu : u = 0 := (Option.some.inj hu).symm
            rw [eu] at eq
            have e32 : q.toInt = 32 := by rw [eq]; rfl
            exact sz_f (by omega) (by omega) (by omega) (by omega) er
    · exact absurd (Int32.toInt_inj.mp (by rw [z]; rfl)) a
  · have es : s = 5 := by omega
    subst es
    have b5 : nv v < 1099511627776 := hi
    have b4 : 4294967296 ≤ nv v := lo
    have e1 : nv (v.toUInt64 >>> ((32 : Int32).toInt64.toUInt64 &&& Int64.toUInt64 63)).toInt64 = nv v / 2 ^ 32 := us_c (by decide)
    have e1 : nv (v.toUInt64 >>> ((32 : Int32).toInt64.toUInt64 &&& Int64.toUInt64 63)).toInt64 = nv v / 4294967296 := e1
    generalize (v.toUInt64 >>> ((32 : Int32).toInt64.toUInt64 &&& Int64.toUInt64 63)).toInt64 = x at hq e1
    have ex : x.toInt = (nv x : Int) := l_nn' (z := x) (by show nv x < _; omega)
    have ey : x.toInt32.toInt = (nv x : Int) := by rw [Int64.toInt_toInt32, i_bm (by omega) (by omega)]; exact ex
    rcases ifc hq with ⟨a, _⟩ | ⟨_, hq⟩
    · rw [a, show (0 : Int32).toInt = 0 from rfl] at ey; omega
    · obtain ⟨u, hu, hq⟩ := bd hq
      have eq : q = u := (Option.some.inj hq).symm
      obtain ⟨k, k1, k2, k3⟩ := nz_i (v := x.toInt32) (by omega) hu
      have m := kb_hi (hi := 8) (show x.toInt32.toInt.toNat < 2 ^ 8 by rw [ey]; omega) k2
      have u31 : u.toInt = 31 - (k : Int) := k1
      rw [← eq] at u31
      exact sz_f (by omega) (by omega) (by omega) (by omega) er
theorem up_g {l : List Nat} {k : Nat} (hk : k < l.length) : (upL l)[k]? = (l[l.length - 1 - k]?).map (fun a : Nat => (a : Int)) := by
  unfold upL
  rw [List.getElem?_reverse (by rw [List.length_map]; exact hk), List.length_map, List.getElem?_map]
theorem enc_g : ∀ {l : List Nat} {g m x : Nat}, Fall g l → g ≤ 256 → l[m]? = some x → enc l / 256 ^ m % 256 = x
  | [], g, m, x, _, _, h => by cases h
  | a :: l, g, 0, x, f, hg, h => by
    rw [Nat.pow_zero, Nat.div_one, enc_mod (by have := f.1.2; omega)]
    exact Option.some.inj h
  | a :: l, g, m + 1, x, f, hg, h => by
    have fa := f.1.2
    rw [Nat.pow_succ, Nat.mul_comm, ← Nat.div_div_eq_div_mul, enc_div (by omega)]
    exact enc_g f.2 (by omega) h
theorem node_q {v : Int64} {l : List Nat} {g k : Nat} {w : Int32} (hv : nv v = enc l) (f : Fall g l) (hg : g ≤ 209) (hk : k < l.length) (h5 : l.length ≤ 5) (hw : w.toInt = 8 * ((l.length - 1 - k : Nat) : Int)) : ∃ x : Nat, (upL l)[k]? = some (x : Int) ∧ x < g ∧ 1 ≤ x ∧ ((v.toUInt64 >>> (w.toInt64.toUInt64 &&& Int64.toUInt64 63)).toInt64 &&& 255).toInt32.toInt = (x : Int) := by
  obtain ⟨x, hx⟩ : ∃ x, l[l.length - 1 - k]? = some x := ⟨l[l.length - 1 - k], List.getElem?_eq_getElem (by omega)⟩
  have e := enc_g f (by omega) hx
  have b := Fall_lt f (List.mem_of_getElem? hx)
  have n1 : nv ((v.toUInt64 >>> (w.toInt64.toUInt64 &&& Int64.toUInt64 63)).toInt64 &&& 255) = x := by
    rw [nv_and, ush_n hw (by omega), hv, e]
  refine ⟨x, by rw [up_g hk, hx]; rfl, b.2, b.1, ?_⟩
  generalize (v.toUInt64 >>> (w.toInt64.toUInt64 &&& Int64.toUInt64 63)).toInt64 &&& 255 = y at n1
  have ey : y.toInt = (nv y : Int) := l_nn' (z := y) (by show nv y < _; omega)
  rw [Int64.toInt_toInt32, i_bm (by omega) (by omega)]; omega
