def cnF (f : Nat → Bool) : Nat → Nat
  | 0 => 0
  | n + 1 => cnF f n + (if f n then 1 else 0)
theorem cnF_le {f : Nat → Bool} : ∀ n : Nat, cnF f n ≤ n
  | 0 => Nat.le_refl 0
  | n + 1 => by
    have := cnF_le (f := f) n
    unfold cnF
    split <;> omega
theorem cnF_e {f g : Nat → Bool} : ∀ n : Nat, (∀ i : Nat, i < n → f i = g i) → cnF f n = cnF g n
  | 0, _ => rfl
  | n + 1, h => by
    unfold cnF
    rw [cnF_e n (fun i hi => h i (by omega)), h n (by omega)]
theorem cnF_a {f : Nat → Bool} {m : Nat} : ∀ n : Nat, cnF f (m + n) = cnF f m + cnF (fun i => f (m + i)) n
  | 0 => rfl
  | n + 1 => by
    show cnF f (m + n) + (if f (m + n) then 1 else 0) = cnF f m + (cnF (fun i => f (m + i)) n + (if f (m + n) then 1 else 0))
    rw [cnF_a n]; omega
def flp (r : Nat) : Nat := if r % 2 = 0 then r + 1 else r - 1
theorem ixd_b : (List.range 8).all (fun j => (List.range (2 ^ j)).all (fun s => (List.range (2 ^ (8 - j))).all (fun r => decide ((Int32.ofNat s ||| (Int32.ofNat r <<< (Int32.ofNat j &&& 31))) = Int32.ofNat (s + 2 ^ j * r)) && decide ((Int32.ofNat (s + 2 ^ j * r) ^^^ ((1 : Int32) <<< (Int32.ofNat j &&& 31))) = Int32.ofNat (s + 2 ^ j * flp r))))) = true := by decide +kernel
theorem ixd {j s r : Nat} (hj : j < 8) (hs : s < 2 ^ j) (hr : r < 2 ^ (8 - j)) : (Int32.ofNat s ||| (Int32.ofNat r <<< (Int32.ofNat j &&& 31))) = Int32.ofNat (s + 2 ^ j * r) ∧ (Int32.ofNat (s + 2 ^ j * r) ^^^ ((1 : Int32) <<< (Int32.ofNat j &&& 31))) = Int32.ofNat (s + 2 ^ j * flp r) := by
  have z := List.all_eq_true.mp (List.all_eq_true.mp (List.all_eq_true.mp ixd_b j (List.mem_range.mpr hj)) s (List.mem_range.mpr hs)) r (List.mem_range.mpr hr)
  have z := (Bool.and_eq_true _ _).mp z
  exact ⟨of_decide_eq_true z.1, of_decide_eq_true z.2⟩
theorem pwb {j m r : Nat} (hj : j ≤ m) (hm : m ≤ 8) (hr : r < 2 ^ (m - j)) : r < 2 ^ (8 - j) := Nat.lt_of_lt_of_le hr (Nat.pow_le_pow_right (by decide) (by omega))
theorem pws {j m s r : Nat} (hj : j ≤ m) (hs : s < 2 ^ j) (hr : r < 2 ^ (m - j)) : s + 2 ^ j * r < 2 ^ m := by
  have e : 2 ^ m = 2 ^ j * 2 ^ (m - j) := by rw [← Nat.pow_add]; congr 1; omega
  rw [e]
  have : 2 ^ j * (r + 1) ≤ 2 ^ j * 2 ^ (m - j) := Nat.mul_le_mul_left _ hr
  rw [Nat.mul_add] at this
  omega
theorem flp_b {m r : Nat} (h : r < 2 ^ (m + 1)) : flp r < 2 ^ (m + 1) := by
  unfold flp
  rw [Nat.pow_succ] at h ⊢
  split <;> omega
def dpB (F : Nat → Bool) (m j s : Nat) : Bool := (List.range (2 ^ (m - j))).any (fun r => F (s + 2 ^ j * r) != F (s + 2 ^ j * flp r))
def alB (F : Nat → Bool) (m j a c : Nat) : Bool := (List.range (2 ^ (m - j))).all (fun r => F (a + 2 ^ j * r) == F (c + 2 ^ j * r))
def nqB (F : Nat → Bool) (m j s : Nat) : Bool := dpB F m j s && (List.range s).all (fun c => !alB F m j s c)
def qnL (F : Nat → Bool) (m j : Nat) (K : Nat) : Nat := cnF (nqB F m j) K
def qnT (F : Nat → Bool) (m : Nat) : Nat → Nat
  | 0 => 0
  | J + 1 => qnT F m J + qnL F m J (2 ^ J)
theorem qn_le {F : Nat → Bool} {m : Nat} : ∀ J : Nat, qnT F m J + 1 ≤ 2 ^ J
  | 0 => Nat.le_refl 1
  | J + 1 => by
    have := qn_le (F := F) (m := m) J
    have := cnF_le (f := nqB F m J) (2 ^ J)
    show qnT F m J + qnL F m J (2 ^ J) + 1 ≤ 2 ^ (J + 1)
    unfold qnL
    rw [Nat.pow_succ]; omega
def Oq (N : Nat) (F : Nat → Bool) (om : cf_O) : Prop := ∀ i : Nat, i < N → om.2.1 71 i = bI (F i)
theorem bI_eq {v w : Bool} : (bI v = bI w) ↔ v = w := bI_i
theorem e39 {b n : Nat} {gr om : cf_O} (R : RGq b n gr om) : (om.1 39).toInt = ((b - 1 : Nat) : Int) := by
  have z := R.1.2.2.2.1
  have b1 := R.1.2.2.2.2.2.2.1
  rw [R.1.2.2.1]; omega
theorem s1_9 : ∀ k : Nat, k < 9 → ((1 : Int32) <<< ((Int32.ofNat k) &&& 31)).toInt = ((2 ^ k : Nat) : Int) := s1_n
theorem dpd_go {m j s : Nat} {F : Nat → Bool} {om : cf_O} {v1 v2 : Int32} (hm : m ≤ 8) (hj : j < m) (hs : s < 2 ^ j) (e1 : v1.toInt = (j : Int)) (e2 : v2.toInt = (s : Int)) (e39 : (om.1 39).toInt = (m : Int)) (O : Oq (2 ^ m) F om) : ∀ (f t : Nat) (w : Bool) (v4 r : Int32), v4.toInt = (t : Int) → t ≤ 2 ^ (m - j) → gM_depends f 0 v1 v2 (bI w) v4 om = some r → r = bI (w || (List.range' t (2 ^ (m - j) - t)).any (fun r => F (s + 2 ^ j * r) != F (s + 2 ^ j * flp r)))
  | 0, t, w, v4, r, e4, ht, h => by cases h
  | f + 1, t, w, v4, r, e4, ht, h => by
    have h : fM_depends_5 (gM_depends f) v1 v2 (bI w) v4 om = some r := h
    unfold fM_depends_5 at h
    have p8 : 2 ^ (m - j) ≤ 256 := Nat.le_trans (Nat.pow_le_pow_right (by decide) (show m - j ≤ 8 by omega)) (by decide)
    have ex : (om.1 39 - v1).toInt = ((m - j : Nat) : Int) := by rw [i_sub' (by omega) (by omega) (by omega) (by omega)]; omega
    rw [opk, opk, on_i ex] at h
    have es := s1_9 (m - j) (by omega)
    rcases ifc h with ⟨a, h⟩ | ⟨a, h⟩
    · have a := c_le a
      have h := (ifn h).2
      rw [← Option.some.inj h, show 2 ^ (m - j) - t = 0 by omega]
      show bI w = bI (w || false)
      rw [Bool.or_false]
    · have a := c_nle a
      have p4 := pW (v := v4) (by omega) (by omega)
      have rs : List.range' t (2 ^ (m - j) - t) = t :: List.range' (t + 1) (2 ^ (m - j) - (t + 1)) := by
        rw [show 2 ^ (m - j) - t = (2 ^ (m - j) - (t + 1)) + 1 by omega]; rfl
      have nx : ∀ (s0 : Int32) (y : Bool), s0 = bI y → fM_depends_56 (gM_depends f) v1 v2 v4 s0 om = some r → r = bI (y || (List.range' (t + 1) (2 ^ (m - j) - (t + 1))).any (fun r => F (s + 2 ^ j * r) != F (s + 2 ^ j * flp r))) := fun s0 y es z => by
        rw [es] at z
        exact dpd_go hm hj hs e1 e2 e39 O f (t + 1) y (v4 + 1) r (by omega) (by omega) z
      rw [rs, List.any_cons]
      rcases ifc h with ⟨c, h⟩ | ⟨c, h⟩
      · have w0 := bI_0.mp c
        rw [w0, Bool.false_or]
        have tb := pwb (show j ≤ m by omega) hm (show t < 2 ^ (m - j) by omega)
        obtain ⟨x1, x2⟩ := ixd (show j < 8 by omega) hs tb
        have b1 := pws (show j ≤ m by omega) hs (show t < 2 ^ (m - j) by omega)
        have fl : flp t < 2 ^ (m - j) := by
          obtain ⟨u, hu⟩ : ∃ u, m - j = u + 1 := ⟨m - j - 1, by omega⟩
          rw [hu]; exact flp_b (by rw [← hu]; omega)
        have b2 := pws (show j ≤ m by omega) hs fl
        have p9 : 2 ^ m ≤ 256 := Nat.le_trans (Nat.pow_le_pow_right (by decide) hm) (by decide)
        rw [opk, opk, on_i e1, on_i e2, on_i e4, x1] at h
        have h := (ifn h).2
        rw [opk, opk, opk, opk, opk, x1, x2] at h
        have h := (ifn h).2
        rw [opk, tW (ofiN (show s + 2 ^ j * t < 1000 by omega)), tW (ofiN (show s + 2 ^ j * flp t < 1000 by omega)), O _ b1, O _ b2, ← on_i e1, ← on_i e2, ← on_i e4] at h
        rcases ifc h with ⟨d, h⟩ | ⟨d, h⟩
        · rw [bI_i.mp d, bne_self_eq_false]
          exact nx 0 false rfl h
        · have d : ¬ F (s + 2 ^ j * t) = F (s + 2 ^ j * flp t) := fun q => d (bI_i.mpr q)
          rw [bne_iff_ne.mpr d]
          exact nx 1 true rfl h
      · have w1 : w = true := by
          cases w with
          | true => rfl
          | false => exact absurd rfl c
        have z := nx 1 true rfl h
        rw [Bool.true_or] at z
        rw [w1, Bool.true_or]; exact z
theorem dep_sp {m j s : Nat} {F : Nat → Bool} {om : cf_O} {v1 v2 r : Int32} (hm : m ≤ 8) (hj : j < m) (hs : s < 2 ^ j) (e1 : v1.toInt = (j : Int)) (e2 : v2.toInt = (s : Int)) (e39 : (om.1 39).toInt = (m : Int)) (O : Oq (2 ^ m) F om) (h : fM_depends v1 v2 om = some r) : r = bI (dpB F m j s) := by
  have h : gM_depends cfFU 0 v1 v2 (bI false) 0 om = some r := h
  have z := dpd_go hm hj hs e1 e2 e39 O cfFU 0 false 0 r rfl (Nat.zero_le _) h
  rw [Bool.false_or, Nat.sub_zero, rg_0] at z; exact z
theorem alk_go {m j s c : Nat} {F : Nat → Bool} {om : cf_O} {v1 v2 v3 : Int32} (hm : m ≤ 8) (hj : j < m) (hs : s < 2 ^ j) (hc : c < 2 ^ j) (e1 : v1.toInt = (j : Int)) (e2 : v2.toInt = (s : Int)) (e3 : v3.toInt = (c : Int)) (e39 : (om.1 39).toInt = (m : Int)) (O : Oq (2 ^ m) F om) : ∀ (f t : Nat) (w : Bool) (v5 r : Int32), v5.toInt = (t : Int) → t ≤ 2 ^ (m - j) → gM_isAlike f 0 v1 v2 v3 (bI w) v5 om = some r → r = bI (w && (List.range' t (2 ^ (m - j) - t)).all (fun r => F (s + 2 ^ j * r) == F (c + 2 ^ j * r)))
  | 0, t, w, v5, r, e5, ht, h => by cases h
  | f + 1, t, w, v5, r, e5, ht, h => by
    have h : fM_isAlike_6 (gM_isAlike f) v1 v2 v3 (bI w) v5 om = some r := h
    unfold fM_isAlike_6 at h
    have p8 : 2 ^ (m - j) ≤ 256 := Nat.le_trans (Nat.pow_le_pow_right (by decide) (show m - j ≤ 8 by omega)) (by decide)
    have ex : (om.1 39 - v1).toInt = ((m - j : Nat) : Int) := by rw [i_sub' (by omega) (by omega) (by omega) (by omega)]; omega
    rw [opk, opk, on_i ex] at h
    have es := s1_9 (m - j) (by omega)
    rcases ifc h with ⟨a, h⟩ | ⟨a, h⟩
    · have a := c_le a
      have h := (ifn h).2
      rw [← Option.some.inj h, show 2 ^ (m - j) - t = 0 by omega]
      show bI w = bI (w && true)
      rw [Bool.and_true]
    · have a := c_nle a
      have p5 := pW (v := v5) (by omega) (by omega)
      have rs : List.range' t (2 ^ (m - j) - t) = t :: List.range' (t + 1) (2 ^ (m - j) - (t + 1)) := by
        rw [show 2 ^ (m - j) - t = (2 ^ (m - j) - (t + 1)) + 1 by omega]; rfl
      have nx : ∀ (s0 : Int32) (y : Bool), s0 = bI y → fM_isAlike_54 (gM_isAlike f) v1 v2 v3 v5 s0 om = some r → r = bI (y && (List.range' (t + 1) (2 ^ (m - j) - (t + 1))).all (fun r => F (s + 2 ^ j * r) == F (c + 2 ^ j * r))) := fun s0 y es z => by
        rw [es] at z
        exact alk_go hm hj hs hc e1 e2 e3 e39 O f (t + 1) y (v5 + 1) r (by omega) (by omega) z
      rw [rs, List.all_cons]
      rcases ifc h with ⟨d, h⟩ | ⟨d, h⟩
      · rw [bI_0.mp d, Bool.false_and]
        have z := nx 0 false rfl h
        rw [Bool.false_and] at z; exact z
      · have w1 : w = true := by
          cases w with
          | true => rfl
          | false => exact absurd rfl d
        have tb := pwb (show j ≤ m by omega) hm (show t < 2 ^ (m - j) by omega)
        have x1 := (ixd (show j < 8 by omega) hs tb).1
        have x2 := (ixd (show j < 8 by omega) hc tb).1
        have b1 := pws (show j ≤ m by omega) hs (show t < 2 ^ (m - j) by omega)
        have b2 := pws (show j ≤ m by omega) hc (show t < 2 ^ (m - j) by omega)
        have p9 : 2 ^ m ≤ 256 := Nat.le_trans (Nat.pow_le_pow_right (by decide) hm) (by decide)
        rw [opk, opk, on_i e1, on_i e2, on_i e3, on_i e5, x1] at h
        have h := (ifn h).2
        rw [opk, opk, opk, x2] at h
        have h := (ifn h).2
        rw [opk, tW (ofiN (show s + 2 ^ j * t < 1000 by omega)), tW (ofiN (show c + 2 ^ j * t < 1000 by omega)), O _ b1, O _ b2, ← on_i e1, ← on_i e2, ← on_i e3, ← on_i e5] at h
        rw [w1, Bool.true_and]
        rcases ifc h with ⟨y, h⟩ | ⟨y, h⟩
        · rw [bI_i.mp y, beq_self_eq_true]
          exact nx 1 true rfl h
        · have y : ¬ F (s + 2 ^ j * t) = F (c + 2 ^ j * t) := fun q => y (bI_i.mpr q)
          rw [beq_eq_false_iff_ne.mpr y]
          exact nx 0 false rfl h
theorem alk_sp {m j s c : Nat} {F : Nat → Bool} {om : cf_O} {v1 v2 v3 r : Int32} (hm : m ≤ 8) (hj : j < m) (hs : s < 2 ^ j) (hc : c < 2 ^ j) (e1 : v1.toInt = (j : Int)) (e2 : v2.toInt = (s : Int)) (e3 : v3.toInt = (c : Int)) (e39 : (om.1 39).toInt = (m : Int)) (O : Oq (2 ^ m) F om) (h : fM_isAlike v1 v2 v3 om = some r) : r = bI (alB F m j s c) := by
  have h : gM_isAlike cfFU 0 v1 v2 v3 (bI true) 0 om = some r := h
  have z := alk_go hm hj hs hc e1 e2 e3 e39 O cfFU 0 true 0 r rfl (Nat.zero_le _) h
  rw [Bool.true_and, Nat.sub_zero, rg_0] at z; exact z
theorem mqs_go {m : Nat} {F : Nat → Bool} {om : cf_O} (hm : m ≤ 8) (e39 : (om.1 39).toInt = (m : Int)) (O : Oq (2 ^ m) F om) : ∀ f : Nat,
    (∀ (j : Nat) (v1 v2 r : Int32), v2.toInt = (j : Int) → j ≤ m → v1.toInt = (qnT F m j : Int) → gM_questions f 0 v1 v2 0 0 0 om = some r → r.toInt = (qnT F m m : Int)) ∧
    (∀ (j s : Nat) (v1 v2 v3 r : Int32), v2.toInt = (j : Int) → j < m → v3.toInt = (s : Int) → s ≤ 2 ^ j → v1.toInt = (qnT F m j : Int) + (qnL F m j s : Int) → gM_questions f 1 v1 v2 v3 0 0 om = some r → r.toInt = (qnT F m m : Int)) ∧
    (∀ (j s c : Nat) (w : Bool) (v1 v2 v3 v5 r : Int32), v2.toInt = (j : Int) → j < m → v3.toInt = (s : Int) → s < 2 ^ j → v5.toInt = (c : Int) → c ≤ s → w = (dpB F m j s && (List.range c).all (fun c => !alB F m j s c)) → v1.toInt = (qnT F m j : Int) + (qnL F m j s : Int) → gM_questions f 2 v1 v2 v3 (bI w) v5 om = some r → r.toInt = (qnT F m m : Int))
  | 0 => ⟨fun _ _ _ _ _ _ _ h => (by cases h), fun _ _ _ _ _ _ _ _ _ _ _ h => (by cases h), fun _ _ _ _ _ _ _ _ _ _ _ _ _ _ _ _ _ h => (by cases h)⟩
  | f + 1 => by
    obtain ⟨i0, i1, i2⟩ := mqs_go hm e39 O f
    have p9 : ∀ j : Nat, j ≤ m → 2 ^ j ≤ 256 := fun j hj => Nat.le_trans (Nat.pow_le_pow_right (by decide) (show j ≤ 8 by omega)) (by decide)
    refine ⟨?_, ?_, ?_⟩
    · intro j v1 v2 r e2 hj e1 h
      have h : fM_questions_4 (gM_questions f) v1 v2 om = some r := h
      unfold fM_questions_4 at h
      rcases ifc h with ⟨a, h⟩ | ⟨a, h⟩
      · have a := c_le a
        have ej : j = m := by omega
        rw [← Option.some.inj h, e1, ej]
      · have a := c_nle a
        exact i1 j 0 v1 v2 0 r e2 (by omega) rfl (Nat.zero_le _) (by rw [e1]; show _ = _ + ((0 : Nat) : Int); omega) h
    · intro j s v1 v2 v3 r e2 hj e3 hs e1 h
      have h : fM_questions_14 (gM_questions f) v1 v2 v3 om = some r := h
      unfold fM_questions_14 at h
      rw [opk] at h
      have es := s1_9 j (by omega)
      rw [← on_i e2] at es
      have pj := p9 j (by omega)
      rcases ifc h with ⟨a, h⟩ | ⟨a, h⟩
      · have a := c_le a
        rw [opk] at h
        exact i0 (j + 1) v1 (v2 + 1) r (by rw [pW (by omega) (by omega)]; omega) (by omega) (by
          rw [e1, show s = 2 ^ j by omega]
          show _ = ((qnT F m j + qnL F m j (2 ^ j) : Nat) : Int)
          omega) h
      · have a := c_nle a
        obtain ⟨q, hq, h⟩ := bd h
        have eq := dep_sp hm hj (by omega) e2 e3 e39 O hq
        rw [eq] at h
        exact i2 j s 0 _ v1 v2 v3 0 r e2 hj e3 (by omega) rfl (Nat.zero_le _) (by rw [List.range_zero]; show _ = (_ && true); rw [Bool.and_true]) e1 h
    · intro j s c w v1 v2 v3 v5 r e2 hj e3 hs e5 hc ew e1 h
      have h : fM_questions_32 (gM_questions f) v1 v2 v3 (bI w) v5 om = some r := h
      have pj := p9 j (by omega)
      have q1 := qn_le (F := F) (m := m) j
      have q2 := cnF_le (f := nqB F m j) s
      have q2 : qnL F m j s ≤ s := q2
      have k67 : w = nqB F m j s → fM_questions_67 (gM_questions f) v1 v2 v3 (bI w) om = some r → r.toInt = (qnT F m m : Int) := fun ewn z => by
        unfold fM_questions_67 at z
        have p3 := pW (v := v3) (by omega) (by omega)
        have qs : qnL F m j (s + 1) = qnL F m j s + (if nqB F m j s then 1 else 0) := rfl
        rcases ifc z with ⟨d, z⟩ | ⟨d, z⟩
        · have w0 := bI_0.mp d
          refine i1 j (s + 1) v1 v2 (v3 + 1) r e2 hj (by omega) (by omega) ?_ z
          rw [qs, ← ewn, w0, e1]; rfl
        · have w1 : w = true := by
            cases w with
            | true => rfl
            | false => exact absurd rfl d
          rw [opk] at z
          have p1 := pW (v := v1) (by omega) (by omega)
          refine i1 j (s + 1) (v1 + 1) v2 (v3 + 1) r e2 hj (by omega) (by omega) ?_ z
          rw [qs, ← ewn, w1, if_pos rfl]; omega
      unfold fM_questions_32 at h
      rcases ifc h with ⟨a, h⟩ | ⟨a, h⟩
      · have a := c_le a
        have ec : c = s := by omega
        subst ec
        exact k67 ew h
      · have a := c_nle a
        rcases ifc h with ⟨d, h⟩ | ⟨d, h⟩
        · have w0 := bI_0.mp d
          refine k67 ?_ h
          rw [w0] at ew
          rw [w0]
          unfold nqB
          cases hd : dpB F m j s with
          | false => rfl
          | true =>
            rw [hd, Bool.true_and] at ew
            rw [Bool.true_and]
            obtain ⟨x, x1, x2⟩ := List.all_eq_false.mp ew.symm
            exact (List.all_eq_false.mpr ⟨x, List.mem_range.mpr (by have := List.mem_range.mp x1; omega), x2⟩).symm
        · have w1 : w = true := by
            cases w with
            | true => rfl
            | false => exact absurd rfl d
          rw [w1] at ew
          obtain ⟨q, hq, h⟩ := bd h
          have eq := alk_sp hm hj hs (show c < 2 ^ j by omega) e2 e3 e5 e39 O hq
          have p5 := pW (v := v5) (by omega) (by omega)
          have nx : ∀ (s0 : Int32) (y : Bool), s0 = bI y → y = !alB F m j s c → fM_questions_59 (gM_questions f) v1 v2 v3 v5 s0 om = some r → r.toInt = (qnT F m m : Int) := fun s0 y es ey z => by
            rw [es] at z
            refine i2 j s (c + 1) y v1 v2 v3 (v5 + 1) r e2 hj e3 hs (by omega) (by omega) ?_ e1 z
            rw [List.range_succ, List.all_append, ← Bool.and_assoc, ← ew, Bool.true_and, ey]
            show _ = (_ && true)
            rw [Bool.and_true]
          rcases ifc h with ⟨y, h⟩ | ⟨y, h⟩
          · rw [eq] at y
            exact nx 1 true rfl (by rw [bI_0.mp y]; rfl) h
          · rw [eq] at y
            exact nx 0 false rfl (by
              cases z : alB F m j s c with
              | true => rfl
              | false => rw [z] at y; exact absurd rfl y) h
