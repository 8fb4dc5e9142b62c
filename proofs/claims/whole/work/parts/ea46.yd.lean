def pkM (fa f : Nat → Int32) (a : Nat) : Nat := (f a).toInt.toNat * 2 ^ 44 + (fa (4 * (f (a + 1)).toInt.toNat)).toInt.toNat * 2 ^ 34 + (f (a + 1)).toInt.toNat * 2 ^ 30 + (f (a + 2)).toInt.toNat * 2 ^ 20 + (f (a + 3)).toInt.toNat * 2 ^ 10 + (f (a + 4)).toInt.toNat
def MfQ (fa f : Nat → Int32) (a c B T : Nat) : Prop := ∃ cl s : Nat, (cl < c ∧ (f (a + 1)).toInt = (cl : Int)) ∧ ((fa (4 * cl + 2)).toInt = (s : Int) ∧ s ≤ 3) ∧ (0 ≤ (f a).toInt ∧ (f a).toInt ≤ (T : Int)) ∧ ∀ k : Nat, k < 3 → (k < s → 0 ≤ (f (a + 2 + k)).toInt ∧ (f (a + 2 + k)).toInt < (B : Int)) ∧ (s ≤ k → (f (a + 2 + k)).toInt = -1)
theorem MfQ_w {fa f : Nat → Int32} {a c B T B2 T2 : Nat} (h : MfQ fa f a c B T) (hB : B ≤ B2) (hT : T ≤ T2) : MfQ fa f a c B2 T2 := by
  obtain ⟨cl, s, h1, h2, h3, h4⟩ := h
  refine ⟨cl, s, h1, h2, by omega, fun k hk => ⟨fun q => ?_, (h4 k hk).2⟩⟩
  have := (h4 k hk).1 q
  omega
theorem MfQ_c {fa f g : Nat → Int32} {a d c B T : Nat} (h : MfQ fa f a c B T) (e : ∀ k : Nat, k < 5 → g (d + k) = f (a + k)) : MfQ fa g d c B T ∧ pkM fa g d = pkM fa f a := by
  have e0 : g d = f a := e 0 (by decide)
  have e1 : g (d + 1) = f (a + 1) := e 1 (by decide)
  have e2 : g (d + 2) = f (a + 2) := e 2 (by decide)
  have e3 : g (d + 3) = f (a + 3) := e 3 (by decide)
  have e4 : g (d + 4) = f (a + 4) := e 4 (by decide)
  refine ⟨?_, by unfold pkM; rw [e0, e1, e2, e3, e4]⟩
  obtain ⟨cl, s, h1, h2, h3, h4⟩ := h
  refine ⟨cl, s, by rw [e1]; exact h1, h2, by rw [e0]; exact h3, fun k hk => ?_⟩
  have ek : g (d + 2 + k) = f (a + 2 + k) := by rw [Nat.add_assoc, Nat.add_assoc]; exact e (2 + k) (by omega)
  rw [ek]; exact h4 k hk
def lxm (x y : Nat → Int) : Nat → Nat → Int
  | 0, _ => 0
  | m + 1, k => if x k = y k then lxm x y m (k + 1) else x k - y k
theorem i_s3 {x y : Int32} (h1 : -1 ≤ x.toInt) (h2 : x.toInt ≤ 500000) (h3 : -1 ≤ y.toInt) (h4 : y.toInt ≤ 500000) : (x - y).toInt = x.toInt - y.toInt := i_sub (by omega) (by omega)
theorem agM_go {l : Nat} {om : cf_O} {v4 : Int32} (hl : l < 420) (e4 : v4.toInt = ((5 * l : Nat) : Int)) (hx : ∀ k : Nat, k < 5 → -1 ≤ (om.2.1 90 k).toInt ∧ (om.2.1 90 k).toInt ≤ 500000) (hy : ∀ k : Nat, k < 5 → -1 ≤ (om.2.1 89 (5 * l + k)).toInt ∧ (om.2.1 89 (5 * l + k)).toInt ≤ 500000) : ∀ (fu m k : Nat) (v5 v6 r : Int32), v6.toInt = (k : Int) → k + m = 5 → gM_against_M90_M89 fu 0 0 v4 v5 v6 om = some r → r.toInt = if v5 = 0 then lxm (fun k => (om.2.1 90 k).toInt) (fun k => (om.2.1 89 (5 * l + k)).toInt) m k else v5.toInt
  | 0, m, k, v5, v6, r, e6, hm, h => by cases h
  | fu + 1, m, k, v5, v6, r, e6, hm, h => by
    have h : fM_against_M90_M89_51 (gM_against_M90_M89 fu) 0 v4 v5 v6 om = some r := h
    unfold fM_against_M90_M89_51 fM_against_M90_M89_84 at h
    rcases ifc h with ⟨a, h⟩ | ⟨a, h⟩
    · have a : 5 ≤ v6.toInt := c_le a
      have em : m = 0 := by omega
      rw [← Option.some.inj h, em]
      by_cases z : v5 = 0
      · rw [if_pos z, z]; rfl
      · rw [if_neg z]
    · have a : v6.toInt < 5 := c_nle a
      obtain ⟨m', em⟩ : ∃ m', m = m' + 1 := ⟨m - 1, by omega⟩
      subst em
      rcases ifc h with ⟨z, h⟩ | ⟨z, h⟩
      · rw [if_pos z]
        have a0 : (0 + v6).toInt = (k : Int) := by rw [i_add (by rw [e6]; show -2147483648 ≤ 0 + (k : Int); omega) (by rw [e6]; show 0 + (k : Int) ≤ 2147483647; omega), e6]; show 0 + (k : Int) = k; omega
        have a4 : (v4 + v6).toInt = ((5 * l + k : Nat) : Int) := by rw [i_add (by omega) (by omega)]; omega
        rw [opk, tW a0] at h
        have h := (ifn h).2
        rw [opk, opk, tW a4] at h
        have h := (ifn h).2
        rw [opk, opk, opk] at h
        have x1 := hx k (by omega)
        have y1 := hy k (by omega)
        have ih := agM_go hl e4 hx hy fu m' (k + 1) _ (v6 + 1) r (by rw [pW (by omega) (by omega)]; omega) (by omega) h
        have ed := i_s3 x1.1 x1.2 y1.1 y1.2
        rw [ih]
        show _ = if (om.2.1 90 k).toInt = (om.2.1 89 (5 * l + k)).toInt then lxm _ _ m' (k + 1) else (om.2.1 90 k).toInt - (om.2.1 89 (5 * l + k)).toInt
        by_cases q : (om.2.1 90 k).toInt = (om.2.1 89 (5 * l + k)).toInt
        · rw [if_pos q, if_pos (Int32.toInt_inj.mp (by rw [ed, q]; show _ = (0 : Int); omega))]
        · rw [if_neg q, if_neg (fun w => q (by have w := c_eq w; rw [ed, show (0 : Int32).toInt = 0 from rfl] at w; omega)), ed]
      · rw [if_neg z]
        rw [← Option.some.inj h]
theorem pk_lx {t1 t2 a1 a2 c1 c2 p1 p2 q1 q2 r1 r2 : Nat} (ha1 : a1 ≤ 999) (ha2 : a2 ≤ 999) (hc1 : c1 < 12) (hc2 : c2 < 12) (hp1 : p1 < 1024) (hp2 : p2 < 1024) (hq1 : q1 < 1024) (hq2 : q2 < 1024) (hr1 : r1 < 1024) (hr2 : r2 < 1024) : t1 * 2 ^ 44 + a1 * 2 ^ 34 + c1 * 2 ^ 30 + p1 * 2 ^ 20 + q1 * 2 ^ 10 + r1 < t2 * 2 ^ 44 + a2 * 2 ^ 34 + c2 * 2 ^ 30 + p2 * 2 ^ 20 + q2 * 2 ^ 10 + r2 ↔ (t1 < t2 ∨ (t1 = t2 ∧ (a1 < a2 ∨ (a1 = a2 ∧ (c1 < c2 ∨ (c1 = c2 ∧ (p1 < p2 ∨ (p1 = p2 ∧ (q1 < q2 ∨ (q1 = q2 ∧ r1 < r2)))))))))) := by omega
def ArQ (c : Nat) (fa : Nat → Int32) : Prop := c ≤ 12 ∧ ∀ i : Nat, i < c → 0 ≤ (fa (4 * i)).toInt ∧ (fa (4 * i)).toInt ≤ 999
theorem LRq_a {c : Nat} {li : cf_O} {fa : Nat → Int32} (h : LRq c li fa) : ArQ c fa := ⟨h.1.2, fun i hi => (h.2 i hi).2.1⟩
theorem MfQ_b {fa f : Nat → Int32} {a c B T : Nat} (h : MfQ fa f a c B T) (hB : B ≤ 420) (hT : T ≤ 500000) (hA : ArQ c fa) : ∀ k : Nat, k < 5 → -1 ≤ (f (a + k)).toInt ∧ (f (a + k)).toInt ≤ 500000 := fun k hk => by
  obtain ⟨cl, s, h1, h2, h3, h4⟩ := h
  have c12 := hA.1
  rcases (show k = 0 ∨ k = 1 ∨ k = 2 ∨ k = 3 ∨ k = 4 by omega) with e | e | e | e | e <;> subst e
  · exact ⟨by show -1 ≤ (f a).toInt; omega, by show (f a).toInt ≤ 500000; omega⟩
  · omega
  · have := h4 0 (by decide)
    by_cases z : 0 < s
    · have := this.1 z; exact ⟨by show -1 ≤ (f (a + 2 + 0)).toInt; omega, by show (f (a + 2 + 0)).toInt ≤ 500000; omega⟩
    · have := this.2 (by omega); exact ⟨by show -1 ≤ (f (a + 2 + 0)).toInt; omega, by show (f (a + 2 + 0)).toInt ≤ 500000; omega⟩
  · have := h4 1 (by decide)
    by_cases z : 1 < s
    · have := this.1 z; exact ⟨by show -1 ≤ (f (a + 2 + 1)).toInt; omega, by show (f (a + 2 + 1)).toInt ≤ 500000; omega⟩
    · have := this.2 (by omega); exact ⟨by show -1 ≤ (f (a + 2 + 1)).toInt; omega, by show (f (a + 2 + 1)).toInt ≤ 500000; omega⟩
  · have := h4 2 (by decide)
    by_cases z : 2 < s
    · have := this.1 z; exact ⟨by show -1 ≤ (f (a + 2 + 2)).toInt; omega, by show (f (a + 2 + 2)).toInt ≤ 500000; omega⟩
    · have := this.2 (by omega); exact ⟨by show -1 ≤ (f (a + 2 + 2)).toInt; omega, by show (f (a + 2 + 2)).toInt ≤ 500000; omega⟩
theorem pin_t {s1 s2 k : Nat} {x y : Int} {B : Nat} (e : s1 = s2) (h1 : (k < s1 → 0 ≤ x ∧ x < (B : Int)) ∧ (s1 ≤ k → x = -1)) (h2 : (k < s2 → 0 ≤ y ∧ y < (B : Int)) ∧ (s2 ≤ k → y = -1)) : (x = y ↔ x.toNat = y.toNat) ∧ (x - y < 0 ↔ x.toNat < y.toNat) := by
  by_cases z : k < s1
  · have a := h1.1 z
    have c := h2.1 (by omega)
    omega
  · have a := h1.2 (by omega)
    have c := h2.2 (by omega)
    omega
theorem lxm_k {fa f g : Nat → Int32} {a d c B T : Nat} (hf : MfQ fa f a c B T) (hg : MfQ fa g d c B T) (hB : B ≤ 420) (hA : ArQ c fa) : (if (f a).toInt = (g d).toInt then (if (fa (4 * (f (a + 1)).toInt.toNat)).toInt = (fa (4 * (g (d + 1)).toInt.toNat)).toInt then lxm (fun k => (f (a + k)).toInt) (fun k => (g (d + k)).toInt) 4 1 else (fa (4 * (f (a + 1)).toInt.toNat)).toInt - (fa (4 * (g (d + 1)).toInt.toNat)).toInt) else (f a).toInt - (g d).toInt) < 0 ↔ pkM fa f a < pkM fa g d := by
  obtain ⟨c1, s1, ⟨h1, h1'⟩, ⟨h2, h2'⟩, h3, h4⟩ := hf
  obtain ⟨c2, s2, ⟨g1, g1'⟩, ⟨g2, g2'⟩, g3, g4⟩ := hg
  have ec1 : (f (a + 1)).toInt.toNat = c1 := by omega
  have ec2 : (g (d + 1)).toInt.toNat = c2 := by omega
  have A1 := hA.2 c1 h1
  have A2 := hA.2 c2 g1
  have c12 := hA.1
  have bd3 : ∀ (x : Int) (s k : Nat), ((k < s → 0 ≤ x ∧ x < (B : Int)) ∧ (s ≤ k → x = -1)) → x.toNat < 1024 := fun x s k h => by
    by_cases z : k < s
    · have := h.1 z; omega
    · have := h.2 (by omega); omega
  have f0 : (f (a + 2)).toInt.toNat < 1024 := bd3 _ _ _ (h4 0 (by decide))
  have f1 : (f (a + 3)).toInt.toNat < 1024 := bd3 _ _ _ (h4 1 (by decide))
  have f2 : (f (a + 4)).toInt.toNat < 1024 := bd3 _ _ _ (h4 2 (by decide))
  have k0 : (g (d + 2)).toInt.toNat < 1024 := bd3 _ _ _ (g4 0 (by decide))
  have k1 : (g (d + 3)).toInt.toNat < 1024 := bd3 _ _ _ (g4 1 (by decide))
  have k2 : (g (d + 4)).toInt.toNat < 1024 := bd3 _ _ _ (g4 2 (by decide))
  unfold pkM
  rw [ec1, ec2, pk_lx (by omega) (by omega) (by omega) (by omega) f0 k0 f1 k1 f2 k2]
  show (if (f a).toInt = (g d).toInt then (if (fa (4 * c1)).toInt = (fa (4 * c2)).toInt then (if (f (a + 1)).toInt = (g (d + 1)).toInt then (if (f (a + 2)).toInt = (g (d + 2)).toInt then (if (f (a + 3)).toInt = (g (d + 3)).toInt then (if (f (a + 4)).toInt = (g (d + 4)).toInt then (0 : Int) else (f (a + 4)).toInt - (g (d + 4)).toInt) else (f (a + 3)).toInt - (g (d + 3)).toInt) else (f (a + 2)).toInt - (g (d + 2)).toInt) else (f (a + 1)).toInt - (g (d + 1)).toInt) else (fa (4 * c1)).toInt - (fa (4 * c2)).toInt) else (f a).toInt - (g d).toInt) < 0 ↔ _
  by_cases et : (f a).toInt = (g d).toInt
  case neg => rw [if_neg et]; omega
  rw [if_pos et]
  by_cases ea : (fa (4 * c1)).toInt = (fa (4 * c2)).toInt
  case neg => rw [if_neg ea]; omega
  rw [if_pos ea]
  by_cases ec : (f (a + 1)).toInt = (g (d + 1)).toInt
  case neg => rw [if_neg ec]; omega
  rw [if_pos ec]
  have cc : c1 = c2 := by omega
  have ss : s1 = s2 := by rw [cc] at h2; omega
  have z0 := pin_t ss (h4 0 (by decide)) (g4 0 (by decide))
  have z1 := pin_t ss (h4 1 (by decide)) (g4 1 (by decide))
  have z2 := pin_t ss (h4 2 (by decide)) (g4 2 (by decide))
  have z0 : ((f (a + 2)).toInt = (g (d + 2)).toInt ↔ (f (a + 2)).toInt.toNat = (g (d + 2)).toInt.toNat) ∧ ((f (a + 2)).toInt - (g (d + 2)).toInt < 0 ↔ (f (a + 2)).toInt.toNat < (g (d + 2)).toInt.toNat) := z0
  have z1 : ((f (a + 3)).toInt = (g (d + 3)).toInt ↔ (f (a + 3)).toInt.toNat = (g (d + 3)).toInt.toNat) ∧ ((f (a + 3)).toInt - (g (d + 3)).toInt < 0 ↔ (f (a + 3)).toInt.toNat < (g (d + 3)).toInt.toNat) := z1
  have z2 : ((f (a + 4)).toInt = (g (d + 4)).toInt ↔ (f (a + 4)).toInt.toNat = (g (d + 4)).toInt.toNat) ∧ ((f (a + 4)).toInt - (g (d + 4)).toInt < 0 ↔ (f (a + 4)).toInt.toNat < (g (d + 4)).toInt.toNat) := z2
  by_cases e2 : (f (a + 2)).toInt = (g (d + 2)).toInt
  case neg =>
    have ne := fun q => e2 (z0.1.mpr q)
    rw [if_neg e2, z0.2]; omega
  rw [if_pos e2]
  have e2' := z0.1.mp e2
  by_cases e3 : (f (a + 3)).toInt = (g (d + 3)).toInt
  case neg =>
    have ne := fun q => e3 (z1.1.mpr q)
    rw [if_neg e3, z1.2]; omega
  rw [if_pos e3]
  have e3' := z1.1.mp e3
  by_cases e4 : (f (a + 4)).toInt = (g (d + 4)).toInt
  case neg =>
    have ne := fun q => e4 (z2.1.mpr q)
    rw [if_neg e4, z2.2]; omega
  rw [if_pos e4]
  have e4' := z2.1.mp e4
  omega
theorem against_sp {l c B T : Nat} {om : cf_O} {v4 r : Int32} (hl : l < 420) (e4 : v4.toInt = ((5 * l : Nat) : Int)) (hf : MfQ (om.2.1 84) (om.2.1 90) 0 c B T) (hg : MfQ (om.2.1 84) (om.2.1 89) (5 * l) c B T) (hB : B ≤ 420) (hT : T ≤ 500000) (hA : ArQ c (om.2.1 84)) (h : fM_against_M90_M89 0 v4 om = some r) : r.toInt < 0 ↔ pkM (om.2.1 84) (om.2.1 90) 0 < pkM (om.2.1 84) (om.2.1 89) (5 * l) := by
  have bx : ∀ k : Nat, k < 5 → -1 ≤ (om.2.1 90 k).toInt ∧ (om.2.1 90 k).toInt ≤ 500000 := fun k hk => by
    have := MfQ_b hf hB hT hA k hk
    rw [Nat.zero_add] at this; exact this
  have hy := MfQ_b hg hB hT hA
  rw [← lxm_k hf hg hB hA]
  have A1 : ∃ c1 : Nat, c1 < c ∧ (om.2.1 90 (0 + 1)).toInt = (c1 : Int) := by obtain ⟨c1, _, q, _⟩ := hf; exact ⟨c1, q⟩
  have A2 : ∃ c1 : Nat, c1 < c ∧ (om.2.1 89 (5 * l + 1)).toInt = (c1 : Int) := by obtain ⟨c1, _, q, _⟩ := hg; exact ⟨c1, q⟩
  obtain ⟨c1, c1l, c1e⟩ := A1
  obtain ⟨c2, c2l, c2e⟩ := A2
  have B1 := hA.2 c1 c1l
  have B2 := hA.2 c2 c2l
  have c12 := hA.1
  unfold fM_against_M90_M89 fM_against_M90_M89_0 at h
  have h := (ifn h).2
  rw [opk, tW e4] at h
  have h := (ifn h).2
  rw [opk, opk] at h
  have x0 := bx 0 (by decide)
  have y0 := hy 0 (by decide)
  have y0 : -1 ≤ (om.2.1 89 (5 * l)).toInt ∧ (om.2.1 89 (5 * l)).toInt ≤ 500000 := y0
  have h90 : om.2.1 90 (0 : Int32).toNatClampNeg = om.2.1 90 0 := rfl
  rw [h90] at h
  have ed := i_s3 x0.1 x0.2 y0.1 y0.2
  have fin : ∀ s : Int32, fM_against_M90_M89_46 (gM_against_M90_M89 cfFU) 0 v4 s om = some r → r.toInt = if s = 0 then lxm (fun k => (om.2.1 90 k).toInt) (fun k => (om.2.1 89 (5 * l + k)).toInt) 4 1 else s.toInt := fun s z => by
    unfold fM_against_M90_M89_46 at z
    exact agM_go hl e4 bx hy cfFU 4 1 s 1 r rfl rfl z
  have ez : (fun k => (om.2.1 90 (0 + k)).toInt) = (fun k => (om.2.1 90 k).toInt) := by funext k; rw [Nat.zero_add]
  rw [ez]
  rcases ifc h with ⟨z, h⟩ | ⟨z, h⟩
  · have zz := c_eq z
    rw [ed, show (0 : Int32).toInt = 0 from rfl] at zz
    have e1 : (om.2.1 90 0).toInt = (om.2.1 89 (5 * l)).toInt := by omega
    rw [if_pos e1]
    rw [opk, show ((0 : Int32) + 1).toNatClampNeg = 0 + 1 from rfl] at h
    have h := (ifn h).2
    have m1 : (4 * om.2.1 90 (0 + 1)).toInt = ((4 * c1 : Nat) : Int) := by rw [i_mul (by rw [c1e]; show -2147483648 ≤ 4 * (c1 : Int); omega) (by rw [c1e]; show 4 * (c1 : Int) ≤ 2147483647; omega), c1e]; show 4 * (c1 : Int) = _; omega
    rw [opk, opk, tW m1] at h
    have h := (ifn h).2
    have a1 : (v4 + 1).toInt = ((5 * l + 1 : Nat) : Int) := by rw [pW (by omega) (by omega)]; omega
    rw [opk, opk, tW a1] at h
    have h := (ifn h).2
    have m2 : (4 * om.2.1 89 (5 * l + 1)).toInt = ((4 * c2 : Nat) : Int) := by rw [i_mul (by rw [c2e]; show -2147483648 ≤ 4 * (c2 : Int); omega) (by rw [c2e]; show 4 * (c2 : Int) ≤ 2147483647; omega), c2e]; show 4 * (c2 : Int) = _; omega
    rw [opk, opk, tW m2] at h
    have h := (ifn h).2
    rw [opk, opk] at h
    have q := fin _ h
    have ea := i_s3 (x := om.2.1 84 (4 * c1)) (y := om.2.1 84 (4 * c2)) (by omega) (by omega) (by omega) (by omega)
    rw [show (om.2.1 90 (0 + 1)).toInt.toNat = c1 by omega, show (om.2.1 89 (5 * l + 1)).toInt.toNat = c2 by omega]
    by_cases w : (om.2.1 84 (4 * c1)).toInt = (om.2.1 84 (4 * c2)).toInt
    · rw [if_pos w]
      rw [if_pos (Int32.toInt_inj.mp (by rw [ea]; show _ = (0 : Int); omega))] at q
      rw [q]
    · rw [if_neg w]
      rw [if_neg (fun u => w (by have u := c_eq u; rw [ea, show (0 : Int32).toInt = 0 from rfl] at u; omega)), ea] at q
      rw [q]
  · have e1 : ¬ (om.2.1 90 0).toInt = (om.2.1 89 (5 * l)).toInt := fun q => z (Int32.toInt_inj.mp (by rw [ed]; show _ = (0 : Int); omega))
    rw [if_neg e1]
    have q := fin _ h
    rw [if_neg z, ed] at q
    rw [q]
theorem km9_go {l : Nat} {v2 : Int32} {OM : cf_O} (hl : l < 420) (e2 : v2.toInt = ((5 * l : Nat) : Int)) : ∀ (fu k : Nat) (v3 : Int32) (om r : cf_O), v3.toInt = (k : Int) → k ≤ 5 → Fr (fr_M [] [89] []) OM om → (∀ j : Nat, j < k → om.2.1 89 (5 * l + j) = OM.2.1 90 j) → (∀ j : Nat, (j < 5 * l ∨ 5 * l + 5 ≤ j) → om.2.1 89 j = OM.2.1 89 j) → gM_keepMatch_M89 fu 0 v2 v3 om = some r → (∀ j : Nat, j < 5 → r.2.1 89 (5 * l + j) = OM.2.1 90 j) ∧ ∀ j : Nat, (j < 5 * l ∨ 5 * l + 5 ≤ j) → r.2.1 89 j = OM.2.1 89 j
  | 0, k, v3, om, r, e3, hk, fo, H1, H2, h => by cases h
  | fu + 1, k, v3, om, r, e3, hk, fo, H1, H2, h => by
    have h : fM_keepMatch_M89_2 (gM_keepMatch_M89 fu) v2 v3 om = some r := h
    unfold fM_keepMatch_M89_2 at h
    rcases ifc h with ⟨a, h⟩ | ⟨a, h⟩
    · have a : 5 ≤ v3.toInt := c_le a
      rw [← Option.some.inj h]
      exact ⟨fun j hj => H1 j (by omega), H2⟩
    · have a : v3.toInt < 5 := c_nle a
      have a4 : (v2 + v3).toInt = ((5 * l + k : Nat) : Int) := by rw [i_add (by omega) (by omega)]; omega
      rw [opk, tW e3] at h
      have h := (ifn h).2
      rw [opk, tW a4] at h
      have h := (ifn h).2
      rw [opk, opk] at h
      refine km9_go hl e2 fu (k + 1) (v3 + 1) _ r (by rw [pW (by omega) (by omega)]; omega) (by omega) (fr_xp fo rfl) (fun j hj => ?_) (fun j hj => ?_) h
      · show upd (om.2.1 89) (5 * l + k) (om.2.1 90 k) (5 * l + j) = _
        by_cases ej : j = k
        · rw [ej, up_s, fo.2.1 90 rfl]
        · rw [up_o (by omega)]; exact H1 j (by omega)
      · show upd (om.2.1 89) (5 * l + k) (om.2.1 90 k) j = _
        rw [up_o (by omega)]; exact H2 j hj
theorem km9_sp {l : Nat} {v2 : Int32} {om r : cf_O} (hl : l < 420) (e2 : v2.toInt = ((5 * l : Nat) : Int)) (h : fM_keepMatch_M89 v2 om = some r) : (∀ j : Nat, j < 5 → r.2.1 89 (5 * l + j) = om.2.1 90 j) ∧ ∀ j : Nat, (j < 5 * l ∨ 5 * l + 5 ≤ j) → r.2.1 89 j = om.2.1 89 j := by
  unfold fM_keepMatch_M89 fM_keepMatch_M89_0 at h
  exact km9_go hl e2 cfFU 0 0 om r rfl (by decide) fr_rfl (fun j hj => absurd hj (by omega)) (fun _ _ => rfl) h
theorem km7_go {l : Nat} {v2 : Int32} {OM : cf_O} (hl : l < 420) (e2 : v2.toInt = ((5 * l : Nat) : Int)) : ∀ (fu k : Nat) (v3 : Int32) (om r : cf_O), v3.toInt = (k : Int) → k ≤ 5 → Fr (fr_M [] [87] []) OM om → (∀ j : Nat, j < k → om.2.1 87 (5 * l + j) = OM.2.1 90 j) → (∀ j : Nat, (j < 5 * l ∨ 5 * l + 5 ≤ j) → om.2.1 87 j = OM.2.1 87 j) → gM_keepMatch_M87 fu 0 v2 v3 om = some r → (∀ j : Nat, j < 5 → r.2.1 87 (5 * l + j) = OM.2.1 90 j) ∧ ∀ j : Nat, (j < 5 * l ∨ 5 * l + 5 ≤ j) → r.2.1 87 j = OM.2.1 87 j
  | 0, k, v3, om, r, e3, hk, fo, H1, H2, h => by cases h
  | fu + 1, k, v3, om, r, e3, hk, fo, H1, H2, h => by
    have h : fM_keepMatch_M87_2 (gM_keepMatch_M87 fu) v2 v3 om = some r := h
    unfold fM_keepMatch_M87_2 at h
    rcases ifc h with ⟨a, h⟩ | ⟨a, h⟩
    · have a : 5 ≤ v3.toInt := c_le a
      rw [← Option.some.inj h]
      exact ⟨fun j hj => H1 j (by omega), H2⟩
    · have a : v3.toInt < 5 := c_nle a
      have a4 : (v2 + v3).toInt = ((5 * l + k : Nat) : Int) := by rw [i_add (by omega) (by omega)]; omega
      rw [opk, tW e3] at h
      have h := (ifn h).2
      rw [opk, tW a4] at h
      have h := (ifn h).2
      rw [opk, opk] at h
      refine km7_go hl e2 fu (k + 1) (v3 + 1) _ r (by rw [pW (by omega) (by omega)]; omega) (by omega) (fr_xp fo rfl) (fun j hj => ?_) (fun j hj => ?_) h
      · show upd (om.2.1 87) (5 * l + k) (om.2.1 90 k) (5 * l + j) = _
        by_cases ej : j = k
        · rw [ej, up_s, fo.2.1 90 rfl]
        · rw [up_o (by omega)]; exact H1 j (by omega)
      · show upd (om.2.1 87) (5 * l + k) (om.2.1 90 k) j = _
        rw [up_o (by omega)]; exact H2 j hj
theorem km7_sp {l : Nat} {v2 : Int32} {om r : cf_O} (hl : l < 420) (e2 : v2.toInt = ((5 * l : Nat) : Int)) (h : fM_keepMatch_M87 v2 om = some r) : (∀ j : Nat, j < 5 → r.2.1 87 (5 * l + j) = om.2.1 90 j) ∧ ∀ j : Nat, (j < 5 * l ∨ 5 * l + 5 ≤ j) → r.2.1 87 j = om.2.1 87 j := by
  unfold fM_keepMatch_M87 fM_keepMatch_M87_0 at h
  exact km7_go hl e2 cfFU 0 0 om r rfl (by decide) fr_rfl (fun j hj => absurd hj (by omega)) (fun _ _ => rfl) h
