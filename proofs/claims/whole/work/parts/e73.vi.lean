theorem misGate_sp {b n : Nat} {gr om : cf_O} {v q : Int32} (R : RGq b n gr om) (h : fM_isGate v om = some q) : Yn q ((b : Int) ≤ v.toInt ∧ v.toInt < ((b + n : Nat) : Int)) := by
  have R0 := R.1
  unfold fM_isGate fM_isGate_0 at h
  obtain ⟨s, hs, h⟩ := bd h
  obtain ⟨t, ht, h⟩ := bd h
  have es := base_sp R hs
  have et := base_sp R ht
  rw [opk, opk] at h
  obtain ⟨u, hu, h⟩ := bd h
  have e1 : (t + (om.1 43)).toInt = ((b + n : Nat) : Int) := by rw [Int32.toInt_add, et, R0.1, i_bm (by omega) (by omega)]; omega
  have e2 : (t + (om.1 43) - 1).toInt = ((b + n : Nat) : Int) - 1 := by rw [Int32.toInt_sub, e1, show (1 : Int32).toInt = 1 from rfl, i_bm (by omega) (by omega)]
  have yu := in_sp hu
  rw [es, e2] at yu
  rw [b01_sp h]
  exact Yn_i yu ⟨fun z => ⟨z.1, by omega⟩, fun z => ⟨z.1, by omega⟩⟩
theorem eq_gate {v1 v2 : Int32} {o0 gr om : cf_O} {r rm : Int32 × cf_O} (h38 : om.1 38 = o0.1 16) (h16 : o0.1 16 = 0 ∨ (o0.1 16 = 1 ∧ ∃ b n : Nat, GW b n gr ∧ RGq b n gr om)) (h1 : fF_gate v1 v2 o0 gr = some r) (h2 : fM_gate v1 v2 om = some rm) : AnsC [(2, 1), (3, 2), (1, 3)] r.2 r.1 rm := by
  unfold fF_gate fF_gate_0 at h1
  unfold fM_gate fM_gate_0 at h2
  rcases h16 with a | ⟨a, b, n, G, R⟩
  · have a38 := h38.trans a
    rw [if_pos a] at h1
    rw [if_pos a38] at h2
    unfold fM_gate_19 fM_gate_20 at h2
    rw [if_pos a38] at h2
    unfold fM_gate_34 at h2
    rw [if_pos a38] at h2
    unfold fM_gate_49 fM_gate_50 at h2
    rw [if_pos rfl] at h2
    unfold fM_gate_67 fM_gate_68 at h2
    rw [refuse_1, Option.bind_some, if_neg (show ¬ ((1 : Int32), fp om 0 1).1 = 0 by show ¬ (1 : Int32) = 0; decide)] at h2
    rw [← Option.some.inj h1, ← Option.some.inj h2]
    exact Or.inr ⟨(2, 1), List.mem_cons_self .., rfl, rfl⟩
  · have n16 : ¬ o0.1 16 = 0 := by rw [a]; decide
    have n38 : ¬ om.1 38 = 0 := by rw [h38]; exact n16
    have G0 := G.1
    rw [if_neg n16] at h1
    rw [if_neg n38] at h2
    unfold fF_gate_7 at h1
    obtain ⟨q, hq, h1⟩ := bd h1
    obtain ⟨t, ht, h2⟩ := bd h2
    have yq := isGate_sp G hq
    have yt := misGate_sp R ht
    unfold fF_gate_15 at h1
    rcases ifc h1 with ⟨c, h1⟩ | ⟨c, h1⟩
    · have nq := Yn_0 yq c
      rcases ifc h2 with ⟨d, h2⟩ | ⟨d, _⟩
      · unfold fM_gate_19 fM_gate_20 at h2
        rw [if_neg n38] at h2
        unfold fM_gate_34 at h2
        rw [if_neg n38, if_pos rfl] at h2
        unfold fM_gate_50 at h2
        rw [if_pos rfl] at h2
        unfold fM_gate_67 fM_gate_68 at h2
        rw [refuse_2 (by decide), Option.bind_some, if_neg (show ¬ ((1 : Int32), fp om 0 2).1 = 0 by show ¬ (1 : Int32) = 0; decide)] at h2
        rw [← Option.some.inj h1, ← Option.some.inj h2]
        exact Or.inr ⟨(3, 2), List.mem_cons_of_mem _ (List.mem_cons_self ..), rfl, rfl⟩
      · exact absurd (Yn_1 yt d) nq
    · have iq := Yn_1 yq c
      rcases ifc h2 with ⟨d, _⟩ | ⟨_, h2⟩
      · exact absurd iq (Yn_0 yt d)
      unfold fM_gate_20 at h2
      rw [if_neg n38] at h2
      unfold fM_gate_34 at h2
      rw [if_neg n38, if_neg (by decide)] at h2
      unfold fM_gate_49 fM_gate_50 at h2
      rw [if_neg (by decide)] at h2
      obtain ⟨w, hw, h2⟩ := bd h2
      have yw := in_sp hw
      rw [show (0 : Int32).toInt = 0 from rfl, show (2 : Int32).toInt = 2 from rfl] at yw
      unfold fF_gate_18 at h1
      have iv : v1.toNatClampNeg = v1.toInt.toNat := by have := tn_n v1; omega
      rcases ifc h2 with ⟨d, h2⟩ | ⟨d, h2⟩
      · have nw := Yn_0 yw d
        unfold fM_gate_68 at h2
        rw [refuse_3 (by decide), Option.bind_some, if_neg (show ¬ ((1 : Int32), fp om 0 3).1 = 0 by show ¬ (1 : Int32) = 0; decide)] at h2
        have ne : ∀ k : Int32, 0 ≤ k.toInt → k.toInt ≤ 2 → ¬ v2 = k := fun k k0 k3 z => nw (by rw [z]; exact ⟨k0, k3⟩)
        rw [if_neg (ne 0 (by decide) (by decide)), if_neg (ne 1 (by decide) (by decide)), if_neg (ne 2 (by decide) (by decide))] at h1
        rw [← Option.some.inj h1, ← Option.some.inj h2]
        exact Or.inr ⟨(1, 3), List.mem_cons_of_mem _ (List.mem_cons_of_mem _ (List.mem_cons_self ..)), rfl, rfl⟩
      · have iw := Yn_1 yw d
        unfold fM_gate_67 fM_gate_68 at h2
        rw [refuse_00, Option.bind_some, if_pos (show ((0 : Int32), fp om 0 0).1 = 0 from rfl)] at h2
        have R1 : RGq b n gr (fp om 0 0) := RGq_f R rfl rfl rfl rfl rfl rfl rfl
        obtain ⟨g, hg⟩ : ∃ g : Nat, v1.toInt.toNat = b + g := ⟨v1.toInt.toNat - b, by omega⟩
        have gl := R.2.1 g (by omega)
        have ix : ∀ s : Int32, s.toInt = (b : Int) → (v1 - s).toNatClampNeg = g := fun s es => by
          have e := i_sub' (a := v1) (b := s) (by omega) (by omega) (by omega) (by omega)
          have := tn_n (v1 - s)
          omega
        refine Or.inl ?_
        rcases ifc h1 with ⟨e, h1⟩ | ⟨e, h1⟩
        · rw [if_pos e] at h2
          obtain ⟨s, hs, h2⟩ := bd h2
          have es := base_sp R1 hs
          rw [opk] at h2
          have h2 := (ifn h2).2
          rw [opk, ix s es] at h2
          have h1 := (ifn h1).2
          rw [opk, iv, hg] at h1
          rw [← Option.some.inj h1, ← Option.some.inj h2]
          exact ⟨rfl, rfl, gl.1.symm⟩
        · rw [if_neg e] at h2
          rcases ifc h1 with ⟨e2, h1⟩ | ⟨e2, h1⟩
          · rw [if_pos e2] at h2
            obtain ⟨s, hs, h2⟩ := bd h2
            have es := base_sp R1 hs
            rw [opk] at h2
            have h2 := (ifn h2).2
            rw [opk, ix s es] at h2
            have h1 := (ifn h1).2
            rw [opk, iv, hg] at h1
            rw [← Option.some.inj h1, ← Option.some.inj h2]
            exact ⟨rfl, rfl, gl.2.symm⟩
          · rw [if_neg e2] at h2
            rcases ifc h1 with ⟨e3, h1⟩ | ⟨e3, h1⟩
            · have h2 := (ifn h2).2
              rw [opk, iv] at h2
              have h1 := (ifn h1).2
              rw [opk, iv] at h1
              rw [← Option.some.inj h1, ← Option.some.inj h2]
              exact ⟨rfl, rfl, (R.2.2.1 v1.toInt.toNat (by omega)).1.symm⟩
            · exfalso
              have y0 : ¬ v2.toInt = 0 := c_ne e
              have y1 : ¬ v2.toInt = 1 := c_ne e2
              have y2 : ¬ v2.toInt = 2 := c_ne e3
              omega
theorem ush_z : ∀ k : Nat, k < 9 → ((Int32.ofNat k).toUInt32 &&& Int32.toUInt32 31).toNat % 32 = k := by decide +kernel
theorem ush_r {v s : Int32} {k : Nat} (hk : k < 9) (es : s = Int32.ofNat k) : (v.toUInt32 >>> (s.toUInt32 &&& Int32.toUInt32 31)).toInt32 = 0 ↔ (0 ≤ v.toInt ∧ v.toInt < ((2 ^ k : Nat) : Int)) := by
  have e : v.toInt = if 2 * v.toBitVec.toNat < 2 ^ 32 then (v.toBitVec.toNat : Int) else (v.toBitVec.toNat : Int) - ((2 ^ 32 : Nat) : Int) := BitVec.toInt_eq_toNat_cond v.toBitVec
  have l := v.toBitVec.isLt
  have p2 : 2 ^ k ≤ 256 := Nat.le_trans (Nat.pow_le_pow_right (by decide) (show k ≤ 8 by omega)) (by decide)
  have p0 : 0 < 2 ^ k := Nat.pow_pos (by decide)
  have hn : (v.toUInt32 >>> (s.toUInt32 &&& Int32.toUInt32 31)).toNat = v.toBitVec.toNat / 2 ^ k := by
    rw [UInt32.toNat_shiftRight, es, ush_z k hk, Nat.shiftRight_eq_div_pow]; rfl
  have hz : (v.toUInt32 >>> (s.toUInt32 &&& Int32.toUInt32 31)).toInt32 = 0 ↔ v.toBitVec.toNat / 2 ^ k = 0 := by
    rw [← hn]
    constructor
    · intro z
      have := congrArg (fun y => y.toBitVec.toNat) z
      exact this
    · intro z
      have : v.toUInt32 >>> (s.toUInt32 &&& Int32.toUInt32 31) = 0 := UInt32.toNat_inj.mp z
      rw [this]; rfl
  rw [hz, Nat.div_eq_zero_iff]
  by_cases c : 2 * v.toBitVec.toNat < 2 ^ 32
  · rw [if_pos c] at e; omega
  · rw [if_neg c] at e; omega
theorem tbq_n {x : Int64} {j : Nat} : tbq x j = (nv x).testBit j := rfl
theorem s63_z : ∀ k : Nat, k < 64 → ((Int32.ofNat k).toInt64.toUInt64 &&& Int64.toUInt64 63).toNat % 64 = k := by decide +kernel
theorem tb_1 : ∀ j : Nat, j < 64 → tbq 1 j = decide (j = 0) := by decide +kernel
theorem and1_b {y : Int64} : (y &&& 1).toInt32 = bI (tbq y 0) := by
  have e : y &&& 1 = if tbq y 0 = true then 1 else 0 := by
    refine tb_e (fun j hj => ?_)
    rw [tb_and, tb_1 j hj]
    by_cases c : j = 0
    · subst c
      rw [decide_eq_true rfl, Bool.and_true]
      cases tbq y 0 <;> rfl
    · rw [decide_eq_false c, Bool.and_false]
      cases tbq y 0
      · exact tb_0.symm
      · show false = tbq 1 j
        rw [tb_1 j hj, decide_eq_false c]
  rw [e]
  cases tbq y 0 <;> rfl
theorem a63 : ∀ k : Nat, k < 256 → Int32.ofNat k &&& 63 = Int32.ofNat (k % 64) := by decide +kernel
theorem bit_sp {b n : Nat} {x v q : Int32} {fu : cf_O} {V : Nat → Nat → Bool} (B : FuB b n V fu) (x0 : 0 ≤ x.toInt) (x1 : x.toInt < 2 * ((b + n : Nat) : Int)) (bn : b + n ≤ 209) (v0 : 0 ≤ v.toInt) (v1 : v.toInt < 256) (h : fFu_bit x v fu = some q) : q = bI (lvq V x v.toInt.toNat) := by
  unfold fFu_bit fFu_bit_0 at h
  rw [opk] at h
  obtain ⟨w, hw, h⟩ := bd h
  have e6 : (v >>> ((6 : Int32) &&& 31)).toInt = v.toInt / 64 := by
    have z := i_shr (x := v) (k := 6) v0 (by decide) (by decide)
    rw [z]; rfl
  have bw := wd_sp B x0 x1 bn (by omega) (by omega) hw
  rw [opk, opk, opk, opk] at h
  have e63 : v &&& 63 = Int32.ofNat (v.toInt.toNat % 64) := by
    have z := a63 v.toInt.toNat (by omega)
    rw [← of_i v0] at z
    exact z
  rw [e63, and1_b, tbq_n, nv_shr (s63_z (v.toInt.toNat % 64) (by omega)), Nat.testBit_div_two_pow, Nat.zero_add, ← tbq_n, bw _ (by omega), e6, show 64 * (v.toInt / 64).toNat + v.toInt.toNat % 64 = v.toInt.toNat from by omega] at h
  exact (Option.some.inj h).symm
