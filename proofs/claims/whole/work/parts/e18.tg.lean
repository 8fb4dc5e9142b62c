def vsl : List (List Int64) := [[659210697, 20600334, 643760, 20117, 628, 19, 0], [21094748847, 659210901, 20600340, 643760, 20117, 628, 19, 0], [20100142, 628129, 19629, 613, 19, 0], [4549, 142, 4, 0]]
def vs (w i : Nat) : Int64 := (vsl.getD w []).getD i 0
def lwl : List (List Int) := [[105, 110, 112, 117, 116, 115], [111, 117, 116, 112, 117, 116, 115], [110, 97, 109, 101, 115], [101, 110, 100]]
def lwd (w : Nat) : List Int := lwl.getD w []
theorem vs_t : ∀ w : Nat, w < 4 → ∀ i : Nat, i < (lwd w).length → ¬ lg_cmp (vs w i) 0 ≤ (0 : Int32) ∧ ¬ lg_cmp (vs w i) 0 = (0 : Int32) ∧ (96 + (vs w i &&& 31).toInt32).toInt = (lwd w).getD i 0 ∧ vs w i >>> ((5 : Int32).toInt64 &&& 63) = vs w (i + 1) := by decide +kernel
theorem vs_e : ∀ w : Nat, w < 4 → lg_cmp (vs w (lwd w).length) 0 = (0 : Int32) := by decide +kernel
def Fw (o : cf_O) (w : Nat) : Prop := Wdq (o.2.1 1) (o.2.1 8 0).toInt (o.2.1 9 0).toInt (46 :: lwd w)
theorem Fw_i {o : cf_O} {w : Nat} (h0 : 0 ≤ (o.2.1 8 0).toInt) : Fw o w ↔ ((o.2.1 1 (o.2.1 8 0).toNatClampNeg).toInt = 46 ∧ (o.2.1 9 0).toInt - (o.2.1 8 0).toInt = 1 + ((lwd w).length : Int) ∧ ∀ k : Nat, k < (lwd w).length → (o.2.1 1 ((o.2.1 8 0).toInt.toNat + 1 + k)).toInt = (lwd w).getD k 0) := by
  constructor
  · rintro ⟨h1, h2⟩
    refine ⟨h2 0 (by simp), by rw [h1]; simp; omega, fun k hk => ?_⟩
    have := h2 (k + 1) (by simp; exact hk)
    rw [show (o.2.1 8 0).toInt.toNat + 1 + k = (o.2.1 8 0).toInt.toNat + (k + 1) from by omega]
    exact this
  · rintro ⟨h1, h2, h3⟩
    refine ⟨by rw [h2]; simp; omega, fun k hk => ?_⟩
    cases k with
    | zero => exact h1
    | succ k =>
      have := h3 k (by simpa using hk)
      rw [show (o.2.1 8 0).toInt.toNat + (k + 1) = (o.2.1 8 0).toInt.toNat + 1 + k from by omega]
      exact this
theorem fw_74 {o : cf_O} {w i fuel : Nat} {v1 v2 v3 r : Int32} (hw : w < 4) (h0 : 0 ≤ (o.2.1 8 0).toInt) (hi : i ≤ (lwd w).length) (e3 : v3.toInt = (o.2.1 8 0).toInt + 1 + (i : Int)) (hk : ∀ k : Nat, k < i → (o.2.1 1 ((o.2.1 8 0).toInt.toNat + 1 + k)).toInt = (lwd w).getD k 0) (D : i = (lwd w).length ∨ v3.toInt = (o.2.1 9 0).toInt ∨ (i < (lwd w).length ∧ ¬ (o.2.1 1 ((o.2.1 8 0).toInt.toNat + 1 + i)).toInt = (lwd w).getD i 0))
    (h : fM_firstWord_74 (gM_firstWord fuel) v1 v2 v3 (vs w i) o = some r) : (Fw o w ∧ gM_firstWord fuel 0 v2 (v2 + 1) 0 0 o = some r) ∨ (¬ Fw o w ∧ gM_firstWord fuel 0 v1 (v2 + 1) 0 0 o = some r) := by
  have h := (ifn (show (if _ then none else (if _ then none else (if o.2.1 1 (o.2.1 8 0).toNatClampNeg = (46 : Int32) then (if _ then none else (if v3 = o.2.1 9 0 then (if lg_cmp (vs w i) (0 : Int64) = (0 : Int32) then gM_firstWord fuel 0 v2 (v2 + 1) 0 0 o else gM_firstWord fuel 0 v1 (v2 + 1) 0 0 o) else gM_firstWord fuel 0 v1 (v2 + 1) 0 0 o)) else gM_firstWord fuel 0 v1 (v2 + 1) 0 0 o))) = some r from h)).2
  have h := (ifn h).2
  rw [Fw_i h0]
  rcases ifc h with ⟨a, h⟩ | ⟨a, h⟩
  · have h := (ifn h).2
    rcases ifc h with ⟨b, h⟩ | ⟨b, h⟩
    · have b := c_eq b
      rcases ifc h with ⟨c, h⟩ | ⟨c, h⟩
      · have ei : i = (lwd w).length := by
          rcases Nat.lt_or_ge i (lwd w).length with q | q
          · exact absurd c (vs_t w hw i q).2.1
          · omega
        refine Or.inl ⟨⟨c_eq a, by omega, ?_⟩, h⟩
        rw [← ei]; exact hk
      · refine Or.inr ⟨fun z => c ?_, h⟩
        have ei : i = (lwd w).length := by have := z.2.1; omega
        rw [ei]; exact vs_e w hw
    · have b := c_ne b
      refine Or.inr ⟨fun z => ?_, h⟩
      rcases D with D | D | D
      · have := z.2.1; omega
      · exact b D
      · exact D.2 (z.2.2 i D.1)
  · exact Or.inr ⟨fun z => c_ne a z.1, h⟩
theorem fw_in {o : cf_O} {w : Nat} (hw : w < 4) (h0 : 0 ≤ (o.2.1 8 0).toInt) (h2 : (o.2.1 9 0).toInt ≤ 1600) : ∀ (fuel i : Nat) (v1 v2 v3 r : Int32), i ≤ (lwd w).length → v3.toInt = (o.2.1 8 0).toInt + 1 + (i : Int) → v3.toInt ≤ (o.2.1 9 0).toInt → (∀ k : Nat, k < i → (o.2.1 1 ((o.2.1 8 0).toInt.toNat + 1 + k)).toInt = (lwd w).getD k 0) → gM_firstWord fuel 1 v1 v2 v3 (vs w i) o = some r → ∃ f : Nat, (Fw o w ∧ gM_firstWord f 0 v2 (v2 + 1) 0 0 o = some r) ∨ (¬ Fw o w ∧ gM_firstWord f 0 v1 (v2 + 1) 0 0 o = some r)
  | 0, i, v1, v2, v3, r, hi, e3, ht, hk, h => by cases h
  | fuel + 1, i, v1, v2, v3, r, hi, e3, ht, hk, h => by
    have h : fM_firstWord_26 (gM_firstWord fuel) v1 v2 v3 (vs w i) o = some r := h
    have h := (ifn h).2
    rcases ifc h with ⟨a, h⟩ | ⟨a, h⟩
    · have a : (o.2.1 9 0).toInt ≤ v3.toInt := c_le a
      exact ⟨fuel, fw_74 hw h0 hi e3 hk (Or.inr (Or.inl (by omega))) h⟩
    · have a : v3.toInt < (o.2.1 9 0).toInt := c_nle a
      rcases ifc h with ⟨b, h⟩ | ⟨b, h⟩
      · refine ⟨fuel, fw_74 hw h0 hi e3 hk (Or.inl ?_) h⟩
        rcases Nat.lt_or_ge i (lwd w).length with q | q
        · exact absurd b (vs_t w hw i q).1
        · omega
      · have il : i < (lwd w).length := by
          rcases Nat.lt_or_ge i (lwd w).length with q | q
          · exact q
          · have e : i = (lwd w).length := by omega
            rw [e, vs_e w hw] at b
            exact absurd (by decide) b
        obtain ⟨-, h⟩ := ifn h
        have t := vs_t w hw i il
        have ei : v3.toNatClampNeg = (o.2.1 8 0).toInt.toNat + 1 + i := by have := tn_n v3; omega
        rcases ifc h with ⟨c, h⟩ | ⟨c, h⟩
        · have c := c_eq c
          rw [t.2.2.1, ei] at c
          rw [opk, opk, t.2.2.2] at h
          refine fw_in hw h0 h2 fuel (i + 1) v1 v2 (v3 + 1) r il (by rw [p_1 (by omega) (by omega)]; omega) (by rw [p_1 (by omega) (by omega)]; omega) (fun k hk2 => ?_) h
          by_cases ek : k = i
          · rw [ek]; exact c
          · exact hk k (by omega)
        · refine ⟨fuel, fw_74 hw h0 hi e3 hk (Or.inr (Or.inr ⟨il, fun q => c ?_⟩)) h⟩
          apply Int32.toInt_inj.mp
          rw [t.2.2.1, ei]; exact q
def W4 (f : Nat → Int64) : Prop := ∀ w : Nat, w < 4 → f w = vs w 0
theorem fw_step {o : cf_O} {w fuel : Nat} {v1 v2 r : Int32} (hw : w < 4) (h4 : W4 (o.2.2 4)) (ho : okO I_M o) (hp : (o.2.1 8 0).toInt < (o.2.1 9 0).toInt) (e2 : v2.toInt = (w : Int)) (h : gM_firstWord fuel 0 v1 v2 0 0 o = some r) : ∃ f : Nat, (Fw o w ∧ gM_firstWord f 0 v2 (v2 + 1) 0 0 o = some r) ∨ (¬ Fw o w ∧ gM_firstWord f 0 v1 (v2 + 1) 0 0 o = some r) := by
  have b1 : (0 : Int) ≤ (o.2.1 8 0).toInt ∧ (o.2.1 8 0).toInt ≤ 1599 := ho.2 8 0
  have b2 : (0 : Int) ≤ (o.2.1 9 0).toInt ∧ (o.2.1 9 0).toInt ≤ 1600 := ho.2 9 0
  cases fuel with
  | zero => cases h
  | succ fuel =>
    rcases ifc h with ⟨a, h⟩ | ⟨a, h⟩
    · have a : 4 ≤ v2.toInt := c_le a
      omega
    · have h := (ifn h).2
      have h := (ifn h).2
      rw [opk, show v2.toNatClampNeg = w from by have := tn_n v2; omega, h4 w hw] at h
      have e := p_1 (v := o.2.1 8 0) b1.1 (by omega)
      exact fw_in hw b1.1 b2.2 fuel 0 v1 v2 (o.2.1 8 0 + 1) r (Nat.zero_le _) (by rw [e]; omega) (by omega) (fun k hk => absurd hk (by omega)) h
theorem fw_nx {v : Int32} {w : Nat} (e : v.toInt = (w : Int)) (hw : w < 4) : (v + 1).toInt = ((w + 1 : Nat) : Int) := by rw [p_1 (by omega) (by omega), e]; omega
theorem firstWord_sp {o : cf_O} {r : Int32} (h4 : W4 (o.2.2 4)) (ho : okO I_M o) (hp : (o.2.1 8 0).toInt < (o.2.1 9 0).toInt) (h : fM_firstWord o = some r) : r.toInt = cif (Fw o 3) 3 (cif (Fw o 2) 2 (cif (Fw o 1) 1 (cif (Fw o 0) 0 (-1)))) := by
  have h : gM_firstWord cfFU 0 (-1) 0 0 0 o = some r := h
  have keyq : ∀ (w : Nat) (x : Int) (fuel : Nat) (v1 v2 : Int32), w < 4 → v2.toInt = (w : Int) → v1.toInt = x → gM_firstWord fuel 0 v1 v2 0 0 o = some r → ∃ (f : Nat) (v1' v2' : Int32), v2'.toInt = ((w + 1 : Nat) : Int) ∧ v1'.toInt = cif (Fw o w) (w : Int) x ∧ gM_firstWord f 0 v1' v2' 0 0 o = some r := by
    intro w x fuel v1 v2 hw e2 e1 h
    obtain ⟨f, q | q⟩ := fw_step hw h4 ho hp e2 h
    · exact ⟨f, v2, v2 + 1, fw_nx e2 hw, by rw [cif_t q.1]; exact e2, q.2⟩
    · exact ⟨f, v1, v2 + 1, fw_nx e2 hw, by rw [cif_f q.1]; exact e1, q.2⟩
  obtain ⟨f0, a0, b0, e0, d0, h⟩ := keyq 0 (-1) cfFU (-1) 0 (by decide) rfl rfl h
  obtain ⟨f1, a1, b1, e1, d1, h⟩ := keyq 1 _ f0 a0 b0 (by decide) e0 d0 h
  obtain ⟨f2, a2, b2, e2, d2, h⟩ := keyq 2 _ f1 a1 b1 (by decide) e1 d1 h
  obtain ⟨f3, a3, b3, e3, d3, h⟩ := keyq 3 _ f2 a2 b2 (by decide) e2 d2 h
  cases f3 with
  | zero => cases h
  | succ f3 =>
    rcases ifc (show (if (4 : Int32) ≤ b3 then some a3 else _) = some r from h) with ⟨a, h⟩ | ⟨a, h⟩
    · rw [← Option.some.inj h]; exact d3
    · have a := c_nle a
      rw [e3] at a
      exact absurd a (by decide)
theorem isCellWord_sp {r : Int32} {o : cf_O} (ho : okO I_M o) (h : fM_isCellWord o = some r) : Yn r (Wdq (o.2.1 1) (o.2.1 8 0).toInt (o.2.1 9 0).toInt [99, 101, 108, 108]) := by
  have b1 : (0 : Int) ≤ (o.2.1 8 0).toInt ∧ (o.2.1 8 0).toInt ≤ 1599 := ho.2 8 0
  have b2 : (0 : Int) ≤ (o.2.1 9 0).toInt ∧ (o.2.1 9 0).toInt ≤ 1600 := ho.2 9 0
  have es : (o.2.1 9 0 - o.2.1 8 0).toInt = (o.2.1 9 0).toInt - (o.2.1 8 0).toInt := i_sub' b2.1 b2.2 b1.1 (by omega)
  have k0 : fM_isCellWord_73 o = some r → r = 0 := fun q => b01_sp (s := 0) q
  have h : fM_isCellWord_0 o = some r := h
  have h := (ifn h).2
  rw [opk] at h
  have h := (ifn h).2
  have pl : ∀ k : Int32, 0 ≤ k.toInt → k.toInt ≤ 3 → (o.2.1 8 0 + k).toNatClampNeg = (o.2.1 8 0).toInt.toNat + k.toInt.toNat := fun k q1 q2 => pl_k b1.1 (by omega) q1 (by omega)
  have p1 := pl 1 (by decide) (by decide)
  have p2 := pl 2 (by decide) (by decide)
  have p3 := pl 3 (by decide) (by decide)
  rcases ifc h with ⟨a, h⟩ | ⟨a, h⟩
  · have a : o.2.1 9 0 - o.2.1 8 0 = (4 : Int32) := a
    have a : (o.2.1 9 0).toInt - (o.2.1 8 0).toInt = 4 := by rw [← es, a]; rfl
    have h := (ifn h).2
    rcases ifc h with ⟨c0, h⟩ | ⟨c0, h⟩
    · have h := (ifn h).2
      rcases ifc h with ⟨c1, h⟩ | ⟨c1, h⟩
      · have c1 : o.2.1 1 (o.2.1 8 0 + 1).toNatClampNeg = (101 : Int32) := c1
        have h := (ifn h).2
        rcases ifc h with ⟨c2, h⟩ | ⟨c2, h⟩
        · have c2 : o.2.1 1 (o.2.1 8 0 + 2).toNatClampNeg = (108 : Int32) := c2
          have h := (ifn h).2
          rcases ifc h with ⟨c3, h⟩ | ⟨c3, h⟩
          · have c3 : o.2.1 1 (o.2.1 8 0 + 3).toNatClampNeg = (108 : Int32) := c3
            refine Or.inl ⟨b01_sp (s := 1) h, a, fun k hk => ?_⟩
            rw [p1] at c1
            rw [p2] at c2
            rw [p3] at c3
            match k, hk with
            | 0, _ => exact c_eq c0
            | 1, _ => exact c_eq c1
            | 2, _ => exact c_eq c2
            | 3, _ => exact c_eq c3
            | k + 4, hk => exact absurd hk (by simp)
          · have c3 : ¬ o.2.1 1 (o.2.1 8 0 + 3).toNatClampNeg = (108 : Int32) := c3
            rw [p3] at c3
            exact Or.inr ⟨k0 h, fun z => c_ne c3 (z.2 3 (by decide))⟩
        · have c2 : ¬ o.2.1 1 (o.2.1 8 0 + 2).toNatClampNeg = (108 : Int32) := c2
          rw [p2] at c2
          exact Or.inr ⟨k0 h, fun z => c_ne c2 (z.2 2 (by decide))⟩
      · have c1 : ¬ o.2.1 1 (o.2.1 8 0 + 1).toNatClampNeg = (101 : Int32) := c1
        rw [p1] at c1
        exact Or.inr ⟨k0 h, fun z => c_ne c1 (z.2 1 (by decide))⟩
    · exact Or.inr ⟨k0 h, fun z => c_ne c0 (z.2 0 (by decide))⟩
  · have a : ¬ o.2.1 9 0 - o.2.1 8 0 = (4 : Int32) := a
    exact Or.inr ⟨k0 h, fun z => c_ne a (by rw [es]; exact z.1)⟩
