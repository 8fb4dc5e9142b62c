def pv (lo : Nat → Int32) (b l : Nat) : Nat → Nat
  | 0 => 0
  | m + 1 => if b ≤ m ∧ (lo m).toInt = (l : Int) then m else pv lo b l m
theorem pv_s {lo : Nat → Int32} {b l m : Nat} (h : b ≤ m) (e : (lo m).toInt = (l : Int)) : pv lo b l (m + 1) = m := if_pos ⟨h, e⟩
theorem pv_n {lo : Nat → Int32} {b l m : Nat} (e : ¬ (lo m).toInt = (l : Int)) : pv lo b l (m + 1) = pv lo b l m := if_neg (fun q => e q.2)
theorem pv_b {lo : Nat → Int32} {b l : Nat} : ∀ {m : Nat}, pv lo b l m = 0 ∨ (b ≤ pv lo b l m ∧ pv lo b l m < m ∧ (lo (pv lo b l m)).toInt = (l : Int))
  | 0 => Or.inl rfl
  | m + 1 => by
    by_cases c : b ≤ m ∧ (lo m).toInt = (l : Int)
    · have e : pv lo b l (m + 1) = m := if_pos c
      rw [e]; exact Or.inr ⟨c.1, by omega, c.2⟩
    · have e : pv lo b l (m + 1) = pv lo b l m := if_neg c
      rw [e]
      rcases pv_b (lo := lo) (b := b) (l := l) (m := m) with q | q
      · exact Or.inl q
      · exact Or.inr ⟨q.1, by omega, q.2.2⟩
theorem pv_g {lo : Nat → Int32} {b l : Nat} : ∀ {m g : Nat}, b ≤ g → g < m → (lo g).toInt = (l : Int) → g ≤ pv lo b l m
  | 0, g, _, h, _ => absurd h (Nat.not_lt_zero g)
  | m + 1, g, h1, h2, h3 => by
    by_cases c : b ≤ m ∧ (lo m).toInt = (l : Int)
    · have e : pv lo b l (m + 1) = m := if_pos c
      rw [e]; omega
    · have e : pv lo b l (m + 1) = pv lo b l m := if_neg c
      rw [e]
      by_cases eg : g = m
      · rw [eg] at h1 h3; exact absurd ⟨h1, h3⟩ c
      · exact pv_g h1 (by omega) h3
theorem pv_c {lo lo2 : Nat → Int32} {b l : Nat} : ∀ {m : Nat}, (∀ i : Nat, i < m → lo2 i = lo i) → pv lo2 b l m = pv lo b l m
  | 0, _ => rfl
  | m + 1, h => by
    show (if b ≤ m ∧ (lo2 m).toInt = (l : Int) then m else pv lo2 b l m) = (if b ≤ m ∧ (lo m).toInt = (l : Int) then m else pv lo b l m)
    rw [h m (by omega), pv_c (m := m) (fun i hi => h i (by omega))]
def Chi (b n : Nat) (gr : cf_O) : Prop := (∀ l : Nat, l < 418 → (gr.2.1 8 l).toInt = (pv (gr.2.1 4) b l (b + n) : Int)) ∧ ∀ g : Nat, b ≤ g → g < b + n → (gr.2.1 9 g).toInt = (pv (gr.2.1 4) b (gr.2.1 4 g).toInt.toNat g : Int)
def Rg (b n : Nat) (gr om : cf_O) : Prop := ((om.1 31).toInt = (n : Int) ∧ (gr.1 2).toInt = (n : Int) ∧ (om.1 37).toInt = (b : Int) ∧ (gr.1 0).toInt + 1 = (b : Int) ∧ n ≤ 200 ∧ 1 ≤ b ∧ b ≤ 9) ∧ (∀ g : Nat, g < n → om.2.1 32 g = gr.2.1 4 (b + g) ∧ om.2.1 33 g = gr.2.1 5 (b + g)) ∧ (∀ k : Nat, k < b + n → om.2.1 34 k = gr.2.1 6 k ∧ 0 ≤ (gr.2.1 6 k).toInt ∧ (gr.2.1 6 k).toInt ≤ (n : Int)) ∧ om.1 36 = gr.1 3 ∧ Chi b n gr ∧ (∀ g : Nat, g < n → 0 ≤ (gr.2.1 4 (b + g)).toInt ∧ (gr.2.1 4 (b + g)).toInt < 2 * (b + n : Int)) ∧ (∀ g k : Nat, g < n → k < n → gr.2.1 4 (b + g) = gr.2.1 4 (b + k) → gr.2.1 5 (b + g) = gr.2.1 5 (b + k) → g = k)
theorem there_go {b n l : Nat} {gr : cf_O} {y : Int32} (C : Chi b n gr) (b1 : 1 ≤ b) (n2 : n ≤ 200) (b9 : b ≤ 9) (hl : l < 418) : ∀ (fuel : Nat) (v3 v4 r : Int32), 0 ≤ v4.toInt → (v3.toInt = 0 ∨ ((b : Int) ≤ v3.toInt ∧ v3.toInt + v4.toInt < ((b + n : Nat) : Int) ∧ (gr.2.1 4 v3.toInt.toNat).toInt = (l : Int))) → 0 ≤ v3.toInt → (∀ g : Nat, b ≤ g → g < b + n → (gr.2.1 4 g).toInt = (l : Int) → gr.2.1 5 g = y → (g : Int) ≤ v3.toInt) → gGr_gateThere fuel 0 y v3 v4 gr = some r → (¬ r = 0 ∧ (b : Int) ≤ r.toInt ∧ r.toInt < ((b + n : Nat) : Int) ∧ (gr.2.1 4 r.toInt.toNat).toInt = (l : Int) ∧ gr.2.1 5 r.toInt.toNat = y) ∨ (r = 0 ∧ ∀ g : Nat, b ≤ g → g < b + n → (gr.2.1 4 g).toInt = (l : Int) → ¬ gr.2.1 5 g = y)
  | 0, v3, v4, r, h4, h3, h30, hg, h => by cases h
  | fuel + 1, v3, v4, r, h4, h3, h30, hg, h => by
    have no : v3 = 0 → some v3 = some r → (¬ r = 0 ∧ (b : Int) ≤ r.toInt ∧ r.toInt < ((b + n : Nat) : Int) ∧ (gr.2.1 4 r.toInt.toNat).toInt = (l : Int) ∧ gr.2.1 5 r.toInt.toNat = y) ∨ (r = 0 ∧ ∀ g : Nat, b ≤ g → g < b + n → (gr.2.1 4 g).toInt = (l : Int) → ¬ gr.2.1 5 g = y) := fun e h => by
      have er : r = 0 := by rw [← Option.some.inj h]; exact e
      refine Or.inr ⟨er, fun g g1 g2 g3 g4 => ?_⟩
      have u := hg g g1 g2 g3 g4
      rw [e, show (0 : Int32).toInt = 0 from rfl] at u; omega
    rcases ifc h with ⟨a, h⟩ | ⟨a, h⟩
    · have a : 200 ≤ v4.toInt := c_le a
      have e0 : v3.toInt = 0 := by
        rcases h3 with q | q
        · exact q
        · omega
      exact no (Int32.toInt_inj.mp e0) h
    have a : v4.toInt < 200 := c_nle a
    rcases ifc h with ⟨c, h⟩ | ⟨c, h⟩
    · exact no c h
    have c : ¬ v3.toInt = 0 := fun z => c (Int32.toInt_inj.mp z)
    obtain ⟨q1, q2, q3⟩ := h3.resolve_left c
    have vi : v3.toNatClampNeg = v3.toInt.toNat := by have := tn_n v3; omega
    have h := (ifn h).2
    rw [vi] at h
    rcases ifc h with ⟨d, h⟩ | ⟨d, h⟩
    · have er : r = v3 := (Option.some.inj h).symm
      rw [er]
      exact Or.inl ⟨fun z => c (by rw [z]; rfl), q1, by omega, q3, d⟩
    · have h := (ifn h).2
      have e4 := p_1 (v := v4) h4 (by omega)
      have ec := C.2 v3.toInt.toNat (by omega) (by omega)
      rw [q3, show ((l : Int)).toNat = l from Int.toNat_natCast l] at ec
      have pb := pv_b (lo := gr.2.1 4) (b := b) (l := l) (m := v3.toInt.toNat)
      refine there_go C b1 n2 b9 hl fuel (gr.2.1 9 v3.toInt.toNat) (v4 + 1) r (by omega) ?_ (by rw [ec]; omega) (fun g g1 g2 g3 g4 => ?_) h
      · rw [ec]
        rcases pb with u | u
        · left; omega
        · right
          refine ⟨by omega, by omega, ?_⟩
          rw [show ((pv (gr.2.1 4) b l v3.toInt.toNat : Nat) : Int).toNat = pv (gr.2.1 4) b l v3.toInt.toNat from Int.toNat_natCast _]
          exact u.2.2
      · have u := hg g g1 g2 g3 g4
        have ne : ¬ g = v3.toInt.toNat := fun z => d (by rw [← z]; exact g4)
        have w := pv_g (m := v3.toInt.toNat) g1 (by omega) g3
        rw [ec]; omega
theorem there_sp {b n : Nat} {gr om : cf_O} {x y r : Int32} (R : Rg b n gr om) (x0 : 0 ≤ x.toInt) (x1 : x.toInt < 418) (h : fGr_gateThere x y gr = some r) : (∃ g : Nat, g < n ∧ r.toInt = ((b + g : Nat) : Int) ∧ ¬ r = 0 ∧ gr.2.1 4 (b + g) = x ∧ gr.2.1 5 (b + g) = y) ∨ (r = 0 ∧ ∀ g : Nat, g < n → gr.2.1 4 (b + g) = x → ¬ gr.2.1 5 (b + g) = y) := by
  obtain ⟨⟨-, -, -, -, n2, b1, b9⟩, -, -, -, C, -, -⟩ := R
  have xi : x.toNatClampNeg = x.toInt.toNat := by have := tn_n x; omega
  have h := (ifn h).2
  rw [xi] at h
  have ec := C.1 x.toInt.toNat (by omega)
  have pb := pv_b (lo := gr.2.1 4) (b := b) (l := x.toInt.toNat) (m := b + n)
  have z0 : (0 : Int32).toInt = 0 := rfl
  have key := there_go (y := y) C b1 n2 b9 (l := x.toInt.toNat) (by omega) cfFU (gr.2.1 8 x.toInt.toNat) 0 r (by decide) (by
    rw [ec, z0]
    rcases pb with u | u
    · left; omega
    · right
      refine ⟨by omega, by omega, ?_⟩
      rw [show ((pv (gr.2.1 4) b x.toInt.toNat (b + n) : Nat) : Int).toNat = pv (gr.2.1 4) b x.toInt.toNat (b + n) from Int.toNat_natCast _]
      exact u.2.2) (by rw [ec]; omega) (fun g g1 g2 g3 g4 => by
    have w := pv_g (m := b + n) g1 g2 g3
    rw [ec]; omega) h
  rcases key with ⟨k1, k2, k3, k4, k5⟩ | ⟨k1, k2⟩
  · refine Or.inl ⟨r.toInt.toNat - b, by omega, by omega, k1, ?_, ?_⟩
    · rw [show b + (r.toInt.toNat - b) = r.toInt.toNat from by omega]
      exact Int32.toInt_inj.mp (by rw [k4]; omega)
    · rw [show b + (r.toInt.toNat - b) = r.toInt.toNat from by omega]; exact k5
  · refine Or.inr ⟨k1, fun g hg e1 => k2 (b + g) (by omega) (by omega) ?_⟩
    rw [e1]; omega
def NwM (om : cf_O) (X Y : Int32) (rm : Int32 × cf_O) : Prop := ((om.1 31).toInt = 200 ∧ rm = (0, fp om 36 1)) ∨ (¬ (om.1 31).toInt = 200 ∧ ∃ lv : Int32, lv.toInt = max (om.2.1 34 (X.toInt.toNat / 2)).toInt (om.2.1 34 (Y.toInt.toNat / 2)).toInt ∧ rm = (2 * (((om.1 37) + ((om.1 31) + 1)) - 1), fp (xp (xp (xp om 32 (om.1 31).toNatClampNeg X) 33 (om.1 31).toNatClampNeg Y) 34 ((om.1 37) + (om.1 31)).toNatClampNeg (lv + 1)) 31 ((om.1 31) + 1)))
theorem hf_i {x : Int32} (h : 0 ≤ x.toInt) : (x / 2).toNatClampNeg = x.toInt.toNat / 2 := by
  have e : (x / 2).toInt = x.toInt / 2 := i_dv (y := 2) h (by decide)
  have := tn_n (x / 2)
  omega
theorem sr_i {x : Int32} (h : 0 ≤ x.toInt) : (x >>> ((1 : Int32) &&& 31)).toNatClampNeg = x.toInt.toNat / 2 := by
  have e := i_s1 h
  have := tn_n (x >>> ((1 : Int32) &&& 31))
  omega
theorem and_go {om : cf_O} {n : Nat} {X Y : Int32} (en : (om.1 31).toInt = (n : Int)) (n2 : n ≤ 200) (x0 : 0 ≤ X.toInt) (y0 : 0 ≤ Y.toInt) : ∀ (fuel : Nat) (v5 : Int32) (rm : Int32 × cf_O), 0 ≤ v5.toInt → v5.toInt ≤ (n : Int) → (∀ g : Nat, (g : Int) < v5.toInt → om.2.1 32 g = X → ¬ om.2.1 33 g = Y) → gM_and fuel 0 X Y v5 om = some rm → (∃ (g : Nat) (v : Int32), g < n ∧ v.toInt = (g : Int) ∧ om.2.1 32 g = X ∧ om.2.1 33 g = Y ∧ rm = (2 * ((om.1 37) + v), om)) ∨ ((∀ g : Nat, g < n → om.2.1 32 g = X → ¬ om.2.1 33 g = Y) ∧ NwM om X Y rm)
  | 0, v5, rm, h0, h1, hg, h => by cases h
  | fuel + 1, v5, rm, h0, h1, hg, h => by
    rcases ifc h with ⟨a, h⟩ | ⟨a, h⟩
    · have a := c_le a
      refine Or.inr ⟨fun g q => hg g (by omega), ?_⟩
      rcases ifc h with ⟨c, h⟩ | ⟨c, h⟩
      · have c : (om.1 31).toInt = 200 := c_eq c
        exact Or.inl ⟨c, (Option.some.inj h).symm⟩
      · have c : ¬ (om.1 31).toInt = 200 := c_ne c
        have h := (ifn h).2
        have h := (ifn h).2
        rw [hf_i x0, hf_i y0] at h
        have fin : ∀ lv : Int32, lv.toInt = max (om.2.1 34 (X.toInt.toNat / 2)).toInt (om.2.1 34 (Y.toInt.toNat / 2)).toInt → fM_and_161 (gM_and fuel) X Y lv om = some rm → NwM om X Y rm := fun lv el h => by
          have h := (ifn h).2
          have h := (ifn h).2
          have h := (ifn h).2
          exact Or.inr ⟨c, lv, el, (Option.some.inj h).symm⟩
        rcases ifc h with ⟨d, h⟩ | ⟨d, h⟩
        · have d := c_le d
          have h := (ifn h).2
          exact fin _ (by rw [hf_i y0]; omega) h
        · have d := c_nle d
          have h := (ifn h).2
          exact fin _ (by rw [hf_i x0]; omega) h
    · have a := c_nle a
      have e5 := p_1 (v := v5) h0 (by omega)
      have vi : v5.toNatClampNeg = v5.toInt.toNat := by have := tn_n v5; omega
      have h := (ifn h).2
      rw [vi] at h
      have nx : (om.2.1 32 v5.toInt.toNat = X → ¬ om.2.1 33 v5.toInt.toNat = Y) → fM_and_98 (gM_and fuel) X Y v5 om = some rm → (∃ (g : Nat) (v : Int32), g < n ∧ v.toInt = (g : Int) ∧ om.2.1 32 g = X ∧ om.2.1 33 g = Y ∧ rm = (2 * ((om.1 37) + v), om)) ∨ ((∀ g : Nat, g < n → om.2.1 32 g = X → ¬ om.2.1 33 g = Y) ∧ NwM om X Y rm) := fun q h => by
        refine and_go en n2 x0 y0 fuel (v5 + 1) rm (by omega) (by omega) (fun g q1 => ?_) h
        by_cases eg : g = v5.toInt.toNat
        · rw [eg]; exact q
        · exact hg g (by omega)
      rcases ifc h with ⟨c, h⟩ | ⟨c, h⟩
      · have h := (ifn h).2
        rcases ifc h with ⟨d, h⟩ | ⟨d, h⟩
        · exact Or.inl ⟨v5.toInt.toNat, v5, by omega, by omega, c, d, (Option.some.inj h).symm⟩
        · exact nx (fun _ => d) h
      · exact nx (fun q => absurd q c) h
def AnC (b n : Nat) (gr om : cf_O) (rg rm : Int32 × cf_O) : Prop := rg.1 = rm.1 ∧ ∃ n' : Nat, n ≤ n' ∧ Rg b n' rg.2 rm.2 ∧ 0 ≤ rm.1.toInt ∧ rm.1.toInt < 2 * ((b + n' : Nat) : Int) ∧ Fr (fr_M [31, 36] [32, 33, 34] []) om rm.2 ∧ Fr (fr_M [2, 3] [4, 5, 6, 8, 9] []) gr rg.2 ∧ ∀ k : Nat, k < b + n → rg.2.2.1 4 k = gr.2.1 4 k ∧ rg.2.2.1 5 k = gr.2.1 5 k ∧ rg.2.2.1 6 k = gr.2.1 6 k
theorem AnC_s {b n : Nat} {gr om : cf_O} {rg rm : Int32 × cf_O} (R : Rg b n gr om) {x : Int32} (x0 : 0 ≤ x.toInt) (x1 : x.toInt < 2 * ((b + n : Nat) : Int)) (e1 : rg = (x, gr)) (e2 : rm = (x, om)) : AnC b n gr om rg rm := by
  subst e1; subst e2
  exact ⟨rfl, n, Nat.le_refl n, R, x0, x1, fr_rfl, fr_rfl, fun _ _ => ⟨rfl, rfl, rfl⟩⟩
theorem eq_and {b n : Nat} {v1 v2 : Int32} {gr om : cf_O} {rg rm : Int32 × cf_O} (R : Rg b n gr om) (x0 : 0 ≤ v1.toInt) (x1 : v1.toInt < 2 * ((b + n : Nat) : Int)) (y0 : 0 ≤ v2.toInt) (y1 : v2.toInt < 2 * ((b + n : Nat) : Int)) (h1 : fGr_and v1 v2 gr = some rg) (h2 : fM_and v1 v2 om = some rm) : AnC b n gr om rg rm := by
  have R0 := R
  obtain ⟨⟨r1, r2, r3, r4, r5, r6, r7⟩, R2, R3, R4, R5, R6, R7⟩ := R
  have em := mn_n v1 v2
  have ex := mx_n v1 v2
  have h2 : fM_and_21 (gM_and cfFU) (op_mn v1 v2) (op_mx v1 v2) om = some rm := by
    rcases ifc h2 with ⟨c, h⟩ | ⟨c, h⟩
    · have c' := c_le c
      rcases ifc h with ⟨_, h⟩ | ⟨d, _⟩
      · rw [show op_mn v1 v2 = v2 from Int32.toInt_inj.mp (by omega), show op_mx v1 v2 = v1 from Int32.toInt_inj.mp (by omega)]; exact h
      · exact absurd c d
    · have c' := c_nle c
      rcases ifc h with ⟨d, _⟩ | ⟨_, h⟩
      · exact absurd d c
      · rw [show op_mn v1 v2 = v1 from Int32.toInt_inj.mp (by omega), show op_mx v1 v2 = v2 from Int32.toInt_inj.mp (by omega)]; exact h
  have X0 : 0 ≤ (op_mn v1 v2).toInt := by omega
  have X1 : (op_mn v1 v2).toInt < 2 * ((b + n : Nat) : Int) := by omega
  have Y0 : 0 ≤ (op_mx v1 v2).toInt := by omega
  have Y1 : (op_mx v1 v2).toInt < 2 * ((b + n : Nat) : Int) := by omega
  have XY : (op_mn v1 v2).toInt ≤ (op_mx v1 v2).toInt := by omega
  have h1 : (if op_mn v1 v2 = (0 : Int32) then fGr_and_23 (op_mn v1 v2) gr else (if op_mn v1 v2 = op_mx v1 v2 then fGr_and_23 (op_mn v1 v2) gr else (if op_mn v1 v2 = (1 : Int32) then some (op_mx v1 v2, gr) else (if (op_mn v1 v2) ^^^ 1 = op_mx v1 v2 then some ((0 : Int32), gr) else Option.bind (fGr_gateThere (op_mn v1 v2) (op_mx v1 v2) gr) (fun q_8 => (if q_8 = (0 : Int32) then Option.bind (fGr_newGate (op_mn v1 v2) (op_mx v1 v2) gr) (fun q_12 => fGr_and_70 2 q_12.1 q_12.2) else fGr_and_70 2 q_8 gr)))))) = some rg := h1
  generalize op_mn v1 v2 = X at h1 h2 X0 X1 XY
  generalize op_mx v1 v2 = Y at h1 h2 Y0 Y1 XY
  rcases ifc h1 with ⟨a, h1⟩ | ⟨a, h1⟩
  · rcases ifc h2 with ⟨_, h2⟩ | ⟨a', _⟩
    · exact AnC_s R0 X0 X1 (Option.some.inj h1).symm (Option.some.inj h2).symm
    · exact absurd a a'
  rcases ifc h2 with ⟨a', _⟩ | ⟨_, h2⟩
  · exact absurd a' a
  rcases ifc h1 with ⟨c, h1⟩ | ⟨c, h1⟩
  · rcases ifc h2 with ⟨_, h2⟩ | ⟨c', _⟩
    · exact AnC_s R0 X0 X1 (Option.some.inj h1).symm (Option.some.inj h2).symm
    · exact absurd c c'
  rcases ifc h2 with ⟨c', _⟩ | ⟨_, h2⟩
  · exact absurd c' c
  rcases ifc h1 with ⟨d, h1⟩ | ⟨d, h1⟩
  · rcases ifc h2 with ⟨_, h2⟩ | ⟨d', _⟩
    · exact AnC_s R0 Y0 Y1 (Option.some.inj h1).symm (Option.some.inj h2).symm
    · exact absurd d d'
  rcases ifc h2 with ⟨d', _⟩ | ⟨_, h2⟩
  · exact absurd d' d
  rcases ifc h1 with ⟨e, h1⟩ | ⟨e, h1⟩
  · rcases ifc h2 with ⟨_, h2⟩ | ⟨e', _⟩
    · exact AnC_s R0 (x := 0) (by decide) (by rw [show (0 : Int32).toInt = 0 from rfl]; omega) (Option.some.inj h1).symm (Option.some.inj h2).symm
    · exact absurd e e'
  rcases ifc h2 with ⟨e', _⟩ | ⟨_, h2⟩
  · exact absurd e' e
  have z0 : (0 : Int32).toInt = 0 := rfl
  have A := and_go (X := X) (Y := Y) r1 r5 X0 Y0 cfFU 0 rm (by decide) (by rw [z0]; omega) (fun g q => absurd q (by rw [z0]; omega)) h2
  obtain ⟨q, hq, h1⟩ := bd h1
  have T := there_sp R0 X0 (by omega) hq
  have sm : ∀ g : Nat, g < n → om.2.1 32 g = gr.2.1 4 (b + g) ∧ om.2.1 33 g = gr.2.1 5 (b + g) := R2
  rcases T with ⟨g, t1, t2, t3, t4, t5⟩ | ⟨t1, t2⟩
  · rcases ifc h1 with ⟨y, _⟩ | ⟨_, h1⟩
    · exact absurd y t3
    rcases A with ⟨k, v, a1, a2, a3, a4, a5⟩ | ⟨a1, _⟩
    · have ek : k = g := R7 k g a1 t1 (by rw [← (sm k a1).1, a3, t4]) (by rw [← (sm k a1).2, a4, t5])
      subst ek
      have e7 : ((om.1 37) + v).toInt = ((b + k : Nat) : Int) := by rw [i_add' (by omega) (by omega) (by omega) (by omega), r3, a2]; omega
      have eq7 : (om.1 37) + v = q := Int32.toInt_inj.mp (by rw [e7, t2])
      rw [eq7] at a5
      have e2 : (2 * q).toInt = 2 * ((b + k : Nat) : Int) := by rw [Int32.toInt_mul, t2, i_bm (by rw [show (2 : Int32).toInt = 2 from rfl]; omega) (by rw [show (2 : Int32).toInt = 2 from rfl]; omega)]; rfl
      exact AnC_s R0 (x := 2 * q) (by omega) (by omega) (Option.some.inj h1).symm a5
    · exact absurd (by rw [(sm g t1).2]; exact t5) (a1 g t1 (by rw [(sm g t1).1]; exact t4))
  · have h1 := ift h1 t1
    rcases A with ⟨k, v, a1, a2, a3, a4, a5⟩ | ⟨_, A⟩
    · exact absurd (by rw [← (sm k a1).2]; exact a4) (t2 k a1 (by rw [← (sm k a1).1]; exact a3))
    obtain ⟨w, hw, h1⟩ := bd h1
    have h1 : some ((2 : Int32) * w.1, w.2) = some rg := h1
    rw [← Option.some.inj h1]
    rcases ifc hw with ⟨c2, hw⟩ | ⟨c2, hw⟩
    · -- no room
      have c2 : (gr.1 2).toInt = 200 := c_eq c2
      have ew : w = ((0 : Int32), fp gr 3 1) := (Option.some.inj hw).symm
      subst ew
      rcases A with ⟨_, A⟩ | ⟨A, _⟩
      · subst A
        refine ⟨rfl, n, Nat.le_refl n, ⟨⟨r1, r2, r3, r4, r5, r6, r7⟩, R2, R3, rfl, R5, R6, R7⟩, (by show 0 ≤ (0 : Int32).toInt; decide), by show (0 : Int32).toInt < _; rw [z0]; omega, fr_fp fr_rfl rfl, fr_fp fr_rfl rfl, fun _ _ => ⟨rfl, rfl, rfl⟩⟩
      · omega
    · have c2 : ¬ (gr.1 2).toInt = 200 := c_ne c2
      rcases A with ⟨A, _⟩ | ⟨_, lv, el, A⟩
      · omega
      obtain ⟨s, hs, hw⟩ := bd hw
      have es : s.toInt = ((b + n : Nat) : Int) := by
        have hs : some (1 + (gr.1 0) + (gr.1 2)) = some s := hs
        rw [← Option.some.inj hs]
        have e1 : (1 + (gr.1 0)).toInt = (b : Int) := by rw [i_add' (by decide) (by decide) (by omega) (by omega), show (1 : Int32).toInt = 1 from rfl]; omega
        rw [i_add' (by omega) (by omega) (by omega) (by omega), e1, r2]; omega
      have si : s.toNatClampNeg = b + n := by have := tn_n s; omega
      have Xi : X.toNatClampNeg = X.toInt.toNat := by have := tn_n X; omega
      have hw := (ifn hw).2
      have hw := (ifn hw).2
      have hw := (ifn hw).2
      have hw := (ifn hw).2
      have hw := (ifn hw).2
      have hw := (ifn hw).2
      have hw := (ifn hw).2
      have hw : some (s, xp (xp (xp (xp (xp (fp gr 2 ((gr.1 2) + 1)) 4 s.toNatClampNeg X) 5 s.toNatClampNeg Y) 6 s.toNatClampNeg (1 + op_mx (gr.2.1 6 (X >>> ((1 : Int32) &&& 31)).toNatClampNeg) (gr.2.1 6 (Y >>> ((1 : Int32) &&& 31)).toNatClampNeg))) 9 s.toNatClampNeg (gr.2.1 8 X.toNatClampNeg)) 8 X.toNatClampNeg s) = some w := (ifn hw).2
      rw [si, Xi, sr_i X0, sr_i Y0] at hw
      have ew := (Option.some.inj hw).symm
      subst ew
      have ni : (om.1 31).toNatClampNeg = n := by have := tn_n (om.1 31); omega
      have e37 : ((om.1 37) + (om.1 31)).toInt = ((b + n : Nat) : Int) := by rw [i_add' (by omega) (by omega) (by omega) (by omega), r3, r1]; omega
      have n37 : ((om.1 37) + (om.1 31)).toNatClampNeg = b + n := by have := tn_n ((om.1 37) + (om.1 31)); omega
      have e31 : ((om.1 31) + 1).toInt = (n : Int) + 1 := by rw [p_1 (by omega) (by omega), r1]
      have e38 : ((om.1 37) + ((om.1 31) + 1)).toInt = ((b + n : Nat) : Int) + 1 := by rw [i_add' (by omega) (by omega) (by omega) (by omega), r3, e31]; omega
      have e39 : (((om.1 37) + ((om.1 31) + 1)) - 1).toInt = ((b + n : Nat) : Int) := by rw [i_sub' (by omega) (by omega) (by decide) (by decide), e38, show (1 : Int32).toInt = 1 from rfl]; omega
      rw [ni, n37] at A
      subst A
      have eS : ((om.1 37) + ((om.1 31) + 1)) - 1 = s := Int32.toInt_inj.mp (by rw [e39, es])
      have e2 : (2 * s).toInt = 2 * ((b + n : Nat) : Int) := by rw [Int32.toInt_mul, es, i_bm (by rw [show (2 : Int32).toInt = 2 from rfl]; omega) (by rw [show (2 : Int32).toInt = 2 from rfl]; omega)]; rfl
      have hx2 : X.toInt.toNat / 2 < b + n := by omega
      have hy2 : Y.toInt.toNat / 2 < b + n := by omega
      have lx := R3 _ hx2
      have ly := R3 _ hy2
      have elv : lv.toInt = max (gr.2.1 6 (X.toInt.toNat / 2)).toInt (gr.2.1 6 (Y.toInt.toNat / 2)).toInt := by rw [el, lx.1, ly.1]
      have em6 := mx_n (gr.2.1 6 (X.toInt.toNat / 2)) (gr.2.1 6 (Y.toInt.toNat / 2))
      have n1 : n < 200 := by omega
      have l1 : (lv + 1).toInt = lv.toInt + 1 := p_1 (by omega) (by omega)
      have m1 : (1 + op_mx (gr.2.1 6 (X.toInt.toNat / 2)) (gr.2.1 6 (Y.toInt.toNat / 2))).toInt = 1 + (op_mx (gr.2.1 6 (X.toInt.toNat / 2)) (gr.2.1 6 (Y.toInt.toNat / 2))).toInt := by rw [i_add' (by decide) (by decide) (by omega) (by omega)]; rfl
      have bn : b + (n + 1) = (b + n) + 1 := rfl
      have lo : ∀ i : Nat, i < b + n → upd (gr.2.1 4) (b + n) X i = gr.2.1 4 i := fun i hi => up_o (by omega)
      refine ⟨by show 2 * s = 2 * (((om.1 37) + ((om.1 31) + 1)) - 1); rw [eS], n + 1, by omega, ⟨⟨?_, ?_, r3, r4, by omega, r6, r7⟩, fun g hg => ?_, fun k hk => ?_, R4, ⟨fun l hl => ?_, fun g g1 g2 => ?_⟩, fun g hg => ?_, fun g k hg hk u1 u2 => ?_⟩, ?_, ?_, fr_fp (fr_xp (fr_xp (fr_xp fr_rfl rfl) rfl) rfl) rfl, fr_xp (fr_xp (fr_xp (fr_xp (fr_xp (fr_fp fr_rfl rfl) rfl) rfl) rfl) rfl) rfl, fun k hk => ⟨?_, ?_, ?_⟩⟩
      · show ((om.1 31) + 1).toInt = _
        rw [e31]; omega
      · show ((gr.1 2) + 1).toInt = _
        rw [p_1 (by omega) (by omega), r2]; omega
      · show upd (om.2.1 32) n X g = upd (gr.2.1 4) (b + n) X (b + g) ∧ upd (om.2.1 33) n Y g = upd (gr.2.1 5) (b + n) Y (b + g)
        by_cases e : g = n
        · rw [e, up_s, up_s, up_s, up_s]; exact ⟨rfl, rfl⟩
        · have ne : ¬ b + g = b + n := by omega
          rw [up_o e, up_o e, up_o ne, up_o ne]; exact R2 g (by omega)
      · show upd (om.2.1 34) (b + n) (lv + 1) k = upd (gr.2.1 6) (b + n) (1 + op_mx (gr.2.1 6 (X.toInt.toNat / 2)) (gr.2.1 6 (Y.toInt.toNat / 2))) k ∧ 0 ≤ (upd (gr.2.1 6) (b + n) (1 + op_mx (gr.2.1 6 (X.toInt.toNat / 2)) (gr.2.1 6 (Y.toInt.toNat / 2))) k).toInt ∧ (upd (gr.2.1 6) (b + n) (1 + op_mx (gr.2.1 6 (X.toInt.toNat / 2)) (gr.2.1 6 (Y.toInt.toNat / 2))) k).toInt ≤ ((n + 1 : Nat) : Int)
        by_cases e : k = b + n
        · rw [e, up_s, up_s]
          exact ⟨Int32.toInt_inj.mp (by omega), by omega, by omega⟩
        · rw [up_o e, up_o e]
          have z := R3 k (by omega)
          exact ⟨z.1, z.2.1, by omega⟩
      · show (upd (gr.2.1 8) X.toInt.toNat s l).toInt = (pv (upd (gr.2.1 4) (b + n) X) b l ((b + n) + 1) : Int)
        by_cases e : l = X.toInt.toNat
        · rw [e, up_s, pv_s (by omega) (by rw [up_s]; omega), es]
        · rw [up_o e, pv_n (by rw [up_s]; omega), pv_c lo]
          exact R5.1 l hl
      · show (upd (gr.2.1 9) (b + n) (gr.2.1 8 X.toInt.toNat) g).toInt = (pv (upd (gr.2.1 4) (b + n) X) b (upd (gr.2.1 4) (b + n) X g).toInt.toNat g : Int)
        by_cases e : g = b + n
        · rw [e, up_s, up_s, pv_c lo]
          exact R5.1 _ (by omega)
        · rw [up_o e, up_o e, pv_c (fun i hi => lo i (by omega))]
          exact R5.2 g g1 (by omega)
      · show 0 ≤ (upd (gr.2.1 4) (b + n) X (b + g)).toInt ∧ (upd (gr.2.1 4) (b + n) X (b + g)).toInt < 2 * ((b : Int) + ((n + 1 : Nat) : Int))
        by_cases e : g = n
        · rw [e, up_s]; exact ⟨X0, by omega⟩
        · have ne : ¬ b + g = b + n := by omega
          rw [up_o ne]
          have z := R6 g (by omega)
          exact ⟨z.1, by omega⟩
      · have u1 : upd (gr.2.1 4) (b + n) X (b + g) = upd (gr.2.1 4) (b + n) X (b + k) := u1
        have u2 : upd (gr.2.1 5) (b + n) Y (b + g) = upd (gr.2.1 5) (b + n) Y (b + k) := u2
        by_cases eg : g = n
        · by_cases ek : k = n
          · rw [eg, ek]
          · exfalso
            have ne : ¬ b + k = b + n := by omega
            rw [eg, up_s, up_o ne] at u1 u2
            exact t2 k (by omega) u1.symm u2.symm
        · have ng : ¬ b + g = b + n := by omega
          by_cases ek : k = n
          · exfalso
            rw [ek, up_s, up_o ng] at u1 u2
            exact t2 g (by omega) u1 u2
          · have nk : ¬ b + k = b + n := by omega
            rw [up_o ng, up_o nk] at u1 u2
            exact R7 g k (by omega) (by omega) u1 u2
      · show 0 ≤ (2 * (((om.1 37) + ((om.1 31) + 1)) - 1)).toInt
        rw [eS, e2]; omega
      · show (2 * (((om.1 37) + ((om.1 31) + 1)) - 1)).toInt < 2 * ((b + (n + 1) : Nat) : Int)
        rw [eS, e2]; omega
      · exact up_o (f := gr.2.1 4) (by omega)
      · exact up_o (f := gr.2.1 5) (by omega)
      · exact up_o (f := gr.2.1 6) (by omega)
