def AgP (V : Nat → Nat → Bool) (a c : Nat) (op : Int32) (i : Nat) : Prop := (op = 0 → V a i = V c i) ∧ (¬ op = 0 → ¬ V a i = V c i)
theorem ag_113 {rc : Nat → Int32 → Int32 → Int32 → Int32 → Int32 → Int32 → cf_O → Option Int32} {v1 v2 v3 v5 v6 s0 : Int32} {om : cf_O} : fM_agree_113 rc v1 v2 v3 v5 v6 s0 om = rc 0 v1 v2 v3 s0 v5 (v6 + 1) om := by
  unfold fM_agree_113
  rw [opk]
theorem ag_go {b n N a c : Nat} {V : Nat → Nat → Bool} {om : cf_O} {v1 v2 v3 v5 : Int32} (I : ReI b n N V om) (bn : b + n ≤ 209) (N9 : N ≤ 256) (ea : v1.toInt = (a : Int)) (ec : v2.toInt = (c : Int)) (ha : a < b + n) (hc : c < b + n) (e5 : v5.toInt = (N : Int)) : ∀ (fuel : Nat) (v4 v6 q : Int32), 0 ≤ v6.toInt → v6.toInt ≤ 4 → Yn v4 (∀ i : Nat, (i : Int) < 64 * v6.toInt → i < N → AgP V a c v3 i) → gM_agree fuel 0 v1 v2 v3 v4 v5 v6 om = some q → Yn q (∀ i : Nat, i < N → AgP V a c v3 i)
  | 0, v4, v6, q, h0, h4, Y, h => by cases h
  | fuel + 1, v4, v6, q, h0, h4, Y, h => by
    have h : fM_agree_14 (gM_agree fuel) v1 v2 v3 v4 v5 v6 om = some q := h
    unfold fM_agree_14 at h
    rcases ifc h with ⟨d, h⟩ | ⟨d, h⟩
    · have d : 4 ≤ v6.toInt := c_le d
      rw [b01_sp h]
      exact Yn_i Y ⟨fun z i hi => z i (by omega) hi, fun z i _ hi => z i hi⟩
    · have d : v6.toInt < 4 := c_nle d
      have p6 := p_1 (v := v6) h0 (by omega)
      have m1 : (64 * (v6 + 1)).toInt = 64 * (v6.toInt + 1) := by rw [Int32.toInt_mul, p6, i_bm (by rw [show (64 : Int32).toInt = 64 from rfl]; omega) (by rw [show (64 : Int32).toInt = 64 from rfl]; omega)]; rfl
      have m0 : (64 * v6).toInt = 64 * v6.toInt := by rw [Int32.toInt_mul, i_bm (by rw [show (64 : Int32).toInt = 64 from rfl]; omega) (by rw [show (64 : Int32).toInt = 64 from rfl]; omega)]; rfl
      have idx : ∀ (u : Int32) (k : Nat), u.toInt = (k : Int) → k < b + n → (4 * u + v6).toNatClampNeg = 4 * k + v6.toInt.toNat := fun u k eu hk => by
        have m4 : (4 * u).toInt = 4 * u.toInt := by rw [Int32.toInt_mul, i_bm (by rw [show (4 : Int32).toInt = 4 from rfl]; omega) (by rw [show (4 : Int32).toInt = 4 from rfl]; omega)]; rfl
        have m5 : (4 * u + v6).toInt = 4 * u.toInt + v6.toInt := by rw [Int32.toInt_add, m4, i_bm (by omega) (by omega)]
        have := tn_n (4 * u + v6)
        omega
      have ja := idx v1 a ea ha
      have jc := idx v2 c ec hc
      -- the flag behind this word
      have nx : ∀ s : Int32, Yn s (∀ i : Nat, (i : Int) < 64 * (v6 + 1).toInt → i < N → AgP V a c v3 i) → fM_agree_113 (gM_agree fuel) v1 v2 v3 v5 v6 s om = some q → Yn q (∀ i : Nat, i < N → AgP V a c v3 i) := fun s ys z => by
        rw [ag_113] at z
        exact ag_go I bn N9 ea ec ha hc e5 fuel s (v6 + 1) q (by omega) (by omega) ys z
      have cut : ∀ i : Nat, (i : Int) < 64 * (v6 + 1).toInt → (i : Int) < 64 * v6.toInt ∨ ∃ j : Nat, j < 64 ∧ i = 64 * v6.toInt.toNat + j := fun i hi => by
        by_cases l : (i : Int) < 64 * v6.toInt
        · exact Or.inl l
        · exact Or.inr ⟨i - 64 * v6.toInt.toNat, by omega, by omega⟩
      have k64 : ∀ m : Int64, (∀ j : Nat, j < 64 → tbq m j = decide (64 * v6.toInt.toNat + j < N)) → fM_agree_64 (gM_agree fuel) v1 v2 v3 v4 v5 v6 m om = some q → Yn q (∀ i : Nat, i < N → AgP V a c v3 i) := fun m hm z => by
        unfold fM_agree_64 at z
        rcases ifc z with ⟨f, z⟩ | ⟨f, z⟩
        · have ny := Yn_0 Y f
          exact nx 0 (Or.inr ⟨rfl, fun y => ny (fun i hi hN => y i (by omega) hN)⟩) z
        · have yy := Yn_1 Y f
          rw [opk, opk] at z
          have z := (ifn z).2
          rw [opk, opk, opk] at z
          have z := (ifn z).2
          rw [opk, opk, ja, jc] at z
          have xb : ∀ j : Nat, j < 64 → tbq (om.2.2 56 (4 * a + v6.toInt.toNat) ^^^ om.2.2 56 (4 * c + v6.toInt.toNat)) j = (decide (64 * v6.toInt.toNat + j < N) && (V a (64 * v6.toInt.toNat + j) ^^ V c (64 * v6.toInt.toNat + j))) := fun j hj => by
            rw [tb_xor, I a _ j ha (by omega) hj, I c _ j hc (by omega) hj]
            cases decide (64 * v6.toInt.toNat + j < N) <;> cases V a (64 * v6.toInt.toNat + j) <;> cases V c (64 * v6.toInt.toNat + j) <;> rfl
          have k104 : ∀ s : Int64, (om.2.2 56 (4 * a + v6.toInt.toNat) ^^^ om.2.2 56 (4 * c + v6.toInt.toNat) = s ↔ ∀ j : Nat, j < 64 → 64 * v6.toInt.toNat + j < N → AgP V a c v3 (64 * v6.toInt.toNat + j)) → fM_agree_104 (gM_agree fuel) v1 v2 v3 v5 v6 (om.2.2 56 (4 * a + v6.toInt.toNat) ^^^ om.2.2 56 (4 * c + v6.toInt.toNat)) s om = some q → Yn q (∀ i : Nat, i < N → AgP V a c v3 i) := fun s hs w => by
            unfold fM_agree_104 at w
            rw [opk] at w
            rcases ifc w with ⟨g, w⟩ | ⟨g, w⟩
            · have g := hs.mp ((lg_cmp_eq _ _).mp g)
              refine nx 1 (Or.inl ⟨rfl, fun i hi hN => ?_⟩) w
              rcases cut i hi with l | ⟨j, hj, ej⟩
              · exact yy i l hN
              · rw [ej]; exact g j hj (by omega)
            · refine nx 0 (Or.inr ⟨rfl, fun y => g ((lg_cmp_eq _ _).mpr (hs.mpr (fun j hj hN => y _ (by omega) hN)))⟩) w
          rcases ifc z with ⟨g, z⟩ | ⟨g, z⟩
          · refine k104 0 ⟨fun e j hj hN => ⟨fun _ => ?_, fun w => absurd g w⟩, fun w => tb_e (fun j hj => ?_)⟩ z
            · have y := xb j hj
              rw [e, tb_0, decide_eq_true hN] at y
              revert y
              cases V a (64 * v6.toInt.toNat + j) <;> cases V c (64 * v6.toInt.toNat + j) <;> intro y <;> first | rfl | cases y
            · rw [xb j hj, tb_0]
              by_cases hN : 64 * v6.toInt.toNat + j < N
              · rw [(w j hj hN).1 g]
                cases V c (64 * v6.toInt.toNat + j) <;> cases decide (64 * v6.toInt.toNat + j < N) <;> rfl
              · rw [decide_eq_false hN]; rfl
          · refine k104 m ⟨fun e j hj hN => ⟨fun w => absurd w g, fun _ => ?_⟩, fun w => tb_e (fun j hj => ?_)⟩ z
            · have y := xb j hj
              rw [e, hm j hj, decide_eq_true hN] at y
              revert y
              cases V a (64 * v6.toInt.toNat + j) <;> cases V c (64 * v6.toInt.toNat + j) <;> intro y <;> first | exact absurd y (by decide) | (intro u; exact absurd u (by decide))
            · rw [xb j hj, hm j hj]
              by_cases hN : 64 * v6.toInt.toNat + j < N
              · have u := (w j hj hN).2 g
                revert u
                rw [decide_eq_true hN]
                cases V a (64 * v6.toInt.toNat + j) <;> cases V c (64 * v6.toInt.toNat + j) <;> intro u <;> first | rfl | exact absurd rfl u
              · rw [decide_eq_false hN]; rfl
      rw [opk, opk] at h
      rcases ifc h with ⟨f, h⟩ | ⟨f, h⟩
      · have f := c_lt f
        rw [opk] at h
        rcases ifc h with ⟨g, h⟩ | ⟨g, h⟩
        · have g := c_le g
          refine k64 0 (fun j hj => ?_) h
          rw [tb_0, decide_eq_false (by omega)]
        · have g := c_nle g
          rw [opk, opk, opk, opk] at h
          have e9 : (v5 - 64 * v6).toInt = (N : Int) - 64 * v6.toInt := by rw [i_sub' (by omega) (by omega) (by omega) (by omega), e5, m0]
          have eo : v5 - 64 * v6 = Int32.ofNat (N - 64 * v6.toInt.toNat) := by
            rw [of_i (x := v5 - 64 * v6) (by omega)]; congr 1; omega
          refine k64 _ (fun j hj => ?_) h
          rw [eo, tb_k _ (by omega) j hj]
          by_cases l : j < N - 64 * v6.toInt.toNat
          · rw [decide_eq_true l, decide_eq_true (by omega)]
          · rw [decide_eq_false l, decide_eq_false (by omega)]
      · have f := c_nlt f
        refine k64 (-1) (fun j hj => ?_) h
        rw [tb_m j hj, decide_eq_true (by omega)]
theorem agree_sp {b n a c : Nat} {V : Nat → Nat → Bool} {gr om : cf_O} {v1 v2 v3 q : Int32} (G : GW b n gr) (R : RGq b n gr om) (I : ReI b n (2 ^ (b - 1)) V om) (ea : v1.toInt = (a : Int)) (ec : v2.toInt = (c : Int)) (ha : a < b + n) (hc : c < b + n) (h : fM_agree v1 v2 v3 om = some q) : Yn q (∀ i : Nat, i < 2 ^ (b - 1) → AgP V a c v3 i) := by
  have G0 := G.1
  have p2 : 2 ^ (b - 1) ≤ 256 := Nat.le_trans (Nat.pow_le_pow_right (by decide) (show b - 1 ≤ 8 by omega)) (by decide)
  unfold fM_agree fM_agree_0 at h
  rw [opk] at h
  exact ag_go I (by omega) p2 ea ec ha hc (rows_i R) cfFU 1 0 q (by decide) (by decide) (Or.inl ⟨rfl, fun i hi => absurd hi (by rw [show (0 : Int32).toInt = 0 from rfl]; omega)⟩) h
