theorem library_go {O : cf_O} {c : Nat} (ec : (O.1 82).toInt = (c : Int)) (c12 : c ≤ 12) : ∀ fuel : Nat,
    (∀ (v2 : Int32) (o : cf_O) (r : Int32 × cf_O), Fr (fr_M [] [83, 84] []) O o → 0 ≤ v2.toInt → v2.toInt ≤ 8 * (c : Int) → (∀ j : Nat, (j : Int) < v2.toInt → o.2.1 83 j = O.2.1 80 j) → gM_library fuel 0 v2 o = some r → r.1 = 0 ∧ Fr (fr_M [] [83, 84] []) O r.2 ∧ (∀ j : Nat, j < 8 * c → r.2.2.1 83 j = O.2.1 80 j) ∧ (∀ j : Nat, j < 4 * c → r.2.2.1 84 j = O.2.1 81 j)) ∧
    (∀ (v2 : Int32) (o : cf_O) (r : Int32 × cf_O), Fr (fr_M [] [83, 84] []) O o → 0 ≤ v2.toInt → v2.toInt ≤ 4 * (c : Int) → (∀ j : Nat, j < 8 * c → o.2.1 83 j = O.2.1 80 j) → (∀ j : Nat, (j : Int) < v2.toInt → o.2.1 84 j = O.2.1 81 j) → gM_library fuel 1 v2 o = some r → r.1 = 0 ∧ Fr (fr_M [] [83, 84] []) O r.2 ∧ (∀ j : Nat, j < 8 * c → r.2.2.1 83 j = O.2.1 80 j) ∧ (∀ j : Nat, j < 4 * c → r.2.2.1 84 j = O.2.1 81 j))
  | 0 => ⟨fun _ _ _ _ _ _ _ h => (by cases h), fun _ _ _ _ _ _ _ _ h => (by cases h)⟩
  | fuel + 1 => by
    obtain ⟨i0, i1⟩ := library_go ec c12 fuel
    have z0 : (0 : Int32).toInt = 0 := rfl
    refine ⟨?_, ?_⟩
    · intro v2 o r rO h0 h1 hj h
      have e82 : (o.1 82).toInt = (c : Int) := by rw [rO.1 82 rfl]; exact ec
      have m8 : (8 * (o.1 82)).toInt = 8 * (c : Int) := by rw [Int32.toInt_mul, e82, i_bm (by rw [show (8 : Int32).toInt = 8 from rfl]; omega) (by rw [show (8 : Int32).toInt = 8 from rfl]; omega)]; rfl
      rcases ifc h with ⟨a, h⟩ | ⟨a, h⟩
      · have a := c_le a
        exact i1 0 o r rO (by decide) (by rw [z0]; omega) (fun j q => hj j (by omega)) (fun j q => absurd q (by rw [z0]; omega)) h
      · have a := c_nle a
        have h := (ifn h).2
        have h := (ifn h).2
        have e2 := p_1 (v := v2) h0 (by omega)
        refine i0 (v2 + 1) _ r (fr_xp rO rfl) (by omega) (by omega) (fun j q => ?_) h
        show upd (o.2.1 83) v2.toNatClampNeg (o.2.1 80 v2.toNatClampNeg) j = _
        have vi := tn_n v2
        by_cases e : j = v2.toNatClampNeg
        · rw [e, up_s, rO.2.1 80 rfl]
        · rw [up_o e]; exact hj j (by omega)
    · intro v2 o r rO h0 h1 h8 hj h
      have e82 : (o.1 82).toInt = (c : Int) := by rw [rO.1 82 rfl]; exact ec
      have m4 : (4 * (o.1 82)).toInt = 4 * (c : Int) := by rw [Int32.toInt_mul, e82, i_bm (by rw [show (4 : Int32).toInt = 4 from rfl]; omega) (by rw [show (4 : Int32).toInt = 4 from rfl]; omega)]; rfl
      rcases ifc h with ⟨a, h⟩ | ⟨a, h⟩
      · have a := c_le a
        rw [← Option.some.inj h]
        exact ⟨rfl, rO, h8, fun j q => hj j (by omega)⟩
      · have a := c_nle a
        have h := (ifn h).2
        have h := (ifn h).2
        have e2 := p_1 (v := v2) h0 (by omega)
        refine i1 (v2 + 1) (xp o 84 v2.toNatClampNeg (o.2.1 81 v2.toNatClampNeg)) r (fr_xp rO rfl) (by omega) (by omega) h8 (fun j q => ?_) h
        show upd (o.2.1 84) v2.toNatClampNeg (o.2.1 81 v2.toNatClampNeg) j = _
        have vi := tn_n v2
        by_cases e : j = v2.toNatClampNeg
        · rw [e, up_s, rO.2.1 81 rfl]
        · rw [up_o e]; exact hj j (by omega)
theorem KC_c {sg : Nat → Int32} {n c : Nat} {nm tb nm2 tb2 : Nat → Int32} {ln : Nat → Nat} (h : KCq sg n nm tb c ln) (h1 : ∀ j : Nat, j < 8 * c → nm2 j = nm j) (h2 : ∀ j : Nat, j < 4 * c → tb2 j = tb j) : KCq sg n nm2 tb2 c ln := fun i hi => by
  have z := h i hi
  refine ⟨z.1, fun k hk => ?_, ?_, ?_, ?_, ?_⟩
  · rw [h1 _ (by omega)]; exact z.2.1 k hk
  · rw [h2 _ (by omega)]; exact z.2.2.1
  · rw [h2 _ (by omega)]; exact z.2.2.2.1
  · rw [h2 _ (by omega)]; exact z.2.2.2.2.1
  · rw [h2 _ (by omega)]; exact z.2.2.2.2.2
def LbM (om : cf_O) (rm : Int32 × cf_O) : Prop := ∃ (l : Int) (c : Nat) (ln : Nat → Nat), LAns (om.2.1 1) (om.1 2).toInt.toNat rm.1.toInt l c ln ∧ ((¬ rm.1.toInt = 0 ∧ (rm.2.1 3).toInt = l ∧ rm.2.1 78 = om.1 78 ∧ rm.2.1 82 = om.1 82 ∧ rm.2.2.1 83 = om.2.1 83 ∧ rm.2.2.1 84 = om.2.1 84) ∨ (rm.1.toInt = 0 ∧ (rm.2.1 3).toInt = -1 ∧ rm.2.1 78 = 1 ∧ (rm.2.1 82).toInt = (c : Int) ∧ c ≤ 12 ∧ KCq (om.2.1 1) (om.1 2).toInt.toNat (rm.2.2.1 83) (rm.2.2.1 84) c ln))
theorem library_sp {om : cf_O} {rm : Int32 × cf_O} (ho : okO I_M om) (hW : W4 (om.2.2 4)) (f95 : (0 : Int) ≤ (om.1 95).toInt ∧ (om.1 95).toInt ≤ 0) (hF : Fp (om.2.1 81)) (h : fM_library om = some rm) : LbM om rm := by
  obtain ⟨q, hq, h⟩ := bd h
  have ho1 : okO I_M (fp om 0 0) := ok_fp ho ⟨by decide, by decide⟩
  have R := readLibrary_sp (o := fp om 0 0) ho1 hW ⟨by show (0 : Int) ≤ (0 : Int32).toInt; decide, by show (0 : Int32).toInt ≤ 0; decide⟩ f95 hF hq
  obtain ⟨q', eq', Q⟩ := sM_readLibrary (fp om 0 0) ho1 ⟨by show (0 : Int) ≤ (0 : Int32).toInt; decide, by show (0 : Int32).toInt ≤ 0; decide⟩ f95 hF
  cases eq'.symm.trans hq
  have q5 := Q.2.2.1
  obtain ⟨rO, c, ln, A, B⟩ := R
  have A : LAns (om.2.1 1) (om.1 2).toInt.toNat (q.1 5).toInt (q.1 6).toInt c ln := A
  rcases ifc h with ⟨a, h⟩ | ⟨a, h⟩
  · have a : (q.1 5).toInt ≤ 0 := c_le a
    have e5 : (q.1 5).toInt = 0 := by omega
    obtain ⟨b1, b2, b3⟩ := B e5
    rw [e5] at A
    rcases ifc h with ⟨_, h⟩ | ⟨d, _⟩
    · have z := (library_go (O := fp (fp (fp (fp (fp q 3 (-1)) 6 (om.1 6)) 78 1) 85 0) 82 (q.1 79)) (c := c) b1 b2 cfFU).1 0 _ rm fr_rfl (by decide) (by rw [show (0 : Int32).toInt = 0 from rfl]; omega) (fun j q => absurd q (by rw [show (0 : Int32).toInt = 0 from rfl]; omega)) h
      obtain ⟨z1, z2, z3, z4⟩ := z
      refine ⟨(q.1 6).toInt, c, ln, by rw [z1]; exact A, Or.inr ⟨by rw [z1]; rfl, by rw [z2.1 3 rfl]; rfl, by rw [z2.1 78 rfl]; rfl, by rw [z2.1 82 rfl]; exact b1, b2, KC_c b3 z3 z4⟩⟩
    · have d : ¬ (q.1 5).toInt ≤ 0 := fun z => by have := c_nle d; have : (0 : Int) < (q.1 5).toInt := this; omega
      omega
  · have a : 0 < (q.1 5).toInt := c_nle a
    rcases ifc h with ⟨d, _⟩ | ⟨_, h⟩
    · have d : (q.1 5).toInt ≤ 0 := c_le d
      omega
    · have e : rm = (q.1 5, fp (fp q 3 (q.1 6)) 6 (om.1 6)) := (Option.some.inj h).symm
      subst e
      refine ⟨(q.1 6).toInt, c, ln, A, Or.inl ⟨by show ¬ (q.1 5).toInt = 0; omega, rfl, ?_, ?_, ?_, ?_⟩⟩
      · exact rO.1 78 rfl
      · exact rO.1 82 rfl
      · exact rO.2.1 83 rfl
      · exact rO.2.1 84 rfl
def RLb (o2 om : cf_O) : Prop := (om.1 78 = 0 ∧ (o2.1 0).toInt = 0) ∨ (om.1 78 = 1 ∧ ∃ (sg : Nat → Int32) (n c : Nat) (ln : Nat → Nat), (o2.1 0).toInt = (c : Int) ∧ (om.1 82).toInt = (c : Int) ∧ c ≤ 12 ∧ KCq sg n (om.2.1 83) (om.2.1 84) c ln ∧ KLq sg n o2 c ln)
theorem RLb_f {o2 om om2 : cf_O} (h : RLb o2 om) (e1 : om2.1 78 = om.1 78) (e2 : om2.1 82 = om.1 82) (e3 : om2.2.1 83 = om.2.1 83) (e4 : om2.2.1 84 = om.2.1 84) : RLb o2 om2 := by
  unfold RLb
  rw [e1, e2, e3, e4]; exact h
theorem scan_sp {o o1 : cf_O} {r : Int32 × cf_O × cf_O} (hl : okO I_Li o) (ho : okO I_Tx o1) (h : fLi_scan o o1 = some r) : ScP (o1.2.1 0) (o1.1 3).toInt r := by
  have h : gLi_scan cfFU 0 0 0 (fp o 0 0) (fp (fp o1 6 0) 4 (-1)) = some r := h
  exact scan_go (O1 := o1) (ho.1 3).1 (ho.1 3).2 cfFU 0 0 (fp o 0 0) (fp (fp o1 6 0) 4 (-1)) r (-1) 0 0 (fun _ => 0) (ok_fp hl ⟨by decide, by decide⟩) (ok_fp (ok_fp ho ⟨by decide, by decide⟩) ⟨by decide, by decide⟩) rfl rfl (by show (-1 : Int) ≤ (-1 : Int32).toInt; decide) (by show (-1 : Int32).toInt + 1 ≤ (0 : Int32).toInt; decide) (Lq_0 rfl rfl) (fun j q => absurd q (by show ¬ (j : Int) < (-1 : Int32).toInt + 1; rw [show (-1 : Int32).toInt = -1 from rfl]; omega)) rfl rfl (Or.inl rfl) rfl rfl (by decide) (fun i q => absurd q (by omega)) h
def LbC (r : Int32 × cf_O × cf_O × cf_O × cf_O) (rm : Int32 × cf_O) : Prop := r.1 = rm.1 ∧ RLb r.2.2.2.1 rm.2 ∧ r.2.1.1 15 = rm.2.1 3
theorem eq_library {o0 o1 o2 o3 om : cf_O} {r : Int32 × cf_O × cf_O × cf_O × cf_O} {rm : Int32 × cf_O} (hR : RT o1 om) (hB : RLb o2 om) (hl : okO I_Li o3) (ht : okO I_Tx o1) (ho : okO I_M om) (hW : W4 (om.2.2 4)) (f95 : (0 : Int) ≤ (om.1 95).toInt ∧ (om.1 95).toInt ≤ 0) (hF : Fp (om.2.1 81)) (h1 : fF_library o0 o1 o2 o3 = some r) (h2 : fM_library om = some rm) : LbC r rm := by
  obtain ⟨l, c, ln, A, B⟩ := library_sp ho hW f95 hF h2
  obtain ⟨q, hq, h⟩ := bd h1
  obtain ⟨c2, ln2, A2, B2⟩ := scan_sp hl ht hq
  rw [hR.1, hR.2] at A2 B2
  obtain ⟨u1, u2, u3⟩ := LAns_u A2 A
  have e1 : q.1 = rm.1 := Int32.toInt_inj.mp u1
  rcases ifc h with ⟨a, h⟩ | ⟨a, h⟩
  · have e : r = (q.1, fp (fp (fp o0 18 0) 15 (-1)) 30 0, q.2.2, q.2.1, o2) := (Option.some.inj h).symm
    subst e
    have a0 : q.1.toInt = 0 := by rw [a]; rfl
    obtain ⟨v1, v2⟩ := u3 a0
    obtain ⟨w1, w2⟩ := B2 a0
    rcases B with ⟨b, -⟩ | ⟨-, b1, b2, b3, b4, b5⟩
    · exact absurd (u1.symm.trans a0) b
    · refine ⟨e1, Or.inr ⟨b2, om.2.1 1, (om.1 2).toInt.toNat, c, ln, ?_, b3, b4, b5, ?_⟩, Int32.toInt_inj.mp (by rw [b1]; rfl)⟩
      · rw [← v1]; exact w1
      · rw [← v1, ← v2]; exact w2
  · have e : r = (q.1, fp (fp o0 15 (q.2.2.1 4)) 30 0, q.2.2, o2, q.2.1) := (Option.some.inj h).symm
    subst e
    have a0 : ¬ q.1.toInt = 0 := fun z => a (Int32.toInt_inj.mp z)
    rcases B with ⟨-, b1, b2, b3, b4, b5⟩ | ⟨b, -⟩
    · exact ⟨e1, RLb_f hB b2 b3 b4 b5, Int32.toInt_inj.mp (by rw [b1]; exact u2 a0)⟩
    · exact absurd (u1.trans b) a0
theorem refuse_1 {b c : Int32} {o : cf_O} : fM_refuse 1 b c o = some (1, fp o 0 1) := rfl
theorem refuse_01 {c : Int32} {o : cf_O} : fM_refuse 0 1 c o = some (1, fp o 0 2) := rfl
theorem refuse_00 {o : cf_O} : fM_refuse 0 0 0 o = some (0, fp o 0 0) := rfl
def LcC (r rm : Int32 × cf_O) (om : cf_O) : Prop := (r.2.1 30 = 0 ∧ rm.2.1 0 = 0 ∧ r.1 = rm.1 ∧ rm.2 = fp om 0 0) ∨ (r.2.1 30 = 3 ∧ rm.2 = fp om 0 1) ∨ (r.2.1 30 = 1 ∧ rm.2 = fp om 0 2)
theorem eq_libraryCell {v1 v2 : Int32} {o0 o1 om : cf_O} {r rm : Int32 × cf_O} (hB : RLb o1 om) (h1 : fF_libraryCell v1 v2 o0 o1 = some r) (h2 : fM_libraryCell v1 v2 om = some rm) : LcC r rm om := by
  have bad : (v1.toInt < 0 ∨ (o1.1 0).toInt ≤ v1.toInt) → r = (0, fp o0 30 3) := fun q => by
    have k : fF_libraryCell_19 v1 v2 o0 o1 = some r → r = (0, fp o0 30 3) := fun h => (Option.some.inj (show some ((0 : Int32), fp o0 30 3) = some r from h)).symm
    rcases ifc h1 with ⟨_, h⟩ | ⟨a, h⟩
    · exact k h
    · have a : 0 ≤ v1.toInt := c_nlt a
      rcases ifc h with ⟨_, h⟩ | ⟨b, _⟩
      · exact k h
      · have b := c_nle b; omega
  have good : 0 ≤ v1.toInt → v1.toInt < (o1.1 0).toInt → fF_libraryCell_23 v1 v2 o0 o1 = some r := fun q1 q2 => by
    rcases ifc h1 with ⟨a, _⟩ | ⟨_, h⟩
    · have a : v1.toInt < 0 := c_lt a
      omega
    · rcases ifc h with ⟨b, _⟩ | ⟨_, h⟩
      · have b := c_le b; omega
      · exact h
  have bad2 : fM_libraryCell_25 v1 v2 om = some rm → rm.2 = fp om 0 1 := fun h => by
    have h : some ((0 : Int32), fp om 0 1) = some rm := h
    rw [← Option.some.inj h]
  rcases hB with ⟨b1, b2⟩ | ⟨b1, sg, n, c, ln, b2, b3, b4, K, L⟩
  · have er := bad (by omega)
    rcases ifc h2 with ⟨_, h⟩ | ⟨a, _⟩
    · exact Or.inr (Or.inl ⟨by rw [er]; rfl, bad2 h⟩)
    · exact absurd b1 a
  · rcases ifc h2 with ⟨a, _⟩ | ⟨_, h⟩
    · rw [b1] at a; exact absurd a (by decide)
    · obtain ⟨x, hx, h⟩ := bd h
      have hx := in_sp hx
      have e82 : ((om.1 82) - 1).toInt = (c : Int) - 1 := by rw [Int32.toInt_sub, b3, i_bm (by rw [show (1 : Int32).toInt = 1 from rfl]; omega) (by rw [show (1 : Int32).toInt = 1 from rfl]; omega)]; rfl
      rw [show (0 : Int32).toInt = 0 from rfl, e82] at hx
      rcases ifc h with ⟨a, h⟩ | ⟨a, h⟩
      · have nx := Yn_0 hx a
        have er := bad (by omega)
        exact Or.inr (Or.inl ⟨by rw [er]; rfl, bad2 h⟩)
      · have ix := Yn_1 hx a
        have g := good ix.1 (by omega)
        have h : Option.bind (fM_in v2 0 3) (fun q_2 => (if q_2 = (0 : Int32) then fM_libraryCell_55 v1 v2 0 1 om else fM_libraryCell_54 v1 v2 0 om)) = some rm := h
        obtain ⟨y, hy, h⟩ := bd h
        have hy := in_sp hy
        rw [show (0 : Int32).toInt = 0 from rfl, show (3 : Int32).toInt = 3 from rfl] at hy
        have m4 : (4 * v1).toInt = 4 * v1.toInt := by rw [Int32.toInt_mul, i_bm (by rw [show (4 : Int32).toInt = 4 from rfl]; omega) (by rw [show (4 : Int32).toInt = 4 from rfl]; omega)]; rfl
        have kk := K v1.toInt.toNat (by omega)
        have ll := L v1.toInt.toNat (by omega)
        have vi : v1.toNatClampNeg = v1.toInt.toNat := by have := tn_n v1; omega
        rcases ifc h with ⟨d, h⟩ | ⟨d, h⟩
        · have ny := Yn_0 hy d
          have h : some ((0 : Int32), fp om 0 2) = some rm := h
          have er : rm.2 = fp om 0 2 := by rw [← Option.some.inj h]
          refine Or.inr (Or.inr ⟨?_, er⟩)
          rcases ifc g with ⟨y, _⟩ | ⟨_, g⟩
          · rw [y] at ny; exact absurd ⟨by decide, by decide⟩ ny
          rcases ifc g with ⟨y, _⟩ | ⟨_, g⟩
          · rw [y] at ny; exact absurd ⟨by decide, by decide⟩ ny
          rcases ifc g with ⟨y, _⟩ | ⟨_, g⟩
          · rw [y] at ny; exact absurd ⟨by decide, by decide⟩ ny
          rcases ifc g with ⟨y, _⟩ | ⟨_, g⟩
          · rw [y] at ny; exact absurd ⟨by decide, by decide⟩ ny
          rw [← Option.some.inj g]; rfl
        · have iy := Yn_1 hy d
          have h : (if (4 * v1 + v2) < 0 ∨ 48 ≤ (4 * v1 + v2).toNatClampNeg then none else some (om.2.1 84 (4 * v1 + v2).toNatClampNeg, fp om 0 0)) = some rm := h
          · have m5 : (4 * v1 + v2).toInt = 4 * v1.toInt + v2.toInt := by rw [Int32.toInt_add, m4, i_bm (by omega) (by omega)]
            have h := (ifn h).2
            have er : rm = (om.2.1 84 (4 * v1 + v2).toNatClampNeg, fp om 0 0) := (Option.some.inj h).symm
            have mi : (4 * v1 + v2).toNatClampNeg = 4 * v1.toInt.toNat + v2.toInt.toNat := by have := tn_n (4 * v1 + v2); omega
            rw [mi] at er
            refine Or.inl ?_
            have fin : ∀ x : Int32, some (x, fp o0 30 0) = some r → x.toInt = (om.2.1 84 (4 * v1.toInt.toNat + v2.toInt.toNat)).toInt → r.2.1 30 = 0 ∧ rm.2.1 0 = 0 ∧ r.1 = rm.1 ∧ rm.2 = fp om 0 0 := fun x hx ex => by
              rw [← Option.some.inj hx, er]
              exact ⟨rfl, rfl, Int32.toInt_inj.mp ex, rfl⟩
            rcases ifc g with ⟨y, g⟩ | ⟨y0, g⟩
            · refine fin _ (ifn g).2 ?_
              rw [vi, y, ll.2.2.1]
              exact kk.2.2.1.symm
            rcases ifc g with ⟨y, g⟩ | ⟨y1, g⟩
            · refine fin _ (ifn g).2 ?_
              rw [vi, y, ll.2.2.2.1]
              exact kk.2.2.2.1.symm
            rcases ifc g with ⟨y, g⟩ | ⟨y2, g⟩
            · refine fin _ (ifn g).2 ?_
              rw [vi, y, ll.2.2.2.2.1]
              exact kk.2.2.2.2.1.symm
            rcases ifc g with ⟨y, g⟩ | ⟨y3, g⟩
            · refine fin _ (ifn g).2 ?_
              rw [vi, y, ll.2.2.2.2.2]
              exact kk.2.2.2.2.2.symm
            · have y0 := c_ne y0
              have y1 := c_ne y1
              have y2 := c_ne y2
              have y3 := c_ne y3
              exfalso
              have y0 : ¬ v2.toInt = 0 := y0
              have y1 : ¬ v2.toInt = 1 := y1
              have y2 : ¬ v2.toInt = 2 := y2
              have y3 : ¬ v2.toInt = 3 := y3
              omega
