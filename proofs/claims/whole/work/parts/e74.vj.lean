theorem fv_go {b n : Nat} {V : Nat → Nat → Bool} {o0 fu gr : cf_O} {v1 : Int32} (G : GW b n gr) (B : FuB b n V fu) (v0 : 0 ≤ v1.toInt) (v9 : v1.toInt < 256) : ∀ (f : Nat) (a v : Int32) (r : Int32 × cf_O × cf_O), 0 ≤ v.toInt → v.toInt ≤ (gr.1 1).toInt → a = ouV V gr v1.toInt.toNat v.toInt.toNat → gF_value f 0 v1 a v o0 fu gr = some r → r = (ouV V gr v1.toInt.toNat (gr.1 1).toInt.toNat, fp o0 30 0, fu)
  | 0, a, v, r, h0, h1, ea, h => by cases h
  | f + 1, a, v, r, h0, h1, ea, h => by
    have G0 := G.1
    have h : fF_value_42 (gF_value f) v1 a v o0 fu gr = some r := h
    unfold fF_value_42 at h
    rcases ifc h with ⟨c, h⟩ | ⟨c, h⟩
    · have c := c_le c
      rw [← Option.some.inj h, ea, show v.toInt.toNat = (gr.1 1).toInt.toNat from by omega]
    · have c := c_nle c
      have iv : v.toNatClampNeg = v.toInt.toNat := by have := tn_n v; omega
      have p1 := p_1 (v := v) h0 (by omega)
      have ob := G.2.2 v.toInt.toNat (by omega)
      have o3 : Int32.ofNat v.toInt.toNat = v := (of_i h0).symm
      have h := (ifn h).2
      rw [opk, iv] at h
      obtain ⟨q, hq, h⟩ := bd h
      have eq := bit_sp B ob.1 ob.2 (by omega) v0 v9 hq
      unfold fF_value_71 at h
      rw [opk, opk, opk] at h
      refine fv_go G B v0 v9 f _ (v + 1) r (by omega) (by omega) ?_ h
      rw [show (v + 1).toInt.toNat = v.toInt.toNat + 1 from by omega]
      show _ = if lvq V (gr.2.1 7 v.toInt.toNat) v1.toInt.toNat = true then ouV V gr v1.toInt.toNat v.toInt.toNat ||| ((1 : Int32) <<< ((Int32.ofNat v.toInt.toNat) &&& 31)) else ouV V gr v1.toInt.toNat v.toInt.toNat
      rw [eq, o3, ← ea]
      cases lvq V (gr.2.1 7 v.toInt.toNat) v1.toInt.toNat
      · rw [if_neg (by decide), show bI false = 0 from rfl, Int32.zero_shiftLeft, Int32.or_zero]
      · rw [if_pos rfl]; rfl
theorem eq_value {v1 : Int32} {o0 fu gr om : cf_O} {r : Int32 × cf_O × cf_O} {rm : Int32 × cf_O} (h38 : om.1 38 = o0.1 16) (h16 : o0.1 16 = 0 ∨ (o0.1 16 = 1 ∧ ∃ b n : Nat, GW b n gr ∧ RGq b n gr om)) (hI : FuI fu gr) (h1 : fF_value v1 o0 fu gr = some r) (h2 : fM_value v1 om = some rm) : AnsC [(2, 1), (1, 2)] r.2.1 r.1 rm ∧ FuI r.2.2 gr := by
  unfold fF_value fF_value_0 at h1
  rcases h16 with a | ⟨a, b, n, G, R⟩
  · have a38 := h38.trans a
    rw [if_pos a] at h1
    unfold fM_value fM_value_0 at h2
    rw [if_pos a38] at h2
    unfold fM_value_13 at h2
    rw [if_pos a38] at h2
    unfold fM_value_40 fM_value_41 at h2
    rw [refuse_1, Option.bind_some, if_neg (show ¬ ((1 : Int32), fp om 0 1).1 = 0 by show ¬ (1 : Int32) = 0; decide)] at h2
    rw [← Option.some.inj h1, ← Option.some.inj h2]
    exact ⟨Or.inr ⟨(2, 1), List.mem_cons_self .., rfl, rfl⟩, hI⟩
  · have n16 : ¬ o0.1 16 = 0 := by rw [a]; decide
    have h381 : om.1 38 = 1 := h38.trans a
    have n38 : ¬ om.1 38 = 0 := by rw [h381]; decide
    have G0 := G.1
    have p2 : 2 ^ (b - 1) ≤ 256 := Nat.le_trans (Nat.pow_le_pow_right (by decide) (show b - 1 ≤ 8 by omega)) (by decide)
    rw [if_neg n16] at h1
    unfold fF_value_7 at h1
    rw [opk] at h1
    have es : gr.1 0 = Int32.ofNat (b - 1) := by rw [of_i (x := gr.1 0) (by omega)]; congr 1; omega
    have ur := ush_r (v := v1) (s := gr.1 0) (k := b - 1) (by omega) es
    rcases ifc h1 with ⟨c, h1⟩ | ⟨c, h1⟩
    · obtain ⟨v0, v9⟩ := ur.mp c
      obtain ⟨V, S⟩ := VS_ex G
      obtain ⟨p, hp, h1⟩ := bd h1
      obtain ⟨_, _, z, B⟩ := fuf_sp G S hI hp
      unfold fF_value_38 at h1
      have er := fv_go G B v0 (by omega) cfFU 0 0 r (by decide) (by rw [show (0 : Int32).toInt = 0 from rfl]; omega) rfl h1
      obtain ⟨w1, w2, _⟩ := value_sp G S R h381 v0 v9 h2
      rw [er]
      exact ⟨Or.inl ⟨rfl, by rw [w2.1 0 rfl]; rfl, w1.symm⟩, fuI_find G hI hp⟩
    · have nr : ¬ (0 ≤ v1.toInt ∧ v1.toInt < ((2 ^ (b - 1) : Nat) : Int)) := fun z => c (ur.mpr z)
      unfold fM_value fM_value_0 at h2
      rw [if_neg n38] at h2
      unfold fM_value_13 at h2
      rw [if_neg n38, opk, opk] at h2
      obtain ⟨q, hq, h2⟩ := bd h2
      have yq := in_sp hq
      have er := rows_i R
      generalize 2 ^ (b - 1) = N at er p2 nr
      have e1 : ((1 : Int32) <<< ((om.1 39) &&& 31) - 1).toInt = (N : Int) - 1 := by rw [i_sub' (by omega) (by omega) (by decide) (by decide), er]; rfl
      rw [e1, show (0 : Int32).toInt = 0 from rfl] at yq
      rcases ifc h2 with ⟨d, h2⟩ | ⟨d, _⟩
      · unfold fM_value_41 at h2
        rw [refuse_2 (by decide), Option.bind_some, if_neg (show ¬ ((1 : Int32), fp om 0 2).1 = 0 by show ¬ (1 : Int32) = 0; decide)] at h2
        rw [← Option.some.inj h1, ← Option.some.inj h2]
        exact ⟨Or.inr ⟨(1, 2), List.mem_cons_of_mem _ (List.mem_cons_self ..), rfl, rfl⟩, hI⟩
      · have y := Yn_1 yq d
        exact absurd ⟨y.1, by omega⟩ nr
