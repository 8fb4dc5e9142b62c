theorem rko_go {b n N k : Nat} {V : Nat → Nat → Bool} {gr OM : cf_O} {v1 : Int32} (G : GW b n gr) (S : VSq b n gr V) (R0 : RGq b n gr OM) (h38 : OM.1 38 = 1) (eN : N = 2 ^ (b - 1)) (N9 : N ≤ 256) (e1 : v1.toInt = (k : Int)) (hk : (k : Int) < (gr.1 1).toInt) : ∀ (f i : Nat) (v2 : Int32) (om r : cf_O), v2.toInt = (i : Int) → i ≤ N → Fr (fr_M [0] [71, 75] []) OM om → om.1 0 = 0 → (∀ j : Nat, j < i → om.2.1 71 j = bI (lvq V (gr.2.1 7 k) j)) → gM_reckonOutput f 0 v1 v2 om = some r → Fr (fr_M [0] [71, 75] []) OM r ∧ r.1 0 = 0 ∧ Oq N (lvq V (gr.2.1 7 k)) r
  | 0, i, v2, om, r, e2, hi, fo, z0, H, h => by cases h
  | f + 1, i, v2, om, r, e2, hi, fo, z0, H, h => by
    have G0 := G.1
    have h : fM_reckonOutput_2 (gM_reckonOutput f) v1 v2 om = some r := h
    unfold fM_reckonOutput_2 at h
    have R : RGq b n gr om := RGq_f R0 (fo.1 39 rfl) (fo.1 40 rfl) (fo.1 43 rfl) (fo.2.1 44 rfl) (fo.2.1 45 rfl) (fo.2.1 46 rfl) (fo.2.1 47 rfl)
    rw [opk] at h
    have er := rows_i R
    rw [← eN] at er
    rcases ifc h with ⟨a, h⟩ | ⟨a, h⟩
    · have a := c_le a
      rw [← Option.some.inj h]
      exact ⟨fo, z0, fun j hj => H j (by omega)⟩
    · have a := c_nle a
      obtain ⟨q, hq, h⟩ := bd h
      obtain ⟨w1, w2, _⟩ := value_sp G S R (by rw [fo.1 38 rfl]; exact h38) (by omega) (by rw [← eN]; omega) hq
      rw [show v2.toInt.toNat = i by omega] at w1
      have nn : 0 ≤ q.1.toInt := by rw [w1]; exact ouV_nn (by omega)
      rw [opk, opk, sbt_b nn (by omega) (by omega), w1, ouV_b (by omega) _ (by omega), decide_eq_true (show v1.toInt.toNat < (gr.1 1).toInt.toNat by omega), Bool.true_and, show v1.toInt.toNat = k by omega] at h
      have fo' : Fr (fr_M [0] [71, 75] []) OM q.2 := fr_tr (fr_tr fo (fr_fp fr_rfl rfl : Fr (fr_M [0] [75] []) om (fp om 0 0)) rfl rfl rfl) w2 rfl rfl rfl
      have z0' : q.2.1 0 = 0 := by rw [w2.1 0 rfl]; rfl
      have H' : ∀ j : Nat, j < i → q.2.2.1 71 j = bI (lvq V (gr.2.1 7 k) j) := fun j hj => by rw [w2.2.1 71 rfl]; exact H j hj
      have nx : ∀ (s : Int32), s = bI (lvq V (gr.2.1 7 k) i) → vp_nar .boolean s = s → fM_reckonOutput_35 (gM_reckonOutput f) v1 v2 v2 s q.2 = some r → Fr (fr_M [0] [71, 75] []) OM r ∧ r.1 0 = 0 ∧ Oq N (lvq V (gr.2.1 7 k)) r := fun s es vs z => by
        unfold fM_reckonOutput_35 at z
        have z := (ifn z).2
        rw [opk, opk, tW e2, vs] at z
        refine rko_go G S R0 h38 eN N9 e1 hk f (i + 1) (v2 + 1) (xp q.2 71 i s) r (by rw [pW (by omega) (by omega)]; omega) (by omega) (fr_xp fo' rfl) z0' (fun j hj => ?_) z
        show upd (q.2.2.1 71) i s j = _
        by_cases ej : j = i
        · rw [ej, up_s]; exact es
        · rw [up_o ej]; exact H' j (by omega)
      cases hb : lvq V (gr.2.1 7 k) i with
      | true =>
        rw [hb, if_pos (show bI true = 1 from rfl)] at h
        exact nx 1 (by rw [hb]; rfl) vb_1 h
      | false =>
        rw [hb, if_neg (show ¬ bI false = 1 by decide)] at h
        exact nx 0 (by rw [hb]; rfl) vb_0 h
theorem hng_go {m k : Nat} {F : Nat → Bool} {om : cf_O} {v1 : Int32} (hm : m ≤ 8) (hk : k < m) (e1 : v1.toInt = (k : Int)) (e39 : (om.1 39).toInt = (m : Int)) (O : Oq (2 ^ m) F om) : ∀ (f t : Nat) (w : Bool) (v3 r : Int32), v3.toInt = (t : Int) → t ≤ 2 ^ m → gM_hangs f 0 v1 (bI w) v3 om = some r → r = bI (w || (List.range' t (2 ^ m - t)).any (fun i => F i != F (i ^^^ 2 ^ k)))
  | 0, t, w, v3, r, e3, ht, h => by cases h
  | f + 1, t, w, v3, r, e3, ht, h => by
    have h : fM_hangs_4 (gM_hangs f) v1 (bI w) v3 om = some r := h
    unfold fM_hangs_4 at h
    have p9 : 2 ^ m ≤ 256 := Nat.le_trans (Nat.pow_le_pow_right (by decide) hm) (by decide)
    have es := s1_9 m (by omega)
    rw [← on_i e39] at es
    rw [opk] at h
    rcases ifc h with ⟨a, h⟩ | ⟨a, h⟩
    · have a := c_le a
      have h := (ifn h).2
      rw [← Option.some.inj h, show 2 ^ m - t = 0 by omega]
      show bI w = bI (w || false)
      rw [Bool.or_false]
    · have a := c_nle a
      have p3 := pW (v := v3) (by omega) (by omega)
      have rs : List.range' t (2 ^ m - t) = t :: List.range' (t + 1) (2 ^ m - (t + 1)) := by
        rw [show 2 ^ m - t = (2 ^ m - (t + 1)) + 1 by omega]; rfl
      have nx : ∀ (s0 : Int32) (y : Bool), s0 = bI y → fM_hangs_42 (gM_hangs f) v1 v3 s0 om = some r → r = bI (y || (List.range' (t + 1) (2 ^ m - (t + 1))).any (fun i => F i != F (i ^^^ 2 ^ k))) := fun s0 y es z => by
        rw [es] at z
        exact hng_go hm hk e1 e39 O f (t + 1) y (v3 + 1) r (by omega) (by omega) z
      rw [rs, List.any_cons]
      rcases ifc h with ⟨c, h⟩ | ⟨c, h⟩
      · have w0 := bI_0.mp c
        rw [w0, Bool.false_or]
        have xb := xr_b (show t < 2 ^ m by omega) hk
        have ex := xr_t t (by omega) k (by omega)
        rw [← on_i e1, ← on_i e3] at ex
        have h := (ifn h).2
        rw [opk, opk, opk, ex] at h
        have h := (ifn h).2
        rw [opk, tW e3, tW (ofiN (show t ^^^ 2 ^ k < 1000 by omega)), O t (by omega), O _ xb] at h
        rcases ifc h with ⟨d, h⟩ | ⟨d, h⟩
        · rw [bI_i.mp d, bne_self_eq_false]
          exact nx 0 false rfl h
        · have d : ¬ F t = F (t ^^^ 2 ^ k) := fun q => d (bI_i.mpr q)
          rw [bne_iff_ne.mpr d]
          exact nx 1 true rfl h
      · have w1 : w = true := by
          cases w with
          | true => rfl
          | false => exact absurd rfl c
        have z := nx 1 true rfl h
        rw [Bool.true_or] at z
        rw [w1, Bool.true_or]; exact z
theorem hng_sp {m k : Nat} {F : Nat → Bool} {om : cf_O} {v1 r : Int32} (hm : m ≤ 8) (hk : k < m) (e1 : v1.toInt = (k : Int)) (e39 : (om.1 39).toInt = (m : Int)) (O : Oq (2 ^ m) F om) (h : fM_hangs v1 om = some r) : r = bI (hgB F m k) := by
  have h : gM_hangs cfFU 0 v1 (bI false) 0 om = some r := h
  have z := hng_go hm hk e1 e39 O cfFU 0 false 0 r rfl (Nat.zero_le _) h
  rw [Bool.false_or, Nat.sub_zero, rg_0] at z; exact z
def FdQ (F : Nat → Bool) (m u : Nat) (r : Int32) : Prop := (r = -1 ∧ ∀ k : Nat, u ≤ k → k < m → hgB F m k = false) ∨ ∃ k : Nat, u ≤ k ∧ k < m ∧ r.toInt = (k : Int) ∧ hgB F m k = true ∧ ∀ j : Nat, u ≤ j → j < k → hgB F m j = false
def DgQ (F : Nat → Bool) (m : Nat) (v2 : Int32) (om : cf_O) (r : Int32 × cf_O) : Prop := r.2 = om ∧ ((v2 = 0 ∧ r.1.toInt = (qnT F m m : Int)) ∨ (v2 = 1 ∧ r.1.toInt = (cnF F (2 ^ m) : Int)) ∨ (v2 = 2 ∧ LuC (2 ^ m) F (fun _ => false) r.1) ∨ (¬ v2 = 0 ∧ ¬ v2 = 1 ∧ ¬ v2 = 2 ∧ FaQ F m r.1))
theorem dg1_go {m : Nat} {F : Nat → Bool} {om : cf_O} {v2 v4 v5 : Int32} (hm : m ≤ 8) (e39 : (om.1 39).toInt = (m : Int)) (O : Oq (2 ^ m) F om) (e4 : v4.toInt = (cnF F (2 ^ m) : Int)) (e5 : LuC (2 ^ m) F (fun _ => false) v5) : ∀ (f u : Nat) (v6 v7 : Int32) (r : Int32 × cf_O), v7.toInt = (u : Int) - 1 → u ≤ m → FdQ F m u v6 → gM_diagram f 1 v2 v4 v5 v6 v7 om = some r → DgQ F m v2 om r
  | 0, u, v6, v7, r, e7, hu, Q, h => by cases h
  | f + 1, u, v6, v7, r, e7, hu, Q, h => by
    have h : fM_diagram_165 (gM_diagram f) v2 v4 v5 v6 v7 om = some r := h
    unfold fM_diagram_165 at h
    rcases ifc h with ⟨a, h⟩ | ⟨a, h⟩
    · have a : v7.toInt < 0 := c_lt a
      have u0 : u = 0 := by omega
      subst u0
      rcases ifc h with ⟨c, h⟩ | ⟨c, h⟩
      · obtain ⟨q, hq, h⟩ := bd h
        have z := (mqs_go hm e39 O cfFU).1 0 0 0 q rfl (Nat.zero_le _) rfl hq
        rw [← Option.some.inj h]
        exact ⟨rfl, Or.inl ⟨c, z⟩⟩
      · rcases ifc h with ⟨d, h⟩ | ⟨d, h⟩
        · rw [← Option.some.inj h]
          exact ⟨rfl, Or.inr (Or.inl ⟨d, e4⟩)⟩
        · rcases ifc h with ⟨e, h⟩ | ⟨e, h⟩
          · rw [← Option.some.inj h]
            exact ⟨rfl, Or.inr (Or.inr (Or.inl ⟨e, e5⟩))⟩
          · rw [← Option.some.inj h]
            refine ⟨rfl, Or.inr (Or.inr (Or.inr ⟨c, d, e, ?_⟩))⟩
            rcases Q with ⟨q1, q2⟩ | ⟨k, _, k1, k2, k3, k4⟩
            · exact Or.inl ⟨q1, fun k hk => q2 k (Nat.zero_le k) hk⟩
            · exact Or.inr ⟨k, k1, k2, k3, fun j hj => k4 j (Nat.zero_le j) hj⟩
    · have a : 0 ≤ v7.toInt := c_nlt a
      obtain ⟨i, hi⟩ : ∃ i : Nat, u = i + 1 := ⟨u - 1, by omega⟩
      subst hi
      obtain ⟨q, hq, h⟩ := bd h
      have eq := hng_sp hm (show i < m by omega) (show v7.toInt = (i : Int) by omega) e39 O hq
      have m7 := m_1g (v := v7) a
      have k186 : ∀ s : Int32, fM_diagram_186 (gM_diagram f) v2 v4 v5 v7 s om = some r → gM_diagram f 1 v2 v4 v5 s (v7 + (-1)) om = some r := fun s z => z
      rcases ifc h with ⟨c, h⟩ | ⟨c, h⟩
      · rw [eq] at c
        have c := bI_0.mp c
        have h := k186 _ h
        generalize v7 + (-1) = w7 at h m7
        refine dg1_go hm e39 O e4 e5 f i v6 w7 r (by omega) (by omega) ?_ h
        rcases Q with ⟨q1, q2⟩ | ⟨k, k0, k1, k2, k3, k4⟩
        · refine Or.inl ⟨q1, fun k k1 k2 => ?_⟩
          by_cases ek : k = i
          · rw [ek]; exact c
          · exact q2 k (by omega) k2
        · refine Or.inr ⟨k, by omega, k1, k2, k3, fun j j1 j2 => ?_⟩
          by_cases ej : j = i
          · rw [ej]; exact c
          · exact k4 j (by omega) j2
      · rw [eq] at c
        have c : hgB F m i = true := by
          cases y : hgB F m i with
          | true => rfl
          | false => rw [y] at c; exact absurd rfl c
        have h := k186 _ h
        generalize v7 + (-1) = w7 at h m7
        exact dg1_go hm e39 O e4 e5 f i v7 w7 r (by omega) (by omega) (Or.inr ⟨i, Nat.le_refl i, by omega, by omega, c, fun j j1 j2 => by omega⟩) h
theorem dg0_go {m : Nat} {F : Nat → Bool} {om : cf_O} {v2 : Int32} (hm : m ≤ 8) (e39 : (om.1 39).toInt = (m : Int)) (O : Oq (2 ^ m) F om) : ∀ (f u : Nat) (v4 v5 v7 : Int32) (r : Int32 × cf_O), v7.toInt = (u : Int) - 1 → u ≤ 2 ^ m → 0 ≤ v4.toInt → v4.toInt + (cnF F u : Int) = (cnF F (2 ^ m) : Int) → LdC (2 ^ m) F (fun _ => false) u v5 → gM_diagram f 0 v2 v4 v5 (-1) v7 om = some r → DgQ F m v2 om r
  | 0, u, v4, v5, v7, r, e7, hu, v40, C, Q, h => by cases h
  | f + 1, u, v4, v5, v7, r, e7, hu, v40, C, Q, h => by
    have h : fM_diagram_106 (gM_diagram f) v2 v4 v5 (-1) v7 om = some r := h
    unfold fM_diagram_106 at h
    have p9 : 2 ^ m ≤ 256 := Nat.le_trans (Nat.pow_le_pow_right (by decide) hm) (by decide)
    have cl := cnF_le (f := F) (2 ^ m)
    rcases ifc h with ⟨a, h⟩ | ⟨a, h⟩
    · have a : v7.toInt < 0 := c_lt a
      have u0 : u = 0 := by omega
      subst u0
      rw [opk] at h
      have C : v4.toInt + ((0 : Nat) : Int) = _ := C
      refine dg1_go hm e39 O (by omega) ?_ f m (-1) (om.1 39 - 1) r (by rw [Int32.toInt_sub, show (1 : Int32).toInt = 1 from rfl, i_bm (by omega) (by omega)]; omega) (Nat.le_refl _) (Or.inl ⟨rfl, fun k k1 k2 => by omega⟩) h
      rcases Q with ⟨l1, l2⟩ | ⟨i, _, l1, l2, l3, l4⟩
      · exact Or.inl ⟨l1, fun i hi => l2 i (Nat.zero_le i) hi⟩
      · exact Or.inr ⟨i, l1, l2, l3, fun j hj => l4 j (Nat.zero_le j) hj⟩
    · have a : 0 ≤ v7.toInt := c_nlt a
      obtain ⟨i, hi⟩ : ∃ i : Nat, u = i + 1 := ⟨u - 1, by omega⟩
      subst hi
      have e7i : v7.toInt = (i : Int) := by omega
      have h := (ifn h).2
      rw [opk, tW e7i, O i (by omega)] at h
      have m7 := m_1g (v := v7) a
      have cs : cnF F (i + 1) = cnF F i + (if F i then 1 else 0) := rfl
      have k130 : ∀ s : Int32, fM_diagram_130 (gM_diagram f) v2 v5 (-1) v7 s om = some r → gM_diagram f 0 v2 s (if F i then v7 else v5) (-1) (v7 + (-1)) om = some r := fun s z => by
        unfold fM_diagram_130 at z
        have z := (ifn z).2
        rw [opk, tW e7i, O i (by omega)] at z
        cases hb : F i with
        | true => rw [hb, if_neg (by decide)] at z; exact z
        | false => rw [hb, if_pos (show bI false = 0 from rfl)] at z; exact z
      rcases ifc h with ⟨c, h⟩ | ⟨c, h⟩
      · have c := bI_0.mp c
        have h := k130 _ h
        rw [c, if_neg (by decide)] at h
        rw [cs, c, if_neg (by decide)] at C
        generalize v7 + (-1) = w7 at h m7
        refine dg0_go hm e39 O f i v4 v5 w7 r (by omega) (by omega) v40 (by omega) ?_ h
        rcases Q with ⟨q1, q2⟩ | ⟨k, k0, k1, k2, k3, k4⟩
        · refine Or.inl ⟨q1, fun k k1 k2 => ?_⟩
          by_cases ek : k = i
          · rw [ek]; exact c
          · exact q2 k (by omega) k2
        · refine Or.inr ⟨k, by omega, k1, k2, k3, fun j j1 j2 => ?_⟩
          by_cases ej : j = i
          · rw [ej]; exact c
          · exact k4 j (by omega) j2
      · have c : F i = true := by
          cases y : F i with
          | true => rfl
          | false => rw [y] at c; exact absurd rfl c
        rw [opk] at h
        have h := k130 _ h
        rw [c, if_pos rfl] at h
        rw [cs, c, if_pos rfl] at C
        generalize v7 + (-1) = w7 at h m7
        have p4 := pW (v := v4) v40 (by omega)
        exact dg0_go hm e39 O f i (v4 + 1) v7 w7 r (by omega) (by omega) (by omega) (by omega) (Or.inr ⟨i, Nat.le_refl i, by omega, e7i, (by rw [c]; intro q; cases q), fun j j1 j2 => by omega⟩) h
theorem eq_diagram {v1 v2 : Int32} {o0 fu gr om : cf_O} {r : Int32 × cf_O × cf_O} {rm : Int32 × cf_O} (h38 : om.1 38 = o0.1 16) (h16 : o0.1 16 = 0 ∨ (o0.1 16 = 1 ∧ ∃ b n : Nat, GW b n gr ∧ RGq b n gr om)) (hI : FuI fu gr) (h1 : fF_diagram v1 v2 o0 fu gr = some r) (h2 : fM_diagram v1 v2 om = some rm) : AnsC [(2, 1), (3, 2), (1, 3)] r.2.1 r.1 rm := by
  unfold fF_diagram fF_diagram_0 at h1
  unfold fM_diagram fM_diagram_0 at h2
  rcases h16 with a | ⟨a, b, n, G, R⟩
  · have a38 := h38.trans a
    rw [if_pos a] at h1
    rw [if_pos a38] at h2
    unfold fM_diagram_25 fM_diagram_26 at h2
    rw [if_pos a38] at h2
    unfold fM_diagram_40 at h2
    rw [if_pos a38] at h2
    unfold fM_diagram_55 fM_diagram_56 at h2
    rw [if_pos rfl] at h2
    unfold fM_diagram_73 fM_diagram_74 at h2
    rw [refuse_1, Option.bind_some, if_neg (show ¬ ((1 : Int32), fp om 0 1).1 = 0 by show ¬ (1 : Int32) = 0; decide)] at h2
    rw [← Option.some.inj h1, ← Option.some.inj h2]
    exact Or.inr ⟨(2, 1), List.mem_cons_self .., rfl, rfl⟩
  · have n16 : ¬ o0.1 16 = 0 := by rw [a]; decide
    have h381 : om.1 38 = 1 := h38.trans a
    have n38 : ¬ om.1 38 = 0 := by rw [h381]; decide
    have G0 := G.1
    have e40 : om.1 40 = gr.1 1 := R.1.2.2.2.2.1
    have e1 : ((om.1 40) - 1).toInt = (gr.1 1).toInt - 1 := by rw [e40, Int32.toInt_sub, show (1 : Int32).toInt = 1 from rfl, i_bm (by omega) (by omega)]
    rw [if_neg n16] at h1
    rw [if_neg n38, opk] at h2
    unfold fF_diagram_7 at h1
    obtain ⟨q, hq, h2⟩ := bd h2
    have yq := in_sp hq
    rw [show (0 : Int32).toInt = 0 from rfl, e1] at yq
    have k26 : fF_diagram_26 v1 v2 o0 fu gr = some r → r = (0, fp o0 30 3, fu) := fun w => by
      unfold fF_diagram_26 fF_diagram_27 at w
      rw [if_pos rfl] at w
      exact (Option.some.inj w).symm
    rcases ifc h2 with ⟨c, h2⟩ | ⟨c, h2⟩
    · have nq := Yn_0 yq c
      unfold fM_diagram_25 fM_diagram_26 at h2
      rw [if_neg n38] at h2
      unfold fM_diagram_40 at h2
      rw [if_neg n38, if_pos rfl] at h2
      unfold fM_diagram_56 at h2
      rw [if_pos rfl] at h2
      unfold fM_diagram_73 fM_diagram_74 at h2
      rw [refuse_2 (by decide), Option.bind_some, if_neg (show ¬ ((1 : Int32), fp om 0 2).1 = 0 by show ¬ (1 : Int32) = 0; decide)] at h2
      have er : r = (0, fp o0 30 3, fu) := by
        rcases ifc h1 with ⟨d, w⟩ | ⟨d, w⟩
        · exact k26 w
        · have d : 0 ≤ v1.toInt := c_nlt d
          rcases ifc w with ⟨e, w⟩ | ⟨e, w⟩
          · exact k26 w
          · have e := c_nle e
            exact absurd ⟨d, by omega⟩ nq
      rw [er, ← Option.some.inj h2]
      exact Or.inr ⟨(3, 2), List.mem_cons_of_mem _ (List.mem_cons_self ..), rfl, rfl⟩
    · have iq := Yn_1 yq c
      rcases ifc h1 with ⟨e, _⟩ | ⟨_, h1⟩
      · have e : v1.toInt < 0 := c_lt e
        omega
      rcases ifc h1 with ⟨e, _⟩ | ⟨_, h1⟩
      · have e := c_le e
        omega
      unfold fF_diagram_27 at h1
      rw [if_neg (by decide)] at h1
      unfold fF_diagram_30 at h1
      obtain ⟨p, hp, h1⟩ := bd h1
      obtain ⟨V, S⟩ := VS_ex G
      obtain ⟨_, _, _, B⟩ := fuf_sp G S hI hp
      have i1 : v1.toNatClampNeg = v1.toInt.toNat := by have := tn_n v1; omega
      unfold fF_diagram_41 at h1
      have h1 := (ifn h1).2
      rw [opk, i1] at h1
      have ob := G.2.2 v1.toInt.toNat (by omega)
      unfold fM_diagram_26 at h2
      rw [if_neg n38] at h2
      unfold fM_diagram_40 at h2
      rw [if_neg n38, if_neg (by decide)] at h2
      unfold fM_diagram_55 fM_diagram_56 at h2
      rw [if_neg (by decide)] at h2
      obtain ⟨w, hw, h2⟩ := bd h2
      have yw := in_sp hw
      rw [show (0 : Int32).toInt = 0 from rfl, show (3 : Int32).toInt = 3 from rfl] at yw
      rcases ifc h2 with ⟨d, h2⟩ | ⟨d, h2⟩
      · have nw := Yn_0 yw d
        unfold fM_diagram_74 at h2
        rw [refuse_3 (by decide), Option.bind_some, if_neg (show ¬ ((1 : Int32), fp om 0 3).1 = 0 by show ¬ (1 : Int32) = 0; decide)] at h2
        have ne : ∀ k : Int32, 0 ≤ k.toInt → k.toInt ≤ 3 → ¬ v2 = k := fun k k0 k3 z => nw (by rw [z]; exact ⟨k0, k3⟩)
        rw [if_neg (ne 0 (by decide) (by decide)), if_neg (ne 1 (by decide) (by decide)), if_neg (ne 2 (by decide) (by decide)), if_neg (ne 3 (by decide) (by decide))] at h1
        rw [← Option.some.inj h1, ← Option.some.inj h2]
        exact Or.inr ⟨(1, 3), List.mem_cons_of_mem _ (List.mem_cons_of_mem _ (List.mem_cons_self ..)), rfl, rfl⟩
      · have iw := Yn_1 yw d
        unfold fM_diagram_73 fM_diagram_74 at h2
        rw [refuse_00, Option.bind_some, if_pos (show ((0 : Int32), fp om 0 0).1 = 0 from rfl)] at h2
        obtain ⟨o, ho, h2⟩ := bd h2
        have ho : gM_reckonOutput cfFU 0 v1 0 (fp om 0 0) = some o := ho
        have R1 : RGq b n gr (fp om 0 0) := RGq_f R rfl rfl rfl rfl rfl rfl rfl
        have p2 : 2 ^ (b - 1) ≤ 256 := Nat.le_trans (Nat.pow_le_pow_right (by decide) (show b - 1 ≤ 8 by omega)) (by decide)
        obtain ⟨o1, o2, o3⟩ := rko_go (OM := fp om 0 0) (k := v1.toInt.toNat) G S R1 h381 rfl p2 (by omega) (by omega) cfFU 0 0 (fp om 0 0) o rfl (Nat.zero_le _) fr_rfl rfl (fun j hj => absurd hj (by omega)) ho
        have R2 : RGq b n gr o := RGq_f R1 (o1.1 39 rfl) (o1.1 40 rfl) (o1.1 43 rfl) (o1.2.1 44 rfl) (o1.2.1 45 rfl) (o1.2.1 46 rfl) (o1.2.1 47 rfl)
        have e9 := e39 R2
        have er := rows_i R2
        have p0 : 0 < 2 ^ (b - 1) := Nat.pow_pos (by decide)
        rw [opk, opk] at h2
        have em : ((1 : Int32) <<< ((o.1 39) &&& 31) - 1).toInt = ((2 ^ (b - 1) : Nat) : Int) - 1 := by
          generalize 2 ^ (b - 1) = N at er p2
          rw [i_sub' (by omega) (by omega) (by decide) (by decide), er]; rfl
        obtain ⟨D1, D2⟩ := dg0_go (m := b - 1) (by omega) e9 o3 cfFU (2 ^ (b - 1)) 0 (-1) _ rm em (Nat.le_refl _) (by decide) (by rw [show (0 : Int32).toInt = 0 from rfl]; omega) (Or.inl ⟨rfl, fun i h1 h2 => by omega⟩) h2
        refine Or.inl ?_
        have t0 : rm.2.1 0 = 0 := by rw [D1]; exact o2
        have ei : (gr.1 0).toInt = ((b - 1 : Nat) : Int) := by omega
        rcases ifc h1 with ⟨y, h1⟩ | ⟨y, h1⟩
        · obtain ⟨z, hz, h1⟩ := bd h1
          have hz : gFu_questions cfFU 0 (gr.2.1 7 v1.toInt.toNat) (gr.1 0) 0 0 p = some z := hz
          have ez := qu0_go (b := b) (n := n) (m := b - 1) (V := V) ob.1 ob.2 (by omega) ei (by omega) cfFU 0 0 p z B rfl (Nat.zero_le _) (fun j hj => absurd hj (by omega)) hz
          rw [← Option.some.inj h1]
          refine ⟨rfl, t0, ?_⟩
          rcases D2 with ⟨_, D⟩ | ⟨D, _⟩ | ⟨D, _⟩ | ⟨D, _⟩
          · exact Int32.toInt_inj.mp (by rw [D]; exact ez)
          · rw [y] at D; exact absurd D (by decide)
          · rw [y] at D; exact absurd D (by decide)
          · exact absurd y D
        · rcases ifc h1 with ⟨y1, h1⟩ | ⟨y1, h1⟩
          · obtain ⟨z, hz, h1⟩ := bd h1
            have ez := ons_sp G S B ob.1 ob.2 ei hz
            rw [← Option.some.inj h1]
            refine ⟨rfl, t0, ?_⟩
            rcases D2 with ⟨D, _⟩ | ⟨_, D⟩ | ⟨D, _⟩ | ⟨_, D, _⟩
            · exact absurd D y
            · exact Int32.toInt_inj.mp (by rw [D]; exact ez)
            · rw [y1] at D; exact absurd D (by decide)
            · exact absurd y1 D
          · rcases ifc h1 with ⟨y2, h1⟩ | ⟨y2, h1⟩
            · obtain ⟨z, hz, h1⟩ := bd h1
              unfold fFu_leastUnlike fFu_leastUnlike_0 at hz
              have L1 := LuC_n (y := 0) G S (by omega) (by rw [show (0 : Int32).toInt = 0 from rfl]; omega) (lu2_go (y := 0) B ob.1 ob.2 (by decide) (by rw [show (0 : Int32).toInt = 0 from rfl]; omega) (by omega) cfFU 0 z (by decide) (by decide) (fun i hi => absurd hi (by rw [show (0 : Int32).toInt = 0 from rfl]; omega)) hz)
              have ef : lvq V 0 = fun _ => false := by
                funext i
                show (V 0 i ^^ od 0) = false
                rw [S.1 i]; decide
              rw [ef] at L1
              rw [← Option.some.inj h1]
              refine ⟨rfl, t0, ?_⟩
              rcases D2 with ⟨D, _⟩ | ⟨D, _⟩ | ⟨_, D⟩ | ⟨_, _, D, _⟩
              · exact absurd D y
              · exact absurd D y1
              · exact LuC_u L1 D
              · exact absurd y2 D
            · rcases ifc h1 with ⟨y3, h1⟩ | ⟨y3, h1⟩
              · obtain ⟨z, hz, h1⟩ := bd h1
                have hz : gFu_firstAsked cfFU 0 (gr.2.1 7 v1.toInt.toNat) (gr.1 0) 0 0 p = some z := hz
                have ez := (fas_go (m := b - 1) B ob.1 ob.2 (by omega) ei (by omega) cfFU).1 0 0 z rfl (Nat.zero_le _) (fun j hj => absurd hj (by omega)) hz
                rw [← Option.some.inj h1]
                refine ⟨rfl, t0, ?_⟩
                rcases D2 with ⟨D, _⟩ | ⟨D, _⟩ | ⟨D, _⟩ | ⟨_, _, _, D⟩
                · exact absurd D y
                · exact absurd D y1
                · exact absurd D y2
                · exact FaQ_u ez D
              · exfalso
                have z0 : ¬ v2.toInt = 0 := c_ne y
                have z1 : ¬ v2.toInt = 1 := c_ne y1
                have z2 : ¬ v2.toInt = 2 := c_ne y2
                have z3 : ¬ v2.toInt = 3 := c_ne y3
                omega
