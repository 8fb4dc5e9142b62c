def AkI (F : Nat → Bool) (m k : Nat) (P : Nat → Int32) (L : Int) (i a : Nat) (fu : cf_O) : Prop := (∀ t : Nat, i ≤ t → t < 2 ^ (k + 1) → fu.2.1 2 t = P t) ∧ (∀ t : Nat, t < i → (P t = P (t + 2 ^ k) ∧ fu.2.1 2 t = P t) ∨ (¬ P t = P (t + 2 ^ k) ∧ ∃ q : Nat, q < a ∧ (fu.2.1 2 t).toInt = L + (q : Int) ∧ fu.2.1 3 q = P t ∧ fu.2.1 4 q = P (t + 2 ^ k))) ∧ (∀ q p : Nat, q < a → p < a → fu.2.1 3 q = fu.2.1 3 p → fu.2.1 4 q = fu.2.1 4 p → q = p) ∧ (∀ q : Nat, q < a → ∃ t : Nat, t < i ∧ ¬ P t = P (t + 2 ^ k) ∧ fu.2.1 3 q = P t ∧ fu.2.1 4 q = P (t + 2 ^ k)) ∧ a = qnL F m k i
theorem ak_go {F : Nat → Bool} {m k : Nat} {P : Nat → Int32} {L : Int} {v1 v2 : Int32} (hk : k < m) (hm : m ≤ 8) (PI : PaI F m (k + 1) P L) (e1 : v1.toInt = (k : Int)) (e2 : v2.toInt = L) (l2 : 2 ≤ L) (l9 : L ≤ 300) : ∀ (f i a : Nat) (v3 v4 : Int32) (fu : cf_O) (r : Int32 × cf_O), v3.toInt = (a : Int) → v4.toInt = (i : Int) → i ≤ 2 ^ k → AkI F m k P L i a fu → gFu_askInput f 0 v1 v2 v3 v4 fu = some r → ∃ a2 : Nat, r.1.toInt = (a2 : Int) ∧ AkI F m k P L (2 ^ k) a2 r.2
  | 0, i, a, v3, v4, fu, r, e3, e4, hi, A, h => by cases h
  | f + 1, i, a, v3, v4, fu, r, e3, e4, hi, A, h => by
    have h : fFu_askInput_5 (gFu_askInput f) v1 v2 v3 v4 fu = some r := h
    unfold fFu_askInput_5 at h
    rw [opk] at h
    have es := s1_9 k (by omega)
    rw [← on_i e1] at es
    have pk : 2 ^ k ≤ 128 := Nat.le_trans (Nat.pow_le_pow_right (by decide) (show k ≤ 7 by omega)) (by decide)
    have pk1 : 2 ^ (k + 1) = 2 * 2 ^ k := by rw [Nat.pow_succ]; omega
    rcases ifc h with ⟨c, h⟩ | ⟨c, h⟩
    · have c := c_le c
      rw [← Option.some.inj h]
      have ei : i = 2 ^ k := by omega
      subst ei
      exact ⟨a, e3, A⟩
    · have c := c_nle c
      obtain ⟨A1, A2, A3, A4, A5⟩ := A
      have al : a ≤ i := by rw [A5]; exact cnF_le i
      have h := (ifn h).2
      rw [opk, opk, opk, tW e4, A1 i (Nat.le_refl _) (by omega)] at h
      have ex : (v4 + (1 : Int32) <<< (v1 &&& 31)).toInt = ((i + 2 ^ k : Nat) : Int) := by rw [Int32.toInt_add, es, e4, i_bm (by omega) (by omega)]; omega
      have h := (ifn h).2
      rw [opk, tW ex, A1 (i + 2 ^ k) (by omega) (by omega)] at h
      have p4 := pW (v := v4) (by omega) (by omega)
      have dpi : dpB F m k i = true ↔ ¬ P i = P (i + 2 ^ k) := by rw [dp_s hk, PI.1 i (i + 2 ^ k) (by omega) (by omega)]
      have ali : ∀ c : Nat, c < i → (alB F m k i c = true ↔ (P i = P c ∧ P (i + 2 ^ k) = P (c + 2 ^ k))) := fun c hc => by
        rw [al_s hk, PI.1 i c (by omega) (by omega), PI.1 (i + 2 ^ k) (c + 2 ^ k) (by omega) (by omega)]
      have qs : qnL F m k (i + 1) = qnL F m k i + (if nqB F m k i then 1 else 0) := rfl
      rcases ifc h with ⟨d, h⟩ | ⟨d, h⟩
      · refine ak_go hk hm PI e1 e2 l2 l9 f (i + 1) a v3 (v4 + 1) fu r e3 (by omega) (by omega) ⟨fun t t1 t2 => A1 t (by omega) t2, fun t ht => ?_, A3, fun q hq => ?_, ?_⟩ h
        · by_cases et : t = i
          · rw [et]; exact Or.inl ⟨d, A1 i (Nat.le_refl _) (by omega)⟩
          · exact A2 t (by omega)
        · obtain ⟨t, t1, t2⟩ := A4 q hq
          exact ⟨t, by omega, t2⟩
        · rw [qs, ← A5]
          have : nqB F m k i = false := by
            unfold nqB
            cases hd : dpB F m k i with
            | false => rfl
            | true => exact absurd d (dpi.mp hd)
          rw [this]; rfl
      · obtain ⟨q, hq, h⟩ := bd h
        have hq : gFu_questionOf cfFU 0 (P i) (P (i + 2 ^ k)) v3 0 fu = some q := hq
        have Q := qof_go e3 (by omega) cfFU 0 0 q rfl (Nat.zero_le _) (fun j hj => absurd hj (by omega)) hq
        have dt := dpi.mpr d
        rcases ifc h with ⟨y, h⟩ | ⟨y, h⟩
        · -- a new question
          rcases Q with ⟨j, j1, j2, _⟩ | ⟨q1, q2⟩
          · rw [y] at j2; omega
          have h := (ifn h).2
          rw [opk, tW e3] at h
          have h := (ifn h).2
          rw [opk, opk] at h
          unfold fFu_askInput_81 at h
          rw [opk] at h
          have h := (ifn h).2
          rw [opk, tW e4, y] at h
          unfold fFu_askInput_92 at h
          rw [opk] at h
          have ev : (v2 + v3).toInt = L + (a : Int) := by rw [Int32.toInt_add, e2, e3, i_bm (by omega) (by omega)]
          have f2 : ∀ t : Nat, (xp (xp (xp fu 3 a (P i)) 4 a (P (i + 2 ^ k))) 2 i (v2 + v3)).2.1 2 t = upd (fu.2.1 2) i (v2 + v3) t := fun t => rfl
          have f3 : ∀ t : Nat, (xp (xp (xp fu 3 a (P i)) 4 a (P (i + 2 ^ k))) 2 i (v2 + v3)).2.1 3 t = upd (fu.2.1 3) a (P i) t := fun t => rfl
          have f4 : ∀ t : Nat, (xp (xp (xp fu 3 a (P i)) 4 a (P (i + 2 ^ k))) 2 i (v2 + v3)).2.1 4 t = upd (fu.2.1 4) a (P (i + 2 ^ k)) t := fun t => rfl
          generalize xp (xp (xp fu 3 a (P i)) 4 a (P (i + 2 ^ k))) 2 i (v2 + v3) = fu' at h f2 f3 f4
          refine ak_go hk hm PI e1 e2 l2 l9 f (i + 1) (a + 1) (v3 + 1) (v4 + 1) fu' r (by rw [pW (by omega) (by omega)]; omega) (by omega) (by omega) ⟨fun t t1 t2 => ?_, fun t ht => ?_, fun p p' hp hp' => ?_, fun p hp => ?_, ?_⟩ h
          · rw [f2, up_o (by omega)]; exact A1 t (by omega) t2
          · by_cases et : t = i
            · rw [et, f2, up_s]
              exact Or.inr ⟨d, a, by omega, ev, by rw [f3, up_s], by rw [f4, up_s]⟩
            · rw [f2, up_o et]
              rcases A2 t (by omega) with z | ⟨z, p, p1, p2, p3, p4'⟩
              · exact Or.inl z
              · exact Or.inr ⟨z, p, by omega, p2, by rw [f3, up_o (by omega)]; exact p3, by rw [f4, up_o (by omega)]; exact p4'⟩
          · rw [f3, f3, f4, f4]
            by_cases pa : p = a
            · by_cases pb : p' = a
              · intro _ _; rw [pa, pb]
              · rw [pa, up_s, up_s, up_o pb, up_o pb]
                intro z1 z2
                exact absurd ⟨z1.symm, z2.symm⟩ (q2 p' (by omega))
            · by_cases pb : p' = a
              · rw [pb, up_s, up_s, up_o pa, up_o pa]
                intro z1 z2
                exact absurd ⟨z1, z2⟩ (q2 p (by omega))
              · rw [up_o pa, up_o pa, up_o pb, up_o pb]
                exact A3 p p' (by omega) (by omega)
          · by_cases pa : p = a
            · exact ⟨i, by omega, d, by rw [pa, f3, up_s], by rw [pa, f4, up_s]⟩
            · obtain ⟨t, t1, t2, t3, t4⟩ := A4 p (by omega)
              exact ⟨t, by omega, t2, by rw [f3, up_o pa]; exact t3, by rw [f4, up_o pa]; exact t4⟩
          · rw [qs, ← A5]
            have : nqB F m k i = true := by
              unfold nqB
              rw [dt, Bool.true_and]
              refine List.all_eq_true.mpr (fun c hc => ?_)
              have hc := List.mem_range.mp hc
              cases hb : alB F m k i c with
              | false => rfl
              | true =>
                obtain ⟨z1, z2⟩ := (ali c hc).mp hb
                rcases A2 c hc with ⟨w, _⟩ | ⟨_, p, p1, _, p3, p4'⟩
                · exact absurd (z1.trans (w.trans z2.symm)) d
                · exact absurd ⟨p3.trans z1.symm, p4'.trans z2.symm⟩ (q2 p p1)
            rw [this]; rfl
        · -- an old one
          rcases Q with ⟨j, j1, j2, j3, j4⟩ | ⟨q1, _⟩
          · unfold fFu_askInput_81 at h
            rw [opk] at h
            have h := (ifn h).2
            rw [opk, tW e4] at h
            unfold fFu_askInput_92 at h
            rw [opk] at h
            have ev : (v2 + q).toInt = L + (j : Int) := by rw [Int32.toInt_add, e2, j2, i_bm (by omega) (by omega)]
            have f2 : ∀ t : Nat, (xp fu 2 i (v2 + q)).2.1 2 t = upd (fu.2.1 2) i (v2 + q) t := fun t => rfl
            refine ak_go hk hm PI e1 e2 l2 l9 f (i + 1) a v3 (v4 + 1) (xp fu 2 i (v2 + q)) r e3 (by omega) (by omega) ⟨fun t t1 t2 => ?_, fun t ht => ?_, A3, fun p hp => ?_, ?_⟩ h
            · rw [f2, up_o (by omega)]; exact A1 t (by omega) t2
            · by_cases et : t = i
              · rw [et, f2, up_s]
                exact Or.inr ⟨d, j, j1, ev, j3, j4⟩
              · rw [f2, up_o et]; exact A2 t (by omega)
            · obtain ⟨t, t1, t2⟩ := A4 p hp
              exact ⟨t, by omega, t2⟩
            · rw [qs, ← A5]
              have : nqB F m k i = false := by
                unfold nqB
                rw [dt, Bool.true_and]
                obtain ⟨t, t1, t2, t3, t4⟩ := A4 j j1
                refine List.all_eq_false.mpr ⟨t, List.mem_range.mpr t1, ?_⟩
                rw [(ali t t1).mpr ⟨j3.symm.trans t3, j4.symm.trans t4⟩]; decide
              rw [this]; rfl
          · exact absurd (Int32.toInt_inj.mp (by rw [q1, e3])) y
theorem ak_fin {F : Nat → Bool} {m k a : Nat} {P : Nat → Int32} {L : Int} {fu : cf_O} (hk : k < m) (PI : PaI F m (k + 1) P L) (A : AkI F m k P L (2 ^ k) a fu) (l2 : 2 ≤ L) : PaI F m k (fu.2.1 2) (L + (a : Int)) := by
  obtain ⟨A1, A2, A3, A4, A5⟩ := A
  have pk1 : 2 ^ (k + 1) = 2 * 2 ^ k := by rw [Nat.pow_succ]; omega
  refine ⟨fun i j hi hj => ?_, fun i hi => ?_⟩
  · rw [al_s hk, ← PI.1 i j (by omega) (by omega), ← PI.1 (i + 2 ^ k) (j + 2 ^ k) (by omega) (by omega)]
    have bi := PI.2 i (by omega)
    have bj := PI.2 j (by omega)
    rcases A2 i hi with ⟨x1, x2⟩ | ⟨x1, p, p1, p2, p3, p4⟩ <;> rcases A2 j hj with ⟨y1, y2⟩ | ⟨y1, q, q1, q2, q3, q4⟩
    · rw [x2, y2, ← x1, ← y1]; exact ⟨fun z => ⟨z, z⟩, fun z => z.1⟩
    · constructor
      · intro z; rw [x2] at z; rw [← z] at q2; omega
      · rintro ⟨z1, z2⟩; exact absurd (z1.symm.trans (x1.trans z2)) y1
    · constructor
      · intro z; rw [y2] at z; rw [z] at p2; omega
      · rintro ⟨z1, z2⟩; exact absurd (z1.trans (y1.trans z2.symm)) x1
    · constructor
      · intro z
        have e : p = q := by rw [z] at p2; omega
        subst e
        exact ⟨p3.symm.trans q3, p4.symm.trans q4⟩
      · rintro ⟨z1, z2⟩
        have e : p = q := A3 p q p1 q1 (p3.trans (z1.trans q3.symm)) (p4.trans (z2.trans q4.symm))
        subst e
        exact Int32.toInt_inj.mp (p2.trans q2.symm)
  · have b := PI.2 i (by omega)
    rcases A2 i hi with ⟨_, x2⟩ | ⟨_, p, p1, p2, _⟩
    · rw [x2]; omega
    · omega
theorem qu1_go {F : Nat → Bool} {m : Nat} (hm : m ≤ 8) : ∀ (f k : Nat) (v3 v4 : Int32) (fu : cf_O) (r : Int32 × cf_O), k ≤ m → v4.toInt = (k : Int) - 1 → v3.toInt + (qnT F m k : Int) = (qnT F m m : Int) → 0 ≤ v3.toInt → PaI F m k (fu.2.1 2) (v3.toInt + 2) → gFu_questions f 1 0 0 v3 v4 fu = some r → r.1.toInt = (qnT F m m : Int)
  | 0, k, v3, v4, fu, r, hk, e4, e3, v30, PI, h => by cases h
  | f + 1, k, v3, v4, fu, r, hk, e4, e3, v30, PI, h => by
    have h : fFu_questions_34 (gFu_questions f) v3 v4 fu = some r := h
    unfold fFu_questions_34 at h
    have ql := qn_le (F := F) (m := m) m
    have p9 : 2 ^ m ≤ 256 := Nat.le_trans (Nat.pow_le_pow_right (by decide) hm) (by decide)
    rcases ifc h with ⟨a, h⟩ | ⟨a, h⟩
    · have a : v4.toInt < 0 := c_lt a
      have k0 : k = 0 := by omega
      subst k0
      rw [← Option.some.inj h]
      have e3 : v3.toInt + ((0 : Nat) : Int) = _ := e3
      show v3.toInt = _
      omega
    · have a : 0 ≤ v4.toInt := c_nlt a
      obtain ⟨j, hj⟩ : ∃ j : Nat, k = j + 1 := ⟨k - 1, by omega⟩
      subst hj
      rw [opk] at h
      have e2 : (v3 + 2).toInt = v3.toInt + 2 := by rw [Int32.toInt_add, show (2 : Int32).toInt = 2 from rfl, i_bm (by omega) (by omega)]
      obtain ⟨q, hq, h⟩ := bd h
      rw [opk, opk] at h
      have hq : gFu_askInput cfFU 0 v4 (v3 + 2) 0 0 fu = some q := hq
      have qt : qnT F m (j + 1) = qnT F m j + qnL F m j (2 ^ j) := rfl
      obtain ⟨a2, q1, q2⟩ := ak_go (F := F) (m := m) (k := j) (P := fu.2.1 2) (L := v3.toInt + 2) (by omega) hm PI (by omega) e2 (by omega) (by omega) cfFU 0 0 0 0 fu q rfl rfl (Nat.zero_le _) ⟨fun t _ _ => rfl, fun t ht => absurd ht (by omega), fun p p' hp => absurd hp (by omega), fun p hp => absurd hp (by omega), rfl⟩ hq
      have ea : a2 = qnL F m j (2 ^ j) := q2.2.2.2.2
      have PJ := ak_fin (by omega) PI q2 (by omega)
      have m4 := m_1g (v := v4) a
      generalize v4 + (-1) = w4 at h m4
      have e5 : (v3 + q.1).toInt = v3.toInt + (a2 : Int) := by rw [Int32.toInt_add, q1, i_bm (by omega) (by omega)]
      refine qu1_go hm f j (v3 + q.1) w4 q.2 r (by omega) (by omega) (by omega) (by omega) ?_ h
      rw [e5, show v3.toInt + (a2 : Int) + 2 = v3.toInt + 2 + (a2 : Int) by omega]; exact PJ
theorem qu0_go {b n m : Nat} {x v2 : Int32} {V : Nat → Nat → Bool} (x0 : 0 ≤ x.toInt) (x1 : x.toInt < 2 * ((b + n : Nat) : Int)) (bn : b + n ≤ 209) (e2 : v2.toInt = (m : Int)) (hm : m ≤ 8) : ∀ (f i : Nat) (v3 : Int32) (fu : cf_O) (r : Int32 × cf_O), FuB b n V fu → v3.toInt = (i : Int) → i ≤ 2 ^ m → (∀ j : Nat, j < i → fu.2.1 2 j = bI (lvq V x j)) → gFu_questions f 0 x v2 v3 0 fu = some r → r.1.toInt = (qnT (lvq V x) m m : Int)
  | 0, i, v3, fu, r, B, e3, hi, H, h => by cases h
  | f + 1, i, v3, fu, r, B, e3, hi, H, h => by
    have h : fFu_questions_2 (gFu_questions f) x v2 v3 fu = some r := h
    unfold fFu_questions_2 at h
    rw [opk] at h
    have es := s1_9 m (by omega)
    rw [← on_i e2] at es
    have p9 : 2 ^ m ≤ 256 := Nat.le_trans (Nat.pow_le_pow_right (by decide) hm) (by decide)
    rcases ifc h with ⟨a, h⟩ | ⟨a, h⟩
    · have a := c_le a
      have ei : i = 2 ^ m := by omega
      subst ei
      rw [opk] at h
      refine qu1_go (F := lvq V x) hm f m 0 (v2 - 1) fu r (Nat.le_refl _) (by rw [Int32.toInt_sub, show (1 : Int32).toInt = 1 from rfl, i_bm (by omega) (by omega)]; omega) (by rw [show (0 : Int32).toInt = 0 from rfl]; omega) (by decide) ⟨fun i j hi hj => ?_, fun i hi => ?_⟩ h
      · rw [H i hi, H j hj, bI_i, alB_i, Nat.sub_self]
        constructor
        · intro z r hr
          have r0 : r = 0 := by have : r < 1 := hr; omega
          rw [r0, Nat.mul_zero]; exact z
        · intro z
          have z := z 0 (by decide)
          rw [Nat.mul_zero] at z; exact z
      · rw [H i hi]
        cases lvq V x i <;> decide
    · have a := c_nle a
      obtain ⟨q, hq, h⟩ := bd h
      have eq := bit_sp B x0 x1 bn (by omega) (by omega) hq
      rw [show v3.toInt.toNat = i by omega] at eq
      have h := (ifn h).2
      rw [opk, opk, tW e3, eq] at h
      refine qu0_go x0 x1 bn e2 hm f (i + 1) (v3 + 1) (xp fu 2 i (bI (lvq V x i))) r (fun k w j h1 h2 h3 => B k w j h1 h2 h3) (by rw [pW (by omega) (by omega)]; omega) (by omega) (fun j hj => ?_) h
      show upd (fu.2.1 2) i (bI (lvq V x i)) j = _
      by_cases ej : j = i
      · rw [ej, up_s]
      · rw [up_o ej]; exact H j (by omega)
