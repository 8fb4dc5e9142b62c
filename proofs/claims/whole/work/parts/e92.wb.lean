theorem cv_go {s j : Nat} {t v3 : Int32} {o : cf_O} {r : Int32 × cf_O} {ps : List Nat} (hs : s < 5) (hj : j < 16) (S : SpE o ps) (hl : ps.length ≤ 16) (hp : ∀ p ∈ ps, p < 81) : ∀ (f k : Nat) (w : Bool) (v7 : Int32), v7.toInt = (k : Int) → gM_sum f 2 t (Int32.ofNat s) v3 (Int32.ofNat (3 ^ s)) (Int32.ofNat j) (bI w) v7 0 o = some r → ∃ f2 : Nat, ((w || cvN s (ps.drop k) j) = true ∧ gM_sum f2 1 t (Int32.ofNat s) v3 (Int32.ofNat (3 ^ s)) (Int32.ofNat j + 1) 0 0 0 o = some r) ∨ ((w || cvN s (ps.drop k) j) = false ∧ gM_sum f2 3 t (Int32.ofNat s) v3 (Int32.ofNat (3 ^ s)) (Int32.ofNat j) 0 (-1) 0 o = some r)
  | 0, k, w, v7, h7, h => by cases h
  | f + 1, k, w, v7, h7, h => by
    have h : fM_sum_61 (gM_sum f) t (Int32.ofNat s) v3 (Int32.ofNat (3 ^ s)) (Int32.ofNat j) (bI w) v7 o = some r := h
    unfold fM_sum_61 at h
    rcases ifc h with ⟨a, h⟩ | ⟨a, h⟩
    · have a := Int32.le_iff_toInt_le.mp a
      have s1 := S.1
      rw [List.drop_eq_nil_of_le (by omega)]
      have ez : (w || cvN s [] j) = w := by
        show (w || false) = w
        rw [Bool.or_false]
      rw [ez]
      rcases ifc h with ⟨c, h⟩ | ⟨c, h⟩
      · exact ⟨f, Or.inr ⟨bI_0.mp c, h⟩⟩
      · refine ⟨f, Or.inl ⟨?_, h⟩⟩
        cases w with
        | true => rfl
        | false => exact absurd rfl c
    · have a : ¬ (o.1 70).toInt ≤ v7.toInt := fun q => a (Int32.le_iff_toInt_le.mpr q)
      have s1 := S.1
      have kl : k < ps.length := by omega
      have ek : ps[k]? = some ps[k] := List.getElem?_eq_getElem kl
      have p7 := pW (v := v7) (by omega) (by omega)
      have ed : ps.drop k = ps[k] :: ps.drop (k + 1) := List.drop_eq_getElem_cons kl
      have eo : ∀ x : Bool, (x || cvN s (ps[k] :: ps.drop (k + 1)) j) = ((x || ioN ps[k] j s) || cvN s (ps.drop (k + 1)) j) := fun x => by
        show (x || (ioN ps[k] j s || _)) = _
        rw [Bool.or_assoc]; rfl
      rw [ed, eo]
      have nx : ∀ x : Bool, gM_sum f 2 t (Int32.ofNat s) v3 (Int32.ofNat (3 ^ s)) (Int32.ofNat j) (bI x) (v7 + 1) 0 o = some r → x = (w || ioN ps[k] j s) → _ := fun x q ex => by
        have z := cv_go hs hj S hl hp f (k + 1) x (v7 + 1) (by omega) q
        rw [ex] at z
        exact z
      rcases ifc h with ⟨c, h⟩ | ⟨c, h⟩
      · rcases ifc h with ⟨_, h⟩ | ⟨_, h⟩
        · cases h
        rw [opk, tW h7, S.2 k _ ek] at h
        obtain ⟨q, hq, h⟩ := bd h
        rw [io_t _ (hp _ (List.getElem_mem kl)) j hj s hs] at hq
        have eq := Option.some.inj hq
        rcases ifc h with ⟨d, h⟩ | ⟨d, h⟩
        · rw [← eq] at d
          exact nx false h (by rw [bI_0.mp c, bI_0.mp d]; rfl)
        · refine nx true h ?_
          cases hio : ioN ps[k] j s with
          | true => rw [Bool.or_true]
          | false => rw [hio] at eq; exact absurd eq.symm d
      · refine nx true h ?_
        cases w with
        | true => rfl
        | false => exact absurd rfl c
theorem csN_b {s : Nat} (hs : s < 5) : ∀ {ps : List Nat}, (∀ p ∈ ps, p < 81) → csN s ps ≤ 5 * ps.length
  | [], _ => Nat.le_refl _
  | p :: ps, h => by
    have ih := csN_b hs (ps := ps) (fun q hq => h q (List.mem_cons_of_mem _ hq))
    have b := li_b p (h p (List.mem_cons_self ..)) s hs
    unfold csN at ih ⊢
    rw [List.map_cons, List.sum_cons, List.length_cons]
    omega
theorem Sp_s {o : cf_O} {ps : List Nat} {p : Nat} (S : SpE o ps) (hl : ps.length ≤ 15) : SpE (fp (xp o 69 (o.1 70).toNatClampNeg (Int32.ofNat p)) 70 (o.1 70 + 1)) (ps ++ [p]) := by
  have i := tW S.1
  have s1 := S.1
  refine ⟨?_, fun k q hk => ?_⟩
  · show (o.1 70 + 1).toInt = _
    rw [pW (by omega) (by omega), List.length_append, S.1]; rfl
  · show upd (o.2.1 69) (o.1 70).toNatClampNeg (Int32.ofNat p) k = _
    rw [i]
    by_cases c : k < ps.length
    · rw [List.getElem?_append_left c] at hk
      rw [up_o (by omega)]; exact S.2 k q hk
    · have kl : k < (ps ++ [p]).length := (List.getElem?_eq_some_iff.mp hk).1
      rw [List.length_append] at kl
      have kl : k < ps.length + 1 := kl
      have ek : k = ps.length := by omega
      subst ek
      rw [List.getElem?_append_right (Nat.le_refl _), Nat.sub_self] at hk
      rw [up_s, show p = q from Option.some.inj hk]
theorem sm_go {s : Nat} {t : Int32} {O : cf_O} (hs : s < 5) (t0 : 0 ≤ t.toInt) : ∀ (c f j : Nat) (v3 : Int32) (ps : List Nat) (o : cf_O) (r : Int32 × cf_O), j + c = 2 ^ s → SpE o ps → ps.length ≤ j → (∀ p ∈ ps, p < 3 ^ s) → v3.toInt = (csN s ps : Int) → Fr (fr_M [70] [69] []) O o → gM_sum f 1 t (Int32.ofNat s) v3 (Int32.ofNat (3 ^ s)) (Int32.ofNat j) 0 0 0 o = some r → r.1.toInt = (csN s (smN s (bt t) c j ps) : Int) ∧ SpE r.2 (smN s (bt t) c j ps) ∧ Fr (fr_M [70] [69] []) O r.2 ∧ (∀ p ∈ smN s (bt t) c j ps, p < 3 ^ s)
  | c, 0, j, v3, ps, o, r, hc, S, hl, hp, h3, F, h => by cases h
  | c, f + 1, j, v3, ps, o, r, hc, S, hl, hp, h3, F, h => by
    have b4 := pw4 hs
    have h : fM_sum_34 (gM_sum f) t (Int32.ofNat s) v3 (Int32.ofNat (3 ^ s)) (Int32.ofNat j) o = some r := h
    unfold fM_sum_34 at h
    rw [opk] at h
    have e1 := s1_t s hs
    have ej : (Int32.ofNat j).toInt = (j : Int) := ofiN (by omega)
    rcases ifc h with ⟨a, h⟩ | ⟨a, h⟩
    · have a := Int32.le_iff_toInt_le.mp a
      have c0 : c = 0 := by omega
      subst c0
      have er := (Option.some.inj h).symm
      subst er
      exact ⟨h3, S, F, hp⟩
    · have a : ¬ ((1 : Int32) <<< (Int32.ofNat s &&& 31)).toInt ≤ (Int32.ofNat j).toInt := fun q => a (Int32.le_iff_toInt_le.mpr q)
      obtain ⟨c, rfl⟩ : ∃ d, c = d + 1 := ⟨c - 1, by omega⟩
      have ej1 : Int32.ofNat j + 1 = Int32.ofNat (j + 1) := Int32.toInt_inj.mp (by rw [pW (by omega) (by omega), ofiN (by omega), ofiN (by omega)]; rfl)
      have hp81 : ∀ p ∈ ps, p < 81 := fun p hq => by have := hp p hq; omega
      rw [opk, opk] at h
      have tb := tbit (t := t) (j := j) t0 (by omega)
      -- what the check says
      have ck : ∀ w : Bool, w = !bt t j → gM_sum f 2 t (Int32.ofNat s) v3 (Int32.ofNat (3 ^ s)) (Int32.ofNat j) (bI w) 0 0 o = some r → r.1.toInt = (csN s (smN s (bt t) (c + 1) j ps) : Int) ∧ SpE r.2 (smN s (bt t) (c + 1) j ps) ∧ Fr (fr_M [70] [69] []) O r.2 ∧ (∀ p ∈ smN s (bt t) (c + 1) j ps, p < 3 ^ s) := fun w ew q => by
        obtain ⟨f2, z⟩ := cv_go hs (by omega) S (by omega) hp81 f 0 w 0 rfl q
        rw [List.drop_zero] at z
        unfold smN
        rcases z with ⟨z1, z2⟩ | ⟨z1, z2⟩
        · have cn : ¬ (bt t j && !cvN s ps j) = true := fun y => by
            obtain ⟨y1, y2⟩ := (Bool.and_eq_true _ _).mp y
            rw [ew, y1] at z1
            have z1 : cvN s ps j = true := z1
            rw [z1] at y2; cases y2
          rw [if_neg cn]
          rw [ej1] at z2
          exact sm_go hs t0 c f2 (j + 1) v3 ps o r (by omega) S (by omega) hp h3 F z2
        · obtain ⟨y1, y2⟩ := (Bool.or_eq_false_iff).mp z1
          have bj : bt t j = true := by
            rw [ew] at y1
            cases hb : bt t j with
            | true => rfl
            | false => rw [hb] at y1; cases y1
          rw [if_pos (by rw [bj, y2]; rfl)]
          have s1 := S.1
          obtain ⟨f3, l, hl3, z3⟩ := sb_go (r := r) hs (by omega) t0 (o := o) ⟨by omega, by omega⟩ f2 0 0 rfl (Nat.zero_le _) z2
          obtain ⟨B1, B2, B3, B4⟩ := best_b (T := bt t) hs (show j < 2 ^ s by omega) bj
          rw [B2] at hl3 z3
          have hl3 : fM_literalsOf (Int32.ofNat (bestN s (bt t) j)) (Int32.ofNat s) = some l := hl3
          rw [li_t _ (by omega) s hs] at hl3
          have el := (Option.some.inj hl3).symm
          have lb := li_b (bestN s (bt t) j) (by omega) s hs
          have eli : l.toInt = (liN (bestN s (bt t) j) s : Int) := by rw [el]; exact ofiN (by omega)
          rw [ej1] at z3
          have cb := csN_b hs hp81
          have p70 := pW (v := o.1 70) (by omega) (by omega)
          refine sm_go hs t0 c f3 (j + 1) _ (ps ++ [bestN s (bt t) j]) _ r (by omega) (Sp_s S (by omega)) (by rw [List.length_append]; show ps.length + 1 ≤ _; omega) (fun p hq => ?_) ?_ (fr_fp (fr_xp F rfl) rfl) z3
          · rcases List.mem_append.mp hq with y | y
            · exact hp p y
            · rw [List.mem_singleton.mp y]; exact B1
          · rw [csN_s]
            have q1 : (if l ≤ 0 then (0 : Int32) else l - 1).toInt = ((liN (bestN s (bt t) j) s - 1 : Nat) : Int) := by
              by_cases y : l ≤ 0
              · rw [if_pos y]
                have y := Int32.le_iff_toInt_le.mp y
                have y : l.toInt ≤ 0 := y
                show (0 : Int) = _
                omega
              · rw [if_neg y]
                have y : ¬ l.toInt ≤ (0 : Int32).toInt := fun z => y (Int32.le_iff_toInt_le.mpr z)
                have y : ¬ l.toInt ≤ 0 := y
                rw [i_sub' (by omega) (by omega) (by decide) (by decide)]
                show _ - (1 : Int) = _
                omega
            have q2 : (if o.1 70 + 1 ≤ 1 then (0 : Int32) else 1).toInt = (if ps = [] then (0 : Int) else 1) := by
              by_cases y : ps = []
              · rw [if_pos y]
                rw [y] at s1
                have s1 : (o.1 70).toInt = 0 := s1
                rw [if_pos (Int32.le_iff_toInt_le.mpr (by rw [p70, s1]; decide))]; rfl
              · rw [if_neg y]
                have : 0 < ps.length := List.length_pos_iff.mpr y
                rw [if_neg (fun z => by
                  have z := Int32.le_iff_toInt_le.mp z
                  have z : (o.1 70 + 1).toInt ≤ 1 := z
                  omega)]; rfl
            generalize (if l ≤ 0 then (0 : Int32) else l - 1) = x1 at q1 ⊢
            generalize (if o.1 70 + 1 ≤ 1 then (0 : Int32) else 1) = x2 at q2 ⊢
            have q3 : x2.toInt = ((if ps = [] then 0 else 1 : Nat) : Int) := by
              rw [q2]; split <;> rfl
            have q4 : (if ps = [] then 0 else 1 : Nat) ≤ 1 := by split <;> omega
            generalize (if ps = [] then 0 else 1 : Nat) = n2 at q3 q4 ⊢
            have a1 : (v3 + x1).toInt = v3.toInt + x1.toInt := by rw [i_add (by omega) (by omega)]
            rw [i_add (by omega) (by omega), a1]
            omega
      rcases ifc h with ⟨b, h⟩ | ⟨b, h⟩
      · exact ck true (by rw [tb.2.mp b]; rfl) h
      · refine ck false ?_ h
        cases hb : bt t j with
        | true => rfl
        | false => exact absurd (tb.2.mpr hb) b
theorem al_go {s : Nat} {t : Int32} {o : cf_O} {r : Int32 × cf_O} (hs : s < 5) : ∀ (f k : Nat) (v5 : Int32), v5.toInt = (k : Int) → k ≤ s → gM_sum f 0 t (Int32.ofNat s) 0 (Int32.ofNat (3 ^ k)) v5 0 0 0 o = some r → ∃ f2 : Nat, gM_sum f2 1 t (Int32.ofNat s) 0 (Int32.ofNat (3 ^ s)) 0 0 0 0 o = some r
  | 0, k, v5, h5, hk, h => by cases h
  | f + 1, k, v5, h5, hk, h => by
    have h : fM_sum_13 (gM_sum f) t (Int32.ofNat s) 0 (Int32.ofNat (3 ^ k)) v5 o = some r := h
    unfold fM_sum_13 at h
    have es : (Int32.ofNat s).toInt = (s : Int) := ofiN (by omega)
    rcases ifc h with ⟨a, h⟩ | ⟨a, h⟩
    · have a := Int32.le_iff_toInt_le.mp a
      have e : k = s := by omega
      subst e
      exact ⟨f, h⟩
    · have a : ¬ (Int32.ofNat s).toInt ≤ v5.toInt := fun q => a (Int32.le_iff_toInt_le.mpr q)
      rw [opk, opk, (pw_t k (by omega)).2] at h
      exact al_go hs f (k + 1) (v5 + 1) (by rw [pW (by omega) (by omega)]; omega) (by omega) h
theorem msum_sp {s : Nat} {t v2 : Int32} {o : cf_O} {r : Int32 × cf_O} (hs : s < 5) (e2 : v2.toInt = (s : Int)) (t0 : 0 ≤ t.toInt) (h : fM_sum t v2 o = some r) : r.1.toInt = (csN s (smN s (bt t) (2 ^ s) 0 []) : Int) ∧ SpE r.2 (smN s (bt t) (2 ^ s) 0 []) ∧ Fr (fr_M [70] [69] []) o r.2 ∧ (∀ p ∈ smN s (bt t) (2 ^ s) 0 [], p < 3 ^ s) := by
  unfold fM_sum fM_sum_0 at h
  rw [opk, on_i e2] at h
  obtain ⟨f2, h⟩ := al_go hs cfFU 0 0 rfl (Nat.zero_le _) h
  exact sm_go hs t0 (2 ^ s) f2 0 0 [] (fp o 70 0) r (by omega) ⟨rfl, fun k p hk => by cases hk⟩ (Nat.le_refl _) (fun p hp => absurd hp (List.not_mem_nil)) rfl (fr_fp fr_rfl rfl) h
