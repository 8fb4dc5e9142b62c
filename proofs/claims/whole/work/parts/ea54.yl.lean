theorem eo_c2 : ∀ p : Nat, p < 64 → fLi_isEachOnce (Int32.ofNat p) 2 = some (bI (eoB 2 p)) := by decide +kernel
theorem eo_c3 : ∀ p : Nat, p < 512 → fLi_isEachOnce (Int32.ofNat p) 3 = some (bI (eoB 3 p)) := by decide +kernel
theorem pl_c : ∀ p : Nat, p < 512 → ∀ k : Nat, k < 3 → (Int32.ofNat p >>> ((3 * Int32.ofNat k) &&& 31) &&& 7).toInt = (plN p k : Int) := by decide +kernel
theorem pl_b : ∀ q : Nat, q < 8 → ∀ i : Nat, i < 8 → (Int32.ofNat i >>> ((Int32.ofNat q >>> ((1 : Int32) &&& 31)) &&& 31) &&& 1) ^^^ (Int32.ofNat q &&& 1) = bI (i.testBit (q / 2) ^^ decide (q % 2 = 1)) := by decide +kernel
theorem plN_8 {p k : Nat} : plN p k < 8 := Nat.mod_lt _ (by decide)
def ChQ (ch : Nat → Int32) : Int32 → List Nat → Prop
  | v, [] => v = -1
  | v, w :: L => v.toInt = (w : Int) ∧ ChQ ch (ch w) L
theorem ChQ_u {ch : Nat → Int32} {m : Nat} {y : Int32} : ∀ {L : List Nat} {v : Int32}, ChQ ch v L → (∀ w ∈ L, ¬ w = m) → ChQ (upd ch m y) v L
  | [], _, h, _ => h
  | w :: L, v, h, hn => by
    refine ⟨h.1, ?_⟩
    rw [up_o (hn w (List.mem_cons_self ..))]
    exact ChQ_u h.2 (fun x hx => hn x (List.mem_cons_of_mem _ hx))
def tbB (t tb : Int32) (s p : Nat) : Prop := ∀ i : Nat, i < 32 → bt t i = (decide (i < 2 ^ s) && bt tb (ixA (plF p) i s))
def KyQ (li : cf_O) (w x : Nat) : Prop := ∃ (cl s p : Nat) (t : Int32), (li.2.1 8 w).toInt = (cl : Int) ∧ (li.2.1 9 w).toInt = (p : Int) ∧ (li.2.1 5 cl).toInt = (s : Int) ∧ tbB t (li.2.1 6 cl) s p ∧ (x : Int) = ((2 ^ 2 ^ s : Nat) : Int) + t.toInt
def LwQ (li : cf_O) (m : Nat) (D : Nat → Nat → Prop) : Prop := ((li.1 7).toInt = (m : Int) ∧ m ≤ 576) ∧ (∀ w : Nat, w < m → ∃ cl p : Nat, (li.2.1 8 w).toInt = (cl : Int) ∧ (li.2.1 9 w).toInt = (p : Int) ∧ D cl p) ∧ (∀ cl p : Nat, D cl p → ∃ w : Nat, w < m ∧ (li.2.1 8 w).toInt = (cl : Int) ∧ (li.2.1 9 w).toInt = (p : Int)) ∧ ∀ x : Nat, x < 512 → ∃ L : List Nat, ChQ (li.2.1 10) (li.2.1 11 x) L ∧ L.length ≤ m ∧ ∀ w : Nat, w ∈ L ↔ (w < m ∧ KyQ li w x)
theorem LwQ_e {li : cf_O} {m : Nat} {D E : Nat → Nat → Prop} (h : LwQ li m D) (e : ∀ cl p : Nat, D cl p ↔ E cl p) : LwQ li m E := by
  obtain ⟨h1, h2, h3, h4⟩ := h
  refine ⟨h1, fun w hw => ?_, fun cl p hd => h3 cl p ((e cl p).mpr hd), h4⟩
  obtain ⟨cl, p, q1, q2, q3⟩ := h2 w hw
  exact ⟨cl, p, q1, q2, (e cl p).mp q3⟩
theorem s1_8 : ∀ k : Nat, k < 8 → ∀ j : Nat, j < 32 → bt (bI true <<< (Int32.ofNat k &&& 31)) j = decide (j = k) ∧ bt (bI false <<< (Int32.ofNat k &&& 31)) j = false := by decide +kernel
theorem l_of2 : ((1 : Int32) <<< (((1 : Int32) <<< ((2 : Int32) &&& 31)) &&& 31)).toInt = 16 := by decide
theorem l_of3 : ((1 : Int32) <<< (((1 : Int32) <<< ((3 : Int32) &&& 31)) &&& 31)).toInt = 256 := by decide
theorem bt_lt {t : Int32} {s : Nat} (hs : s ≤ 4) (h : ∀ i : Nat, 2 ^ s ≤ i → i < 32 → bt t i = false) : 0 ≤ t.toInt ∧ t.toInt < ((2 ^ 2 ^ s : Nat) : Int) := by
  have p5 : 2 ^ s ≤ 2 ^ 4 := Nat.pow_le_pow_right (by decide) hs
  have z : ∀ q : Nat, 2 ^ s ≤ q → t.toBitVec.toNat.testBit q = false := fun q hq => by
    by_cases l : q < 32
    · exact h q hq l
    · exact Nat.testBit_lt_two_pow (Nat.lt_of_lt_of_le t.toBitVec.isLt (Nat.pow_le_pow_right (by decide) (by omega)))
  have l : t.toBitVec.toNat < 2 ^ 2 ^ s := Nat.lt_pow_two_of_testBit _ (fun q hq => z q hq)
  have l2 : 2 ^ 2 ^ s ≤ 2 ^ 2 ^ 4 := Nat.pow_le_pow_right (by decide) p5
  have e16 : 2 ^ 2 ^ 4 = 65536 := rfl
  have e : t.toInt = (t.toBitVec.toNat : Int) := by
    show t.toBitVec.toInt = _
    rw [BitVec.toInt_eq_toNat_of_lt (by omega)]
  omega
theorem tbB_l {t tb : Int32} {s p : Nat} (hs : s ≤ 4) (h : tbB t tb s p) : 0 ≤ t.toInt ∧ t.toInt < ((2 ^ 2 ^ s : Nat) : Int) := bt_lt hs (fun i i1 i2 => by rw [h i i2, decide_eq_false (by omega), Bool.false_and])
theorem aw_go {cl s p m : Nat} {o : cf_O} {v1 v2 : Int32} (e1 : v1.toInt = (cl : Int)) (e2 : v2.toInt = (p : Int)) (hp : p < 512) (es : (o.2.1 5 cl).toInt = (s : Int)) (h2 : 2 ≤ s) (h3 : s ≤ 3) (em : (o.1 7).toInt = (m : Int)) (tb0 : 0 ≤ (o.2.1 6 cl).toInt) : ∀ fu : Nat,
    (∀ (i : Nat) (v3 v4 w5 w6 : Int32) (r : cf_O), v4.toInt = (i : Int) → i ≤ 2 ^ s → (∀ j : Nat, j < 32 → bt v3 j = (decide (j < i) && bt (o.2.1 6 cl) (ixA (plF p) j s))) → gLi_addWay fu 0 v1 v2 v3 v4 w5 w6 o = some r → ∃ (t : Int32) (q : Nat), tbB t (o.2.1 6 cl) s p ∧ (q : Int) = ((2 ^ 2 ^ s : Nat) : Int) + t.toInt ∧ q < 512 ∧ m < 576 ∧ r = fp (xp (xp (xp (xp o 8 m v1) 9 m v2) 10 m (o.2.1 11 q)) 11 q (o.1 7)) 7 (o.1 7 + 1)) ∧
    (∀ (i k : Nat) (v3 v4 v5 v6 : Int32) (r : cf_O), v4.toInt = (i : Int) → i < 2 ^ s → k ≤ s → v6.toInt = (k : Int) → v5.toInt = (ixA (plF p) i k : Int) → (∀ j : Nat, j < 32 → bt v3 j = (decide (j < i) && bt (o.2.1 6 cl) (ixA (plF p) j s))) → gLi_addWay fu 1 v1 v2 v3 v4 v5 v6 o = some r → ∃ (t : Int32) (q : Nat), tbB t (o.2.1 6 cl) s p ∧ (q : Int) = ((2 ^ 2 ^ s : Nat) : Int) + t.toInt ∧ q < 512 ∧ m < 576 ∧ r = fp (xp (xp (xp (xp o 8 m v1) 9 m v2) 10 m (o.2.1 11 q)) 11 q (o.1 7)) 7 (o.1 7 + 1))
  | 0 => ⟨fun _ _ _ _ _ _ _ _ _ h => (by cases h), fun _ _ _ _ _ _ _ _ _ _ _ _ _ h => (by cases h)⟩
  | fu + 1 => by
    obtain ⟨i0, i1⟩ := aw_go e1 e2 hp es h2 h3 em tb0 fu
    have p8 : 2 ^ s ≤ 2 ^ 3 := Nat.pow_le_pow_right (by decide) h3
    have es1 := s1_e5 s (by omega)
    rw [← on_i es] at es1
    refine ⟨?_, ?_⟩
    · intro i v3 v4 w5 w6 r e4 hi H h
      have h : fLi_addWay_5 (gLi_addWay fu) v1 v2 v3 v4 o = some r := h
      unfold fLi_addWay_5 at h
      have h := (ifn h).2
      rw [opk, opk, tW e1] at h
      rcases ifc h with ⟨a, h⟩ | ⟨a, h⟩
      · have a := c_le a
        rw [es1] at a
        have ei : i = 2 ^ s := by omega
        subst ei
        have T : tbB v3 (o.2.1 6 cl) s p := H
        have tl := tbB_l (by omega) T
        have h := (ifn h).2
        rw [opk] at h
        obtain ⟨q, hq, h⟩ := bd h
        unfold fLi_listOf fLi_listOf_0 at hq
        rw [opk, opk, opk] at hq
        have hq := (Option.some.inj hq).symm
        have eq : q.toInt = ((2 ^ 2 ^ s : Nat) : Int) + v3.toInt ∧ q.toInt < 512 := by
          rw [hq, on_i es]
          rcases (show s = 2 ∨ s = 3 by omega) with e | e
          · subst e
            have tl : 0 ≤ v3.toInt ∧ v3.toInt < 16 := tl
            rw [i_add (by rw [show (Int32.ofNat 2) = (2 : Int32) from rfl, l_of2]; omega) (by rw [show (Int32.ofNat 2) = (2 : Int32) from rfl, l_of2]; omega), show (Int32.ofNat 2) = (2 : Int32) from rfl, l_of2]
            exact ⟨rfl, by omega⟩
          · subst e
            have tl : 0 ≤ v3.toInt ∧ v3.toInt < 256 := tl
            rw [i_add (by rw [show (Int32.ofNat 3) = (3 : Int32) from rfl, l_of3]; omega) (by rw [show (Int32.ofNat 3) = (3 : Int32) from rfl, l_of3]; omega), show (Int32.ofNat 3) = (3 : Int32) from rfl, l_of3]
            exact ⟨rfl, by omega⟩
        have q0 : 0 ≤ q.toInt := by omega
        have c9 := (ifn h).1
        have h := (ifn h).2
        rw [opk, tW em] at h
        have m9 : m < 576 := by
          by_cases z : m < 576
          · exact z
          · exact absurd (Or.inr (by rw [tW em]; omega)) c9
        have h := (ifn h).2
        have k1 : (xp o 8 m v1).1 7 = o.1 7 := rfl
        rw [opk, k1, tW em] at h
        have h := (ifn h).2
        rw [opk] at h
        have h := (ifn h).2
        have k2 : (xp (xp o 8 m v1) 9 m v2).1 7 = o.1 7 := rfl
        rw [opk, k2, tW em] at h
        have h := (ifn h).2
        rw [opk, opk, opk] at h
        have qn : q.toNatClampNeg = q.toInt.toNat := by have := tn_n q; omega
        rw [qn] at h
        exact ⟨v3, q.toInt.toNat, T, by omega, by omega, m9, (Option.some.inj h).symm⟩
      · have a := c_nle a
        rw [es1] at a
        exact i1 i 0 v3 v4 0 0 r e4 (by omega) (Nat.zero_le _) rfl rfl H h
    · intro i k v3 v4 v5 v6 r e4 hi hk e6 e5 H h
      have h : fLi_addWay_24 (gLi_addWay fu) v1 v2 v3 v4 v5 v6 o = some r := h
      unfold fLi_addWay_24 at h
      have h := (ifn h).2
      rw [opk, tW e1] at h
      have ll := ixA_l (f := plF p) (i := i) k
      have lk : 2 ^ k ≤ 2 ^ 3 := Nat.pow_le_pow_right (by decide) (by omega)
      rcases ifc h with ⟨a, h⟩ | ⟨a, h⟩
      · have a := c_le a
        have ek : k = s := by omega
        subst ek
        have h := (ifn h).2
        rw [opk, on_i e5, opk, opk, sb_i tb0 (by omega), on_i e4, opk, opk, opk, ← on_i e4] at h
        refine i0 (i + 1) _ (v4 + 1) 0 0 r (by rw [pW (by omega) (by omega)]; omega) (by omega) (fun j hj => ?_) h
        rw [bt_or, H j hj, on_i e4]
        have s8 := s1_8 i (by omega) j hj
        by_cases ej : j = i
        · subst ej
          cases z : bt (o.2.1 6 cl) (ixA (plF p) j k) with
          | true => rw [s8.1, decide_eq_true rfl, decide_eq_true (show j < j + 1 by omega), Bool.or_true]; rfl
          | false => rw [s8.2, Bool.and_false, Bool.and_false]; rfl
        · have : bt (bI (bt (o.2.1 6 cl) (ixA (plF p) i k)) <<< (Int32.ofNat i &&& 31)) j = false := by
            cases bt (o.2.1 6 cl) (ixA (plF p) i k) with
            | true => rw [s8.1, decide_eq_false ej]
            | false => exact s8.2
          rw [this, Bool.or_false, dec_i ej]
      · have a := c_nle a
        have pc := pl_c p hp k (by omega)
        rw [← on_i e2, ← on_i e6] at pc
        have pb := pl_b (plN p k) plN_8 i (by omega)
        rw [← on_i e4] at pb
        rw [opk, opk, opk, on_i pc, opk, opk, opk, opk, opk, pb, opk, opk, opk] at h
        exact i1 i (k + 1) v3 v4 _ (v6 + 1) r e4 hi (by omega) (by rw [pW (by omega) (by omega)]; omega) (ix_st (f := plF p) (by omega) e5 e6) H h
theorem addWay_sp {cl s p m : Nat} {o r : cf_O} {v1 v2 : Int32} (e1 : v1.toInt = (cl : Int)) (e2 : v2.toInt = (p : Int)) (hp : p < 512) (es : (o.2.1 5 cl).toInt = (s : Int)) (h2 : 2 ≤ s) (h3 : s ≤ 3) (em : (o.1 7).toInt = (m : Int)) (tb0 : 0 ≤ (o.2.1 6 cl).toInt) (h : fLi_addWay v1 v2 o = some r) : ∃ (t : Int32) (q : Nat), tbB t (o.2.1 6 cl) s p ∧ (q : Int) = ((2 ^ 2 ^ s : Nat) : Int) + t.toInt ∧ q < 512 ∧ m < 576 ∧ r = fp (xp (xp (xp (xp o 8 m v1) 9 m v2) 10 m (o.2.1 11 q)) 11 q (o.1 7)) 7 (o.1 7 + 1) := by
  unfold fLi_addWay fLi_addWay_0 at h
  exact (aw_go e1 e2 hp es h2 h3 em tb0 cfFU).1 0 0 0 0 0 r rfl (Nat.zero_le _) (fun j hj => by rw [bt_0, decide_eq_false (by omega), Bool.false_and]) h
theorem aw_st {cl s p m : Nat} {o r : cf_O} {v1 v2 : Int32} {D : Nat → Nat → Prop} (W : LwQ o m D) (e1 : v1.toInt = (cl : Int)) (e2 : v2.toInt = (p : Int)) (hp : p < 512) (es : (o.2.1 5 cl).toInt = (s : Int)) (h2 : 2 ≤ s) (h3 : s ≤ 3) (tb0 : 0 ≤ (o.2.1 6 cl).toInt) (h : fLi_addWay v1 v2 o = some r) : LwQ r (m + 1) (fun cl' p' => D cl' p' ∨ (cl' = cl ∧ p' = p)) := by
  obtain ⟨⟨em, _⟩, w2, w3, w4⟩ := W
  obtain ⟨t, q, T, eq, q5, m9, er⟩ := addWay_sp e1 e2 hp es h2 h3 em tb0 h
  have r8 : r.2.1 8 = upd (o.2.1 8) m v1 := by rw [er]; rfl
  have r9 : r.2.1 9 = upd (o.2.1 9) m v2 := by rw [er]; rfl
  have r10 : r.2.1 10 = upd (o.2.1 10) m (o.2.1 11 q) := by rw [er]; rfl
  have r11 : r.2.1 11 = upd (o.2.1 11) q (o.1 7) := by rw [er]; rfl
  have r5 : r.2.1 5 = o.2.1 5 := by rw [er]; rfl
  have r6 : r.2.1 6 = o.2.1 6 := by rw [er]; rfl
  have r7 : r.1 7 = o.1 7 + 1 := by rw [er]; rfl
  have kold : ∀ w x : Nat, w < m → (KyQ r w x ↔ KyQ o w x) := fun w x hw => by
    unfold KyQ
    rw [r8, r9, r5, r6, up_o (by omega), up_o (by omega)]
  have knew : ∀ x : Nat, KyQ r m x ↔ x = q := fun x => by
    unfold KyQ
    rw [r8, r9, r5, r6, up_s, up_s]
    constructor
    · rintro ⟨cl', s', p', t', z1, z2, z3, z4, z5⟩
      have a1 : cl' = cl := by omega
      have a2 : p' = p := by omega
      subst a1; subst a2
      have a3 : s' = s := by omega
      subst a3
      have a4 : t' = t := bt_e (fun j hj => by rw [z4 j hj, T j hj])
      subst a4
      omega
    · rintro e
      subst e
      exact ⟨cl, s, p, t, e1, e2, es, T, eq⟩
  refine ⟨⟨by rw [r7, pW (by omega) (by omega)]; omega, by omega⟩, fun w hw => ?_, fun cl' p' hd => ?_, fun x hx => ?_⟩
  · rw [r8, r9]
    by_cases ew : w = m
    · subst ew
      rw [up_s, up_s]
      exact ⟨cl, p, e1, e2, Or.inr ⟨rfl, rfl⟩⟩
    · rw [up_o ew, up_o ew]
      obtain ⟨cl', p', z1, z2, z3⟩ := w2 w (by omega)
      exact ⟨cl', p', z1, z2, Or.inl z3⟩
  · rw [r8, r9]
    rcases hd with hd | ⟨z1, z2⟩
    · obtain ⟨w, z0, z1, z2⟩ := w3 cl' p' hd
      exact ⟨w, by omega, by rw [up_o (by omega)]; exact z1, by rw [up_o (by omega)]; exact z2⟩
    · subst z1; subst z2
      exact ⟨m, by omega, by rw [up_s]; exact e1, by rw [up_s]; exact e2⟩
  · obtain ⟨L, z1, z2, z3⟩ := w4 x hx
    have nm : ∀ w ∈ L, ¬ w = m := fun w hw e => by have := ((z3 w).mp hw).1; omega
    rw [r10, r11]
    by_cases ex : x = q
    · subst ex
      refine ⟨m :: L, ⟨by rw [up_s]; exact em, by rw [up_s]; exact ChQ_u z1 nm⟩, by show L.length + 1 ≤ m + 1; omega, fun w => ?_⟩
      rw [List.mem_cons, z3]
      constructor
      · rintro (e | ⟨y1, y2⟩)
        · subst e
          exact ⟨by omega, (knew x).mpr rfl⟩
        · exact ⟨by omega, (kold w x y1).mpr y2⟩
      · rintro ⟨y1, y2⟩
        by_cases ew : w = m
        · exact Or.inl ew
        · exact Or.inr ⟨by omega, (kold w x (by omega)).mp y2⟩
    · refine ⟨L, by rw [up_o ex]; exact ChQ_u z1 nm, by omega, fun w => ?_⟩
      rw [z3]
      constructor
      · rintro ⟨y1, y2⟩
        exact ⟨by omega, (kold w x y1).mpr y2⟩
      · rintro ⟨y1, y2⟩
        by_cases ew : w = m
        · subst ew
          exact absurd ((knew x).mp y2) ex
        · exact ⟨by omega, (kold w x (by omega)).mp y2⟩
