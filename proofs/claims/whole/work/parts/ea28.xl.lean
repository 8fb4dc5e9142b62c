def RtQ (om : cf_O) (L : List Int32) : Prop := om.1 95 = 0 ∧ ((om.1 76).toInt = (L.length : Int) ∧ L.length ≤ 90000) ∧ ∀ (i : Nat) (x : Int32), L[i]? = some x → om.2.1 77 i = x
theorem em_sp {v : Int64} {om r : cf_O} {L : List Int32} (R : RtQ om L) (h : fM_emit v om = some r) : RtQ r (L ++ [v.toInt32]) ∧ Fr (fr_M [76] [77] []) om r := by
  obtain ⟨q1, ⟨q2, _⟩, q3⟩ := R
  unfold fM_emit fM_emit_0 at h
  rw [if_pos q1, opk] at h
  obtain ⟨c, h⟩ := ifn h
  rw [opk, opk, opk, tW q2] at h
  have c : ¬ 90000 ≤ (om.1 76).toNatClampNeg := fun z => c (Or.inr z)
  rw [tW q2] at c
  have e := (Option.some.inj h).symm
  subst e
  refine ⟨⟨q1, ⟨?_, by rw [List.length_append]; show L.length + 1 ≤ 90000; omega⟩, fun i x hx => ?_⟩, fr_fp (fr_xp fr_rfl rfl) rfl⟩
  · show ((om.1 76) + 1).toInt = _
    rw [pW (by omega) (by omega), q2, List.length_append]; rfl
  · show upd (om.2.1 77) L.length v.toInt32 i = x
    by_cases e : i = L.length
    · rw [e, up_s]
      rw [e, List.getElem?_append_right (Nat.le_refl _), Nat.sub_self] at hx
      exact Option.some.inj hx
    · rw [up_o e]
      have hl := (List.getElem?_eq_some_iff.mp hx).1
      rw [List.length_append] at hl
      have hl : i < L.length + 1 := hl
      rw [List.getElem?_append_left (by omega)] at hx
      exact q3 i x hx
def wlE : Nat → Int64 → Option (List Int32)
  | 0, _ => none
  | n + 1, v => if lg_cmp v 0 ≤ (0 : Int32) then some [] else (wlE n (v >>> ((5 : Int32).toInt64 &&& 63))).map ((96 + (v &&& 31)).toInt32 :: ·)
theorem wl_go {OM : cf_O} : ∀ (N f : Nat) (v : Int64) (l L : List Int32) (om r : cf_O), wlE N v = some l → RtQ om L → Fr (fr_M [76] [77] []) OM om → gM_word f 0 v om = some r → RtQ r (L ++ l) ∧ Fr (fr_M [76] [77] []) OM r
  | 0, f, v, l, L, om, r, e, R, fo, h => by cases e
  | N + 1, 0, v, l, L, om, r, e, R, fo, h => by cases h
  | N + 1, f + 1, v, l, L, om, r, e, R, fo, h => by
    have h : fM_word_14 (gM_word f) v om = some r := h
    unfold fM_word_14 at h
    unfold wlE at e
    rw [opk] at h
    rcases ifc h with ⟨a, h⟩ | ⟨a, h⟩
    · rw [if_pos a] at e
      rw [← Option.some.inj e, ← Option.some.inj h, List.append_nil]
      exact ⟨R, fo⟩
    · rw [if_neg a] at e
      rw [opk, opk] at h
      obtain ⟨q, hq, h⟩ := bd h
      rw [opk] at h
      obtain ⟨R2, f2⟩ := em_sp R hq
      obtain ⟨l2, e2, e3⟩ := Option.map_eq_some_iff.mp e
      have z := wl_go N f _ l2 _ q r e2 R2 (fr_tr fo f2 rfl rfl rfl) h
      rw [← e3]
      rw [List.append_assoc] at z
      exact z
def wdR (w : Nat) : List Int32 := 46 :: ((wlE 9 (vs w 0)).getD [])
theorem wdR_s : ∀ w : Nat, w < 4 → wlE 9 (vs w 0) = some ((wlE 9 (vs w 0)).getD []) := by decide +kernel
theorem wor_sp {v : Int32} {w : Nat} {om r : cf_O} {L : List Int32} (R : RtQ om L) (W : W4 (om.2.2 4)) (ev : v.toInt = (w : Int)) (hw : w < 4) (h : fM_word v om = some r) : RtQ r (L ++ wdR w) ∧ Fr (fr_M [76] [77] []) om r := by
  unfold fM_word fM_word_0 at h
  obtain ⟨q, hq, h⟩ := bd h
  obtain ⟨R2, f2⟩ := em_sp R hq
  have h := (ifn h).2
  rw [opk, tW ev, f2.2.2 4 rfl, W w hw] at h
  have z := wl_go 9 cfFU (vs w 0) _ _ q r (wdR_s w hw) R2 f2 h
  rw [List.append_assoc] at z
  exact z
def nmFq (g : Nat → Int32) (k : Nat) : List Int32 := ((List.range k).map g).filter (fun x => decide (0 < x.toInt))
theorem nmFq_s (g : Nat → Int32) (k : Nat) : nmFq g (k + 1) = nmFq g k ++ (if 0 < (g k).toInt then [g k] else []) := by
  unfold nmFq
  rw [List.range_succ, List.map_append, List.filter_append]
  by_cases c : 0 < (g k).toInt
  · rw [if_pos c]
    show _ ++ List.filter _ [g k] = _
    rw [List.filter_cons_of_pos (by exact decide_eq_true c)]; rfl
  · rw [if_neg c]
    show _ ++ List.filter _ [g k] = _
    rw [List.filter_cons_of_neg (by rw [decide_eq_false c]; exact Bool.false_ne_true)]; rfl
theorem na1_go {i : Nat} {v2 : Int32} {OM : cf_O} {L : List Int32} (e2 : v2.toInt = (i : Int)) (hi : i < 8) : ∀ (f k : Nat) (v3 : Int32) (om r : cf_O), v3.toInt = (k : Int) → k ≤ 8 → RtQ om (L ++ nmFq (fun j => OM.2.1 41 (8 * i + j)) k) → Fr (fr_M [76] [77] []) OM om → gM_name_M41 f 0 v2 v3 om = some r → RtQ r (L ++ nmFq (fun j => OM.2.1 41 (8 * i + j)) 8) ∧ Fr (fr_M [76] [77] []) OM r
  | 0, k, v3, om, r, e3, k8, R, fo, h => by cases h
  | f + 1, k, v3, om, r, e3, k8, R, fo, h => by
    have h : fM_name_M41_9 (gM_name_M41 f) v2 v3 om = some r := h
    unfold fM_name_M41_9 at h
    rcases ifc h with ⟨a, h⟩ | ⟨a, h⟩
    · have a := c_le a
      rw [show (8 : Int32).toInt = 8 from rfl] at a
      have ek : k = 8 := by omega
      rw [← Option.some.inj h]
      rw [ek] at R
      exact ⟨R, fo⟩
    · have a := c_nle a
      rw [show (8 : Int32).toInt = 8 from rfl] at a
      have ix : (8 * v2 + v3).toNatClampNeg = 8 * i + k := tW (by
        have m : (8 * v2).toInt = 8 * (i : Int) := by rw [Int32.toInt_mul, e2, show (8 : Int32).toInt = 8 from rfl, i_bm (by omega) (by omega)]
        rw [Int32.toInt_add, m, e3, i_bm (by omega) (by omega)]; omega)
      have p3 : (v3 + 1).toInt = ((k + 1 : Nat) : Int) := by rw [pW (by omega) (by omega)]; omega
      rw [opk, opk] at h
      have h := (ifn h).2
      rw [opk, ix, fo.2.1 41 rfl] at h
      rcases ifc h with ⟨c, h⟩ | ⟨c, h⟩
      · have c := c_le c
        rw [show (0 : Int32).toInt = 0 from rfl] at c
        refine na1_go e2 hi f (k + 1) (v3 + 1) om r p3 (by omega) ?_ fo h
        rw [nmFq_s, if_neg (by omega), List.append_nil]; exact R
      · have c := c_nle c
        rw [show (0 : Int32).toInt = 0 from rfl] at c
        rw [opk, opk] at h
        have h := (ifn h).2
        rw [opk, opk] at h
        obtain ⟨q, hq, h⟩ := bd h
        obtain ⟨R2, f2⟩ := em_sp R hq
        refine na1_go e2 hi f (k + 1) (v3 + 1) q r p3 (by omega) ?_ (fr_tr fo f2 rfl rfl rfl) h
        rw [nmFq_s, if_pos c, ← List.append_assoc]
        rw [Int32.toInt32_toInt64, ix] at R2
        exact R2
theorem na1_sp {i : Nat} {v2 : Int32} {om r : cf_O} {L : List Int32} (R : RtQ om L) (e2 : v2.toInt = (i : Int)) (hi : i < 8) (h : fM_name_M41 v2 om = some r) : RtQ r (L ++ (32 :: nmFq (fun j => om.2.1 41 (8 * i + j)) 8)) ∧ Fr (fr_M [76] [77] []) om r := by
  unfold fM_name_M41 fM_name_M41_0 at h
  obtain ⟨q, hq, h⟩ := bd h
  obtain ⟨R2, f2⟩ := em_sp R hq
  have z := na1_go (OM := q) (L := L ++ [32]) e2 hi cfFU 0 0 q r rfl (by omega) (by show RtQ q ((L ++ [32]) ++ []); rw [List.append_nil]; exact R2) fr_rfl h
  rw [List.append_assoc, f2.2.1 41 rfl] at z
  exact ⟨z.1, fr_tr f2 z.2 rfl rfl rfl⟩
theorem na2_go {i : Nat} {v2 : Int32} {OM : cf_O} {L : List Int32} (e2 : v2.toInt = (i : Int)) (hi : i < 6) : ∀ (f k : Nat) (v3 : Int32) (om r : cf_O), v3.toInt = (k : Int) → k ≤ 8 → RtQ om (L ++ nmFq (fun j => OM.2.1 42 (8 * i + j)) k) → Fr (fr_M [76] [77] []) OM om → gM_name_M42 f 0 v2 v3 om = some r → RtQ r (L ++ nmFq (fun j => OM.2.1 42 (8 * i + j)) 8) ∧ Fr (fr_M [76] [77] []) OM r
  | 0, k, v3, om, r, e3, k8, R, fo, h => by cases h
  | f + 1, k, v3, om, r, e3, k8, R, fo, h => by
    have h : fM_name_M42_9 (gM_name_M42 f) v2 v3 om = some r := h
    unfold fM_name_M42_9 at h
    rcases ifc h with ⟨a, h⟩ | ⟨a, h⟩
    · have a := c_le a
      rw [show (8 : Int32).toInt = 8 from rfl] at a
      have ek : k = 8 := by omega
      rw [← Option.some.inj h]
      rw [ek] at R
      exact ⟨R, fo⟩
    · have a := c_nle a
      rw [show (8 : Int32).toInt = 8 from rfl] at a
      have ix : (8 * v2 + v3).toNatClampNeg = 8 * i + k := tW (by
        have m : (8 * v2).toInt = 8 * (i : Int) := by rw [Int32.toInt_mul, e2, show (8 : Int32).toInt = 8 from rfl, i_bm (by omega) (by omega)]
        rw [Int32.toInt_add, m, e3, i_bm (by omega) (by omega)]; omega)
      have p3 : (v3 + 1).toInt = ((k + 1 : Nat) : Int) := by rw [pW (by omega) (by omega)]; omega
      rw [opk, opk] at h
      have h := (ifn h).2
      rw [opk, ix, fo.2.1 42 rfl] at h
      rcases ifc h with ⟨c, h⟩ | ⟨c, h⟩
      · have c := c_le c
        rw [show (0 : Int32).toInt = 0 from rfl] at c
        refine na2_go e2 hi f (k + 1) (v3 + 1) om r p3 (by omega) ?_ fo h
        rw [nmFq_s, if_neg (by omega), List.append_nil]; exact R
      · have c := c_nle c
        rw [show (0 : Int32).toInt = 0 from rfl] at c
        rw [opk, opk] at h
        have h := (ifn h).2
        rw [opk, opk] at h
        obtain ⟨q, hq, h⟩ := bd h
        obtain ⟨R2, f2⟩ := em_sp R hq
        refine na2_go e2 hi f (k + 1) (v3 + 1) q r p3 (by omega) ?_ (fr_tr fo f2 rfl rfl rfl) h
        rw [nmFq_s, if_pos c, ← List.append_assoc]
        rw [Int32.toInt32_toInt64, ix] at R2
        exact R2
theorem na2_sp {i : Nat} {v2 : Int32} {om r : cf_O} {L : List Int32} (R : RtQ om L) (e2 : v2.toInt = (i : Int)) (hi : i < 6) (h : fM_name_M42 v2 om = some r) : RtQ r (L ++ (32 :: nmFq (fun j => om.2.1 42 (8 * i + j)) 8)) ∧ Fr (fr_M [76] [77] []) om r := by
  unfold fM_name_M42 fM_name_M42_0 at h
  obtain ⟨q, hq, h⟩ := bd h
  obtain ⟨R2, f2⟩ := em_sp R hq
  have z := na2_go (OM := q) (L := L ++ [32]) e2 hi cfFU 0 0 q r rfl (by omega) (by show RtQ q ((L ++ [32]) ++ []); rw [List.append_nil]; exact R2) fr_rfl h
  rw [List.append_assoc, f2.2.1 42 rfl] at z
  exact ⟨z.1, fr_tr f2 z.2 rfl rfl rfl⟩
