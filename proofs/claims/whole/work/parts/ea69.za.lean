def RtM (om : cf_O) (L : List Int32) : Prop := om.1 95 = 1 ∧ ((om.1 96).toInt = (L.length : Int) ∧ L.length ≤ 24000) ∧ ∀ (i : Nat) (x : Int32), L[i]? = some x → om.2.1 97 i = x
theorem emM_sp {v : Int64} {om r : cf_O} {L : List Int32} (R : RtM om L) (h : fM_emit v om = some r) : RtM r (L ++ [v.toInt32]) ∧ Fr (fr_M [96] [97] []) om r := by
  obtain ⟨q1, ⟨q2, _⟩, q3⟩ := R
  unfold fM_emit fM_emit_0 at h
  rw [if_neg (by rw [q1]; decide), opk] at h
  obtain ⟨c, h⟩ := ifn h
  rw [opk, opk, opk, tW q2] at h
  have c : ¬ 24000 ≤ (om.1 96).toNatClampNeg := fun z => c (Or.inr z)
  rw [tW q2] at c
  have e := (Option.some.inj h).symm
  subst e
  refine ⟨⟨q1, ⟨?_, by rw [List.length_append]; show L.length + 1 ≤ 24000; omega⟩, fun i x hx => ?_⟩, fr_fp (fr_xp fr_rfl rfl) rfl⟩
  · show ((om.1 96) + 1).toInt = _
    rw [pW (by omega) (by omega), q2, List.length_append]; rfl
  · show upd (om.2.1 97) L.length v.toInt32 i = x
    by_cases e : i = L.length
    · rw [e, up_s]
      rw [e, List.getElem?_append_right (Nat.le_refl _), Nat.sub_self] at hx
      exact Option.some.inj hx
    · rw [up_o e]
      have hl := (List.getElem?_eq_some_iff.mp hx).1
      rw [List.length_append] at hl
      have hl : i < L.length + 1 := hl
      rw [List.getElem?_append_left (by omega)] at hx
      exact q3 i x hx
theorem wlM_go {OM : cf_O} : ∀ (N f : Nat) (v : Int64) (l L : List Int32) (om r : cf_O), wlE N v = some l → RtM om L → Fr (fr_M [96] [97] []) OM om → gM_word f 0 v om = some r → RtM r (L ++ l) ∧ Fr (fr_M [96] [97] []) OM r
  | 0, f, v, l, L, om, r, e, R, fo, h => by cases e
  | N + 1, 0, v, l, L, om, r, e, R, fo, h => by cases h
  | N + 1, f + 1, v, l, L, om, r, e, R, fo, h => by
    have h : fM_word_14 (gM_word f) v om = some r := h
    unfold fM_word_14 at h
    unfold wlE at e
    rw [opk] at h
    rcases ifc h with ⟨a, h⟩ | ⟨a, h⟩
    · rw [if_pos a] at e
      rw [← Option.some.inj e, ← Option.some.inj h, List.append_nil]
      exact ⟨R, fo⟩
    · rw [if_neg a] at e
      rw [opk, opk] at h
      obtain ⟨q, hq, h⟩ := bd h
      rw [opk] at h
      obtain ⟨R2, f2⟩ := emM_sp R hq
      obtain ⟨l2, e2, e3⟩ := Option.map_eq_some_iff.mp e
      have z := wlM_go N f _ l2 _ q r e2 R2 (fr_tr fo f2 rfl rfl rfl) h
      rw [← e3]
      rw [List.append_assoc] at z
      exact z
theorem worM_sp {v : Int32} {w : Nat} {om r : cf_O} {L : List Int32} (R : RtM om L) (W : W4 (om.2.2 4)) (ev : v.toInt = (w : Int)) (hw : w < 4) (h : fM_word v om = some r) : RtM r (L ++ wdR w) ∧ Fr (fr_M [96] [97] []) om r := by
  unfold fM_word fM_word_0 at h
  obtain ⟨q, hq, h⟩ := bd h
  obtain ⟨R2, f2⟩ := emM_sp R hq
  have h := (ifn h).2
  rw [opk, tW ev, f2.2.2 4 rfl, W w hw] at h
  have z := wlM_go 9 cfFU (vs w 0) _ _ q r (wdR_s w hw) R2 f2 h
  rw [List.append_assoc] at z
  exact z
theorem na1M_go {i : Nat} {v2 : Int32} {OM : cf_O} {L : List Int32} (e2 : v2.toInt = (i : Int)) (hi : i < 8) : ∀ (f k : Nat) (v3 : Int32) (om r : cf_O), v3.toInt = (k : Int) → k ≤ 8 → RtM om (L ++ nmFq (fun j => OM.2.1 41 (8 * i + j)) k) → Fr (fr_M [96] [97] []) OM om → gM_name_M41 f 0 v2 v3 om = some r → RtM r (L ++ nmFq (fun j => OM.2.1 41 (8 * i + j)) 8) ∧ Fr (fr_M [96] [97] []) OM r
  | 0, k, v3, om, r, e3, k8, R, fo, h => by cases h
  | f + 1, k, v3, om, r, e3, k8, R, fo, h => by
    have h : fM_name_M41_9 (gM_name_M41 f) v2 v3 om = some r := h
    unfold fM_name_M41_9 at h
    rcases ifc h with ⟨a, h⟩ | ⟨a, h⟩
    · have a := c_le a
      rw [show (8 : Int32).toInt = 8 from rfl] at a
      have ek : k = 8 := by omega
      rw [← Option.some.inj h]
      rw [ek] at R
      exact ⟨R, fo⟩
    · have a := c_nle a
      rw [show (8 : Int32).toInt = 8 from rfl] at a
      have ix : (8 * v2 + v3).toNatClampNeg = 8 * i + k := tW (by
        have m : (8 * v2).toInt = 8 * (i : Int) := by rw [Int32.toInt_mul, e2, show (8 : Int32).toInt = 8 from rfl, i_bm (by omega) (by omega)]
        rw [Int32.toInt_add, m, e3, i_bm (by omega) (by omega)]; omega)
      have p3 : (v3 + 1).toInt = ((k + 1 : Nat) : Int) := by rw [pW (by omega) (by omega)]; omega
      rw [opk, opk] at h
      have h := (ifn h).2
      rw [opk, ix, fo.2.1 41 rfl] at h
      rcases ifc h with ⟨c, h⟩ | ⟨c, h⟩
      · have c := c_le c
        rw [show (0 : Int32).toInt = 0 from rfl] at c
        refine na1M_go e2 hi f (k + 1) (v3 + 1) om r p3 (by omega) ?_ fo h
        rw [nmFq_s, if_neg (by omega), List.append_nil]; exact R
      · have c := c_nle c
        rw [show (0 : Int32).toInt = 0 from rfl] at c
        rw [opk, opk] at h
        have h := (ifn h).2
        rw [opk, opk] at h
        obtain ⟨q, hq, h⟩ := bd h
        obtain ⟨R2, f2⟩ := emM_sp R hq
        refine na1M_go e2 hi f (k + 1) (v3 + 1) q r p3 (by omega) ?_ (fr_tr fo f2 rfl rfl rfl) h
        rw [nmFq_s, if_pos c, ← List.append_assoc]
        rw [Int32.toInt32_toInt64, ix] at R2
        exact R2
theorem na3M_go {i : Nat} {v2 : Int32} {OM : cf_O} {L : List Int32} (e2 : v2.toInt = (i : Int)) (hi : i < 12) : ∀ (f k : Nat) (v3 : Int32) (om r : cf_O), v3.toInt = (k : Int) → k ≤ 8 → RtM om (L ++ nmFq (fun j => OM.2.1 83 (8 * i + j)) k) → Fr (fr_M [96] [97] []) OM om → gM_name_M83 f 0 v2 v3 om = some r → RtM r (L ++ nmFq (fun j => OM.2.1 83 (8 * i + j)) 8) ∧ Fr (fr_M [96] [97] []) OM r
  | 0, k, v3, om, r, e3, k8, R, fo, h => by cases h
  | f + 1, k, v3, om, r, e3, k8, R, fo, h => by
    have h : fM_name_M83_9 (gM_name_M83 f) v2 v3 om = some r := h
    unfold fM_name_M83_9 at h
    rcases ifc h with ⟨a, h⟩ | ⟨a, h⟩
    · have a := c_le a
      rw [show (8 : Int32).toInt = 8 from rfl] at a
      have ek : k = 8 := by omega
      rw [← Option.some.inj h]
      rw [ek] at R
      exact ⟨R, fo⟩
    · have a := c_nle a
      rw [show (8 : Int32).toInt = 8 from rfl] at a
      have ix : (8 * v2 + v3).toNatClampNeg = 8 * i + k := tW (by
        have m : (8 * v2).toInt = 8 * (i : Int) := by rw [Int32.toInt_mul, e2, show (8 : Int32).toInt = 8 from rfl, i_bm (by omega) (by omega)]
        rw [Int32.toInt_add, m, e3, i_bm (by omega) (by omega)]; omega)
      have p3 : (v3 + 1).toInt = ((k + 1 : Nat) : Int) := by rw [pW (by omega) (by omega)]; omega
      rw [opk, opk] at h
      have h := (ifn h).2
      rw [opk, ix, fo.2.1 83 rfl] at h
      rcases ifc h with ⟨c, h⟩ | ⟨c, h⟩
      · have c := c_le c
        rw [show (0 : Int32).toInt = 0 from rfl] at c
        refine na3M_go e2 hi f (k + 1) (v3 + 1) om r p3 (by omega) ?_ fo h
        rw [nmFq_s, if_neg (by omega), List.append_nil]; exact R
      · have c := c_nle c
        rw [show (0 : Int32).toInt = 0 from rfl] at c
        rw [opk, opk] at h
        have h := (ifn h).2
        rw [opk, opk] at h
        obtain ⟨q, hq, h⟩ := bd h
        obtain ⟨R2, f2⟩ := emM_sp R hq
        refine na3M_go e2 hi f (k + 1) (v3 + 1) q r p3 (by omega) ?_ (fr_tr fo f2 rfl rfl rfl) h
        rw [nmFq_s, if_pos c, ← List.append_assoc]
        rw [Int32.toInt32_toInt64, ix] at R2
        exact R2
theorem na1M_sp {i : Nat} {v2 : Int32} {om r : cf_O} {L : List Int32} (R : RtM om L) (e2 : v2.toInt = (i : Int)) (hi : i < 8) (h : fM_name_M41 v2 om = some r) : RtM r (L ++ (32 :: nmFq (fun j => om.2.1 41 (8 * i + j)) 8)) ∧ Fr (fr_M [96] [97] []) om r := by
  unfold fM_name_M41 fM_name_M41_0 at h
  obtain ⟨q, hq, h⟩ := bd h
  obtain ⟨R2, f2⟩ := emM_sp R hq
  have z := na1M_go (OM := q) (L := L ++ [32]) e2 hi cfFU 0 0 q r rfl (by omega) (by show RtM q ((L ++ [32]) ++ []); rw [List.append_nil]; exact R2) fr_rfl h
  rw [List.append_assoc, f2.2.1 41 rfl] at z
  exact ⟨z.1, fr_tr f2 z.2 rfl rfl rfl⟩
theorem na3M_sp {i : Nat} {v2 : Int32} {om r : cf_O} {L : List Int32} (R : RtM om L) (e2 : v2.toInt = (i : Int)) (hi : i < 12) (h : fM_name_M83 v2 om = some r) : RtM r (L ++ (32 :: nmFq (fun j => om.2.1 83 (8 * i + j)) 8)) ∧ Fr (fr_M [96] [97] []) om r := by
  unfold fM_name_M83 fM_name_M83_0 at h
  obtain ⟨q, hq, h⟩ := bd h
  obtain ⟨R2, f2⟩ := emM_sp R hq
  have z := na3M_go (OM := q) (L := L ++ [32]) e2 hi cfFU 0 0 q r rfl (by omega) (by show RtM q ((L ++ [32]) ++ []); rw [List.append_nil]; exact R2) fr_rfl h
  rw [List.append_assoc, f2.2.1 83 rfl] at z
  exact ⟨z.1, fr_tr f2 z.2 rfl rfl rfl⟩
theorem na2M_go {i : Nat} {v2 : Int32} {OM : cf_O} {L : List Int32} (e2 : v2.toInt = (i : Int)) (hi : i < 6) : ∀ (f k : Nat) (v3 : Int32) (om r : cf_O), v3.toInt = (k : Int) → k ≤ 8 → RtM om (L ++ nmFq (fun j => OM.2.1 42 (8 * i + j)) k) → Fr (fr_M [96] [97] []) OM om → gM_name_M42 f 0 v2 v3 om = some r → RtM r (L ++ nmFq (fun j => OM.2.1 42 (8 * i + j)) 8) ∧ Fr (fr_M [96] [97] []) OM r
  | 0, k, v3, om, r, e3, k8, R, fo, h => by cases h
  | f + 1, k, v3, om, r, e3, k8, R, fo, h => by
    have h : fM_name_M42_9 (gM_name_M42 f) v2 v3 om = some r := h
    unfold fM_name_M42_9 at h
    rcases ifc h with ⟨a, h⟩ | ⟨a, h⟩
    · have a := c_le a
      rw [show (8 : Int32).toInt = 8 from rfl] at a
      have ek : k = 8 := by omega
      rw [← Option.some.inj h]
      rw [ek] at R
      exact ⟨R, fo⟩
    · have a := c_nle a
      rw [show (8 : Int32).toInt = 8 from rfl] at a
      have ix : (8 * v2 + v3).toNatClampNeg = 8 * i + k := tW (by
        have m : (8 * v2).toInt = 8 * (i : Int) := by rw [Int32.toInt_mul, e2, show (8 : Int32).toInt = 8 from rfl, i_bm (by omega) (by omega)]
        rw [Int32.toInt_add, m, e3, i_bm (by omega) (by omega)]; omega)
      have p3 : (v3 + 1).toInt = ((k + 1 : Nat) : Int) := by rw [pW (by omega) (by omega)]; omega
      rw [opk, opk] at h
      have h := (ifn h).2
      rw [opk, ix, fo.2.1 42 rfl] at h
      rcases ifc h with ⟨c, h⟩ | ⟨c, h⟩
      · have c := c_le c
        rw [show (0 : Int32).toInt = 0 from rfl] at c
        refine na2M_go e2 hi f (k + 1) (v3 + 1) om r p3 (by omega) ?_ fo h
        rw [nmFq_s, if_neg (by omega), List.append_nil]; exact R
      · have c := c_nle c
        rw [show (0 : Int32).toInt = 0 from rfl] at c
        rw [opk, opk] at h
        have h := (ifn h).2
        rw [opk, opk] at h
        obtain ⟨q, hq, h⟩ := bd h
        obtain ⟨R2, f2⟩ := emM_sp R hq
        refine na2M_go e2 hi f (k + 1) (v3 + 1) q r p3 (by omega) ?_ (fr_tr fo f2 rfl rfl rfl) h
        rw [nmFq_s, if_pos c, ← List.append_assoc]
        rw [Int32.toInt32_toInt64, ix] at R2
        exact R2
theorem na2M_sp {i : Nat} {v2 : Int32} {om r : cf_O} {L : List Int32} (R : RtM om L) (e2 : v2.toInt = (i : Int)) (hi : i < 6) (h : fM_name_M42 v2 om = some r) : RtM r (L ++ (32 :: nmFq (fun j => om.2.1 42 (8 * i + j)) 8)) ∧ Fr (fr_M [96] [97] []) om r := by
  unfold fM_name_M42 fM_name_M42_0 at h
  obtain ⟨q, hq, h⟩ := bd h
  obtain ⟨R2, f2⟩ := emM_sp R hq
  have z := na2M_go (OM := q) (L := L ++ [32]) e2 hi cfFU 0 0 q r rfl (by omega) (by show RtM q ((L ++ [32]) ++ []); rw [List.append_nil]; exact R2) fr_rfl h
  rw [List.append_assoc, f2.2.1 42 rfl] at z
  exact ⟨z.1, fr_tr f2 z.2 rfl rfl rfl⟩
theorem nnM_st {v1 v2 : Int32} {v w : Nat} {om r : cf_O} {L : List Int32} (e1 : v1.toInt = (v : Int)) (e2 : v2.toInt = (w : Int)) (hv : v < 1000) (hw : w ≤ 100) (R : RtM om L) : ∀ f : Nat, gM_nodeName f 0 v1 v2 om = some r → (w = 0 ∧ r = om) ∨ (1 ≤ w ∧ ∃ (f' : Nat) (v3 : Int32) (q : cf_O), v3.toInt = ((w / 10 : Nat) : Int) ∧ gM_nodeName f' 0 v1 v3 q = some r ∧ Fr (fr_M [96] [97] []) om q ∧ RtM q (L ++ (if v < w then [] else [Int32.ofNat (48 + v / w % 10)])))
  | 0, h => by cases h
  | f + 1, h => by
    have h : fM_nodeName_44 (gM_nodeName f) v1 v2 om = some r := h
    unfold fM_nodeName_44 at h
    rcases ifc h with ⟨a, h⟩ | ⟨a, h⟩
    · have a := c_le a
      rw [show (0 : Int32).toInt = 0 from rfl] at a
      exact Or.inl ⟨by omega, (Option.some.inj h).symm⟩
    · have a := c_nle a
      rw [show (0 : Int32).toInt = 0 from rfl] at a
      refine Or.inr ⟨by omega, ?_⟩
      have d : (v2 / 10).toInt = ((w / 10 : Nat) : Int) := by rw [i_dv (y := 10) (by omega) (by decide), e2]; rfl
      rcases ifc h with ⟨c, h⟩ | ⟨c, h⟩
      · have c := Int32.lt_iff_toInt_lt.mp c
        unfold fM_nodeName_67 at h
        rw [opk] at h
        refine ⟨f, v2 / 10, om, d, h, fr_rfl, ?_⟩
        rw [if_pos (by omega), List.append_nil]; exact R
      · have c : ¬ v1.toInt < v2.toInt := fun z => c (Int32.lt_iff_toInt_lt.mpr z)
        have h := (ifn h).2
        rw [opk, opk, opk, opk, dg_i e1 e2 hv (by omega)] at h
        obtain ⟨q, hq, h⟩ := bd h
        obtain ⟨R2, f2⟩ := emM_sp R hq
        unfold fM_nodeName_67 at h
        rw [opk] at h
        refine ⟨f, v2 / 10, q, d, h, f2, ?_⟩
        rw [if_neg (by omega)]
        rw [Int32.toInt32_toInt64] at R2
        exact R2
theorem ndmM_sp {b n v : Nat} {v1 : Int32} {gr om r : cf_O} {L : List Int32} (RG : RGq b n gr om) (R : RtM om L) (e1 : v1.toInt = (v : Int)) (h1 : 1 ≤ v) (hv : v < 1000) (h : fM_nodeName v1 om = some r) : RtM r (L ++ ndL b (om.2.1 41) v) ∧ Fr (fr_M [96] [97] []) om r := by
  have R0 := RG.1
  unfold fM_nodeName fM_nodeName_0 at h
  obtain ⟨q, hq, h⟩ := bd h
  have eb := base_sp RG hq
  unfold ndL
  rcases ifc h with ⟨a, h⟩ | ⟨a, h⟩
  · have a := c_le a
    rw [if_pos (by omega)]
    obtain ⟨q1, k1, h⟩ := bd h
    obtain ⟨q2, k2, h⟩ := bd h
    obtain ⟨q3, k3, h⟩ := bd h
    obtain ⟨R1, f1⟩ := emM_sp R k1
    obtain ⟨R2, f2⟩ := emM_sp R1 k2
    obtain ⟨R3, f3⟩ := emM_sp R2 k3
    have R3 : RtM q3 (L ++ [32, 110, 95]) := by
      rw [List.append_assoc, List.append_assoc] at R3
      exact R3
    have f3 : Fr (fr_M [96] [97] []) om q3 := fr_tr (fr_tr f1 f2 rfl rfl rfl) f3 rfl rfl rfl
    have h : gM_nodeName cfFU 0 v1 100 q3 = some r := h
    rcases nnM_st (w := 100) e1 rfl hv (by omega) R3 cfFU h with ⟨z, _⟩ | ⟨_, g1, w1, u1, z1, h, y1, T1⟩
    · omega
    rcases nnM_st (w := 10) e1 z1 hv (by omega) T1 g1 h with ⟨z, _⟩ | ⟨_, g2, w2, u2, z2, h, y2, T2⟩
    · omega
    rcases nnM_st (w := 1) e1 z2 hv (by omega) T2 g2 h with ⟨z, _⟩ | ⟨_, g3, w3, u3, z3, h, y3, T3⟩
    · omega
    rcases nnM_st (w := 0) e1 z3 hv (by omega) T3 g3 h with ⟨_, er⟩ | ⟨z, _⟩
    · rw [er]
      refine ⟨?_, fr_tr (fr_tr (fr_tr f3 y1 rfl rfl rfl) y2 rfl rfl rfl) y3 rfl rfl rfl⟩
      have ed : (if v < 100 then ([] : List Int32) else [Int32.ofNat (48 + v / 100 % 10)]) ++ ((if v < 10 then [] else [Int32.ofNat (48 + v / 10 % 10)]) ++ (if v < 1 then [] else [Int32.ofNat (48 + v / 1 % 10)])) = dgL v := by
        unfold dgL
        rw [Nat.div_one, if_neg (show ¬ v < 1 by omega)]
        by_cases c1 : v < 10
        · rw [if_pos c1, if_pos (by omega), if_pos c1, show v % 10 = v by omega]; rfl
        · rw [if_neg c1, if_neg c1]
          by_cases c2 : v < 100
          · rw [if_pos c2, if_pos c2, show v / 10 % 10 = v / 10 by omega]; rfl
          · rw [if_neg c2, if_neg c2, show v / 100 % 10 = v / 100 by omega]; rfl
      rw [List.append_assoc, List.append_assoc, ed, List.append_assoc] at T3
      exact T3
    · omega
  · have a := c_nle a
    rw [if_neg (by omega), opk] at *
    obtain ⟨w, hw, h⟩ := bd h
    have er : r = w := (Option.some.inj h).symm
    subst er
    exact na1M_sp R (by rw [i_sub' (by omega) (by omega) (by decide) (by decide), e1, show (1 : Int32).toInt = 1 from rfl]; omega) (by omega) hw
def TwM (sb om : cf_O) : Prop := ∃ L : List Int32, SbQ sb L ∧ RtM om L ∧ AsQ L ∧ 5 ≤ L.length
theorem TwM_f {sb om om2 : cf_O} (T : TwM sb om) (u95 : om2.1 95 = om.1 95) (u76 : om2.1 96 = om.1 96) (u77 : om2.2.1 97 = om.2.1 97) : TwM sb om2 := by
  obtain ⟨L, h1, h2, h3⟩ := T
  refine ⟨L, h1, ?_, h3⟩
  unfold RtM at h2 ⊢
  rw [u95, u76, u77]; exact h2
theorem twM_C {v : Int32} {w : Int64} {sb sb2 om om2 : cf_O} (T : TwM sb om) (e : w.toInt32 = v) (h0 : 0 ≤ v.toInt) (h1 : v.toInt ≤ 127) (k1 : fSB_appendC v sb = some sb2) (k2 : fM_emit w om = some om2) : TwM sb2 om2 ∧ Fr (fr_M [96] [97] []) om om2 := by
  obtain ⟨L, S, R, A, l5⟩ := T
  obtain ⟨R2, f2⟩ := emM_sp R k2
  rw [e] at R2
  refine ⟨⟨L ++ [v], apC_sp S h0 h1 k1, R2, AsQ_a A (fun x hx => by rw [List.mem_singleton.mp hx]; exact ⟨h0, h1⟩), ?_⟩, f2⟩
  rw [List.length_append]; omega
theorem liwM_sp {b n v : Nat} {x2 v1 : Int32} {gr nl sc sb sb2 om om2 : cf_O} (RG : RGq b n gr om) (N : NaI nl gr om) (T : TwM sb om) (e1 : v1.toInt = (v : Int)) (e2 : x2.toInt = 2 * (v : Int)) (h1 : 1 ≤ v) (hv : v < 1000) (k1 : fSc_writeLiteral x2 sc nl sb = some sb2) (k2 : fM_nodeName v1 om = some om2) : TwM sb2 om2 ∧ Fr (fr_M [96] [97] []) om om2 := by
  have R0 := RG.1
  obtain ⟨L, S, R, A, l5⟩ := T
  have L9 := R.2.1.2
  obtain ⟨R2, f2⟩ := ndmM_sp RG R e1 h1 hv k2
  have es : (x2 >>> ((1 : Int32) &&& 31)).toInt = (v : Int) := by rw [i_s1 (by omega), e2]; omega
  have ea : x2 &&& 1 = 0 := Int32.toInt_inj.mp (by rw [i_a1 (by omega), e2]; show _ = (0 : Int); omega)
  unfold fSc_writeLiteral fSc_writeLiteral_0 at k1
  rw [opk, opk, if_pos ea] at k1
  rw [if_neg (fun z => by have := Int32.lt_iff_toInt_lt.mp z; rw [show (1 : Int32).toInt = 1 from rfl] at this; omega)] at k1
  unfold ndL at R2
  rcases ifc k1 with ⟨c, k1⟩ | ⟨c, k1⟩
  · have c := Int32.lt_iff_toInt_lt.mp c
    rw [N.1] at c
    rw [if_pos (by omega), ← List.append_assoc] at R2
    unfold fSc_writeLiteral_36 at k1
    rw [opk, if_pos ea] at k1
    obtain ⟨q, hq, k1⟩ := bd k1
    have S1 := apS_9 S hq
    rw [show wdL 9 3 = [32, 110, 95] from by decide +kernel] at S1
    unfold fSc_writeLiteral_56 fSc_writeLiteral_65 at k1
    obtain ⟨w, hw, k1⟩ := bd k1
    have er : sb2 = w := (Option.some.inj k1).symm
    subst er
    have S2 := apI_sp S1 (by omega) (by omega) (by rw [List.length_append]; omega) (by rw [List.length_append]; show L.length + 3 ≤ _; omega) hw
    rw [es] at S2
    refine ⟨⟨_, S2, R2, AsQ_a (AsQ_a A (by unfold AsQ; decide)) (dgL_a hv), ?_⟩, f2⟩
    rw [List.length_append, List.length_append]; omega
  · have c : ¬ (nl.1 0).toInt < (x2 >>> ((1 : Int32) &&& 31)).toInt := fun z => c (Int32.lt_iff_toInt_lt.mpr z)
    rw [N.1] at c
    rw [if_neg (by omega)] at R2
    rw [opk] at k1
    have k1 := (ifn k1).2
    have ei : (x2 >>> ((1 : Int32) &&& 31) - 1).toNatClampNeg = v - 1 := tW (by rw [i_sub' (by omega) (by omega) (by decide) (by decide), es, show (1 : Int32).toInt = 1 from rfl]; omega)
    rw [opk, ei] at k1
    obtain ⟨w, hw, k1⟩ := bd k1
    have er : sb2 = w := (Option.some.inj k1).symm
    subst er
    have H := N.2.2.1 (v - 1) (by rw [R0.2.2.1]; omega)
    refine ⟨⟨_, wnm_sp S H hw, R2, AsQ_a A (nmF_a H), ?_⟩, f2⟩
    rw [List.length_append]; omega
theorem nodM_sp {b n v : Nat} {v1 v2 : Int32} {gr nl sc sb sb2 om om2 : cf_O} (RG : RGq b n gr om) (N : NaI nl gr om) (T : TwM sb om) (e1 : v1.toInt = (v : Int)) (e2 : v2.toInt = (v : Int)) (h1 : 1 ≤ v) (hv : v < 1000) (k1 : fSc_writeNode v2 sc nl sb = some sb2) (k2 : fM_nodeName v1 om = some om2) : TwM sb2 om2 ∧ Fr (fr_M [96] [97] []) om om2 := by
  unfold fSc_writeNode fSc_writeNode_0 at k1
  rw [opk] at k1
  obtain ⟨w, hw, k1⟩ := bd k1
  have er : sb2 = w := (Option.some.inj k1).symm
  subst er
  exact liwM_sp RG N T e1 (by rw [Int32.toInt_mul, e2, show (2 : Int32).toInt = 2 from rfl, i_bm (by omega) (by omega)]) h1 hv hw k2
theorem twM_N1 {i : Nat} {v : Int32} {l : Int64} {sc sb sb2 om om2 : cf_O} (T : TwM sb om) (ev : v.toInt = (i : Int)) (hi : i < 8) (H : NmR l (fun k => om.2.1 41 (8 * i + k))) (k1 : fSc_writeName l sc sb = some sb2) (k2 : fM_name_M41 v om = some om2) : TwM sb2 om2 ∧ Fr (fr_M [96] [97] []) om om2 := by
  obtain ⟨L, S, R, A, l5⟩ := T
  obtain ⟨R2, f2⟩ := na1M_sp R ev hi k2
  exact ⟨⟨_, wnm_sp S H k1, R2, AsQ_a A (nmF_a H), by rw [List.length_append]; omega⟩, f2⟩
theorem twM_N3 {i : Nat} {v : Int32} {l : Int64} {sc sb sb2 om om2 : cf_O} (T : TwM sb om) (ev : v.toInt = (i : Int)) (hi : i < 12) (H : NmR l (fun k => om.2.1 83 (8 * i + k))) (k1 : fSc_writeName l sc sb = some sb2) (k2 : fM_name_M83 v om = some om2) : TwM sb2 om2 ∧ Fr (fr_M [96] [97] []) om om2 := by
  obtain ⟨L, S, R, A, l5⟩ := T
  obtain ⟨R2, f2⟩ := na3M_sp R ev hi k2
  exact ⟨⟨_, wnm_sp S H k1, R2, AsQ_a A (nmF_a H), by rw [List.length_append]; omega⟩, f2⟩
theorem twM_N2 {i : Nat} {v : Int32} {l : Int64} {sc sb sb2 om om2 : cf_O} (T : TwM sb om) (ev : v.toInt = (i : Int)) (hi : i < 6) (H : NmR l (fun k => om.2.1 42 (8 * i + k))) (k1 : fSc_writeName l sc sb = some sb2) (k2 : fM_name_M42 v om = some om2) : TwM sb2 om2 ∧ Fr (fr_M [96] [97] []) om om2 := by
  obtain ⟨L, S, R, A, l5⟩ := T
  obtain ⟨R2, f2⟩ := na2M_sp R ev hi k2
  exact ⟨⟨_, wnm_sp S H k1, R2, AsQ_a A (nmF_a H), by rw [List.length_append]; omega⟩, f2⟩
theorem h2M_go {b n M : Nat} {gr sc nl OM : cf_O} (G : GW b n gr) (eM : (gr.1 1).toInt = (M : Int)) (RG : RGq b n gr OM) (N : NaI nl gr OM) : ∀ (f1 f2 k : Nat) (v2 v1 : Int32) (sb om r1 r : cf_O), v2.toInt = (k : Int) → v1.toInt = (k : Int) → k ≤ M → Fr (fr_M [96] [97] []) OM om → TwM sb om → gSc_writeHead f1 1 v2 sc nl sb = some r1 → gM_writeMap f2 1 v1 om = some r → ∃ (f : Nat) (om' : cf_O), TwM r1 om' ∧ Fr (fr_M [96] [97] []) OM om' ∧ gM_writeMap f 2 0 om' = some r
  | 0, f2, k, v2, v1, sb, om, r1, r, e2, e1, kM, F, T, h1, h2 => by cases h1
  | f1 + 1, 0, k, v2, v1, sb, om, r1, r, e2, e1, kM, F, T, h1, h2 => by cases h2
  | f1 + 1, f2 + 1, k, v2, v1, sb, om, r1, r, e2, e1, kM, F, T, h1, h2 => by
    have G0 := G.1
    have R0 := RG.1
    have h1 : fSc_writeHead_56 (gSc_writeHead f1) v2 sc nl sb = some r1 := h1
    have h2 : fM_writeMap_49 (gM_writeMap f2) v1 om = some r := h2
    unfold fSc_writeHead_56 at h1
    unfold fM_writeMap_49 at h2
    rcases ifc h1 with ⟨a, h1⟩ | ⟨a, h1⟩
    · have a := c_le a
      rw [N.2.1] at a
      rcases ifc h2 with ⟨_, h2⟩ | ⟨d, _⟩
      · obtain ⟨s1, a1, h1⟩ := bd h1
        have er : r1 = s1 := (Option.some.inj h1).symm
        subst er
        obtain ⟨o1, b1, h2⟩ := bd h2
        obtain ⟨T1, F1⟩ := twM_C T (by decide) (by decide) (by decide) a1 b1
        exact ⟨f2, o1, T1, fr_tr F F1 rfl rfl rfl, h2⟩
      · exact absurd (Int32.le_iff_toInt_le.mpr (by rw [F.1 40 rfl, R0.2.2.2.2.1]; omega)) d
    · have a := c_nle a
      rw [N.2.1] at a
      rcases ifc h2 with ⟨d, _⟩ | ⟨_, h2⟩
      · have d := c_le d
        rw [F.1 40 rfl, R0.2.2.2.2.1] at d; omega
      have h1 := (ifn h1).2
      rw [opk, tW e2] at h1
      obtain ⟨s1, a1, h1⟩ := bd h1
      obtain ⟨o1, b1, h2⟩ := bd h2
      rw [opk] at h2
      obtain ⟨T1, F1⟩ := twM_N2 T e1 (by omega) (by rw [F.2.1 42 rfl]; exact N.2.2.2 k (by rw [R0.2.2.2.2.1]; omega)) a1 b1
      unfold fSc_writeHead_74 at h1
      rw [opk] at h1
      exact h2M_go G eM RG N f1 f2 (k + 1) (v2 + 1) (v1 + 1) s1 o1 r1 r (by rw [pW (by omega) (by omega)]; omega) (by rw [pW (by omega) (by omega)]; omega) (by omega) (fr_tr F F1 rfl rfl rfl) T1 h1 h2
theorem h1M_go {b n M : Nat} {gr sc nl OM : cf_O} (G : GW b n gr) (eM : (gr.1 1).toInt = (M : Int)) (RG : RGq b n gr OM) (N : NaI nl gr OM) (W : W4 (OM.2.2 4)) : ∀ (f1 f2 k : Nat) (v2 v1 : Int32) (sb om r1 r : cf_O), v2.toInt = (k : Int) → v1.toInt = (k : Int) → k + 1 ≤ b → Fr (fr_M [96] [97] []) OM om → TwM sb om → gSc_writeHead f1 0 v2 sc nl sb = some r1 → gM_writeMap f2 0 v1 om = some r → ∃ (f : Nat) (om' : cf_O), TwM r1 om' ∧ Fr (fr_M [96] [97] []) OM om' ∧ gM_writeMap f 2 0 om' = some r
  | 0, f2, k, v2, v1, sb, om, r1, r, e2, e1, kM, F, T, h1, h2 => by cases h1
  | f1 + 1, 0, k, v2, v1, sb, om, r1, r, e2, e1, kM, F, T, h1, h2 => by cases h2
  | f1 + 1, f2 + 1, k, v2, v1, sb, om, r1, r, e2, e1, kM, F, T, h1, h2 => by
    have G0 := G.1
    have R0 := RG.1
    have h1 : fSc_writeHead_20 (gSc_writeHead f1) v2 sc nl sb = some r1 := h1
    have h2 : fM_writeMap_12 (gM_writeMap f2) v1 om = some r := h2
    unfold fSc_writeHead_20 at h1
    unfold fM_writeMap_12 at h2
    rcases ifc h1 with ⟨a, h1⟩ | ⟨a, h1⟩
    · have a := c_le a
      rw [N.1] at a
      rcases ifc h2 with ⟨_, h2⟩ | ⟨d, _⟩
      · obtain ⟨s1, a1, h1⟩ := bd h1
        obtain ⟨o1, b1, h2⟩ := bd h2
        obtain ⟨o2, b2, h2⟩ := bd h2
        obtain ⟨L, S, R, A, l5⟩ := T
        obtain ⟨R1, F1⟩ := emM_sp R b1
        obtain ⟨R2, F2⟩ := worM_sp (w := 1) R1 (by rw [F1.2.2 4 rfl, F.2.2 4 rfl]; exact W) rfl (by decide) b2
        have S1 := apS_7 S a1
        rw [List.append_assoc, ← show wdL 7 9 = [(10 : Int64).toInt32] ++ wdR 1 from by decide +kernel] at R2
        have T2 : TwM s1 o2 := ⟨_, S1, R2, AsQ_a A (by rw [show wdL 7 9 = [10, 46, 111, 117, 116, 112, 117, 116, 115] from by decide +kernel]; unfold AsQ; decide), by rw [List.length_append]; omega⟩
        exact h2M_go G eM RG N f1 f2 0 0 0 s1 o2 r1 r rfl rfl (Nat.zero_le _) (fr_tr (fr_tr F F1 rfl rfl rfl) F2 rfl rfl rfl) T2 h1 h2
      · exact absurd (Int32.le_iff_toInt_le.mpr (by rw [F.1 39 rfl, R0.2.2.1]; omega)) d
    · have a := c_nle a
      rw [N.1] at a
      rcases ifc h2 with ⟨d, _⟩ | ⟨_, h2⟩
      · have d := c_le d
        rw [F.1 39 rfl, R0.2.2.1] at d; omega
      have h1 := (ifn h1).2
      rw [opk, tW e2] at h1
      obtain ⟨s1, a1, h1⟩ := bd h1
      obtain ⟨o1, b1, h2⟩ := bd h2
      rw [opk] at h2
      obtain ⟨T1, F1⟩ := twM_N1 T e1 (by omega) (by rw [F.2.1 41 rfl]; exact N.2.2.1 k (by rw [R0.2.2.1]; omega)) a1 b1
      unfold fSc_writeHead_38 at h1
      rw [opk] at h1
      exact h1M_go G eM RG N W f1 f2 (k + 1) (v2 + 1) (v1 + 1) s1 o1 r1 r (by rw [pW (by omega) (by omega)]; omega) (by rw [pW (by omega) (by omega)]; omega) (by omega) (fr_tr F F1 rfl rfl rfl) T1 h1 h2
