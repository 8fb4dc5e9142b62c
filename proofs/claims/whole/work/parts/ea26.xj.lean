def SbQ (sb : cf_O) (L : List Int32) : Prop := sb.1 1 = 0 ∧ (sb.1 3).toInt = (L.length : Int) ∧ (L.length : Int) ≤ (sb.1 0).toInt ∧ ∀ (i : Nat) (x : Int32), L[i]? = some x → sb.2.1 0 i = x
theorem sl0 (x : Int32) : x <<< ((0 : Int32) &&& 31) = x := by
  rw [show ((0 : Int32) &&& 31) = 0 from rfl]
  exact Int32.toBitVec_inj.mp (by simp)
theorem ens_sp {v : Int32} {o r : cf_O} (h : fAS_ensureCapacityInternal v o = some r) : r.1 1 = o.1 1 ∧ r.1 3 = o.1 3 ∧ (o.1 0).toInt ≤ (r.1 0).toInt ∧ ∀ i : Nat, (i : Int) < (o.1 0).toInt → r.2.1 0 i = o.2.1 0 i := by
  unfold fAS_ensureCapacityInternal fAS_ensureCapacityInternal_0 at h
  have h := (ifn h).2
  rw [opk, opk, opk] at h
  rcases ifc h with ⟨_, h⟩ | ⟨_, h⟩
  · have e : r = o := (Option.some.inj h).symm
    subst e
    exact ⟨rfl, rfl, Int.le_refl _, fun _ _ => rfl⟩
  · obtain ⟨q, _, h⟩ := bd h
    unfold fAS_ensureCapacityInternal_27 at h
    rw [opk] at h
    generalize q <<< ((o.1 1) &&& 31) = x at h
    obtain ⟨c, h⟩ := ifn h
    rw [opk] at h
    have e : r = gb o 0 x := (Option.some.inj h).symm
    subst e
    have c1 : ¬ (o.1 0) < 0 := fun z => c (Or.inl z)
    have c2 : ¬ x < 0 := fun z => c (Or.inr (Or.inl z))
    have c3 : ¬ x.toNatClampNeg < (o.1 0).toNatClampNeg + 16 := fun z => c (Or.inr (Or.inr (Or.inl z)))
    have c1 : ¬ (o.1 0).toInt < 0 := fun z => c1 (Int32.lt_iff_toInt_lt.mpr z)
    have c2 : ¬ x.toInt < 0 := fun z => c2 (Int32.lt_iff_toInt_lt.mpr z)
    have t1 := tn_n x
    have t2 := tn_n (o.1 0)
    refine ⟨rfl, rfl, ?_, fun i hi => ?_⟩
    · show (o.1 0).toInt ≤ x.toInt
      omega
    · show gcp (o.1 0).toNatClampNeg 0 (o.2.1 0) i = _
      unfold gcp
      exact if_pos (by omega)
theorem SbQ_e {v : Int32} {o r : cf_O} {L : List Int32} (S : SbQ o L) (h : fAS_ensureCapacityInternal v o = some r) : SbQ r L := by
  obtain ⟨h1, h2, h3, h4⟩ := S
  obtain ⟨e1, e2, e3, e4⟩ := ens_sp h
  refine ⟨by rw [e1]; exact h1, by rw [e2]; exact h2, by omega, fun i x hx => ?_⟩
  have hi := (List.getElem?_eq_some_iff.mp hx).1
  rw [e4 i (by omega)]; exact h4 i x hx
theorem lat_1 {o : cf_O} (h : o.1 1 = 0) : fAS_isLatin1 o = some 1 := by
  show fAS_isLatin1_0 o = _
  unfold fAS_isLatin1_0
  rw [if_pos h]; rfl
theorem nb_t : ∀ k : Nat, k < 128 → vp_nar .byte ((Int32.ofNat k).toInt8.toInt32) = Int32.ofNat k := by decide +kernel
theorem nb_i {v : Int32} (h0 : 0 ≤ v.toInt) (h1 : v.toInt ≤ 127) : vp_nar .byte (v.toInt8.toInt32) = v := by
  have z := nb_t v.toInt.toNat (by omega)
  rw [of_n h0] at z; exact z
theorem apC_sp {v : Int32} {o r : cf_O} {L : List Int32} (S : SbQ o L) (h0 : 0 ≤ v.toInt) (h1 : v.toInt ≤ 127) (h : fSB_appendC v o = some r) : SbQ r (L ++ [v]) := by
  unfold fSB_appendC fSB_appendC_0 at h
  obtain ⟨w, hw, h⟩ := bd h
  have ew : r = w := (Option.some.inj h).symm
  subst ew
  unfold fAS_appendC fAS_appendC_0 at hw
  rw [opk] at hw
  obtain ⟨q, hq, hw⟩ := bd hw
  have Q := SbQ_e S hq
  obtain ⟨q1, q2, q3, q4⟩ := Q
  unfold fAS_appendC_10 at hw
  rw [lat_1 q1, Option.bind_some] at hw
  unfold fAS_appendC_14 at hw
  rw [if_neg (by decide)] at hw
  obtain ⟨y, hy, hw⟩ := bd hw
  unfold fAS_appendC_21 at hw
  rcases ifc hw with ⟨_, hw⟩ | ⟨_, hw⟩
  · unfold fAS_appendC_45 at hw
    rw [lat_1 q1, Option.bind_some] at hw
    cases hw
  · rw [opk, opk, opk] at hw
    obtain ⟨c, hw⟩ := ifn hw
    rw [opk, tW q2, nb_i h0 h1] at hw
    have e : r = xp (fp q 3 ((q.1 3) + 1)) 0 L.length v := (Option.some.inj hw).symm
    subst e
    have c : ¬ (q.1 0).toNatClampNeg ≤ (q.1 3).toNatClampNeg := fun z => c (Or.inr z)
    have t1 := tn_n (q.1 0)
    have t2 := tW q2
    have hi : (q.1 0).toInt < 2147483648 := by have := Int32.toInt_lt (q.1 0); omega
    have e3 : ((q.1 3) + 1).toInt = (L.length : Int) + 1 := by
      rw [Int32.toInt_add, q2, show (1 : Int32).toInt = 1 from rfl, i_bm (by omega) (by omega)]
    refine ⟨q1, ?_, ?_, fun i x hx => ?_⟩
    · show ((q.1 3) + 1).toInt = _
      rw [e3, List.length_append]; rfl
    · show ((L ++ [v]).length : Int) ≤ (q.1 0).toInt
      rw [List.length_append]
      show ((L.length + 1 : Nat) : Int) ≤ _
      omega
    · show upd (q.2.1 0) L.length v i = x
      by_cases e : i = L.length
      · rw [e, up_s]
        rw [e, List.getElem?_append_right (Nat.le_refl _), Nat.sub_self] at hx
        exact Option.some.inj hx
      · rw [up_o e]
        have hl := (List.getElem?_eq_some_iff.mp hx).1
        rw [List.length_append] at hl
        have hl : i < L.length + 1 := hl
        rw [List.getElem?_append_left (by omega)] at hx
        exact q4 i x hx
def wdL (s n : Nat) : List Int32 := (List.range n).map (cf_sb s)
theorem cb_sp {o : cf_O} {L : List Int32} {s n : Nat} {v : Int32} (S : SbQ o L) (ev : v.toInt = (n : Int)) (hc : (L.length : Int) + (n : Int) ≤ (o.1 0).toInt) : SbQ (fp (cb o 0 s (o.1 3) v) 3 ((o.1 3) + v)) (L ++ wdL s n) := by
  obtain ⟨q1, q2, q3, q4⟩ := S
  have hi : (o.1 0).toInt < 2147483648 := by have := Int32.toInt_lt (o.1 0); omega
  have wl : (wdL s n).length = n := by unfold wdL; rw [List.length_map, List.length_range]
  refine ⟨q1, ?_, ?_, fun i x hx => ?_⟩
  · show ((o.1 3) + v).toInt = _
    rw [Int32.toInt_add, q2, ev, i_bm (by omega) (by omega), List.length_append, wl]; rfl
  · show ((L ++ wdL s n).length : Int) ≤ (o.1 0).toInt
    rw [List.length_append, wl]; omega
  · show va_cpy (cf_sb s) (o.2.1 0) (0 : Int32).toNatClampNeg (o.1 3).toNatClampNeg v.toNatClampNeg i = x
    unfold va_cpy
    rw [tW q2, tW ev, show (0 : Int32).toNatClampNeg = 0 from rfl]
    by_cases e : i < L.length
    · rw [if_neg (by omega)]
      rw [List.getElem?_append_left e] at hx
      exact q4 i x hx
    · have hl := (List.getElem?_eq_some_iff.mp hx).1
      rw [List.length_append, wl] at hl
      rw [if_pos (by omega), Nat.zero_add]
      rw [List.getElem?_append_right (by omega)] at hx
      unfold wdL at hx
      rw [List.getElem?_map, List.getElem?_range (by omega)] at hx
      exact Option.some.inj hx
theorem apS_6 {o r : cf_O} {L : List Int32} (S : SbQ o L) (h : fSB_appendS_S6 o = some r) : SbQ r (L ++ wdL 6 7) := by
  unfold fSB_appendS_S6 fSB_appendS_S6_0 at h
  obtain ⟨w, hw, h⟩ := bd h
  have ew : r = w := (Option.some.inj h).symm
  subst ew
  unfold fAS_appendS_S6 fAS_appendS_S6_0 at hw
  rw [show fJString_length__S6 = some 7 from rfl, Option.bind_some] at hw
  unfold fAS_appendS_S6_13 at hw
  rw [opk] at hw
  obtain ⟨q, hq, hw⟩ := bd hw
  have Q := SbQ_e S hq
  unfold fAS_appendS_S6_24 fAS_putStringAt_S6 fAS_putStringAt_S6_0 at hw
  obtain ⟨y, hy, hw⟩ := bd hw
  obtain ⟨u, hu, hy⟩ := bd hy
  obtain ⟨z, hz, hy⟩ := bd hy
  have ez : y = z := (Option.some.inj hy).symm
  subst ez
  unfold fJString_getBytes_ABIB_S6_SB0 fJString_getBytes_ABIB_S6_SB0_0 at hz
  rw [show fJString_coder__S6 = some 0 from rfl, Option.bind_some, Q.1, if_pos rfl, opk, sl0] at hz
  obtain ⟨c, hz⟩ := ifn hz
  rw [opk] at hz
  have ey : y = cb q 0 6 (q.1 3) 7 := (Option.some.inj hz).symm
  subst ey
  unfold fAS_appendS_S6_33 at hw
  rw [opk, opk] at hw
  have er : r = fp (cb q 0 6 (q.1 3) 7) 3 ((q.1 3) + 7) := (Option.some.inj hw).symm
  rw [er]
  have c : ¬ (q.1 0).toNatClampNeg < (q.1 3).toNatClampNeg + 7 := fun z => c (Or.inr z)
  have t1 := tn_n (q.1 0)
  have t2 := tW Q.2.1
  exact cb_sp Q rfl (by have := Q.2.2.1; omega)
theorem apS_7 {o r : cf_O} {L : List Int32} (S : SbQ o L) (h : fSB_appendS_S7 o = some r) : SbQ r (L ++ wdL 7 9) := by
  unfold fSB_appendS_S7 fSB_appendS_S7_0 at h
  obtain ⟨w, hw, h⟩ := bd h
  have ew : r = w := (Option.some.inj h).symm
  subst ew
  unfold fAS_appendS_S7 fAS_appendS_S7_0 at hw
  rw [show fJString_length__S7 = some 9 from rfl, Option.bind_some] at hw
  unfold fAS_appendS_S7_13 at hw
  rw [opk] at hw
  obtain ⟨q, hq, hw⟩ := bd hw
  have Q := SbQ_e S hq
  unfold fAS_appendS_S7_24 fAS_putStringAt_S7 fAS_putStringAt_S7_0 at hw
  obtain ⟨y, hy, hw⟩ := bd hw
  obtain ⟨u, hu, hy⟩ := bd hy
  obtain ⟨z, hz, hy⟩ := bd hy
  have ez : y = z := (Option.some.inj hy).symm
  subst ez
  unfold fJString_getBytes_ABIB_S7_SB0 fJString_getBytes_ABIB_S7_SB0_0 at hz
  rw [show fJString_coder__S7 = some 0 from rfl, Option.bind_some, Q.1, if_pos rfl, opk, sl0] at hz
  obtain ⟨c, hz⟩ := ifn hz
  rw [opk] at hz
  have ey : y = cb q 0 7 (q.1 3) 9 := (Option.some.inj hz).symm
  subst ey
  unfold fAS_appendS_S7_33 at hw
  rw [opk, opk] at hw
  have er : r = fp (cb q 0 7 (q.1 3) 9) 3 ((q.1 3) + 9) := (Option.some.inj hw).symm
  rw [er]
  have c : ¬ (q.1 0).toNatClampNeg < (q.1 3).toNatClampNeg + 9 := fun z => c (Or.inr z)
  have t1 := tn_n (q.1 0)
  have t2 := tW Q.2.1
  exact cb_sp Q rfl (by have := Q.2.2.1; omega)
theorem apS_8 {o r : cf_O} {L : List Int32} (S : SbQ o L) (h : fSB_appendS_S8 o = some r) : SbQ r (L ++ wdL 8 6) := by
  unfold fSB_appendS_S8 fSB_appendS_S8_0 at h
  obtain ⟨w, hw, h⟩ := bd h
  have ew : r = w := (Option.some.inj h).symm
  subst ew
  unfold fAS_appendS_S8 fAS_appendS_S8_0 at hw
  rw [show fJString_length__S8 = some 6 from rfl, Option.bind_some] at hw
  unfold fAS_appendS_S8_13 at hw
  rw [opk] at hw
  obtain ⟨q, hq, hw⟩ := bd hw
  have Q := SbQ_e S hq
  unfold fAS_appendS_S8_24 fAS_putStringAt_S8 fAS_putStringAt_S8_0 at hw
  obtain ⟨y, hy, hw⟩ := bd hw
  obtain ⟨u, hu, hy⟩ := bd hy
  obtain ⟨z, hz, hy⟩ := bd hy
  have ez : y = z := (Option.some.inj hy).symm
  subst ez
  unfold fJString_getBytes_ABIB_S8_SB0 fJString_getBytes_ABIB_S8_SB0_0 at hz
  rw [show fJString_coder__S8 = some 0 from rfl, Option.bind_some, Q.1, if_pos rfl, opk, sl0] at hz
  obtain ⟨c, hz⟩ := ifn hz
  rw [opk] at hz
  have ey : y = cb q 0 8 (q.1 3) 6 := (Option.some.inj hz).symm
  subst ey
  unfold fAS_appendS_S8_33 at hw
  rw [opk, opk] at hw
  have er : r = fp (cb q 0 8 (q.1 3) 6) 3 ((q.1 3) + 6) := (Option.some.inj hw).symm
  rw [er]
  have c : ¬ (q.1 0).toNatClampNeg < (q.1 3).toNatClampNeg + 6 := fun z => c (Or.inr z)
  have t1 := tn_n (q.1 0)
  have t2 := tW Q.2.1
  exact cb_sp Q rfl (by have := Q.2.2.1; omega)
theorem apS_9 {o r : cf_O} {L : List Int32} (S : SbQ o L) (h : fSB_appendS_S9 o = some r) : SbQ r (L ++ wdL 9 3) := by
  unfold fSB_appendS_S9 fSB_appendS_S9_0 at h
  obtain ⟨w, hw, h⟩ := bd h
  have ew : r = w := (Option.some.inj h).symm
  subst ew
  unfold fAS_appendS_S9 fAS_appendS_S9_0 at hw
  rw [show fJString_length__S9 = some 3 from rfl, Option.bind_some] at hw
  unfold fAS_appendS_S9_13 at hw
  rw [opk] at hw
  obtain ⟨q, hq, hw⟩ := bd hw
  have Q := SbQ_e S hq
  unfold fAS_appendS_S9_24 fAS_putStringAt_S9 fAS_putStringAt_S9_0 at hw
  obtain ⟨y, hy, hw⟩ := bd hw
  obtain ⟨u, hu, hy⟩ := bd hy
  obtain ⟨z, hz, hy⟩ := bd hy
  have ez : y = z := (Option.some.inj hy).symm
  subst ez
  unfold fJString_getBytes_ABIB_S9_SB0 fJString_getBytes_ABIB_S9_SB0_0 at hz
  rw [show fJString_coder__S9 = some 0 from rfl, Option.bind_some, Q.1, if_pos rfl, opk, sl0] at hz
  obtain ⟨c, hz⟩ := ifn hz
  rw [opk] at hz
  have ey : y = cb q 0 9 (q.1 3) 3 := (Option.some.inj hz).symm
  subst ey
  unfold fAS_appendS_S9_33 at hw
  rw [opk, opk] at hw
  have er : r = fp (cb q 0 9 (q.1 3) 3) 3 ((q.1 3) + 3) := (Option.some.inj hw).symm
  rw [er]
  have c : ¬ (q.1 0).toNatClampNeg < (q.1 3).toNatClampNeg + 3 := fun z => c (Or.inr z)
  have t1 := tn_n (q.1 0)
  have t2 := tW Q.2.1
  exact cb_sp Q rfl (by have := Q.2.2.1; omega)
theorem apS_10 {o r : cf_O} {L : List Int32} (S : SbQ o L) (h : fSB_appendS_S10 o = some r) : SbQ r (L ++ wdL 10 3) := by
  unfold fSB_appendS_S10 fSB_appendS_S10_0 at h
  obtain ⟨w, hw, h⟩ := bd h
  have ew : r = w := (Option.some.inj h).symm
  subst ew
  unfold fAS_appendS_S10 fAS_appendS_S10_0 at hw
  rw [show fJString_length__S10 = some 3 from rfl, Option.bind_some] at hw
  unfold fAS_appendS_S10_13 at hw
  rw [opk] at hw
  obtain ⟨q, hq, hw⟩ := bd hw
  have Q := SbQ_e S hq
  unfold fAS_appendS_S10_24 fAS_putStringAt_S10 fAS_putStringAt_S10_0 at hw
  obtain ⟨y, hy, hw⟩ := bd hw
  obtain ⟨u, hu, hy⟩ := bd hy
  obtain ⟨z, hz, hy⟩ := bd hy
  have ez : y = z := (Option.some.inj hy).symm
  subst ez
  unfold fJString_getBytes_ABIB_S10_SB0 fJString_getBytes_ABIB_S10_SB0_0 at hz
  rw [show fJString_coder__S10 = some 0 from rfl, Option.bind_some, Q.1, if_pos rfl, opk, sl0] at hz
  obtain ⟨c, hz⟩ := ifn hz
  rw [opk] at hz
  have ey : y = cb q 0 10 (q.1 3) 3 := (Option.some.inj hz).symm
  subst ey
  unfold fAS_appendS_S10_33 at hw
  rw [opk, opk] at hw
  have er : r = fp (cb q 0 10 (q.1 3) 3) 3 ((q.1 3) + 3) := (Option.some.inj hw).symm
  rw [er]
  have c : ¬ (q.1 0).toNatClampNeg < (q.1 3).toNatClampNeg + 3 := fun z => c (Or.inr z)
  have t1 := tn_n (q.1 0)
  have t2 := tW Q.2.1
  exact cb_sp Q rfl (by have := Q.2.2.1; omega)
theorem apS_11 {o r : cf_O} {L : List Int32} (S : SbQ o L) (h : fSB_appendS_S11 o = some r) : SbQ r (L ++ wdL 11 3) := by
  unfold fSB_appendS_S11 fSB_appendS_S11_0 at h
  obtain ⟨w, hw, h⟩ := bd h
  have ew : r = w := (Option.some.inj h).symm
  subst ew
  unfold fAS_appendS_S11 fAS_appendS_S11_0 at hw
  rw [show fJString_length__S11 = some 3 from rfl, Option.bind_some] at hw
  unfold fAS_appendS_S11_13 at hw
  rw [opk] at hw
  obtain ⟨q, hq, hw⟩ := bd hw
  have Q := SbQ_e S hq
  unfold fAS_appendS_S11_24 fAS_putStringAt_S11 fAS_putStringAt_S11_0 at hw
  obtain ⟨y, hy, hw⟩ := bd hw
  obtain ⟨u, hu, hy⟩ := bd hy
  obtain ⟨z, hz, hy⟩ := bd hy
  have ez : y = z := (Option.some.inj hy).symm
  subst ez
  unfold fJString_getBytes_ABIB_S11_SB0 fJString_getBytes_ABIB_S11_SB0_0 at hz
  rw [show fJString_coder__S11 = some 0 from rfl, Option.bind_some, Q.1, if_pos rfl, opk, sl0] at hz
  obtain ⟨c, hz⟩ := ifn hz
  rw [opk] at hz
  have ey : y = cb q 0 11 (q.1 3) 3 := (Option.some.inj hz).symm
  subst ey
  unfold fAS_appendS_S11_33 at hw
  rw [opk, opk] at hw
  have er : r = fp (cb q 0 11 (q.1 3) 3) 3 ((q.1 3) + 3) := (Option.some.inj hw).symm
  rw [er]
  have c : ¬ (q.1 0).toNatClampNeg < (q.1 3).toNatClampNeg + 3 := fun z => c (Or.inr z)
  have t1 := tn_n (q.1 0)
  have t2 := tW Q.2.1
  exact cb_sp Q rfl (by have := Q.2.2.1; omega)
theorem apS_12 {o r : cf_O} {L : List Int32} (S : SbQ o L) (h : fSB_appendS_S12 o = some r) : SbQ r (L ++ wdL 12 6) := by
  unfold fSB_appendS_S12 fSB_appendS_S12_0 at h
  obtain ⟨w, hw, h⟩ := bd h
  have ew : r = w := (Option.some.inj h).symm
  subst ew
  unfold fAS_appendS_S12 fAS_appendS_S12_0 at hw
  rw [show fJString_length__S12 = some 6 from rfl, Option.bind_some] at hw
  unfold fAS_appendS_S12_13 at hw
  rw [opk] at hw
  obtain ⟨q, hq, hw⟩ := bd hw
  have Q := SbQ_e S hq
  unfold fAS_appendS_S12_24 fAS_putStringAt_S12 fAS_putStringAt_S12_0 at hw
  obtain ⟨y, hy, hw⟩ := bd hw
  obtain ⟨u, hu, hy⟩ := bd hy
  obtain ⟨z, hz, hy⟩ := bd hy
  have ez : y = z := (Option.some.inj hy).symm
  subst ez
  unfold fJString_getBytes_ABIB_S12_SB0 fJString_getBytes_ABIB_S12_SB0_0 at hz
  rw [show fJString_coder__S12 = some 0 from rfl, Option.bind_some, Q.1, if_pos rfl, opk, sl0] at hz
  obtain ⟨c, hz⟩ := ifn hz
  rw [opk] at hz
  have ey : y = cb q 0 12 (q.1 3) 6 := (Option.some.inj hz).symm
  subst ey
  unfold fAS_appendS_S12_33 at hw
  rw [opk, opk] at hw
  have er : r = fp (cb q 0 12 (q.1 3) 6) 3 ((q.1 3) + 6) := (Option.some.inj hw).symm
  rw [er]
  have c : ¬ (q.1 0).toNatClampNeg < (q.1 3).toNatClampNeg + 6 := fun z => c (Or.inr z)
  have t1 := tn_n (q.1 0)
  have t2 := tW Q.2.1
  exact cb_sp Q rfl (by have := Q.2.2.1; omega)
theorem apS_13 {o r : cf_O} {L : List Int32} (S : SbQ o L) (h : fSB_appendS_S13 o = some r) : SbQ r (L ++ wdL 13 4) := by
  unfold fSB_appendS_S13 fSB_appendS_S13_0 at h
  obtain ⟨w, hw, h⟩ := bd h
  have ew : r = w := (Option.some.inj h).symm
  subst ew
  unfold fAS_appendS_S13 fAS_appendS_S13_0 at hw
  rw [show fJString_length__S13 = some 4 from rfl, Option.bind_some] at hw
  unfold fAS_appendS_S13_13 at hw
  rw [opk] at hw
  obtain ⟨q, hq, hw⟩ := bd hw
  have Q := SbQ_e S hq
  unfold fAS_appendS_S13_24 fAS_putStringAt_S13 fAS_putStringAt_S13_0 at hw
  obtain ⟨y, hy, hw⟩ := bd hw
  obtain ⟨u, hu, hy⟩ := bd hy
  obtain ⟨z, hz, hy⟩ := bd hy
  have ez : y = z := (Option.some.inj hy).symm
  subst ez
  unfold fJString_getBytes_ABIB_S13_SB0 fJString_getBytes_ABIB_S13_SB0_0 at hz
  rw [show fJString_coder__S13 = some 0 from rfl, Option.bind_some, Q.1, if_pos rfl, opk, sl0] at hz
  obtain ⟨c, hz⟩ := ifn hz
  rw [opk] at hz
  have ey : y = cb q 0 13 (q.1 3) 4 := (Option.some.inj hz).symm
  subst ey
  unfold fAS_appendS_S13_33 at hw
  rw [opk, opk] at hw
  have er : r = fp (cb q 0 13 (q.1 3) 4) 3 ((q.1 3) + 4) := (Option.some.inj hw).symm
  rw [er]
  have c : ¬ (q.1 0).toNatClampNeg < (q.1 3).toNatClampNeg + 4 := fun z => c (Or.inr z)
  have t1 := tn_n (q.1 0)
  have t2 := tW Q.2.1
  exact cb_sp Q rfl (by have := Q.2.2.1; omega)
theorem apS_14 {o r : cf_O} {L : List Int32} (S : SbQ o L) (h : fSB_appendS_S14 o = some r) : SbQ r (L ++ wdL 14 4) := by
  unfold fSB_appendS_S14 fSB_appendS_S14_0 at h
  obtain ⟨w, hw, h⟩ := bd h
  have ew : r = w := (Option.some.inj h).symm
  subst ew
  unfold fAS_appendS_S14 fAS_appendS_S14_0 at hw
  rw [show fJString_length__S14 = some 4 from rfl, Option.bind_some] at hw
  unfold fAS_appendS_S14_13 at hw
  rw [opk] at hw
  obtain ⟨q, hq, hw⟩ := bd hw
  have Q := SbQ_e S hq
  unfold fAS_appendS_S14_24 fAS_putStringAt_S14 fAS_putStringAt_S14_0 at hw
  obtain ⟨y, hy, hw⟩ := bd hw
  obtain ⟨u, hu, hy⟩ := bd hy
  obtain ⟨z, hz, hy⟩ := bd hy
  have ez : y = z := (Option.some.inj hy).symm
  subst ez
  unfold fJString_getBytes_ABIB_S14_SB0 fJString_getBytes_ABIB_S14_SB0_0 at hz
  rw [show fJString_coder__S14 = some 0 from rfl, Option.bind_some, Q.1, if_pos rfl, opk, sl0] at hz
  obtain ⟨c, hz⟩ := ifn hz
  rw [opk] at hz
  have ey : y = cb q 0 14 (q.1 3) 4 := (Option.some.inj hz).symm
  subst ey
  unfold fAS_appendS_S14_33 at hw
  rw [opk, opk] at hw
  have er : r = fp (cb q 0 14 (q.1 3) 4) 3 ((q.1 3) + 4) := (Option.some.inj hw).symm
  rw [er]
  have c : ¬ (q.1 0).toNatClampNeg < (q.1 3).toNatClampNeg + 4 := fun z => c (Or.inr z)
  have t1 := tn_n (q.1 0)
  have t2 := tW Q.2.1
  exact cb_sp Q rfl (by have := Q.2.2.1; omega)
theorem apS_15 {o r : cf_O} {L : List Int32} (S : SbQ o L) (h : fSB_appendS_S15 o = some r) : SbQ r (L ++ wdL 15 2) := by
  unfold fSB_appendS_S15 fSB_appendS_S15_0 at h
  obtain ⟨w, hw, h⟩ := bd h
  have ew : r = w := (Option.some.inj h).symm
  subst ew
  unfold fAS_appendS_S15 fAS_appendS_S15_0 at hw
  rw [show fJString_length__S15 = some 2 from rfl, Option.bind_some] at hw
  unfold fAS_appendS_S15_13 at hw
  rw [opk] at hw
  obtain ⟨q, hq, hw⟩ := bd hw
  have Q := SbQ_e S hq
  unfold fAS_appendS_S15_24 fAS_putStringAt_S15 fAS_putStringAt_S15_0 at hw
  obtain ⟨y, hy, hw⟩ := bd hw
  obtain ⟨u, hu, hy⟩ := bd hy
  obtain ⟨z, hz, hy⟩ := bd hy
  have ez : y = z := (Option.some.inj hy).symm
  subst ez
  unfold fJString_getBytes_ABIB_S15_SB0 fJString_getBytes_ABIB_S15_SB0_0 at hz
  rw [show fJString_coder__S15 = some 0 from rfl, Option.bind_some, Q.1, if_pos rfl, opk, sl0] at hz
  obtain ⟨c, hz⟩ := ifn hz
  rw [opk] at hz
  have ey : y = cb q 0 15 (q.1 3) 2 := (Option.some.inj hz).symm
  subst ey
  unfold fAS_appendS_S15_33 at hw
  rw [opk, opk] at hw
  have er : r = fp (cb q 0 15 (q.1 3) 2) 3 ((q.1 3) + 2) := (Option.some.inj hw).symm
  rw [er]
  have c : ¬ (q.1 0).toNatClampNeg < (q.1 3).toNatClampNeg + 2 := fun z => c (Or.inr z)
  have t1 := tn_n (q.1 0)
  have t2 := tW Q.2.1
  exact cb_sp Q rfl (by have := Q.2.2.1; omega)
theorem apS_16 {o r : cf_O} {L : List Int32} (S : SbQ o L) (h : fSB_appendS_S16 o = some r) : SbQ r (L ++ wdL 16 5) := by
  unfold fSB_appendS_S16 fSB_appendS_S16_0 at h
  obtain ⟨w, hw, h⟩ := bd h
  have ew : r = w := (Option.some.inj h).symm
  subst ew
  unfold fAS_appendS_S16 fAS_appendS_S16_0 at hw
  rw [show fJString_length__S16 = some 5 from rfl, Option.bind_some] at hw
  unfold fAS_appendS_S16_13 at hw
  rw [opk] at hw
  obtain ⟨q, hq, hw⟩ := bd hw
  have Q := SbQ_e S hq
  unfold fAS_appendS_S16_24 fAS_putStringAt_S16 fAS_putStringAt_S16_0 at hw
  obtain ⟨y, hy, hw⟩ := bd hw
  obtain ⟨u, hu, hy⟩ := bd hy
  obtain ⟨z, hz, hy⟩ := bd hy
  have ez : y = z := (Option.some.inj hy).symm
  subst ez
  unfold fJString_getBytes_ABIB_S16_SB0 fJString_getBytes_ABIB_S16_SB0_0 at hz
  rw [show fJString_coder__S16 = some 0 from rfl, Option.bind_some, Q.1, if_pos rfl, opk, sl0] at hz
  obtain ⟨c, hz⟩ := ifn hz
  rw [opk] at hz
  have ey : y = cb q 0 16 (q.1 3) 5 := (Option.some.inj hz).symm
  subst ey
  unfold fAS_appendS_S16_33 at hw
  rw [opk, opk] at hw
  have er : r = fp (cb q 0 16 (q.1 3) 5) 3 ((q.1 3) + 5) := (Option.some.inj hw).symm
  rw [er]
  have c : ¬ (q.1 0).toNatClampNeg < (q.1 3).toNatClampNeg + 5 := fun z => c (Or.inr z)
  have t1 := tn_n (q.1 0)
  have t2 := tW Q.2.1
  exact cb_sp Q rfl (by have := Q.2.2.1; omega)
