theorem sle_sp {o r : cf_O} {L : List Int32} (S : SbQ o L) (h : fSB_setLength 0 o = some r) : SbQ r [] := by
  unfold fSB_setLength fSB_setLength_0 at h
  obtain ⟨w, hw, h⟩ := bd h
  have ew : r = w := (Option.some.inj h).symm
  subst ew
  unfold fAS_setLength fAS_setLength_0 at hw
  rw [if_pos (by decide)] at hw
  obtain ⟨q, hq, hw⟩ := bd hw
  obtain ⟨q1, q2, q3, q4⟩ := SbQ_e S hq
  unfold fAS_setLength_18 at hw
  have nil : ∀ o2 : cf_O, o2.1 1 = 0 → o2.1 0 = q.1 0 → o2.1 3 = 0 → SbQ o2 [] := fun o2 a b c => ⟨a, by rw [c]; rfl, by rw [b]; show ((0 : Nat) : Int) ≤ _; omega, fun i x hx => by rw [List.getElem?_nil] at hx; cases hx⟩
  rcases ifc hw with ⟨_, hw⟩ | ⟨a, _⟩
  · rcases ifc hw with ⟨_, hw⟩ | ⟨_, hw⟩
    · unfold fAS_setLength_76 at hw
      rw [opk] at hw
      rw [← Option.some.inj hw]
      exact nil _ q1 rfl rfl
    · unfold fAS_setLength_76 at hw
      rw [opk, opk] at hw
      rw [← Option.some.inj hw]
      exact nil _ q1 rfl rfl
  · exact absurd (Int32.le_iff_toInt_le.mpr (by show (0 : Int) ≤ _; omega)) a
theorem chu_t : ∀ k : Nat, k < 128 → ((Int32.ofNat k &&& 255).toUInt32 % 65536).toInt32 = Int32.ofNat k := by decide +kernel
def AsQ (L : List Int32) : Prop := ∀ x ∈ L, 0 ≤ x.toInt ∧ x.toInt ≤ 127
theorem sgn_sp {v r : Int32} {sc sb : cf_O} {L : List Int32} (S : SbQ sb L) (A : AsQ L) (h0 : 0 ≤ v.toInt) (h : fSc_signAt v sc sb = some r) : ((L.length : Int) ≤ v.toInt ∧ r = -1) ∨ (v.toInt < (L.length : Int) ∧ L[v.toInt.toNat]? = some r) := by
  obtain ⟨q1, q2, q3, q4⟩ := S
  unfold fSc_signAt fSc_signAt_0 at h
  rw [show fSB_length sb = some (sb.1 3) from rfl, Option.bind_some] at h
  rcases ifc h with ⟨a, h⟩ | ⟨a, h⟩
  · have a := c_le a
    exact Or.inl ⟨by omega, (Option.some.inj h).symm⟩
  · have a := c_nle a
    refine Or.inr ⟨by omega, ?_⟩
    obtain ⟨c, hc, h⟩ := bd h
    have er : r = c := (Option.some.inj h).symm
    subst er
    unfold fSB_charAt fSB_charAt_0 at hc
    obtain ⟨d, hd, hc⟩ := bd hc
    have hc := (ifn hc).2
    have er : r = d := (Option.some.inj hc).symm
    subst er
    unfold fAS_charAt fAS_charAt_0 at hd
    have hd := (ifn hd).2
    rw [opk, opk, opk] at hd
    obtain ⟨e, _, hd⟩ := bd hd
    rw [if_pos q1] at hd
    have hd := (ifn hd).2
    rw [opk, opk, opk] at hd
    have hd := (ifn hd).2
    have iv : v.toNatClampNeg = v.toInt.toNat := by have := tn_n v; omega
    have il : v.toInt.toNat < L.length := by omega
    have hx : L[v.toInt.toNat]? = some L[v.toInt.toNat] := List.getElem?_eq_getElem il
    have ax := A _ (List.getElem_mem il)
    rw [iv, q4 _ _ hx] at hd
    have z := chu_t (L[v.toInt.toNat]).toInt.toNat (by omega)
    rw [of_n ax.1] at z
    rw [z] at hd
    rw [hx, ← Option.some.inj hd]
theorem ss_st {x p i r : Int32} : ∀ f : Nat, gJInteger_stringSize_I f 0 x 0 p i = some r → i.toInt < 10 → (x.toInt ≤ p.toInt ∧ ∃ f' : Nat, gJInteger_stringSize_I f' 0 x 0 (10 * p) (i + 1) = some r) ∨ (p.toInt < x.toInt ∧ r = i + 0)
  | 0, h, _ => by cases h
  | f + 1, h, hi => by
    have h : fJInteger_stringSize_I_16 (gJInteger_stringSize_I f) x 0 p i = some r := h
    unfold fJInteger_stringSize_I_16 at h
    rcases ifc h with ⟨a, _⟩ | ⟨_, h⟩
    · have a := c_le a
      rw [show (10 : Int32).toInt = 10 from rfl] at a
      omega
    rcases ifc h with ⟨a, h⟩ | ⟨a, h⟩
    · rw [opk, opk] at h
      exact Or.inl ⟨c_le a, f, h⟩
    · rw [opk] at h
      exact Or.inr ⟨c_nle a, (Option.some.inj h).symm⟩
theorem ng_i {v : Int32} (h0 : 0 ≤ v.toInt) (h1 : v.toInt < 1000) : (-v).toInt = -v.toInt := by
  rw [Int32.toInt_neg, i_bm (by omega) (by omega)]
theorem ss_sp {v r : Int32} (h0 : 0 ≤ v.toInt) (h1 : v.toInt < 1000) (h : fJInteger_stringSize_I v = some r) : (v.toInt < 10 ∧ r = 1) ∨ (10 ≤ v.toInt ∧ v.toInt < 100 ∧ r = 2) ∨ (100 ≤ v.toInt ∧ r = 3) := by
  have n := ng_i h0 h1
  unfold fJInteger_stringSize_I fJInteger_stringSize_I_0 at h
  rw [if_neg (fun z => by have := Int32.lt_iff_toInt_lt.mp z; rw [show (0 : Int32).toInt = 0 from rfl] at this; omega), opk] at h
  unfold fJInteger_stringSize_I_11 at h
  rcases ss_st cfFU h (by decide) with ⟨a, f1, h⟩ | ⟨a, e⟩
  · rw [show (-10 : Int32).toInt = -10 from by decide] at a
    rcases ss_st f1 h (by decide) with ⟨b, f2, h⟩ | ⟨b, e⟩
    · rw [show (10 * (-10) : Int32).toInt = -100 from by decide] at b
      rcases ss_st f2 h (by decide) with ⟨c, f3, h⟩ | ⟨c, e⟩
      · rw [show (10 * (10 * (-10)) : Int32).toInt = -1000 from by decide] at c
        omega
      · exact Or.inr (Or.inr ⟨by omega, by rw [e]; decide⟩)
    · rw [show (10 * (-10) : Int32).toInt = -100 from by decide] at b
      exact Or.inr (Or.inl ⟨by omega, by omega, by rw [e]; decide⟩)
  · rw [show (-10 : Int32).toInt = -10 from by decide] at a
    exact Or.inl ⟨by omega, by rw [e]; decide⟩
theorem on_t : ∀ k : Nat, k < 100 → vp_nar .byte (cf_ones k) = Int32.ofNat (48 + k % 10) ∧ vp_nar .byte (cf_tens k) = Int32.ofNat (48 + k / 10) := by decide +kernel
theorem gc_st {x p : Int32} {o : cf_O} {r : Int32 × cf_O} {v q : Nat} (ex : x.toInt = -(v : Int)) (hv : v < 1000) (ep : p.toInt = (q : Int)) (q2 : 3 ≤ q) : ∀ f : Nat, gJInteger_getChars_IIAB_SB0 f 0 x p 0 o = some r → (q : Int) ≤ (o.1 0).toInt ∧ ((v < 10 ∧ r.2 = xp o 0 (q - 1) (Int32.ofNat (48 + v))) ∨ (10 ≤ v ∧ v < 100 ∧ r.2 = xp (xp o 0 (q - 1) (Int32.ofNat (48 + v % 10))) 0 (q - 2) (Int32.ofNat (48 + v / 10))) ∨ (100 ≤ v ∧ ∃ (f' : Nat) (y p2 : Int32), y.toInt = -((v / 100 : Nat) : Int) ∧ p2.toInt = ((q - 2 : Nat) : Int) ∧ gJInteger_getChars_IIAB_SB0 f' 0 y p2 0 (xp (xp o 0 (q - 1) (Int32.ofNat (48 + v % 10))) 0 (q - 2) (Int32.ofNat (48 + v / 10 % 10))) = some r))
  | 0, h => by cases h
  | f + 1, h => by
    have h : fJInteger_getChars_IIAB_SB0_22 (gJInteger_getChars_IIAB_SB0 f) x p 0 o = some r := h
    unfold fJInteger_getChars_IIAB_SB0_22 at h
    have m1 := m_1g (v := p) (by omega)
    have i1 : (p + (-1)).toNatClampNeg = q - 1 := tW (by omega)
    have m2 := m_1g (v := p + (-1)) (by omega)
    have i2 : (p + (-1) + (-1)).toNatClampNeg = q - 2 := tW (by omega)
    rcases ifc h with ⟨a, h⟩ | ⟨a, h⟩
    · have a := Int32.lt_iff_toInt_lt.mp a
      rw [show (-100 : Int32).toInt = -100 from by decide] at a
      have en : (-x).toNatClampNeg = v := tW (by rw [Int32.toInt_neg, i_bm (by omega) (by omega)]; omega)
      have T := on_t v (by omega)
      rw [opk, opk] at h
      have h := (ifn h).2
      rw [opk] at h
      obtain ⟨hc, h⟩ := ifn h
      have hc : ¬ (o.1 0).toNatClampNeg ≤ (p + (-1)).toNatClampNeg := fun z => hc (Or.inr z)
      have tc := tn_n (o.1 0)
      refine ⟨by omega, ?_⟩
      rw [opk, i1, en, T.1] at h
      rcases ifc h with ⟨b, h⟩ | ⟨b, h⟩
      · have b := c_le b
        rw [show (-9 : Int32).toInt = -9 from by decide] at b
        refine Or.inl ⟨by omega, ?_⟩
        unfold fJInteger_getChars_IIAB_SB0_104 at h
        rw [if_pos rfl] at h
        unfold fJInteger_getChars_IIAB_SB0_118 at h
        rw [← Option.some.inj h, show v % 10 = v by omega]
      · have b := c_nle b
        rw [show (-9 : Int32).toInt = -9 from by decide] at b
        refine Or.inr (Or.inl ⟨by omega, by omega, ?_⟩)
        rw [opk, opk] at h
        have h := (ifn h).2
        rw [opk] at h
        have h := (ifn h).2
        rw [opk, i2, en, T.2] at h
        unfold fJInteger_getChars_IIAB_SB0_104 at h
        rw [if_pos rfl] at h
        unfold fJInteger_getChars_IIAB_SB0_118 at h
        rw [← Option.some.inj h]
    · have a : ¬ (-100 : Int32).toInt < x.toInt := fun z => a (Int32.lt_iff_toInt_lt.mpr z)
      rw [show (-100 : Int32).toInt = -100 from by decide] at a
      have ed : (x / 100).toInt = -((v / 100 : Nat) : Int) := by
        rw [i_dvn (by omega) (by omega) (by decide), show (100 : Int32).toInt = 100 from rfl]; omega
      have em : (x / 100 * 100).toInt = -(100 * (v / 100 : Nat) : Int) := by
        rw [Int32.toInt_mul, ed, show (100 : Int32).toInt = 100 from rfl, i_bm (by omega) (by omega)]; omega
      have es : (x / 100 * 100 - x).toNatClampNeg = v % 100 := tW (by rw [Int32.toInt_sub, em, i_bm (by omega) (by omega)]; omega)
      have T := on_t (v % 100) (by omega)
      rw [opk, opk, opk, opk] at h
      have h := (ifn h).2
      rw [opk] at h
      obtain ⟨hc, h⟩ := ifn h
      have hc : ¬ (o.1 0).toNatClampNeg ≤ (p + (-1)).toNatClampNeg := fun z => hc (Or.inr z)
      have tc := tn_n (o.1 0)
      refine ⟨by omega, ?_⟩
      rw [opk, opk] at h
      have h := (ifn h).2
      rw [opk] at h
      have h := (ifn h).2
      rw [opk, i1, i2, es, T.1, T.2, show v % 100 % 10 = v % 10 by omega, show v % 100 / 10 = v / 10 % 10 by omega] at h
      exact Or.inr (Or.inr ⟨by omega, f, x / 100, p + (-1) + (-1), ed, by omega, h⟩)
def dgL (v : Nat) : List Int32 := if v < 10 then [Int32.ofNat (48 + v)] else if v < 100 then [Int32.ofNat (48 + v / 10), Int32.ofNat (48 + v % 10)] else [Int32.ofNat (48 + v / 100), Int32.ofNat (48 + v / 10 % 10), Int32.ofNat (48 + v % 10)]
theorem SbQ_x {o o2 : cf_O} {L M : List Int32} {w : Int32} (S : SbQ o L) (ew : w.toInt = ((L.length + M.length : Nat) : Int)) (hc : ((L.length + M.length : Nat) : Int) ≤ (o.1 0).toInt) (f1 : o2.1 = o.1) (g : ∀ (i : Nat) (x : Int32), M[i]? = some x → o2.2.1 0 (L.length + i) = x) (k : ∀ i : Nat, i < L.length → o2.2.1 0 i = o.2.1 0 i) : SbQ (fp o2 3 w) (L ++ M) := by
  obtain ⟨q1, q2, q3, q4⟩ := S
  refine ⟨?_, ?_, ?_, fun i x hx => ?_⟩
  · show o2.1 1 = 0
    rw [f1]; exact q1
  · show w.toInt = _
    rw [ew, List.length_append]
  · show ((L ++ M).length : Int) ≤ (o2.1 0).toInt
    rw [f1, List.length_append]; exact hc
  · show o2.2.1 0 i = x
    rcases Nat.lt_or_ge i L.length with e | e
    · rw [List.getElem?_append_left e] at hx
      rw [k i e]; exact q4 i x hx
    · rw [List.getElem?_append_right e] at hx
      have z := g _ _ hx
      rw [show L.length + (i - L.length) = i by omega] at z; exact z
theorem apI_sp {v : Int32} {o r : cf_O} {L : List Int32} (S : SbQ o L) (h0 : 0 ≤ v.toInt) (h1 : v.toInt < 1000) (hl : 5 ≤ L.length) (hL : L.length ≤ 1000000) (h : fSB_appendI v o = some r) : SbQ r (L ++ dgL v.toInt.toNat) := by
  unfold fSB_appendI fSB_appendI_0 at h
  obtain ⟨w, hw, h⟩ := bd h
  have ew : r = w := (Option.some.inj h).symm
  subst ew
  unfold fAS_appendI fAS_appendI_0 at hw
  obtain ⟨s, hs, hw⟩ := bd hw
  unfold fAS_appendI_10 at hw
  rw [opk] at hw
  obtain ⟨q, hq, hw⟩ := bd hw
  have Q := SbQ_e S hq
  unfold fAS_appendI_17 at hw
  rw [lat_1 Q.1, Option.bind_some] at hw
  unfold fAS_appendI_21 at hw
  rw [if_neg (by decide)] at hw
  obtain ⟨g, hg, hw⟩ := bd hw
  unfold fAS_appendI_33 at hw
  rw [opk] at hw
  have er : r = fp g.2 3 ((o.1 3) + s) := (Option.some.inj hw).symm
  rw [er]
  unfold fJInteger_getChars_IIAB_SB0 fJInteger_getChars_IIAB_SB0_0 at hg
  rw [if_pos (Int32.le_iff_toInt_le.mpr (by show (0 : Int) ≤ _; omega))] at hg
  unfold fJInteger_getChars_IIAB_SB0_12 at hg
  rw [if_pos rfl, opk] at hg
  obtain ⟨k, ek⟩ : ∃ k : Nat, v.toInt = (k : Int) := ⟨v.toInt.toNat, by omega⟩
  have kt : v.toInt.toNat = k := by omega
  rw [kt]
  have en : (-v).toInt = -(k : Int) := by rw [ng_i h0 h1, ek]
  have add : ∀ m : Nat, m ≤ 3 → s = Int32.ofNat m → ((o.1 3) + s).toInt = ((L.length + m : Nat) : Int) := fun m hm e => by
    rw [e, Int32.toInt_add, S.2.1, ofiN (by omega), i_bm (by omega) (by omega)]; omega
  rcases ss_sp h0 h1 hs with ⟨a, e⟩ | ⟨a, b, e⟩ | ⟨a, e⟩
  · have ep := add 1 (by omega) (by rw [e]; rfl)
    obtain ⟨hc, C⟩ := gc_st en (by omega) ep (by omega) cfFU hg
    have ed : dgL k = [Int32.ofNat (48 + k)] := by unfold dgL; rw [if_pos (by omega)]
    rcases C with ⟨_, C⟩ | ⟨C, _⟩ | ⟨C, _⟩
    · rw [C, ed]
      refine SbQ_x Q (by rw [ep]; rfl) hc rfl (fun i x hx => ?_) (fun i hi => ?_)
      · show upd (q.2.1 0) (L.length + 1 - 1) (Int32.ofNat (48 + k)) (L.length + i) = x
        match i, hx with
        | 0, hx =>
          rw [show L.length + 1 - 1 = L.length + 0 by omega, up_s]
          exact Option.some.inj hx
        | i + 1, hx => cases hx
      · show upd (q.2.1 0) (L.length + 1 - 1) (Int32.ofNat (48 + k)) i = _
        rw [up_o (by omega)]
    · omega
    · omega
  · have ep := add 2 (by omega) (by rw [e]; rfl)
    obtain ⟨hc, C⟩ := gc_st en (by omega) ep (by omega) cfFU hg
    have ed : dgL k = [Int32.ofNat (48 + k / 10), Int32.ofNat (48 + k % 10)] := by unfold dgL; rw [if_neg (by omega), if_pos (by omega)]
    rcases C with ⟨C, _⟩ | ⟨_, _, C⟩ | ⟨C, _⟩
    · omega
    · rw [C, ed]
      refine SbQ_x Q (by rw [ep]; rfl) hc rfl (fun i x hx => ?_) (fun i hi => ?_)
      · show upd (upd (q.2.1 0) (L.length + 2 - 1) (Int32.ofNat (48 + k % 10))) (L.length + 2 - 2) (Int32.ofNat (48 + k / 10)) (L.length + i) = x
        match i, hx with
        | 0, hx =>
          rw [show L.length + 2 - 2 = L.length + 0 by omega, up_s]
          exact Option.some.inj hx
        | 1, hx =>
          rw [up_o (by omega), show L.length + 2 - 1 = L.length + 1 by omega, up_s]
          exact Option.some.inj hx
        | i + 2, hx => cases hx
      · show upd (upd (q.2.1 0) (L.length + 2 - 1) (Int32.ofNat (48 + k % 10))) (L.length + 2 - 2) (Int32.ofNat (48 + k / 10)) i = _
        rw [up_o (by omega), up_o (by omega)]
    · omega
  · have ep := add 3 (by omega) (by rw [e]; rfl)
    obtain ⟨hc, C⟩ := gc_st en (by omega) ep (by omega) cfFU hg
    have ed : dgL k = [Int32.ofNat (48 + k / 100), Int32.ofNat (48 + k / 10 % 10), Int32.ofNat (48 + k % 10)] := by unfold dgL; rw [if_neg (by omega), if_neg (by omega)]
    rcases C with ⟨C, _⟩ | ⟨_, C, _⟩ | ⟨_, f', y, p2, ey, ep2, C⟩
    · omega
    · omega
    · obtain ⟨_, C⟩ := gc_st ey (by omega) ep2 (by omega) f' C
      rcases C with ⟨_, C⟩ | ⟨C, _⟩ | ⟨C, _⟩
      · rw [C, ed]
        refine SbQ_x Q (by rw [ep]; rfl) hc rfl (fun i x hx => ?_) (fun i hi => ?_)
        · show upd (upd (upd (q.2.1 0) (L.length + 3 - 1) (Int32.ofNat (48 + k % 10))) (L.length + 3 - 2) (Int32.ofNat (48 + k / 10 % 10))) (L.length + 3 - 2 - 1) (Int32.ofNat (48 + k / 100)) (L.length + i) = x
          match i, hx with
          | 0, hx =>
            rw [show L.length + 3 - 2 - 1 = L.length + 0 by omega, up_s]
            exact Option.some.inj hx
          | 1, hx =>
            rw [up_o (by omega), show L.length + 3 - 2 = L.length + 1 by omega, up_s]
            exact Option.some.inj hx
          | 2, hx =>
            rw [up_o (by omega), up_o (by omega), show L.length + 3 - 1 = L.length + 2 by omega, up_s]
            exact Option.some.inj hx
          | i + 3, hx => cases hx
        · show upd (upd (upd (q.2.1 0) (L.length + 3 - 1) (Int32.ofNat (48 + k % 10))) (L.length + 3 - 2) (Int32.ofNat (48 + k / 10 % 10))) (L.length + 3 - 2 - 1) (Int32.ofNat (48 + k / 100)) i = _
          rw [up_o (by omega), up_o (by omega), up_o (by omega)]
      · omega
      · omega
