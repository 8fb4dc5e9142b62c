theorem fo_d {gr : cf_O} {v2 : Int32} {m : Nat} (e2 : v2.toInt = (m : Int)) (m1 : 1 ≤ m) : ∀ (f k : Nat) (v3 v4 v5 : Int32) (o : cf_O) (r : Int32 × cf_O), gCu_findOf f k v2 v3 v4 v5 o gr = some r → r.2.2.1 1 0 = o.2.1 1 0
  | 0, k, v3, v4, v5, o, r, h => by cases h
  | f + 1, 0, v3, v4, v5, o, r, h => by
    have h : fCu_findOf_3 (gCu_findOf f) v2 v3 v4 o gr = some r := h
    unfold fCu_findOf_3 at h
    rcases ifc h with ⟨_, h⟩ | ⟨_, h⟩
    · have h := (ifn h).2
      rw [opk, opk] at h
      exact fo_d e2 m1 f 1 0 209 _ o r h
    · have h := (ifn h).2
      rw [opk, opk] at h
      have h := (ifn h).2
      rw [opk, opk] at h
      have h := (ifn h).2
      rw [opk, opk] at h
      obtain ⟨q, hq, h⟩ := bd h
      have fr := wF_Cu_joinAll_o0 hq
      unfold fCu_findOf_39 at h
      rcases ifc h with ⟨_, h⟩ | ⟨_, h⟩
      · rw [← Option.some.inj h]
        show q.2.2.1 1 0 = _
        rw [fr.2.1 1 rfl]
      · rw [opk] at h
        rw [fo_d e2 m1 f 0 v3 _ 0 q.2 r h, fr.2.1 1 rfl]
  | f + 1, 1, v3, v4, v5, o, r, h => by
    have h : fCu_findOf_65 (gCu_findOf f) v2 v4 v5 o gr = some r := h
    unfold fCu_findOf_65 at h
    rcases ifc h with ⟨_, h⟩ | ⟨_, h⟩
    · have h := (ifn h).2
      rw [opk, tW e2] at h
      rw [← Option.some.inj h]
      show upd (o.2.1 1) m v4 0 = _
      rw [up_o (by omega)]
    · have h := (ifn h).2
      rw [opk] at h
      obtain ⟨q, hq, h⟩ := bd h
      unfold fCu_findOf_87 fCu_findOf_90 at h
      rw [opk, opk] at h
      exact fo_d e2 m1 f 1 0 _ _ o r h
  | f + 1, k + 2, v3, v4, v5, o, r, h => by cases h
theorem fn_d {b n : Nat} {gr : cf_O} {v2 : Int32} (G : GW b n gr) : ∀ (f m : Nat) (v3 : Int32) (o : cf_O) (r : Int32 × cf_O), v3.toInt = (m : Int) → 1 ≤ m → m ≤ b + n → gCu_find f 0 v2 v3 o gr = some r → r.2.2.1 1 0 = o.2.1 1 0
  | 0, m, v3, o, r, e3, m1, mn, h => by cases h
  | f + 1, m, v3, o, r, e3, m1, mn, h => by
    have G0 := G.1
    have h : fCu_find_22 (gCu_find f) v2 v3 o gr = some r := h
    unfold fCu_find_22 at h
    obtain ⟨q, hq, h⟩ := bd h
    have eq := size_sp G hq
    unfold fCu_find_27 at h
    rcases ifc h with ⟨a, h⟩ | ⟨a, h⟩
    · rw [opk] at h
      rw [← Option.some.inj h]; rfl
    · have a := c_nle a
      have h := (ifn h).2
      rw [opk] at h
      have h := (ifn h).2
      rw [opk, opk, opk, opk, tW e3] at h
      obtain ⟨t, ht, h⟩ := bd h
      have ft := wF_Cu_add_o0 ht
      have et : t.2.1 1 0 = o.2.1 1 0 := by
        rw [ft.2.1 1 rfl]
        show upd (o.2.1 1) m 0 0 = _
        rw [up_o (by omega)]
      have nx : ∀ q2 : cf_O, q2.2.1 1 0 = t.2.1 1 0 → fCu_find_79 (gCu_find f) v2 v3 q2 gr = some r → r.2.2.1 1 0 = o.2.1 1 0 := fun q2 e z => by
        unfold fCu_find_79 at z
        rw [opk] at z
        have z := (ifn z).2
        rw [opk, opk] at z
        have y := fn_d G f (m + 1) (v3 + 1) _ r (by rw [pW (by omega) (by omega)]; omega) (by omega) (by omega) z
        exact (y.trans e).trans et
      unfold fCu_find_59 at h
      obtain ⟨y, hy, h⟩ := bd h
      unfold fCu_find_64 at h
      rcases ifc h with ⟨_, h⟩ | ⟨_, h⟩
      · exact nx t rfl h
      · obtain ⟨s, hs, h⟩ := bd h
        have es := fo_d e3 m1 cfFU 0 v2 2 0 t s hs
        unfold fCu_find_74 at h
        rcases ifc h with ⟨_, h⟩ | ⟨_, h⟩
        · rw [← Option.some.inj h]
          exact es.trans et
        · exact nx s.2 es h
theorem find_d {b n : Nat} {gr o : cf_O} {v2 : Int32} {r : Int32 × cf_O} (G : GW b n gr) (h : fCu_find v2 o gr = some r) : r.2.2.1 1 0 = o.2.1 1 0 := by
  have G0 := G.1
  unfold fCu_find fCu_find_0 at h
  rcases ifc h with ⟨_, h⟩ | ⟨_, h⟩
  · rw [← Option.some.inj h]
  · rw [opk, opk] at h
    exact fn_d G cfFU 1 1 (fp (fp o 0 0) 3 0) r rfl (Nat.le_refl _) (by omega) h
theorem CxF_i {b n K : Nat} {gr cu om : cf_O} (G : GW b n gr) (R : RGq b n gr om) (K5 : K ≤ 5) (ok : okO I_M om) (F : ∃ (RR : Nat → List (List Nat)) (rows : List (List (List Int))), CFa b K gr (b + n) RR rows cu ∧ rows = rowsL (om.2.1 57) (om.2.1 59) (om.2.1 58) (b + n)) (Q : BqZ 0 (b : Int) (n : Int) (om.2.1 57) (om.2.1 59) (om.2.1 58) (om.2.1 62) (om.2.1 63)) (cvr : ∀ k j : Nat, k < b + n → (j : Int) < (om.2.1 57 k).toInt → CvG b gr (cutL (om.2.1 59) (om.2.1 58) (301 * k + j)) k) : CxF b n K gr cu om := by
  have G0 := G.1
  refine ⟨G, R, F, fun k k1 k2 => ?_, CbM_i ok, cvr, fun k hk => (Q rfl).1 k (by omega), K5⟩
  obtain ⟨RR, rows, C, er⟩ := F
  have DR := BqZ_d Q
  rw [← er] at DR
  obtain ⟨C1, C2, C3, C4, C5, C6, C7, C8, C9, C10⟩ := C
  have hn : ∀ k : Nat, b ≤ k → k < b + n → ∀ X ∈ rows.getD k [], ∀ x ∈ X, 1 ≤ x ∧ x < (k : Int) := fun k k1 k2 X hX x hx => by
    obtain ⟨l, l1, l2⟩ := List.mem_map.mp ((C8 k (by omega) k2 X).mpr hX)
    rw [← l2] at hx
    obtain ⟨a, a1, a2⟩ := up_m.mp hx
    have := Fall_lt ((C1 k (by omega) k2).2.2.2.2.1 l l1).1 a1
    omega
  exact DSq_u G0.2.2.2.1 C10 DR hn (b + n) k k2 k1 k2
def CvK (gr cv om : cf_O) : Prop := ∃ (cu0 co0 cv0 co1 : cf_O) (K : Nat), 2 ≤ K ∧ K ≤ 5 ∧ (om.1 65).toInt = (K : Int) ∧ (om.1 66 = 0 ∨ om.1 66 = 1) ∧ cu0.1 0 = om.1 65 ∧ (0 ≤ (cu0.1 4).toInt ∧ cu0.1 4 = cu0.1 5) ∧ CuI cu0 gr ∧ cu0.2.1 1 0 = 0 ∧ fCv_choose (om.1 66) cv0 gr cu0 co0 = some (cv, co1)
def CvL (cv om : cf_O) : Prop := om.1 73 = cv.1 0 ∧ ∀ c : Nat, (c : Int) < (cv.1 0).toInt → om.2.1 74 c = cv.2.1 2 c
theorem CvR_l {b n M : Nat} {gr cv om : cf_O} (h : CvR b n M gr cv om) : CvL cv om := by
  obtain ⟨h1, ⟨k, h2, h3, h4⟩, _⟩ := h
  refine ⟨h1, fun c hc => ?_⟩
  obtain ⟨g, l, ci, _, _, _, z, _⟩ := h4 c (by omega)
  exact z
theorem CvR_f {b n M : Nat} {gr cv om om2 : cf_O} (h : CvR b n M gr cv om) (L : CvL cv om2) (u58 : om2.2.1 58 = om.2.1 58) (u59 : om2.2.1 59 = om.2.1 59) (u62 : om2.2.1 62 = om.2.1 62) (u63 : om2.2.1 63 = om.2.1 63) : CvR b n M gr cv om2 := by
  obtain ⟨h1, ⟨k, h2, h3, h4⟩, h5⟩ := h
  refine ⟨L.1, ⟨k, h2, h3, fun c hc => ?_⟩, by rw [u62]; exact h5⟩
  obtain ⟨g, l, ci, z1, z2, z3, z4, z5, z6, z7, z8, z9, z10, z11, z12, z13⟩ := h4 c hc
  exact ⟨g, l, ci, z1, z2, z3, L.2 c (by omega), by rw [u62]; exact z5, z6, z7, z8, z9, z10, z11, by rw [u63]; exact z12, CtM_f z13 u59 u58⟩
theorem CvK_f {gr cv om om2 : cf_O} (h : CvK gr cv om) (u65 : om2.1 65 = om.1 65) (u66 : om2.1 66 = om.1 66) : CvK gr cv om2 := by
  unfold CvK at h ⊢
  rw [u65, u66]; exact h
theorem again_sim {b n M : Nat} {gr cv om u : cf_O} (G : GW b n gr) (R : RGq b n gr om) (eM : (gr.1 1).toInt = (M : Int)) (K0 : CvK gr cv om) (L : CvL cv om) (ho : okO I_M om) (f0 : (0 : Int) ≤ (om.1 0).toInt ∧ (om.1 0).toInt ≤ 2) (h38 : om.1 38 = 1) (f95 : (0 : Int) ≤ (om.1 95).toInt ∧ (om.1 95).toInt ≤ 0) (hcn : Cn (om.2.1 59) (om.2.1 58)) (h64 : om.1 64 = 1) (h : fM_again om = some u) : CvR b n M gr cv u ∧ CvK gr cv u := by
  unfold fM_again fM_again_0 at h
  rw [if_neg (by rw [h64]; decide)] at h
  obtain ⟨q, hq, h⟩ := bd h
  have K1 := K0
  obtain ⟨cu0, co0, cv0, co1, K, k1, k2, k3, k4, k5, k6, k7, k8, k9⟩ := K0
  have hf : fCu_find (om.1 65) cu0 gr = some (1, cu0) := by
    unfold fCu_find fCu_find_0
    rw [if_pos k5]
  obtain ⟨c1, c2, c3, c4, c5⟩ := cuts_both G R k1 k2 k3 k3 k6 k7 ho f0 h38 f95 hcn hf hq
  rcases c5 with ⟨y1, _⟩ | ⟨_, _, y3, y4, y5, y6, y7⟩
  · exact absurd y1 (by show ¬ (1 : Int32) = 0; decide)
  have R2 : RGq b n gr q.2 := RGq_f R (c3.1 39 rfl) (c3.1 40 rfl) (c3.1 43 rfl) (c3.2.1 44 rfl) (c3.2.1 45 rfl) (c3.2.1 46 rfl) (c3.2.1 47 rfl)
  have X : CxF b n K gr cu0 q.2 := CxF_i G R2 k2 c2 y4 y5 y6
  have K2 : CvK gr cv q.2 := CvK_f K1 (c3.1 65 rfl) (c3.1 66 rfl)
  have L2 : CvL cv q.2 := ⟨by rw [c3.1 73 rfl]; exact L.1, fun c hc => by rw [c3.2.1 74 rfl]; exact L.2 c hc⟩
  have e66 : q.2.1 66 = om.1 66 := c3.1 66 rfl
  rcases k4 with k4 | k4
  · rw [if_pos (e66.trans k4)] at h
    have eu : u = q.2 := (Option.some.inj h).symm
    subst eu
    have o0 : okO I_M (fp q.2 0 0) := ok_fp c2 ⟨by decide, by decide⟩
    obtain ⟨r, er, _⟩ := sM_chooseCells (fp q.2 0 0) o0 ⟨by show (0 : Int) ≤ (0 : Int32).toInt; decide, by show (0 : Int32).toInt ≤ 0; decide⟩ (c2.1 36) ⟨by show (1 : Int) ≤ (q.2.1 38).toInt; rw [c3.1 38 rfl, h38]; decide, by show (q.2.1 38).toInt ≤ 1; rw [c3.1 38 rfl, h38]; decide⟩ ⟨by show (2 : Int) ≤ (q.2.1 65).toInt; rw [c3.1 65 rfl]; omega, by show (q.2.1 65).toInt ≤ 5; rw [c3.1 65 rfl]; omega⟩ ⟨by show (0 : Int) ≤ (q.2.1 66).toInt; rw [e66, k4]; decide, by show (q.2.1 66).toInt ≤ 0; rw [e66, k4]; decide⟩ (by show (0 : Int) ≤ (q.2.1 95).toInt ∧ (q.2.1 95).toInt ≤ 0; rw [c3.1 95 rfl]; exact f95)
    rw [k4] at k9
    have X0 : CxF b n K gr cu0 (fp q.2 0 0) := CxF_f X rfl rfl rfl rfl rfl rfl rfl rfl rfl rfl rfl
    have S0 : CutS b n K cu0 (fp q.2 0 0) := y3
    obtain ⟨z1, z2, z3, _⟩ := ch_cv (cc_sim X0 S0 k8 eM k9 er)
    exact ⟨CvR_f z1 L2 (z2.2.1 58 rfl).symm (z2.2.1 59 rfl).symm (z2.2.1 62 rfl).symm (z3 rfl).symm, K2⟩
  · rw [if_neg (by rw [e66, k4]; decide)] at h
    obtain ⟨w, hw, h⟩ := bd h
    have eu : u = w := (Option.some.inj h).symm
    subst eu
    obtain ⟨z1, z2, _, _⟩ := ch_cv (cf_sim (by rw [k4]; decide) X k8 eM k9 hw)
    exact ⟨z1, CvK_f K2 (z2.1 65 rfl) (z2.1 66 rfl)⟩
