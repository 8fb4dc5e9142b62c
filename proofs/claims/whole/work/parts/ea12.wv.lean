def CxF (b n K : Nat) (gr cu om : cf_O) : Prop := GW b n gr ∧ RGq b n gr om ∧ (∃ (RR : Nat → List (List Nat)) (rows : List (List (List Int))), CFa b K gr (b + n) RR rows cu ∧ rows = rowsL (om.2.1 57) (om.2.1 59) (om.2.1 58) (b + n)) ∧ (∀ k : Nat, 1 ≤ k → k < b + n → cu.2.1 1 k = om.2.1 62 k) ∧ CbM om ∧ (∀ k j : Nat, k < b + n → (j : Int) < (om.2.1 57 k).toInt → CvG b gr (cutL (om.2.1 59) (om.2.1 58) (301 * k + j)) k) ∧ (∀ k : Nat, k < b → (om.2.1 62 k).toInt = 0) ∧ K ≤ 5
theorem CxF_f {b n K : Nat} {gr cu om om' : cf_O} (h : CxF b n K gr cu om) (o39 : om'.1 39 = om.1 39) (o40 : om'.1 40 = om.1 40) (o43 : om'.1 43 = om.1 43) (a44 : om'.2.1 44 = om.2.1 44) (a45 : om'.2.1 45 = om.2.1 45) (a46 : om'.2.1 46 = om.2.1 46) (a47 : om'.2.1 47 = om.2.1 47) (a57 : om'.2.1 57 = om.2.1 57) (a58 : om'.2.1 58 = om.2.1 58) (a59 : om'.2.1 59 = om.2.1 59) (a62 : om'.2.1 62 = om.2.1 62) : CxF b n K gr cu om' := by
  obtain ⟨h1, h2, h3, h4, h5, h6, h7, h8⟩ := h
  unfold CxF CbM at *
  rw [a57, a58, a59, a62]
  exact ⟨h1, RGq_f h2 o39 o40 o43 a44 a45 a46 a47, h3, h4, h5, h6, h7, h8⟩
def FwQ (u : Nat → Bool) (d : Nat → Int32) (T : Int) (acc : List (List Nat)) (w : Int32) (v : Int64) : Prop := (v = 9223372036854775807 ∧ w = 209 ∧ ∀ l ∈ acc, ¬ dpC d (upL l) ≤ T) ∨ ∃ l ∈ acc, nv v = enc l ∧ w.toInt = (l.countP u : Int) ∧ dpC d (upL l) ≤ T ∧ ∀ k ∈ acc, dpC d (upL k) ≤ T → l.countP u < k.countP u ∨ (l.countP u = k.countP u ∧ enc l ≤ enc k)
theorem FwQ_s {u : Nat → Bool} {d : Nat → Int32} {T : Int} {acc : List (List Nat)} {a : List Nat} {w : Int32} {v : Int64} (h : FwQ u d T acc w v) (ha : dpC d (upL a) ≤ T → w.toInt < (a.countP u : Int) ∨ (w.toInt = (a.countP u : Int) ∧ nv v ≤ enc a)) (h5 : a.countP u ≤ 5) : FwQ u d T (acc ++ [a]) w v := by
  rcases h with ⟨h1, h2, h3⟩ | ⟨l, h1, h2, h3, h4, h6⟩
  · refine Or.inl ⟨h1, h2, fun l hl => ?_⟩
    rcases List.mem_append.mp hl with q | q
    · exact h3 l q
    · rw [List.mem_singleton.mp q]
      intro z
      have := ha z
      rw [h2, show (209 : Int32).toInt = 209 from rfl] at this
      omega
  · refine Or.inr ⟨l, List.mem_append_left _ h1, h2, h3, h4, fun k hk hd => ?_⟩
    rcases List.mem_append.mp hk with q | q
    · exact h6 k q hd
    · rw [List.mem_singleton.mp q] at hd ⊢
      rcases ha hd with z | ⟨z1, z2⟩
      · exact Or.inl (by omega)
      · exact Or.inr ⟨by omega, by omega⟩
theorem FwQ_t {u : Nat → Bool} {d : Nat → Int32} {T : Int} {acc : List (List Nat)} {a : List Nat} {w w2 : Int32} {v v2 : Int64} (h : FwQ u d T acc w v) (ha : dpC d (upL a) ≤ T) (e2 : nv v2 = enc a) (ew : w2.toInt = (a.countP u : Int)) (hl : (a.countP u : Int) < w.toInt ∨ ((a.countP u : Int) = w.toInt ∧ enc a ≤ nv v)) : FwQ u d T (acc ++ [a]) w2 v2 := by
  refine Or.inr ⟨a, List.mem_append_right _ (List.mem_singleton.mpr rfl), e2, ew, ha, fun k hk hd => ?_⟩
  rcases List.mem_append.mp hk with q | q
  · rcases h with ⟨_, _, h3⟩ | ⟨l, h1, h2, h3, h4, h6⟩
    · exact absurd hd (h3 k q)
    · rcases h6 k q hd with z | ⟨z1, z2⟩ <;> rcases hl with y | ⟨y1, y2⟩
      · exact Or.inl (by omega)
      · exact Or.inl (by omega)
      · exact Or.inl (by omega)
      · exact Or.inr ⟨by omega, by omega⟩
  · rw [List.mem_singleton.mp q]; exact Or.inr ⟨rfl, Nat.le_refl _⟩
theorem fw_go {b n g w : Nat} {acc : List (List Nat)} {v3 : Int32} {cv gr cu : cf_O} (G : GW b n gr) (hg : g < 209) (g1 : 1 ≤ g) (e3 : v3.toInt = (g : Int)) (hw : w ≤ 65000) (hl : acc.length ≤ 300) (R : RowE cu w acc) (fa : ∀ l ∈ acc, Fall g l ∧ 2 ≤ l.length ∧ l.length ≤ 5) (he : (cu.2.1 2 (g + 1)).toInt = ((w + acc.length : Nat) : Int)) (hd : ∀ k : Nat, 1 ≤ k → k < g → 0 ≤ (cu.2.1 1 k).toInt ∧ (cu.2.1 1 k).toInt ≤ (k : Int)) : ∀ (f k : Nat) (v4 : Int64) (v6 v7 : Int32) (r : Int64), v7.toInt = ((w + k : Nat) : Int) → k ≤ acc.length → nv v4 < 9223372036854775808 → FwQ (unF b n cv) (cu.2.1 1) (cv.2.1 6 g).toInt (acc.take k) v6 v4 → gCv_fewest f 0 v3 v4 v6 v7 cv gr cu = some r → ∃ w2 : Int32, FwQ (unF b n cv) (cu.2.1 1) (cv.2.1 6 g).toInt acc w2 r
  | 0, k, v4, v6, v7, r, e7, kl, hv, Q, h => by cases h
  | f + 1, k, v4, v6, v7, r, e7, kl, hv, Q, h => by
    have h : fCv_fewest_17 (gCv_fewest f) v3 v4 v6 v7 cv gr cu = some r := h
    unfold fCv_fewest_17 at h
    obtain ⟨q, hq, h⟩ := bd h
    have eq : q = cu.2.1 2 (g + 1) := by
      unfold fCu_behindLastOf fCu_behindLastOf_0 at hq
      rw [opk] at hq
      rcases ifc hq with ⟨_, hq⟩ | ⟨_, hq⟩
      · cases hq
      rw [opk, tW (v := v3 + 1) (n := g + 1) (by rw [pW (by omega) (by omega)]; omega)] at hq
      exact (Option.some.inj hq).symm
    rcases ifc h with ⟨a, h⟩ | ⟨a, h⟩
    · have a := Int32.le_iff_toInt_le.mp a
      rw [eq] at a
      rw [List.take_of_length_le (by omega)] at Q
      rw [← Option.some.inj h]; exact ⟨v6, Q⟩
    · have a : ¬ q.toInt ≤ v7.toInt := fun z => a (Int32.le_iff_toInt_le.mpr z)
      rw [eq] at a
      have kl2 : k < acc.length := by omega
      have ek : acc[k]? = some acc[k] := List.getElem?_eq_getElem kl2
      have fk := fa _ (List.getElem_mem kl2)
      have rk := (R k _ ek).1
      have et : acc.take (k + 1) = acc.take k ++ [acc[k]] := by rw [List.take_add_one, ek]; rfl
      have p7 := pW (v := v7) (by omega) (by omega)
      have be := enc_lt fk.1 (by omega)
      have b5 := pw5 fk.2.2
      have cl : (acc[k]).countP (unF b n cv) ≤ (acc[k]).length := List.countP_le_length
      obtain ⟨c, hc, h⟩ := bd h
      have ec : c = cu.2.2 4 (w + k) := by
        unfold fCu_cutAt fCu_cutAt_0 at hc
        rcases ifc hc with ⟨_, hc⟩ | ⟨_, hc⟩
        · cases hc
        rw [opk, tW e7] at hc
        exact (Option.some.inj hc).symm
      rw [← ec] at rk
      obtain ⟨p, hp, h⟩ := bd h
      have ep := depth_sp (g := g) (by omega) fk.1 rk hp
      have dl := dpl_i fk.1 hd hg g1
      have ep : p.toInt = dpC (cu.2.1 1) (upL acc[k]) := by rw [ep]; exact dl.1
      have h := (ifn h).2
      rw [opk, tW e3] at h
      have stay : (dpC (cu.2.1 1) (upL acc[k]) ≤ (cv.2.1 6 g).toInt → v6.toInt < ((acc[k]).countP (unF b n cv) : Int) ∨ (v6.toInt = ((acc[k]).countP (unF b n cv) : Int) ∧ nv v4 ≤ enc acc[k])) → fCv_fewest_92 (gCv_fewest f) v3 v4 v6 v7 cv gr cu = some r → ∃ w2 : Int32, FwQ (unF b n cv) (cu.2.1 1) (cv.2.1 6 g).toInt acc w2 r := fun y z => fw_go G hg g1 e3 hw hl R fa he hd f (k + 1) v4 v6 (v7 + 1) r (by omega) (by omega) hv (by rw [et]; exact FwQ_s Q y (by omega)) z
      rcases ifc h with ⟨c1, h⟩ | ⟨c1, h⟩
      · have c1 := c_le c1
        obtain ⟨y, hy, h⟩ := bd h
        have ey := unw_sp G (by omega) fk.1 rk fk.2.2 hy
        have take : ((acc[k]).countP (unF b n cv) : Int) < v6.toInt ∨ (((acc[k]).countP (unF b n cv) : Int) = v6.toInt ∧ enc acc[k] ≤ nv v4) → fCv_fewest_84 (gCv_fewest f) v3 v7 c y cv gr cu = some r → ∃ w2 : Int32, FwQ (unF b n cv) (cu.2.1 1) (cv.2.1 6 g).toInt acc w2 r := fun t z => fw_go G hg g1 e3 hw hl R fa he hd f (k + 1) c y (v7 + 1) r (by omega) (by omega) (by rw [rk]; omega) (by rw [et]; exact FwQ_t Q (by omega) rk ey t) z
        rcases ifc h with ⟨c2, h⟩ | ⟨c2, h⟩
        · have c2 := Int32.lt_iff_toInt_lt.mp c2
          exact take (Or.inl (by omega)) h
        · have c2 : ¬ y.toInt < v6.toInt := fun z => c2 (Int32.lt_iff_toInt_lt.mpr z)
          rcases ifc h with ⟨c3, h⟩ | ⟨c3, h⟩
          · rw [opk] at h
            have ey6 : y.toInt = v6.toInt := by rw [c3]
            rcases ifc h with ⟨c4, h⟩ | ⟨c4, h⟩
            · have c4 := (lgc_n (by rw [rk]; omega) hv).mp c4
              exact stay (fun _ => Or.inr ⟨by omega, by rw [← rk]; exact c4⟩) h
            · have c4 : ¬ nv v4 ≤ nv c := fun z => c4 ((lgc_n (by rw [rk]; omega) hv).mpr z)
              exact take (Or.inr ⟨by omega, by omega⟩) h
          · have c3 : ¬ y.toInt = v6.toInt := fun z => c3 (Int32.toInt_inj.mp z)
            exact stay (fun _ => Or.inl (by omega)) h
      · have c1 := c_nle c1
        exact stay (fun z => by omega) h
def FrQ (u : Int → Bool) (o : cf_O) (T : Int) (n k : Nat) (v : Int32) : Prop := (v = -1 ∧ ∀ i : Nat, i < k → ¬ dpC (o.2.1 62) (cutL (o.2.1 59) (o.2.1 58) (301 * n + i)) ≤ T) ∨ ∃ j : Nat, j < k ∧ v.toInt = ((301 * n + j : Nat) : Int) ∧ dpC (o.2.1 62) (cutL (o.2.1 59) (o.2.1 58) (301 * n + j)) ≤ T ∧ ∀ i : Nat, i < k → dpC (o.2.1 62) (cutL (o.2.1 59) (o.2.1 58) (301 * n + i)) ≤ T → ¬ Fwr u (cutL (o.2.1 59) (o.2.1 58) (301 * n + i)) (cutL (o.2.1 59) (o.2.1 58) (301 * n + j))
theorem Fwr_i {u : Int → Bool} {X : List Int} : ¬ Fwr u X X := by
  unfold Fwr
  rw [lxd_r]; omega
theorem frw_go {b n K g : Nat} {gr cu cv o : cf_O} {v2 : Int32} (X : CxF b n K gr cu o) (w : CwR b n cv o) (bg : b ≤ g) (hg : g < b + n) (e2 : v2.toInt = (g : Int)) (hrow : ∀ i : Nat, (i : Int) < (o.2.1 57 g).toInt → ∀ z ∈ cutL (o.2.1 59) (o.2.1 58) (301 * g + i), 1 ≤ z ∧ z < (g : Int)) : ∀ (f k : Nat) (v3 v4 : Int32) (r : cf_O), v4.toInt = ((301 * g + k : Nat) : Int) → (k : Int) ≤ (o.2.1 57 g).toInt → FrQ (unI b n cv) o (o.2.1 67 g).toInt g k v3 → gM_chooseFew f 4 0 v2 v3 v4 o = some r → ∃ (f2 : Nat) (v : Int32), FrQ (unI b n cv) o (o.2.1 67 g).toInt g (o.2.1 57 g).toInt.toNat v ∧ gM_chooseFew f2 5 0 v2 v 0 (xp o 63 g v) = some r
  | 0, k, v3, v4, r, e4, kc, Q, h => by cases h
  | f + 1, k, v3, v4, r, e4, kc, Q, h => by
    obtain ⟨G, R, _, _, B, _⟩ := X
    have G0 := G.1
    have h : fM_chooseFew_179 (gM_chooseFew f) v2 v3 v4 o = some r := h
    unfold fM_chooseFew_179 at h
    have bc := B.2.2.2 g
    have m3 : (301 * v2).toInt = 301 * (g : Int) := by rw [Int32.toInt_mul, e2, show (301 : Int32).toInt = 301 from rfl, i_bm (by omega) (by omega)]
    rw [opk] at h
    have h := (ifn h).2
    rw [opk, opk, tW e2] at h
    have ex : (301 * v2 + o.2.1 57 g).toInt = 301 * (g : Int) + (o.2.1 57 g).toInt := by rw [Int32.toInt_add, m3, i_bm (by omega) (by omega)]
    rcases ifc h with ⟨a, h⟩ | ⟨a, h⟩
    · have a := c_le a
      have h := (ifn h).2
      rw [opk] at h
      have ek : (o.2.1 57 g).toInt.toNat = k := by omega
      exact ⟨f, v3, by rw [ek]; exact Q, h⟩
    · have a := c_nle a
      obtain ⟨p, hp, h⟩ := bd h
      have ep := (md_sp B e4 (by omega) hp).2
      have h := (ifn h).2
      rw [opk] at h
      have p4 := pW (v := v4) (by omega) (by omega)
      have ctm : ∀ i : Nat, (i : Int) < (o.2.1 57 g).toInt → CtM (301 * g + i) (cutL (o.2.1 59) (o.2.1 58) (301 * g + i)) o := fun i hi => by
        have b5 := B.1 (301 * g + i)
        refine ⟨by omega, rfl, ?_, ?_⟩
        · rw [cutL_len]; omega
        · rw [cutL_len]; omega
      have nx : ∀ v : Int32, FrQ (unI b n cv) o (o.2.1 67 g).toInt g (k + 1) v → fM_chooseFew_243 (gM_chooseFew f) v2 v4 v o = some r → ∃ (f2 : Nat) (v : Int32), FrQ (unI b n cv) o (o.2.1 67 g).toInt g (o.2.1 57 g).toInt.toNat v ∧ gM_chooseFew f2 5 0 v2 v 0 (xp o 63 g v) = some r := fun v Qv z => frw_go ⟨G, R, by assumption, by assumption, B, by assumption⟩ w bg hg e2 hrow f (k + 1) v (v4 + 1) r (by omega) (by omega) Qv z
      have skip : ¬ dpC (o.2.1 62) (cutL (o.2.1 59) (o.2.1 58) (301 * g + k)) ≤ (o.2.1 67 g).toInt → FrQ (unI b n cv) o (o.2.1 67 g).toInt g (k + 1) v3 := fun y => by
        rcases Q with ⟨q1, q2⟩ | ⟨j, j1, j2, j3, j4⟩
        · refine Or.inl ⟨q1, fun i hi => ?_⟩
          by_cases ei : i = k
          · rw [ei]; exact y
          · exact q2 i (by omega)
        · refine Or.inr ⟨j, by omega, j2, j3, fun i hi hd => ?_⟩
          by_cases ei : i = k
          · rw [ei] at hd; exact absurd hd y
          · exact j4 i (by omega) hd
      rcases ifc h with ⟨c, h⟩ | ⟨c, h⟩
      · have c := Int32.lt_iff_toInt_lt.mp c
        unfold fM_chooseFew_216 at h
        rw [if_pos rfl] at h
        exact nx v3 (skip (by omega)) h
      · have c : ¬ (o.2.1 67 g).toInt < p.toInt := fun z => c (Int32.lt_iff_toInt_lt.mpr z)
        unfold fM_chooseFew_216 at h
        rw [if_neg (by decide)] at h
        have dk : dpC (o.2.1 62) (cutL (o.2.1 59) (o.2.1 58) (301 * g + k)) ≤ (o.2.1 67 g).toInt := by omega
        rcases ifc h with ⟨d, h⟩ | ⟨d, h⟩
        · have d : v3.toInt < 0 := c_lt d
          refine nx v4 ?_ h
          rcases Q with ⟨_, q2⟩ | ⟨j, _, j2, _⟩
          · refine Or.inr ⟨k, by omega, e4, dk, fun i hi hd => ?_⟩
            by_cases ei : i = k
            · rw [ei]; exact Fwr_i
            · exact absurd hd (q2 i (by omega))
          · omega
        · have d : 0 ≤ v3.toInt := c_nlt d
          rcases Q with ⟨q1, _⟩ | ⟨j, j1, j2, j3, j4⟩
          · rw [q1] at d; exact absurd d (by decide)
          obtain ⟨y, hy, h⟩ := bd h
          have ey := isf_sp B R w e4 j2 (ctm k (by omega)) (ctm j (by omega)) (show g ≤ b + n by omega) (hrow k (by omega)) (hrow j (by omega)) hy
          rcases ifc h with ⟨z, h⟩ | ⟨z, h⟩
          · refine nx v3 (Or.inr ⟨j, by omega, j2, j3, fun i hi hd => ?_⟩) h
            by_cases ei : i = k
            · rw [ei]; exact fun q => absurd z (ey.mpr q)
            · exact j4 i (by omega) hd
          · have fz := ey.mp z
            refine nx v4 (Or.inr ⟨k, by omega, e4, dk, fun i hi hd => ?_⟩) h
            by_cases ei : i = k
            · rw [ei]; exact Fwr_i
            · exact fun q => j4 i (by omega) hd (Fwr_t q fz)
