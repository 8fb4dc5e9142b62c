def CtM (c : Nat) (C : List Int) (om : cf_O) : Prop := c < 63210 ∧ cutL (om.2.1 59) (om.2.1 58) c = C ∧ (om.2.1 59 c).toInt = (C.length : Int) ∧ C.length ≤ 5
theorem CtM_f {c : Nat} {C : List Int} {om om' : cf_O} (h : CtM c C om) (e9 : om'.2.1 59 = om.2.1 59) (e8 : om'.2.1 58 = om.2.1 58) : CtM c C om' := by
  unfold CtM at h ⊢
  rw [e9, e8]; exact h
theorem CtM_g {c t : Nat} {C : List Int} {om : cf_O} (h : CtM c C om) (ht : t < C.length) : C[t]? = some (om.2.1 58 (5 * c + t)).toInt := by
  obtain ⟨h1, h2, h3, h4⟩ := h
  rw [← h2]
  unfold cutL
  exact tab_g _ (by omega)
theorem ix5 {v3 v5 : Int32} {c t : Nat} (e3 : v3.toInt = (c : Int)) (e5 : v5.toInt = (t : Int)) (hc : c < 63210) (ht : t < 5) : (5 * v3 + v5).toNatClampNeg = 5 * c + t := by
  have m : (5 * v3).toInt = 5 * (c : Int) := by rw [Int32.toInt_mul, e3, show (5 : Int32).toInt = 5 from rfl, i_bm (by omega) (by omega)]
  have a : (5 * v3 + v5).toInt = 5 * (c : Int) + (t : Int) := by rw [Int32.toInt_add, m, e5, i_bm (by omega) (by omega)]
  have := tn_n (5 * v3 + v5); omega
theorem cvl_go {b n g c i : Nat} {C : List Int} {W : Nat → Nat → Bool} {gr OM : cf_O} {v1 v2 v3 : Int32} (G : GW b n gr) (R0 : RGq b n gr OM) (hV : CVq b n gr C W) (hg : g < b + n) (e1 : v1.toInt = (g : Int)) (e2 : v2.toInt = (i : Int)) (e3 : v3.toInt = (c : Int)) (hC : CtM c C OM) : ∀ fu : Nat,
    (∀ (m : Nat) (v4 : Int32) (om : cf_O) (r : Int32 × cf_O), v4.toInt = (m : Int) → m ≤ g + 1 → Fr (fr_M [] [75] []) OM om → (∀ k : Nat, k < m → om.2.1 75 k = bI (W k i)) → gM_cellValue fu 0 v1 v2 v3 v4 0 om = some r → r.1 = bI (W g i) ∧ Fr (fr_M [] [75] []) OM r.2) ∧
    (∀ (m t : Nat) (x : Bool) (v4 v5 : Int32) (om : cf_O) (r : Int32 × cf_O), v4.toInt = (m : Int) → m ≤ g → v5.toInt = (t : Int) → t ≤ C.length → Fr (fr_M [] [75] []) OM om → (∀ k : Nat, k < m → om.2.1 75 k = bI (W k i)) → om.2.1 75 m = bI x → (x = W m i ∨ ∃ j : Nat, t ≤ j ∧ C[j]? = some (m : Int)) → gM_cellValue fu 1 v1 v2 v3 v4 v5 om = some r → r.1 = bI (W g i) ∧ Fr (fr_M [] [75] []) OM r.2)
  | 0 => ⟨fun _ _ _ _ _ _ _ _ h => (by cases h), fun _ _ _ _ _ _ _ _ _ _ _ _ _ _ _ h => (by cases h)⟩
  | fu + 1 => by
    obtain ⟨i0, i1⟩ := cvl_go G R0 hV hg e1 e2 e3 hC fu
    have G0 := G.1
    have cR : ∀ om : cf_O, Fr (fr_M [] [75] []) OM om → RGq b n gr om := fun om fo => RGq_f R0 (fo.1 39 rfl) (fo.1 40 rfl) (fo.1 43 rfl) (fo.2.1 44 rfl) (fo.2.1 45 rfl) (fo.2.1 46 rfl) (fo.2.1 47 rfl)
    refine ⟨?_, ?_⟩
    · intro m v4 om r e4 mg fo H h
      have h : fM_cellValue_10 (gM_cellValue fu) v1 v2 v3 v4 om = some r := h
      unfold fM_cellValue_10 at h
      rcases ifc h with ⟨a, h⟩ | ⟨a, h⟩
      · have a := Int32.lt_iff_toInt_lt.mp a
        have h := (ifn h).2
        rw [opk, tW e1] at h
        have h := (ifn h).2
        rw [← Option.some.inj h]
        exact ⟨H g (by omega), fo⟩
      · have a : ¬ v1.toInt < v4.toInt := fun q => a (Int32.lt_iff_toInt_lt.mpr q)
        have h := (ifn h).2
        rw [opk, tW e4, vb_0] at h
        have fo1 : Fr (fr_M [] [75] []) OM (xp om 75 m 0) := fr_xp fo rfl
        have H1 : ∀ k : Nat, k < m → (xp om 75 m 0).2.1 75 k = bI (W k i) := fun k hk => by
          show upd (om.2.1 75) m 0 k = _
          rw [up_o (by omega)]; exact H k hk
        have R1 := cR _ fo1
        have inC : ∀ x : Bool, (¬ (m : Int) ∈ C → x = W m i) → (x = W m i ∨ ∃ j : Nat, 0 ≤ j ∧ C[j]? = some (m : Int)) := fun x q => by
          by_cases mC : (m : Int) ∈ C
          · obtain ⟨j, hj⟩ := List.mem_iff_getElem?.mp mC
            exact Or.inr ⟨j, Nat.zero_le j, hj⟩
          · exact Or.inl (q mC)
        obtain ⟨q, hq, h⟩ := bd h
        have eb := base_sp R1 hq
        rcases ifc h with ⟨d, h⟩ | ⟨d, h⟩
        · have d := Int32.lt_iff_toInt_lt.mp d
          refine i1 m 0 false v4 0 _ r e4 (by omega) rfl (Nat.zero_le _) fo1 H1 (by show upd (om.2.1 75) m 0 m = _; rw [up_s]; rfl) (inC _ (fun mC => ?_)) h
          exact (hV.2.1 m i (by omega) mC).symm
        · have d : ¬ v4.toInt < q.toInt := fun z => d (Int32.lt_iff_toInt_lt.mpr z)
          obtain ⟨g', hg'⟩ : ∃ g' : Nat, m = b + g' := ⟨m - b, by omega⟩
          obtain ⟨q2, hq2, h⟩ := bd h
          have eb2 := base_sp R1 hq2
          have ev : (v4 - q2).toInt = (g' : Int) := by rw [i_sub' (by omega) (by omega) (by omega) (by omega)]; omega
          rw [opk, tW ev] at h
          have h := (ifn h).2
          rw [opk] at h
          have gl := R1.2.1 g' (by omega)
          rw [gl.1] at h
          have ch := Gch G (show b ≤ b + g' by omega) (by omega)
          have wm : ¬ (m : Int) ∈ C → W m i = (lvq W (gr.2.1 4 (b + g')) i && lvq W (gr.2.1 5 (b + g')) i) := fun mC => by
            rw [hg'] at mC
            rw [hg']; exact hV.2.2 g' i (by omega) mC
          have fin : ∀ (s : Int32) (x : Bool), s = bI x → (¬ (m : Int) ∈ C → x = W m i) → fM_cellValue_82 (gM_cellValue fu) v1 v2 v3 v4 v4 s (xp om 75 m 0) = some r → vp_nar .boolean s = s → r.1 = bI (W g i) ∧ Fr (fr_M [] [75] []) OM r.2 := fun s x es ex z vs => by
            unfold fM_cellValue_82 at z
            have z := (ifn z).2
            rw [opk, tW e4, vs] at z
            refine i1 m 0 x v4 0 _ r e4 (by omega) rfl (Nat.zero_le _) (fr_xp fo1 rfl) (fun k hk => ?_) ?_ (inC _ ex) z
            · show upd (upd (om.2.1 75) m 0) m s k = _
              rw [up_o (by omega)]; exact H1 k hk
            · show upd (upd (om.2.1 75) m 0) m s m = _
              rw [up_s]; exact es
          obtain ⟨x, hx, h⟩ := bd h
          have ex := is_sp (v := W ((gr.2.1 4 (b + g')).toInt.toNat / 2) i) (by omega) (H1 _ (by omega)) hx
          have ex : x = bI (lvq W (gr.2.1 4 (b + g')) i) := ex
          rcases ifc h with ⟨c1, h⟩ | ⟨c1, h⟩
          · rw [ex] at c1
            exact fin 0 false rfl (fun mC => by rw [wm mC, bI_0.mp c1]; rfl) h vb_0
          · rw [ex] at c1
            have cx : lvq W (gr.2.1 4 (b + g')) i = true := by
              cases y : lvq W (gr.2.1 4 (b + g')) i with
              | true => rfl
              | false => rw [y] at c1; exact absurd rfl c1
            obtain ⟨q3, hq3, h⟩ := bd h
            have eb3 := base_sp R1 hq3
            have ev3 : (v4 - q3).toInt = (g' : Int) := by rw [i_sub' (by omega) (by omega) (by omega) (by omega)]; omega
            rw [opk, tW ev3] at h
            have h := (ifn h).2
            rw [opk, gl.2] at h
            obtain ⟨y, hy, h⟩ := bd h
            have ey := is_sp (v := W ((gr.2.1 5 (b + g')).toInt.toNat / 2) i) (by omega) (H1 _ (by omega)) hy
            have ey : y = bI (lvq W (gr.2.1 5 (b + g')) i) := ey
            rcases ifc h with ⟨c2, h⟩ | ⟨c2, h⟩
            · rw [ey] at c2
              exact fin 0 false rfl (fun mC => by rw [wm mC, bI_0.mp c2, Bool.and_false]) h vb_0
            · rw [ey] at c2
              have cy : lvq W (gr.2.1 5 (b + g')) i = true := by
                cases w : lvq W (gr.2.1 5 (b + g')) i with
                | true => rfl
                | false => rw [w] at c2; exact absurd rfl c2
              exact fin 1 true rfl (fun mC => by rw [wm mC, cx, cy]; rfl) h vb_1
    · intro m t x v4 v5 om r e4 mg e5 tl fo H hm hx h
      have h : fM_cellValue_86 (gM_cellValue fu) v1 v2 v3 v4 v5 om = some r := h
      unfold fM_cellValue_86 at h
      have hC1 : CtM c C om := CtM_f hC (fo.2.1 59 rfl) (fo.2.1 58 rfl)
      have h := (ifn h).2
      rw [opk, tW e3] at h
      obtain ⟨c1, c2, c3, c4⟩ := hC1
      rcases ifc h with ⟨a, h⟩ | ⟨a, h⟩
      · have a := c_le a
        rw [opk] at h
        refine i0 (m + 1) (v4 + 1) om r (by rw [pW (by omega) (by omega)]; omega) (by omega) fo (fun k hk => ?_) h
        by_cases ek : k = m
        · rw [ek, hm]
          rcases hx with q | ⟨j, q1, q2⟩
          · rw [q]
          · have := (List.getElem?_eq_some_iff.mp q2).1
            omega
        · exact H k (by omega)
      · have a := c_nle a
        have ct := CtM_g (t := t) (CtM_f hC (fo.2.1 59 rfl) (fo.2.1 58 rfl) : CtM c C om) (by omega)
        rw [opk, opk, ix5 e3 e5 c1 (by omega)] at h
        have h := (ifn h).2
        rw [opk] at h
        have p5 := pW (v := v5) (by omega) (by omega)
        have go : ∀ (s : Int32) (y : Bool), s = bI y → (y = W m i ∨ ∃ j : Nat, t + 1 ≤ j ∧ C[j]? = some (m : Int)) → vp_nar .boolean s = s → fM_cellValue_144 (gM_cellValue fu) v1 v2 v3 v4 v5 v4 s om = some r → r.1 = bI (W g i) ∧ Fr (fr_M [] [75] []) OM r.2 := fun s y es ey vs z => by
          unfold fM_cellValue_144 at z
          have z := (ifn z).2
          rw [opk, opk, tW e4, vs] at z
          refine i1 m (t + 1) y v4 (v5 + 1) _ r e4 mg (by omega) (by omega) (fr_xp fo rfl) (fun k hk => ?_) ?_ ey z
          · show upd (om.2.1 75) m s k = _
            rw [up_o (by omega)]; exact H k hk
          · show upd (om.2.1 75) m s m = _
            rw [up_s]; exact es
        rcases ifc h with ⟨d, h⟩ | ⟨d, h⟩
        · rw [opk, opk] at h
          rw [d, e4] at ct
          have wt : W m i = i.testBit t := hV.1 t m i ct
          have tb := tbit (t := v2) (j := t) (by omega) (by omega)
          rw [← on_i e5, btn (by omega), show v2.toInt.toNat = i by omega, ← wt] at tb
          rcases ifc h with ⟨y, h⟩ | ⟨y, h⟩
          · exact go 1 true rfl (Or.inl (tb.1.mp y).symm) vb_1 h
          · refine go 0 false rfl (Or.inl ?_) vb_0 h
            cases w : W m i with
            | true => exact absurd (tb.1.mpr w) y
            | false => rfl
        · have h := (ifn h).2
          rw [opk, tW e4, hm] at h
          refine go (bI x) x rfl ?_ (by cases x <;> decide) h
          rcases hx with q | ⟨j, q1, q2⟩
          · exact Or.inl q
          · by_cases ej : j = t
            · rw [ej, ct] at q2
              have := Option.some.inj q2
              exact absurd (Int32.toInt_inj.mp (by rw [this, e4])) d
            · exact Or.inr ⟨j, by omega, q2⟩
theorem cval_sp {b n g c i : Nat} {C : List Int} {W : Nat → Nat → Bool} {gr om : cf_O} {v1 v2 : Int32} {r : Int32 × cf_O} (G : GW b n gr) (R0 : RGq b n gr om) (hV : CVq b n gr C W) (hg : g < b + n) (e1 : v1.toInt = (g : Int)) (e2 : v2.toInt = (i : Int)) (e3 : (om.2.1 63 g).toInt = (c : Int)) (hC : CtM c C om) (h : fM_cellValue v1 v2 om = some r) : r.1 = bI (W g i) ∧ Fr (fr_M [] [75] []) om r.2 := by
  unfold fM_cellValue fM_cellValue_0 at h
  have h := (ifn h).2
  rw [opk, tW e1] at h
  exact (cvl_go G R0 hV hg e1 e2 e3 hC cfFU).1 0 0 om r rfl (Nat.zero_le _) fr_rfl (fun k hk => absurd hk (by omega)) h
theorem s1_d : ∀ k : Nat, k < 32 → ∀ j : Nat, j < 32 → bt ((1 : Int32) <<< ((Int32.ofNat k) &&& 31)) j = decide (j = k) := by decide +kernel
theorem s1_e5 : ∀ s : Nat, s < 6 → ((1 : Int32) <<< (Int32.ofNat s &&& 31)).toInt = ((2 ^ s : Nat) : Int) := by decide +kernel
theorem tbl_go {b n g c : Nat} {C : List Int} {W : Nat → Nat → Bool} {gr OM : cf_O} {v1 : Int32} (G : GW b n gr) (R0 : RGq b n gr OM) (hV : CVq b n gr C W) (hg : g < b + n) (e1 : v1.toInt = (g : Int)) (e3 : (OM.2.1 63 g).toInt = (c : Int)) (hC : CtM c C OM) : ∀ (fu i : Nat) (v2 v3 : Int32) (om : cf_O) (r : Int32 × cf_O), v3.toInt = (i : Int) → i ≤ 2 ^ C.length → Fr (fr_M [] [75] []) OM om → (∀ j : Nat, j < 32 → bt v2 j = (decide (j < i) && W g j)) → gM_table fu 0 v1 v2 v3 om = some r → (∀ j : Nat, j < 32 → bt r.1 j = (decide (j < 2 ^ C.length) && W g j)) ∧ Fr (fr_M [] [75] []) OM r.2
  | 0, i, v2, v3, om, r, e, hi, fo, H, h => by cases h
  | fu + 1, i, v2, v3, om, r, e, hi, fo, H, h => by
    have h : fM_table_4 (gM_table fu) v1 v2 v3 om = some r := h
    unfold fM_table_4 at h
    have h := (ifn h).2
    rw [opk, tW e1] at h
    have h := (ifn h).2
    have e63 : (om.2.1 63 g).toInt = (c : Int) := by rw [fo.2.1 63 rfl]; exact e3
    have hC1 : CtM c C om := CtM_f hC (fo.2.1 59 rfl) (fo.2.1 58 rfl)
    have R1 : RGq b n gr om := RGq_f R0 (fo.1 39 rfl) (fo.1 40 rfl) (fo.1 43 rfl) (fo.2.1 44 rfl) (fo.2.1 45 rfl) (fo.2.1 46 rfl) (fo.2.1 47 rfl)
    have c4 := hC.2.2.2
    have p5 : 2 ^ C.length ≤ 32 := Nat.le_trans (Nat.pow_le_pow_right (by decide) c4) (by decide)
    rw [opk, opk, tW e63, on_i hC1.2.2.1] at h
    have es := s1_e5 C.length (by omega)
    rcases ifc h with ⟨a, h⟩ | ⟨a, h⟩
    · have a := c_le a
      have ei : i = 2 ^ C.length := by omega
      rw [← Option.some.inj h, ← ei]
      exact ⟨H, fo⟩
    · have a := c_nle a
      obtain ⟨q, hq, h⟩ := bd h
      obtain ⟨q1, q2⟩ := cval_sp G R1 hV hg e1 e e63 hC1 hq
      have p3 := pW (v := v3) (by omega) (by omega)
      have nx : ∀ s : Int32, (∀ j : Nat, j < 32 → bt s j = (decide (j < i + 1) && W g j)) → fM_table_39 (gM_table fu) v1 v3 s q.2 = some r → (∀ j : Nat, j < 32 → bt r.1 j = (decide (j < 2 ^ C.length) && W g j)) ∧ Fr (fr_M [] [75] []) OM r.2 := fun s hs z => tbl_go G R0 hV hg e1 e3 hC fu (i + 1) s (v3 + 1) q.2 r (by omega) (by omega) (fr_tr fo q2 rfl rfl rfl) hs z
      rcases ifc h with ⟨d, h⟩ | ⟨d, h⟩
      · rw [q1] at d
        have w := bI_0.mp d
        refine nx v2 (fun j hj => ?_) h
        rw [H j hj]
        by_cases ej : j = i
        · rw [ej, w, Bool.and_false, Bool.and_false]
        · rw [dec_i ej]
      · rw [q1] at d
        have w : W g i = true := by
          cases y : W g i with
          | true => rfl
          | false => rw [y] at d; exact absurd rfl d
        rw [opk, opk, on_i e] at h
        rw [← on_i e] at h
        refine nx _ (fun j hj => ?_) h
        rw [on_i e, bt_or, H j hj, s1_d i (by omega) j hj]
        by_cases ej : j = i
        · rw [ej, w, decide_eq_true rfl, decide_eq_true (show i < i + 1 by omega), Bool.or_true]; rfl
        · rw [dec_i ej, decide_eq_false ej, Bool.or_false]
theorem table_sp {b n g c : Nat} {C : List Int} {W : Nat → Nat → Bool} {gr om : cf_O} {v1 : Int32} {r : Int32 × cf_O} (G : GW b n gr) (R0 : RGq b n gr om) (hV : CVq b n gr C W) (hg : g < b + n) (e1 : v1.toInt = (g : Int)) (e3 : (om.2.1 63 g).toInt = (c : Int)) (hC : CtM c C om) (h : fM_table v1 om = some r) : (∀ j : Nat, j < 32 → bt r.1 j = (decide (j < 2 ^ C.length) && W g j)) ∧ Fr (fr_M [] [75] []) om r.2 := by
  unfold fM_table fM_table_0 at h
  exact tbl_go G R0 hV hg e1 e3 hC cfFU 0 0 0 om r rfl (Nat.zero_le _) fr_rfl (fun j hj => by rw [bt_0, decide_eq_false (by omega)]; rfl) h
