theorem fiv_go {v : Int32} : ∀ (fuel : Nat) (v2 : Int32) (o r : cf_O), 0 ≤ v2.toInt → v2.toInt ≤ 209 → (∀ j : Nat, (j : Int) < v2.toInt → o.2.1 6 j = v) → gJArrays_fill_AII_Cv6 fuel 0 v v2 209 o = some r → Fr (fr_M [] [6] []) o r ∧ ∀ j : Nat, j < 209 → r.2.1 6 j = v
  | 0, v2, o, r, h0, h1, hz, h => by cases h
  | fuel + 1, v2, o, r, h0, h1, hz, h => by
    rcases ifc h with ⟨a, h⟩ | ⟨a, h⟩
    · have a : (209 : Int) ≤ v2.toInt := c_le a
      rw [← Option.some.inj h]
      exact ⟨fr_rfl, fun j hj => hz j (by omega)⟩
    · have a : v2.toInt < 209 := c_nle a
      have vi : v2.toNatClampNeg = v2.toInt.toNat := by have := tn_n v2; omega
      have e2 := p_1 (v := v2) h0 (by omega)
      have h := (ifn h).2
      rw [vi] at h
      have hz' : ∀ j : Nat, (j : Int) < (v2 + 1).toInt → (xp o 6 v2.toInt.toNat v).2.1 6 j = v := fun j hj => by
        show upd (o.2.1 6) v2.toInt.toNat v j = v
        by_cases e : j = v2.toInt.toNat
        · rw [e, up_s]
        · rw [up_o e]; exact hz j (by omega)
      obtain ⟨f, q⟩ := fiv_go fuel (v2 + 1) (xp o 6 v2.toInt.toNat v) r (by omega) (by omega) hz' h
      exact ⟨fr_tr (fr_xp fr_rfl rfl) f rfl rfl rfl, q⟩
def og (gr : cf_O) (k : Nat) : Nat := (gr.2.1 7 k).toInt.toNat / 2
def mxO (d : Nat → Int32) (gr : cf_O) : Nat → Int32
  | 0 => 0
  | k + 1 => op_mx (mxO d gr k) (d (og gr k))
def OuG (gr : cf_O) (k x : Nat) : Prop := ∃ j : Nat, j < k ∧ og gr j = x
def WtQ (b n : Nat) (gr : cf_O) (k : Nat) (f : Nat → Int32) (T Z : Int32) : Prop := ∀ x : Nat, b ≤ x → x < b + n → (OuG gr k x ∧ f x = T) ∨ (¬ OuG gr k x ∧ f x = Z)
theorem og_sp {b n k : Nat} {gr : cf_O} (G : GW b n gr) (hk : (k : Int) < (gr.1 1).toInt) : og gr k < b + n ∧ ((gr.2.1 7 k) >>> ((1 : Int32) &&& 31)).toInt = (og gr k : Int) ∧ (gr.2.1 7 k / 2).toInt = (og gr k : Int) := by
  have z := G.2.2 k hk
  have e : (gr.2.1 7 k / 2).toInt = (gr.2.1 7 k).toInt / 2 := i_dv (y := 2) z.1 (by decide)
  unfold og
  rw [i_s1 z.1, e]
  omega
theorem OuG_s {gr : cf_O} {k x : Nat} (h : ¬ og gr k = x) : OuG gr (k + 1) x ↔ OuG gr k x := by
  constructor
  · intro z
    obtain ⟨j, h1, h2⟩ := z
    rcases Nat.lt_or_ge j k with q | q
    · exact ⟨j, q, h2⟩
    · have e : j = k := by omega
      rw [e] at h2; exact absurd h2 h
  · intro z
    obtain ⟨j, h1, h2⟩ := z
    exact ⟨j, by omega, h2⟩
theorem WtQ_s {b n k : Nat} {gr : cf_O} {f : Nat → Int32} {T Z : Int32} (h : WtQ b n gr k f T Z) : WtQ b n gr (k + 1) (upd f (og gr k) T) T Z := fun x x1 x2 => by
  by_cases e : x = og gr k
  · rw [e, up_s]; exact Or.inl ⟨⟨k, by omega, rfl⟩, rfl⟩
  · rw [up_o e, OuG_s (fun z => e z.symm)]; exact h x x1 x2
theorem WtQ_n {b n k : Nat} {gr : cf_O} {f g : Nat → Int32} {T Z : Int32} (h : WtQ b n gr k f T Z) (hn : ¬ (b ≤ og gr k ∧ og gr k < b + n)) (e : ∀ x : Nat, b ≤ x → x < b + n → g x = f x) : WtQ b n gr (k + 1) g T Z := fun x x1 x2 => by
  rw [e x x1 x2, OuG_s (fun z => hn (by rw [z]; exact ⟨x1, x2⟩))]; exact h x x1 x2
theorem WtQ_0 {b n : Nat} {gr : cf_O} {f : Nat → Int32} {T Z : Int32} (h : ∀ x : Nat, b ≤ x → x < b + n → f x = Z) : WtQ b n gr 0 f T Z := fun x x1 x2 => Or.inr ⟨(fun ⟨j, j1, _⟩ => absurd j1 (by omega)), h x x1 x2⟩
theorem wto0_go {b n M : Nat} {gr cu CV : cf_O} (G : GW b n gr) (eM : (gr.1 1).toInt = (M : Int)) : ∀ (f k : Nat) (v3 : Int32) (cv r : cf_O), v3.toInt = (k : Int) → k ≤ M → cv.1 1 = mxO (cu.2.1 1) gr k → Fr (fr_M [1] [] []) CV cv → gCv_wantOutputs f 0 v3 cv gr cu = some r → ∃ (f' : Nat) (cv' : cf_O), Fr (fr_M [1] [] []) CV cv' ∧ cv'.1 1 = mxO (cu.2.1 1) gr M ∧ gCv_wantOutputs f' 1 0 cv' gr cu = some r
  | 0, k, v3, cv, r, e3, kM, em, fc, h => by cases h
  | f + 1, k, v3, cv, r, e3, kM, em, fc, h => by
    have G0 := G.1
    have h : fCv_wantOutputs_15 (gCv_wantOutputs f) v3 cv gr cu = some r := h
    unfold fCv_wantOutputs_15 at h
    rcases ifc h with ⟨a, h⟩ | ⟨a, h⟩
    · have a := c_le a
      have ek : k = M := by omega
      exact ⟨f, cv, fc, by rw [← ek]; exact em, h⟩
    · have a := c_nle a
      have o := og_sp (k := k) G (by omega)
      have h := (ifn h).2
      rw [opk, opk, tW e3] at h
      have h := (ifn h).2
      rw [opk, opk, opk, opk, tW o.2.1, em] at h
      exact wto0_go G eM f (k + 1) (v3 + 1) (fp cv 1 (op_mx (mxO (cu.2.1 1) gr k) (cu.2.1 1 (og gr k)))) r (by rw [pW (by omega) (by omega)]; omega) (by omega) rfl (fr_fp fc rfl) h
theorem wto1_go {b n M : Nat} {gr cu CV : cf_O} {T : Int32} (G : GW b n gr) (eM : (gr.1 1).toInt = (M : Int)) : ∀ (f k : Nat) (v3 : Int32) (cv r : cf_O), v3.toInt = (k : Int) → k ≤ M → cv.1 1 = T → Fr (fr_M [] [6] []) CV cv → WtQ b n gr k (cv.2.1 6) T (-1) → gCv_wantOutputs f 1 v3 cv gr cu = some r → Fr (fr_M [] [6] []) CV r ∧ WtQ b n gr M (r.2.1 6) T (-1)
  | 0, k, v3, cv, r, e3, kM, em, fc, w, h => by cases h
  | f + 1, k, v3, cv, r, e3, kM, em, fc, w, h => by
    have G0 := G.1
    have h : fCv_wantOutputs_55 (gCv_wantOutputs f) v3 cv gr cu = some r := h
    unfold fCv_wantOutputs_55 at h
    rcases ifc h with ⟨a, h⟩ | ⟨a, h⟩
    · have a := c_le a
      have ek : k = M := by omega
      rw [← Option.some.inj h, ← ek]
      exact ⟨fc, w⟩
    · have a := c_nle a
      have o := og_sp (k := k) G (by omega)
      have e1 : (v3 + 1).toInt = ((k + 1 : Nat) : Int) := by rw [pW (by omega) (by omega)]; omega
      have h := (ifn h).2
      rw [opk, opk, tW e3] at h
      obtain ⟨q, hq, h⟩ := bd h
      have yg := isGate_sp G hq
      rcases ifc h with ⟨c, h⟩ | ⟨c, h⟩
      · have ng := Yn_0 yg c
        exact wto1_go G eM f (k + 1) (v3 + 1) cv r e1 (by omega) em fc (WtQ_n w (fun z => ng (by omega)) (fun _ _ _ => rfl)) h
      · have h := (ifn h).2
        rw [opk, tW o.2.1, em] at h
        exact wto1_go G eM f (k + 1) (v3 + 1) (xp cv 6 (og gr k) T) r e1 (by omega) em (fr_xp fc rfl) (WtQ_s w) h
theorem want_sp {b n M : Nat} {cv gr cu r : cf_O} (G : GW b n gr) (eM : (gr.1 1).toInt = (M : Int)) (h : fCv_wantOutputs cv gr cu = some r) : Fr (fr_M [1] [6] []) cv r ∧ r.1 1 = mxO (cu.2.1 1) gr M ∧ WtQ b n gr M (r.2.1 6) (mxO (cu.2.1 1) gr M) (-1) := by
  have G0 := G.1
  unfold fCv_wantOutputs fCv_wantOutputs_0 at h
  obtain ⟨q, hq, h⟩ := bd h
  have hq : gJArrays_fill_AII_Cv6 cfFU 0 (-1) 0 209 cv = some q := hq
  obtain ⟨f1, f2⟩ := fiv_go cfFU 0 cv q (by decide) (by decide) (fun j hj => absurd hj (by rw [show (0 : Int32).toInt = 0 from rfl]; omega)) hq
  rw [opk] at h
  obtain ⟨f', c1, g1, g2, h⟩ := wto0_go (CV := q) G eM cfFU 0 0 (fp q 1 0) r rfl (Nat.zero_le _) rfl (fr_fp fr_rfl rfl) h
  obtain ⟨g3, g4⟩ := wto1_go (CV := c1) G eM f' 0 0 c1 r rfl (Nat.zero_le _) g2 fr_rfl (WtQ_0 (fun x _ x2 => by rw [g1.2.1 6 rfl]; exact f2 x (by omega))) h
  exact ⟨fr_tr (fr_tr (fr_tr fr_rfl f1 rfl rfl rfl) g1 rfl rfl rfl) g3 rfl rfl rfl, by rw [g3.1 1 rfl]; exact g2, g4⟩
theorem ccz_go {OM : cf_O} : ∀ (f k : Nat) (v1 : Int32) (om r : cf_O), v1.toInt = (k : Int) → k ≤ 210 → (∀ j : Nat, j < k → om.2.1 72 j = 0) → Fr (fr_M [] [72] []) OM om → gM_chooseCells f 0 v1 0 om = some r → ∃ (f' : Nat) (om' : cf_O), Fr (fr_M [] [72] []) OM om' ∧ (∀ j : Nat, j < 210 → om'.2.1 72 j = 0) ∧ gM_chooseCells f' 1 0 0 om' = some r
  | 0, k, v1, om, r, e1, k2, z, fo, h => by cases h
  | f + 1, k, v1, om, r, e1, k2, z, fo, h => by
    have h : fM_chooseCells_2 (gM_chooseCells f) v1 om = some r := h
    unfold fM_chooseCells_2 at h
    rcases ifc h with ⟨a, h⟩ | ⟨a, h⟩
    · have a := c_le a
      rw [show (210 : Int32).toInt = 210 from rfl] at a
      exact ⟨f, om, fo, fun j hj => z j (by omega), h⟩
    · have a := c_nle a
      rw [show (210 : Int32).toInt = 210 from rfl] at a
      have h := (ifn h).2
      rw [opk, opk, vb_0, tW e1] at h
      refine ccz_go f (k + 1) (v1 + 1) (xp om 72 k 0) r (by rw [pW (by omega) (by omega)]; omega) (by omega) (fun j hj => ?_) (fr_xp fo rfl) h
      show upd (om.2.1 72) k 0 j = 0
      by_cases e : j = k
      · rw [e, up_s]
      · rw [up_o e]; exact z j (by omega)
theorem cco_go {b n M : Nat} {gr OM : cf_O} (G : GW b n gr) (eM : (gr.1 1).toInt = (M : Int)) : ∀ (f k : Nat) (v1 : Int32) (om r : cf_O), v1.toInt = (k : Int) → k ≤ M → RGq b n gr om → WtQ b n gr k (om.2.1 72) 1 0 → Fr (fr_M [] [72] []) OM om → gM_chooseCells f 1 v1 0 om = some r → ∃ (f' : Nat) (om' : cf_O) (v : Int32), v.toInt + 1 = ((b + n : Nat) : Int) ∧ Fr (fr_M [] [72] []) OM om' ∧ WtQ b n gr M (om'.2.1 72) 1 0 ∧ gM_chooseCells f' 2 v 0 om' = some r
  | 0, k, v1, om, r, e1, k2, R, z, fo, h => by cases h
  | f + 1, k, v1, om, r, e1, k2, R, z, fo, h => by
    have G0 := G.1
    have R0 := R.1
    have h : fM_chooseCells_24 (gM_chooseCells f) v1 om = some r := h
    unfold fM_chooseCells_24 at h
    rcases ifc h with ⟨a, h⟩ | ⟨a, h⟩
    · have a := c_le a
      rw [R0.2.2.2.2.1] at a
      have ek : k = M := by omega
      obtain ⟨q, hq, h⟩ := bd h
      have eb := base_sp R hq
      rw [opk, opk] at h
      have s1 : (q + om.1 43).toInt = ((b + n : Nat) : Int) := by rw [Int32.toInt_add, i_bm (by omega) (by omega)]; omega
      have s2 : (q + om.1 43 - 1).toInt = (q + om.1 43).toInt - 1 := i_sub' (by omega) (by omega) (by decide) (by decide)
      exact ⟨f, om, q + om.1 43 - 1, by omega, fo, by rw [← ek]; exact z, h⟩
    · have a := c_nle a
      rw [R0.2.2.2.2.1] at a
      have o := og_sp (k := k) G (by omega)
      have e1' : (v1 + 1).toInt = ((k + 1 : Nat) : Int) := by rw [pW (by omega) (by omega)]; omega
      have h := (ifn h).2
      rw [opk, opk, tW e1, R.2.2.2.1 k (by omega)] at h
      have h := (ifn h).2
      rw [opk, opk] at h
      obtain ⟨q, hq, h⟩ := bd h
      have eb := base_sp R hq
      have k64 : ∀ s : Int32, vp_nar .boolean s = s → fM_chooseCells_64 (gM_chooseCells f) v1 (gr.2.1 7 k / 2) s om = some r → gM_chooseCells f 1 (v1 + 1) 0 (xp om 72 (og gr k) s) = some r := fun s vs z => by
        unfold fM_chooseCells_64 at z
        have z := (ifn z).2
        rw [opk, opk, tW o.2.2, vs] at z
        exact z
      rcases ifc h with ⟨c, h⟩ | ⟨c, h⟩
      · have c := Int32.lt_iff_toInt_lt.mp c
        refine cco_go G eM f (k + 1) (v1 + 1) (xp om 72 (og gr k) 0) r e1' (by omega) (RGq_f R rfl rfl rfl rfl rfl rfl rfl) (WtQ_n z (by omega) (fun x x1 x2 => ?_)) (fr_xp fo rfl) (k64 0 vb_0 h)
        show upd (om.2.1 72) (og gr k) 0 x = _
        rw [up_o (by omega)]
      · exact cco_go G eM f (k + 1) (v1 + 1) (xp om 72 (og gr k) 1) r e1' (by omega) (RGq_f R rfl rfl rfl rfl rfl rfl rfl) (WtQ_s z) (fr_xp fo rfl) (k64 1 vb_1 h)
theorem cfz_go {OM : cf_O} : ∀ (f k : Nat) (v2 : Int32) (om r : cf_O), v2.toInt = (k : Int) → k ≤ 210 → (∀ j : Nat, j < k → om.2.1 72 j = 0) → Fr (fr_M [] [72] []) OM om → gM_chooseFew f 0 0 v2 0 0 om = some r → ∃ (f' : Nat) (om' : cf_O), Fr (fr_M [] [72] []) OM om' ∧ (∀ j : Nat, j < 210 → om'.2.1 72 j = 0) ∧ gM_chooseFew f' 1 0 0 0 0 om' = some r
  | 0, k, v1, om, r, e1, k2, z, fo, h => by cases h
  | f + 1, k, v1, om, r, e1, k2, z, fo, h => by
    have h : fM_chooseFew_4 (gM_chooseFew f) 0 v1 om = some r := h
    unfold fM_chooseFew_4 at h
    rcases ifc h with ⟨a, h⟩ | ⟨a, h⟩
    · have a := c_le a
      rw [show (210 : Int32).toInt = 210 from rfl] at a
      exact ⟨f, om, fo, fun j hj => z j (by omega), h⟩
    · have a := c_nle a
      rw [show (210 : Int32).toInt = 210 from rfl] at a
      have h := (ifn h).2
      rw [opk, opk, vb_0, tW e1] at h
      refine cfz_go f (k + 1) (v1 + 1) (xp om 72 k 0) r (by rw [pW (by omega) (by omega)]; omega) (by omega) (fun j hj => ?_) (fr_xp fo rfl) h
      show upd (om.2.1 72) k 0 j = 0
      by_cases e : j = k
      · rw [e, up_s]
      · rw [up_o e]; exact z j (by omega)
theorem cfm_go {b n M : Nat} {gr om r : cf_O} (G : GW b n gr) (eM : (gr.1 1).toInt = (M : Int)) (R : RGq b n gr om) : ∀ (f k : Nat) (v1 v2 : Int32), v2.toInt = (k : Int) → k ≤ M → v1 = mxO (om.2.1 62) gr k → gM_chooseFew f 1 v1 v2 0 0 om = some r → ∃ f' : Nat, gM_chooseFew f' 2 (mxO (om.2.1 62) gr M) 0 0 0 om = some r
  | 0, k, v1, v2, e2, k2, em, h => by cases h
  | f + 1, k, v1, v2, e2, k2, em, h => by
    have G0 := G.1
    have R0 := R.1
    have h : fM_chooseFew_26 (gM_chooseFew f) v1 v2 om = some r := h
    unfold fM_chooseFew_26 at h
    rcases ifc h with ⟨a, h⟩ | ⟨a, h⟩
    · have a := c_le a
      rw [R0.2.2.2.2.1] at a
      have ek : k = M := by omega
      exact ⟨f, by rw [← ek, ← em]; exact h⟩
    · have a := c_nle a
      rw [R0.2.2.2.2.1] at a
      have o := og_sp (k := k) G (by omega)
      have e2' : (v2 + 1).toInt = ((k + 1 : Nat) : Int) := by rw [pW (by omega) (by omega)]; omega
      have h := (ifn h).2
      rw [opk, opk, tW e2, R.2.2.2.1 k (by omega)] at h
      have h := (ifn h).2
      rw [opk, tW o.2.2] at h
      rcases ifc h with ⟨c, h⟩ | ⟨c, h⟩
      · have c := c_le c
        refine cfm_go G eM R f (k + 1) v1 (v2 + 1) e2' (by omega) ?_ h
        show v1 = op_mx (mxO (om.2.1 62) gr k) (om.2.1 62 (og gr k))
        rw [← em]
        exact Int32.toInt_inj.mp (by rw [mx_i]; omega)
      · have c := c_nle c
        have h := (ifn h).2
        rw [opk, opk] at h
        have h := (ifn h).2
        rw [opk, tW o.2.2] at h
        refine cfm_go G eM R f (k + 1) (om.2.1 62 (og gr k)) (v2 + 1) e2' (by omega) ?_ h
        show om.2.1 62 (og gr k) = op_mx (mxO (om.2.1 62) gr k) (om.2.1 62 (og gr k))
        rw [← em]
        exact Int32.toInt_inj.mp (by rw [mx_i]; omega)
theorem cfo_go {b n M : Nat} {gr OM : cf_O} {T : Int32} (G : GW b n gr) (eM : (gr.1 1).toInt = (M : Int)) : ∀ (f k : Nat) (v2 : Int32) (om r : cf_O), v2.toInt = (k : Int) → k ≤ M → RGq b n gr om → WtQ b n gr k (om.2.1 72) 1 0 → (∀ x : Nat, OuG gr k x → om.2.1 67 x = T) → Fr (fr_M [] [67, 72] []) OM om → gM_chooseFew f 2 T v2 0 0 om = some r → ∃ (f' : Nat) (om' : cf_O) (v : Int32), v.toInt + 1 = ((b + n : Nat) : Int) ∧ Fr (fr_M [] [67, 72] []) OM om' ∧ WtQ b n gr M (om'.2.1 72) 1 0 ∧ (∀ x : Nat, OuG gr M x → om'.2.1 67 x = T) ∧ gM_chooseFew f' 3 0 v 0 0 om' = some r
  | 0, k, v1, om, r, e1, k2, R, z, t, fo, h => by cases h
  | f + 1, k, v1, om, r, e1, k2, R, z, t, fo, h => by
    have G0 := G.1
    have R0 := R.1
    have h : fM_chooseFew_77 (gM_chooseFew f) T v1 om = some r := h
    unfold fM_chooseFew_77 at h
    rcases ifc h with ⟨a, h⟩ | ⟨a, h⟩
    · have a := c_le a
      rw [R0.2.2.2.2.1] at a
      have ek : k = M := by omega
      obtain ⟨q, hq, h⟩ := bd h
      have eb := base_sp R hq
      rw [opk, opk] at h
      have s1 : (q + om.1 43).toInt = ((b + n : Nat) : Int) := by rw [Int32.toInt_add, i_bm (by omega) (by omega)]; omega
      have s2 : (q + om.1 43 - 1).toInt = (q + om.1 43).toInt - 1 := i_sub' (by omega) (by omega) (by decide) (by decide)
      exact ⟨f, om, q + om.1 43 - 1, by omega, fo, by rw [← ek]; exact z, by rw [← ek]; exact t, h⟩
    · have a := c_nle a
      rw [R0.2.2.2.2.1] at a
      have o := og_sp (k := k) G (by omega)
      have e1' : (v1 + 1).toInt = ((k + 1 : Nat) : Int) := by rw [pW (by omega) (by omega)]; omega
      have h := (ifn h).2
      have o47 := R.2.2.2.1 k (by omega)
      rw [opk, opk, tW e1, o47] at h
      have h := (ifn h).2
      rw [opk, opk] at h
      obtain ⟨q, hq, h⟩ := bd h
      have eb := base_sp R hq
      have k117 : ∀ s : Int32, vp_nar .boolean s = s → fM_chooseFew_117 (gM_chooseFew f) T v1 (gr.2.1 7 k / 2) s om = some r → gM_chooseFew f 2 T (v1 + 1) 0 0 (xp (xp om 72 (og gr k) s) 67 (og gr k) T) = some r := fun s vs z => by
        unfold fM_chooseFew_117 at z
        have z := (ifn z).2
        rw [opk] at z
        have z := (ifn z).2
        rw [opk, opk, tW e1] at z
        have e47 : (xp om 72 (gr.2.1 7 k / 2).toNatClampNeg (vp_nar .boolean s)).2.1 47 k = gr.2.1 7 k := o47
        rw [e47] at z
        have z := (ifn z).2
        rw [opk, opk, tW o.2.2, vs] at z
        exact z
      have t' : ∀ s : Int32, ∀ x : Nat, OuG gr (k + 1) x → (xp (xp om 72 (og gr k) s) 67 (og gr k) T).2.1 67 x = T := fun s x hx => by
        show upd (om.2.1 67) (og gr k) T x = T
        by_cases e : x = og gr k
        · rw [e, up_s]
        · rw [up_o e]; exact t x ((OuG_s (fun z => e z.symm)).mp hx)
      rcases ifc h with ⟨c, h⟩ | ⟨c, h⟩
      · have c := Int32.lt_iff_toInt_lt.mp c
        refine cfo_go G eM f (k + 1) (v1 + 1) (xp (xp om 72 (og gr k) 0) 67 (og gr k) T) r e1' (by omega) (RGq_f R rfl rfl rfl rfl rfl rfl rfl) (WtQ_n z (by omega) (fun x x1 x2 => ?_)) (t' 0) (fr_xp (fr_xp fo rfl) rfl) (k117 0 vb_0 h)
        show upd (om.2.1 72) (og gr k) 0 x = _
        rw [up_o (by omega)]
      · exact cfo_go G eM f (k + 1) (v1 + 1) (xp (xp om 72 (og gr k) 1) 67 (og gr k) T) r e1' (by omega) (RGq_f R rfl rfl rfl rfl rfl rfl rfl) (WtQ_s z) (t' 1) (fr_xp (fr_xp fo rfl) rfl) (k117 1 vb_1 h)
theorem mxO_c {d e : Nat → Int32} {gr : cf_O} : ∀ {M : Nat}, (∀ j : Nat, j < M → d (og gr j) = e (og gr j)) → mxO d gr M = mxO e gr M
  | 0, _ => rfl
  | M + 1, h => by
    show op_mx (mxO d gr M) (d (og gr M)) = op_mx (mxO e gr M) (e (og gr M))
    rw [mxO_c (fun j hj => h j (by omega)), h M (by omega)]
theorem mxO_b {d : Nat → Int32} {gr : cf_O} {B : Int} (B0 : 0 ≤ B) : ∀ {M : Nat}, (∀ j : Nat, j < M → (d (og gr j)).toInt ≤ B) → (0 ≤ (mxO d gr M).toInt ∧ (mxO d gr M).toInt ≤ B) ∧ ∀ j : Nat, j < M → (d (og gr j)).toInt ≤ (mxO d gr M).toInt
  | 0, _ => ⟨⟨by show (0 : Int) ≤ (0 : Int32).toInt; decide, by show (0 : Int32).toInt ≤ B; exact B0⟩, fun j hj => absurd hj (by omega)⟩
  | M + 1, h => by
    obtain ⟨⟨a1, a2⟩, a3⟩ := mxO_b B0 (M := M) (fun j hj => h j (by omega))
    have hM := h M (by omega)
    have e : (mxO d gr (M + 1)).toInt = max (mxO d gr M).toInt (d (og gr M)).toInt := mx_i _ _
    rw [e]
    refine ⟨by omega, fun j hj => ?_⟩
    rcases Nat.lt_or_ge j M with q | q
    · have := a3 j q; omega
    · have ej : j = M := by omega
      rw [ej]; omega
theorem dw_0 {b n K M : Nat} {few : Bool} {gr cu cv om : cf_O} (X : CxF b n K gr cu om) (d0 : cu.2.1 1 0 = 0) (eM : (gr.1 1).toInt = (M : Int)) (w1 : WtQ b n gr M (cv.2.1 6) (mxO (cu.2.1 1) gr M) (-1)) (w2 : WtQ b n gr M (om.2.1 72) 1 0) (w3 : few = true → ∀ x : Nat, OuG gr M x → om.2.1 67 x = mxO (om.2.1 62) gr M) : DwR b n few (cu.2.1 1) cv om ∧ mxO (cu.2.1 1) gr M = mxO (om.2.1 62) gr M := by
  obtain ⟨G, R, ⟨RR, rows, C, er⟩, de, B, cvr, d6, K5⟩ := X
  have G0 := G.1
  obtain ⟨_, _, _, _, _, _, _, _, C9, _⟩ := C
  have dd : ∀ k : Nat, k < b + n → cu.2.1 1 k = om.2.1 62 k ∧ (cu.2.1 1 k).toInt ≤ 209 := fun k hk => by
    rcases Nat.eq_zero_or_pos k with e | e
    · have z := d6 0 (by omega)
      rw [e, d0]
      exact ⟨Int32.toInt_inj.mp (by rw [z]; rfl), by decide⟩
    · have z := C9 k e hk
      exact ⟨de k e hk, by omega⟩
  have eq := mxO_c (d := cu.2.1 1) (e := om.2.1 62) (gr := gr) (M := M) (fun j hj => (dd _ (og_sp G (by omega)).1).1)
  obtain ⟨⟨m1, m2⟩, m3⟩ := mxO_b (d := cu.2.1 1) (gr := gr) (B := 209) (by decide) (M := M) (fun j hj => (dd _ (og_sp G (by omega)).1).2)
  refine ⟨fun x x1 x2 => ?_, eq⟩
  rcases w1 x x1 x2 with ⟨a, a2⟩ | ⟨a, a2⟩
  · rcases w2 x x1 x2 with ⟨_, c2⟩ | ⟨c, _⟩
    · rw [a2]
      refine Or.inr ⟨fun z => ?_, c2, ?_, by omega, fun fw => by rw [w3 fw x a, eq]⟩
      · rw [z, show (-1 : Int32).toInt = -1 from by decide] at m1; omega
      · obtain ⟨j, j1, j2⟩ := a
        rw [← j2]; exact m3 j j1
    · exact absurd a c
  · rcases w2 x x1 x2 with ⟨c, _⟩ | ⟨_, c2⟩
    · exact absurd c a
    · exact Or.inl ⟨a2, c2⟩
