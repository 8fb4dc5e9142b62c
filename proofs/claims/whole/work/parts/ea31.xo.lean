theorem dig_go {t v1 v2 w3 v3 : Int32} {w i : Nat} {sc : cf_O} (ew : v2.toInt = (w : Int)) (ew3 : w3.toInt = (w : Int)) (hw : w ≤ 5) (ei : v3.toInt = (i : Int)) : ∀ (f1 f2 k : Nat) (v4 v5 : Int32) (sb om r1 r2 : cf_O), v4.toInt = (k : Int) → v5.toInt = (k : Int) → k ≤ w → TwS sb om → gCv_writeRows f1 1 t v2 v3 v4 sc sb = some r1 → gM_writeCell f2 2 v1 0 w3 v3 v5 om = some r2 → ∃ (f1' f2' : Nat) (sb' om' : cf_O), TwS sb' om' ∧ Fr (fr_M [76] [77] []) om om' ∧ gCv_writeRows f1' 0 t v2 (v3 + 1) 0 sc sb' = some r1 ∧ gM_writeCell f2' 1 v1 0 w3 (v3 + 1) 0 om' = some r2
  | 0, f2, k, v4, v5, sb, om, r1, r2, e4, e5, kw, T, h1, h2 => by cases h1
  | f1 + 1, 0, k, v4, v5, sb, om, r1, r2, e4, e5, kw, T, h1, h2 => by cases h2
  | f1 + 1, f2 + 1, k, v4, v5, sb, om, r1, r2, e4, e5, kw, T, h1, h2 => by
    have h1 : fCv_writeRows_23 (gCv_writeRows f1) t v2 v3 v4 sc sb = some r1 := h1
    have h2 : fM_writeCell_85 (gM_writeCell f2) v1 w3 v3 v5 om = some r2 := h2
    unfold fCv_writeRows_23 at h1
    unfold fM_writeCell_85 at h2
    have ev : v5 = v4 := Int32.toInt_inj.mp (by omega)
    subst ev
    rcases ifc h1 with ⟨a, h1⟩ | ⟨a, h1⟩
    · have a := c_le a
      rcases ifc h2 with ⟨_, h2⟩ | ⟨d, _⟩
      · obtain ⟨q, hq, h1⟩ := bd h1
        obtain ⟨o1, k1, h2⟩ := bd h2
        obtain ⟨o2, k2, h2⟩ := bd h2
        obtain ⟨o3, k3, h2⟩ := bd h2
        obtain ⟨L, S, R, A, l5⟩ := T
        obtain ⟨R1, g1⟩ := em_sp R k1
        obtain ⟨R2, g2⟩ := em_sp R1 k2
        obtain ⟨R3, g3⟩ := em_sp R2 k3
        have S1 := apS_11 S hq
        rw [show wdL 11 3 = [32, 49, 10] from by decide +kernel] at S1
        rw [List.append_assoc, List.append_assoc] at R3
        unfold fCv_writeRows_68 fCv_writeRows_69 at h1
        unfold fM_writeCell_133 at h2
        rw [opk] at h1 h2
        refine ⟨f1, f2, q, o3, ⟨_, S1, R3, AsQ_a A (by unfold AsQ; decide), by rw [List.length_append]; omega⟩, fr_tr (fr_tr g1 g2 rfl rfl rfl) g3 rfl rfl rfl, h1, h2⟩
      · exact absurd (Int32.le_iff_toInt_le.mpr (by omega)) d
    · have a := c_nle a
      rcases ifc h2 with ⟨d, _⟩ | ⟨_, h2⟩
      · have d := c_le d; omega
      rw [opk, opk] at h1
      rw [opk, opk, opk, opk] at h2
      have tb := tbit (t := v3) (j := k) (by omega) (by omega)
      rw [← on_i e5] at tb
      generalize v3 >>> (v5 &&& 31) &&& 1 = x at h1 h2 tb
      obtain ⟨o1, k1, h2⟩ := bd h2
      rw [opk] at h2
      have p5 : (v5 + 1).toInt = ((k + 1 : Nat) : Int) := by rw [pW (by omega) (by omega)]; omega
      have go : ∀ c : Int32, (48 + x).toInt64.toInt32 = c → 0 ≤ c.toInt → c.toInt ≤ 127 → fCv_writeRows_49 (gCv_writeRows f1) t v2 v3 v5 c sc sb = some r1 → ∃ (f1' f2' : Nat) (sb' om' : cf_O), TwS sb' om' ∧ Fr (fr_M [76] [77] []) om om' ∧ gCv_writeRows f1' 0 t v2 (v3 + 1) 0 sc sb' = some r1 ∧ gM_writeCell f2' 1 v1 0 w3 (v3 + 1) 0 om' = some r2 := fun c ec c0 c1 z => by
        unfold fCv_writeRows_49 at z
        obtain ⟨s1, hs, z⟩ := bd z
        obtain ⟨T2, g2⟩ := tw_C T ec c0 c1 hs k1
        unfold fCv_writeRows_52 at z
        rw [opk] at z
        obtain ⟨a1, a2, a3, a4, a5, a6, a7, a8⟩ := dig_go ew ew3 hw ei f1 f2 (k + 1) (v5 + 1) (v5 + 1) s1 o1 r1 r2 p5 p5 (by omega) T2 z h2
        exact ⟨a1, a2, a3, a4, a5, fr_tr g2 a6 rfl rfl rfl, a7, a8⟩
      rcases ifc h1 with ⟨c, h1⟩ | ⟨c, h1⟩
      · exact go 48 (by rw [c]; decide) (by decide) (by decide) h1
      · have cx : x = 1 := by
          cases hb : bt v3 k with
          | true => exact tb.1.mpr hb
          | false => exact absurd (tb.2.mpr hb) c
        exact go 49 (by rw [cx]; decide) (by decide) (by decide) h1
theorem row_go {b n g ci w : Nat} {C : List Int} {W : Nat → Nat → Bool} {t v1 v2 w3 : Int32} {gr sc : cf_O} (G : GW b n gr) (hV : CVq b n gr C W) (hg : g < b + n) (e1 : v1.toInt = (g : Int)) (ew : v2.toInt = (w : Int)) (ew3 : w3.toInt = (w : Int)) (hw : w ≤ 5) (ht : ∀ j : Nat, j < 2 ^ w → bt t j = W g j) : ∀ (N i f1 f2 : Nat) (v3 : Int32) (sb om r1 r2 : cf_O), 2 ^ w - i = N → i ≤ 2 ^ w → v3.toInt = (i : Int) → RGq b n gr om → (om.2.1 63 g).toInt = (ci : Int) → CtM ci C om → TwS sb om → gCv_writeRows f1 0 t v2 v3 0 sc sb = some r1 → gM_writeCell f2 1 v1 0 w3 v3 0 om = some r2 → TwS r1 r2 ∧ Fr (fr_M [76] [75, 77] []) om r2 := by
  intro N
  have w32 : 2 ^ w ≤ 32 := by
    have : w = 0 ∨ w = 1 ∨ w = 2 ∨ w = 3 ∨ w = 4 ∨ w = 5 := by omega
    rcases this with e | e | e | e | e | e <;> rw [e] <;> decide
  have sw : ∀ v : Int32, v.toInt = (w : Int) → ((1 : Int32) <<< (v &&& 31)).toInt = ((2 ^ w : Nat) : Int) := fun v e => by rw [on_i e]; exact s1_e5 w (by omega)
  induction N with
  | zero =>
    intro i f1 f2 v3 sb om r1 r2 eN iN e3 RG e63 hC T h1 h2
    cases f1 with
    | zero => cases h1
    | succ f1 =>
    cases f2 with
    | zero => cases h2
    | succ f2 =>
    have h1 : fCv_writeRows_2 (gCv_writeRows f1) t v2 v3 sc sb = some r1 := h1
    have h2 : fM_writeCell_64 (gM_writeCell f2) v1 w3 v3 om = some r2 := h2
    unfold fCv_writeRows_2 at h1
    unfold fM_writeCell_64 at h2
    rw [opk, if_pos (Int32.le_iff_toInt_le.mpr (by rw [sw _ ew]; omega))] at h1
    rw [opk, if_pos (Int32.le_iff_toInt_le.mpr (by rw [sw _ ew3]; omega))] at h2
    rw [← Option.some.inj h1, ← Option.some.inj h2]
    exact ⟨T, fr_rfl⟩
  | succ N ih =>
    intro i f1 f2 v3 sb om r1 r2 eN iN e3 RG e63 hC T h1 h2
    cases f1 with
    | zero => cases h1
    | succ f1 =>
    cases f2 with
    | zero => cases h2
    | succ f2 =>
    have h1 : fCv_writeRows_2 (gCv_writeRows f1) t v2 v3 sc sb = some r1 := h1
    have h2 : fM_writeCell_64 (gM_writeCell f2) v1 w3 v3 om = some r2 := h2
    unfold fCv_writeRows_2 at h1
    unfold fM_writeCell_64 at h2
    rw [opk, if_neg (fun z => by have := c_le z; rw [sw _ ew] at this; omega), opk, opk] at h1
    rw [opk, if_neg (fun z => by have := c_le z; rw [sw _ ew3] at this; omega)] at h2
    obtain ⟨q, hq, h2⟩ := bd h2
    obtain ⟨q1, q2⟩ := cval_sp G RG hV hg e1 e3 e63 hC hq
    have tq := ht i (by omega)
    have ub := ub_0 (t := t) (v := v3) (i := i) (by omega) e3
    have p3 : (v3 + 1).toInt = ((i + 1 : Nat) : Int) := by rw [pW (by omega) (by omega)]; omega
    have RG2 : RGq b n gr q.2 := RGq_f RG (q2.1 39 rfl) (q2.1 40 rfl) (q2.1 43 rfl) (q2.2.1 44 rfl) (q2.2.1 45 rfl) (q2.2.1 46 rfl) (q2.2.1 47 rfl)
    have T2 : TwS sb q.2 := TwS_f T (q2.1 95 rfl) (q2.1 76 rfl) (q2.2.1 77 rfl)
    have c2 : CtM ci C q.2 := CtM_f hC (q2.2.1 59 rfl) (q2.2.1 58 rfl)
    cases hb : W g i with
    | false =>
      rw [hb] at tq q1
      rw [if_pos (ub.mpr tq)] at h1
      rw [if_pos (show q.1 = 0 from q1)] at h2
      unfold fCv_writeRows_69 at h1
      unfold fM_writeCell_133 at h2
      rw [opk] at h1 h2
      obtain ⟨z1, z2⟩ := ih (i + 1) f1 f2 (v3 + 1) sb q.2 r1 r2 (by omega) (by omega) p3 RG2 (by rw [q2.2.1 63 rfl]; exact e63) c2 T2 h1 h2
      exact ⟨z1, fr_tr (fr_tr fr_rfl q2 rfl rfl rfl) z2 rfl rfl rfl⟩
    | true =>
      rw [hb] at tq q1
      rw [if_neg (fun z => by rw [ub.mp z] at tq; cases tq)] at h1
      rw [if_neg (by rw [q1]; decide)] at h2
      obtain ⟨a1, a2, a3, a4, a5, a6, a7, a8⟩ := dig_go ew ew3 hw e3 f1 f2 0 0 0 sb q.2 r1 r2 rfl rfl (Nat.zero_le _) T2 h1 h2
      obtain ⟨z1, z2⟩ := ih (i + 1) a1 a2 (v3 + 1) a3 a4 r1 r2 (by omega) (by omega) p3 (RGq_f RG2 (a6.1 39 rfl) (a6.1 40 rfl) (a6.1 43 rfl) (a6.2.1 44 rfl) (a6.2.1 45 rfl) (a6.2.1 46 rfl) (a6.2.1 47 rfl)) (by rw [a6.2.1 63 rfl, q2.2.1 63 rfl]; exact e63) (CtM_f c2 (a6.2.1 59 rfl) (a6.2.1 58 rfl)) a5 a7 a8
      exact ⟨z1, fr_tr (fr_tr (fr_tr fr_rfl q2 rfl rfl rfl) a6 rfl rfl rfl) z2 rfl rfl rfl⟩
