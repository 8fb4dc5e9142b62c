def TuQ (b n : Nat) (gr : cf_O) (v : Int64) (g : Nat) (t : Int32) : Prop := ∀ (l : List Nat) (W : Nat → Nat → Bool), nv v = enc l → Fall g l → 1 ≤ l.length → l.length ≤ 5 → CvG b gr (upL l) g → CVq b n gr (upL l) W → ∀ j : Nat, j < 32 → bt t j = (decide (j < 2 ^ (upL l).length) && W g j)
def CeQ (b n m : Nat) (gr CV cv OM om : cf_O) (c : Nat) : Prop := ∃ g : Nat, b ≤ g ∧ g < m ∧ (cv.2.1 2 c).toInt = (g : Int) ∧ om.2.1 74 c = cv.2.1 2 c ∧ ¬ CV.2.1 6 g = -1 ∧ cv.2.1 4 c = OM.2.1 62 g ∧ TuQ b n gr (CV.2.2 5 g) g (cv.2.1 3 c)
def LsQ (b n m : Nat) (gr CV cv OM om : cf_O) : Prop := om.1 73 = cv.1 0 ∧ ∃ k : Nat, (cv.1 0).toInt = (k : Int) ∧ b + k ≤ m ∧ ∀ c : Nat, c < k → CeQ b n m gr CV cv OM om c
theorem CeQ_m {b n m m2 : Nat} {gr CV cv OM om : cf_O} {c : Nat} (h : CeQ b n m gr CV cv OM om c) (hm : m ≤ m2) : CeQ b n m2 gr CV cv OM om c := by
  obtain ⟨g, h1, h2, h3⟩ := h
  exact ⟨g, h1, by omega, h3⟩
theorem CeQ_f {b n m : Nat} {gr CV cv cv2 OM om om2 : cf_O} {c : Nat} (h : CeQ b n m gr CV cv OM om c) (e2 : cv2.2.1 2 c = cv.2.1 2 c) (e3 : cv2.2.1 3 c = cv.2.1 3 c) (e4 : cv2.2.1 4 c = cv.2.1 4 c) (e7 : om2.2.1 74 c = om.2.1 74 c) : CeQ b n m gr CV cv2 OM om2 c := by
  unfold CeQ at h ⊢
  rw [e2, e3, e4, e7]; exact h
theorem ls_go {b n K : Nat} {few : Bool} {gr cu CV OM : cf_O} (X : CxF b n K gr cu OM) (D : DwR b n few (cu.2.1 1) CV OM) (C : RcQ b n gr (b - 1) CV OM) : ∀ (f1 f2 m : Nat) (v5 v1 : Int32) (cv om co : cf_O) (rc : cf_O × cf_O) (r : cf_O), v5.toInt = (m : Int) → v1.toInt = (m : Int) → b ≤ m → m ≤ b + n → LsQ b n m gr CV cv OM om → Fr (fr_M [0] [2, 3, 4] []) CV cv → Fr (fr_M [73] [74] []) OM om → gCv_choose f1 1 0 v5 cv gr cu co = some rc → gM_listCells f2 0 v1 om = some r → Fr (fr_M [0] [2, 3, 4] []) CV rc.1 ∧ Fr (fr_M [73] [74] []) OM r ∧ LsQ b n (b + n) gr CV rc.1 OM r
  | 0, f2, m, v5, v1, cv, om, co, rc, r, e5, e1, bm, mn, L, fc, fo, q1, q2 => by cases q1
  | f1 + 1, 0, m, v5, v1, cv, om, co, rc, r, e5, e1, bm, mn, L, fc, fo, q1, q2 => by cases q2
  | f1 + 1, f2 + 1, m, v5, v1, cv, om, co, rc, r, e5, e1, bm, mn, L, fc, fo, q1, q2 => by
    have G := X.1
    have G0 := G.1
    have R : RGq b n gr om := RGq_f X.2.1 (fo.1 39 rfl) (fo.1 40 rfl) (fo.1 43 rfl) (fo.2.1 44 rfl) (fo.2.1 45 rfl) (fo.2.1 46 rfl) (fo.2.1 47 rfl)
    have q1 : fCv_choose_103 (gCv_choose f1) v5 cv gr cu co = some rc := q1
    have q2 : fM_listCells_10 (gM_listCells f2) v1 om = some r := q2
    unfold fCv_choose_103 at q1
    unfold fM_listCells_10 at q2
    obtain ⟨s, hs, q1⟩ := bd q1
    have es := size_sp G hs
    obtain ⟨q, hq, q2⟩ := bd q2
    have eb := base_sp R hq
    have R0 := R.1
    rw [opk] at q2
    have s1 : (q + om.1 43).toInt = ((b + n : Nat) : Int) := by rw [Int32.toInt_add, i_bm (by omega) (by omega)]; omega
    have p5 := pW (v := v5) (by omega) (by omega)
    have p1 := pW (v := v1) (by omega) (by omega)
    rcases ifc q1 with ⟨a, q1⟩ | ⟨a, q1⟩
    · have a := c_le a
      rcases ifc q2 with ⟨_, q2⟩ | ⟨d, _⟩
      · rw [← Option.some.inj q1, ← Option.some.inj q2]
        have em : m = b + n := by omega
        rw [← em]
        exact ⟨fc, fo, L⟩
      · exact absurd (Int32.le_iff_toInt_le.mpr (by omega)) d
    · have a := c_nle a
      rcases ifc q2 with ⟨d, _⟩ | ⟨_, q2⟩
      · have d := c_le d; omega
      have q1 := (ifn q1).2
      have q2 := (ifn q2).2
      rw [opk, tW e5, fc.2.1 6 rfl] at q1
      rw [opk, tW e1, fo.2.1 72 rfl] at q2
      obtain ⟨L1, k, L2, L3, L4⟩ := L
      rcases ifc q1 with ⟨c, q1⟩ | ⟨c, q1⟩
      · have z72 : OM.2.1 72 m = 0 := by
          rcases D m bm (by omega) with ⟨_, z⟩ | ⟨z, _⟩
          · exact z
          · exact absurd c z
        rw [if_pos z72] at q2
        exact ls_go X D C f1 f2 (m + 1) (v5 + 1) (v1 + 1) cv om co rc r (by omega) (by omega) (by omega) (by omega) ⟨L1, k, L2, by omega, fun i hi => CeQ_m (L4 i hi) (by omega)⟩ fc fo q1 q2
      · have z72 : OM.2.1 72 m = 1 := by
          rcases D m bm (by omega) with ⟨z, _⟩ | ⟨_, z, _⟩
          · exact absurd z c
          · exact z
        rw [z72, if_neg (by decide)] at q2
        obtain ⟨l, ci, c1, c2, c3, c4, c5, c6, c7⟩ := C m (by omega) (by omega) bm c
        have q1 := (ifn q1).2
        rw [opk, fc.2.2 5 rfl] at q1
        obtain ⟨co1, hco, q1⟩ := bd q1
        have T : TuQ b n gr (CV.2.2 5 m) m (co1.1 1) := fun l2 W d1 d2 d3 d4 d5 d6 => (cone_sp G (by omega) d1 d2 d3 d4 d5 d6 e5 hco).1.2.2.1
        have q1 := (ifn q1).2
        rw [opk, tW L2] at q1
        have q1 := (ifn q1).2
        rw [opk, tW (v := (xp cv 2 k v5).1 0) L2] at q1
        have q1 := (ifn q1).2
        rw [opk] at q1
        have q1 := (ifn q1).2
        rw [opk, opk, opk, tW (v := (xp (xp cv 2 k v5) 3 k (co1.1 1)).1 0) L2] at q1
        have q2 := (ifn q2).2
        rw [opk, opk, opk, L1, tW L2, show (xp om 74 k v1).1 73 = cv.1 0 from L1] at q2
        have e62 : cu.2.1 1 m = OM.2.1 62 m := X.2.2.2.1 m (by omega) (by omega)
        rw [e62] at q1
        have ec : ((cv.1 0) + 1).toInt = ((k + 1 : Nat) : Int) := by rw [pW (by omega) (by omega)]; omega
        have ev : v1 = v5 := Int32.toInt_inj.mp (by omega)
        refine ls_go X D C f1 f2 (m + 1) (v5 + 1) (v1 + 1) (fp (xp (xp (xp cv 2 k v5) 3 k (co1.1 1)) 4 k (OM.2.1 62 m)) 0 ((cv.1 0) + 1)) (fp (xp om 74 k v1) 73 ((cv.1 0) + 1)) co1 rc r (by omega) (by omega) (by omega) (by omega) ⟨rfl, k + 1, ec, by omega, fun i hi => ?_⟩ (fr_fp (fr_xp (fr_xp (fr_xp fc rfl) rfl) rfl) rfl) (fr_fp (fr_xp fo rfl) rfl) q1 q2
        by_cases e : i = k
        · rw [e]
          refine ⟨m, bm, by omega, ?_, ?_, c, ?_, ?_⟩
          · show (upd (cv.2.1 2) k v5 k).toInt = _
            rw [up_s]; exact e5
          · show upd (om.2.1 74) k v1 k = upd (cv.2.1 2) k v5 k
            rw [up_s, up_s]; exact ev
          · show upd (cv.2.1 4) k (OM.2.1 62 m) k = _
            rw [up_s]
          · show TuQ b n gr (CV.2.2 5 m) m (upd (cv.2.1 3) k (co1.1 1) k)
            rw [up_s]; exact T
        · refine CeQ_f (CeQ_m (L4 i (by omega)) (by omega)) ?_ ?_ ?_ ?_
          · show upd (cv.2.1 2) k v5 i = _
            rw [up_o e]
          · show upd (cv.2.1 3) k (co1.1 1) i = _
            rw [up_o e]
          · show upd (cv.2.1 4) k (OM.2.1 62 m) i = _
            rw [up_o e]
          · show upd (om.2.1 74) k v1 i = _
            rw [up_o e]
def CcQ (b n : Nat) (gr cv om : cf_O) (c : Nat) : Prop := ∃ (g : Nat) (l : List Nat) (ci : Nat), b ≤ g ∧ g < b + n ∧ (cv.2.1 2 c).toInt = (g : Int) ∧ om.2.1 74 c = cv.2.1 2 c ∧ cv.2.1 4 c = om.2.1 62 g ∧ TuQ b n gr (cv.2.2 5 g) g (cv.2.1 3 c) ∧ nv (cv.2.2 5 g) = enc l ∧ Fall g l ∧ 2 ≤ l.length ∧ l.length ≤ 5 ∧ CvG b gr (upL l) g ∧ (om.2.1 63 g).toInt = (ci : Int) ∧ CtM ci (upL l) om
def CvR (b n M : Nat) (gr cv om : cf_O) : Prop := om.1 73 = cv.1 0 ∧ (∃ k : Nat, (cv.1 0).toInt = (k : Int) ∧ k ≤ n ∧ ∀ c : Nat, c < k → CcQ b n gr cv om c) ∧ cv.1 1 = mxO (om.2.1 62) gr M
theorem ch_cv {b n K M : Nat} {few : Bool} {gr cu co cv om : cf_O} {rc : cf_O × cf_O} {r : cf_O} (h : ChE b n K M few gr cu co cv om rc r) : CvR b n M gr rc.1 r ∧ Fr (fr_M [73] [63, 67, 72, 74] []) om r ∧ (few = false → r.2.1 63 = om.2.1 63) ∧ Fr (fr_M [0, 1] [2, 3, 4, 6] [5]) cv rc.1 := by
  obtain ⟨f, cv', om', X, D, C, fc, fo, o63, em, h1, h2⟩ := h
  have G0 := X.1.1
  unfold fM_listCells fM_listCells_0 at h2
  rw [opk] at h2
  obtain ⟨q, hq, h2⟩ := bd h2
  have eb := base_sp (RGq_f X.2.1 rfl rfl rfl rfl rfl rfl rfl : RGq b n gr (fp om' 73 0)) hq
  have e0 : ((gr.1 0) + 1).toInt = (b : Int) := by rw [pW (by omega) (by omega)]; omega
  obtain ⟨z1, z2, z3, k, z4, z5, z6⟩ := ls_go X D C f cfFU b ((gr.1 0) + 1) q (fp cv' 0 0) (fp om' 73 0) co rc r e0 eb (Nat.le_refl _) (by omega) ⟨rfl, 0, rfl, by omega, fun c hc => absurd hc (by omega)⟩ (fr_fp fr_rfl rfl) (fr_fp fr_rfl rfl) h1 h2
  refine ⟨⟨z3, ⟨k, z4, by omega, fun c hc => ?_⟩, ?_⟩, fr_tr (fr_tr fr_rfl fo rfl rfl rfl) z2 rfl rfl rfl, fun e => by rw [z2.2.1 63 rfl]; exact o63 e, fr_tr (fr_tr fr_rfl fc rfl rfl rfl) z1 rfl rfl rfl⟩
  · obtain ⟨g, g1, g2, g3, g4, g5, g6, g7⟩ := z6 c hc
    obtain ⟨l, ci, c1, c2, c3, c4, c5, c6, c7⟩ := C g (by omega) g2 g1 g5
    refine ⟨g, l, ci, g1, g2, g3, g4, ?_, ?_, ?_, c2, c3, c4, c5, ?_, CtM_f c7 (z2.2.1 59 rfl) (z2.2.1 58 rfl)⟩
    · rw [z2.2.1 62 rfl]; exact g6
    · rw [z1.2.2 5 rfl]; exact g7
    · rw [z1.2.2 5 rfl]; exact c1
    · rw [z2.2.1 63 rfl]; exact c6
  · rw [z1.1 1 rfl, em, z2.2.1 62 rfl, fo.2.1 62 rfl]
