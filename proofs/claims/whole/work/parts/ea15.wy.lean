theorem dwf_go {b n K : Nat} {gr cu co CV OM : cf_O} {v4 : Int32} (hv4 : ¬ v4 = 0) : ∀ (f1 f2 m : Nat) (v5 v2 : Int32) (cv om : cf_O) (rc : cf_O × cf_O) (r : cf_O), v5.toInt = (m : Int) → v2.toInt = (m : Int) → m < b + n → b ≤ m + 1 → CxF b n K gr cu om → DwR b n true (cu.2.1 1) cv om → RcQ b n gr m cv om → Fr (fr_M [] [6] [5]) CV cv → Fr (fr_M [] [63, 67, 72] []) OM om → gCv_choose f1 0 v4 v5 cv gr cu co = some rc → gM_chooseFew f2 3 0 v2 0 0 om = some r → DnE b n K true gr cu co CV OM rc r
  | 0, f2, m, v5, v2, cv, om, rc, r, e5, e2, mn, bm, X, D, C, fc, fo, q1, q2 => by cases q1
  | f1 + 1, 0, m, v5, v2, cv, om, rc, r, e5, e2, mn, bm, X, D, C, fc, fo, q1, q2 => by cases q2
  | f1 + 1, f2 + 1, m, v5, v2, cv, om, rc, r, e5, e2, mn, bm, X, D, C, fc, fo, q1, q2 => by
    have X0 := X
    obtain ⟨G, R, _, de, B, cvr, _⟩ := X
    have G0 := G.1
    have q1 : fCv_choose_14 (gCv_choose f1) v4 v5 cv gr cu co = some rc := q1
    have q2 : fM_chooseFew_150 (gM_chooseFew f2) v2 om = some r := q2
    unfold fM_chooseFew_150 at q2
    obtain ⟨q, hq, q2⟩ := bd q2
    have eb := base_sp R hq
    rcases ch_14 e5 q1 with ⟨a, q1⟩ | ⟨a, q1⟩
    · rcases ifc q2 with ⟨_, q2⟩ | ⟨d, _⟩
      · obtain ⟨u, hu, q2⟩ := bd q2
        have eu : u = r := Option.some.inj q2
        rw [eu] at hu
        refine ⟨f1, cv, om, X0, D, fun x h1 h2 h3 h4 => C x (by omega) h2 h3 h4, fc, fo, (fun z => by cases z), q1, hu⟩
      · exact absurd (Int32.lt_iff_toInt_lt.mpr (by omega)) d
    · rcases ifc q2 with ⟨d, _⟩ | ⟨_, q2⟩
      · have d := Int32.lt_iff_toInt_lt.mp d; omega
      have bm' : b ≤ m := by omega
      obtain ⟨j, hj⟩ : ∃ j : Nat, m = j + 1 := ⟨m - 1, by omega⟩
      have m5 := m_1g (v := v5) (by omega)
      generalize v5 + (-1) = w5 at q1 m5
      have q2 := (ifn q2).2
      rw [opk, tW e2] at q2
      rcases q1 with ⟨c, q1⟩ | ⟨c, v, w, hv, hw, q1⟩
      · rcases ifc q2 with ⟨_, q2⟩ | ⟨y, _⟩
        · have q2 : gM_chooseFew f2 3 0 (v2 + (-1)) 0 0 om = some r := q2
          have m2 := m_1g (v := v2) (by omega)
          generalize v2 + (-1) = w2 at q2 m2
          refine dwf_go hv4 f1 f2 j w5 w2 cv om rc r (by omega) (by omega) (by omega) (by omega) X0 D (fun x h1 h2 h3 h4 => ?_) fc fo q1 q2
          by_cases ex : x = m
          · rw [ex] at h4; exact absurd c h4
          · exact C x (by omega) h2 h3 h4
        · rcases D m bm' mn with ⟨_, z⟩ | ⟨z, _⟩
          · exact absurd z y
          · exact absurd c z
      · rcases ifc q2 with ⟨y, _⟩ | ⟨_, q2⟩
        · rcases D m bm' mn with ⟨z, _⟩ | ⟨_, z, _⟩
          · exact absurd z c
          · rw [z] at y; exact absurd y (by decide)
        rw [opk] at q2
        have hv : fCv_fewest v5 cv gr cu = some v := by
          rcases hv with ⟨z, _⟩ | ⟨_, z⟩
          · exact absurd z hv4
          · exact z
        obtain ⟨acc, wp, Y⟩ := cx_row X0 bm' mn
        have Y0 := Y
        obtain ⟨y1, y2, y3, y4, y5, y6, y7, y8, _, _, _⟩ := Y
        obtain ⟨_, _, dT, T3, ft⟩ : ¬ cv.2.1 6 m = -1 ∧ om.2.1 72 m = 1 ∧ (cu.2.1 1 m).toInt ≤ (cv.2.1 6 m).toInt ∧ (cv.2.1 6 m).toInt ≤ 300 ∧ (true = true → om.2.1 67 m = cv.2.1 6 m) := by
          rcases D m bm' mn with ⟨z, _⟩ | z
          · exact absurd z c
          · exact z
        have ft := ft rfl
        have d1 := dep1 X0 bm' mn
        -- the class's search
        unfold fCv_fewest fCv_fewest_0 at hv
        obtain ⟨fo1, hfo, hv⟩ := bd hv
        have efo : fo1.toInt = ((wp + 0 : Nat) : Int) := by
          unfold fCu_firstOf fCu_firstOf_0 at hfo
          rcases ifc hfo with ⟨_, z⟩ | ⟨_, hfo⟩
          · cases z
          rw [opk, opk, tW e5] at hfo
          rw [← Option.some.inj hfo, pW (by omega) (by omega)]; omega
        obtain ⟨w2, FW⟩ := fw_go (b := b) (n := n) (g := m) G (by omega) (by omega) e5 y2.2 y3 y1 y4 y6 (fun k k1 k2 => y7 k k1 (by omega)) cfFU 0 9223372036854775807 209 fo1 v efo (Nat.zero_le _) (by decide) (Or.inl ⟨rfl, rfl, fun l hl => by rw [List.take_zero] at hl; exact absurd hl (List.not_mem_nil)⟩) hv
        -- the reference's
        have hrow : ∀ i : Nat, (i : Int) < (om.2.1 57 m).toInt → ∀ z ∈ cutL (om.2.1 59) (om.2.1 58) (301 * m + i), 1 ≤ z ∧ z < (m : Int) := fun i hi z hz => by
          obtain ⟨l, l1, l2⟩ := List.mem_map.mp ((y8 _).mpr ⟨i, hi, rfl⟩)
          rw [← l2] at hz
          obtain ⟨x, x1, x2⟩ := up_m.mp hz
          have := Fall_lt (y4 l l1).1 x1
          omega
        have m3 : (301 * v2).toInt = ((301 * m + 0 : Nat) : Int) := by rw [Int32.toInt_mul, e2, show (301 : Int32).toInt = 301 from rfl, i_bm (by omega) (by omega)]; omega
        have bc := B.2.2.2 m
        obtain ⟨f3, va, FQ, q2⟩ := frw_go X0 (DwR_c D) bm' mn e2 hrow f2 0 (-1) (301 * v2) r m3 (by omega) (Or.inl ⟨rfl, fun i hi => absurd hi (by omega)⟩) q2
        have nva : ¬ va = -1 := fun z => by
          cases f3 with
          | zero => cases q2
          | succ f3 =>
            have q2 : fM_chooseFew_260 (gM_chooseFew f3) v2 va 0 (xp om 63 m va) = some r := q2
            unfold fM_chooseFew_260 at q2
            have y := (ifn q2).1
            rw [z] at y
            exact y (Or.inl (by decide))
        rw [ft] at FQ
        obtain ⟨l, i, l1, l2, l3, l4, l5, l6⟩ := sel_same Y0 (by omega) FW FQ nva
        obtain ⟨fl, f2', f5⟩ := y4 l l1
        have cs : CvG b gr (upL l) m := by rw [← l5]; exact cvr m i mn l3
        have hC : CtM (301 * m + i) (upL l) (xp om 63 m va) := by
          have b5 := B.1 (301 * m + i)
          have z := cutL_len (om.2.1 59) (om.2.1 58) (301 * m + i)
          rw [l5] at z
          exact ⟨by omega, l5, by show (om.2.1 59 (301 * m + i)).toInt = _; omega, by rw [up_l]; exact f5⟩
        have tI : (cv.2.1 6 m - 1).toInt = (cv.2.1 6 m).toInt - 1 := i_sub' (by omega) (by omega) (by decide) (by decide)
        have hw : gCv_wantNodes cfFU 0 v (cv.2.1 6 m - 1) 0 (yp cv 5 m v) gr = some w := hw
        have Dy : DwR b n true (cu.2.1 1) (yp cv 5 m v) (xp om 63 m va) := D
        obtain ⟨f4, om', ⟨W1, W2, W3, W4, W5⟩, q2⟩ := wnf_go (d := cu.2.1 1) (c := 301 * m + i) (vg := v2) (va := va) G l2 fl mn f2' f5 e2 l4 (fun x hx bx => ⟨dep1 X0 bx (by have := Fall_lt fl hx; omega), by
          have z := dpC_x fl (fun k k1 k2 => y7 k k1 (by omega)) hx
          omega⟩) (by omega) (by omega) cfFU f3 0 0 0 (yp cv 5 m v) (xp om 63 m va) w r rfl rfl (Nat.zero_le _) Dy (RGq_f R rfl rfl rfl rfl rfl rfl rfl) hC (by show om.2.1 67 m - 1 = _; rw [ft]) hw q2
        have m2 := m_1g (v := v2) (by omega)
        generalize v2 + (-1) = w2' at q2 m2
        have X' : CxF b n K gr cu om' := CxF_f X0 (W3.1 39 rfl) (W3.1 40 rfl) (W3.1 43 rfl) (W3.2.1 44 rfl) (W3.2.1 45 rfl) (W3.2.1 46 rfl) (W3.2.1 47 rfl) (W3.2.1 57 rfl) (W3.2.1 58 rfl) (W3.2.1 59 rfl) (W3.2.1 62 rfl)
        refine dwf_go hv4 f1 f4 j w5 w2' w om' rc r (by omega) (by omega) (by omega) (by omega) X' W1 (fun x h1 h2 h3 h4 => ?_) (fr_tr (fr_yp fc rfl) W2 rfl rfl rfl) (fr_tr (fr_xp fo rfl) W3 rfl rfl rfl) q1 q2
        rw [W2.2.2 5 rfl, W3.2.1 63 rfl]
        show ∃ (l : List Nat) (c : Nat), nv (vp_updL (cv.2.2 5) m v x) = enc l ∧ Fall x l ∧ 2 ≤ l.length ∧ l.length ≤ 5 ∧ CvG b gr (upL l) x ∧ (upd (om.2.1 63) m va x).toInt = (c : Int) ∧ CtM c (upL l) om'
        by_cases ex : x = m
        · rw [ex, up64_s, up_s]
          exact ⟨l, 301 * m + i, l2, fl, f2', f5, cs, l4, CtM_f hC (W3.2.1 59 rfl) (W3.2.1 58 rfl)⟩
        · rw [up64_o ex, up_o ex]
          have w6 : w.2.1 6 x = cv.2.1 6 x := W4 x (by omega)
          rw [w6] at h4
          obtain ⟨l', c', z1, z2, z3, z4, z5, z6, z7⟩ := C x (by omega) h2 h3 h4
          exact ⟨l', c', z1, z2, z3, z4, z5, z6, CtM_f z7 (W3.2.1 59 rfl) (W3.2.1 58 rfl)⟩
