theorem enc_inj {l k : List Nat} {g : Nat} (fl : Fall g l) (fk : Fall g k) (hg : g ≤ 256) (e : enc l = enc k) : l = k := by
  have a1 := enc_ln hg fl fk (by omega)
  have a2 := enc_ln hg fk fl (by omega)
  have el : l.length = k.length := by omega
  have b1 := enc_lx hg fl fk el (by omega)
  have b2 := enc_lx hg fk fl el.symm (by omega)
  have z : lxd (upL l) (upL k) = 0 := by
    have z := lxd_n (X := upL l) (Y := upL k) (by rw [up_l, up_l]; exact el)
    omega
  exact up_inj (lxd_z (by rw [up_l, up_l]; exact el) z)
theorem dwc_go {b n K : Nat} {gr cu co CV OM : cf_O} (S : CutS b n K cu OM) (K5 : K ≤ 5) : ∀ (f1 f2 m : Nat) (v5 v1 : Int32) (cv om : cf_O) (rc : cf_O × cf_O) (r : cf_O), v5.toInt = (m : Int) → v1.toInt = (m : Int) → m < b + n → b ≤ m + 1 → CxF b n K gr cu om → DwR b n false (cu.2.1 1) cv om → RcQ b n gr m cv om → Fr (fr_M [] [6] [5]) CV cv → Fr (fr_M [] [63, 67, 72] []) OM om → om.2.1 63 = OM.2.1 63 → gCv_choose f1 0 0 v5 cv gr cu co = some rc → gM_chooseCells f2 2 v1 0 om = some r → DnE b n K false gr cu co CV OM rc r
  | 0, f2, m, v5, v1, cv, om, rc, r, e5, e1, mn, bm, X, D, C, fc, fo, o63, q1, q2 => by cases q1
  | f1 + 1, 0, m, v5, v1, cv, om, rc, r, e5, e1, mn, bm, X, D, C, fc, fo, o63, q1, q2 => by cases q2
  | f1 + 1, f2 + 1, m, v5, v1, cv, om, rc, r, e5, e1, mn, bm, X, D, C, fc, fo, o63, q1, q2 => by
    have X0 := X
    obtain ⟨G, R, _, de, B, cvr, _⟩ := X
    have G0 := G.1
    have q1 : fCv_choose_14 (gCv_choose f1) 0 v5 cv gr cu co = some rc := q1
    have q2 : fM_chooseCells_83 (gM_chooseCells f2) v1 om = some r := q2
    unfold fM_chooseCells_83 at q2
    obtain ⟨q, hq, q2⟩ := bd q2
    have eb := base_sp R hq
    rcases ch_14 e5 q1 with ⟨a, q1⟩ | ⟨a, q1⟩
    · rcases ifc q2 with ⟨_, q2⟩ | ⟨d, _⟩
      · obtain ⟨u, hu, q2⟩ := bd q2
        have eu : u = r := Option.some.inj q2
        rw [eu] at hu
        refine ⟨f1, cv, om, X0, D, fun x h1 h2 h3 h4 => C x (by omega) h2 h3 h4, fc, fo, (fun _ => o63), q1, hu⟩
      · exact absurd (Int32.lt_iff_toInt_lt.mpr (by omega)) d
    · rcases ifc q2 with ⟨d, _⟩ | ⟨_, q2⟩
      · have d := Int32.lt_iff_toInt_lt.mp d; omega
      have bm' : b ≤ m := by omega
      obtain ⟨j, hj⟩ : ∃ j : Nat, m = j + 1 := ⟨m - 1, by omega⟩
      have m5 := m_1g (v := v5) (by omega)
      generalize v5 + (-1) = w5 at q1 m5
      rcases q1 with ⟨c, q1⟩ | ⟨c, v, w, hv, hw, q1⟩
      · have z72 : om.2.1 72 m = 0 := by
          rcases D m bm' mn with ⟨_, z⟩ | ⟨z, _⟩
          · exact z
          · exact absurd c z
        cases f2 with
        | zero => cases q2
        | succ f2 =>
          have q2 : fM_chooseCells_93 (gM_chooseCells f2) v1 0 om = some r := q2
          unfold fM_chooseCells_93 at q2
          have q2 := (ifn q2).2
          rw [opk, tW e1] at q2
          have q2 := (ifn q2).2
          rw [opk] at q2
          have q3 : gM_chooseCells f2 2 (v1 + (-1)) 0 om = some r := by
            rcases ifc q2 with ⟨_, q2⟩ | ⟨_, q2⟩
            · exact q2
            · have q2 := (ifn q2).2
              rw [opk, if_pos z72] at q2
              exact q2
          have m1 := m_1g (v := v1) (by omega)
          generalize v1 + (-1) = w1 at q3 m1
          refine dwc_go S K5 f1 f2 j w5 w1 cv om rc r (by omega) (by omega) (by omega) (by omega) X0 D (fun x h1 h2 h3 h4 => ?_) fc fo o63 q1 q3
          by_cases ex : x = m
          · rw [ex] at h4; exact absurd c h4
          · exact C x (by omega) h2 h3 h4
      · have hv : fCu_bestOf v5 cu = some v := by
          rcases hv with ⟨_, z⟩ | ⟨z, _⟩
          · exact z
          · exact absurd rfl z
        obtain ⟨l, ci, l1, l2, l3, l4, l5, l6, l7, i, l8, l9⟩ := S m v5 v bm' mn e5 hv
        obtain ⟨acc, wp, Y⟩ := cx_row X0 bm' mn
        obtain ⟨y1, y2, y3, y4, y5, y6, y7, y8, _, _, de⟩ := Y
        obtain ⟨_, _, dT, T3, _⟩ : ¬ cv.2.1 6 m = -1 ∧ om.2.1 72 m = 1 ∧ (cu.2.1 1 m).toInt ≤ (cv.2.1 6 m).toInt ∧ (cv.2.1 6 m).toInt ≤ 300 ∧ (false = true → om.2.1 67 m = cv.2.1 6 m) := by
          rcases D m bm' mn with ⟨z, _⟩ | z
          · exact absurd z c
          · exact z
        have d1 := dep1 X0 bm' mn
        rw [← fo.2.1 59 rfl, ← fo.2.1 58 rfl] at l7
        rw [← fo.2.1 57 rfl] at l8
        -- the best cut's depth is the gate's
        have dB : dpC (cu.2.1 1) (upL l) = (cu.2.1 1 m).toInt := by
          unfold fCu_bestOf fCu_bestOf_0 at hv
          obtain ⟨fo1, hfo, hv⟩ := bd hv
          have efo : fo1.toInt = ((wp + 0 : Nat) : Int) := by
            unfold fCu_firstOf fCu_firstOf_0 at hfo
            rcases ifc hfo with ⟨_, z⟩ | ⟨_, hfo⟩
            · cases z
            rw [opk, opk, tW e5] at hfo
            rw [← Option.some.inj hfo, pW (by omega) (by omega)]; omega
          have Q := bo_go (g := m) (w := wp) (acc := acc) (by omega) (by omega) e5 y2.2 y3 y1 y4 y6 (fun k k1 k2 => y7 k k1 (by omega)) cfFU 0 9223372036854775807 fo1 v efo (Nat.zero_le _) (by decide) (Or.inl ⟨rfl, fun l hl => by rw [List.take_zero] at hl; exact absurd hl (List.not_mem_nil)⟩) hv
          have le := enc_lt l2 (by omega)
          have l5' := pw5 (show l.length ≤ 5 by omega)
          rcases Q with ⟨z, _⟩ | ⟨k, k1, k2, k3, _⟩
          · rw [z, show nv (9223372036854775807 : Int64) = 9223372036854775807 from by decide] at l1
            omega
          · have ek : l = k := enc_inj l2 (y4 k k1).1 (by omega) (by rw [← l1, k2])
            rw [ek]; exact k3
        have cs : CvG b gr (upL l) m := by
          have z := cvr m i mn l8
          rw [← l9, l7] at z; exact z
        have e63 : (om.2.1 63 m).toInt = (ci : Int) := by rw [o63]; exact l5
        have hC : CtM ci (upL l) om := by
          have b5 := B.1 ci
          have z := cutL_len (om.2.1 59) (om.2.1 58) ci
          rw [l7] at z
          exact ⟨l6, l7, by omega, by rw [up_l]; omega⟩
        have tI : (cv.2.1 6 m - 1).toInt = (cv.2.1 6 m).toInt - 1 := i_sub' (by omega) (by omega) (by decide) (by decide)
        have hw : gCv_wantNodes cfFU 0 v (cv.2.1 6 m - 1) 0 (yp cv 5 m v) gr = some w := hw
        have Dy : DwR b n false (cu.2.1 1) (yp cv 5 m v) om := D
        obtain ⟨f4, om', ⟨W1, W2, W3, W4, W5⟩, q2⟩ := wnc_go (d := cu.2.1 1) (c := ci) (vg := v1) G l1 l2 bm' mn l3 (by omega) e1 (fun x hx bx => ⟨dep1 X0 bx (by have := Fall_lt l2 hx; omega), by
          have z := dpC_x l2 (fun k k1 k2 => y7 k k1 (by omega)) hx
          omega⟩) (by omega) (by omega) cfFU f2 0 0 0 (yp cv 5 m v) om w r rfl rfl (Nat.zero_le _) Dy c R e63 hC hw q2
        have m1 := m_1g (v := v1) (by omega)
        generalize v1 + (-1) = w1 at q2 m1
        have X' : CxF b n K gr cu om' := CxF_f X0 (W3.1 39 rfl) (W3.1 40 rfl) (W3.1 43 rfl) (W3.2.1 44 rfl) (W3.2.1 45 rfl) (W3.2.1 46 rfl) (W3.2.1 47 rfl) (W3.2.1 57 rfl) (W3.2.1 58 rfl) (W3.2.1 59 rfl) (W3.2.1 62 rfl)
        refine dwc_go S K5 f1 f4 j w5 w1 w om' rc r (by omega) (by omega) (by omega) (by omega) X' W1 (fun x h1 h2 h3 h4 => ?_) (fr_tr (fr_yp fc rfl) W2 rfl rfl rfl) (fr_tr fo W3 rfl rfl rfl) (by rw [W3.2.1 63 rfl]; exact o63) q1 q2
        rw [W2.2.2 5 rfl, W3.2.1 63 rfl]
        show ∃ (l : List Nat) (c : Nat), nv (vp_updL (cv.2.2 5) m v x) = enc l ∧ Fall x l ∧ 2 ≤ l.length ∧ l.length ≤ 5 ∧ CvG b gr (upL l) x ∧ (om.2.1 63 x).toInt = (c : Int) ∧ CtM c (upL l) om'
        by_cases ex : x = m
        · rw [ex, up64_s]
          exact ⟨l, ci, l1, l2, l3, by omega, cs, e63, CtM_f hC (W3.2.1 59 rfl) (W3.2.1 58 rfl)⟩
        · rw [up64_o ex]
          have w6 : w.2.1 6 x = cv.2.1 6 x := W4 x (by omega)
          rw [w6] at h4
          obtain ⟨l', c', z1, z2, z3, z4, z5, z6, z7⟩ := C x (by omega) h2 h3 h4
          exact ⟨l', c', z1, z2, z3, z4, z5, z6, CtM_f z7 (W3.2.1 59 rfl) (W3.2.1 58 rfl)⟩
