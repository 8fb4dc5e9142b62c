theorem wnc_go {b n g c : Nat} {l : List Nat} {d : Nat → Int32} {v2 : Int64} {v4 vg : Int32} {gr : cf_O} (G : GW b n gr) (hv : nv v2 = enc l) (f : Fall g l) (bg : b ≤ g) (hg : g < b + n) (h2 : 2 ≤ l.length) (h5 : l.length ≤ 5) (eg : vg.toInt = (g : Int)) (hd : ∀ x : Nat, x ∈ l → b ≤ x → 1 ≤ (d x).toInt ∧ (d x).toInt ≤ v4.toInt) (t3 : v4.toInt ≤ 299) (t0 : 0 ≤ v4.toInt) : ∀ (f1 f2 k : Nat) (v5 vk : Int32) (cv om rcv r : cf_O), v5.toInt = (k : Int) → vk.toInt = (k : Int) → k ≤ l.length → DwR b n false d cv om → ¬ cv.2.1 6 g = -1 → RGq b n gr om → (om.2.1 63 g).toInt = (c : Int) → CtM c (upL l) om → gCv_wantNodes f1 0 v2 v4 v5 cv gr = some rcv → gM_chooseCells f2 3 vg vk om = some r → ∃ (f3 : Nat) (om' : cf_O), WnC b n g false d cv om rcv om' ∧ gM_chooseCells f3 2 (vg + (-1)) 0 om' = some r
  | 0, f2, k, v5, vk, cv, om, rcv, r, e5, ek, kl, D, wg, R, e6, hC, q1, q2 => by cases q1
  | f1 + 1, 0, k, v5, vk, cv, om, rcv, r, e5, ek, kl, D, wg, R, e6, hC, q1, q2 => by cases q2
  | f1 + 1, f2 + 1, k, v5, vk, cv, om, rcv, r, e5, ek, kl, D, wg, R, e6, hC, q1, q2 => by
    have G0 := G.1
    have q1 : fCv_wantNodes_3 (gCv_wantNodes f1) v2 v4 v5 cv gr = some rcv := q1
    have q2 : fM_chooseCells_93 (gM_chooseCells f2) vg vk om = some r := q2
    unfold fM_chooseCells_93 at q2
    have q2 := (ifn q2).2
    have ul : (upL l).length = l.length := up_l
    obtain ⟨c1, c2, c3, c4⟩ := hC
    have hC : CtM c (upL l) om := ⟨c1, c2, c3, c4⟩
    rw [opk, tW eg] at q2
    have q2 := (ifn q2).2
    rw [opk, tW e6] at q2
    have p5 := pW (v := v5) (by omega) (by omega)
    have pk := pW (v := vk) (by omega) (by omega)
    rcases wn_3 G hv f (by omega) (by omega) h5 e5 q1 with ⟨a, er⟩ | ⟨a, x, x1, x2, x3, q1⟩
    · rcases ifc q2 with ⟨_, q2⟩ | ⟨d2, _⟩
      · subst er
        exact ⟨f2, om, ⟨D, fr_rfl, fr_rfl, fun _ _ => rfl, fun _ => rfl⟩, q2⟩
      · exact absurd (Int32.le_iff_toInt_le.mpr (by omega)) d2
    · rcases ifc q2 with ⟨d2, _⟩ | ⟨_, q2⟩
      · have d2 := c_le d2; omega
      have q2 := (ifn q2).2
      rw [opk] at q2
      have o72 : om.2.1 72 g = 1 := by
        rcases D g bg hg with ⟨z, _⟩ | ⟨_, z, _⟩
        · exact absurd z wg
        · exact z
      rw [o72, if_neg (by decide)] at q2
      have q2 := (ifn q2).2
      have ct := CtM_g (t := k) hC (by omega)
      have ex : (om.2.1 58 (5 * c + k)).toInt = (x : Int) := Option.some.inj (ct.symm.trans x1)
      have xl : x ∈ l := up_n.mp (List.mem_of_getElem? x1)
      rw [opk, opk, opk, ix5 e6 ek c1 (by omega)] at q2
      have q2 := (ifn q2).2
      rw [opk] at q2
      have q2 := (ifn q2).2
      rw [opk, tW ex] at q2
      generalize om.2.1 58 (5 * c + k) = w at q2 ex
      have k160 : ∀ s : Int32, vp_nar .boolean s = s → fM_chooseCells_160 (gM_chooseCells f2) vg vk w s om = some r → gM_chooseCells f2 3 vg (vk + 1) (xp om 72 x s) = some r := fun s vs z => by
        unfold fM_chooseCells_160 at z
        have z := (ifn z).2
        rw [opk, opk, tW ex, vs] at z
        exact z
      have fin : ∀ s : Int32, ((b ≤ x ∧ x < b + n) → s = 1) → gM_chooseCells f2 3 vg (vk + 1) (xp om 72 x s) = some r → ∃ (f3 : Nat) (om' : cf_O), WnC b n g false d cv om rcv om' ∧ gM_chooseCells f3 2 (vg + (-1)) 0 om' = some r := fun s es z => by
        have Ro : RGq b n gr (xp om 72 x s) := RGq_f R rfl rfl rfl rfl rfl rfl rfl
        rcases q1 with ⟨ng, q1⟩ | ⟨ig, q1⟩
        · have xb : x < b := by omega
          obtain ⟨f3, om', ⟨W1, W2, W3, W4, W5⟩, W6⟩ := wnc_go G hv f bg hg h2 h5 eg hd t3 t0 f1 f2 (k + 1) (v5 + 1) (vk + 1) cv (xp om 72 x s) rcv r (by omega) (by omega) (by omega) (fun y y1 y2 => by
            show (cv.2.1 6 y = -1 ∧ upd (om.2.1 72) x s y = 0) ∨ (¬ cv.2.1 6 y = -1 ∧ upd (om.2.1 72) x s y = 1 ∧ _ ∧ _ ∧ _)
            rw [up_o (by omega)]; exact D y y1 y2) wg Ro e6 (CtM_f hC rfl rfl) q1 z
          exact ⟨f3, om', ⟨W1, W2, fr_tr (fr_xp fr_rfl rfl) W3 rfl rfl rfl, W4, fun q => (W5 q).trans rfl⟩, W6⟩
        · have dx := hd x xl ig.1
          obtain ⟨f3, om', ⟨W1, W2, W3, W4, W5⟩, W6⟩ := wnc_go G hv f bg hg h2 h5 eg hd t3 t0 f1 f2 (k + 1) (v5 + 1) (vk + 1) (xp cv 6 x (wtV cv x v4)) (xp om 72 x s) rcv r (by omega) (by omega) (by omega) (DwR_w D ig dx.2 dx.1 (by omega) (fun y => by show upd (om.2.1 72) x s y = _; rw [es ig]) (fun q => by cases q)) (by show ¬ upd (cv.2.1 6) x _ g = -1; rw [up_o (by omega)]; exact wg) Ro e6 (CtM_f hC rfl rfl) q1 z
          refine ⟨f3, om', ⟨W1, fr_tr (fr_xp fr_rfl rfl) W2 rfl rfl rfl, fr_tr (fr_xp fr_rfl rfl) W3 rfl rfl rfl, fun y hy => ?_, fun q => (W5 q).trans rfl⟩, W6⟩
          rw [W4 y hy]
          show upd (cv.2.1 6) x _ y = _
          rw [up_o (by omega)]
      rcases ifc q2 with ⟨y, q2⟩ | ⟨y, q2⟩
      · obtain ⟨q, hq, q2⟩ := bd q2
        have eb := base_sp R hq
        rcases ifc q2 with ⟨t, q2⟩ | ⟨t, q2⟩
        · have t := Int32.lt_iff_toInt_lt.mp t
          exact fin 0 (fun ig => by omega) (k160 0 vb_0 q2)
        · exact fin 1 (fun _ => rfl) (k160 1 vb_1 q2)
      · exact fin 1 (fun _ => rfl) (k160 1 vb_1 q2)
def RcQ (b n : Nat) (gr : cf_O) (m : Nat) (cv om : cf_O) : Prop := ∀ x : Nat, m < x → x < b + n → b ≤ x → ¬ cv.2.1 6 x = -1 → ∃ (l : List Nat) (c : Nat), nv (cv.2.2 5 x) = enc l ∧ Fall x l ∧ 2 ≤ l.length ∧ l.length ≤ 5 ∧ CvG b gr (upL l) x ∧ (om.2.1 63 x).toInt = (c : Int) ∧ CtM c (upL l) om
theorem ch_14 {rc : Nat → Int32 → Int32 → cf_O → cf_O → cf_O → cf_O → Option (cf_O × cf_O)} {v4 v5 : Int32} {cv gr cu co : cf_O} {r : cf_O × cf_O} {g : Nat} (e5 : v5.toInt = (g : Int)) (h : fCv_choose_14 rc v4 v5 cv gr cu co = some r) : (v5.toInt ≤ (gr.1 0).toInt ∧ rc 1 0 ((gr.1 0) + 1) (fp cv 0 0) gr cu co = some r) ∨ ((gr.1 0).toInt < v5.toInt ∧ ((cv.2.1 6 g = -1 ∧ rc 0 v4 (v5 + (-1)) cv gr cu co = some r) ∨ (¬ cv.2.1 6 g = -1 ∧ ∃ (v : Int64) (q : cf_O), ((v4 = 0 ∧ fCu_bestOf v5 cu = some v) ∨ (¬ v4 = 0 ∧ fCv_fewest v5 cv gr cu = some v)) ∧ fCv_wantNodes v (cv.2.1 6 g - 1) (yp cv 5 g v) gr = some q ∧ rc 0 v4 (v5 + (-1)) q gr cu co = some r))) := by
  unfold fCv_choose_14 at h
  rcases ifc h with ⟨a, h⟩ | ⟨a, h⟩
  · rw [opk, opk] at h
    exact Or.inl ⟨c_le a, h⟩
  · refine Or.inr ⟨c_nle a, ?_⟩
    have h := (ifn h).2
    rw [opk, tW e5] at h
    rcases ifc h with ⟨c, h⟩ | ⟨c, h⟩
    · exact Or.inl ⟨c, h⟩
    · refine Or.inr ⟨c, ?_⟩
      have k62 : ∀ v : Int64, fCv_choose_62 rc v4 v5 v5 v cv gr cu co = some r → ∃ q : cf_O, fCv_wantNodes v (cv.2.1 6 g - 1) (yp cv 5 g v) gr = some q ∧ rc 0 v4 (v5 + (-1)) q gr cu co = some r := fun v z => by
        unfold fCv_choose_62 at z
        have z := (ifn z).2
        rw [opk, tW e5] at z
        have z := (ifn z).2
        rw [opk] at z
        have z := (ifn z).2
        rw [opk, opk] at z
        obtain ⟨q, hq, z⟩ := bd z
        have ey : (yp cv 5 g v).2.2 5 g = v := up64_s _ _ _
        rw [ey] at hq
        exact ⟨q, hq, z⟩
      rcases ifc h with ⟨d, h⟩ | ⟨d, h⟩
      · obtain ⟨v, hv, h⟩ := bd h
        obtain ⟨q, hq, h⟩ := k62 v h
        exact ⟨v, q, Or.inl ⟨d, hv⟩, hq, h⟩
      · obtain ⟨v, hv, h⟩ := bd h
        obtain ⟨q, hq, h⟩ := k62 v h
        exact ⟨v, q, Or.inr ⟨d, hv⟩, hq, h⟩
def DnE (b n K : Nat) (few : Bool) (gr cu co CV OM : cf_O) (rc : cf_O × cf_O) (r : cf_O) : Prop := ∃ (f : Nat) (cv' om' : cf_O), CxF b n K gr cu om' ∧ DwR b n few (cu.2.1 1) cv' om' ∧ RcQ b n gr (b - 1) cv' om' ∧ Fr (fr_M [] [6] [5]) CV cv' ∧ Fr (fr_M [] [63, 67, 72] []) OM om' ∧ (few = false → om'.2.1 63 = OM.2.1 63) ∧ gCv_choose f 1 0 ((gr.1 0) + 1) (fp cv' 0 0) gr cu co = some rc ∧ fM_listCells om' = some r
theorem dep1 {b n K g : Nat} {gr cu om : cf_O} (X : CxF b n K gr cu om) (bg : b ≤ g) (hg : g < b + n) : 1 ≤ (cu.2.1 1 g).toInt := by
  have G0 := X.1.1
  obtain ⟨acc, w, Y⟩ := cx_row X bg hg
  obtain ⟨_, _, _, fa, _, _, hd, _, ⟨l, l1, l2⟩, _⟩ := Y
  have z := dpl_i (fa l l1).1 (fun k k1 k2 => hd k k1 (by omega)) (by omega) (by omega)
  omega
