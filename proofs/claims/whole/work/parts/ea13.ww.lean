def CxR (b n g : Nat) (gr cu om : cf_O) (acc : List (List Nat)) (w : Nat) : Prop := RowE cu w acc ∧ (1 ≤ w ∧ w ≤ 65000) ∧ acc.length ≤ 300 ∧ (∀ l ∈ acc, Fall g l ∧ 2 ≤ l.length ∧ l.length ≤ 5) ∧ (cu.2.1 2 g).toInt + 1 = (w : Int) ∧ (cu.2.1 2 (g + 1)).toInt = ((w + acc.length : Nat) : Int) ∧ (∀ k : Nat, 1 ≤ k → k < b + n → 0 ≤ (cu.2.1 1 k).toInt ∧ (cu.2.1 1 k).toInt ≤ (k : Int)) ∧ (∀ C : List Int, C ∈ acc.map upL ↔ ∃ i : Nat, (i : Int) < (om.2.1 57 g).toInt ∧ C = cutL (om.2.1 59) (om.2.1 58) (301 * g + i)) ∧ (∃ l ∈ acc, (cu.2.1 1 g).toInt = dpC (cu.2.1 1) (upL l)) ∧ (∀ l ∈ acc, (cu.2.1 1 g).toInt ≤ dpC (cu.2.1 1) (upL l)) ∧ ∀ l ∈ acc, dpC (cu.2.1 1) (upL l) = dpC (om.2.1 62) (upL l)
theorem cx_row {b n K g : Nat} {gr cu om : cf_O} (X : CxF b n K gr cu om) (bg : b ≤ g) (hg : g < b + n) : ∃ (acc : List (List Nat)) (w : Nat), CxR b n g gr cu om acc w := by
  obtain ⟨G, R, ⟨RR, rows, C, er⟩, de, B, _⟩ := X
  have G0 := G.1
  obtain ⟨C1, C2, C3, C4, C5, C6, C7, C8, C9, C10⟩ := C
  obtain ⟨a1, a2, a3, a4, a5, a6, a7⟩ := C1 g (by omega) hg
  have RE : RowE cu ((cu.2.1 2 g).toInt.toNat + 1) (RR g) := fun k l hk => by
    have z := a1 (k + 1) l hk
    rw [show (cu.2.1 2 g).toInt.toNat + (k + 1) = (cu.2.1 2 g).toInt.toNat + 1 + k by omega] at z
    exact z
  obtain ⟨⟨Y, y1, y2⟩, y3⟩ := C10.2 g bg hg
  refine ⟨RR g, (cu.2.1 2 g).toInt.toNat + 1, RE, by omega, a7, a5, by omega, by omega, C9, fun Z => ?_, ?_, fun l hl => ?_, fun l hl => ?_⟩
  · rw [C8 g (by omega) hg Z, er, rows_d hg, row_m]
  · obtain ⟨k, k1, k2⟩ := List.mem_map.mp ((C8 g (by omega) hg Y).mpr y1)
    exact ⟨k, k1, by rw [k2]; exact y2⟩
  · exact y3 _ ((C8 g (by omega) hg _).mp (List.mem_map.mpr ⟨l, hl, rfl⟩))
  · refine dpC_e (fun x hx => ?_)
    obtain ⟨a, h1, h2⟩ := up_m.mp hx
    have := Fall_lt (a5 l hl).1 h1
    rw [← h2]
    exact (de a (by omega) (by omega)).symm
theorem dpC_x {d : Nat → Int32} {g : Nat} {l : List Nat} {x : Nat} (hf : Fall g l) (hd : ∀ k : Nat, 1 ≤ k → k < g → 0 ≤ (d k).toInt ∧ (d k).toInt ≤ (k : Int)) (hx : x ∈ l) : (d x).toInt + 1 ≤ dpC d (upL l) := by
  have key : ∀ (L : List Int) (v : Int32) (y : Int), y ∈ L → (d y.toNat).toInt ≤ (dpI d v L).toInt := by
    intro L
    induction L with
    | nil => intro v y h; exact absurd h (List.not_mem_nil)
    | cons a L ih =>
      intro v y h
      have mono : ∀ (L : List Int) (v : Int32), v.toInt ≤ (dpI d v L).toInt := by
        intro L
        induction L with
        | nil => intro v; exact Int.le_refl _
        | cons a L ih2 =>
          intro v
          rw [dpI_c]
          have z := ih2 (op_mx v (d a.toNat))
          rw [mx_i] at z; omega
      rw [dpI_c]
      rcases List.mem_cons.mp h with e | e
      · have z := mono L (op_mx v (d a.toNat))
        rw [mx_i] at z
        rw [e]; omega
      · exact ih _ y e
  have z := key (upL l) 0 (x : Int) (up_n.mpr hx)
  unfold dpC
  have z : (d x).toInt ≤ (dpI d 0 (upL l)).toInt := z
  omega
theorem sel_same {b n g : Nat} {gr cu cv om : cf_O} {acc : List (List Nat)} {w : Nat} {v : Int64} {w2 va : Int32} {T : Int} (X : CxR b n g gr cu om acc w) (hg : g < 209) (F : FwQ (unF b n cv) (cu.2.1 1) T acc w2 v) (Q : FrQ (unI b n cv) om T g (om.2.1 57 g).toInt.toNat va) (ha : ¬ va = -1) : ∃ (l : List Nat) (j : Nat), l ∈ acc ∧ nv v = enc l ∧ (j : Int) < (om.2.1 57 g).toInt ∧ va.toInt = ((301 * g + j : Nat) : Int) ∧ cutL (om.2.1 59) (om.2.1 58) (301 * g + j) = upL l ∧ dpC (cu.2.1 1) (upL l) ≤ T := by
  obtain ⟨_, _, _, fa, _, _, _, ms, _, _, de⟩ := X
  rcases Q with ⟨q, _⟩ | ⟨j, j1, j2, j3, j4⟩
  · exact absurd q ha
  have jl : (j : Int) < (om.2.1 57 g).toInt := by omega
  obtain ⟨k, k1, k2⟩ := List.mem_map.mp ((ms _).mpr ⟨j, jl, rfl⟩)
  have dk : dpC (cu.2.1 1) (upL k) ≤ T := by rw [de k k1, k2]; exact j3
  rcases F with ⟨_, _, f⟩ | ⟨l, l1, l2, l3, l4, l5⟩
  · exact absurd dk (f k k1)
  obtain ⟨i, i1, i2⟩ := (ms (upL l)).mp (List.mem_map.mpr ⟨l, l1, rfl⟩)
  have nF : ¬ Fwr (unI b n cv) (upL l) (upL k) := by
    have z := j4 i (by omega) (by rw [← i2, ← de l l1]; exact l4)
    rw [← i2, ← k2] at z; exact z
  have lk : l = k := by
    unfold Fwr at nF
    rw [cnt_u, cnt_u, up_l, up_l] at nF
    have f1 := (fa l l1).1
    have f2 := (fa k k1).1
    rcases l5 k k1 dk with z | ⟨z1, z2⟩
    · exact absurd (Or.inl z) nF
    · have ln := enc_ln (by omega) f1 f2 z2
      have el : l.length = k.length := by
        rcases Nat.lt_or_ge l.length k.length with q | q
        · exact absurd (Or.inr ⟨z1, Or.inl q⟩) nF
        · omega
      have lx := enc_lx (g := g) (by omega) f1 f2 el z2
      rcases Int.lt_or_le (lxd (upL l) (upL k)) 0 with q | q
      · exact absurd (Or.inr ⟨z1, Or.inr ⟨el, q⟩⟩) nF
      · exact up_inj (lxd_z (by rw [up_l, up_l]; exact el) (by omega))
  exact ⟨l, j, l1, l2, jl, j2, by rw [lk]; exact k2.symm, l4⟩
def DwR (b n : Nat) (few : Bool) (d : Nat → Int32) (cv om : cf_O) : Prop := ∀ x : Nat, b ≤ x → x < b + n → (cv.2.1 6 x = -1 ∧ om.2.1 72 x = 0) ∨ (¬ cv.2.1 6 x = -1 ∧ om.2.1 72 x = 1 ∧ (d x).toInt ≤ (cv.2.1 6 x).toInt ∧ (cv.2.1 6 x).toInt ≤ 300 ∧ (few = true → om.2.1 67 x = cv.2.1 6 x))
theorem DwR_c {b n : Nat} {few : Bool} {d : Nat → Int32} {cv om : cf_O} (h : DwR b n few d cv om) : CwR b n cv om := fun x x1 x2 => (h x x1 x2).imp id (fun z => ⟨z.1, z.2.1⟩)
theorem ndat_sp {v : Int64} {l : List Nat} {g k : Nat} {v2 r : Int32} (hv : nv v = enc l) (f : Fall g l) (hg : g ≤ 209) (hk : k < l.length) (h5 : l.length ≤ 5) (e2 : v2.toInt = (k : Int)) (h : fCu_nodeAt v v2 = some r) : ∃ x : Nat, (upL l)[k]? = some (x : Int) ∧ x < g ∧ 1 ≤ x ∧ r.toInt = (x : Int) := by
  unfold fCu_nodeAt fCu_nodeAt_0 at h
  obtain ⟨s, hs, h⟩ := bd h
  have es := sizeOf_sp (s := l.length) (by omega) h5 (by rw [hv]; exact enc_ge f (fun z => by rw [z] at hk; exact absurd hk (by show ¬ k < 0; omega))) (by rw [hv]; exact enc_lt f (by omega)) hs
  rw [opk, opk, opk, opk, opk, opk] at h
  have w1 : (s - 1).toInt = s.toInt - 1 := i_sub' (by omega) (by omega) (by decide) (by decide)
  have w2 : (s - 1 - v2).toInt = s.toInt - 1 - v2.toInt := by rw [i_sub' (by omega) (by omega) (by omega) (by omega), w1]
  have w3 : (8 * (s - 1 - v2)).toInt = 8 * ((l.length - 1 - k : Nat) : Int) := by
    rw [Int32.toInt_mul, w2, show (8 : Int32).toInt = 8 from rfl, i_bm (by omega) (by omega)]; omega
  obtain ⟨x, x1, x2, x3, ex⟩ := node_q (k := k) hv f hg hk h5 w3
  rw [← Option.some.inj h]
  exact ⟨x, x1, x2, x3, ex⟩
def wtV (cv : cf_O) (x : Nat) (t : Int32) : Int32 := if cv.2.1 6 x = -1 then t else op_mn (cv.2.1 6 x) t
theorem wn_3 {rc : Nat → Int64 → Int32 → Int32 → cf_O → cf_O → Option cf_O} {b n g k : Nat} {l : List Nat} {v2 : Int64} {v4 v5 : Int32} {cv gr r : cf_O} (G : GW b n gr) (hv : nv v2 = enc l) (f : Fall g l) (hg : g ≤ 209) (h1 : 1 ≤ l.length) (h5 : l.length ≤ 5) (e5 : v5.toInt = (k : Int)) (h : fCv_wantNodes_3 rc v2 v4 v5 cv gr = some r) : (l.length ≤ k ∧ r = cv) ∨ (k < l.length ∧ ∃ x : Nat, (upL l)[k]? = some (x : Int) ∧ x < g ∧ 1 ≤ x ∧ ((¬ (b ≤ x ∧ x < b + n) ∧ rc 0 v2 v4 (v5 + 1) cv gr = some r) ∨ ((b ≤ x ∧ x < b + n) ∧ rc 0 v2 v4 (v5 + 1) (xp cv 6 x (wtV cv x v4)) gr = some r))) := by
  unfold fCv_wantNodes_3 at h
  obtain ⟨s, hs, h⟩ := bd h
  have es := sizeOf_sp (s := l.length) h1 h5 (by rw [hv]; exact enc_ge f (fun z => by rw [z] at h1; exact absurd h1 (by decide))) (by rw [hv]; exact enc_lt f (by omega)) hs
  rcases ifc h with ⟨a, h⟩ | ⟨a, h⟩
  · have a := c_le a
    exact Or.inl ⟨by omega, (Option.some.inj h).symm⟩
  · have a := c_nle a
    refine Or.inr ⟨by omega, ?_⟩
    obtain ⟨q, hq, h⟩ := bd h
    obtain ⟨x, x1, x2, x3, ex⟩ := ndat_sp hv f hg (by omega) h5 e5 hq
    refine ⟨x, x1, x2, x3, ?_⟩
    obtain ⟨y, hy, h⟩ := bd h
    have yg := isGate_sp G hy
    rcases ifc h with ⟨c, h⟩ | ⟨c, h⟩
    · have ng := Yn_0 yg c
      exact Or.inl ⟨fun z => ng (by omega), h⟩
    · have ig := Yn_1 yg c
      refine Or.inr ⟨by omega, ?_⟩
      have h := (ifn h).2
      rw [opk, tW ex] at h
      have k63 : ∀ s : Int32, fCv_wantNodes_63 rc v2 v4 v5 q s cv gr = some r → rc 0 v2 v4 (v5 + 1) (xp cv 6 x s) gr = some r := fun s z => by
        unfold fCv_wantNodes_63 at z
        have z := (ifn z).2
        rw [opk, tW ex] at z
        exact z
      unfold wtV
      rcases ifc h with ⟨d, h⟩ | ⟨d, h⟩
      · rw [if_pos d]; exact k63 _ h
      · rw [if_neg d]
        have h := (ifn h).2
        rw [opk, opk] at h
        exact k63 _ h
theorem DwR_w {b n x : Nat} {few : Bool} {d : Nat → Int32} {cv om : cf_O} {t : Int32} {om' : cf_O} (h : DwR b n few d cv om) (hx : b ≤ x ∧ x < b + n) (dt : (d x).toInt ≤ t.toInt) (d1 : 1 ≤ (d x).toInt) (t3 : t.toInt ≤ 300) (o72 : ∀ y : Nat, om'.2.1 72 y = upd (om.2.1 72) x 1 y) (o67 : few = true → ∀ y : Nat, om'.2.1 67 y = upd (om.2.1 67) x (wtV cv x t) y) : DwR b n few d (xp cv 6 x (wtV cv x t)) om' := fun y y1 y2 => by
  show (upd (cv.2.1 6) x (wtV cv x t) y = -1 ∧ om'.2.1 72 y = 0) ∨ (¬ upd (cv.2.1 6) x (wtV cv x t) y = -1 ∧ om'.2.1 72 y = 1 ∧ (d y).toInt ≤ (upd (cv.2.1 6) x (wtV cv x t) y).toInt ∧ (upd (cv.2.1 6) x (wtV cv x t) y).toInt ≤ 300 ∧ (few = true → om'.2.1 67 y = upd (cv.2.1 6) x (wtV cv x t) y))
  rw [o72]
  by_cases e : y = x
  · subst e
    rw [up_s, up_s]
    have wv : (d y).toInt ≤ (wtV cv y t).toInt ∧ (wtV cv y t).toInt ≤ 300 := by
      unfold wtV
      rcases h y y1 y2 with ⟨z, _⟩ | ⟨z, _, z3, z4, _⟩
      · rw [if_pos z]; exact ⟨dt, t3⟩
      · rw [if_neg z, mn_i]; omega
    refine Or.inr ⟨fun z => ?_, rfl, wv.1, wv.2, fun fw => by rw [o67 fw, up_s]⟩
    rw [z] at wv
    have : (-1 : Int32).toInt = -1 := by decide
    omega
  · rw [up_o e, up_o e]
    rcases h y y1 y2 with z | ⟨z1, z2, z3, z4, z5⟩
    · exact Or.inl z
    · exact Or.inr ⟨z1, z2, z3, z4, fun fw => by rw [o67 fw, up_o e]; exact z5 fw⟩
def WnC (b n g : Nat) (few : Bool) (d : Nat → Int32) (cv om cv' om' : cf_O) : Prop := DwR b n few d cv' om' ∧ Fr (fr_M [] [6] []) cv cv' ∧ Fr (fr_M [] [67, 72] []) om om' ∧ (∀ y : Nat, g ≤ y → cv'.2.1 6 y = cv.2.1 6 y) ∧ (few = false → om'.2.1 67 = om.2.1 67)
theorem wnf_go {b n g c : Nat} {l : List Nat} {d : Nat → Int32} {v2 : Int64} {v4 vg va : Int32} {gr : cf_O} (G : GW b n gr) (hv : nv v2 = enc l) (f : Fall g l) (hg : g < b + n) (h2 : 2 ≤ l.length) (h5 : l.length ≤ 5) (eg : vg.toInt = (g : Int)) (ea : va.toInt = (c : Int)) (hd : ∀ x : Nat, x ∈ l → b ≤ x → 1 ≤ (d x).toInt ∧ (d x).toInt ≤ v4.toInt) (t3 : v4.toInt ≤ 299) (t0 : 0 ≤ v4.toInt) : ∀ (f1 f2 k : Nat) (v5 vk : Int32) (cv om rcv r : cf_O), v5.toInt = (k : Int) → vk.toInt = (k : Int) → k ≤ l.length → DwR b n true d cv om → RGq b n gr om → CtM c (upL l) om → om.2.1 67 g - 1 = v4 → gCv_wantNodes f1 0 v2 v4 v5 cv gr = some rcv → gM_chooseFew f2 5 0 vg va vk om = some r → ∃ (f3 : Nat) (om' : cf_O), WnC b n g true d cv om rcv om' ∧ gM_chooseFew f3 3 0 (vg + (-1)) 0 0 om' = some r
  | 0, f2, k, v5, vk, cv, om, rcv, r, e5, ek, kl, D, R, hC, et, q1, q2 => by cases q1
  | f1 + 1, 0, k, v5, vk, cv, om, rcv, r, e5, ek, kl, D, R, hC, et, q1, q2 => by cases q2
  | f1 + 1, f2 + 1, k, v5, vk, cv, om, rcv, r, e5, ek, kl, D, R, hC, et, q1, q2 => by
    have G0 := G.1
    have q1 : fCv_wantNodes_3 (gCv_wantNodes f1) v2 v4 v5 cv gr = some rcv := q1
    have q2 : fM_chooseFew_260 (gM_chooseFew f2) vg va vk om = some r := q2
    unfold fM_chooseFew_260 at q2
    have q2 := (ifn q2).2
    have ul : (upL l).length = l.length := up_l
    obtain ⟨c1, c2, c3, c4⟩ := hC
    have hC : CtM c (upL l) om := ⟨c1, c2, c3, c4⟩
    rw [opk, tW ea] at q2
    have p5 := pW (v := v5) (by omega) (by omega)
    have pk := pW (v := vk) (by omega) (by omega)
    rcases wn_3 G hv f (by omega) (by omega) h5 e5 q1 with ⟨a, er⟩ | ⟨a, x, x1, x2, x3, q1⟩
    · rcases ifc q2 with ⟨_, q2⟩ | ⟨d2, _⟩
      · subst er
        exact ⟨f2, om, ⟨D, fr_rfl, fr_rfl, fun _ _ => rfl, fun _ => rfl⟩, q2⟩
      · exact absurd (Int32.le_iff_toInt_le.mpr (by omega)) d2
    · rcases ifc q2 with ⟨d2, _⟩ | ⟨_, q2⟩
      · have d2 := c_le d2; omega
      have ct := CtM_g (t := k) hC (by omega)
      have ex : (om.2.1 58 (5 * c + k)).toInt = (x : Int) := Option.some.inj (ct.symm.trans x1)
      have xl : x ∈ l := up_n.mp (List.mem_of_getElem? x1)
      rw [opk, opk, ix5 ea ek c1 (by omega)] at q2
      have q2 := (ifn q2).2
      rw [opk] at q2
      have q2 := (ifn q2).2
      rw [opk, tW ex] at q2
      generalize om.2.1 58 (5 * c + k) = w at q2 ex
      -- behind the time: the mark
      have k336 : ∀ s : Int32, fM_chooseFew_336 (gM_chooseFew f2) vg va vk w w s om = some r → ∃ om' : cf_O, gM_chooseFew f2 5 0 vg va (vk + 1) om' = some r ∧ Fr (fr_M [] [67, 72] []) om om' ∧ (∀ y : Nat, om'.2.1 67 y = upd (om.2.1 67) x s y) ∧ (b ≤ x → ∀ y : Nat, om'.2.1 72 y = upd (om.2.1 72) x 1 y) ∧ (x < b → ∀ y : Nat, ¬ y = x → om'.2.1 72 y = om.2.1 72 y) := fun s z => by
        unfold fM_chooseFew_336 at z
        have z := (ifn z).2
        rw [opk, tW ex] at z
        have z := (ifn z).2
        rw [opk] at z
        have k367 : ∀ s2 : Int32, vp_nar .boolean s2 = s2 → fM_chooseFew_367 (gM_chooseFew f2) vg va vk w s2 (xp om 67 x s) = some r → gM_chooseFew f2 5 0 vg va (vk + 1) (xp (xp om 67 x s) 72 x s2) = some r := fun s2 vs y => by
          unfold fM_chooseFew_367 at y
          have y := (ifn y).2
          rw [opk, opk, tW ex, vs] at y
          exact y
        have one : fM_chooseFew_362 (gM_chooseFew f2) vg va vk w (xp om 67 x s) = some r → ∃ om' : cf_O, gM_chooseFew f2 5 0 vg va (vk + 1) om' = some r ∧ Fr (fr_M [] [67, 72] []) om om' ∧ (∀ y : Nat, om'.2.1 67 y = upd (om.2.1 67) x s y) ∧ (b ≤ x → ∀ y : Nat, om'.2.1 72 y = upd (om.2.1 72) x 1 y) ∧ (x < b → ∀ y : Nat, ¬ y = x → om'.2.1 72 y = om.2.1 72 y) := fun y => ⟨xp (xp om 67 x s) 72 x 1, k367 1 vb_1 y, fr_xp (fr_xp fr_rfl rfl) rfl, fun _ => rfl, fun _ _ => rfl, fun _ t ht => by show upd (om.2.1 72) x 1 t = _; rw [up_o ht]⟩
        rcases ifc z with ⟨y, z⟩ | ⟨y, z⟩
        · obtain ⟨q, hq, z⟩ := bd z
          have eb := base_sp (RGq_f R rfl rfl rfl rfl rfl rfl rfl : RGq b n gr (xp om 67 x s)) hq
          rcases ifc z with ⟨t, z⟩ | ⟨t, z⟩
          · have t := Int32.lt_iff_toInt_lt.mp t
            exact ⟨xp (xp om 67 x s) 72 x 0, k367 0 vb_0 z, fr_xp (fr_xp fr_rfl rfl) rfl, fun _ => rfl, fun h => by omega, fun _ t ht => by show upd (om.2.1 72) x 0 t = _; rw [up_o ht]⟩
          · exact one z
        · exact one z
      have fin : ∀ s : Int32, ((b ≤ x ∧ x < b + n) → s = wtV cv x v4) → fM_chooseFew_336 (gM_chooseFew f2) vg va vk w w s om = some r → ∃ (f3 : Nat) (om' : cf_O), WnC b n g true d cv om rcv om' ∧ gM_chooseFew f3 3 0 (vg + (-1)) 0 0 om' = some r := fun s es z => by
        obtain ⟨o1, z, fo, h67, h72, h72b⟩ := k336 s z
        have Ro : RGq b n gr o1 := RGq_f R (fo.1 39 rfl) (fo.1 40 rfl) (fo.1 43 rfl) (fo.2.1 44 rfl) (fo.2.1 45 rfl) (fo.2.1 46 rfl) (fo.2.1 47 rfl)
        have et' : o1.2.1 67 g - 1 = v4 := by rw [h67 g, up_o (by omega)]; exact et
        rcases q1 with ⟨ng, q1⟩ | ⟨ig, q1⟩
        · have xb : x < b := by omega
          obtain ⟨f3, om', ⟨W1, W2, W3, W4, W5⟩, W6⟩ := wnf_go G hv f hg h2 h5 eg ea hd t3 t0 f1 f2 (k + 1) (v5 + 1) (vk + 1) cv o1 rcv r (by omega) (by omega) (by omega) (fun y y1 y2 => by
            rw [h72b xb y (by omega), h67 y, up_o (by omega)]; exact D y y1 y2) Ro (CtM_f hC (fo.2.1 59 rfl) (fo.2.1 58 rfl)) et' q1 z
          exact ⟨f3, om', ⟨W1, W2, fr_tr fo W3 rfl rfl rfl, W4, fun q => by cases q⟩, W6⟩
        · have dx := hd x xl ig.1
          obtain ⟨f3, om', ⟨W1, W2, W3, W4, W5⟩, W6⟩ := wnf_go G hv f hg h2 h5 eg ea hd t3 t0 f1 f2 (k + 1) (v5 + 1) (vk + 1) (xp cv 6 x (wtV cv x v4)) o1 rcv r (by omega) (by omega) (by omega) (DwR_w D ig dx.2 dx.1 (by omega) (h72 ig.1) (fun _ y => by rw [h67 y, es ig])) Ro (CtM_f hC (fo.2.1 59 rfl) (fo.2.1 58 rfl)) et' q1 z
          refine ⟨f3, om', ⟨W1, fr_tr (fr_xp fr_rfl rfl) W2 rfl rfl rfl, fr_tr fo W3 rfl rfl rfl, fun y hy => ?_, fun q => by cases q⟩, W6⟩
          rw [W4 y hy]
          show upd (cv.2.1 6) x _ y = _
          rw [up_o (by omega)]
      have k318 : fM_chooseFew_318 (gM_chooseFew f2) vg va vk w w om = some r → fM_chooseFew_336 (gM_chooseFew f2) vg va vk w w v4 om = some r := fun z => by
        unfold fM_chooseFew_318 at z
        have z := (ifn z).2
        rw [opk, opk, tW eg, et] at z
        exact z
      rcases ifc q2 with ⟨y, q2⟩ | ⟨y, q2⟩
      · refine fin v4 (fun ig => ?_) (k318 q2)
        unfold wtV
        rcases D x ig.1 ig.2 with ⟨z, _⟩ | ⟨_, z, _⟩
        · rw [if_pos z]
        · rw [z] at y; exact absurd y (by decide)
      · have q2 := (ifn q2).2
        rw [opk, opk, tW eg, et] at q2
        have q2 := (ifn q2).2
        rw [opk] at q2
        have wt : (b ≤ x ∧ x < b + n) → wtV cv x v4 = op_mn (om.2.1 67 x) v4 := fun ig => by
          unfold wtV
          rcases D x ig.1 ig.2 with ⟨_, z⟩ | ⟨z, _, _, _, z5⟩
          · exact absurd z y
          · rw [if_neg z, z5 rfl]
        rcases ifc q2 with ⟨t, q2⟩ | ⟨t, q2⟩
        · have t := c_le t
          have q2 := (ifn q2).2
          rw [opk] at q2
          refine fin _ (fun ig => ?_) q2
          rw [wt ig]
          exact Int32.toInt_inj.mp (by rw [mn_i]; omega)
        · have t := c_nle t
          refine fin v4 (fun ig => ?_) (k318 q2)
          rw [wt ig]
          exact Int32.toInt_inj.mp (by rw [mn_i]; omega)
