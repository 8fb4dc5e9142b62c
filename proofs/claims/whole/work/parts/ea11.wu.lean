def CwR (b n : Nat) (cv om : cf_O) : Prop := ∀ x : Nat, b ≤ x → x < b + n → (cv.2.1 6 x = -1 ∧ om.2.1 72 x = 0) ∨ (¬ cv.2.1 6 x = -1 ∧ om.2.1 72 x = 1)
def unF (b n : Nat) (cv : cf_O) (x : Nat) : Bool := decide (b ≤ x ∧ x < b + n ∧ cv.2.1 6 x = -1)
theorem unw_go {b n g : Nat} {gr cv : cf_O} (G : GW b n gr) (hg : g ≤ 209) : ∀ (f : Nat) (l : List Nat) (v4 : Int32) (v5 : Int64) (r : Int32), Fall g l → nv v5 = enc l → l.length ≤ 5 → 0 ≤ v4.toInt → v4.toInt + (l.length : Int) ≤ 100 → gCv_unwantedIn f 0 v4 v5 cv gr = some r → r.toInt = v4.toInt + (l.countP (unF b n cv) : Int)
  | 0, l, v4, v5, r, F, e, h5, v0, v9, h => by cases h
  | f + 1, l, v4, v5, r, F, e, h5, v0, v9, h => by
    have G0 := G.1
    have h : fCv_unwantedIn_6 (gCv_unwantedIn f) v4 v5 cv gr = some r := h
    unfold fCv_unwantedIn_6 at h
    rw [opk] at h
    rcases ifc h with ⟨a, h⟩ | ⟨a, h⟩
    · have z := (lg_cmp_eq _ _).mp a
      have z0 : enc l = 0 := by rw [← e, z]; rfl
      rw [enc_nil F z0, ← Option.some.inj h]
      show v4.toInt = v4.toInt + ((0 : Nat) : Int)
      omega
    · cases l with
      | nil =>
        have z : v5 = 0 := nv_inj (by rw [e]; rfl)
        exact absurd ((lg_cmp_eq _ _).mpr z) a
      | cons x l =>
        have fx := F.1
        have n1 : nv (v5 &&& 255) = x := by rw [nv_and, e, enc_mod (by omega)]
        rw [opk, opk] at h
        have ey : (v5 &&& 255).toInt = (nv (v5 &&& 255) : Int) := l_nn' (z := v5 &&& 255) (by show nv (v5 &&& 255) < _; omega)
        have ex : (v5 &&& 255).toInt32.toInt = (x : Int) := by rw [Int64.toInt_toInt32, i_bm (by omega) (by omega)]; omega
        generalize (v5 &&& 255).toInt32 = w at h ex
        obtain ⟨q, hq, h⟩ := bd h
        have yq := isGate_sp G hq
        have e8 : nv (sh8 v5) = enc l := by
          show (sh8 v5).toBitVec.toNat = _
          rw [sh8_n]
          show nv v5 / 256 = _
          rw [e, enc_div (by omega)]
        have l5 : l.length + 1 ≤ 5 := h5
        have v9 : v4.toInt + ((l.length + 1 : Nat) : Int) ≤ 100 := v9
        have nx : ∀ (s : Int32) (u : Nat), s.toInt = (u : Int) → u ≤ 1 → (if unF b n cv x then 1 else 0) = u → fCv_unwantedIn_49 (gCv_unwantedIn f) v5 v4 s cv gr = some r → r.toInt = v4.toInt + ((x :: l).countP (unF b n cv) : Int) := fun s u es u1 eu z => by
          unfold fCv_unwantedIn_49 at z
          rw [opk, opk] at z
          have ea : (v4 + s).toInt = v4.toInt + (u : Int) := by rw [Int32.toInt_add, es, i_bm (by omega) (by omega)]
          have k := unw_go G hg f l (v4 + s) (sh8 v5) r (Fall_le F.2 (by omega)) e8 (by omega) (by omega) (by omega) z
          rw [List.countP_cons, k, ea]
          by_cases c : unF b n cv x = true
          · rw [if_pos c] at eu ⊢; omega
          · rw [if_neg c] at eu ⊢; omega
        rcases ifc h with ⟨c, h⟩ | ⟨c, h⟩
        · have nq := Yn_0 yq c
          refine nx 0 0 rfl (by omega) ?_ h
          rw [if_neg (fun z => nq (by have := of_decide_eq_true z; omega))]
        · have iq := Yn_1 yq c
          have h := (ifn h).2
          rw [opk, tW ex] at h
          rcases ifc h with ⟨d, h⟩ | ⟨d, h⟩
          · refine nx 1 1 rfl (by omega) ?_ h
            rw [if_pos (show unF b n cv x = true from decide_eq_true ⟨by omega, by omega, d⟩)]
          · refine nx 0 0 rfl (by omega) ?_ h
            rw [if_neg (fun z => d (of_decide_eq_true z).2.2)]
theorem unw_sp {b n g : Nat} {gr cv : cf_O} {l : List Nat} {v : Int64} {r : Int32} (G : GW b n gr) (hg : g ≤ 209) (F : Fall g l) (e : nv v = enc l) (h5 : l.length ≤ 5) (h : fCv_unwantedIn v cv gr = some r) : r.toInt = (l.countP (unF b n cv) : Int) := by
  have h : gCv_unwantedIn cfFU 0 0 v cv gr = some r := h
  have z := unw_go G hg cfFU l 0 v r F e h5 (by decide) (by rw [show (0 : Int32).toInt = 0 from rfl]; omega) h
  rw [z, show (0 : Int32).toInt = 0 from rfl]; omega
def unI (b n : Nat) (cv : cf_O) (z : Int) : Bool := unF b n cv z.toNat
theorem cnt_u {b n : Nat} {cv : cf_O} {l : List Nat} : (upL l).countP (unI b n cv) = l.countP (unF b n cv) := by
  unfold upL
  rw [List.countP_reverse, List.countP_map]; rfl
theorem nwg_go {b n c g : Nat} {C : List Int} {gr cv om : cf_O} {v1 : Int32} (R : RGq b n gr om) (w : CwR b n cv om) (e1 : v1.toInt = (c : Int)) (hC : CtM c C om) (hg : g ≤ b + n) (hz : ∀ z ∈ C, 1 ≤ z ∧ z < (g : Int)) : ∀ (f t : Nat) (v2 v3 r : Int32), v3.toInt = (t : Int) → t ≤ C.length → 0 ≤ v2.toInt → v2.toInt ≤ 100 + t → gM_newGates f 0 v1 v2 v3 om = some r → r.toInt = v2.toInt + ((C.drop t).countP (unI b n cv) : Int)
  | 0, t, v2, v3, r, e3, tl, v0, v9, h => by cases h
  | f + 1, t, v2, v3, r, e3, tl, v0, v9, h => by
    have h : fM_newGates_4 (gM_newGates f) v1 v2 v3 om = some r := h
    unfold fM_newGates_4 at h
    have h := (ifn h).2
    obtain ⟨c1, c2, c3, c4⟩ := hC
    rw [opk, tW e1] at h
    rcases ifc h with ⟨a, h⟩ | ⟨a, h⟩
    · have a := c_le a
      rw [← Option.some.inj h, List.drop_of_length_le (by omega)]
      show v2.toInt = v2.toInt + ((0 : Nat) : Int)
      omega
    · have a := c_nle a
      have hC : CtM c C om := ⟨c1, c2, c3, c4⟩
      have ct := CtM_g (t := t) hC (by omega)
      have zb := hz _ (List.mem_of_getElem? ct)
      rw [opk, opk, ix5 e1 e3 c1 (by omega)] at h
      have h := (ifn h).2
      rw [opk] at h
      obtain ⟨q, hq, h⟩ := bd h
      have eb := base_sp R hq
      have p3 := pW (v := v3) (by omega) (by omega)
      rw [dr_cons ct, List.countP_cons]
      generalize om.2.1 58 (5 * c + t) = x at h zb ct
      have nx : ∀ (s : Int32) (u : Nat), s.toInt = v2.toInt + (u : Int) → u ≤ 1 → (if unI b n cv x.toInt then 1 else 0) = u → fM_newGates_52 (gM_newGates f) v1 v3 s om = some r → r.toInt = v2.toInt + (((C.drop (t + 1)).countP (unI b n cv) + (if unI b n cv x.toInt then 1 else 0) : Nat) : Int) := fun s u es u1 eu z => by
        have k := nwg_go R w e1 hC hg hz f (t + 1) s (v3 + 1) r (by omega) (by omega) (by omega) (by omega) z
        rw [k, es, eu]; omega
      have wx : b ≤ x.toInt.toNat → (cv.2.1 6 x.toInt.toNat = -1 ∧ om.2.1 72 x.toInt.toNat = 0) ∨ (¬ cv.2.1 6 x.toInt.toNat = -1 ∧ om.2.1 72 x.toInt.toNat = 1) := fun z => w _ z (by omega)
      rcases ifc h with ⟨d, h⟩ | ⟨d, h⟩
      · have d := Int32.lt_iff_toInt_lt.mp d
        refine nx v2 0 (by omega) (by omega) ?_ h
        rw [if_neg (fun z => by have := of_decide_eq_true z; omega)]
      · have d : ¬ x.toInt < q.toInt := fun z => d (Int32.lt_iff_toInt_lt.mpr z)
        have h := (ifn h).2
        rw [opk, show x.toNatClampNeg = x.toInt.toNat from tW (by omega)] at h
        have wx := wx (by omega)
        rcases ifc h with ⟨y, h⟩ | ⟨y, h⟩
        · rw [opk] at h
          refine nx (v2 + 1) 1 (by rw [pW (by omega) (by omega)]; rfl) (by omega) ?_ h
          rcases wx with ⟨w1, _⟩ | ⟨_, w2⟩
          · rw [if_pos (show unI b n cv x.toInt = true from decide_eq_true ⟨by omega, by omega, w1⟩)]
          · rw [w2] at y; exact absurd y (by decide)
        · refine nx v2 0 (by omega) (by omega) ?_ h
          rcases wx with ⟨_, w2⟩ | ⟨w1, _⟩
          · exact absurd w2 y
          · rw [if_neg (fun z => w1 (of_decide_eq_true z).2.2)]
theorem nwg_sp {b n c g : Nat} {C : List Int} {gr cv om : cf_O} {v1 r : Int32} (R : RGq b n gr om) (w : CwR b n cv om) (e1 : v1.toInt = (c : Int)) (hC : CtM c C om) (hg : g ≤ b + n) (hz : ∀ z ∈ C, 1 ≤ z ∧ z < (g : Int)) (h : fM_newGates v1 om = some r) : r.toInt = (C.countP (unI b n cv) : Int) := by
  have h : gM_newGates cfFU 0 v1 0 0 om = some r := h
  have z := nwg_go R w e1 hC hg hz cfFU 0 0 0 r rfl (Nat.zero_le _) (by decide) (by decide) h
  rw [z, List.drop_zero, show (0 : Int32).toInt = 0 from rfl]; omega
def Fwr (u : Int → Bool) (X Y : List Int) : Prop := X.countP u < Y.countP u ∨ (X.countP u = Y.countP u ∧ (X.length < Y.length ∨ (X.length = Y.length ∧ lxd X Y < 0)))
theorem Fwr_t {u : Int → Bool} {X Y Z : List Int} (h1 : Fwr u X Y) (h2 : Fwr u Y Z) : Fwr u X Z := by
  unfold Fwr at h1 h2 ⊢
  rcases h1 with a | ⟨a, a2 | ⟨a2, a3⟩⟩ <;> rcases h2 with c | ⟨c, c2 | ⟨c2, c3⟩⟩
  · exact Or.inl (by omega)
  · exact Or.inl (by omega)
  · exact Or.inl (by omega)
  · exact Or.inl (by omega)
  · exact Or.inr ⟨by omega, Or.inl (by omega)⟩
  · exact Or.inr ⟨by omega, Or.inl (by omega)⟩
  · exact Or.inl (by omega)
  · exact Or.inr ⟨by omega, Or.inl (by omega)⟩
  · exact Or.inr ⟨by omega, Or.inr ⟨by omega, lxd_t a2 c2 a3 c3⟩⟩
theorem isf_go {o : cf_O} {a b : Nat} {v1 v2 : Int32} (B : CbM o) (h1 : v1.toInt = (a : Int)) (h2 : v2.toInt = (b : Int)) (ha : a ≤ 63210) (hb : b ≤ 63210) : ∀ (f k : Nat) (v3 v4 r : Int32), v4.toInt = (k : Int) → k ≤ 5 → (v3 = 0 → o.2.1 59 a = o.2.1 59 b) → gM_isFewer f 0 v1 v2 v3 v4 o = some r → (¬ r = 0 ↔ (v3.toInt < 0 ∨ (v3.toInt = 0 ∧ lxd ((cutL (o.2.1 59) (o.2.1 58) a).drop k) ((cutL (o.2.1 59) (o.2.1 58) b).drop k) < 0)))
  | 0, k, v3, v4, r, e4, hk, he, h => by cases h
  | f + 1, k, v3, v4, r, e4, hk, he, h => by
    have h : fM_isFewer_37 (gM_isFewer f) v1 v2 v3 v4 o = some r := h
    unfold fM_isFewer_37 at h
    have la := cutL_len (o.2.1 59) (o.2.1 58) a
    have lb := cutL_len (o.2.1 59) (o.2.1 58) b
    have b9 := B.1 a
    have fin : fM_isFewer_82 (gM_isFewer f) v3 o = some r → (¬ r = 0 ↔ v3.toInt < 0) := fun z => by
      unfold fM_isFewer_82 at z
      rcases ifc z with ⟨c, z⟩ | ⟨c, z⟩
      · have c : 0 ≤ v3.toInt := c_le c
        unfold fM_isFewer_91 at z
        have z := (ifn z).2
        rw [← Option.some.inj z]
        exact ⟨fun q => absurd rfl q, fun q => by omega⟩
      · have c : v3.toInt < 0 := c_nle c
        unfold fM_isFewer_91 at z
        have z := (ifn z).2
        rw [← Option.some.inj z]
        exact ⟨fun _ => c, fun _ => by decide⟩
    have h := (ifn h).2
    rw [opk, tW h1] at h
    rcases ifc h with ⟨c, h⟩ | ⟨c, h⟩
    · have c := c_le c
      rw [fin h]
      constructor
      · intro q; exact Or.inl q
      · rintro (q | ⟨q1, q2⟩)
        · exact q
        · have e0 := he (Int32.toInt_inj.mp (by rw [q1]; rfl))
          rw [← e0] at lb
          rw [List.drop_of_length_le (by omega), List.drop_of_length_le (by omega)] at q2
          exact absurd q2 (by show ¬ (0 : Int) < 0; omega)
    · have c := c_nle c
      rcases ifc h with ⟨d, h⟩ | ⟨d, h⟩
      · have e0 := he d
        rw [← e0] at lb
        have h1' : (5 * v1 + v4).toNatClampNeg = 5 * a + k := by
          have m : (5 * v1).toInt = 5 * (a : Int) := by rw [Int32.toInt_mul, h1, show (5 : Int32).toInt = 5 from rfl, i_bm (by omega) (by omega)]
          exact tW (by rw [Int32.toInt_add, m, e4, i_bm (by omega) (by omega)]; omega)
        have h2' : (5 * v2 + v4).toNatClampNeg = 5 * b + k := by
          have m : (5 * v2).toInt = 5 * (b : Int) := by rw [Int32.toInt_mul, h2, show (5 : Int32).toInt = 5 from rfl, i_bm (by omega) (by omega)]
          exact tW (by rw [Int32.toInt_add, m, e4, i_bm (by omega) (by omega)]; omega)
        rw [opk, opk, h1'] at h
        have h := (ifn h).2
        rw [opk, opk, opk, h2'] at h
        have h := (ifn h).2
        rw [opk, opk, opk] at h
        have ba := B.2.1 (5 * a + k)
        have bb := B.2.1 (5 * b + k)
        have ed : (o.2.1 58 (5 * a + k) - o.2.1 58 (5 * b + k)).toInt = (o.2.1 58 (5 * a + k)).toInt - (o.2.1 58 (5 * b + k)).toInt := i_sub' (by omega) (by omega) (by omega) (by omega)
        have dA : (cutL (o.2.1 59) (o.2.1 58) a).drop k = (o.2.1 58 (5 * a + k)).toInt :: (cutL (o.2.1 59) (o.2.1 58) a).drop (k + 1) := by
          unfold cutL
          exact tab_d (f := fun k => (o.2.1 58 (5 * a + k)).toInt) (by omega)
        have dB : (cutL (o.2.1 59) (o.2.1 58) b).drop k = (o.2.1 58 (5 * b + k)).toInt :: (cutL (o.2.1 59) (o.2.1 58) b).drop (k + 1) := by
          unfold cutL
          exact tab_d (f := fun k => (o.2.1 58 (5 * b + k)).toInt) (by rw [← e0]; omega)
        have ih := isf_go B h1 h2 ha hb f (k + 1) (o.2.1 58 (5 * a + k) - o.2.1 58 (5 * b + k)) (v4 + 1) r (by rw [pW (by omega) (by omega)]; omega) (by omega) (fun _ => e0) h
        rw [ih, ed, dA, dB, d, show (0 : Int32).toInt = 0 from rfl]
        show _ ↔ ((0 : Int) < 0 ∨ ((0 : Int) = 0 ∧ (if (o.2.1 58 (5 * a + k)).toInt - (o.2.1 58 (5 * b + k)).toInt = 0 then lxd ((cutL (o.2.1 59) (o.2.1 58) a).drop (k + 1)) ((cutL (o.2.1 59) (o.2.1 58) b).drop (k + 1)) else (o.2.1 58 (5 * a + k)).toInt - (o.2.1 58 (5 * b + k)).toInt) < 0))
        by_cases z : (o.2.1 58 (5 * a + k)).toInt - (o.2.1 58 (5 * b + k)).toInt = 0
        · rw [if_pos z]
          constructor
          · rintro (q | q)
            · omega
            · exact Or.inr ⟨rfl, q.2⟩
          · rintro (q | q)
            · omega
            · exact Or.inr ⟨z, q.2⟩
        · rw [if_neg z]
          constructor
          · rintro (q | q)
            · exact Or.inr ⟨rfl, q⟩
            · exact absurd q.1 z
          · rintro (q | q)
            · omega
            · exact Or.inl q.2
      · rw [fin h]
        constructor
        · intro q; exact Or.inl q
        · rintro (q | ⟨q1, _⟩)
          · exact q
          · exact absurd (Int32.toInt_inj.mp (by rw [q1]; rfl)) d
theorem isf_sp {b n g i j : Nat} {X Y : List Int} {gr cv o : cf_O} {v1 v2 r : Int32} (B : CbM o) (R : RGq b n gr o) (w : CwR b n cv o) (h1 : v1.toInt = (i : Int)) (h2 : v2.toInt = (j : Int)) (hX : CtM i X o) (hY : CtM j Y o) (hg : g ≤ b + n) (zX : ∀ z ∈ X, 1 ≤ z ∧ z < (g : Int)) (zY : ∀ z ∈ Y, 1 ≤ z ∧ z < (g : Int)) (h : fM_isFewer v1 v2 o = some r) : ¬ r = 0 ↔ Fwr (unI b n cv) X Y := by
  unfold fM_isFewer fM_isFewer_0 at h
  obtain ⟨p, hp, h⟩ := bd h
  obtain ⟨q, hq, h⟩ := bd h
  have ep := nwg_sp R w h1 hX hg zX hp
  have eq := nwg_sp R w h2 hY hg zY hq
  have lX : X.countP (unI b n cv) ≤ X.length := List.countP_le_length
  have lY : Y.countP (unI b n cv) ≤ Y.length := List.countP_le_length
  have x4 := hX.2.2.2
  have y4 := hY.2.2.2
  rw [opk] at h
  have ed : (p - q).toInt = p.toInt - q.toInt := i_sub' (by omega) (by omega) (by omega) (by omega)
  have k33 : ∀ s : Int32, (s = 0 → o.2.1 59 i = o.2.1 59 j) → fM_isFewer_33 (gM_isFewer cfFU) v1 v2 s o = some r → (¬ r = 0 ↔ (s.toInt < 0 ∨ (s.toInt = 0 ∧ lxd X Y < 0))) := fun s hs z => by
    have k := isf_go B h1 h2 (by have := hX.1; omega) (by have := hY.1; omega) cfFU 0 s 0 r rfl (by decide) hs z
    rw [List.drop_zero, List.drop_zero, hX.2.1, hY.2.1] at k; exact k
  unfold Fwr
  rcases ifc h with ⟨a, h⟩ | ⟨a, h⟩
  · have a0 : (p - q).toInt = 0 := by rw [a]; rfl
    have h := (ifn h).2
    rw [opk, tW h1] at h
    have h := (ifn h).2
    rw [opk, opk, tW h2] at h
    have sX := hX.2.2.1
    have sY := hY.2.2.1
    have es : (o.2.1 59 i - o.2.1 59 j).toInt = (X.length : Int) - (Y.length : Int) := by rw [i_sub' (by omega) (by omega) (by omega) (by omega), sX, sY]
    rw [k33 _ (fun z => Int32.toInt_inj.mp (by rw [z, show (0 : Int32).toInt = 0 from rfl] at es; omega)) h, es]
    constructor
    · rintro (y | ⟨y1, y2⟩)
      · exact Or.inr ⟨by omega, Or.inl (by omega)⟩
      · exact Or.inr ⟨by omega, Or.inr ⟨by omega, y2⟩⟩
    · rintro (y | ⟨_, y | ⟨y1, y2⟩⟩)
      · omega
      · exact Or.inl (by omega)
      · exact Or.inr ⟨by omega, y2⟩
  · have a0 : ¬ (p - q).toInt = 0 := fun z => a (Int32.toInt_inj.mp (by rw [z]; rfl))
    rw [k33 _ (fun z => absurd z a) h]
    constructor
    · rintro (y | ⟨y1, _⟩)
      · exact Or.inl (by omega)
      · exact absurd y1 a0
    · rintro (y | ⟨y, _⟩)
      · exact Or.inl (by omega)
      · omega
