theorem mx_i (x y : Int32) : (op_mx x y).toInt = max x.toInt y.toInt := by
  unfold op_mx
  split
  · rename_i h
    have := Int32.lt_iff_toInt_lt.mp h
    omega
  · rename_i h
    have : ¬ x.toInt < y.toInt := fun q => h (Int32.lt_iff_toInt_lt.mpr q)
    omega
theorem mn_i (x y : Int32) : (op_mn x y).toInt = min x.toInt y.toInt := by
  unfold op_mn
  split
  · rename_i h
    have := Int32.lt_iff_toInt_lt.mp h
    omega
  · rename_i h
    have : ¬ y.toInt < x.toInt := fun q => h (Int32.lt_iff_toInt_lt.mpr q)
    omega
def dpI (d : Nat → Int32) (v : Int32) (L : List Int) : Int32 := L.foldl (fun v x => op_mx v (d x.toNat)) v
theorem dpI_c {d : Nat → Int32} {v : Int32} {x : Int} {L : List Int} : dpI d v (x :: L) = dpI d (op_mx v (d x.toNat)) L := rfl
theorem dpI_s {d : Nat → Int32} {v : Int32} {x : Int} {L : List Int} : dpI d v (L ++ [x]) = op_mx (dpI d v L) (d x.toNat) := by
  unfold dpI; rw [List.foldl_append]; rfl
theorem dpl_x {d : Nat → Int32} : ∀ (l : List Nat) (v w : Int32), dpl d (op_mx v w) l = op_mx (dpl d v l) w
  | [], v, w => rfl
  | a :: l, v, w => by
    show dpl d (op_mx (op_mx v w) (d a)) l = op_mx (dpl d (op_mx v (d a)) l) w
    rw [← dpl_x l (op_mx v (d a)) w]
    congr 1
    apply Int32.toInt_inj.mp
    rw [mx_i, mx_i, mx_i, mx_i]
    omega
theorem dp_u {d : Nat → Int32} {v : Int32} : ∀ l : List Nat, dpI d v (upL l) = dpl d v l
  | [] => rfl
  | a :: l => by
    rw [up_c, dpI_s, dp_u l, ← dpl_x l v]
    rfl
theorem dpI_n {d : Nat → Int32} {v : Int32} : dpI d v [] = v := rfl
theorem dpI_e {d d2 : Nat → Int32} {L : List Int} : ∀ {v : Int32}, (∀ x : Int, x ∈ L → d2 x.toNat = d x.toNat) → dpI d v L = dpI d2 v L := by
  induction L with
  | nil => intro v h; rw [dpI_n, dpI_n]
  | cons x L ih =>
    intro v h
    rw [dpI_c, dpI_c, h x (List.mem_cons_self ..), ih (fun y hy => h y (List.mem_cons_of_mem _ hy))]
theorem dpI_b {d : Nat → Int32} {m : Int} : ∀ {L : List Int} {v : Int32}, 0 ≤ v.toInt → v.toInt ≤ m → (∀ x ∈ L, (d x.toNat).toInt ≤ m) → 0 ≤ (dpI d v L).toInt ∧ (dpI d v L).toInt ≤ m
  | [], v, h0, h1, _ => ⟨h0, h1⟩
  | x :: L, v, h0, h1, h => by
    rw [dpI_c]
    have := mx_i v (d x.toNat)
    have := h x (List.mem_cons_self ..)
    exact dpI_b (by omega) (by omega) (fun y hy => h y (List.mem_cons_of_mem _ hy))
def CbM (o : cf_O) : Prop := (∀ c : Nat, 0 ≤ (o.2.1 59 c).toInt ∧ (o.2.1 59 c).toInt ≤ 5) ∧ (∀ c : Nat, 0 ≤ (o.2.1 58 c).toInt ∧ (o.2.1 58 c).toInt ≤ 300) ∧ (∀ c : Nat, 0 ≤ (o.2.1 62 c).toInt ∧ (o.2.1 62 c).toInt ≤ 300) ∧ (∀ c : Nat, 0 ≤ (o.2.1 57 c).toInt ∧ (o.2.1 57 c).toInt ≤ 300)
theorem md_go {o : cf_O} {c : Nat} {v1 : Int32} (B : CbM o) (h1 : v1.toInt = (c : Int)) (hc : c ≤ 63210) : ∀ (f k : Nat) (v2 v3 r : Int32), v3.toInt = (k : Int) → k ≤ 5 → gM_depthOf f 0 v1 v2 v3 o = some r → r = dpI (o.2.1 62) v2 ((cutL (o.2.1 59) (o.2.1 58) c).drop k) + 1
  | 0, k, v2, v3, r, h3, hk, h => by cases h
  | f + 1, k, v2, v3, r, h3, hk, h => by
    have h : fM_depthOf_4 (gM_depthOf f) v1 v2 v3 o = some r := h
    unfold fM_depthOf_4 at h
    rcases ifc h with ⟨_, h⟩ | ⟨_, h⟩
    · cases h
    rw [opk, tW h1] at h
    have b := B.1 c
    rcases ifc h with ⟨a, h⟩ | ⟨a, h⟩
    · have a := Int32.le_iff_toInt_le.mp a
      rw [show k = ((k : Int)).toNat by omega, cut_n (u := (k : Int)) (by omega)]
      exact (Option.some.inj h).symm
    · have a : ¬ (o.2.1 59 c).toInt ≤ v3.toInt := fun q => a (Int32.le_iff_toInt_le.mpr q)
      rw [opk, opk] at h
      have e6 : (5 * v1 + v3).toInt = ((5 * c + k : Nat) : Int) := by
        have e5 : (5 * v1).toInt = 5 * (c : Int) := by
          rw [i_mul (x := 5) (y := v1) (by show -2147483648 ≤ (5 : Int) * _; omega) (by show (5 : Int) * _ ≤ 2147483647; omega)]
          show (5 : Int) * _ = _
          omega
        rw [i_add (by omega) (by omega)]; omega
      rcases ifc h with ⟨_, h⟩ | ⟨_, h⟩
      · cases h
      rw [opk, tW e6] at h
      have bn := B.2.1 (5 * c + k)
      rcases ifc h with ⟨_, h⟩ | ⟨_, h⟩
      · cases h
      rw [opk] at h
      rw [cut_d (k := k) rfl (by omega), dpI_c]
      have e8 : (o.2.1 58 (5 * c + k)).toNatClampNeg = (o.2.1 58 (5 * c + k)).toInt.toNat := rfl
      rw [e8] at h
      have p3 := pW (v := v3) (by omega) (by omega)
      have fin : ∀ w : Int32, w = op_mx v2 (o.2.1 62 (o.2.1 58 (5 * c + k)).toInt.toNat) → fM_depthOf_43 (gM_depthOf f) v1 v3 w o = some r → r = dpI (o.2.1 62) (op_mx v2 (o.2.1 62 (o.2.1 58 (5 * c + k)).toInt.toNat)) ((cutL (o.2.1 59) (o.2.1 58) c).drop (k + 1)) + 1 := fun w ew q => by
        rw [← ew]
        exact md_go B h1 hc f (k + 1) w (v3 + 1) r (by omega) (by omega) q
      rcases ifc h with ⟨d, h⟩ | ⟨d, h⟩
      · refine fin v2 ?_ h
        have d := Int32.le_iff_toInt_le.mp d
        apply Int32.toInt_inj.mp
        rw [mx_i]; omega
      · refine fin _ ?_ h
        have d : ¬ (o.2.1 62 (o.2.1 58 (5 * c + k)).toInt.toNat).toInt ≤ v2.toInt := fun q => d (Int32.le_iff_toInt_le.mpr q)
        apply Int32.toInt_inj.mp
        rw [mx_i]; omega
def dpC (d : Nat → Int32) (L : List Int) : Int := (dpI d 0 L).toInt + 1
theorem dpC_b {o : cf_O} (B : CbM o) (L : List Int) : 1 ≤ dpC (o.2.1 62) L ∧ dpC (o.2.1 62) L ≤ 301 := by
  have := dpI_b (d := o.2.1 62) (m := 300) (L := L) (v := 0) (by decide) (by decide) (fun x _ => (B.2.2.1 _).2)
  unfold dpC
  omega
theorem md_sp {o : cf_O} {c : Nat} {v1 r : Int32} (B : CbM o) (h1 : v1.toInt = (c : Int)) (hc : c ≤ 63210) (h : fM_depthOf v1 o = some r) : r = dpI (o.2.1 62) 0 (cutL (o.2.1 59) (o.2.1 58) c) + 1 ∧ r.toInt = dpC (o.2.1 62) (cutL (o.2.1 59) (o.2.1 58) c) := by
  have z := md_go B h1 hc cfFU 0 0 0 r rfl (by decide) h
  have b := dpC_b B (cutL (o.2.1 59) (o.2.1 58) c)
  unfold dpC at b ⊢
  refine ⟨z, ?_⟩
  rw [z, List.drop_zero, i_add (by show -2147483648 ≤ _ + (1 : Int); omega) (by show _ + (1 : Int) ≤ 2147483647; omega)]; rfl
def lxd : List Int → List Int → Int
  | x :: xs, y :: ys => if x - y = 0 then lxd xs ys else x - y
  | _, _ => 0
theorem lxd_t : ∀ {X Y Z : List Int}, X.length = Y.length → Y.length = Z.length → lxd X Y < 0 → lxd Y Z < 0 → lxd X Z < 0
  | [], _, _, _, _, h, _ => absurd h (by unfold lxd; omega)
  | x :: X, [], _, e, _, _, _ => by cases e
  | x :: X, y :: Y, [], _, e, _, _ => by cases e
  | x :: X, y :: Y, z :: Z, e1, e2, h1, h2 => by
    unfold lxd at h1 h2 ⊢
    have e1 : X.length = Y.length := Nat.succ.inj e1
    have e2 : Y.length = Z.length := Nat.succ.inj e2
    split at h1
    · split at h2
      · rw [if_pos (by omega)]
        exact lxd_t e1 e2 h1 h2
      · rw [if_neg (by omega)]; omega
    · split at h2
      · rw [if_neg (by omega)]; omega
      · rw [if_neg (by omega)]; omega
theorem lxd_r : ∀ X : List Int, lxd X X = 0
  | [] => rfl
  | x :: X => by unfold lxd; rw [if_pos (by omega)]; exact lxd_r X
theorem lxd_z : ∀ {X Y : List Int}, X.length = Y.length → lxd X Y = 0 → X = Y
  | [], [], _, _ => rfl
  | [], y :: Y, e, _ => by cases e
  | x :: X, [], e, _ => by cases e
  | x :: X, y :: Y, e, h => by
    unfold lxd at h
    split at h
    · rw [show x = y by omega, lxd_z (Nat.succ.inj e) h]
    · omega
theorem lxd_n : ∀ {X Y : List Int}, X.length = Y.length → lxd X Y = - lxd Y X
  | [], [], _ => rfl
  | [], y :: Y, e => by cases e
  | x :: X, [], e => by cases e
  | x :: X, y :: Y, e => by
    unfold lxd
    by_cases c : x - y = 0
    · rw [if_pos c, if_pos (by omega)]
      exact lxd_n (Nat.succ.inj e)
    · rw [if_neg c, if_neg (by omega)]; omega
def Ahd (d : Nat → Int32) (X Y : List Int) : Prop := dpC d X < dpC d Y ∨ (dpC d X = dpC d Y ∧ (X.length < Y.length ∨ (X.length = Y.length ∧ lxd X Y < 0)))
theorem Ahd_t {d : Nat → Int32} {X Y Z : List Int} (h1 : Ahd d X Y) (h2 : Ahd d Y Z) : Ahd d X Z := by
  unfold Ahd at *
  rcases h1 with a | ⟨a, b | ⟨b, c⟩⟩ <;> rcases h2 with a2 | ⟨a2, b2 | ⟨b2, c2⟩⟩
  · exact Or.inl (by omega)
  · exact Or.inl (by omega)
  · exact Or.inl (by omega)
  · exact Or.inl (by omega)
  · exact Or.inr ⟨by omega, Or.inl (by omega)⟩
  · exact Or.inr ⟨by omega, Or.inl (by omega)⟩
  · exact Or.inl (by omega)
  · exact Or.inr ⟨by omega, Or.inl (by omega)⟩
  · exact Or.inr ⟨by omega, Or.inr ⟨by omega, lxd_t b b2 c c2⟩⟩
theorem cutL_len (cs cn : Nat → Int32) (c : Nat) : (cutL cs cn c).length = (cs c).toInt.toNat := by unfold cutL; exact tab_len _ _
theorem ga_go {o : cf_O} {a b : Nat} {v1 v2 : Int32} (B : CbM o) (h1 : v1.toInt = (a : Int)) (h2 : v2.toInt = (b : Int)) (ha : a ≤ 63210) (hb : b ≤ 63210) : ∀ (f k : Nat) (v3 v4 r : Int32), v4.toInt = (k : Int) → k ≤ 5 → (v3 = 0 → o.2.1 59 a = o.2.1 59 b) → gM_goesAhead f 0 v1 v2 v3 v4 o = some r → (¬ r = 0 ↔ (v3.toInt < 0 ∨ (v3.toInt = 0 ∧ lxd ((cutL (o.2.1 59) (o.2.1 58) a).drop k) ((cutL (o.2.1 59) (o.2.1 58) b).drop k) < 0)))
  | 0, k, v3, v4, r, h4, hk, hz, h => by cases h
  | f + 1, k, v3, v4, r, h4, hk, hz, h => by
    have h : fM_goesAhead_37 (gM_goesAhead f) v1 v2 v3 v4 o = some r := h
    have ex : ∀ w : Int32, fM_goesAhead_82 (gM_goesAhead f) w o = some r → (¬ r = 0 ↔ w.toInt < 0) := fun w q => by
      unfold fM_goesAhead_82 at q
      rcases ifc q with ⟨c, q⟩ | ⟨c, q⟩
      · have c := Int32.le_iff_toInt_le.mp c
        have c : 0 ≤ w.toInt := c
        obtain ⟨-, q⟩ := opw q
        rw [← Option.some.inj q]
        exact ⟨fun z => absurd rfl z, fun z => by omega⟩
      · have c : ¬ (0 : Int32).toInt ≤ w.toInt := fun z => c (Int32.le_iff_toInt_le.mpr z)
        have c : ¬ 0 ≤ w.toInt := c
        obtain ⟨-, q⟩ := opw q
        rw [← Option.some.inj q]
        exact ⟨fun z => by omega, fun z => by decide⟩
    unfold fM_goesAhead_37 at h
    rcases ifc h with ⟨_, h⟩ | ⟨_, h⟩
    · cases h
    rw [opk, tW h1] at h
    have b1 := B.1 a
    rcases ifc h with ⟨c, h⟩ | ⟨c, h⟩
    · have c := Int32.le_iff_toInt_le.mp c
      rw [ex _ h, show k = ((k : Int)).toNat by omega, cut_n (u := (k : Int)) (by omega)]
      show _ ↔ _ ∨ (_ ∧ (0 : Int) < 0)
      omega
    · have c : ¬ (o.2.1 59 a).toInt ≤ v4.toInt := fun q => c (Int32.le_iff_toInt_le.mpr q)
      rcases ifc h with ⟨z, h⟩ | ⟨z, h⟩
      · rw [opk, opk] at h
        have e6 : (5 * v1 + v4).toInt = ((5 * a + k : Nat) : Int) := by
          have e5 : (5 * v1).toInt = 5 * (a : Int) := by
            rw [i_mul (x := 5) (y := v1) (by show -2147483648 ≤ (5 : Int) * _; omega) (by show (5 : Int) * _ ≤ 2147483647; omega)]
            show (5 : Int) * _ = _
            omega
          rw [i_add (by omega) (by omega)]; omega
        have e7 : (5 * v2 + v4).toInt = ((5 * b + k : Nat) : Int) := by
          have e5 : (5 * v2).toInt = 5 * (b : Int) := by
            rw [i_mul (x := 5) (y := v2) (by show -2147483648 ≤ (5 : Int) * _; omega) (by show (5 : Int) * _ ≤ 2147483647; omega)]
            show (5 : Int) * _ = _
            omega
          rw [i_add (by omega) (by omega)]; omega
        rcases ifc h with ⟨_, h⟩ | ⟨_, h⟩
        · cases h
        rw [opk, opk, opk, tW e6] at h
        rcases ifc h with ⟨_, h⟩ | ⟨_, h⟩
        · cases h
        rw [opk, opk, opk, tW e7] at h
        have n1 := B.2.1 (5 * a + k)
        have n2 := B.2.1 (5 * b + k)
        have p4 := pW (v := v4) (by omega) (by omega)
        have es := hz z
        have IH := ga_go B h1 h2 ha hb f (k + 1) _ (v4 + 1) r (by omega) (by omega) (fun _ => es) h
        have ed : (o.2.1 58 (5 * a + k) - o.2.1 58 (5 * b + k)).toInt = (o.2.1 58 (5 * a + k)).toInt - (o.2.1 58 (5 * b + k)).toInt := by rw [Int32.toInt_sub, i_bm (by omega) (by omega)]
        rw [ed] at IH
        rw [IH, cut_d (i := a) (k := k) rfl (by omega), cut_d (i := b) (k := k) rfl (by rw [← es]; omega), z]
        show _ ↔ (0 : Int) < 0 ∨ ((0 : Int) = 0 ∧ _)
        conv => rhs; rw [lxd]
        by_cases q : (o.2.1 58 (5 * a + k)).toInt - (o.2.1 58 (5 * b + k)).toInt = 0
        · rw [if_pos q]
          constructor
          · rintro (y | y)
            · omega
            · exact Or.inr ⟨rfl, y.2⟩
          · rintro (y | y)
            · omega
            · exact Or.inr ⟨q, y.2⟩
        · rw [if_neg q]
          constructor
          · rintro (y | y)
            · exact Or.inr ⟨rfl, y⟩
            · exact absurd y.1 q
          · rintro (y | y)
            · omega
            · exact Or.inl y.2
      · rw [ex _ h]
        have : ¬ v3.toInt = 0 := fun q => z (Int32.toInt_inj.mp (by rw [q]; rfl))
        omega
theorem ga_sp {o : cf_O} {a b : Nat} {v1 v2 r : Int32} (B : CbM o) (h1 : v1.toInt = (a : Int)) (h2 : v2.toInt = (b : Int)) (ha : a ≤ 63210) (hb : b ≤ 63210) (h : fM_goesAhead v1 v2 o = some r) : ¬ r = 0 ↔ Ahd (o.2.1 62) (cutL (o.2.1 59) (o.2.1 58) a) (cutL (o.2.1 59) (o.2.1 58) b) := by
  unfold fM_goesAhead fM_goesAhead_0 at h
  obtain ⟨p, hp, h⟩ := bd h
  obtain ⟨q, hq, h⟩ := bd h
  have ep := (md_sp B h1 ha hp).2
  have eq := (md_sp B h2 hb hq).2
  have bp := dpC_b B (cutL (o.2.1 59) (o.2.1 58) a)
  have bq := dpC_b B (cutL (o.2.1 59) (o.2.1 58) b)
  have ed : (p - q).toInt = p.toInt - q.toInt := by rw [Int32.toInt_sub, i_bm (by omega) (by omega)]
  rw [opk] at h
  unfold Ahd
  rw [cutL_len, cutL_len]
  have s1 := B.1 a
  have s2 := B.1 b
  rcases ifc h with ⟨c, h⟩ | ⟨c, h⟩
  · have c0 : (p - q).toInt = 0 := by rw [c]; rfl
    rcases ifc h with ⟨_, h⟩ | ⟨_, h⟩
    · cases h
    rw [opk] at h
    rcases ifc h with ⟨_, h⟩ | ⟨_, h⟩
    · cases h
    rw [opk, opk, tW h1, tW h2] at h
    have es : (o.2.1 59 a - o.2.1 59 b).toInt = (o.2.1 59 a).toInt - (o.2.1 59 b).toInt := by rw [Int32.toInt_sub, i_bm (by omega) (by omega)]
    have IH := ga_go B h1 h2 ha hb cfFU 0 _ 0 r rfl (by decide) (fun z => Int32.toInt_inj.mp (by
      have : (o.2.1 59 a - o.2.1 59 b).toInt = 0 := by rw [z]; rfl
      omega)) h
    rw [IH, es, List.drop_zero, List.drop_zero]
    constructor
    · rintro (y | y)
      · exact Or.inr ⟨by omega, Or.inl (by omega)⟩
      · exact Or.inr ⟨by omega, Or.inr ⟨by omega, y.2⟩⟩
    · rintro (y | ⟨_, y | y⟩)
      · omega
      · exact Or.inl (by omega)
      · exact Or.inr ⟨by omega, y.2⟩
  · have c0 : ¬ (p - q).toInt = 0 := fun z => c (Int32.toInt_inj.mp (by rw [z]; rfl))
    have IH := ga_go B h1 h2 ha hb cfFU 0 _ 0 r rfl (by decide) (fun z => absurd z c) h
    rw [IH, ed]
    omega
def BsQ (d cc cs cn be : Nat → Int32) (n : Nat) (dn : Int) : Prop := ∃ j : Nat, (j : Int) < (cc n).toInt ∧ (be n).toInt = ((301 * n + j : Nat) : Int) ∧ dn = dpC d (cutL cs cn (301 * n + j)) ∧ ∀ k : Nat, (k : Int) < (cc n).toInt → ¬ Ahd d (cutL cs cn (301 * n + k)) (cutL cs cn (301 * n + j))
theorem fb_go {o : cf_O} {n : Nat} {v1 : Int32} (B : CbM o) (h1 : v1.toInt = (n : Int)) (hn : n < 209) : ∀ (f i j : Nat) (v2 v3 : Int32) (r : cf_O), v2.toInt = ((301 * n + j : Nat) : Int) → v3.toInt = ((301 * n + i : Nat) : Int) → j < i → (i : Int) ≤ (o.2.1 57 n).toInt → (∀ k : Nat, k < i → ¬ Ahd (o.2.1 62) (cutL (o.2.1 59) (o.2.1 58) (301 * n + k)) (cutL (o.2.1 59) (o.2.1 58) (301 * n + j))) → gM_findBest f 0 v1 v2 v3 o = some r → ∃ (j2 : Nat) (w q : Int32), (j2 : Int) < (o.2.1 57 n).toInt ∧ w.toInt = ((301 * n + j2 : Nat) : Int) ∧ q.toInt = dpC (o.2.1 62) (cutL (o.2.1 59) (o.2.1 58) (301 * n + j2)) ∧ (∀ k : Nat, (k : Int) < (o.2.1 57 n).toInt → ¬ Ahd (o.2.1 62) (cutL (o.2.1 59) (o.2.1 58) (301 * n + k)) (cutL (o.2.1 59) (o.2.1 58) (301 * n + j2))) ∧ r = xp (xp o 63 n w) 62 n q
  | 0, i, j, v2, v3, r, h2, h3, ji, ic, H, h => by cases h
  | f + 1, i, j, v2, v3, r, h2, h3, ji, ic, H, h => by
    have h : fM_findBest_14 (gM_findBest f) v1 v2 v3 o = some r := h
    unfold fM_findBest_14 at h
    rw [opk] at h
    rcases ifc h with ⟨_, h⟩ | ⟨_, h⟩
    · cases h
    rw [opk, opk, tW h1] at h
    have bc := B.2.2.2 n
    have e301 : (301 * v1).toInt = 301 * (n : Int) := by
      rw [i_mul (x := 301) (y := v1) (by show -2147483648 ≤ (301 : Int) * _; omega) (by show (301 : Int) * _ ≤ 2147483647; omega)]
      show (301 : Int) * _ = _
      omega
    have ee : (301 * v1 + o.2.1 57 n).toInt = 301 * (n : Int) + (o.2.1 57 n).toInt := by rw [i_add (by omega) (by omega)]; omega
    rcases ifc h with ⟨a, h⟩ | ⟨a, h⟩
    · have a := Int32.le_iff_toInt_le.mp a
      rcases ifc h with ⟨_, h⟩ | ⟨_, h⟩
      · cases h
      rw [opk] at h
      obtain ⟨q, hq, h⟩ := bd h
      rcases ifc h with ⟨_, h⟩ | ⟨_, h⟩
      · cases h
      rw [opk] at h
      have eq := (md_sp (o := xp o 63 n v2) B h2 (by omega) hq).2
      exact ⟨j, v2, q, by omega, h2, eq, fun k hk => H k (by omega), (Option.some.inj h).symm⟩
    · have a : ¬ (301 * v1 + o.2.1 57 n).toInt ≤ v3.toInt := fun q => a (Int32.le_iff_toInt_le.mpr q)
      obtain ⟨q, hq, h⟩ := bd h
      have gq := ga_sp B h3 h2 (by omega) (by omega) hq
      have p3 := pW (v := v3) (by omega) (by omega)
      rcases ifc h with ⟨z, h⟩ | ⟨z, h⟩
      · refine fb_go B h1 hn f (i + 1) j v2 (v3 + 1) r h2 (by omega) (by omega) (by omega) (fun k hk => ?_) h
        by_cases e : k = i
        · rw [e]; exact fun y => gq.mpr y z
        · exact H k (by omega)
      · refine fb_go B h1 hn f (i + 1) i v3 (v3 + 1) r h3 (by omega) (by omega) (by omega) (fun k hk => ?_) h
        have gi := gq.mp z
        by_cases e : k = i
        · rw [e]
          intro y
          unfold Ahd at y
          rw [lxd_r] at y
          omega
        · exact fun y => H k (by omega) (Ahd_t y gi)
theorem fb_sp {o : cf_O} {n : Nat} {v1 : Int32} {r : cf_O} (B : CbM o) (h1 : v1.toInt = (n : Int)) (hn : n < 209) (h0 : 1 ≤ (o.2.1 57 n).toInt) (h : fM_findBest v1 o = some r) : BsQ (o.2.1 62) (r.2.1 57) (r.2.1 59) (r.2.1 58) (r.2.1 63) n (r.2.1 62 n).toInt ∧ (∀ k : Nat, ¬ k = n → r.2.1 62 k = o.2.1 62 k ∧ r.2.1 63 k = o.2.1 63 k) := by
  unfold fM_findBest fM_findBest_0 at h
  rw [opk, opk, opk] at h
  have e301 : (301 * v1).toInt = 301 * (n : Int) := by
    rw [i_mul (x := 301) (y := v1) (by show -2147483648 ≤ (301 : Int) * _; omega) (by show (301 : Int) * _ ≤ 2147483647; omega)]
    show (301 : Int) * _ = _
    omega
  have p := pW (v := 301 * v1) (by omega) (by omega)
  obtain ⟨j, w, q, e1, e2, e3, e4, er⟩ := fb_go B h1 hn cfFU 1 0 (301 * v1) (301 * v1 + 1) r (by omega) (by omega) (by omega) (by omega) (fun k hk => by
    rw [show k = 0 by omega]
    intro y
    unfold Ahd at y
    rw [lxd_r] at y
    omega) h
  subst er
  refine ⟨⟨j, e1, ?_, ?_, e4⟩, fun k hk => ⟨?_, ?_⟩⟩
  · show (upd (o.2.1 63) n w n).toInt = _
    rw [up_s]; exact e2
  · show (upd (o.2.1 62) n q n).toInt = _
    rw [up_s]; exact e3
  · show upd (o.2.1 62) n q k = _
    rw [up_o hk]
  · show upd (o.2.1 63) n w k = _
    rw [up_o hk]
