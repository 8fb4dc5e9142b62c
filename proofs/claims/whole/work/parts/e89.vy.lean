theorem fnd_sp {b n K : Nat} {gr o : cf_O} {v2 : Int32} {r : Int32 × cf_O} (G : GW b n gr) (e2 : v2.toInt = (K : Int)) (hK : 2 ≤ K) (hK5 : K ≤ 5) (hl : 0 ≤ (o.1 4).toInt ∧ o.1 4 = o.1 5) (hC : o.1 0 = v2 → ∃ (R : Nat → List (List Nat)) (rows : List (List (List Int))), CFa b K gr (b + n) R rows o) (h : fCu_find v2 o gr = some r) : FCq b n K v2 gr r := by
  unfold fCu_find fCu_find_0 at h
  have G0 := G.1
  rcases ifc h with ⟨a, h⟩ | ⟨a, h⟩
  · have er := (Option.some.inj h).symm
    subst er
    exact Or.inr ⟨by show ¬ (1 : Int32) = 0; decide, a, hC a⟩
  · rw [opk, opk] at h
    refine fn_go G e2 hK hK5 cfFU 1 1 (fun _ => []) (List.replicate b []) (fp (fp o 0 0) 3 0) r rfl (Nat.le_refl _) (by omega) rfl ?_ h
    refine ⟨fun k k1 k2 => by omega, fun z => by omega, by show (0 : Int) ≤ (0 : Int32).toInt; decide, by show (0 : Int32).toInt ≤ _; show (0 : Int) ≤ _; omega, ⟨hl.1, hl.2⟩, ?_, ?_, fun k k1 k2 => by omega, fun k k1 k2 => by omega, fun k k0 k1 k2 => by omega, fun k k1 k2 => by omega⟩
    · rw [show 1 - b = 0 by omega]; rfl
    · rw [List.length_replicate]; omega
def BoQ (d : Nat → Int32) (dg : Int) (acc : List (List Nat)) (v : Int64) : Prop := (v = 9223372036854775807 ∧ ∀ l ∈ acc, ¬ dpC d (upL l) = dg) ∨ ∃ l ∈ acc, nv v = enc l ∧ dpC d (upL l) = dg ∧ ∀ k ∈ acc, dpC d (upL k) = dg → enc l ≤ enc k
theorem BoQ_s {d : Nat → Int32} {dg : Int} {acc : List (List Nat)} {a : List Nat} {v : Int64} (h : BoQ d dg acc v) (ha : nv v ≤ enc a) (hb : enc a < 9223372036854775807) : BoQ d dg (acc ++ [a]) v := by
  rcases h with ⟨h1, h2⟩ | ⟨l, h1, h2, h3, h4⟩
  · rw [h1] at ha
    have : nv (9223372036854775807 : Int64) = 9223372036854775807 := by decide
    omega
  · refine Or.inr ⟨l, List.mem_append_left _ h1, h2, h3, fun k hk hd => ?_⟩
    rcases List.mem_append.mp hk with q | q
    · exact h4 k q hd
    · rw [List.mem_singleton.mp q]; omega
theorem BoQ_n {d : Nat → Int32} {dg : Int} {acc : List (List Nat)} {a : List Nat} {v : Int64} (h : BoQ d dg acc v) (ha : ¬ dpC d (upL a) = dg) : BoQ d dg (acc ++ [a]) v := by
  rcases h with ⟨h1, h2⟩ | ⟨l, h1, h2, h3, h4⟩
  · refine Or.inl ⟨h1, fun l hl => ?_⟩
    rcases List.mem_append.mp hl with q | q
    · exact h2 l q
    · rw [List.mem_singleton.mp q]; exact ha
  · refine Or.inr ⟨l, List.mem_append_left _ h1, h2, h3, fun k hk hd => ?_⟩
    rcases List.mem_append.mp hk with q | q
    · exact h4 k q hd
    · rw [List.mem_singleton.mp q] at hd; exact absurd hd ha
theorem BoQ_t {d : Nat → Int32} {dg : Int} {acc : List (List Nat)} {a : List Nat} {v w : Int64} (h : BoQ d dg acc v) (ha : dpC d (upL a) = dg) (hw : nv w = enc a) (hv : enc a ≤ nv v) : BoQ d dg (acc ++ [a]) w := by
  refine Or.inr ⟨a, List.mem_append_right _ (List.mem_singleton.mpr rfl), hw, ha, fun k hk hd => ?_⟩
  rcases List.mem_append.mp hk with q | q
  · rcases h with ⟨h1, h2⟩ | ⟨l, h1, h2, h3, h4⟩
    · exact absurd hd (h2 k q)
    · have := h4 k q hd; omega
  · rw [List.mem_singleton.mp q]; exact Nat.le_refl _
theorem bo_go {g w : Nat} {acc : List (List Nat)} {v1 : Int32} {o : cf_O} (hg : g < 209) (g1 : 1 ≤ g) (e1 : v1.toInt = (g : Int)) (hw : w ≤ 65000) (hl : acc.length ≤ 300) (R : RowE o w acc) (fa : ∀ l ∈ acc, Fall g l ∧ 2 ≤ l.length ∧ l.length ≤ 5) (he : (o.2.1 2 (g + 1)).toInt = ((w + acc.length : Nat) : Int)) (hd : ∀ k : Nat, 1 ≤ k → k < g → 0 ≤ (o.2.1 1 k).toInt ∧ (o.2.1 1 k).toInt ≤ (k : Int)) : ∀ (f k : Nat) (v2 : Int64) (v4 : Int32) (r : Int64), v4.toInt = ((w + k : Nat) : Int) → k ≤ acc.length → nv v2 < 9223372036854775808 → BoQ (o.2.1 1) (o.2.1 1 g).toInt (acc.take k) v2 → gCu_bestOf f 0 v1 v2 v4 o = some r → BoQ (o.2.1 1) (o.2.1 1 g).toInt acc r
  | 0, k, v2, v4, r, e4, kl, hv, B, h => by cases h
  | f + 1, k, v2, v4, r, e4, kl, hv, B, h => by
    have h : fCu_bestOf_11 (gCu_bestOf f) v1 v2 v4 o = some r := h
    unfold fCu_bestOf_11 at h
    obtain ⟨q, hq, h⟩ := bd h
    have eq : q = o.2.1 2 (g + 1) := by
      unfold fCu_behindLastOf fCu_behindLastOf_0 at hq
      rw [opk] at hq
      rcases ifc hq with ⟨_, hq⟩ | ⟨_, hq⟩
      · cases hq
      rw [opk, tW (v := v1 + 1) (n := g + 1) (by rw [pW (by omega) (by omega)]; omega)] at hq
      exact (Option.some.inj hq).symm
    rcases ifc h with ⟨a, h⟩ | ⟨a, h⟩
    · have a := Int32.le_iff_toInt_le.mp a
      rw [eq] at a
      rw [List.take_of_length_le (by omega)] at B
      rw [← Option.some.inj h]; exact B
    · have a : ¬ q.toInt ≤ v4.toInt := fun z => a (Int32.le_iff_toInt_le.mpr z)
      rw [eq] at a
      have kl2 : k < acc.length := by omega
      have ek : acc[k]? = some acc[k] := List.getElem?_eq_getElem kl2
      have fk := fa _ (List.getElem_mem kl2)
      have rk := (R k _ ek).1
      have et : acc.take (k + 1) = acc.take k ++ [acc[k]] := by rw [List.take_add_one, ek]; rfl
      have p4 := pW (v := v4) (by omega) (by omega)
      have be := enc_lt fk.1 (by omega)
      have b5 := pw5 fk.2.2
      rcases ifc h with ⟨_, h⟩ | ⟨_, h⟩
      · cases h
      rw [opk, opk, tW e4] at h
      rcases ifc h with ⟨c, h⟩ | ⟨c, h⟩
      · have c := (lgc_n (by rw [rk]; omega) hv).mp c
        refine bo_go hg g1 e1 hw hl R fa he hd f (k + 1) v2 (v4 + 1) r (by omega) (by omega) hv ?_ h
        rw [et]; exact BoQ_s B (by rw [← rk]; exact c) (by omega)
      · have c : ¬ nv v2 ≤ nv (o.2.2 4 (w + k)) := fun z => c ((lgc_n (by rw [rk]; omega) hv).mpr z)
        rcases ifc h with ⟨_, h⟩ | ⟨_, h⟩
        · cases h
        rw [opk] at h
        obtain ⟨p, hp, h⟩ := bd h
        have ep := depth_sp (g := g) (by omega) fk.1 rk hp
        have dl := dpl_i fk.1 hd hg g1
        rcases ifc h with ⟨_, h⟩ | ⟨_, h⟩
        · cases h
        rw [opk, tW e1] at h
        rcases ifc h with ⟨y, h⟩ | ⟨y, h⟩
        · rcases ifc h with ⟨_, h⟩ | ⟨_, h⟩
          · cases h
          rw [opk] at h
          refine bo_go hg g1 e1 hw hl R fa he hd f (k + 1) _ (v4 + 1) r (by omega) (by omega) (by rw [rk]; omega) ?_ h
          rw [et]; exact BoQ_t B (by rw [← dl.1, ← ep, y]) rk (by omega)
        · refine bo_go hg g1 e1 hw hl R fa he hd f (k + 1) v2 (v4 + 1) r (by omega) (by omega) hv ?_ h
          rw [et]; exact BoQ_n B (fun z => y (Int32.toInt_inj.mp (by rw [ep, dl.1, z])))
theorem lxd_a : ∀ {X Y : List Int} {x y : Int}, X.length = Y.length → lxd (X ++ [x]) (Y ++ [y]) = if lxd X Y = 0 then x - y else lxd X Y
  | [], [], x, y, _ => by
    show lxd [x] [y] = if (0 : Int) = 0 then x - y else 0
    rw [if_pos rfl, lxd]
    split
    · rename_i h; rw [h]; rfl
    · rfl
  | [], b :: Y, _, _, e => by cases e
  | a :: X, [], _, _, e => by cases e
  | a :: X, b :: Y, x, y, e => by
    show lxd (a :: (X ++ [x])) (b :: (Y ++ [y])) = _
    rw [lxd, lxd]
    by_cases c : a - b = 0
    · rw [if_pos c, if_pos c]; exact lxd_a (Nat.succ.inj e)
    · rw [if_neg c, if_neg c, if_neg c]
theorem up_inj {l k : List Nat} (h : upL l = upL k) : l = k := by
  unfold upL at h
  have h := List.reverse_inj.mp h
  exact (List.map_inj_right (f := fun a : Nat => (a : Int)) (fun (a b : Nat) (e : (a : Int) = (b : Int)) => by omega)).mp h
theorem enc_lx : ∀ {l k : List Nat} {g : Nat}, g ≤ 256 → Fall g l → Fall g k → l.length = k.length → enc l ≤ enc k → lxd (upL l) (upL k) ≤ 0
  | [], [], _, _, _, _, _, _ => Int.le_refl _
  | [], b :: k, _, _, _, _, e, _ => by cases e
  | a :: l, [], _, _, _, _, e, _ => by cases e
  | a :: l, b :: k, g, hg, fl, fk, e, h => by
    have e : l.length = k.length := Nat.succ.inj e
    have h : a + 256 * enc l ≤ b + 256 * enc k := h
    have a1 := fl.1
    have b1 := fk.1
    have fl2 : Fall g l := Fall_le fl.2 (by omega)
    have fk2 : Fall g k := Fall_le fk.2 (by omega)
    have el : (upL l).length = (upL k).length := by rw [up_l, up_l]; exact e
    have i1 := enc_lx hg fl2 fk2 e
    rw [up_c, up_c, lxd_a el]
    by_cases c : lxd (upL l) (upL k) = 0
    · rw [if_pos c]
      have z := up_inj (lxd_z el c)
      rw [z] at h
      omega
    · rw [if_neg c]
      rcases Nat.lt_or_ge (enc k) (enc l) with q | q
      · omega
      · exact i1 q
theorem enc_ln {l k : List Nat} {g : Nat} (hg : g ≤ 256) (fl : Fall g l) (fk : Fall g k) (h : enc l ≤ enc k) : l.length ≤ k.length := by
  have := enc_lt fk hg
  exact (enc_w fl hg).mp (by omega)
theorem DSq_u {b m : Nat} {rows : List (List (List Int))} {d d2 : Nat → Int32} (hb : 1 ≤ b) (h1 : DSq b m rows d) (h2 : DSq b m rows d2) (hn : ∀ k : Nat, b ≤ k → k < m → ∀ C ∈ rows.getD k [], ∀ x ∈ C, 1 ≤ x ∧ x < (k : Int)) : ∀ j k : Nat, k < j → 1 ≤ k → k < m → d k = d2 k
  | 0, k, hj, _, _ => by omega
  | j + 1, k, hj, k1, k2 => by
    by_cases c : k < b
    · exact Int32.toInt_inj.mp (by rw [h1.1 k k1 c k2, h2.1 k k1 c k2])
    · have de : ∀ C ∈ rows.getD k [], dpC d C = dpC d2 C := fun C hC => dpC_e (fun x hx => by
        have := hn k (by omega) k2 C hC x hx
        exact (DSq_u hb h1 h2 hn j x.toNat (by omega) (by omega) (by omega)).symm)
      obtain ⟨⟨C, c1, c2⟩, c3⟩ := h1.2 k (by omega) k2
      obtain ⟨⟨D, d1, d3⟩, d4⟩ := h2.2 k (by omega) k2
      have x1 := c3 D d1
      have x2 := d4 C c1
      rw [de D d1] at x1
      rw [← de C c1] at x2
      exact Int32.toInt_inj.mp (by omega)
theorem row_m {cc cs cn : Nat → Int32} {n : Nat} {C : List Int} : C ∈ rowL cc cs cn n ↔ ∃ k : Nat, (k : Int) < (cc n).toInt ∧ C = cutL cs cn (301 * n + k) := by
  unfold rowL
  rw [List.mem_map]
  constructor
  · rintro ⟨k, h1, h2⟩
    have := List.mem_range.mp h1
    exact ⟨k, by omega, h2.symm⟩
  · rintro ⟨k, h1, h2⟩
    exact ⟨k, List.mem_range.mpr (by omega), h2.symm⟩
theorem rows_d {cc cs cn : Nat → Int32} {N n : Nat} (h : n < N) : (rowsL cc cs cn N).getD n [] = rowL cc cs cn n := by
  unfold rowsL
  rw [List.getD_eq_getElem?_getD, List.getElem?_map, List.getElem?_range h]; rfl
theorem BqZ_d {b n : Nat} {cc cs cn dp be : Nat → Int32} (h : BqZ 0 (b : Int) (n : Int) cc cs cn dp be) : DSq b (b + n) (rowsL cc cs cn (b + n)) dp := by
  obtain ⟨h0, h1⟩ := h rfl
  refine ⟨fun k _ k1 k2 => h0 k (by omega), fun k k1 k2 => ?_⟩
  obtain ⟨rb, j, j1, j2, j3, j4⟩ := h1 k (by omega) (by omega)
  rw [rows_d k2]
  refine ⟨⟨_, row_m.mpr ⟨j, j1, rfl⟩, j3⟩, fun C hC => ?_⟩
  obtain ⟨i, i1, i2⟩ := row_m.mp hC
  have z := j4 i i1
  rw [i2, j3]
  rcases Int.lt_or_le (dpC dp (cutL cs cn (301 * k + i))) (dpC dp (cutL cs cn (301 * k + j))) with q | q
  · exact absurd (Or.inl q) z
  · exact q
theorem cutsN_c {b K : Nat} {on tw on2 tw2 : Nat → Int32} : ∀ {n : Nat}, (∀ g : Nat, g < n → on2 g = on g ∧ tw2 g = tw g) → cutsN b on2 tw2 K n = cutsN b on tw K n
  | 0, _ => rfl
  | n + 1, h => by
    rw [cutsN, cutsN, cutsN_c (fun g hg => h g (by omega)), (h n (by omega)).1, (h n (by omega)).2]
def CutS (b n K : Nat) (cu om : cf_O) : Prop := ∀ (g : Nat) (v1 : Int32) (v : Int64), b ≤ g → g < b + n → v1.toInt = (g : Int) → fCu_bestOf v1 cu = some v → ∃ (l : List Nat) (c : Nat), nv v = enc l ∧ Fall g l ∧ 2 ≤ l.length ∧ l.length ≤ K ∧ (om.2.1 63 g).toInt = (c : Int) ∧ c < 63210 ∧ cutL (om.2.1 59) (om.2.1 58) c = upL l ∧ ∃ j : Nat, (j : Int) < (om.2.1 57 g).toInt ∧ c = 301 * g + j
theorem cut_alike {b n K : Nat} {gr om : cf_O} {v2 : Int32} {r rm : Int32 × cf_O} (G : GW b n gr) (R : RGq b n gr om) (hK : 2 ≤ K) (hK5 : K ≤ 5) (F : FCq b n K v2 gr r) (fr : Fr (fr_M [36] [57, 58, 59, 60, 61, 62, 63] []) om rm.2) (ok : okO I_M rm.2) (i1 : (0 : Int) ≤ rm.1.toInt ∧ rm.1.toInt ≤ 1) (BC : Bc rm.1.toInt (b : Int) (n : Int) (K : Int) (rm.2.2.1 63) (rm.2.2.1 59)) (H : Hs rm.1.toInt (b : Int) (n : Int) (K : Int) (om.2.1 44) (om.2.1 45)) (Q : KbQ rm.1.toInt (b : Int) (n : Int) (K : Int) (om.2.1 44) (om.2.1 45) (rm.2.2.1 57) (rm.2.2.1 59) (rm.2.2.1 58) (rm.2.2.1 62) (rm.2.2.1 63)) : (r.1 = 0 ∧ rm.1 = 0) ∨ (¬ r.1 = 0 ∧ ¬ rm.1 = 0 ∧ CutS b n K r.2 rm.2) := by
  have G0 := G.1
  have ec : cutsN b (shN b (gr.2.1 4)) (shN b (gr.2.1 5)) K n = cutsN b (om.2.1 44) (om.2.1 45) K n := cutsN_c (fun g hg => ⟨(R.2.1 g hg).1.symm, (R.2.1 g hg).2.symm⟩)
  unfold Hs at H
  unfold KbQ at Q
  rw [show (b : Int).toNat = b from rfl, show (n : Int).toNat = n from rfl, show (K : Int).toNat = K from rfl] at H Q
  have z0 : rm.1.toInt = 0 ↔ rm.1 = 0 := ⟨fun q => Int32.toInt_inj.mp (by rw [q]; rfl), fun q => by rw [q]; rfl⟩
  rcases F with ⟨f1, f2, _⟩ | ⟨f1, f2, RR, rows, C⟩
  · refine Or.inl ⟨f1, ?_⟩
    rw [ec] at f2
    by_cases q : rm.1.toInt = 0
    · exact z0.mp q
    · have := H.1 q
      rw [f2] at this
      cases this
  · have c6 := C.2.2.2.2.2.1
    rw [show b + n - b = n by omega, ec] at c6
    have q : ¬ rm.1.toInt = 0 := fun q => by
      have := H.2 q
      rw [c6] at this
      cases this
    obtain ⟨q1, q2⟩ := Q q
    refine Or.inr ⟨f1, fun z => q (z0.mpr z), fun g v1 v g1 g2 e1 hv => ?_⟩
    rw [c6] at q1
    have er : rows = rowsL (rm.2.2.1 57) (rm.2.2.1 59) (rm.2.2.1 58) (b + n) := by
      have := Option.some.inj q1
      rw [this]; rfl
    have DR := BqZ_d q2
    rw [← er] at DR
    obtain ⟨C1, C2, C3, C4, C5, C6, C7, C8, C9, C10⟩ := C
    have hn : ∀ k : Nat, b ≤ k → k < b + n → ∀ X ∈ rows.getD k [], ∀ x ∈ X, 1 ≤ x ∧ x < (k : Int) := fun k k1 k2 X hX x hx => by
      obtain ⟨l, l1, l2⟩ := List.mem_map.mp ((C8 k (by omega) k2 X).mpr hX)
      rw [← l2] at hx
      obtain ⟨a, a1, a2⟩ := up_m.mp hx
      have := Fall_lt ((C1 k (by omega) k2).2.2.2.2.1 l l1).1 a1
      omega
    have de := DSq_u G0.2.2.2.1 C10 DR hn (b + n)
    obtain ⟨a1, a2, a3, a4, a5, a6, a7⟩ := C1 g (by omega) g2
    -- the class's
    unfold fCu_bestOf fCu_bestOf_0 at hv
    obtain ⟨w, hw, hv⟩ := bd hv
    unfold fCu_firstOf fCu_firstOf_0 at hw
    rcases ifc hw with ⟨_, hw⟩ | ⟨_, hw⟩
    · cases hw
    rw [opk, opk, tW e1] at hw
    have ew := (Option.some.inj hw).symm
    have pw := pW (v := r.2.2.1 2 g) a2 (by omega)
    have RE : RowE r.2 ((r.2.2.1 2 g).toInt.toNat + 1) (RR g) := fun k l hk => by
      have z := a1 (k + 1) l hk
      rw [show (r.2.2.1 2 g).toInt.toNat + (k + 1) = (r.2.2.1 2 g).toInt.toNat + 1 + k by omega] at z
      exact z
    have B := bo_go (g := g) (w := (r.2.2.1 2 g).toInt.toNat + 1) (acc := RR g) (by omega) (by omega) e1 (by omega) a7 RE a5 (by omega) (fun k k1 k2 => C9 k k1 (by omega)) cfFU 0 9223372036854775807 w v (by rw [ew, pw]; omega) (Nat.zero_le _) (by decide) (Or.inl ⟨rfl, fun l hl => by rw [List.take_zero] at hl; exact absurd hl (List.not_mem_nil)⟩) hv
    obtain ⟨⟨X, x1, x2⟩, x3⟩ := C10.2 g g1 g2
    rcases B with ⟨_, B⟩ | ⟨l, l1, l2, l3, l4⟩
    · obtain ⟨k, k1, k2⟩ := List.mem_map.mp ((C8 g (by omega) g2 X).mpr x1)
      exact absurd (by rw [k2]; exact x2.symm) (B k k1)
    · -- the reference's
      obtain ⟨_, y⟩ := q2 rfl
      obtain ⟨rb, j, j1, j2, j3, j4⟩ := y g (by omega) (by omega)
      have cb := (CbM_i ok).2.2.2 g
      have hC : cutL (rm.2.2.1 59) (rm.2.2.1 58) (301 * g + j) ∈ rows.getD g [] := by
        rw [er, rows_d g2]; exact row_m.mpr ⟨j, j1, rfl⟩
      obtain ⟨k, k1, k2⟩ := List.mem_map.mp ((C8 g (by omega) g2 _).mpr hC)
      have hl : upL l ∈ rows.getD g [] := (C8 g (by omega) g2 _).mp (List.mem_map.mpr ⟨l, l1, rfl⟩)
      have nA : ¬ Ahd (rm.2.2.1 62) (upL l) (upL k) := by
        have hl2 := hl
        rw [er, rows_d g2] at hl2
        obtain ⟨i, i1, i2⟩ := row_m.mp hl2
        rw [i2, k2]; exact j4 i i1
      have dn : ∀ X : List Int, X ∈ rows.getD g [] → dpC (r.2.2.1 1) X = dpC (rm.2.2.1 62) X := fun X hX => dpC_e (fun x hx => by
        have := hn g g1 g2 X hX x hx
        exact (de x.toNat (by omega) (by omega) (by omega)).symm)
      have d1 := dn _ hl
      have d2 := dn _ hC
      rw [← k2] at d2 j3
      have d3 := x3 _ hC
      rw [← k2] at d3
      have lk : l = k := by
        unfold Ahd at nA
        have f1 := (a5 l l1).1
        have f2 := (a5 k k1).1
        have dk : dpC (r.2.2.1 1) (upL k) = (r.2.2.1 1 g).toInt := by
          rcases Int.lt_or_le (dpC (rm.2.2.1 62) (upL l)) (dpC (rm.2.2.1 62) (upL k)) with q | q
          · exact absurd (Or.inl q) nA
          · omega
        have le := l4 k k1 dk
        have ln := enc_ln (by omega) f1 f2 le
        rw [up_l, up_l] at nA
        have el : l.length = k.length := by
          rcases Nat.lt_or_ge l.length k.length with q | q
          · exact absurd (Or.inr ⟨by omega, Or.inl q⟩) nA
          · omega
        have lx := enc_lx (g := g) (by omega) f1 f2 el le
        rcases Int.lt_or_le (lxd (upL l) (upL k)) 0 with q | q
        · exact absurd (Or.inr ⟨by omega, Or.inr ⟨el, q⟩⟩) nA
        · exact up_inj (lxd_z (by rw [up_l, up_l]; exact el) (by omega))
      refine ⟨l, 301 * g + j, l2, (a5 l l1).1, (a5 l l1).2.1, ?_, by rw [j2], by omega, by rw [lk]; exact k2.symm, j, j1, rfl⟩
      have bc := (BC (by omega) g (by omega) (by omega)).2.2
      rw [tW j2] at bc
      have kl : (upL k).length = ((rm.2.2.1 59) (301 * g + j)).toInt.toNat := by rw [k2, cutL_len]
      rw [up_l] at kl
      rw [lk]
      omega
