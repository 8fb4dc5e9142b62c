theorem cf_15 {rc : Nat → Int32 → Int32 → cf_O → cf_O → Option cf_O} {v2 v5 : Int32} {o o1 r : cf_O} (h : fCo_find_15 rc v2 v5 o o1 = some r) : (v5.toInt ≤ (o.2.1 2 0).toInt ∧ rc 1 v2 (o.2.1 2 0 + 1) o o1 = some r) ∨ ((o.2.1 2 0).toInt < v5.toInt ∧ ((¬ o.2.1 3 v5.toNatClampNeg = 1 ∧ rc 0 v2 (v5 + (-1)) o o1 = some r) ∨ (o.2.1 3 v5.toNatClampNeg = 1 ∧ ∃ q w : cf_O, fCo_reach (o1.2.1 4 v5.toNatClampNeg >>> ((1 : Int32) &&& 31)) o = some q ∧ fCo_reach (o1.2.1 5 v5.toNatClampNeg >>> ((1 : Int32) &&& 31)) q = some w ∧ rc 0 v2 (v5 + (-1)) w o1 = some r))) := by
  unfold fCo_find_15 at h
  have h := (ifn h).2
  rw [opk, show (0 : Int32).toNatClampNeg = 0 from rfl] at h
  rcases ifc h with ⟨a, h⟩ | ⟨a, h⟩
  · have h := (ifn h).2
    rw [opk, opk] at h
    exact Or.inl ⟨c_le a, h⟩
  · refine Or.inr ⟨c_nle a, ?_⟩
    have h := (ifn h).2
    rw [opk] at h
    rcases ifc h with ⟨c, h⟩ | ⟨c, h⟩
    · have h := (ifn h).2
      rw [opk, opk] at h
      obtain ⟨q, hq, h⟩ := bd h
      have h := (ifn h).2
      rw [opk, opk] at h
      obtain ⟨w, hw, h⟩ := bd h
      exact Or.inr ⟨c, q, w, hq, hw, h⟩
    · exact Or.inl ⟨c, h⟩
theorem cf_79 {rc : Nat → Int32 → Int32 → cf_O → cf_O → Option cf_O} {v2 v5 : Int32} {o o1 r : cf_O} (h : fCo_find_79 rc v2 v5 o o1 = some r) : (v2.toInt < v5.toInt ∧ ∃ q : Int32, fCo_full (o.1 0) = some q ∧ r = fp o 1 (o.2.1 4 v2.toNatClampNeg &&& q)) ∨ (¬ v2.toInt < v5.toInt ∧ ((¬ o.2.1 3 v5.toNatClampNeg = 1 ∧ rc 1 v2 (v5 + 1) o o1 = some r) ∨ (o.2.1 3 v5.toNatClampNeg = 1 ∧ ∃ x y : Int32, fCo_valueOf (o1.2.1 4 v5.toNatClampNeg) o = some x ∧ fCo_valueOf (o1.2.1 5 v5.toNatClampNeg) o = some y ∧ rc 1 v2 (v5 + 1) (xp o 4 v5.toNatClampNeg (x &&& y)) o1 = some r))) := by
  unfold fCo_find_79 at h
  rcases ifc h with ⟨a, h⟩ | ⟨a, h⟩
  · have h := (ifn h).2
    rw [opk] at h
    obtain ⟨q, hq, h⟩ := bd h
    rw [opk, opk] at h
    exact Or.inl ⟨Int32.lt_iff_toInt_lt.mp a, q, hq, (Option.some.inj h).symm⟩
  · refine Or.inr ⟨fun q => a (Int32.lt_iff_toInt_lt.mpr q), ?_⟩
    have h := (ifn h).2
    rw [opk] at h
    rcases ifc h with ⟨c, h⟩ | ⟨c, h⟩
    · have h := (ifn h).2
      rw [opk] at h
      obtain ⟨x, hx, h⟩ := bd h
      have h := (ifn h).2
      rw [opk] at h
      obtain ⟨y, hy, h⟩ := bd h
      rw [opk] at h
      have h := (ifn h).2
      rw [opk] at h
      exact Or.inr ⟨c, x, y, hx, hy, h⟩
    · exact Or.inl ⟨c, h⟩
theorem dn_go {b n g z : Nat} {C : List Int} {gr O : cf_O} {v2 : Int32} (G : GW b n gr) (hg : g < b + n) (hc : CvG b gr C g) (gC : ¬ (g : Int) ∈ C) (hz : ∀ y ∈ C, (z : Int) ≤ y) : ∀ (fu m : Nat) (v5 : Int32) (o r : cf_O), v5.toInt = (m : Int) → m ≤ g → z ≤ m → (o.2.1 2 0).toInt = (z : Int) → Fr (fr_M [] [3] []) O o → DnQ gr C g m (o.2.1 3) → gCo_find fu 0 v2 v5 o gr = some r → ∃ (f : Nat) (v : Int32) (o' : cf_O), v.toInt = (z : Int) + 1 ∧ Fr (fr_M [] [3] []) O o' ∧ BtS gr C g (fun k => o'.2.1 3 k = 1) ∧ gCo_find f 1 v2 v o' gr = some r
  | 0, m, v5, o, r, e5, mg, zm, e0, fr, D, h => by cases h
  | fu + 1, m, v5, o, r, e5, mg, zm, e0, fr, D, h => by
    have G0 := G.1
    have h : fCo_find_15 (gCo_find fu) v2 v5 o gr = some r := h
    rcases cf_15 h with ⟨a, h⟩ | ⟨a, h⟩
    · have em : m = z := by omega
      subst em
      refine ⟨fu, o.2.1 2 0 + 1, o, by rw [pW (by omega) (by omega)]; omega, fr, fun k hk => ?_, h⟩
      show o.2.1 3 k = 1 ↔ _
      constructor
      · intro q
        rcases D k hk with ⟨_, c⟩ | ⟨kC, ⟨_, c | ⟨p, p1, p2, p3, p4, p5⟩⟩ | ⟨c, _⟩⟩
        · rw [q] at c; exact absurd c (by decide)
        · exact Or.inl c
        · exact Or.inr ⟨kC, p, p1, p3, p4, p5⟩
        · rw [q] at c; exact absurd c (by decide)
      · intro q
        have kC : ¬ (k : Int) ∈ C := by
          rcases q with q | q
          · rw [q]; exact gC
          · exact q.1
        have R : Rch gr g m (o.2.1 3) k := by
          rcases q with q | ⟨_, p, p1, p2, p3, p4⟩
          · exact Or.inl q
          · obtain ⟨i1, i2, i3⟩ := DnQ_c G hg hc gC D (g + 1) p (by omega) (by omega) p3
            have := (Cv_ge G hz _ p (by omega) i1).2 i3
            exact Or.inr ⟨p, p1, this, p2, p3, p4⟩
        rcases D k hk with ⟨c, _⟩ | ⟨_, ⟨c, _⟩ | ⟨_, c⟩⟩
        · exact absurd c kC
        · exact c
        · exact absurd R c
    · obtain ⟨j, ej⟩ : ∃ j : Nat, m = j + 1 := ⟨m - 1, by omega⟩
      subst ej
      have em := m_1g (v := v5) (by omega)
      generalize v5 + (-1) = w5 at h em
      rw [tW e5] at h
      rcases h with ⟨c, h⟩ | ⟨c, q, w, hq, hw, h⟩
      · exact dn_go G hg hc gC hz fu j w5 o r (by omega) (by omega) (by omega) e0 fr (DnQ_n D c) h
      · obtain ⟨i1, i2, i3⟩ := DnQ_c G hg hc gC D (g + 1) (j + 1) (by omega) (by omega) c
        have cg := Cv_g G (by omega) i1 i3
        have ch := Gch G cg.1 (by omega)
        obtain ⟨f1, r1⟩ := reach_sp (sr_i (x := gr.2.1 4 (j + 1)) (by omega)) hq
        obtain ⟨f2, r2⟩ := reach_sp (sr_i (x := gr.2.1 5 (j + 1)) (by omega)) hw
        rw [r1] at r2
        have fw : Fr (fr_M [] [3] []) o w := fr_tr (fr_tr fr_rfl f1 rfl rfl rfl) f2 rfl rfl rfl
        refine dn_go G hg hc gC hz fu j w5 w r (by omega) (by omega) (by omega) (by rw [fw.2.1 2 rfl]; exact e0) (fr_tr fr fw rfl rfl rfl) ?_ h
        rw [r2]
        exact DnQ_s D c (by omega) rfl rfl (by omega) (by omega)
theorem bt_xn {x y : Int32} {i : Nat} (hi : i < 32) (h0 : 0 ≤ x.toInt) : bt (y ^^^ -(x &&& 1)) i = (bt y i ^^ od x) := by
  have e := i_a1 h0
  unfold od
  by_cases c : x.toInt % 2 = 1
  · rw [show x &&& 1 = 1 from Int32.toInt_inj.mp (by rw [e, c]; rfl), decide_eq_true c, show (-1 : Int32) = -1 from rfl, bt_xm hi, Bool.xor_true]
  · rw [show x &&& 1 = 0 from Int32.toInt_inj.mp (by rw [e, show (0 : Int32).toInt = 0 from rfl]; omega), decide_eq_false c, show (-0 : Int32) = 0 from rfl, Int32.xor_zero, Bool.xor_false]
theorem val_sp {x q : Int32} {o : cf_O} (h0 : 0 ≤ x.toInt) (h : fCo_valueOf x o = some q) : ∀ i : Nat, i < 32 → bt q i = (bt (o.2.1 4 (x.toInt.toNat / 2)) i ^^ od x) := by
  intro i hi
  unfold fCo_valueOf fCo_valueOf_0 at h
  rw [opk] at h
  have h := (ifn h).2
  rw [opk, opk, opk, opk, sr_i h0] at h
  rw [← Option.some.inj h]
  exact bt_xn hi h0
def CoQ (gr : cf_O) (C : List Int) (g : Nat) (W : Nat → Nat → Bool) (r : cf_O) : Prop := (r.1 0).toInt = (C.length : Int) ∧ (∀ j x : Nat, C[j]? = some (x : Int) → (r.2.1 2 j).toInt = (x : Int)) ∧ (∀ j : Nat, j < 32 → bt (r.1 1) j = (decide (j < 2 ^ C.length) && W g j)) ∧ BtS gr C g (fun k => r.2.1 3 k = 1)
theorem vup_go {b n g : Nat} {C : List Int} {gr O : cf_O} {v2 : Int32} {W : Nat → Nat → Bool} (G : GW b n gr) (hg : g < b + n) (hc : CvG b gr C g) (gC : ¬ (g : Int) ∈ C) (hV : CVq b n gr C W) (B : BtS gr C g (fun k => O.2.1 3 k = 1)) (e2 : v2.toInt = (g : Int)) (h5 : C.length ≤ 5) (e0 : (O.1 0).toInt = (C.length : Int)) : ∀ (fu m : Nat) (v5 : Int32) (o r : cf_O), v5.toInt = (m : Int) → m ≤ g + 1 → Fr (fr_M [] [4] []) O o → (∀ k : Nat, k < 209 → ((k : Int) ∈ C ∨ (O.2.1 3 k = 1 ∧ k < m)) → ∀ i : Nat, i < 32 → bt (o.2.1 4 k) i = W k i) → gCo_find fu 1 v2 v5 o gr = some r → Fr (fr_M [1] [4] []) O r ∧ ∀ j : Nat, j < 32 → bt (r.1 1) j = (decide (j < 2 ^ C.length) && W g j)
  | 0, m, v5, o, r, e5, mg, fr, H, h => by cases h
  | fu + 1, m, v5, o, r, e5, mg, fr, H, h => by
    have G0 := G.1
    have h : fCo_find_79 (gCo_find fu) v2 v5 o gr = some r := h
    rcases cf_79 h with ⟨a, q, hq, er⟩ | ⟨a, h⟩
    · have em : m = g + 1 := by omega
      subst em; subst er
      rw [fr.1 0 rfl, on_i e0, fl_t _ (by omega)] at hq
      have eq := (Option.some.inj hq).symm
      refine ⟨fr_fp (fr_tr fr_rfl fr rfl rfl rfl) rfl, fun j hj => ?_⟩
      have Bg : O.2.1 3 g = 1 := (B g (by omega)).mpr (Or.inl rfl)
      show bt (o.2.1 4 v2.toNatClampNeg &&& q) j = _
      rw [tW e2, bt_and, H g (by omega) (Or.inr ⟨Bg, by omega⟩) j hj, eq, fl_b _ (by omega) j hj, Bool.and_comm]
    · have p5 := pW (v := v5) (by omega) (by omega)
      rw [tW e5, fr.2.1 3 rfl] at h
      rcases h with ⟨c, h⟩ | ⟨c, x, y, hx, hy, h⟩
      · refine vup_go G hg hc gC hV B e2 h5 e0 fu (m + 1) (v5 + 1) o r (by omega) (by omega) fr (fun k hk q => H k hk ?_) h
        rcases q with q | ⟨q1, q2⟩
        · exact Or.inl q
        · by_cases ek : k = m
          · rw [ek] at q1; exact absurd q1 c
          · exact Or.inr ⟨q1, by omega⟩
      · obtain ⟨i1, i2, i3⟩ := BtS_c G hg hc gC B (g + 1) m (by omega) (by omega) c
        have cg := Cv_g G (by omega) i1 i3
        have ch := Gch G cg.1 (by omega)
        have kid : ∀ k : Nat, chd gr m k → k < m → ∀ i : Nat, i < 32 → bt (o.2.1 4 k) i = W k i := fun k q1 q2 => by
          by_cases kC : (k : Int) ∈ C
          · exact H k (by omega) (Or.inl kC)
          · exact H k (by omega) (Or.inr ⟨(B k (by omega)).mpr (Or.inr ⟨kC, m, q2, i2, c, q1⟩), q2⟩)
        have vx := val_sp (x := gr.2.1 4 m) (by omega) hx
        have vy := val_sp (x := gr.2.1 5 m) (by omega) hy
        have kx := kid _ (Or.inl rfl) (by omega)
        have ky := kid _ (Or.inr rfl) (by omega)
        have wm : ∀ i : Nat, W m i = (lvq W (gr.2.1 4 m) i && lvq W (gr.2.1 5 m) i) := fun i => by
          have z := hV.2.2 (m - b) i (by omega) (by rw [show b + (m - b) = m by omega]; exact i3)
          rw [show b + (m - b) = m by omega] at z; exact z
        refine vup_go G hg hc gC hV B e2 h5 e0 fu (m + 1) (v5 + 1) _ r (by omega) (by omega) (fr_xp fr rfl) (fun k hk q i hi => ?_) h
        show bt (upd (o.2.1 4) m (x &&& y) k) i = W k i
        by_cases ek : k = m
        · rw [ek, up_s, bt_and, vx i hi, vy i hi, kx i hi, ky i hi, wm i]; rfl
        · rw [up_o ek]
          refine H k hk ?_ i hi
          rcases q with q | ⟨q1, q2⟩
          · exact Or.inl q
          · exact Or.inr ⟨q1, by omega⟩
theorem pt_b : ∀ k : Nat, k < 5 → ∀ i : Nat, i < 32 → bt (cf_patterns k) i = i.testBit k := by decide +kernel
theorem cone_sp {b n g : Nat} {l : List Nat} {gr o r : cf_O} {v2 : Int32} {v : Int64} {W : Nat → Nat → Bool} (G : GW b n gr) (hg : g < b + n) (hv : nv v = enc l) (f : Fall g l) (h1 : 1 ≤ l.length) (h5 : l.length ≤ 5) (hc : CvG b gr (upL l) g) (hV : CVq b n gr (upL l) W) (e2 : v2.toInt = (g : Int)) (h : fCo_find v2 v o gr = some r) : CoQ gr (upL l) g W r ∧ Fr (fr_M [0, 1] [2, 3, 4] []) o r := by
  have G0 := G.1
  have ul : (upL l).length = l.length := up_l
  unfold fCo_find fCo_find_0 at h
  obtain ⟨q, hq, h⟩ := bd h
  have h := (ifn h).2
  rw [opk, tW e2] at h
  obtain ⟨q1, q2, q3, q4⟩ := tcut_sp hv f (by omega) h1 h5 hq
  have gC : ¬ (g : Int) ∈ upL l := fun z => by
    have := Fall_lt f (up_n.mp z)
    omega
  obtain ⟨z, hz⟩ : ∃ z : Nat, (upL l)[0]? = some (z : Int) := by
    obtain ⟨x, hx⟩ : ∃ x, l[l.length - 1 - 0]? = some x := ⟨l[l.length - 1 - 0], List.getElem?_eq_getElem (by omega)⟩
    exact ⟨x, by rw [up_g (by omega), hx]; rfl⟩
  have sd := up_sd f
  have zm : ∀ y ∈ upL l, (z : Int) ≤ y := fun y hy => by
    obtain ⟨j, hj⟩ := List.mem_iff_getElem?.mp hy
    by_cases j0 : j = 0
    · rw [j0, hz] at hj
      have := Option.some.inj hj; omega
    · have := sd_lt sd (show 0 < j by omega) hz hj; omega
  have zg : z < g := by
    have := Fall_lt f (up_n.mp (List.mem_of_getElem? hz)); omega
  have tl : (upL l).take l.length = upL l := List.take_of_length_le (by rw [ul]; exact Nat.le_refl _)
  rw [tl] at q4
  have n0 := (q3 0 z (by omega) hz).1
  have D0 : DnQ gr (upL l) g g ((xp q 3 g 1).2.1 3) := fun k hk => by
    show ((k : Int) ∈ upL l ∧ upd (q.2.1 3) g 1 k = 2) ∨ (¬ (k : Int) ∈ upL l ∧ ((upd (q.2.1 3) g 1 k = 1 ∧ Rch gr g g (upd (q.2.1 3) g 1) k) ∨ (upd (q.2.1 3) g 1 k = 0 ∧ ¬ Rch gr g g (upd (q.2.1 3) g 1) k)))
    by_cases ek : k = g
    · subst ek
      rw [up_s]
      exact Or.inr ⟨gC, Or.inl ⟨rfl, Or.inl rfl⟩⟩
    · rw [up_o ek]
      rcases q4 k hk with ⟨c, d⟩ | ⟨c, d⟩
      · exact Or.inl ⟨c, d⟩
      · refine Or.inr ⟨c, Or.inr ⟨d, ?_⟩⟩
        rintro (y | ⟨p, p1, p2, p3, _⟩)
        · exact ek y
        · omega
  obtain ⟨fu, v5, o', e5, fo, B, h⟩ := dn_go (O := xp q 3 g 1) G hg hc gC zm cfFU g v2 (xp q 3 g 1) r e2 (Nat.le_refl _) (by omega) n0 fr_rfl D0 h
  have fo' : Fr (fr_M [0] [2, 3, 4] []) o o' := fr_tr (fr_xp q2 rfl) fo rfl rfl rfl
  have e0 : (o'.1 0).toInt = ((upL l).length : Int) := by rw [fo.1 0 rfl, ul]; exact q1
  obtain ⟨u1, u2⟩ := vup_go (O := o') G hg hc gC hV B e2 (by omega) e0 fu (z + 1) v5 o' r (by omega) (by omega) fr_rfl (fun k hk y i hi => by
    rcases y with y | ⟨y1, y2⟩
    · obtain ⟨j, hj⟩ := List.mem_iff_getElem?.mp y
      have jl : j < (upL l).length := (List.getElem?_eq_some_iff.mp hj).1
      rw [fo.2.1 4 rfl]
      show bt (q.2.1 4 k) i = _
      rw [(q3 j k (by omega) hj).2, pt_b j (by omega) i hi, hV.1 j k i hj]
    · obtain ⟨i1, _, i3⟩ := BtS_c G hg hc gC B (g + 1) k (by omega) hk y1
      have := (Cv_ge G zm _ k (by omega) i1).2 i3
      omega) h
  refine ⟨⟨by rw [u1.1 0 rfl]; exact e0, fun j x hj => ?_, u2, ?_⟩, fr_tr (fr_tr fr_rfl fo' rfl rfl rfl) u1 rfl rfl rfl⟩
  · have jl : j < (upL l).length := (List.getElem?_eq_some_iff.mp hj).1
    rw [u1.2.1 2 rfl, fo.2.1 2 rfl]
    exact (q3 j x (by omega) hj).1
  · rw [u1.2.1 3 rfl]; exact B
