theorem pl_h : ∀ q : Nat, q < 8 → (Int32.ofNat q >>> ((1 : Int32) &&& 31)).toInt = ((q / 2 : Nat) : Int) ∧ (Int32.ofNat q &&& 1).toInt = ((q % 2 : Nat) : Int) := by decide +kernel
theorem pnS_0 {x : Nat → Nat} : pnS x 0 = 0 := by
  unfold pnS
  rw [if_neg (by decide), if_neg (by decide), if_neg (by decide)]
theorem pn_s {x : Nat → Nat} {k l : Nat} {v8 s lt : Int32} {p q r : Int64} (hp : nv p = pnS x k) (hk : k < 3) (hx : ∀ j : Nat, j < k → x j < 1024) (e8 : v8.toInt = (k : Int)) (el : lt.toInt = (l : Int)) (xl : x k = l) (l1 : l < 418) (es : s = 30 - 10 * (v8 + 1)) (eq : q = lt.toInt64 <<< (s.toInt64 &&& 63)) (er : r = p ||| q) : nv r = pnS x (k + 1) := by
  have t := pin_sl k hk
  rw [← on_i e8, ← es] at t
  have n1 : nv r = nv p ||| (l * 2 ^ (20 - 10 * k) % 2 ^ 64) := by rw [er, nv_or, eq, nv_shl t, nv_32 (by omega), el]; rfl
  rw [hp] at n1
  rcases (show k = 0 ∨ k = 1 ∨ k = 2 by omega) with w | w | w
  · subst w
    rw [n1]
    unfold pnS
    rw [if_neg (by decide), if_neg (by decide), if_neg (by decide), if_pos (by decide), if_neg (by decide), if_neg (by decide), xl]
    rw [show (0 * 2 ^ 20 + 0 * 2 ^ 10 + 0) = 0 from rfl, Nat.zero_or]
    omega
  · subst w
    have x0 := hx 0 (by decide)
    rw [n1]
    unfold pnS
    rw [if_pos (by decide), if_neg (by decide), if_neg (by decide), if_pos (by decide), if_pos (by decide), if_neg (by decide), xl, show x 0 * 2 ^ 20 + 0 * 2 ^ 10 + 0 = x 0 <<< 20 by rw [Nat.shiftLeft_eq]; omega, show l * 2 ^ (20 - 10 * 1) % 2 ^ 64 = l * 1024 by omega, ← Nat.shiftLeft_add_eq_or_of_lt (by omega), Nat.shiftLeft_eq]
    omega
  · subst w
    have x0 := hx 0 (by decide)
    have x1 := hx 1 (by decide)
    rw [n1]
    unfold pnS
    rw [if_pos (by decide), if_pos (by decide), if_neg (by decide), if_pos (by decide), if_pos (by decide), if_pos (by decide), xl, show x 0 * 2 ^ 20 + x 1 * 2 ^ 10 + 0 = (x 0 * 1024 + x 1) <<< 10 by rw [Nat.shiftLeft_eq]; omega, show l * 2 ^ (20 - 10 * 2) % 2 ^ 64 = l by omega, ← Nat.shiftLeft_add_eq_or_of_lt (by omega), Nat.shiftLeft_eq]
    omega
def TmbQ (mp : cf_O) (g : Nat) : Prop := ∀ x : Nat, 2 ≤ x → x < 2 * g → nv (mp.2.2 4 x) ≤ NOM ∧ (¬ nv (mp.2.2 4 x) = NOM → nv (mp.2.2 4 x) / 2 ^ 44 ≤ 198 * (x / 2))
abbrev wvM (mp : cf_O) : Nat → Nat := fun x => nv (mp.2.2 4 x)
theorem mo_go {g s p cl c : Nat} {C : List Int} {mp co li : cf_O} {v1 v4 : Int32} (T : TmbQ mp g) (hg : g ≤ 208) (hl : C.length = s) (h2 : 2 ≤ s) (h3 : s ≤ 3) (hz : ∀ z ∈ C, 1 ≤ z ∧ z < (g : Int)) (hn : ∀ j x : Nat, C[j]? = some (x : Int) → (co.2.1 2 j).toInt = (x : Int)) (hp : p < 8 ^ s) (he : eoB s p = true) (e4 : v4.toInt = (cl : Int)) (hcl : cl < c) (hF : FcQ c (faL li)) (es : (li.2.1 5 cl).toInt = (s : Int)) (ep : (li.2.1 9 v1.toNatClampNeg).toInt = (p : Int)) : ∀ (fu k a : Nat) (v5 v8 : Int32) (v6 r : Int64), v8.toInt = (k : Int) → k ≤ s → tmP (mtW (wvM mp)) (ptL C p) k = some a → a ≤ 198 * g → v5.toInt = (a : Int) → nv v6 = pnS (ptL C p) k → gMp_matchOf fu 0 v1 v4 v5 v6 v8 mp co li = some r → (tmP (mtW (wvM mp)) (ptL C p) s = none ∧ nv r = NOM) ∨ ∃ a : Nat, tmP (mtW (wvM mp)) (ptL C p) s = some a ∧ a ≤ 198 * g ∧ nv r = cvV (faL li) cl a s (ptL C p)
  | 0, k, a, v5, v8, v6, r, e8, hk, ha, hab, e5, e6, h => by cases h
  | fu + 1, k, a, v5, v8, v6, r, e8, hk, ha, hab, e5, e6, h => by
    have h : fMp_matchOf_17 (gMp_matchOf fu) v1 v4 v5 v6 v8 mp co li = some r := h
    unfold fMp_matchOf_17 at h
    have h := (ifn h).2
    rw [opk, tW e4] at h
    have pb := (wy_s h2 h3).2.2.2 p hp he
    have p512 : p < 512 := Nat.lt_of_lt_of_le hp (by rcases (show s = 2 ∨ s = 3 by omega) with e | e <;> subst e <;> decide)
    have F := hF.2 cl hcl
    have f0 := faL_0 (li := li) (i := cl)
    rw [f0.1, f0.2.1, f0.2.2.1, f0.2.2.2] at F
    have c12 := hF.1
    have xb : ∀ j : Nat, j < s → ptL C p j < 1024 := fun j hj => by have := (ptL_b hz hl (pb j hj)).2.1; omega
    rcases ifc h with ⟨d, h⟩ | ⟨d, h⟩
    · have d := c_le d
      have ek : k = s := by omega
      subst ek
      obtain ⟨q, hq, h⟩ := bd h
      rw [← Option.some.inj h]
      have pl : pnS (ptL C p) k < 2 ^ 30 := by
        have q0 : (if 0 < k then ptL C p 0 else 0) < 1024 := by split; exact xb 0 (by assumption); decide
        have q1 : (if 1 < k then ptL C p 1 else 0) < 1024 := by split; exact xb 1 (by assumption); decide
        have q2 : (if 2 < k then ptL C p 2 else 0) < 1024 := by split; exact xb 2 (by assumption); decide
        unfold pnS
        omega
      have pf := pack_f (C := cl) (T := a) (D := (li.2.1 4 cl).toInt.toNat) (A := (li.2.1 3 cl).toInt.toNat) hq (by rw [e6]; exact pl) e4 (by omega) e5 (by omega) (by omega) (by omega) (by omega) (by omega)
      refine Or.inr ⟨a, ha, hab, ?_⟩
      rw [pf, e6]
      unfold cvV
      rw [f0.1, f0.2.1]
    · have d := c_nle d
      obtain ⟨b1, b2, b3, b4⟩ := ptL_b hz hl (pb k (by omega))
      have pc := pl_c p p512 k (by omega)
      have ph := pl_h (plN p k) plN_8
      have cn := hn _ _ b3
      have h := (ifn h).2
      rw [opk, opk, on_i ep, on_i e8, opk, opk, on_i pc, opk] at h
      rw [tW ph.1] at h
      have h := (ifn h).2
      have el : (2 * co.2.1 2 (plN p k / 2) + (Int32.ofNat (plN p k) &&& 1)).toInt = (ptL C p k : Int) := by
        rw [addk (mul2 cn (by omega)) ph.2 (by omega) (by omega)]
        omega
      rw [opk, opk, opk, opk] at h
      generalize 2 * co.2.1 2 (plN p k / 2) + (Int32.ofNat (plN p k) &&& 1) = lt at h el
      have h := (ifn h).2
      rw [opk, tW el, opk] at h
      obtain ⟨T1, T2⟩ := T _ b1 b2
      rcases ifc h with ⟨z, h⟩ | ⟨z, h⟩
      · have z := (lg_cmp_eq _ _).mp z
        refine Or.inl ⟨tmP_n (k := k) ?_ s (by omega), by rw [← Option.some.inj h]; rfl⟩
        unfold mtW
        rw [if_pos (show nv (mp.2.2 4 (ptL C p k)) = NOM by rw [z]; rfl)]
      · have z : ¬ nv (mp.2.2 4 (ptL C p k)) = NOM := fun q => z ((lg_cmp_eq _ _).mpr (nv_inj q))
        have h := (ifn h).2
        rw [opk] at h
        obtain ⟨q, hq, h⟩ := bd h
        have eq := time_f hq (by unfold NOM at T1; omega)
        rw [opk, opk, opk, opk, opk, opk, opk, opk, ← on_i e8] at h
        have nx : tmP (mtW (wvM mp)) (ptL C p) (k + 1) = some (max a (nv (mp.2.2 4 (ptL C p k)) / 2 ^ 44)) := by
          show (tmP (mtW (wvM mp)) (ptL C p) k).bind (fun a => (mtW (wvM mp) (ptL C p k)).map (fun t => max a t)) = _
          rw [ha]
          unfold mtW
          rw [if_neg z]; rfl
        have tb := T2 z
        refine mo_go T hg hl h2 h3 hz hn hp he e4 hcl hF es ep fu (k + 1) _ (op_mx v5 q) (v8 + 1) _ r (by rw [pW (by omega) (by omega)]; omega) (by omega) nx (by omega) (by rw [mx_i, e5, eq]; omega) (pn_s (lt := lt) e6 (by omega) (fun j hj => xb j (by omega)) e8 el rfl (by omega) rfl rfl rfl) h
theorem match_sp {g s p cl c wy : Nat} {C : List Int} {mp co li : cf_O} {v1 : Int32} {r : Int64} (T : TmbQ mp g) (hg : g ≤ 208) (hl : C.length = s) (h2 : 2 ≤ s) (h3 : s ≤ 3) (hz : ∀ z ∈ C, 1 ≤ z ∧ z < (g : Int)) (hn : ∀ j x : Nat, C[j]? = some (x : Int) → (co.2.1 2 j).toInt = (x : Int)) (hp : p < 8 ^ s) (he : eoB s p = true) (ew : v1.toInt = (wy : Int)) (ec : (li.2.1 8 wy).toInt = (cl : Int)) (hcl : cl < c) (hF : FcQ c (faL li)) (es : (li.2.1 5 cl).toInt = (s : Int)) (ep : (li.2.1 9 wy).toInt = (p : Int)) (h : fMp_matchOf v1 mp co li = some r) : (tmP (mtW (wvM mp)) (ptL C p) s = none ∧ nv r = NOM) ∨ ∃ a : Nat, tmP (mtW (wvM mp)) (ptL C p) s = some a ∧ a ≤ 198 * g ∧ nv r = cvV (faL li) cl a s (ptL C p) := by
  unfold fMp_matchOf fMp_matchOf_0 at h
  have h := (ifn h).2
  rw [opk, tW ew] at h
  exact mo_go T hg hl h2 h3 hz hn hp he ec hcl hF es (by rw [tW ew]; exact ep) cfFU 0 0 0 0 0 r rfl (Nat.zero_le _) rfl (by omega) rfl (by rw [pnS_0]; rfl) h
def LmX (g c : Nat) (C : List Int) (f : Nat → Bool) (t : Int32) (mp co li : cf_O) : Prop := TmbQ mp g ∧ g ≤ 208 ∧ (2 ≤ C.length ∧ C.length ≤ 3) ∧ (∀ z ∈ C, 1 ≤ z ∧ z < (g : Int)) ∧ (∀ j x : Nat, C[j]? = some (x : Int) → (co.2.1 2 j).toInt = (x : Int)) ∧ (co.1 0).toInt = (C.length : Int) ∧ (∀ j : Nat, j < 32 → bt t j = (decide (j < 2 ^ C.length) && f j)) ∧ FcQ c (faL li) ∧ ∃ m : Nat, LwQ li m (DwS li c 0)
def WyS (c : Nat) (C : List Int) (f : Nat → Bool) (mp li : cf_O) (cl x : Nat) : Prop := cl < c ∧ (li.2.1 5 cl).toInt = (C.length : Int) ∧ ∃ p : Nat, p < 8 ^ C.length ∧ eoB C.length p = true ∧ CdQ (faL li) (mtW (wvM mp)) C cl C.length f p x
theorem lm_way {g c m wy : Nat} {C : List Int} {f : Nat → Bool} {t v : Int32} {mp co li : cf_O} {r : Int64} {q : Nat} (X : LmX g c C f t mp co li) (W : LwQ li m (DwS li c 0)) (eq : (q : Int) = ((2 ^ 2 ^ C.length : Nat) : Int) + t.toInt) (hw : wy < m) (ky : KyQ li wy q) (ev : v.toInt = (wy : Int)) (h : fMp_matchOf v mp co li = some r) : (∃ cl p : Nat, cl < c ∧ (li.2.1 8 wy).toInt = (cl : Int) ∧ (li.2.1 9 wy).toInt = (p : Int) ∧ (li.2.1 5 cl).toInt = (C.length : Int) ∧ p < 8 ^ C.length ∧ eoB C.length p = true ∧ GvQ (faL li (4 * cl + 3)) C.length p f ∧ ((tmP (mtW (wvM mp)) (ptL C p) C.length = none ∧ nv r = NOM) ∨ ∃ a : Nat, tmP (mtW (wvM mp)) (ptL C p) C.length = some a ∧ nv r = cvV (faL li) cl a C.length (ptL C p) ∧ nv r < NOM)) := by
  obtain ⟨T, hg, ⟨l2, l3⟩, hz, hn, e0, ht, hF, _⟩ := X
  obtain ⟨cl, p, w1, w2, w3, s, w4, w5, w6, w7, w8⟩ := W.2.1 wy hw
  have w3c : cl < c := by omega
  obtain ⟨cl', s', p', t', k1, k2, k3, k4, k5⟩ := ky
  have a1 : cl' = cl := by omega
  have a2 : p' = p := by omega
  subst a1; subst a2
  have a3 : s' = s := by omega
  subst a3
  have tl := tbB_l (by omega) k4
  have tl2 := bt_lt (t := t) (s := C.length) (by omega) (fun i i1 i2 => by rw [ht i i2, decide_eq_false (by omega), Bool.false_and])
  have es : s' = C.length := by
    rcases (show s' = 2 ∨ s' = 3 by omega) with e | e <;> rcases (show C.length = 2 ∨ C.length = 3 by omega) with e2 | e2
    · omega
    · rw [e] at tl k5; rw [e2] at tl2 eq
      have tl : 0 ≤ t'.toInt ∧ t'.toInt < 16 := tl
      have k5 : (q : Int) = 16 + t'.toInt := k5
      have eq : (q : Int) = 256 + t.toInt := eq
      omega
    · rw [e] at tl k5; rw [e2] at tl2 eq
      have tl2 : 0 ≤ t.toInt ∧ t.toInt < 16 := tl2
      have k5 : (q : Int) = 256 + t'.toInt := k5
      have eq : (q : Int) = 16 + t.toInt := eq
      omega
    · omega
  subst es
  have et : t' = t := Int32.toInt_inj.mp (by omega)
  subst et
  have f3 := (faL_0 (li := li) (i := cl')).2.2.2
  have p32 : 2 ^ C.length ≤ 2 ^ 3 := Nat.pow_le_pow_right (by decide) l3
  have gv : GvQ (faL li (4 * cl' + 3)) C.length p' f := fun i hi => by
    have := k4 i (by omega)
    rw [ht i (by omega), decide_eq_true hi, Bool.true_and, Bool.true_and] at this
    rw [f3]; exact this.symm
  refine ⟨cl', p', w3c, w1, w2, w4, w7, w8, gv, ?_⟩
  rcases match_sp T hg rfl l2 l3 hz hn w7 w8 ev w1 w3c hF w4 w2 h with z | ⟨a, z1, z2, z3⟩
  · exact Or.inl z
  · refine Or.inr ⟨a, z1, z3, ?_⟩
    rw [z3]
    exact cv_lt (B := 2 * g) (FcQ_a hF) w3c (by omega) (hF.2 cl' w3c).2.1.2 (fun k hk => (ptL_b hz rfl ((wy_s l2 l3).2.2.2 p' w7 w8 k hk)).2.1) (by omega)
theorem lm_go {g c m q : Nat} {C : List Int} {f : Nat → Bool} {t : Int32} {mp co li : cf_O} (X : LmX g c C f t mp co li) (W : LwQ li m (DwS li c 0)) (eq : (q : Int) = ((2 ^ 2 ^ C.length : Nat) : Int) + t.toInt) : ∀ (fu : Nat) (L : List Nat) (v4 : Int64) (v6 v7 : Int32) (S : Nat → Prop) (r : Int64), ChQ (li.2.1 10) v6 L → (∀ w ∈ L, w < m ∧ KyQ li w q) → 0 ≤ v7.toInt → v7.toInt + (L.length : Int) ≤ 576 → MnQ (nv v4) S → gMp_leastMatch fu 0 v4 v6 v7 mp co li = some r → MnQ (nv r) (fun x => S x ∨ ∃ w ∈ L, ∃ cl p : Nat, (li.2.1 8 w).toInt = (cl : Int) ∧ (li.2.1 9 w).toInt = (p : Int) ∧ CdQ (faL li) (mtW (wvM mp)) C cl C.length f p x)
  | 0, L, v4, v6, v7, S, r, hc, hL, h0, h5, N, h => by cases h
  | fu + 1, L, v4, v6, v7, S, r, hc, hL, h0, h5, N, h => by
    have h : fMp_leastMatch_23 (gMp_leastMatch fu) v4 v6 v7 mp co li = some r := h
    unfold fMp_leastMatch_23 fMp_leastMatch_67 at h
    have fin : some v4 = some r → L = [] → MnQ (nv r) (fun x => S x ∨ ∃ w ∈ L, ∃ cl p : Nat, (li.2.1 8 w).toInt = (cl : Int) ∧ (li.2.1 9 w).toInt = (p : Int) ∧ CdQ (faL li) (mtW (wvM mp)) C cl C.length f p x) := fun z e => by
      rw [← Option.some.inj z]
      refine MnQ_e N (fun x => ⟨Or.inl, fun y => y.resolve_right ?_⟩)
      rintro ⟨w, hw, _⟩
      rw [e] at hw; exact absurd hw (List.not_mem_nil)
    match L, hc, hL, h5, fin with
    | [], hc, hL, h5, fin =>
      have hc : v6 = -1 := hc
      rcases ifc h with ⟨a, h⟩ | ⟨a, h⟩
      · exact fin h rfl
      · rw [if_pos hc] at h
        exact fin h rfl
    | w :: L, hc, hL, h5, fin =>
      obtain ⟨hc1, hc2⟩ := hc
      have h5 : v7.toInt + ((L.length + 1 : Nat) : Int) ≤ 576 := h5
      rw [if_neg (fun z => by have z : 576 ≤ v7.toInt := c_le z; omega), if_neg (fun z => by have z := c_eq z; rw [hc1, show ((-1 : Int32)).toInt = -1 from rfl] at z; omega)] at h
      obtain ⟨q3, hq3, h⟩ := bd h
      rw [opk] at h
      have h := (ifn h).2
      rw [opk, opk, tW hc1] at h
      obtain ⟨w1, w2⟩ := hL w (List.mem_cons_self ..)
      obtain ⟨cl, p, k1, k2, k3, k4, k5, k6, k7, k8⟩ := lm_way X W eq w1 w2 hc1 hq3
      have v4l := MnQ_n N
      have step : ∃ S2 : Nat → Prop, MnQ (nv (op_mnl v4 q3)) S2 ∧ ∀ x : Nat, S2 x ↔ (S x ∨ CdQ (faL li) (mtW (wvM mp)) C cl C.length f p x) := by
        rcases k8 with ⟨z1, z2⟩ | ⟨a, z1, z2, z3⟩
        · refine ⟨S, ?_, fun x => ⟨Or.inl, fun y => y.resolve_right ?_⟩⟩
          · rw [mnl_n (by unfold NOM at v4l; omega) (by rw [z2]; unfold NOM; omega), z2, show min (nv v4) NOM = nv v4 by omega]
            exact N
          · rintro ⟨a, ea, _⟩
            rw [z1] at ea; cases ea
        · refine ⟨_, ?_, fun x => ⟨fun y => y, fun y => y⟩⟩
          rw [mnl_n (by unfold NOM at v4l; omega) (by unfold NOM at z3; omega)]
          refine MnQ_e (MnQ_s N z3) (fun x => or_congr Iff.rfl ⟨fun y => ⟨a, z1, k7, y.trans z2⟩, fun ⟨a', ea, _, y⟩ => ?_⟩)
          rw [z1] at ea
          have := Option.some.inj ea
          subst this
          rw [z2]; exact y
      obtain ⟨S2, N2, e2⟩ := step
      have ih := lm_go X W eq fu L _ _ (v7 + 1) S2 r hc2 (fun w hw => hL w (List.mem_cons_of_mem _ hw)) (by rw [pW h0 (by omega)]; omega) (by rw [pW h0 (by omega)]; omega) N2 h
      refine MnQ_e ih (fun x => ?_)
      rw [e2]
      constructor
      · rintro ((y | y) | ⟨w', hw', y⟩)
        · exact Or.inl y
        · exact Or.inr ⟨w, List.mem_cons_self .., cl, p, k2, k3, y⟩
        · exact Or.inr ⟨w', List.mem_cons_of_mem _ hw', y⟩
      · rintro (y | ⟨w', hw', cl', p', y1, y2, y⟩)
        · exact Or.inl (Or.inl y)
        · rcases List.mem_cons.mp hw' with e | e
          · subst e
            have a1 : cl' = cl := by omega
            have a2 : p' = p := by omega
            subst a1; subst a2
            exact Or.inl (Or.inr y)
          · exact Or.inr ⟨w', e, cl', p', y1, y2, y⟩
theorem lof_sp {v w q : Int32} {s : Nat} (ev : v.toInt = (s : Int)) (h2 : 2 ≤ s) (h3 : s ≤ 3) (w0 : 0 ≤ w.toInt) (w1 : w.toInt < ((2 ^ 2 ^ s : Nat) : Int)) (h : fLi_listOf v w = some q) : q.toInt = ((2 ^ 2 ^ s : Nat) : Int) + w.toInt ∧ q.toInt < 512 := by
  unfold fLi_listOf fLi_listOf_0 at h
  rw [opk, opk, opk] at h
  rw [← Option.some.inj h, on_i ev]
  rcases (show s = 2 ∨ s = 3 by omega) with e | e
  · subst e
    have w1 : w.toInt < 16 := w1
    rw [i_add (by rw [show (Int32.ofNat 2) = (2 : Int32) from rfl, l_of2]; omega) (by rw [show (Int32.ofNat 2) = (2 : Int32) from rfl, l_of2]; omega), show (Int32.ofNat 2) = (2 : Int32) from rfl, l_of2]
    exact ⟨rfl, by omega⟩
  · subst e
    have w1 : w.toInt < 256 := w1
    rw [i_add (by rw [show (Int32.ofNat 3) = (3 : Int32) from rfl, l_of3]; omega) (by rw [show (Int32.ofNat 3) = (3 : Int32) from rfl, l_of3]; omega), show (Int32.ofNat 3) = (3 : Int32) from rfl, l_of3]
    exact ⟨rfl, by omega⟩
theorem least_sp {g c : Nat} {C : List Int} {f : Nat → Bool} {t : Int32} {mp co li : cf_O} {r : Int64} (X : LmX g c C f t mp co li) (h : fMp_leastMatch t mp co li = some r) : MnQ (nv r) (fun x => ∃ cl : Nat, WyS c C f mp li cl x) := by
  have X0 := X
  obtain ⟨T, hg, ⟨l2, l3⟩, hz, hn, e0, ht, hF, m, W⟩ := X
  have tl2 := bt_lt (t := t) (s := C.length) (by omega) (fun i i1 i2 => by rw [ht i i2, decide_eq_false (by omega), Bool.false_and])
  unfold fMp_leastMatch fMp_leastMatch_0 at h
  obtain ⟨q, hq, h⟩ := bd h
  obtain ⟨q1, q2⟩ := lof_sp e0 l2 l3 tl2.1 tl2.2 hq
  obtain ⟨n, en⟩ : ∃ n : Nat, q.toInt = (n : Int) := ⟨q.toInt.toNat, by omega⟩
  have h := (ifn h).2
  rw [opk, tW en] at h
  obtain ⟨L, c1, c2, c3⟩ := W.2.2.2 n (by omega)
  have m5 := W.1.2
  have N := lm_go X0 W (q := n) (by omega) cfFU L 9223372036854775807 _ 0 (fun _ => False) r c1 (fun w hw => (c3 w).mp hw) (by decide) (by show (0 : Int) + _ ≤ 576; omega) MnQ_0 h
  refine MnQ_e N (fun x => ?_)
  constructor
  · rintro (y | ⟨w, hw, cl, p, y1, y2, y⟩)
    · exact y.elim
    · obtain ⟨w1, w2⟩ := (c3 w).mp hw
      obtain ⟨cl', p', z1, z2, z3, s, z4, z5, z6, z7, z8⟩ := W.2.1 w w1
      have a1 : cl' = cl := by omega
      have a2 : p' = p := by omega
      subst a1; subst a2
      have es : s = C.length := by
        obtain ⟨cl2, s2, p2, t2, k1, k2, k3, k4, k5⟩ := w2
        have a1 : cl2 = cl' := by omega
        have a2 : p2 = p' := by omega
        subst a1; subst a2
        have a3 : s2 = s := by omega
        subst a3
        have tl := tbB_l (by omega) k4
        rcases (show s2 = 2 ∨ s2 = 3 by omega) with e | e <;> rcases (show C.length = 2 ∨ C.length = 3 by omega) with e2 | e2
        · omega
        · rw [e] at tl k5; rw [e2] at tl2 q1
          have tl : 0 ≤ t2.toInt ∧ t2.toInt < 16 := tl
          have k5 : (n : Int) = 16 + t2.toInt := k5
          have q1 : q.toInt = 256 + t.toInt := q1
          omega
        · rw [e] at tl k5; rw [e2] at tl2 q1
          have tl2 : 0 ≤ t.toInt ∧ t.toInt < 16 := tl2
          have k5 : (n : Int) = 256 + t2.toInt := k5
          have q1 : q.toInt = 16 + t.toInt := q1
          omega
        · omega
      subst es
      exact ⟨cl', by omega, z4, p', z7, z8, y⟩
  · rintro ⟨cl, y1, y2, p, y3, y4, y⟩
    obtain ⟨w, w1, w2, w3⟩ := W.2.2.1 cl p ⟨by omega, C.length, y2, l2, l3, y3, y4⟩
    refine Or.inr ⟨w, (c3 w).mpr ⟨w1, ?_⟩, cl, p, w2, w3, y⟩
    obtain ⟨a, _, gv, _⟩ := y
    refine ⟨cl, C.length, p, t, w2, w3, y2, fun i hi => ?_, by omega⟩
    rw [ht i hi]
    by_cases il : i < 2 ^ C.length
    · rw [decide_eq_true il, Bool.true_and, Bool.true_and, ← gv i il, (faL_0 (li := li) (i := cl)).2.2.2]
    · rw [decide_eq_false il, Bool.false_and, Bool.false_and]
