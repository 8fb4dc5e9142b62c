theorem nb_2 {sg : Nat → Int32} {n m : Nat} (hm : LPq sg n m ≤ n) (h : ¬ Bl sg n m) : LPq sg n m + 2 ≤ LPq sg n (m + 1) := by
  have a := WF_b (sg := sg) (p := LPq sg n m) (h := LH sg n (LPq sg n m)) LH_g 0
  have b : ¬ WF sg (LPq sg n m) (LH sg n (LPq sg n m)) 0 = LH sg n (LPq sg n m) := h
  have e0 : LPq sg n m ≤ LE_ sg n (LPq sg n m) := fb_ge
  have c : LH sg n (LPq sg n m) ≤ LE_ sg n (LPq sg n m) := fb_le e0
  show LPq sg n m + 2 ≤ LE_ sg n (LPq sg n m) + 1
  omega
def ScN (sg : Nat → Int32) (n : Int) (r : Int32 × cf_O × cf_O) : Prop := ∃ x : NXq, NAns sg n.toNat r.1.toInt (r.2.2.1 4).toInt x ∧ (r.1.toInt = 0 → KCx sg n.toNat r.2.1 x ∧ x.1 = 3 ∧ PNx sg n.toNat x)
def SnL (sg : Nat → Int32) (n m : Nat) (x : NXq) (r : Int32 × cf_O) : Prop := ∃ (k l : Int) (y : NXq), nstep sg n m (0, -1, x) = (k, l, y) ∧ r.1.toInt = k ∧ ((¬ k = 0 ∧ l = (m : Int)) ∨ (k = 0 ∧ KCx sg n r.2 y))
theorem scanLine_n {sg : Nat → Int32} {n m : Nat} {x : NXq} {o o1 : cf_O} {v2 : Int32} {r : Int32 × cf_O} (nb : ¬ Bl sg n m) (W : WLq sg n m o1) (ho : okO I_Tx o1) (hs : o1.2.1 0 = sg) (em : (o1.1 4).toInt = (m : Int)) (K : KCx sg n o x) (P : PNx sg n x) (ev : v2.toInt = (x.1 : Int)) (x3 : x.1 ≤ 3) (h : fNl_scanLine v2 o o1 = some r) : SnL sg n m x r := by
  obtain ⟨st, iL, oL, t, tL, rc, rL⟩ := x
  obtain ⟨K0, K1, K2, K3, K4, K5⟩ := K
  obtain ⟨P1, P2, P3, P4, P5⟩ := P
  have ev : v2.toInt = (st : Int) := ev
  have x3 : st ≤ 3 := x3
  have w0 := W.2.2.2 0 W.2.1 (by omega)
  have b5 : (0 : Int) ≤ (o1.1 5).toInt ∧ (o1.1 5).toInt ≤ 10 := ho.1 5
  have w5 := W.2.2.1
  rcases ifc h with ⟨a, h⟩ | ⟨a, h⟩
  · have a : v2.toInt = 0 := c_eq a
    have s0 : st = 0 := by omega
    subst s0
    obtain ⟨q, g, h⟩ := bd h
    have er : r = q := (Option.some.inj h).symm
    subst er
    have t0 : t = 0 := P4 (by show 0 < 2; omega)
    rcases scanInputs_sp W ho hs g with ⟨i1, i2⟩ | ⟨i1, i2, i3⟩ | ⟨i1, i2, i3, i4, i5⟩
    · refine ⟨_, _, _, (nt_0 nb).trans (cif_f i1), by rw [i2]; rfl, Or.inl ⟨by decide, rfl⟩⟩
    · refine ⟨_, _, _, (nt_0 nb).trans ((cif_t i1).trans (cif_t i2)), by rw [i3]; rfl, Or.inl ⟨by decide, rfl⟩⟩
    · refine ⟨_, _, _, (nt_0 nb).trans ((cif_t i1).trans (cif_f i2)), by rw [i3]; rfl, Or.inr ⟨rfl, fun z => absurd z (by show ¬ 1 = 0; omega), fun _ => ?_, fun _ => i5, fun z => absurd z (by show ¬ 2 ≤ 1; omega), ?_, fun j hj => absurd hj (by show ¬ j < t; omega)⟩⟩
      · rw [i4.1 1 rfl]; exact K1 (by show 0 ≤ 1; omega)
      · rw [i4.1 6 rfl]; exact K4
  have a : ¬ v2.toInt = 0 := c_ne a
  rcases ifc h with ⟨b, h⟩ | ⟨b, h⟩
  · have b : v2.toInt = 1 := c_eq b
    have s1 : st = 1 := by omega
    subst s1
    obtain ⟨q, g, h⟩ := bd h
    have er : r = q := (Option.some.inj h).symm
    subst er
    have t0 : t = 0 := P4 (by show 1 < 2; omega)
    have Ki := K2 (Nat.le_refl 1)
    rcases scanOutputs_sp W ho hs em g with ⟨i1, i2⟩ | ⟨i1, i2, i3⟩ | ⟨i1, i2, i3, i4, i5⟩
    · refine ⟨_, _, _, (nt_1 nb).trans (cif_f i1), by rw [i2]; rfl, Or.inl ⟨by decide, rfl⟩⟩
    · refine ⟨_, _, _, (nt_1 nb).trans ((cif_t i1).trans (cif_t i2)), by rw [i3]; rfl, Or.inl ⟨by decide, rfl⟩⟩
    · refine ⟨_, _, _, (nt_1 nb).trans ((cif_t i1).trans (cif_f i2)), by rw [i3]; rfl, Or.inr ⟨rfl, fun z => absurd z (by show ¬ 2 = 0; omega), fun z => absurd z (by show ¬ 2 ≤ 1; omega), fun _ => ?_, fun _ => i5, ?_, fun j hj => absurd hj (by show ¬ j < t; omega)⟩⟩
      · show KCi sg n r.2 iL
        unfold KCi
        rw [i4.1 0 rfl, i4.2.2 3 rfl]; exact Ki
      · rw [i4.1 6 rfl]; exact K4
  have b : ¬ v2.toInt = 1 := c_ne b
  rcases ifc h with ⟨c, h⟩ | ⟨c, h⟩
  · have c : v2.toInt = 2 := c_eq c
    have s2 : st = 2 := by omega
    subst s2
    have Ki := K2 (by show 1 ≤ 2; omega)
    have Ko := K3 (Nat.le_refl 2)
    have Pi := P1 (by show 1 ≤ 2; omega)
    obtain ⟨q, g, h⟩ := bd h
    have g : Yn q (isEnd sg n m) := by
      have z : Yn q (Wdq (o1.2.1 0) (o1.2.1 1 0).toInt (o1.2.1 2 0).toInt [46, 101, 110, 100]) := isWord4_sp (v1 := 0) ho g
      rw [hs, w0.1, w0.2] at z; exact z
    rcases ifc h with ⟨d, h⟩ | ⟨d, h⟩
    · have nE := Yn_0 g d
      obtain ⟨q2, g2, h⟩ := bd h
      have g2 : Yn q2 (isWd sg n m wNam) := by
        have z : Yn q2 (Wdq (o1.2.1 0) (o1.2.1 1 0).toInt (o1.2.1 2 0).toInt [46, 110, 97, 109, 101, 115]) := isWord5_sp (v1 := 0) ho g2
        rw [hs, w0.1, w0.2] at z; exact z
      rcases ifc h with ⟨e, h⟩ | ⟨e, h⟩
      · have nN := Yn_0 g2 e
        obtain ⟨y, hy, h⟩ := bd h
        have er : r = y := (Option.some.inj h).symm
        subst er
        have st2 : nstep sg n m (0, -1, 2, iL, oL, t, tL, rc, rL) = nsR sg n m (2, iL, oL, t, tL, rc, rL) := (nt_2 nb).trans ((cif_f nE).trans (cif_f nN))
        rcases scanRow_sp (t := t) (tL := tL) (rc := rc) (rL := rL) W ho hs K4 P3 (fun j hj => ⟨K5 j hj, (P5 j hj).1, (P5 j hj).2.2.1, (P5 j hj).2.2.2⟩) hy with ⟨i1, i2⟩ | ⟨i1, i2, A1, A2, A3, A4, A5, A6⟩
        · exact ⟨_, _, _, st2.trans (cif_f i1), by rw [i2]; rfl, Or.inl ⟨by decide, rfl⟩⟩
        · have c16 := i1.2.1
          have tp := i1.1
          refine ⟨_, _, _, st2.trans (cif_t i1), by rw [i2]; rfl, Or.inr ⟨rfl, fun z => absurd z (by show ¬ 2 = 0; omega), fun z => absurd z (by show ¬ 2 ≤ 1; omega), fun _ => ?_, fun _ => ?_, ?_, fun j hj => ?_⟩⟩
          · show KCi sg n r.2 iL
            unfold KCi
            rw [A1.1 0 rfl, A1.2.2 3 rfl]; exact Ki
          · show KCo sg n r.2 oL
            unfold KCo
            rw [A1.1 1 rfl, A1.1 5 rfl, A1.2.2 4 rfl]; exact Ko
          · show (r.2.1 6).toInt = (t : Int)
            rw [A1.1 6 rfl]; exact K4
          · have hj : j < t := hj
            have z := K5 j hj
            show KCt sg n r.2 j (tL j) ∧ KCr sg n r.2 j (tL j) (if j = t - 1 then rc j + 1 else rc j) (fun r => if j = t - 1 ∧ r = rc j then m else rL j r)
            refine ⟨?_, ?_⟩
            · unfold KCt
              rw [A1.2.1 9 rfl, A1.2.1 8 rfl, A1.2.2 7 rfl]; exact z.1
            · by_cases ej : j = t - 1
              · subst ej
                rw [if_pos rfl]
                refine ⟨by rw [A2]; omega, fun q hq => ?_, ?_⟩
                · show (r.2.2.1 12 (16 * (t - 1) + q)).toInt = (asv sg (wf sg n (if t - 1 = t - 1 ∧ q = rc (t - 1) then m else rL (t - 1) q) 0).toNat (nW sg n (tL (t - 1)) - 2) : Int)
                  by_cases er : q = rc (t - 1)
                  · rw [if_pos ⟨rfl, er⟩, er]; exact A4
                  · rw [if_neg (fun u => er u.2), A5 _ (by omega)]
                    exact z.2.2.1 q (by show q < rc (t - 1); omega)
                · show (r.2.2.1 11 (t - 1)).toInt = (if rc (t - 1) + 1 = 0 then 1 else eB sg n (if t - 1 = t - 1 ∧ 0 = rc (t - 1) then m else rL (t - 1) 0))
                  rw [A6, if_neg (by omega)]
                  by_cases e0 : 0 = rc (t - 1)
                  · rw [if_pos ⟨rfl, e0⟩]
                  · rw [if_neg (fun u => e0 u.2)]
                    have u := i1.2.2.2.2.2.resolve_left (fun u => e0 u.symm)
                    unfold eB; rw [u]
              · rw [if_neg ej]
                have a3 := A3 j ej
                have rj : rc j ≤ 16 := (P5 j hj).2.2.1
                refine ⟨by rw [a3.1]; exact z.2.1, fun q hq => ?_, ?_⟩
                · show (r.2.2.1 12 (16 * j + q)).toInt = (asv sg (wf sg n (if j = t - 1 ∧ q = rc j then m else rL j q) 0).toNat (nW sg n (tL j) - 2) : Int)
                  rw [if_neg (fun u => ej u.1), A5 _ (by omega)]
                  exact z.2.2.1 q hq
                · show (r.2.2.1 11 j).toInt = (if rc j = 0 then 1 else eB sg n (if j = t - 1 ∧ 0 = rc j then m else rL j 0))
                  rw [if_neg (fun u : j = t - 1 ∧ 0 = rc j => ej u.1), a3.2]
                  exact z.2.2.2
      · have wN := Yn_1 g2 e
        obtain ⟨y, hy, h⟩ := bd h
        have er : r = y := (Option.some.inj h).symm
        subst er
        have st2 : nstep sg n m (0, -1, 2, iL, oL, t, tL, rc, rL) = nsT sg n m (2, iL, oL, t, tL, rc, rL) := (nt_2 nb).trans ((cif_f nE).trans (cif_t wN))
        rcases scanTable_sp (t := t) (tL := tL) W ho hs em Ki Pi.1 K4 P3 (fun j hj => ⟨(K5 j hj).1, (P5 j hj).1⟩) hy with ⟨i1, i2⟩ | ⟨i1, i2, i3⟩ | ⟨i1, i2, i3, ⟨A1, A2, A3, A4, A5, A6⟩, i5⟩
        · exact ⟨_, _, _, st2.trans (cif_f i1), by rw [i2]; rfl, Or.inl ⟨by decide, rfl⟩⟩
        · exact ⟨_, _, _, st2.trans ((cif_t i1).trans (cif_t i2)), by rw [i3]; rfl, Or.inl ⟨by decide, rfl⟩⟩
        · refine ⟨_, _, _, st2.trans ((cif_t i1).trans (cif_f i2)), by rw [i3]; rfl, Or.inr ⟨rfl, fun z => absurd z (by show ¬ 2 = 0; omega), fun z => absurd z (by show ¬ 2 ≤ 1; omega), fun _ => ?_, fun _ => ?_, ?_, fun j hj => ?_⟩⟩
          · show KCi sg n r.2 iL
            unfold KCi
            rw [A1.1 0 rfl, A1.2.2 3 rfl]; exact Ki
          · show KCo sg n r.2 oL
            unfold KCo
            rw [A1.1 1 rfl, A1.1 5 rfl, A1.2.2 4 rfl]; exact Ko
          · show (r.2.1 6).toInt = ((t + 1 : Nat) : Int)
            rw [A2]; omega
          · have hj : j < t + 1 := hj
            show KCt sg n r.2 j (if j = t then m else tL j) ∧ KCr sg n r.2 j (if j = t then m else tL j) (if j = t then 0 else rc j) (rL j)
            by_cases ej : j = t
            · subst ej
              rw [if_pos rfl, if_pos rfl]
              exact ⟨i5, A5, fun q hq => absurd hq (by omega), by rw [A6, if_pos rfl]⟩
            · rw [if_neg ej, if_neg ej]
              have z := K5 j (by show j < t; omega)
              have a3 := A3 j ej
              have n7 : nW sg n (tL j) ≤ 6 + 1 := (P5 j (by show j < t; omega)).1.2.1
              refine ⟨⟨by rw [a3.2.1]; exact z.1.1, by rw [a3.1]; exact z.1.2.1, fun k hk => ?_⟩, by rw [a3.2.2.1]; exact z.2.1, fun q hq => ?_, by rw [a3.2.2.2]; exact z.2.2.2⟩
              · rw [A4 _ (by omega)]; exact z.1.2.2 k hk
              · rw [A1.2.1 12 rfl]; exact z.2.2.1 q hq
    · have iE := Yn_1 g d
      rcases ifc h with ⟨e, h⟩ | ⟨e, h⟩
      · have e : (o1.1 5).toInt = 1 := c_eq e
        have er : r = ((0 : Int32), o) := (Option.some.inj h).symm
        subst er
        exact ⟨_, _, _, (nt_2 nb).trans ((cif_t iE).trans (cif_t (show nW sg n m = 1 by omega))), rfl, Or.inr ⟨rfl, fun z => absurd z (by show ¬ 3 = 0; omega), fun z => absurd z (by show ¬ 3 ≤ 1; omega), fun _ => Ki, fun _ => Ko, K4, K5⟩⟩
      · have e : ¬ (o1.1 5).toInt = 1 := c_ne e
        have er : r = ((1 : Int32), o) := (Option.some.inj h).symm
        subst er
        exact ⟨_, _, _, (nt_2 nb).trans ((cif_t iE).trans (cif_f (show ¬ nW sg n m = 1 by omega))), rfl, Or.inl ⟨by decide, rfl⟩⟩
  · have c : ¬ v2.toInt = 2 := c_ne c
    have s3 : st = 3 := by omega
    subst s3
    have er : r = ((1 : Int32), o) := (Option.some.inj h).symm
    subst er
    exact ⟨_, _, _, nt_3 nb, rfl, Or.inl ⟨by decide, rfl⟩⟩
theorem nst_1 {sg : Nat → Int32} {n m : Nat} {x y : NXq} {l : Int} (nb : ¬ Bl sg n m) (h : nstep sg n m (0, -1, x) = (0, l, y)) : (x.1 = 0 ∧ y.1 = 1) ∨ (x.1 = 1 ∧ y.1 = 2) ∨ (x.1 = 2 ∧ isEnd sg n m ∧ y.1 = 3) ∨ (x.1 = 2 ∧ ¬ isEnd sg n m ∧ y.1 = 2) := by
  obtain ⟨st, iL, oL, t, tL, rc, rL⟩ := x
  have key : ∀ {a : NSq}, a = (0, l, y) → a.1 = 0 ∧ a.2.2 = y := fun e => by rw [e]; exact ⟨rfl, rfl⟩
  have n1 : ¬ (1 : Int) = 0 := by decide
  have n2 : ¬ (2 : Int) = 0 := by decide
  by_cases s0 : st = 0
  · subst s0
    rw [nt_0 nb] at h
    unfold ns0q at h
    by_cases c : isWd sg n m wInp ∧ Nms sg n m 8
    · rw [cif_t c] at h
      by_cases d : Twi sg n m
      · rw [cif_t d] at h; exact absurd (key h).1 n2
      · rw [cif_f d] at h; exact Or.inl ⟨rfl, by rw [← (key h).2]⟩
    · rw [cif_f c] at h; exact absurd (key h).1 n1
  by_cases s1 : st = 1
  · subst s1
    rw [nt_1 nb] at h
    unfold ns1 at h
    by_cases c : isWd sg n m wOut ∧ Nms sg n m 6
    · rw [cif_t c] at h
      by_cases d : Twi sg n m
      · rw [cif_t d] at h; exact absurd (key h).1 n2
      · rw [cif_f d] at h; exact Or.inr (Or.inl ⟨rfl, by rw [← (key h).2]⟩)
    · rw [cif_f c] at h; exact absurd (key h).1 n1
  by_cases s2 : st = 2
  · subst s2
    rw [nt_2 nb] at h
    unfold ns2 at h
    by_cases e : isEnd sg n m
    · rw [cif_t e] at h
      by_cases c : nW sg n m = 1
      · rw [cif_t c] at h; exact Or.inr (Or.inr (Or.inl ⟨rfl, e, by rw [← (key h).2]⟩))
      · rw [cif_f c] at h; exact absurd (key h).1 n1
    · rw [cif_f e] at h
      refine Or.inr (Or.inr (Or.inr ⟨rfl, e, ?_⟩))
      by_cases c : isWd sg n m wNam
      · rw [cif_t c] at h
        unfold nsT at h
        by_cases d : Nms sg n m 6 ∧ (2, iL, oL, t, tL, rc, rL).2.2.2.1 < 30
        · rw [cif_t d] at h
          by_cases g : gvn sg n (2, iL, oL, t, tL, rc, rL).2.1 (2, iL, oL, t, tL, rc, rL).2.2.2.1 (2, iL, oL, t, tL, rc, rL).2.2.2.2.1 (lsK sg n m)
          · rw [cif_t g] at h; exact absurd (key h).1 n2
          · rw [cif_f g] at h; rw [← (key h).2]
        · rw [cif_f d] at h; exact absurd (key h).1 n1
      · rw [cif_f c] at h
        unfold nsR at h
        by_cases d : rowOk sg n m (2, iL, oL, t, tL, rc, rL).2.2.2.1 (2, iL, oL, t, tL, rc, rL).2.2.2.2.1 (2, iL, oL, t, tL, rc, rL).2.2.2.2.2.1 (2, iL, oL, t, tL, rc, rL).2.2.2.2.2.2
        · rw [cif_t d] at h; rw [← (key h).2]
        · rw [cif_f d] at h; exact absurd (key h).1 n1
  · have e : nstep sg n m (0, -1, st, iL, oL, t, tL, rc, rL) = (1, (m : Int), st, iL, oL, t, tL, rc, rL) := by
      unfold nstep; rw [cif_f nb]
      show (if st = 0 then _ else if st = 1 then _ else if st = 2 then _ else _) = _
      rw [if_neg s0, if_neg s1, if_neg s2]
    rw [e] at h; exact absurd (key h).1 n1
theorem ns_l {sg : Nat → Int32} {n m : Nat} {s2 : Int} {x : NXq} (nb : ¬ Bl sg n m) : nstep sg n m (0, s2, x) = nstep sg n m (0, -1, x) := by
  unfold nstep; rw [cif_f nb, cif_f nb]
theorem scanLines_go {sg : Nat → Int32} {n : Int} (n0 : 0 ≤ n) (n1 : n ≤ 1600) : ∀ (fuel : Nat) (v2 v3 : Int32) (o o1 : cf_O) (r : Int32 × cf_O × cf_O) (s2 : Int) (x : NXq), okO I_Tx o1 → o1.2.1 0 = sg → (o1.1 3).toInt = n → -1 ≤ (o1.1 4).toInt → (o1.1 4).toInt + 1 ≤ (o1.1 6).toInt → Lqq sg n ((o1.1 4).toInt + 1) (o1.1 6).toInt → (∀ j : Nat, (j : Int) < (o1.1 4).toInt + 1 → LPq sg n.toNat j ≤ n.toNat) → NRq sg n.toNat ((o1.1 4).toInt + 1).toNat = (0, s2, x) → v2.toInt = (x.1 : Int) → x.1 ≤ 3 → 0 ≤ v3.toInt → 2 * v3.toInt ≤ (o1.1 6).toInt → KCx sg n.toNat o x → gNl_scanLines fuel 0 v2 v3 o o1 = some r → ScN sg n r
  | 0, v2, v3, o, o1, r, s2, x, ho, hs, hn, h4, h46, hq, hj, hL, ev, x3, h0, h2, K, h => by cases h
  | fuel + 1, v2, v3, o, o1, r, s2, x, ho, hs, hn, h4, h46, hq, hj, hL, ev, x3, h0, h2, K, h => by
    have z0 : (0 : Int32).toInt = 0 := rfl
    have b6 : (0 : Int) ≤ (o1.1 6).toInt ∧ (o1.1 6).toInt ≤ 1601 := ho.1 6
    rcases ifc h with ⟨a, _⟩ | ⟨_, h⟩
    · have a : 1600 < v3.toInt := c_lt a
      omega
    obtain ⟨q, hN, h⟩ := bd h
    obtain ⟨f1, f2, f3, f4, f5, f6⟩ := toNextLine_sp ho h4 h46 (by rw [hs, hn]; exact hq) hN
    rw [hs, hn] at f2
    obtain ⟨bl, f2⟩ := f2
    have sq : q.2.2.1 0 = sg := by rw [f1.2.1 0 rfl]; exact hs
    have nq : (q.2.1 3).toInt = n := by rw [f1.1 3 rfl]; exact hn
    have up : NRq sg n.toNat (q.2.1 4).toInt.toNat = (0, s2, x) ∧ ∀ j : Nat, (j : Int) < (q.2.1 4).toInt → LPq sg n.toNat j ≤ n.toNat := by
      refine ⟨?_, fun j y => ?_⟩
      · have z := NR_bs (sg := sg) (n := n.toNat) (a := ((o1.1 4).toInt + 1).toNat) (k := (q.2.1 4).toInt.toNat - ((o1.1 4).toInt + 1).toNat) (fun j j1 j2 => (bl j (by omega) (by omega)).2)
        rw [show ((o1.1 4).toInt + 1).toNat + ((q.2.1 4).toInt.toNat - ((o1.1 4).toInt + 1).toNat) = (q.2.1 4).toInt.toNat from by omega] at z
        rw [z]; exact hL
      · by_cases l : (j : Int) < (o1.1 4).toInt + 1
        · exact hj j l
        · have := (bl j (by omega) y).1; omega
    have ev4 : (q.2.1 4).toInt = (((q.2.1 4).toInt.toNat : Nat) : Int) := by omega
    obtain ⟨hL2, hj2⟩ := up
    have P := PN_e hL2
    rcases ifc h with ⟨a, h⟩ | ⟨a, h⟩
    · have zz : n < (LPq sg n.toNat (q.2.1 4).toInt.toNat : Int) := by
        rcases f2 with z | z
        · exact absurd (by rw [a]; rfl) z.1
        · exact z.2
      rcases ifc h with ⟨b, h⟩ | ⟨b, h⟩
      · have b : v2.toInt = 3 := c_eq b
        have er : r = ((0 : Int32), o, q.2) := (Option.some.inj h).symm
        subst er
        exact ⟨x, NAns_e (by omega) (fun j y => hj2 j (by omega)) hL2 (by omega), fun _ => ⟨K, by omega, P⟩⟩
      · have b : ¬ v2.toInt = 3 := c_ne b
        have er : r = ((1 : Int32), o, q.2) := (Option.some.inj h).symm
        subst er
        refine ⟨x, ?_, fun z => absurd z (by show ¬ (1 : Int32).toInt = 0; decide)⟩
        show NAns sg n.toNat (1 : Int32).toInt (q.2.1 4).toInt x
        rw [ev4]
        exact NAns_n (by omega) (fun j y => hj2 j (by omega)) hL2 (by omega)
    · obtain ⟨g1, g2, g3, g4, g5⟩ : ¬ q.1.toInt = 0 ∧ (LPq sg n.toNat (q.2.1 4).toInt.toNat : Int) ≤ n ∧ TC sg n (LPq sg n.toNat (q.2.1 4).toInt.toNat) (q.2.1 5).toInt (q.2.2.1 1) (q.2.2.1 2) ∧ 0 < (q.2.1 5).toInt ∧ Lqq sg n ((q.2.1 4).toInt + 1) (q.2.1 6).toInt := by
        rcases f2 with z | z
        · exact z
        · exact absurd (Int32.toInt_inj.mp z.1) a
      have W := WL_i g3 g4
      have nb : ¬ Bl sg n.toNat (q.2.1 4).toInt.toNat := fun y => by
        have l := W.1.1 0 W.2.1
        have y : WF sg (LPq sg n.toNat (q.2.1 4).toInt.toNat) (LH sg n.toNat (LPq sg n.toNat (q.2.1 4).toInt.toNat)) 0 = LH sg n.toNat (LPq sg n.toNat (q.2.1 4).toInt.toNat) := y
        omega
      have la : LPq sg n.toNat (q.2.1 4).toInt.toNat ≤ n.toNat := by omega
      have hL1 := NR_t hL2
      rw [ns_l nb] at hL1
      obtain ⟨y, hy, h⟩ := bd h
      obtain ⟨k, l, x', e1, e2, e3⟩ := scanLine_n nb W f3 sq ev4 K P ev x3 hy
      rw [e1] at hL1
      have w0 := W.2.2.2 0 W.2.1 (by omega)
      -- positions
      have p1 : (LPq sg n.toNat ((o1.1 4).toInt + 1).toNat : Int) = (o1.1 6).toInt := (show (o1.1 6).toInt = (LPq sg n.toNat ((o1.1 4).toInt + 1).toNat : Int) from hq).symm
      have p2 : (q.2.1 6).toInt = (LPq sg n.toNat ((q.2.1 4).toInt + 1).toNat : Int) := g5
      have p3 := LP_m (sg := sg) (n := n.toNat) (i := ((o1.1 4).toInt + 1).toNat) (k := (q.2.1 4).toInt.toNat - ((o1.1 4).toInt + 1).toNat)
      rw [show ((o1.1 4).toInt + 1).toNat + ((q.2.1 4).toInt.toNat - ((o1.1 4).toInt + 1).toNat) = (q.2.1 4).toInt.toNat from by omega] at p3
      have p4 := nb_2 la nb
      rw [show ((q.2.1 4).toInt + 1).toNat = (q.2.1 4).toInt.toNat + 1 from by omega] at p2
      have b6' : (q.2.1 6).toInt ≤ 1601 := (f3.1 6).2
      have e31 : (v3 + 1).toInt = v3.toInt + 1 := p_1 h0 (by omega)
      rcases ifc h with ⟨b, h⟩ | ⟨b, h⟩
      · have k0 : k = 0 := by rw [← e2, b]; rfl
        rcases e3 with e3 | ⟨_, K'⟩
        · exact absurd k0 e3.1
        subst k0
        have nx := nst_1 nb e1
        have go : ∀ w2 : Int32, w2.toInt = (x'.1 : Int) → fNl_scanLines_71 (gNl_scanLines fuel) w2 v3 y.2 q.2 = some r → ScN sg n r := fun w2 ew h => by
          refine scanLines_go n0 n1 fuel w2 (v3 + 1) y.2 q.2 r l x' f3 sq nq (by omega) (f5 a) g5 (fun j z => ?_) (by rw [show ((q.2.1 4).toInt + 1).toNat = (q.2.1 4).toInt.toNat + 1 from by omega]; exact hL1) ew ?_ (by omega) (by omega) K' h
          · by_cases lj : (j : Int) < (q.2.1 4).toInt
            · exact hj2 j lj
            · rw [show j = (q.2.1 4).toInt.toNat from by omega]; exact la
          · omega
        have e21 : (v2 + 1).toInt = v2.toInt + 1 := p_1 (by omega) (by omega)
        rcases ifc h with ⟨c, h⟩ | ⟨c, h⟩
        · have c : v2.toInt = 2 := c_eq c
          obtain ⟨u, hu, h⟩ := bd h
          have hu : Yn u (isEnd sg n.toNat (q.2.1 4).toInt.toNat) := by
            have z : Yn u (Wdq (q.2.2.1 0) (q.2.2.1 1 0).toInt (q.2.2.1 2 0).toInt [46, 101, 110, 100]) := isWord4_sp (v1 := 0) f3 hu
            rw [sq, w0.1, w0.2] at z; exact z
          rcases ifc h with ⟨d, h⟩ | ⟨d, h⟩
          · have nE := Yn_0 hu d
            refine go v2 ?_ h
            rcases nx with z | z | z | z
            · omega
            · omega
            · exact absurd z.2.1 nE
            · omega
          · have iE := Yn_1 hu d
            refine go (v2 + 1) ?_ h
            rcases nx with z | z | z | z
            · omega
            · omega
            · omega
            · exact absurd iE z.2.1
        · have c : ¬ v2.toInt = 2 := c_ne c
          refine go (v2 + 1) ?_ h
          rcases nx with z | z | z | z
          · omega
          · omega
          · omega
          · omega
      · have k0 : ¬ k = 0 := fun z => b (Int32.toInt_inj.mp (by rw [e2, z]; rfl))
        have er : r = (y.1, y.2, q.2) := (Option.some.inj h).symm
        subst er
        rcases e3 with e3 | e3
        · refine ⟨x, ?_, fun z => absurd (e2.symm.trans z) k0⟩
          show NAns sg n.toNat y.1.toInt (q.2.1 4).toInt x
          rw [e2, ev4, ← e3.2]
          exact NAns_g la hL1 k0
        · exact absurd e3.1 k0
theorem scanLines_sp {o o1 : cf_O} {r : Int32 × cf_O × cf_O} (ho : okO I_Tx o1) (h : fNl_scanLines o o1 = some r) : ScN (o1.2.1 0) (o1.1 3).toInt r := by
  have h : gNl_scanLines cfFU 0 0 0 (fp (fp (fp o 0 0) 1 0) 6 0) (fp (fp o1 6 0) 4 (-1)) = some r := h
  exact scanLines_go (ho.1 3).1 (ho.1 3).2 cfFU 0 0 (fp (fp (fp o 0 0) 1 0) 6 0) (fp (fp o1 6 0) 4 (-1)) r (-1) (0, 0, 0, 0, (fun _ => 0), (fun _ => 0), (fun _ _ => 0)) (ok_fp (ok_fp ho ⟨by decide, by decide⟩) ⟨by decide, by decide⟩) rfl rfl (by show (-1 : Int) ≤ (-1 : Int32).toInt; decide) (by show (-1 : Int32).toInt + 1 ≤ (0 : Int32).toInt; decide) (Lq_0 rfl rfl) (fun j q => absurd q (by show ¬ (j : Int) < (-1 : Int32).toInt + 1; rw [show (-1 : Int32).toInt = -1 from rfl]; omega)) rfl rfl (by decide) (by decide) (by show 2 * (0 : Int32).toInt ≤ (0 : Int32).toInt; decide) ⟨fun _ => rfl, fun _ => rfl, fun z => absurd z (by show ¬ 1 ≤ 0; omega), fun z => absurd z (by show ¬ 2 ≤ 0; omega), rfl, fun j hj => absurd hj (by show ¬ j < 0; omega)⟩ h
