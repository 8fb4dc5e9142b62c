def lsg (sg : Nat → Int32) (n m k : Nat) : Int32 := if wf sg n m 1 + (k : Int) < wt sg n m 1 then sg ((wf sg n m 1).toNat + k) else 0
def cP (sg : Nat → Int32) (n m : Nat) : Int := if cL sg n m = 2 then 1 else if cL sg n m = 4 then 2 else 3
def KC1 (sg : Nat → Int32) (n : Nat) (nm tb : Nat → Int32) (i l : Nat) : Prop := celOk sg n l ∧ (∀ k : Nat, k < 8 → nm (8 * i + k) = lsg sg n l k) ∧ (tb (4 * i)).toInt = cA sg n l ∧ (tb (4 * i + 1)).toInt = cD sg n l ∧ (tb (4 * i + 2)).toInt = cP sg n l ∧ (tb (4 * i + 3)).toInt = (cT sg n l : Int)
def KCq (sg : Nat → Int32) (n : Nat) (nm tb : Nat → Int32) (c : Nat) (ln : Nat → Nat) : Prop := ∀ i : Nat, i < c → KC1 sg n nm tb i (ln i)
theorem wf_0 {sg : Nat → Int32} {n m i : Nat} : 0 ≤ wf sg n m i := by unfold wf; omega
theorem nm_eq {sg : Nat → Int32} {f t f2 t2 : Int} (h : Nm sg f t) (h2 : Nm sg f2 t2) (hf : f < t) (hf2 : f2 < t2) : (∀ k : Nat, k < 8 → (if f + (k : Int) < t then sg (f.toNat + k) else 0) = (if f2 + (k : Int) < t2 then sg (f2.toNat + k) else 0)) ↔ (t - f = t2 - f2 ∧ ∀ k : Nat, (k : Int) < t - f → sg (f.toNat + k) = sg (f2.toNat + k)) := by
  have z0 : (0 : Int32).toInt = 0 := rfl
  constructor
  · intro q
    have e : t - f = t2 - f2 := by
      rcases Int.lt_trichotomy (t - f) (t2 - f2) with l | l | l
      · exfalso
        have a := q (t - f).toNat (by have := h2.1; omega)
        rw [if_neg (by omega), if_pos (by omega)] at a
        have b := nCh_b (h2.2 (t - f).toNat (by omega))
        rw [← a, z0] at b; omega
      · exact l
      · exfalso
        have a := q (t2 - f2).toNat (by have := h.1; omega)
        rw [if_pos (by omega), if_neg (by omega)] at a
        have b := nCh_b (h.2 (t2 - f2).toNat (by omega))
        rw [a, z0] at b; omega
    refine ⟨e, fun k hk => ?_⟩
    have a := q k (by have := h.1; omega)
    rw [if_pos (by omega), if_pos (by omega)] at a
    exact a
  · intro q k hk
    by_cases l : f + (k : Int) < t
    · rw [if_pos l, if_pos (by have := q.1; omega)]
      exact q.2 k (by omega)
    · rw [if_neg l, if_neg (by have := q.1; omega)]
theorem cel_w {sg : Nat → Int32} {n m : Nat} (h : celOk sg n m) {i : Nat} (hi : i < 5) : wf sg n m i < wt sg n m i := by
  have z := WT_l (sg := sg) (p := LPq sg n m) (h := LH sg n (LPq sg n m)) (i := i) LH_g (h.1.1 i hi)
  unfold wf wt; omega
theorem sNm_l {sg : Nat → Int32} {n m l : Nat} (h : celOk sg n m) (g : celOk sg n l) : (∀ k : Nat, k < 8 → lsg sg n m k = lsg sg n l k) ↔ sNm sg n m l :=
  nm_eq h.2.2.1 g.2.2.1 (cel_w h (by omega)) (cel_w g (by omega))
theorem KC_add {sg : Nat → Int32} {n : Int} {m c : Nat} {ln : Nat → Nat} {o r : cf_O} (hs : o.2.1 1 = sg) (K : KCq sg n.toNat (o.2.1 80) (o.2.1 81) c ln) (A : Addd o r c) (ok : celOk sg n.toNat m) (w : ∀ i : Nat, i < 5 → (o.2.1 8 i).toInt = wf sg n.toNat m i ∧ (o.2.1 9 i).toInt = wt sg n.toNat m i) : KCq sg n.toNat (r.2.1 80) (r.2.1 81) (c + 1) (fun i => if i = c then m else ln i) := by
  obtain ⟨-, -, a1, a2, a3, a4, a5, a6, a7⟩ := A
  rw [hs] at a4 a5 a6 a7
  rw [(w 2 (by omega)).1, (w 2 (by omega)).2] at a4
  rw [(w 3 (by omega)).1, (w 3 (by omega)).2] at a5
  rw [(w 4 (by omega)).1, (w 4 (by omega)).2] at a6 a7
  intro i hi
  by_cases e : i = c
  · subst e
    show KC1 sg n.toNat (r.2.1 80) (r.2.1 81) i (if i = i then m else ln i)
    rw [if_pos rfl]
    refine ⟨ok, fun k hk => ?_, ?_, ?_, ?_, a7⟩
    · rw [a2 k hk]
      unfold nsg lsg
      rw [(w 1 (by omega)).1, (w 1 (by omega)).2, hs]
    · rcases a4 with q | q
      · exact q.2.2
      · exact absurd ok.2.2.2.1 q.1
    · rcases a5 with q | q
      · exact q.2.2
      · exact absurd ok.2.2.2.2.1.1 q.1
    · rcases a6 with q | q
      · unfold cP cL
        rcases q.1 with q | q | q
        · rw [if_pos q.1, q.2]
        · rw [if_neg (by omega), if_pos q.1, q.2]
        · rw [if_neg (by omega), if_neg (by omega), q.2]
      · exact absurd ok.2.2.2.2.2 q.1
  · have l : i < c := by omega
    have z := K i l
    show KC1 sg n.toNat (r.2.1 80) (r.2.1 81) i (if i = c then m else ln i)
    rw [if_neg e]
    refine ⟨z.1, fun k hk => ?_, ?_, ?_, ?_, ?_⟩
    · rw [a1 (8 * i + k) (by omega)]; exact z.2.1 k hk
    · rw [a3 (4 * i) (by omega)]; exact z.2.2.1
    · rw [a3 (4 * i + 1) (by omega)]; exact z.2.2.2.1
    · rw [a3 (4 * i + 2) (by omega)]; exact z.2.2.2.2.1
    · rw [a3 (4 * i + 3) (by omega)]; exact z.2.2.2.2.2
theorem cellLine_sp {o r : cf_O} {sg : Nat → Int32} {n : Int} {m c : Nat} {ln : Nat → Nat} {v1 : Int32} (ho : okO I_M o) (h5 : o.1 5 = 0) (hs : o.2.1 1 = sg) (hT : TK sg n (LPq sg n.toNat m) (o.1 7).toInt (o.2.1 8) (o.2.1 9)) (h7 : 0 ≤ (o.1 7).toInt) (ec : (o.1 79).toInt = (c : Int)) (hc : c ≤ 12) (K : KCq sg n.toNat (o.2.1 80) (o.2.1 81) c ln) (h : fM_cellLine v1 o = some r) :
    (celOk sg n.toNat m ∧ c < 12 ∧ (((∃ i : Nat, i < c ∧ sNm sg n.toNat (ln i) m) ∧ r = fp (fp o 5 2) 6 v1) ∨ (¬ (∃ i : Nat, i < c ∧ sNm sg n.toNat (ln i) m) ∧ Addd o r c ∧ KCq sg n.toNat (r.2.1 80) (r.2.1 81) (c + 1) (fun i => if i = c then m else ln i)))) ∨ (¬ (celOk sg n.toNat m ∧ c < 12) ∧ r = fp (fp o 5 1) 6 v1) := by
  have no : ¬ (celOk sg n.toNat m ∧ c < 12) → fM_cellLine_59 (gM_cellLine cfFU) v1 o = some r → (celOk sg n.toNat m ∧ c < 12 ∧ (((∃ i : Nat, i < c ∧ sNm sg n.toNat (ln i) m) ∧ r = fp (fp o 5 2) 6 v1) ∨ (¬ (∃ i : Nat, i < c ∧ sNm sg n.toNat (ln i) m) ∧ Addd o r c ∧ KCq sg n.toNat (r.2.1 80) (r.2.1 81) (c + 1) (fun i => if i = c then m else ln i)))) ∨ (¬ (celOk sg n.toNat m ∧ c < 12) ∧ r = fp (fp o 5 1) 6 v1) := fun q h => by
    obtain ⟨x, g, h⟩ := bd h
    exact Or.inr ⟨q, by rw [← Option.some.inj h]; exact fail_sp h5 g⟩
  have wn := Tn_w hT h7
  rcases ifc h with ⟨a, h⟩ | ⟨a, h⟩
  · have a : (o.1 7).toInt = 5 := c_eq a
    have w : ∀ i : Nat, i < 5 → (o.2.1 8 i).toInt = wf sg n.toNat m i ∧ (o.2.1 9 i).toInt = wt sg n.toNat m i := fun i hi => ⟨(Tw hT (i := i) (by omega)).1, (Tw hT (i := i) (by omega)).2.1⟩
    have wl : ∀ i : Nat, i < 5 → wf sg n.toNat m i < wt sg n.toNat m i := fun i hi => (Tw hT (i := i) (by omega)).2.2
    have wl2 : ∀ i : Nat, i < 5 → (o.2.1 8 i).toInt < (o.2.1 9 i).toInt := fun i hi => by rw [(w i hi).1, (w i hi).2]; exact wl i hi
    rw [a] at wn
    obtain ⟨q1, g1, h⟩ := bd h
    have g1 : Yn q1 (isCel sg n.toNat m) := by
      have z := isCellWord_sp ho g1
      rw [hs, (w 0 (by omega)).1, (w 0 (by omega)).2] at z; exact z
    rcases ifc h with ⟨b, h⟩ | ⟨b, h⟩
    · exact no (fun z => Yn_0 g1 b z.1.2.1) h
    have g1 := Yn_1 g1 b
    rcases ifc h with ⟨b, h⟩ | ⟨b, h⟩
    · have b : (o.1 79).toInt = 12 := c_eq b
      exact no (fun z => by have := z.2; omega) h
    have b : ¬ (o.1 79).toInt = 12 := c_ne b
    obtain ⟨q2, g2, h⟩ := bd h
    have g2 : Yn q2 (Nm sg (wf sg n.toNat m 1) (wt sg n.toNat m 1)) := by
      have z : Yn q2 (Nm (o.2.1 1) (o.2.1 8 1).toInt (o.2.1 9 1).toInt) := isName_sp (v1 := 1) ho (wl2 1 (by omega)) g2
      rw [hs, (w 1 (by omega)).1, (w 1 (by omega)).2] at z; exact z
    rcases ifc h with ⟨d, h⟩ | ⟨d, h⟩
    · exact no (fun z => Yn_0 g2 d z.1.2.2.1) h
    have g2 := Yn_1 g2 d
    obtain ⟨q3, g3, h⟩ := bd h
    have g3 : Dg sg (wf sg n.toNat m 2) (wt sg n.toNat m 2) 3 q3.toInt := by
      have z : Dg (o.2.1 1) (o.2.1 8 2).toInt (o.2.1 9 2).toInt 3 q3.toInt := digitsOf_sp (v1 := 2) (v2 := 3) ho (by decide) (wl2 2 (by omega)) g3
      rw [hs, (w 2 (by omega)).1, (w 2 (by omega)).2] at z; exact z
    rcases ifc h with ⟨d, h⟩ | ⟨d, h⟩
    · have d : q3.toInt < 0 := c_lt d
      refine no (fun z => ?_) h
      rcases g3 with g3 | g3
      · have := (dv_b g3.2.1).1; rw [← g3.2.2] at this; omega
      · exact g3.1 z.1.2.2.2.1
    have d : 0 ≤ q3.toInt := c_nlt d
    have g3 : wt sg n.toNat m 2 - wf sg n.toNat m 2 ≤ 3 ∧ dOk sg (wf sg n.toNat m 2).toNat (wt sg n.toNat m 2 - wf sg n.toNat m 2).toNat := by
      rcases g3 with g3 | g3
      · exact ⟨g3.1, g3.2.1⟩
      · have := g3.2; omega
    obtain ⟨q4, g4, h⟩ := bd h
    have g4 : Dg sg (wf sg n.toNat m 3) (wt sg n.toNat m 3) 2 q4.toInt := by
      have z : Dg (o.2.1 1) (o.2.1 8 3).toInt (o.2.1 9 3).toInt 2 q4.toInt := digitsOf_sp (v1 := 3) (v2 := 2) ho (by decide) (wl2 3 (by omega)) g4
      rw [hs, (w 3 (by omega)).1, (w 3 (by omega)).2] at z; exact z
    rcases ifc h with ⟨d, h⟩ | ⟨d, h⟩
    · have d : q4.toInt < 1 := c_lt d
      refine no (fun z => ?_) h
      rcases g4 with g4 | g4
      · have y := z.1.2.2.2.2.1.2
        unfold cD at y
        have := g4.2.2; omega
      · exact g4.1 z.1.2.2.2.2.1.1
    have d : 1 ≤ q4.toInt := c_nlt d
    have g4 : (wt sg n.toNat m 3 - wf sg n.toNat m 3 ≤ 2 ∧ dOk sg (wf sg n.toNat m 3).toNat (wt sg n.toNat m 3 - wf sg n.toNat m 3).toNat) ∧ 1 ≤ cD sg n.toNat m := by
      rcases g4 with g4 | g4
      · exact ⟨⟨g4.1, g4.2.1⟩, by unfold cD; have := g4.2.2; omega⟩
      · have := g4.2; omega
    obtain ⟨q5, g5, h⟩ := bd h
    have g5 : Pnq sg (wf sg n.toNat m 4) (wt sg n.toNat m 4) q5.toInt := by
      have z : Pnq (o.2.1 1) (o.2.1 8 4).toInt (o.2.1 9 4).toInt q5.toInt := pinsOf_sp (v1 := 4) ho (wl2 4 (by omega)) g5
      rw [hs, (w 4 (by omega)).1, (w 4 (by omega)).2] at z; exact z
    rcases ifc h with ⟨d, h⟩ | ⟨d, h⟩
    · have d : q5.toInt = 0 := c_eq d
      refine no (fun z => ?_) h
      rcases g5 with g5 | g5
      · have := g5.1; omega
      · exact g5.1 z.1.2.2.2.2.2
    have d : ¬ q5.toInt = 0 := c_ne d
    have g5 : (cL sg n.toNat m = 2 ∨ cL sg n.toNat m = 4 ∨ cL sg n.toNat m = 8) ∧ bOk sg (wf sg n.toNat m 4).toNat (cL sg n.toNat m).toNat := by
      rcases g5 with g5 | g5
      · refine ⟨?_, g5.2⟩
        unfold cL
        have := g5.1; omega
      · exact absurd g5.2 d
    have ok : celOk sg n.toNat m := ⟨wn, g1, g2, g3, g4, g5⟩
    have c12 : c < 12 := by omega
    obtain ⟨q6, g6, h⟩ := bd h
    have g6 : Yn q6 (∃ i : Nat, i < c ∧ sNm sg n.toNat (ln i) m) := by
      refine Yn_i (isTaken_sp ho g6) ⟨?_, ?_⟩
      · rintro ⟨i, hi, q⟩
        have hi : i < c := by omega
        refine ⟨i, hi, (sNm_l (K i hi).1 ok).mp (fun k hk => ?_)⟩
        rw [← (K i hi).2.1 k hk]
        have z : o.2.1 80 (8 * i + k) = (if (o.2.1 8 1).toInt + (k : Int) < (o.2.1 9 1).toInt then o.2.1 1 ((o.2.1 8 1).toInt.toNat + k) else 0) := q k hk
        rw [z, (w 1 (by omega)).1, (w 1 (by omega)).2, hs]; rfl
      · rintro ⟨i, hi, q⟩
        refine ⟨i, by omega, fun k hk => ?_⟩
        show o.2.1 80 (8 * i + k) = (if (o.2.1 8 1).toInt + (k : Int) < (o.2.1 9 1).toInt then o.2.1 1 ((o.2.1 8 1).toInt.toNat + k) else 0)
        rw [(K i hi).2.1 k hk, (sNm_l (K i hi).1 ok).mpr q k hk, (w 1 (by omega)).1, (w 1 (by omega)).2, hs]; rfl
    rcases ifc h with ⟨d, h⟩ | ⟨d, h⟩
    · have w48 : (o.2.1 9 4).toInt - (o.2.1 8 4).toInt ≤ 8 := by
        rw [(w 4 (by omega)).1, (w 4 (by omega)).2]
        have z := g5.1
        unfold cL at z; omega
      have hb : bOk (o.2.1 1) (o.2.1 8 4).toInt.toNat ((o.2.1 9 4).toInt - (o.2.1 8 4).toInt).toNat := by
        rw [hs, (w 4 (by omega)).1, (w 4 (by omega)).2]; exact g5.2
      have A := (cellLine_go ho ec c12 (wl2 2 (by omega)) (wl2 3 (by omega)) (wl2 4 (by omega)) w48 hb cfFU).1 0 o r ho fr_rfl (by decide) (by decide) (fun _ _ => rfl) (fun k q => absurd q (by rw [show (0 : Int32).toInt = 0 from rfl]; omega)) rfl h
      exact Or.inl ⟨ok, c12, Or.inr ⟨Yn_0 g6 d, A, KC_add hs K A ok w⟩⟩
    · obtain ⟨x, g, h⟩ := bd h
      exact Or.inl ⟨ok, c12, Or.inl ⟨Yn_1 g6 d, by rw [← Option.some.inj h]; exact fail_sp h5 g⟩⟩
  · have a : ¬ (o.1 7).toInt = 5 := c_ne a
    exact no (fun z => by have := Wn_u wn z.1.1; omega) h
theorem ls_b {sg : Nat → Int32} {n m : Nat} {s : LSq} (h : Bl sg n m) : lstep sg n m s = s := cif_t h
theorem lst_e {sg : Nat → Int32} {n m : Nat} {k l : Int} {x : Nat × (Nat → Nat)} (h : ¬ Bl sg n m) : lstep sg n m (k, l, 1, x) = (1, (m : Int), 1, x) := by
  unfold lstep; rw [cif_f h]; exact cif_t rfl
theorem ls_y {sg : Nat → Int32} {n m c : Nat} {k l : Int} {ln : Nat → Nat} (h : ¬ Bl sg n m) (he : isEnd sg n m) (h1 : Wn sg n m 1) (hc : 0 < c) : lstep sg n m (k, l, 0, c, ln) = (0, -1, 1, c, ln) := by
  unfold lstep; rw [cif_f h, cif_f (show ¬ (0 : Int) = 1 by decide), cif_t he]; exact cif_t ⟨h1, hc⟩
theorem ls_n {sg : Nat → Int32} {n m c : Nat} {k l : Int} {ln : Nat → Nat} (h : ¬ Bl sg n m) (he : isEnd sg n m) (h1 : ¬ (Wn sg n m 1 ∧ 0 < c)) : lstep sg n m (k, l, 0, c, ln) = (1, (m : Int), 0, c, ln) := by
  unfold lstep; rw [cif_f h, cif_f (show ¬ (0 : Int) = 1 by decide), cif_t he]; exact cif_f h1
theorem ls_x {sg : Nat → Int32} {n m c : Nat} {k l : Int} {ln : Nat → Nat} (h : ¬ Bl sg n m) (he : ¬ isEnd sg n m) (h1 : ¬ (celOk sg n m ∧ c < 12)) : lstep sg n m (k, l, 0, c, ln) = (1, (m : Int), 0, c, ln) := by
  unfold lstep; rw [cif_f h, cif_f (show ¬ (0 : Int) = 1 by decide), cif_f he]; exact cif_f h1
theorem ls_t {sg : Nat → Int32} {n m c : Nat} {k l : Int} {ln : Nat → Nat} (h : ¬ Bl sg n m) (he : ¬ isEnd sg n m) (h1 : celOk sg n m ∧ c < 12) (ht : ∃ i : Nat, i < c ∧ sNm sg n (ln i) m) : lstep sg n m (k, l, 0, c, ln) = (2, (m : Int), 0, c, ln) := by
  unfold lstep; rw [cif_f h, cif_f (show ¬ (0 : Int) = 1 by decide), cif_f he, cif_t h1]; exact cif_t ht
theorem ls_a {sg : Nat → Int32} {n m c : Nat} {k l : Int} {ln : Nat → Nat} (h : ¬ Bl sg n m) (he : ¬ isEnd sg n m) (h1 : celOk sg n m ∧ c < 12) (ht : ¬ ∃ i : Nat, i < c ∧ sNm sg n (ln i) m) : lstep sg n m (k, l, 0, c, ln) = (0, -1, 0, c + 1, fun i => if i = c then m else ln i) := by
  unfold lstep; rw [cif_f h, cif_f (show ¬ (0 : Int) = 1 by decide), cif_f he, cif_t h1]; exact cif_f ht
theorem ec_x {sg : Nat → Int32} {n m : Nat} (h : isEnd sg n m) (g : isCel sg n m) : False := by
  have a := h.2 0 (by decide)
  have b := g.2 0 (by decide)
  rw [a] at b
  exact absurd b (by decide)
theorem LR_t {sg : Nat → Int32} {n m : Nat} {s2 e : Int} {c : Nat} {ln : Nat → Nat} (h : LR sg n m = (0, s2, e, c, ln)) : LR sg n (m + 1) = lstep sg n m (0, s2, e, c, ln) := by
  rw [LR_s (by rw [h]), h]
theorem LAns_g {sg : Nat → Int32} {n a : Nat} {k l : Int} {x : Int × Nat × (Nat → Nat)} {c : Nat} {ln : Nat → Nat} (ha : LPq sg n a ≤ n) (h : LR sg n (a + 1) = (k, l, x)) (hk : ¬ k = 0) : LAns sg n k l c ln := by
  have z := LAns_f (c := c) (ln := ln) ha (show ¬ (LR sg n (a + 1)).1 = 0 by rw [h]; exact hk)
  rw [h] at z; exact z
theorem fail_n {k v : Int32} {o r : cf_O} (h5 : ¬ o.1 5 = 0) (h : fM_fail k v o = some r) : r = o := by
  rcases ifc (show (if (o.1 5) = (0 : Int32) then some (fp (fp o 5 k) 6 v) else some o) = some r from h) with ⟨a, _⟩ | ⟨_, h⟩
  · exact absurd a h5
  · exact (Option.some.inj h).symm
theorem rL_f : ∀ {fuel : Nat} {v1 v2 v3 : Int32} {o r : cf_O}, ¬ o.1 5 = 0 → gM_readLibrary fuel 0 v1 v2 v3 o = some r → r = o
  | 0, v1, v2, v3, o, r, h5, h => by cases h
  | fuel + 1, v1, v2, v3, o, r, h5, h => by
    have k : fM_readLibrary_129 (gM_readLibrary fuel) v1 v2 o = some r → r = o := fun h => by
      rcases ifc h with ⟨_, h⟩ | ⟨_, h⟩
      · obtain ⟨x, g, h⟩ := bd h
        rw [← Option.some.inj h]; exact fail_n h5 g
      · exact (Option.some.inj h).symm
    rcases ifc h with ⟨_, h⟩ | ⟨_, h⟩
    · exact k h
    · rcases ifc h with ⟨a, h⟩ | ⟨_, h⟩
      · exact absurd a h5
      · exact k h
def RdL (O : cf_O) (sg : Nat → Int32) (n : Int) (r : cf_O) : Prop := Fr (fr_M [5, 6, 7, 79] [8, 9, 80, 81] []) O r ∧ ∃ (c : Nat) (ln : Nat → Nat), LAns sg n.toNat (r.1 5).toInt (r.1 6).toInt c ln ∧ ((r.1 5).toInt = 0 → (r.1 79).toInt = (c : Int) ∧ c ≤ 12 ∧ KCq sg n.toNat (r.2.1 80) (r.2.1 81) c ln)
theorem RdL_f {O o r : cf_O} {sg : Nat → Int32} {n : Int} {k v : Int32} {a : Nat} {x : Int × Nat × (Nat → Nat)} (rO : Fr (fr_M [5, 6, 7, 79] [8, 9, 80, 81] []) O o) (ha : LPq sg n.toNat a ≤ n.toNat) (h : LR sg n.toNat (a + 1) = (k.toInt, (a : Int), x)) (hk : ¬ k.toInt = 0) (ev : v.toInt = (a : Int)) (e : r = fp (fp o 5 k) 6 v) : RdL O sg n r := by
  subst e
  refine ⟨fr_fp (fr_fp rO rfl) rfl, 0, fun _ => 0, ?_, fun z => absurd z hk⟩
  show LAns sg n.toNat k.toInt v.toInt 0 (fun _ => 0)
  rw [ev]
  exact LAns_g ha h hk
theorem takeLine_ok {v1 : Int32} {o : cf_O} {r : Int32 × cf_O} (ho : okO I_M o) (h1 : (0 : Int) ≤ v1.toInt ∧ v1.toInt ≤ 1600) (f0 : (0 : Int) ≤ (o.1 0).toInt ∧ (o.1 0).toInt ≤ 0) (f5 : (0 : Int) ≤ (o.1 5).toInt ∧ (o.1 5).toInt ≤ 0) (f95 : (0 : Int) ≤ (o.1 95).toInt ∧ (o.1 95).toInt ≤ 0) (h : fM_takeLine v1 o = some r) : okO I_M r.2 ∧ r.1.toInt ≤ 1600 := by
  obtain ⟨r', e, Q⟩ := sM_takeLine v1 o ho h1 f0 f5 f95
  cases e.symm.trans h
  exact ⟨Q.2.1, Q.1.2⟩
theorem cellLine_ok {v1 : Int32} {o r : cf_O} (ho : okO I_M o) (f0 : (0 : Int) ≤ (o.1 0).toInt ∧ (o.1 0).toInt ≤ 0) (f5 : (0 : Int) ≤ (o.1 5).toInt ∧ (o.1 5).toInt ≤ 0) (f7 : (1 : Int) ≤ (o.1 7).toInt) (f95 : (0 : Int) ≤ (o.1 95).toInt ∧ (o.1 95).toInt ≤ 0) (x0 : Fp (o.2.1 81)) (h : fM_cellLine v1 o = some r) : okO I_M r ∧ Fp (r.2.1 81) := by
  obtain ⟨r', e, Q⟩ := sM_cellLine v1 o ho f0 f5 ⟨f7, (ho.1 7).2⟩ f95 x0
  cases e.symm.trans h
  exact ⟨Q.1, Q.2.2.2.1⟩
theorem readLibrary_go {O : cf_O} {sg : Nat → Int32} {n : Int} (hW : W4 (O.2.2 4)) (f0 : (0 : Int) ≤ (O.1 0).toInt ∧ (O.1 0).toInt ≤ 0) (f95 : (0 : Int) ≤ (O.1 95).toInt ∧ (O.1 95).toInt ≤ 0) (n0 : 0 ≤ n) (n1 : n ≤ 1600) : ∀ (fuel : Nat) (v1 v2 v3 : Int32) (o r : cf_O) (s2 e : Int) (c : Nat) (ln : Nat → Nat), okO I_M o → Fr (fr_M [5, 6, 7, 79] [8, 9, 80, 81] []) O o → o.2.1 1 = sg → (o.1 2).toInt = n → Fp (o.2.1 81) → o.1 5 = 0 → 0 ≤ v2.toInt → v2.toInt ≤ v3.toInt → v3.toInt ≤ 1601 → Lqq sg n v2.toInt v3.toInt → (∀ j : Nat, (j : Int) < v2.toInt → LPq sg n.toNat j ≤ n.toNat) → LR sg n.toNat v2.toInt.toNat = (0, s2, e, c, ln) → v1.toInt = e → (e = 0 ∨ e = 1) → (o.1 79).toInt = (c : Int) → c ≤ 12 → KCq sg n.toNat (o.2.1 80) (o.2.1 81) c ln → gM_readLibrary fuel 0 v1 v2 v3 o = some r → RdL O sg n r
  | 0, v1, v2, v3, o, r, s2, e, c, ln, ho, rO, hs, hn, hF, h5, h0, h23, h3, hq, hj, hL, ev, ee, ec, c12, K, h => by cases h
  | fuel + 1, v1, v2, v3, o, r, s2, e, c, ln, ho, rO, hs, hn, hF, h5, h0, h23, h3, hq, hj, hL, ev, ee, ec, c12, K, h => by
    have z0 : (0 : Int32).toInt = 0 := rfl
    have hq' : v3.toInt = (LPq sg n.toNat v2.toInt.toNat : Int) := hq
    rcases ifc h with ⟨a, h⟩ | ⟨a, h⟩
    · have a := c_lt a
      have M1 : n.toNat < LPq sg n.toNat v2.toInt.toNat := by omega
      have M2 : ∀ j : Nat, j < v2.toInt.toNat → LPq sg n.toNat j ≤ n.toNat := fun j q => hj j (by omega)
      rcases ifc h with ⟨b, h⟩ | ⟨b, h⟩
      · have b : v1.toInt = 0 := c_eq b
        obtain ⟨x, g, h⟩ := bd h
        have e1 : r = fp (fp o 5 1) 6 v2 := by rw [← Option.some.inj h]; exact fail_sp h5 g
        subst e1
        refine ⟨fr_fp (fr_fp rO rfl) rfl, c, ln, ?_, fun z => absurd z (by show ¬ (1 : Int32).toInt = 0; decide)⟩
        show LAns sg n.toNat (1 : Int32).toInt v2.toInt c ln
        rw [show v2.toInt = ((v2.toInt.toNat : Nat) : Int) from by omega]
        exact LAns_n M1 M2 (by rw [hL]) (by rw [hL]; show ¬ e = 1; omega)
      · have b : ¬ v1.toInt = 0 := c_ne b
        have e1 : r = o := (Option.some.inj h).symm
        subst e1
        refine ⟨rO, c, ln, ?_, fun _ => ⟨ec, c12, K⟩⟩
        have z := LAns_e (c := c) (ln := ln) M1 M2 (by rw [hL]) (by rw [hL]; show e = 1; omega) (by rw [hL]) (by rw [hL])
        obtain ⟨M, m1, m2, m3⟩ := z
        refine ⟨M, m1, m2, ?_⟩
        rw [h5, z0]
        rcases m3 with m3 | m3 | m3
        · exact absurd m3.2.1.symm m3.1
        · exact Or.inr (Or.inl m3)
        · exact absurd m3.2.2.1 (by decide)
    · have a := c_nlt a
      rcases ifc h with ⟨_, h⟩ | ⟨b, _⟩
      · obtain ⟨q, hT, h⟩ := bd h
        have o0 : o.1 0 = O.1 0 := rO.1 0 rfl
        have o95 : o.1 95 = O.1 95 := rO.1 95 rfl
        have tk := takeLine_ok ho ⟨by omega, by omega⟩ (by rw [o0]; exact f0) (by rw [h5]; decide) (by rw [o95]; exact f95) hT
        obtain ⟨t1, t2, t3, t4, t5⟩ := takeLine_sp (by omega) hT
        rw [hs, hn] at t2 t3
        rw [hq'] at t3
        have la : LPq sg n.toNat v2.toInt.toNat ≤ n.toNat := by omega
        have rq : Fr (fr_M [5, 6, 7, 79] [8, 9, 80, 81] []) O q.2 := fr_tr rO t1 rfl rfl rfl
        have sq : q.2.2.1 1 = sg := by rw [t1.2.1 1 rfl]; exact hs
        have nq : (q.2.1 2).toInt = n := by rw [t1.1 2 rfl]; exact hn
        have q5 : q.2.1 5 = 0 := by rw [t1.1 5 rfl]; exact h5
        have q79 : (q.2.1 79).toInt = (c : Int) := by rw [t1.1 79 rfl]; exact ec
        have Kq : KCq sg n.toNat (q.2.2.1 80) (q.2.2.1 81) c ln := by rw [t1.2.1 80 rfl, t1.2.1 81 rfl]; exact K
        have Fq : Fp (q.2.2.1 81) := by rw [t1.2.1 81 rfl]; exact hF
        have e2 : (v2 + 1).toInt = v2.toInt + 1 := p_1 h0 (by omega)
        have e2n : (v2 + 1).toInt.toNat = v2.toInt.toNat + 1 := by omega
        have e4 : (q.1 + 1).toInt = q.1.toInt + 1 := p_1 (by omega) tk.2
        have hq2 : Lqq sg n (v2 + 1).toInt (q.1 + 1).toInt := Lq_s hq t2 h0 (by omega) e2 e4
        have hj2 : ∀ j : Nat, (j : Int) < (v2 + 1).toInt → LPq sg n.toNat j ≤ n.toNat := fun j qj => by
          by_cases ej : (j : Int) = v2.toInt
          · rw [show j = v2.toInt.toNat from by omega]; exact la
          · exact hj j (by omega)
        have wn := Tn_w t3 t5
        have hL1 := LR_t hL
        have ev2 : v2.toInt = ((v2.toInt.toNat : Nat) : Int) := by omega
        have bl : (q.2.1 7).toInt = 0 → Bl sg n.toNat v2.toInt.toNat := fun z => by rw [z] at wn; exact wn.2
        have nb : ¬ (q.2.1 7).toInt = 0 → ¬ Bl sg n.toNat v2.toInt.toNat := fun z y => by
          have l := wn.1 0 (by omega)
          have y : WF sg (LPq sg n.toNat v2.toInt.toNat) (LH sg n.toNat (LPq sg n.toNat v2.toInt.toNat)) 0 = LH sg n.toNat (LPq sg n.toNat v2.toInt.toNat) := y
          omega
        have go : ∀ (w1 : Int32) (o' : cf_O) (s2' e' : Int) (c' : Nat) (ln' : Nat → Nat), okO I_M o' → Fr (fr_M [5, 6, 7, 79] [8, 9, 80, 81] []) O o' → Fp (o'.2.1 81) → o'.1 5 = 0 → LR sg n.toNat (v2.toInt.toNat + 1) = (0, s2', e', c', ln') → w1.toInt = e' → (e' = 0 ∨ e' = 1) → (o'.1 79).toInt = (c' : Int) → c' ≤ 12 → KCq sg n.toNat (o'.2.1 80) (o'.2.1 81) c' ln' → fM_readLibrary_118 (gM_readLibrary fuel) w1 v2 q.1 o' = some r → RdL O sg n r := fun w1 o' s2' e' c' ln' k1 k2 k3 k4 k5 k6 k7 k8 k9 k10 h =>
          readLibrary_go hW f0 f95 n0 n1 fuel w1 (v2 + 1) (q.1 + 1) o' r s2' e' c' ln' k1 k2 (by rw [k2.2.1 1 rfl, ← rO.2.1 1 rfl]; exact hs) (by rw [k2.1 2 rfl, ← rO.1 2 rfl]; exact hn) k3 k4 (by omega) (by omega) (by omega) hq2 hj2 (by rw [e2n]; exact k5) k6 k7 k8 k9 k10 h
        have cl : ¬ (q.2.1 7).toInt = 0 → e = 0 → ¬ (isEnd sg n.toNat v2.toInt.toNat ∧ Wn sg n.toNat v2.toInt.toNat 1 ∧ 0 < c) → Option.bind (fM_cellLine v2 q.2) (fun q_2 => fM_readLibrary_118 (gM_readLibrary fuel) v1 v2 q.1 q_2) = some r → RdL O sg n r := fun w7 e0 ne h => by
          obtain ⟨x, hx, h⟩ := bd h
          have ck := cellLine_ok tk.1 (by rw [t1.1 0 rfl, o0]; exact f0) (by rw [q5]; decide) (by omega) (by rw [t1.1 95 rfl, o95]; exact f95) Fq hx
          subst e0
          rcases cellLine_sp tk.1 q5 sq t3 t5 q79 c12 Kq hx with ⟨ok, l12, ⟨d, ex⟩ | ⟨d, A, K2⟩⟩ | ⟨nk, ex⟩
          · have nE : ¬ isEnd sg n.toNat v2.toInt.toNat := fun z => ec_x z ok.2.1
            rw [ls_t (nb w7) nE ⟨ok, l12⟩ d] at hL1
            have x5 : ¬ x.1 5 = 0 := by rw [ex]; show ¬ (2 : Int32) = 0; decide
            have er := rL_f (fuel := fuel) x5 h
            rw [er]
            exact RdL_f (k := 2) (v := v2) rq la hL1 (by decide) ev2 ex
          · have nE : ¬ isEnd sg n.toNat v2.toInt.toNat := fun z => ec_x z ok.2.1
            rw [ls_a (nb w7) nE ⟨ok, l12⟩ d] at hL1
            have x5 : x.1 5 = 0 := by rw [A.1.1 5 rfl]; exact q5
            exact go v1 x _ _ _ _ ck.1 (fr_tr rq A.1 rfl rfl rfl) ck.2 x5 hL1 ev (Or.inl rfl) (by rw [A.2.1]; omega) (by omega) K2 h
          · have hL2 : LR sg n.toNat (v2.toInt.toNat + 1) = (1, ((v2.toInt.toNat : Nat) : Int), 0, c, ln) := by
              rw [hL1]
              by_cases nE : isEnd sg n.toNat v2.toInt.toNat
              · exact ls_n (nb w7) nE (fun z => ne ⟨nE, z⟩)
              · exact ls_x (nb w7) nE nk
            have x5 : ¬ x.1 5 = 0 := by rw [ex]; show ¬ (1 : Int32) = 0; decide
            have er := rL_f (fuel := fuel) x5 h
            rw [er]
            exact RdL_f (k := 1) (v := v2) rq la hL2 (by decide) ev2 ex
        rcases ifc h with ⟨b, h⟩ | ⟨b, h⟩
        · have b : (q.2.1 7).toInt = 0 := c_eq b
          rcases ifc h with ⟨d, _⟩ | ⟨_, h⟩
          · exact absurd d (by decide)
          rcases ifc h with ⟨d, _⟩ | ⟨_, h⟩
          · exact absurd d (by decide)
          rcases ifc h with ⟨d, _⟩ | ⟨_, h⟩
          · exact absurd d (by decide)
          rw [ls_b (bl b)] at hL1
          exact go v1 q.2 _ _ _ _ tk.1 rq Fq q5 hL1 ev ee q79 c12 Kq h
        · have b : ¬ (q.2.1 7).toInt = 0 := c_ne b
          rcases ifc h with ⟨_, h⟩ | ⟨d, _⟩
          · rcases ifc h with ⟨d, h⟩ | ⟨d, h⟩
            · have d : v1.toInt = 0 := c_eq d
              have e0 : e = 0 := by omega
              have w0 : fM_readLibrary_108 (gM_readLibrary fuel) v1 v2 q.1 0 q.2 = some r → Option.bind (fM_cellLine v2 q.2) (fun q_2 => fM_readLibrary_118 (gM_readLibrary fuel) v1 v2 q.1 q_2) = some r := fun h => by
                rcases ifc h with ⟨_, h⟩ | ⟨y, _⟩
                · exact h
                · exact absurd rfl y
              rcases ifc h with ⟨_, h⟩ | ⟨y, _⟩
              · rcases ifc h with ⟨f, h⟩ | ⟨f, h⟩
                · have f : (q.2.1 79).toInt ≤ 0 := c_le f
                  exact cl b e0 (fun z => by have := z.2.2; omega) (w0 h)
                · have f : 0 < (q.2.1 79).toInt := c_nle f
                  rcases ifc h with ⟨g, h⟩ | ⟨g, h⟩
                  · have g : (q.2.1 7).toInt = 1 := c_eq g
                    obtain ⟨x, hx, h⟩ := bd h
                    have w := Tw t3 (i := 0) (by omega)
                    have fw := firstWord_sp (by rw [t1.2.2 4 rfl, rO.2.2 4 rfl]; exact hW) tk.1 (by rw [w.1, w.2.1]; exact w.2.2) hx
                    have ef : Fw q.2 3 ↔ isEnd sg n.toNat v2.toInt.toNat := by
                      unfold Fw isEnd
                      rw [sq, w.1, w.2.1]
                      exact Iff.rfl
                    rcases ifc h with ⟨k, h⟩ | ⟨k, h⟩
                    · have k : x.toInt = 3 := c_eq k
                      have iE : isEnd sg n.toNat v2.toInt.toNat := by
                        by_cases y : Fw q.2 3
                        · exact ef.mp y
                        · exfalso
                          rw [cif_f y] at fw
                          by_cases y2 : Fw q.2 2
                          · rw [cif_t y2] at fw; omega
                          · rw [cif_f y2] at fw
                            by_cases y1 : Fw q.2 1
                            · rw [cif_t y1] at fw; omega
                            · rw [cif_f y1] at fw
                              by_cases y0 : Fw q.2 0
                              · rw [cif_t y0] at fw; omega
                              · rw [cif_f y0] at fw; omega
                      rw [g] at wn
                      rw [e0, ls_y (nb b) iE wn (by omega)] at hL1
                      exact go 1 q.2 _ _ _ _ tk.1 rq Fq q5 hL1 rfl (Or.inr rfl) q79 c12 Kq h
                    · have k : ¬ x.toInt = 3 := c_ne k
                      exact cl b e0 (fun z => k (by rw [fw]; exact cif_t (ef.mpr z.1))) (w0 h)
                  · have g : ¬ (q.2.1 7).toInt = 1 := c_ne g
                    exact cl b e0 (fun z => by have := Wn_u wn z.2.1; omega) (w0 h)
              · exact absurd rfl y
            · have d : ¬ v1.toInt = 0 := c_ne d
              obtain ⟨x, hx, h⟩ := bd h
              have ex := fail_sp q5 hx
              have x5 : ¬ x.1 5 = 0 := by rw [ex]; show ¬ (1 : Int32) = 0; decide
              have er := rL_f (fuel := fuel) x5 h
              have e1 : e = 1 := by omega
              rw [e1, lst_e (nb b)] at hL1
              rw [er]
              exact RdL_f (k := 1) (v := v2) rq la hL1 (by decide) ev2 ex
          · exact absurd rfl d
      · exact absurd h5 b
theorem readLibrary_sp {o r : cf_O} (ho : okO I_M o) (hW : W4 (o.2.2 4)) (f0 : (0 : Int) ≤ (o.1 0).toInt ∧ (o.1 0).toInt ≤ 0) (f95 : (0 : Int) ≤ (o.1 95).toInt ∧ (o.1 95).toInt ≤ 0) (hF : Fp (o.2.1 81)) (h : fM_readLibrary o = some r) : RdL o (o.2.1 1) (o.1 2).toInt r :=
  readLibrary_go hW f0 f95 (ho.1 2).1 (ho.1 2).2 cfFU 0 0 0 (fp (fp (fp o 5 0) 6 (-1)) 79 0) r (-1) 0 0 (fun _ => 0) (ok_fp (ok_fp (ok_fp ho ⟨by decide, by decide⟩) ⟨by decide, by decide⟩) ⟨by decide, by decide⟩) (fr_fp (fr_fp (fr_fp fr_rfl rfl) rfl) rfl) rfl rfl hF rfl (by decide) (Int.le_refl _) (by decide) (Lq_0 rfl rfl) (fun j q => absurd q (by rw [show (0 : Int32).toInt = 0 from rfl]; omega)) rfl rfl (Or.inl rfl) rfl (by decide) (fun i q => absurd q (by omega)) h
