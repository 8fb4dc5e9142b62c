theorem wd_l {sg : Nat → Int32} {n m : Nat} {l k : List Int} (h : isWd sg n m l) (g : isWd sg n m k) : l.length = k.length := by
  have a := h.1
  have b := g.1
  omega
def FwC (sg : Nat → Int32) (n m : Nat) (x : Int) : Prop := (x = 3 ∧ isEnd sg n m) ∨ (x = 2 ∧ isWd sg n m wNam) ∨ (x = 1 ∧ isWd sg n m wOut) ∨ (x = 0 ∧ isWd sg n m wInp) ∨ (x = -1 ∧ ¬ isEnd sg n m ∧ ¬ isWd sg n m wNam ∧ ¬ isWd sg n m wOut ∧ ¬ isWd sg n m wInp)
theorem fw_c {sg : Nat → Int32} {n : Int} {m : Nat} {o : cf_O} {x : Int32} (h4 : W4 (o.2.2 4)) (ho : okO I_M o) (hs : o.2.1 1 = sg) (hT : TK sg n (LPq sg n.toNat m) (o.1 7).toInt (o.2.1 8) (o.2.1 9)) (h7 : 0 < (o.1 7).toInt) (h : fM_firstWord o = some x) : FwC sg n.toNat m x.toInt := by
  have w := Tw hT (i := 0) (by omega)
  have fw := firstWord_sp h4 ho (by rw [w.1, w.2.1]; exact w.2.2) h
  have e : ∀ k : Nat, Fw o k ↔ isWd sg n.toNat m (46 :: lwd k) := fun k => by
    unfold Fw isWd
    rw [hs, w.1, w.2.1]
  by_cases y3 : Fw o 3
  · rw [cif_t y3] at fw
    exact Or.inl ⟨fw, (e 3).mp y3⟩
  · rw [cif_f y3] at fw
    by_cases y2 : Fw o 2
    · rw [cif_t y2] at fw
      exact Or.inr (Or.inl ⟨fw, (e 2).mp y2⟩)
    · rw [cif_f y2] at fw
      by_cases y1 : Fw o 1
      · rw [cif_t y1] at fw
        exact Or.inr (Or.inr (Or.inl ⟨fw, (e 1).mp y1⟩))
      · rw [cif_f y1] at fw
        by_cases y0 : Fw o 0
        · rw [cif_t y0] at fw
          exact Or.inr (Or.inr (Or.inr (Or.inl ⟨fw, (e 0).mp y0⟩)))
        · rw [cif_f y0] at fw
          exact Or.inr (Or.inr (Or.inr (Or.inr ⟨fw, fun z => y3 ((e 3).mpr z), fun z => y2 ((e 2).mpr z), fun z => y1 ((e 1).mpr z), fun z => y0 ((e 0).mpr z)⟩)))
theorem FwC_0 {sg : Nat → Int32} {n m : Nat} {x : Int} (h : FwC sg n m x) : x = 0 ↔ isWd sg n m wInp := by
  rcases h with ⟨a, b⟩ | ⟨a, b⟩ | ⟨a, b⟩ | ⟨a, b⟩ | ⟨a, b⟩
  · exact ⟨fun q => by omega, fun q => absurd (wd_l (l := [46, 101, 110, 100]) b q) (by decide)⟩
  · exact ⟨fun q => by omega, fun q => absurd (wd_l b q) (by decide)⟩
  · exact ⟨fun q => by omega, fun q => absurd (wd_l b q) (by decide)⟩
  · exact ⟨fun _ => b, fun _ => a⟩
  · exact ⟨fun q => by omega, fun q => absurd q b.2.2.2⟩
theorem FwC_1 {sg : Nat → Int32} {n m : Nat} {x : Int} (h : FwC sg n m x) : x = 1 ↔ isWd sg n m wOut := by
  rcases h with ⟨a, b⟩ | ⟨a, b⟩ | ⟨a, b⟩ | ⟨a, b⟩ | ⟨a, b⟩
  · exact ⟨fun q => by omega, fun q => absurd (wd_l (l := [46, 101, 110, 100]) b q) (by decide)⟩
  · exact ⟨fun q => by omega, fun q => absurd (wd_l b q) (by decide)⟩
  · exact ⟨fun _ => b, fun _ => a⟩
  · exact ⟨fun q => by omega, fun q => absurd (wd_l b q) (by decide)⟩
  · exact ⟨fun q => by omega, fun q => absurd q b.2.2.1⟩
theorem FwC_2 {sg : Nat → Int32} {n m : Nat} {x : Int} (h : FwC sg n m x) : x = 2 ↔ isWd sg n m wNam := by
  rcases h with ⟨a, b⟩ | ⟨a, b⟩ | ⟨a, b⟩ | ⟨a, b⟩ | ⟨a, b⟩
  · exact ⟨fun q => by omega, fun q => absurd (wd_l (l := [46, 101, 110, 100]) b q) (by decide)⟩
  · exact ⟨fun _ => b, fun _ => a⟩
  · exact ⟨fun q => by omega, fun q => absurd (wd_l b q) (by decide)⟩
  · exact ⟨fun q => by omega, fun q => absurd (wd_l b q) (by decide)⟩
  · exact ⟨fun q => by omega, fun q => absurd q b.2.1⟩
theorem FwC_3 {sg : Nat → Int32} {n m : Nat} {x : Int} (h : FwC sg n m x) : x = 3 ↔ isEnd sg n m := by
  rcases h with ⟨a, b⟩ | ⟨a, b⟩ | ⟨a, b⟩ | ⟨a, b⟩ | ⟨a, b⟩
  · exact ⟨fun _ => b, fun _ => a⟩
  · exact ⟨fun q => by omega, fun q => absurd (wd_l (k := [46, 101, 110, 100]) b q) (by decide)⟩
  · exact ⟨fun q => by omega, fun q => absurd (wd_l (k := [46, 101, 110, 100]) b q) (by decide)⟩
  · exact ⟨fun q => by omega, fun q => absurd (wd_l (k := [46, 101, 110, 100]) b q) (by decide)⟩
  · exact ⟨fun q => by omega, fun q => absurd q b.1⟩
theorem row_d {sg : Nat → Int32} {n m t : Nat} {tL rc : Nat → Nat} {rL : Nat → Nat → Nat} {l : List Int} (h : isWd sg n m (46 :: l)) (hl : 1 ≤ l.length) : ¬ rowOk sg n m t tL rc rL := by
  intro z
  obtain ⟨-, -, z3, z4, z5, -⟩ := z
  have a := h.1
  have b := h.2 0 (by show 0 < l.length + 1; omega)
  have b : (sg ((wf sg n m 0).toNat + 0)).toInt = 46 := b
  have al : ((46 :: l).length : Int) = (l.length : Int) + 1 := by show ((l.length + 1 : Nat) : Int) = _; omega
  rw [al] at a
  by_cases e : nW sg n (tL (t - 1)) = 2
  · rw [if_pos e] at z3
    have y := z4.1
    rw [z3] at y
    have y : wt sg n m 0 - wf sg n m 0 = 1 := y
    omega
  · have y := z5.resolve_left e
    have u := y.2 0 (by have := y.1; omega)
    rcases u with u | u | u <;> omega
theorem fail_m {k v : Int32} {o r : cf_O} {x : NXq} {sg : Nat → Int32} {n : Nat} (h5 : o.1 5 = 0) (K : KRx sg n o x) (h : fM_fail k v o = some r) : r = fp (fp o 5 k) 6 v := fail_sp h5 h
theorem rN_f : ∀ {fuel : Nat} {v1 v2 v3 : Int32} {o r : cf_O}, ¬ o.1 5 = 0 → gM_readLines fuel 0 v1 v2 v3 o = some r → r = o
  | 0, v1, v2, v3, o, r, h5, h => by cases h
  | fuel + 1, v1, v2, v3, o, r, h5, h => by
    have k : fM_readLines_227 (gM_readLines fuel) v1 v2 o = some r → r = o := fun h => by
      rcases ifc h with ⟨_, h⟩ | ⟨_, h⟩
      · exact (Option.some.inj h).symm
      · obtain ⟨x, g, h⟩ := bd h
        rw [← Option.some.inj h]; exact fail_n h5 g
    rcases ifc h with ⟨_, h⟩ | ⟨_, h⟩
    · exact k h
    · rcases ifc h with ⟨a, h⟩ | ⟨_, h⟩
      · exact absurd a h5
      · exact k h
def RdN (O : cf_O) (sg : Nat → Int32) (n : Int) (r : cf_O) : Prop := Fr (fr_M [5, 6, 7, 10, 13, 16, 17] [8, 9, 11, 12, 14, 15, 18, 19, 20, 21, 22, 23, 24] []) O r ∧ ∃ x : NXq, NAns sg n.toNat (r.1 5).toInt (r.1 6).toInt x ∧ ((r.1 5).toInt = 0 → KRx sg n.toNat r x ∧ x.1 = 3 ∧ PNx sg n.toNat x)
theorem RdN_f {O o r : cf_O} {sg : Nat → Int32} {n : Int} {k v : Int32} {a : Nat} {x : NXq} (rO : Fr (fr_M [5, 6, 7, 10, 13, 16, 17] [8, 9, 11, 12, 14, 15, 18, 19, 20, 21, 22, 23, 24] []) O o) (ha : LPq sg n.toNat a ≤ n.toNat) (h : NRq sg n.toNat (a + 1) = (k.toInt, (a : Int), x)) (hk : ¬ k.toInt = 0) (ev : v.toInt = (a : Int)) (e : r = fp (fp o 5 k) 6 v) : RdN O sg n r := by
  subst e
  refine ⟨fr_fp (fr_fp rO rfl) rfl, x, ?_, fun z => absurd z hk⟩
  show NAns sg n.toNat k.toInt v.toInt x
  rw [ev]
  exact NAns_g ha h hk
theorem KRx_f {sg : Nat → Int32} {n : Nat} {o r : cf_O} {x : NXq} (K : KRx sg n o x) (f10 : r.1 10 = o.1 10) (f13 : r.1 13 = o.1 13) (f16 : r.1 16 = o.1 16) (f17 : r.1 17 = o.1 17) (e11 : r.2.1 11 = o.2.1 11) (e12 : r.2.1 12 = o.2.1 12) (e14 : r.2.1 14 = o.2.1 14) (e15 : r.2.1 15 = o.2.1 15) (e18 : r.2.1 18 = o.2.1 18) (e19 : r.2.1 19 = o.2.1 19) (e20 : r.2.1 20 = o.2.1 20) (e21 : r.2.1 21 = o.2.1 21) (e22 : r.2.1 22 = o.2.1 22) (e23 : r.2.1 23 = o.2.1 23) (e24 : r.2.1 24 = o.2.1 24) : KRx sg n r x := by
  unfold KRx KRi KRo KRt KRr at K ⊢
  rw [f10, f13, f16, f17, e11, e12, e14, e15, e18, e19, e20, e21, e22, e23, e24]
  exact K
theorem inputLine_ok {v1 : Int32} {o r : cf_O} (ho : okO I_M o) (f0 : (0 : Int) ≤ (o.1 0).toInt ∧ (o.1 0).toInt ≤ 0) (f5 : (0 : Int) ≤ (o.1 5).toInt ∧ (o.1 5).toInt ≤ 0) (f7 : (1 : Int) ≤ (o.1 7).toInt) (f95 : (0 : Int) ≤ (o.1 95).toInt ∧ (o.1 95).toInt ≤ 0) (h : fM_inputLine v1 o = some r) : okO I_M r := by
  obtain ⟨r', e, Q⟩ := sM_inputLine v1 o ho f0 f5 ⟨f7, (ho.1 7).2⟩ f95
  cases e.symm.trans h
  exact Q.1
theorem outputsLine_ok {v1 : Int32} {o r : cf_O} (ho : okO I_M o) (f0 : (0 : Int) ≤ (o.1 0).toInt ∧ (o.1 0).toInt ≤ 0) (f5 : (0 : Int) ≤ (o.1 5).toInt ∧ (o.1 5).toInt ≤ 0) (f7 : (1 : Int) ≤ (o.1 7).toInt) (f95 : (0 : Int) ≤ (o.1 95).toInt ∧ (o.1 95).toInt ≤ 0) (h : fM_outputsLine v1 o = some r) : okO I_M r := by
  obtain ⟨r', e, Q⟩ := sM_outputsLine v1 o ho f0 f5 ⟨f7, (ho.1 7).2⟩ f95
  cases e.symm.trans h
  exact Q.1
theorem tableLine_ok {v1 : Int32} {o r : cf_O} (ho : okO I_M o) (f0 : (0 : Int) ≤ (o.1 0).toInt ∧ (o.1 0).toInt ≤ 0) (f5 : (0 : Int) ≤ (o.1 5).toInt ∧ (o.1 5).toInt ≤ 0) (f7 : (1 : Int) ≤ (o.1 7).toInt) (f95 : (0 : Int) ≤ (o.1 95).toInt ∧ (o.1 95).toInt ≤ 0) (x0 : Tn (o.1 17) (o.2.1 19)) (x1 : Rf (o.2.1 22) (o.2.1 23) (o.2.1 19)) (h : fM_tableLine v1 o = some r) : okO I_M r ∧ Tn (r.1 17) (r.2.1 19) ∧ Rf (r.2.1 22) (r.2.1 23) (r.2.1 19) := by
  obtain ⟨r', e, Q⟩ := sM_tableLine v1 o ho f0 f5 ⟨f7, (ho.1 7).2⟩ f95 x0 x1
  cases e.symm.trans h
  exact ⟨Q.1, Q.2.2.2.1, Q.2.2.2.2.1⟩
theorem rowLine_ok {v1 : Int32} {o r : cf_O} (ho : okO I_M o) (f0 : (0 : Int) ≤ (o.1 0).toInt ∧ (o.1 0).toInt ≤ 0) (f5 : (0 : Int) ≤ (o.1 5).toInt ∧ (o.1 5).toInt ≤ 0) (f7 : (1 : Int) ≤ (o.1 7).toInt) (f95 : (0 : Int) ≤ (o.1 95).toInt ∧ (o.1 95).toInt ≤ 0) (x1 : Rf (o.2.1 22) (o.2.1 23) (o.2.1 19)) (h : fM_rowLine v1 o = some r) : okO I_M r ∧ Rf (r.2.1 22) (r.2.1 23) (r.2.1 19) := by
  obtain ⟨r', e, Q⟩ := sM_rowLine v1 o ho f0 f5 ⟨f7, (ho.1 7).2⟩ f95 x1
  cases e.symm.trans h
  exact ⟨Q.1, Q.2.2.2.1⟩
theorem readLines_go {O : cf_O} {sg : Nat → Int32} {n : Int} (hW : W4 (O.2.2 4)) (f0 : (0 : Int) ≤ (O.1 0).toInt ∧ (O.1 0).toInt ≤ 0) (f95 : (0 : Int) ≤ (O.1 95).toInt ∧ (O.1 95).toInt ≤ 0) (n0 : 0 ≤ n) (n1 : n ≤ 1600) : ∀ (fuel : Nat) (v1 v2 v3 : Int32) (o r : cf_O) (s2 : Int) (x : NXq), okO I_M o → Fr (fr_M [5, 6, 7, 10, 13, 16, 17] [8, 9, 11, 12, 14, 15, 18, 19, 20, 21, 22, 23, 24] []) O o → o.2.1 1 = sg → (o.1 2).toInt = n → Tn (o.1 17) (o.2.1 19) → Rf (o.2.1 22) (o.2.1 23) (o.2.1 19) → o.1 5 = 0 → 0 ≤ v2.toInt → v2.toInt ≤ v3.toInt → v3.toInt ≤ 1601 → Lqq sg n v2.toInt v3.toInt → (∀ j : Nat, (j : Int) < v2.toInt → LPq sg n.toNat j ≤ n.toNat) → NRq sg n.toNat v2.toInt.toNat = (0, s2, x) → v1.toInt = (x.1 : Int) → x.1 ≤ 3 → KRx sg n.toNat o x → gM_readLines fuel 0 v1 v2 v3 o = some r → RdN O sg n r
  | 0, v1, v2, v3, o, r, s2, x, ho, rO, hs, hn, hTn, hRf, h5, h0, h23, h3, hq, hj, hL, ev, e3, K, h => by cases h
  | fuel + 1, v1, v2, v3, o, r, s2, x, ho, rO, hs, hn, hTn, hRf, h5, h0, h23, h3, hq, hj, hL, ev, e3, K, h => by
    have z0 : (0 : Int32).toInt = 0 := rfl
    have hq' : v3.toInt = (LPq sg n.toNat v2.toInt.toNat : Int) := hq
    have P := PN_e hL
    rcases ifc h with ⟨a, h⟩ | ⟨a, h⟩
    · have a := c_lt a
      have M1 : n.toNat < LPq sg n.toNat v2.toInt.toNat := by omega
      have M2 : ∀ j : Nat, j < v2.toInt.toNat → LPq sg n.toNat j ≤ n.toNat := fun j q => hj j (by omega)
      rcases ifc h with ⟨b, h⟩ | ⟨b, h⟩
      · have b : 3 ≤ v1.toInt := c_le b
        have e1 : r = o := (Option.some.inj h).symm
        subst e1
        refine ⟨rO, x, ?_, fun _ => ⟨K, by omega, P⟩⟩
        rw [h5]
        exact NAns_e M1 M2 hL (by omega)
      · have b : v1.toInt < 3 := c_nle b
        obtain ⟨y, g, h⟩ := bd h
        have e1 : r = fp (fp o 5 1) 6 v2 := by rw [← Option.some.inj h]; exact fail_sp h5 g
        subst e1
        refine ⟨fr_fp (fr_fp rO rfl) rfl, x, ?_, fun z => absurd z (by show ¬ (1 : Int32).toInt = 0; decide)⟩
        show NAns sg n.toNat (1 : Int32).toInt v2.toInt x
        rw [show v2.toInt = ((v2.toInt.toNat : Nat) : Int) from by omega]
        exact NAns_n M1 M2 hL (by omega)
    have a := c_nlt a
    have h := ift h h5
    obtain ⟨q, hT, h⟩ := bd h
    have o0 : o.1 0 = O.1 0 := rO.1 0 rfl
    have o95 : o.1 95 = O.1 95 := rO.1 95 rfl
    have tk := takeLine_ok ho ⟨by omega, by omega⟩ (by rw [o0]; exact f0) (by rw [h5]; decide) (by rw [o95]; exact f95) hT
    obtain ⟨t1, t2, t3, t4, t5⟩ := takeLine_sp (by omega) hT
    rw [hs, hn] at t2 t3
    rw [hq'] at t3
    have la : LPq sg n.toNat v2.toInt.toNat ≤ n.toNat := by omega
    have rq : Fr (fr_M [5, 6, 7, 10, 13, 16, 17] [8, 9, 11, 12, 14, 15, 18, 19, 20, 21, 22, 23, 24] []) O q.2 := fr_tr rO t1 rfl rfl rfl
    have sq : q.2.2.1 1 = sg := by rw [t1.2.1 1 rfl]; exact hs
    have nq : (q.2.1 2).toInt = n := by rw [t1.1 2 rfl]; exact hn
    have q5 : q.2.1 5 = 0 := by rw [t1.1 5 rfl]; exact h5
    have fq0 : (0 : Int) ≤ (q.2.1 0).toInt ∧ (q.2.1 0).toInt ≤ 0 := by rw [t1.1 0 rfl, o0]; exact f0
    have fq5 : (0 : Int) ≤ (q.2.1 5).toInt ∧ (q.2.1 5).toInt ≤ 0 := by rw [q5]; decide
    have fq95 : (0 : Int) ≤ (q.2.1 95).toInt ∧ (q.2.1 95).toInt ≤ 0 := by rw [t1.1 95 rfl, o95]; exact f95
    have Tq : Tn (q.2.1 17) (q.2.2.1 19) := by rw [t1.1 17 rfl, t1.2.1 19 rfl]; exact hTn
    have Rq' : Rf (q.2.2.1 22) (q.2.2.1 23) (q.2.2.1 19) := by rw [t1.2.1 22 rfl, t1.2.1 23 rfl, t1.2.1 19 rfl]; exact hRf
    have Kq : KRx sg n.toNat q.2 x := KRx_f K (t1.1 10 rfl) (t1.1 13 rfl) (t1.1 16 rfl) (t1.1 17 rfl) (t1.2.1 11 rfl) (t1.2.1 12 rfl) (t1.2.1 14 rfl) (t1.2.1 15 rfl) (t1.2.1 18 rfl) (t1.2.1 19 rfl) (t1.2.1 20 rfl) (t1.2.1 21 rfl) (t1.2.1 22 rfl) (t1.2.1 23 rfl) (t1.2.1 24 rfl)
    have e2 : (v2 + 1).toInt = v2.toInt + 1 := p_1 h0 (by omega)
    have e2n : (v2 + 1).toInt.toNat = v2.toInt.toNat + 1 := by omega
    have e4 : (q.1 + 1).toInt = q.1.toInt + 1 := p_1 (by omega) tk.2
    have hq2 : Lqq sg n (v2 + 1).toInt (q.1 + 1).toInt := Lq_s hq t2 h0 (by omega) e2 e4
    have hj2 : ∀ j : Nat, (j : Int) < (v2 + 1).toInt → LPq sg n.toNat j ≤ n.toNat := fun j qj => by
      by_cases ej : (j : Int) = v2.toInt
      · rw [show j = v2.toInt.toNat from by omega]; exact la
      · exact hj j (by omega)
    have wn := Tn_w t3 t5
    have ew := nW_e wn
    have hL1 := NR_t hL
    have ev2 : v2.toInt = ((v2.toInt.toNat : Nat) : Int) := by omega
    have go : ∀ (w1 : Int32) (o' : cf_O) (s2' : Int) (x' : NXq), okO I_M o' → Fr (fr_M [5, 6, 7, 10, 13, 16, 17] [8, 9, 11, 12, 14, 15, 18, 19, 20, 21, 22, 23, 24] []) O o' → Tn (o'.1 17) (o'.2.1 19) → Rf (o'.2.1 22) (o'.2.1 23) (o'.2.1 19) → o'.1 5 = 0 → NRq sg n.toNat (v2.toInt.toNat + 1) = (0, s2', x') → w1.toInt = (x'.1 : Int) → x'.1 ≤ 3 → KRx sg n.toNat o' x' → fM_readLines_216 (gM_readLines fuel) w1 v2 q.1 o' = some r → RdN O sg n r := fun w1 o' s2' x' k1 k2 k3 k4 k5 k6 k7 k8 k9 h =>
      readLines_go hW f0 f95 n0 n1 fuel w1 (v2 + 1) (q.1 + 1) o' r s2' x' k1 k2 (by rw [k2.2.1 1 rfl, ← rO.2.1 1 rfl]; exact hs) (by rw [k2.1 2 rfl, ← rO.1 2 rfl]; exact hn) k3 k4 k5 (by omega) (by omega) (by omega) hq2 hj2 (by rw [e2n]; exact k6) k7 k8 k9 h
    have flt : ∀ (k : Int32) (o' y : cf_O) (w1 : Int32) (x' : NXq), ¬ k.toInt = 0 → Fr (fr_M [5, 6, 7, 10, 13, 16, 17] [8, 9, 11, 12, 14, 15, 18, 19, 20, 21, 22, 23, 24] []) O o' → NRq sg n.toNat (v2.toInt.toNat + 1) = (k.toInt, ((v2.toInt.toNat : Nat) : Int), x') → y = fp (fp o' 5 k) 6 v2 → fM_readLines_216 (gM_readLines fuel) w1 v2 q.1 y = some r → RdN O sg n r := fun k o' y w1 x' hk ro hx ey h => by
      have y5 : ¬ y.1 5 = 0 := by rw [ey]; show ¬ k = 0; exact fun e => hk (by rw [e]; rfl)
      rw [rN_f (fuel := fuel) y5 h]
      exact RdN_f ro la hx hk ev2 ey
    -- where nothing fits
    have bad : NRq sg n.toNat (v2.toInt.toNat + 1) = (1, ((v2.toInt.toNat : Nat) : Int), x) → fM_readLines_205 (gM_readLines fuel) v1 v2 q.1 0 q.2 = some r → RdN O sg n r := fun hx h => by
      unfold fM_readLines_205 at h
      rw [if_pos rfl] at h
      obtain ⟨y, hy, h⟩ := bd h
      exact flt 1 q.2 y v1 x (by decide) rq hx (fail_sp q5 hy) h
    rcases ifc h with ⟨b, h⟩ | ⟨b, h⟩
    · -- a line without words
      have b : (q.2.1 7).toInt ≤ 0 := c_le b
      have b0 : (q.2.1 7).toInt = 0 := by omega
      have bl : Bl sg n.toNat v2.toInt.toNat := by rw [b0] at wn; exact wn.2
      rw [nt_b bl] at hL1
      unfold fM_readLines_63 at h
      have h := ift h (Int32.toInt_inj.mp b0)
      unfold fM_readLines_77 at h
      rw [if_neg (by decide)] at h
      unfold fM_readLines_103 at h
      rw [if_neg (by decide)] at h
      unfold fM_readLines_129 at h
      rw [if_neg (by decide)] at h
      unfold fM_readLines_153 at h
      rw [if_neg (by decide)] at h
      unfold fM_readLines_182 at h
      rw [if_neg (by decide)] at h
      unfold fM_readLines_205 at h
      rw [if_neg (by decide)] at h
      exact go v1 q.2 _ _ tk.1 rq Tq Rq' q5 hL1 ev e3 Kq h
    have b : 0 < (q.2.1 7).toInt := c_nle b
    have nb : ¬ Bl sg n.toNat v2.toInt.toNat := fun y => by
      have l := wn.1 0 (by omega)
      have y : WF sg (LPq sg n.toNat v2.toInt.toNat) (LH sg n.toNat (LPq sg n.toNat v2.toInt.toNat)) 0 = LH sg n.toNat (LPq sg n.toNat v2.toInt.toNat) := y
      omega
    obtain ⟨x7, hx7, h⟩ := bd h
    have FW := fw_c (by rw [t1.2.2 4 rfl, rO.2.2 4 rfl]; exact hW) tk.1 sq t3 b hx7
    unfold fM_readLines_63 at h
    have h := ife h (fun y => by rw [y] at b; exact absurd b (by decide))
    obtain ⟨st, iL, oL, t, tL, rc, rL⟩ := x
    have ev : v1.toInt = (st : Int) := ev
    have e3 : st ≤ 3 := e3
    obtain ⟨K1, K2, K3, K4, K5⟩ := Kq
    obtain ⟨P1, P2, P3, P4, P5⟩ := P
    have w3 : v1 = 3 → v1.toInt = 3 := fun e => by rw [e]; rfl
    -- the rest of the roads for a line with words
    have r205 : ∀ {y : Int32}, fM_readLines_205 (gM_readLines fuel) v1 v2 q.1 y q.2 = some r → y = 0 → fM_readLines_205 (gM_readLines fuel) v1 v2 q.1 0 q.2 = some r := fun h e => by rw [e] at h; exact h
    have r182 : ¬ st = 2 → fM_readLines_182 (gM_readLines fuel) v1 v2 q.1 x7 0 q.2 = some r → fM_readLines_205 (gM_readLines fuel) v1 v2 q.1 0 q.2 = some r := fun n2 h => by
      unfold fM_readLines_182 at h
      rw [if_pos rfl] at h
      have h := ife h (fun y => by have y : v1.toInt = 2 := c_eq y; omega)
      exact h
    have r153 : ¬ st = 2 → fM_readLines_153 (gM_readLines fuel) v1 v2 q.1 x7 0 q.2 = some r → fM_readLines_205 (gM_readLines fuel) v1 v2 q.1 0 q.2 = some r := fun n2 h => by
      unfold fM_readLines_153 at h
      rw [if_pos rfl] at h
      have h := ife h (fun y => by have y : v1.toInt = 2 := c_eq y; omega)
      exact r182 n2 h
    have r129 : ¬ st = 2 → fM_readLines_129 (gM_readLines fuel) v1 v2 q.1 x7 0 q.2 = some r → fM_readLines_205 (gM_readLines fuel) v1 v2 q.1 0 q.2 = some r := fun n2 h => by
      unfold fM_readLines_129 at h
      rw [if_pos rfl] at h
      have h := ife h (fun y => by have y : v1.toInt = 2 := c_eq y; omega)
      exact r153 n2 h
    have r103 : ¬ st = 1 → fM_readLines_103 (gM_readLines fuel) v1 v2 q.1 x7 0 q.2 = some r → fM_readLines_129 (gM_readLines fuel) v1 v2 q.1 x7 0 q.2 = some r := fun n1 h => by
      unfold fM_readLines_103 at h
      rw [if_pos rfl] at h
      have h := ife h (fun y => by have y : v1.toInt = 1 := c_eq y; omega)
      exact h
    unfold fM_readLines_77 at h
    rw [if_pos rfl] at h
    rcases ifc h with ⟨c, h⟩ | ⟨c, h⟩
    · -- the first line
      have c : v1.toInt = 0 := c_eq c
      have s0 : st = 0 := by omega
      subst s0
      rw [nt_0 nb] at hL1
      unfold ns0q at hL1
      rcases ifc h with ⟨d, h⟩ | ⟨d, h⟩
      · have d : x7.toInt = 0 := c_eq d
        have wI := (FwC_0 FW).mp d
        obtain ⟨y, hy, h⟩ := bd h
        have yk := inputLine_ok tk.1 fq0 fq5 (by omega) fq95 hy
        rcases inputLine_sp tk.1 q5 sq t3 b hy with ⟨i1, i2⟩ | ⟨i1, i2, i3⟩ | ⟨i1, i2, i3, i4⟩
        · rw [cif_f (fun z => i1 z.2)] at hL1
          exact flt 1 q.2 y 1 _ (by decide) rq hL1 i2 h
        · rw [cif_t ⟨wI, i1⟩, cif_t i2] at hL1
          exact flt 2 q.2 y 1 _ (by decide) rq hL1 i3 h
        · rw [cif_t ⟨wI, i1⟩, cif_f i2] at hL1
          have t0 : t = 0 := P4 (by show 0 < 2; omega)
          refine go 1 y _ _ yk (fr_tr rq i3 rfl rfl rfl) (by rw [i3.1 17 rfl, i3.2.1 19 rfl]; exact Tq) (by rw [i3.2.1 22 rfl, i3.2.1 23 rfl, i3.2.1 19 rfl]; exact Rq') (by rw [i3.1 5 rfl]; exact q5) hL1 rfl (by show 1 ≤ 3; omega) ⟨fun z => absurd z (by show ¬ 1 = 0; omega), fun _ => i4, fun z => absurd z (by show ¬ 2 ≤ 1; omega), ?_, fun j hj => absurd hj (by show ¬ j < t; omega)⟩ h
          rw [i3.1 17 rfl]; exact K4
      · have d : ¬ x7.toInt = 0 := c_ne d
        have nI : ¬ isWd sg n.toNat v2.toInt.toNat wInp := fun z => d ((FwC_0 FW).mpr z)
        rw [cif_f (fun z => nI z.1)] at hL1
        exact bad hL1 (r129 (by omega) (r103 (by omega) h))
    have c : ¬ v1.toInt = 0 := c_ne c
    by_cases s1 : st = 1
    · -- the second line
      subst s1
      rw [nt_1 nb] at hL1
      unfold ns1 at hL1
      unfold fM_readLines_103 at h
      rw [if_pos rfl] at h
      have h := ift h (Int32.toInt_inj.mp (show v1.toInt = (1 : Int32).toInt from ev))
      rcases ifc h with ⟨d, h⟩ | ⟨d, h⟩
      · have d : x7.toInt = 1 := c_eq d
        have wO := (FwC_1 FW).mp d
        obtain ⟨y, hy, h⟩ := bd h
        have yk := outputsLine_ok tk.1 fq0 fq5 (by omega) fq95 hy
        rcases outputsLine_sp tk.1 q5 sq t3 b ev2 hy with ⟨i1, i2⟩ | ⟨i1, i2, i3⟩ | ⟨i1, i2, i3, i4⟩
        · rw [cif_f (fun z => i1 z.2)] at hL1
          exact flt 1 q.2 y 2 _ (by decide) rq hL1 i2 h
        · rw [cif_t ⟨wO, i1⟩, cif_t i2] at hL1
          exact flt 2 q.2 y 2 _ (by decide) rq hL1 i3 h
        · rw [cif_t ⟨wO, i1⟩, cif_f i2] at hL1
          have t0 : t = 0 := P4 (by show 1 < 2; omega)
          have Ki := K2 (Nat.le_refl 1)
          refine go 2 y _ _ yk (fr_tr rq i3 rfl rfl rfl) (by rw [i3.1 17 rfl, i3.2.1 19 rfl]; exact Tq) (by rw [i3.2.1 22 rfl, i3.2.1 23 rfl, i3.2.1 19 rfl]; exact Rq') (by rw [i3.1 5 rfl]; exact q5) hL1 rfl (by show 2 ≤ 3; omega) ⟨fun z => absurd z (by show ¬ 2 = 0; omega), fun _ => ?_, fun _ => i4, ?_, fun j hj => absurd hj (by show ¬ j < t; omega)⟩ h
          · show KRi sg n.toNat y iL
            unfold KRi
            rw [i3.1 10 rfl, i3.2.1 11 rfl, i3.2.1 12 rfl]; exact Ki
          · rw [i3.1 17 rfl]; exact K4
      · have d : ¬ x7.toInt = 1 := c_ne d
        have nI : ¬ isWd sg n.toNat v2.toInt.toNat wOut := fun z => d ((FwC_1 FW).mpr z)
        rw [cif_f (fun z => nI z.1)] at hL1
        exact bad hL1 (r129 (by omega) h)
    have h := r103 s1 h
    by_cases s2 : st = 2
    · -- a line of tables
      subst s2
      rw [nt_2 nb] at hL1
      unfold ns2 at hL1
      have e12 : v1 = 2 := Int32.toInt_inj.mp (show v1.toInt = (2 : Int32).toInt from ev)
      have Ki := K2 (by show 1 ≤ 2; omega)
      have Ko := K3 (Nat.le_refl 2)
      have Pi := P1 (by show 1 ≤ 2; omega)
      unfold fM_readLines_129 at h
      rw [if_pos rfl] at h
      have h := ift h e12
      rcases ifc h with ⟨d, h⟩ | ⟨d, h⟩
      · -- .names
        have d : x7.toInt = 2 := c_eq d
        have wN := (FwC_2 FW).mp d
        have nE : ¬ isEnd sg n.toNat v2.toInt.toNat := fun z => by have := (FwC_3 FW).mpr z; omega
        rw [cif_f nE, cif_t wN] at hL1
        unfold nsT at hL1
        obtain ⟨y, hy, h⟩ := bd h
        have yk := tableLine_ok tk.1 fq0 fq5 (by omega) fq95 Tq Rq' hy
        rcases tableLine_sp (t := t) (tL := tL) tk.1 q5 sq t3 b ev2 Ki Pi.1 K4 P3 (fun j hj => ⟨(K5 j hj).1, (P5 j hj).1⟩) hy with ⟨i1, i2⟩ | ⟨i1, i2, i3⟩ | ⟨i1, i2, i3, i4⟩
        · rw [cif_f (show ¬ (Nms sg n.toNat v2.toInt.toNat 6 ∧ (2, iL, oL, t, tL, rc, rL).2.2.2.1 < 30) from i1)] at hL1
          exact flt 1 q.2 y v1 _ (by decide) rq hL1 i2 h
        · rw [cif_t (show Nms sg n.toNat v2.toInt.toNat 6 ∧ (2, iL, oL, t, tL, rc, rL).2.2.2.1 < 30 from i1), cif_t (show gvn sg n.toNat (2, iL, oL, t, tL, rc, rL).2.1 (2, iL, oL, t, tL, rc, rL).2.2.2.1 (2, iL, oL, t, tL, rc, rL).2.2.2.2.1 (lsK sg n.toNat v2.toInt.toNat) from i2)] at hL1
          exact flt 2 q.2 y v1 _ (by decide) rq hL1 i3 h
        · rw [cif_t (show Nms sg n.toNat v2.toInt.toNat 6 ∧ (2, iL, oL, t, tL, rc, rL).2.2.2.1 < 30 from i1), cif_f (show ¬ gvn sg n.toNat (2, iL, oL, t, tL, rc, rL).2.1 (2, iL, oL, t, tL, rc, rL).2.2.2.1 (2, iL, oL, t, tL, rc, rL).2.2.2.2.1 (lsK sg n.toNat v2.toInt.toNat) from i2)] at hL1
          obtain ⟨A1, A2, A3, A4, A5⟩ := i3
          refine go v1 y _ _ yk.1 (fr_tr rq A1 rfl rfl rfl) yk.2.1 yk.2.2 (by rw [A1.1 5 rfl]; exact q5) hL1 ev (by show 2 ≤ 3; omega) ⟨fun z => absurd z (by show ¬ 2 = 0; omega), fun _ => ?_, fun _ => ?_, ?_, fun j hj => ?_⟩ h
          · show KRi sg n.toNat y iL
            unfold KRi
            rw [A1.1 10 rfl, A1.2.1 11 rfl, A1.2.1 12 rfl]; exact Ki
          · show KRo sg n.toNat y oL
            unfold KRo
            rw [A1.1 13 rfl, A1.1 16 rfl, A1.2.1 14 rfl, A1.2.1 15 rfl]; exact Ko
          · show (y.1 17).toInt = ((t + 1 : Nat) : Int)
            rw [A2]; omega
          · have hj : j < t + 1 := hj
            show KRt sg n.toNat y j (if j = t then v2.toInt.toNat else tL j) ∧ KRr sg n.toNat y j (if j = t then 0 else rc j) (rL j)
            by_cases ej : j = t
            · subst ej
              rw [if_pos rfl, if_pos rfl]
              exact ⟨i4, A5, fun r hr => absurd hr (by omega), fun z => absurd z (by omega)⟩
            · rw [if_neg ej, if_neg ej]
              have z := K5 j (by show j < t; omega)
              have a3 := A3 j ej
              refine ⟨⟨by rw [a3.1]; exact z.1.1, by rw [a3.2.1]; exact z.1.2.1, fun k hk => ?_⟩, by rw [a3.2.2]; exact z.2.1, fun r hr => ?_, fun c0 => ?_⟩
              · have n7 := (P5 j (by show j < t; omega)).1.2.1
                have n7 : nW sg n.toNat (tL j) ≤ 6 + 1 := n7
                have a4 := A4 (6 * j + k) (by omega)
                rw [a4.1, a4.2]; exact z.1.2.2 k hk
              · rw [A1.2.1 23 rfl]; exact z.2.2.1 r hr
              · rw [A1.2.1 24 rfl]; exact z.2.2.2 c0
      have d : ¬ x7.toInt = 2 := c_ne d
      have nN : ¬ isWd sg n.toNat v2.toInt.toNat wNam := fun z => d ((FwC_2 FW).mpr z)
      unfold fM_readLines_153 at h
      rw [if_pos rfl] at h
      have h := ift h e12
      have rw2 : ¬ (isEnd sg n.toNat v2.toInt.toNat ∧ nW sg n.toNat v2.toInt.toNat = 1) → fM_readLines_182 (gM_readLines fuel) v1 v2 q.1 x7 0 q.2 = some r → RdN O sg n r := fun ne h => by
        unfold fM_readLines_182 at h
        rw [if_pos rfl] at h
        have h := ift h e12
        rcases ifc h with ⟨f, h⟩ | ⟨f, h⟩
        · have f : (0 : Int) ≤ x7.toInt := c_le f
          refine bad ?_ h
          by_cases nE : isEnd sg n.toNat v2.toInt.toNat
          · rw [hL1, cif_t nE, cif_f (fun z => ne ⟨nE, z⟩)]
          · rw [hL1, cif_f nE, cif_f nN]
            unfold nsR
            refine cif_f ?_
            rcases FW with z | z | z | z | z
            · exact absurd z.2 nE
            · exact absurd z.2 nN
            · exact row_d (l := [111, 117, 116, 112, 117, 116, 115]) z.2 (by decide)
            · exact row_d (l := [105, 110, 112, 117, 116, 115]) z.2 (by decide)
            · have := z.1; omega
        · have f : x7.toInt < 0 := c_nle f
          have nE : ¬ isEnd sg n.toNat v2.toInt.toNat := fun z => by have := (FwC_3 FW).mpr z; omega
          rw [cif_f nE, cif_f nN] at hL1
          unfold nsR at hL1
          obtain ⟨y, hy, h⟩ := bd h
          have yk := rowLine_ok tk.1 fq0 fq5 (by omega) fq95 Rq' hy
          rcases rowLine_sp (t := t) (tL := tL) (rc := rc) (rL := rL) tk.1 q5 sq t3 b K4 P3 (fun j hj => ⟨K5 j hj, (P5 j hj).1, (P5 j hj).2.2.1, (P5 j hj).2.2.2⟩) hy with ⟨i1, i2⟩ | ⟨i1, i2⟩
          · rw [cif_f (show ¬ rowOk sg n.toNat v2.toInt.toNat (2, iL, oL, t, tL, rc, rL).2.2.2.1 (2, iL, oL, t, tL, rc, rL).2.2.2.2.1 (2, iL, oL, t, tL, rc, rL).2.2.2.2.2.1 (2, iL, oL, t, tL, rc, rL).2.2.2.2.2.2 from i1)] at hL1
            exact flt 1 q.2 y v1 _ (by decide) rq hL1 i2 h
          · rw [cif_t (show rowOk sg n.toNat v2.toInt.toNat (2, iL, oL, t, tL, rc, rL).2.2.2.1 (2, iL, oL, t, tL, rc, rL).2.2.2.2.1 (2, iL, oL, t, tL, rc, rL).2.2.2.2.2.1 (2, iL, oL, t, tL, rc, rL).2.2.2.2.2.2 from i1)] at hL1
            obtain ⟨A1, A2, A3, A4, A5, A6⟩ := i2
            have c16 := i1.2.1
            have tp := i1.1
            refine go v1 y _ _ yk.1 (fr_tr rq A1 rfl rfl rfl) (by rw [A1.1 17 rfl, A1.2.1 19 rfl]; exact Tq) yk.2 (by rw [A1.1 5 rfl]; exact q5) hL1 ev (by show 2 ≤ 3; omega) ⟨fun z => absurd z (by show ¬ 2 = 0; omega), fun _ => ?_, fun _ => ?_, ?_, fun j hj => ?_⟩ h
            · show KRi sg n.toNat y iL
              unfold KRi
              rw [A1.1 10 rfl, A1.2.1 11 rfl, A1.2.1 12 rfl]; exact Ki
            · show KRo sg n.toNat y oL
              unfold KRo
              rw [A1.1 13 rfl, A1.1 16 rfl, A1.2.1 14 rfl, A1.2.1 15 rfl]; exact Ko
            · show (y.1 17).toInt = (t : Int)
              rw [A1.1 17 rfl]; exact K4
            · have hj : j < t := hj
              have z := K5 j hj
              show KRt sg n.toNat y j (tL j) ∧ KRr sg n.toNat y j (if j = t - 1 then rc j + 1 else rc j) (fun r => if j = t - 1 ∧ r = rc j then v2.toInt.toNat else rL j r)
              refine ⟨?_, ?_⟩
              · unfold KRt
                rw [A1.2.1 18 rfl, A1.2.1 19 rfl, A1.2.1 20 rfl, A1.2.1 21 rfl]; exact z.1
              · by_cases ej : j = t - 1
                · subst ej
                  rw [if_pos rfl]
                  refine ⟨by rw [A2]; omega, fun r hr => ?_, fun _ => ?_⟩
                  · show (y.2.1 23 (16 * (t - 1) + r)).toInt = wf sg n.toNat (if t - 1 = t - 1 ∧ r = rc (t - 1) then v2.toInt.toNat else rL (t - 1) r) 0
                    by_cases er : r = rc (t - 1)
                    · rw [if_pos ⟨rfl, er⟩, er]; exact A4
                    · rw [if_neg (fun u => er u.2), A5 _ (by omega)]
                      exact z.2.2.1 r (by show r < rc (t - 1); omega)
                  · show (y.2.1 24 (t - 1)).toInt = eB sg n.toNat (if t - 1 = t - 1 ∧ 0 = rc (t - 1) then v2.toInt.toNat else rL (t - 1) 0)
                    rw [A6]
                    by_cases e0 : 0 = rc (t - 1)
                    · rw [if_pos ⟨rfl, e0⟩]
                    · rw [if_neg (fun u => e0 u.2)]
                      have u := i1.2.2.2.2.2.resolve_left (fun u => e0 u.symm)
                      unfold eB; rw [u]
                · rw [if_neg ej]
                  have a3 := A3 j ej
                  refine ⟨by rw [a3.1]; exact z.2.1, fun r hr => ?_, fun c0 => ?_⟩
                  · show (y.2.1 23 (16 * j + r)).toInt = wf sg n.toNat (if j = t - 1 ∧ r = rc j then v2.toInt.toNat else rL j r) 0
                    have rj := (P5 j hj).2.2.1
                    have rj : rc j ≤ 16 := rj
                    rw [if_neg (fun u => ej u.1), A5 _ (by omega)]
                    exact z.2.2.1 r hr
                  · show (y.2.1 24 j).toInt = eB sg n.toNat (if j = t - 1 ∧ 0 = rc j then v2.toInt.toNat else rL j 0)
                    rw [if_neg (fun u => ej u.1), a3.2]
                    exact z.2.2.2 c0
      rcases ifc h with ⟨d3, h⟩ | ⟨d3, h⟩
      · have d3 : x7.toInt = 3 := c_eq d3
        have iE := (FwC_3 FW).mp d3
        rcases ifc h with ⟨f, h⟩ | ⟨f, h⟩
        · have f : (q.2.1 7).toInt = 1 := c_eq f
          rw [cif_t iE, cif_t (show nW sg n.toNat v2.toInt.toNat = 1 by omega)] at hL1
          exact go 3 q.2 _ _ tk.1 rq Tq Rq' q5 hL1 rfl (by show 3 ≤ 3; omega) ⟨fun z => absurd z (by show ¬ 3 = 0; omega), fun _ => Ki, fun _ => Ko, K4, K5⟩ h
        · have f : ¬ (q.2.1 7).toInt = 1 := c_ne f
          exact rw2 (fun z => by have := z.2; omega) h
      · have d3 : ¬ x7.toInt = 3 := c_ne d3
        exact rw2 (fun z => d3 ((FwC_3 FW).mpr z.1)) h
    · -- behind the end
      have s3 : st = 3 := by omega
      subst s3
      rw [nt_3 nb] at hL1
      exact bad hL1 (r129 s2 h)
theorem readLines_sp {o r : cf_O} (ho : okO I_M o) (hW : W4 (o.2.2 4)) (f0 : (0 : Int) ≤ (o.1 0).toInt ∧ (o.1 0).toInt ≤ 0) (f95 : (0 : Int) ≤ (o.1 95).toInt ∧ (o.1 95).toInt ≤ 0) (hT : Tn 0 (o.2.1 19)) (hR : Rf (o.2.1 22) (o.2.1 23) (o.2.1 19)) (h : fM_readLines o = some r) : RdN o (o.2.1 1) (o.1 2).toInt r :=
  readLines_go hW f0 f95 (ho.1 2).1 (ho.1 2).2 cfFU 0 0 0 (fp (fp (fp (fp o 5 0) 6 (-1)) 10 0) 17 0) r (-1) (0, 0, 0, 0, (fun _ => 0), (fun _ => 0), (fun _ _ => 0)) (ok_fp (ok_fp (ok_fp (ok_fp ho ⟨by decide, by decide⟩) ⟨by decide, by decide⟩) ⟨by decide, by decide⟩) ⟨by decide, by decide⟩) (fr_fp (fr_fp (fr_fp (fr_fp fr_rfl rfl) rfl) rfl) rfl) rfl rfl hT hR rfl (by decide) (Int.le_refl _) (by decide) (Lq_0 rfl rfl) (fun j q => absurd q (by rw [show (0 : Int32).toInt = 0 from rfl]; omega)) rfl rfl (by decide) ⟨fun _ => rfl, fun z => absurd z (by show ¬ 1 ≤ 0; omega), fun z => absurd z (by show ¬ 2 ≤ 0; omega), rfl, fun j hj => absurd hj (by show ¬ j < 0; omega)⟩ h
