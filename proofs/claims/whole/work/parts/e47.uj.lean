theorem rd_new {sg : Nat → Int32} {n n' : Nat} {x : NXq} {nl bn gr o' bo r1 r2 rm : cf_O} (P : PNx sg n x) (x3 : x.1 = 3) (hs : bo.2.1 1 = sg) (ho' : okO I_M o') (K : KRx sg n o' x) (C : KCx sg n nl x) (fb : Fr (fr_M [29, 31, 36, 37] [26, 27, 30, 32, 33, 34, 35] []) o' bo) (fn : Fr (fr_M [] [16] []) nl bn) (R : Rg (nW sg n x.2.1) n' gr bo) (z2 : ∀ k : Nat, k + 1 < nW sg n x.2.2.1 → gr.2.1 7 k = bo.2.1 35 k) (z4 : gr.1 0 = nl.1 0) (z5 : gr.1 1 = nl.1 1) (t1 : fM_takeNames_M41_M11_M12 (bo.1 10) (fp (fp (fp (fp (fp bo 0 0) 3 (-1)) 38 1) 39 (bo.1 10)) 40 (bo.1 13)) = some r1) (t2 : fM_takeNames_M42_M14_M15 (r1.1 40) r1 = some r2) (t3 : fM_take r2 = some rm) : rm.1 0 = 0 ∧ rm.1 3 = -1 ∧ rm.1 38 = 1 ∧ rm.1 64 = 0 ∧ rm.1 85 = 0 ∧ (∃ b n : Nat, RGq b n gr rm) ∧ NaI bn gr rm := by
  have h8 := (P.1 (by omega)).1
  have a8 := h8.1
  have b8 := h8.2.1
  have h6 := (P.2.1 (by omega)).1
  have a6 := h6.1
  have b6 := h6.2.1
  have KI := K.2.1 (by omega)
  have KO := K.2.2.1 (by omega)
  have CI := C.2.2.1 (by omega)
  have CO := C.2.2.2.1 (by omega)
  have k10 := KI.1
  have k13 := KO.1
  have c0 := CI.1
  have c1 := CO.1
  have e10 : bo.1 10 = o'.1 10 := fb.1 10 rfl
  have e13 : bo.1 13 = o'.1 13 := fb.1 13 rfl
  have e11 : bo.2.1 11 = o'.2.1 11 := fb.2.1 11 rfl
  have e12 : bo.2.1 12 = o'.2.1 12 := fb.2.1 12 rfl
  have e14 : bo.2.1 14 = o'.2.1 14 := fb.2.1 14 rfl
  have e15 : bo.2.1 15 = o'.2.1 15 := fb.2.1 15 rfl
  obtain ⟨f41, n41⟩ := tn41_sp (c := nW sg n x.2.1 - 1) (fun i => by show 0 ≤ (bo.2.1 11 i).toInt ∧ (bo.2.1 11 i).toInt ≤ 1599; rw [e11]; exact ho'.2 11 i) (fun i => by show (bo.2.1 12 i).toInt ≤ 1600; rw [e12]; exact (ho'.2 12 i).2) (by rw [e10]; omega) (by omega) t1
  have e40 : r1.1 40 = bo.1 13 := by rw [f41.1 40 rfl]; rfl
  have f14 : r1.2.1 14 = bo.2.1 14 := by rw [f41.2.1 14 rfl]; rfl
  have f15 : r1.2.1 15 = bo.2.1 15 := by rw [f41.2.1 15 rfl]; rfl
  have f1 : r1.2.1 1 = sg := by rw [f41.2.1 1 rfl]; exact hs
  obtain ⟨f42, n42⟩ := tn42_sp (c := nW sg n x.2.2.1 - 1) (fun i => by rw [f14, e14]; exact ho'.2 14 i) (fun i => by rw [f15, e15]; exact (ho'.2 15 i).2) (by rw [e40, e13]; omega) (by omega) t2
  have e31 : r2.1 31 = bo.1 31 := by rw [f42.1 31 rfl, f41.1 31 rfl]; rfl
  have e40' : r2.1 40 = bo.1 13 := by rw [f42.1 40 rfl]; exact e40
  have R0 := R.1
  obtain ⟨g1, g43, g64, g85, g44, g46, g47⟩ := take_sp (by rw [e31]; omega) (by rw [e40', e13]; omega) t3
  have e39 : rm.1 39 = bo.1 10 := by rw [g1.1 39 rfl, f42.1 39 rfl, f41.1 39 rfl]; rfl
  have e40m : rm.1 40 = bo.1 13 := by rw [g1.1 40 rfl]; exact e40'
  refine ⟨by rw [g1.1 0 rfl, f42.1 0 rfl, f41.1 0 rfl]; rfl, by rw [g1.1 3 rfl, f42.1 3 rfl, f41.1 3 rfl]; rfl, by rw [g1.1 38 rfl, f42.1 38 rfl, f41.1 38 rfl]; rfl, g64, g85, ⟨nW sg n x.2.1, n', ⟨by rw [g43, e31]; exact R0.1, R0.2.1, Int32.toInt_inj.mp (by rw [e39, e10, z4]; omega), R0.2.2.2.1, Int32.toInt_inj.mp (by rw [e40m, e13, z5]; omega), R0.2.2.2.2.1, R0.2.2.2.2.2.1, R0.2.2.2.2.2.2⟩, fun g hg => ?_, fun k hk => ?_, fun k hk => ?_, R.2.2.2.2.2.2⟩, (fn.1 0 rfl).trans z4.symm, (fn.1 1 rfl).trans z5.symm, fun i hi => ?_, fun i hi => ?_⟩
  · have q := g44 g (by rw [e31]; omega)
    rw [q.1, q.2]
    have w := R.2.1 g hg
    rw [f42.2.1 32 rfl, f41.2.1 32 rfl, f42.2.1 33 rfl, f41.2.1 33 rfl]
    exact w
  · have w := R.2.2.1 k hk
    rw [g46 k (by omega), f42.2.1 34 rfl, f41.2.1 34 rfl]
    exact w
  · have hk' : k + 1 < nW sg n x.2.2.1 := by rw [z5] at hk; omega
    rw [g47 k (by rw [e40', e13]; omega), f42.2.1 35 rfl, f41.2.1 35 rfl]
    exact (z2 k hk').symm
  · have hi : i + 1 < nW sg n x.2.1 := by rw [e39, e10] at hi; omega
    refine ⟨sg, wf sg n x.2.1 (i + 1), wt sg n x.2.1 (i + 1), wf_0, Nms_w h8 hi, h8.2.2.1 _ (by omega) hi, ?_, fun k hk => ?_⟩
    · rw [fn.2.2 3 rfl]; exact CI.2 i hi
    · show rm.2.1 41 (8 * i + k) = _
      have w := KI.2 i hi
      have y := n41 i k (by omega) hk
      rw [g1.2.1 41 rfl, f42.2.1 41 rfl, y]
      show nmS (bo.2.1 1) (bo.2.1 11 i).toInt (bo.2.1 12 i).toInt k = _
      rw [hs, e11, e12, w.1, w.2]
  · have hi : i + 1 < nW sg n x.2.2.1 := by rw [e40m, e13] at hi; omega
    refine ⟨sg, wf sg n x.2.2.1 (i + 1), wt sg n x.2.2.1 (i + 1), wf_0, Nms_w h6 hi, h6.2.2.1 _ (by omega) hi, ?_, fun k hk => ?_⟩
    · rw [fn.2.2 4 rfl]; exact CO.2.2 i hi
    · show rm.2.1 42 (8 * i + k) = _
      have w := KO.2.2 i hi
      have y := n42 i k (by omega) hk
      rw [g1.2.1 42 rfl, y, f1, f14, f15, e14, e15, w.1, w.2]
theorem U3_n {sg : Nat → Int32} {n iL oL t c : Nat} {tL : Nat → Nat} (h : U3c sg n iL oL t tL c (-1)) : ¬ oU sg n iL oL t tL ∧ ∀ j : Nat, j < c → ¬ tU sg n iL t tL j := by
  rcases h with ⟨_, h⟩ | ⟨_, j, _, _, _, h⟩ | ⟨h1, h2, _⟩
  · omega
  · omega
  · exact ⟨h1, h2⟩
theorem eq_read {o0 o1 o2 o3 o4 o5 o6 o7 om : cf_O} {r : Int32 × cf_O × cf_O × cf_O × cf_O × cf_O × cf_O × cf_O × cf_O} {rm : Int32 × cf_O} (hR : RT o1 om) (hn : okO I_Nl o5) (ht : okO I_Tx o1) (hg7 : okO I_Gr o7) (hw : Rwo (o5.2.1 12)) (ho : okO I_M om) (hW : W4 (om.2.2 4)) (f95 : (0 : Int) ≤ (om.1 95).toInt ∧ (om.1 95).toInt ≤ 0) (hRf : Rf (om.2.1 22) (om.2.1 23) (om.2.1 19)) (h1 : fF_read o0 o1 o2 o3 o4 o5 o6 o7 = some r) (h2 : fM_read om = some rm) : RdC o0 o4 o6 om r rm := by
  unfold fF_read fF_read_0 at h1
  obtain ⟨q, hq, h1⟩ := bd h1
  have S := nscan_sp hn ht hw hq
  rw [hR.1, hR.2] at S
  obtain ⟨q', eq', Q⟩ := sNl_scan o5 o1 hn ht hw
  cases eq'.symm.trans hq
  have ho1 : okO I_M (fp om 0 0) := ok_fp ho ⟨by decide, by decide⟩
  have z0 : (0 : Int) ≤ ((fp om 0 0).1 0).toInt ∧ ((fp om 0 0).1 0).toInt ≤ 0 := ⟨by show (0 : Int) ≤ (0 : Int32).toInt; decide, by show (0 : Int32).toInt ≤ 0; decide⟩
  unfold fM_read fM_read_0 at h2
  rw [opk] at h2
  obtain ⟨m, hm, h2⟩ := bd h2
  obtain ⟨rO, x2, A2, B2⟩ := readLines_sp (o := fp om 0 0) ho1 hW z0 f95 (fun i hi => absurd hi (by rw [show (0 : Int32).toInt = 0 from rfl]; omega)) hRf hm
  obtain ⟨m', em', QM⟩ := sM_readLines (fp om 0 0) ho1 z0 f95 hRf
  cases em'.symm.trans hm
  have A2 : NAns (om.2.1 1) (om.1 2).toInt.toNat (m.1 5).toInt (m.1 6).toInt x2 := A2
  have kO : MKp om m := fr_tr (fr_fp fr_rfl rfl) rO rfl rfl rfl
  have m0 : m.1 0 = 0 := by rw [rO.1 0 rfl]; rfl
  unfold fF_read_11 at h1
  rcases S with ⟨nz, x, A⟩ | ⟨x, A, x3, P, l3, U, S⟩
  · -- a fault of a line
    obtain ⟨u1, u2, -⟩ := NAns_u A A2
    have m5 : ¬ m.1 5 = 0 := fun z => nz (by rw [u1, z]; rfl)
    rcases ifc h2 with ⟨a, _⟩ | ⟨_, h2⟩
    · exact absurd a m5
    unfold fM_read_25 at h2
    obtain ⟨rc, h2⟩ := rdl_f m5 h2
    have b5 := QM.2.2.1
    have er := rd67_f (by omega) h2
    have q1 : ¬ q.1 = 0 := fun z => nz (by rw [z]; rfl)
    rw [if_neg q1] at h1
    have e := fr_80 h1
    subst e
    subst er
    exact Or.inl ⟨rfl, m0, Int32.toInt_inj.mp u1, Int32.toInt_inj.mp (u2 nz), Or.inl ⟨q1, fr_fp (fr_fp fr_rfl rfl) rfl, rfl, rfl, fr_fp kO rfl⟩⟩
  · obtain ⟨k0, ex⟩ := NAns_x A2 A
    subst ex
    obtain ⟨K, -, -⟩ := B2 k0
    have m5 : m.1 5 = 0 := Int32.toInt_inj.mp (by rw [k0]; rfl)
    rcases ifc h2 with ⟨_, h2⟩ | ⟨a, _⟩
    rotate_left
    · exact absurd m5 a
    obtain ⟨k, hk, h2⟩ := bd h2
    have m95 : (0 : Int) ≤ (m.1 95).toInt ∧ (m.1 95).toInt ≤ 0 := by rw [rO.1 95 rfl]; exact f95
    obtain ⟨k', ek', QK⟩ := sM_link m QM.1 ⟨by rw [m0]; decide, by rw [m0]; decide⟩ ⟨by rw [m5]; decide, by rw [m5]; decide⟩ m95 QM.2.2.2.1 QM.2.2.2.2.1
    cases ek'.symm.trans hk
    have hs : m.2.1 1 = om.2.1 1 := rO.2.1 1 rfl
    obtain ⟨l, U2, LK⟩ := link_sp QM.1 m5 hs K P x3 hk
    have el := U3_u U U2
    unfold fM_read_25 at h2
    rcases S with ⟨s1, s2, s3⟩ | ⟨s1, l4, W, S⟩
    · -- a name that nothing gives
      rcases LK with ⟨w, _⟩ | ⟨w1, w2, w3, w4⟩
      · omega
      obtain ⟨rc, h2⟩ := rdl_f (by rw [w3]; decide) h2
      have er := rd67_f (by rw [w3]; decide) h2
      have q1 : ¬ q.1 = 0 := by rw [s1]; decide
      rw [if_neg q1] at h1
      have e := fr_80 h1
      subst e
      subst er
      exact Or.inl ⟨rfl, by show k.1 0 = 0; rw [w2.1 0 rfl]; exact m0, by show q.1 = k.1 5; rw [s1, w3], Int32.toInt_inj.mp (by show (q.2.1.1 2).toInt = (k.1 6).toInt; rw [s3, w4]; exact el), Or.inl ⟨q1, fr_fp (fr_fp fr_rfl rfl) rfl, rfl, rfl, fr_fp (fr_tr kO w2 rfl rfl rfl) rfl⟩⟩
    · rcases LK with ⟨w1, w2, w3⟩ | ⟨w, _⟩
      rotate_left
      · omega
      have kk : MKp om k := fr_tr kO w2 rfl rfl rfl
      have K1 : KRx (om.2.1 1) (om.1 2).toInt.toNat k x2 := KRx_f K (w2.1 10 rfl) (w2.1 13 rfl) (w2.1 16 rfl) (w2.1 17 rfl) (w2.2.1 11 rfl) (w2.2.1 12 rfl) (w2.2.1 14 rfl) (w2.2.1 15 rfl) (w2.2.1 18 rfl) (w2.2.1 19 rfl) (w2.2.1 20 rfl) (w2.2.1 21 rfl) (w2.2.1 22 rfl) (w2.2.1 23 rfl) (w2.2.1 24 rfl)
      have k5 : k.1 5 = 0 := by rw [w2.1 5 rfl]; exact m5
      have k00 : k.1 0 = 0 := by rw [w2.1 0 rfl]; exact m0
      obtain ⟨o', rc, h2, ho', V⟩ := rdl_go P x3 K1 w3 k5 k00 (by rw [w2.1 95 rfl]; exact m95) cfFU _ 0 k rm QK.1 fr_rfl (by decide) (by rw [show (0 : Int32).toInt = 0 from rfl]; omega) (fun a ha => absurd ha (by rw [show (0 : Int32).toInt = 0 from rfl]; omega)) h2
      rcases S with ⟨s2, s3, s4⟩ | ⟨s2, s3, s4, s5, s6, s7⟩
      · -- a ring
        rcases V with ⟨v1, v2⟩ | ⟨v1, v2, l5, v3, v4, v5⟩
        · have := R4_u W (Or.inr ⟨v2, rfl⟩); omega
        have e45 := R4_u W v3
        have er := rd67_f (by rw [v2]; decide) h2
        have q1 : ¬ q.1 = 0 := by rw [s2]; decide
        rw [if_neg q1] at h1
        have e := fr_80 h1
        subst e
        subst er
        exact Or.inl ⟨rfl, by show o'.1 0 = 0; rw [v1.1 0 rfl]; exact k00, by show q.1 = o'.1 5; rw [s2, v2], Int32.toInt_inj.mp (by show (q.2.1.1 2).toInt = (o'.1 6).toInt; rw [s4, v5]; exact e45), Or.inl ⟨q1, fr_fp (fr_fp fr_rfl rfl) rfl, rfl, rfl, fr_fp (fr_tr kk v1 rfl rfl rfl) rfl⟩⟩
      · -- no fault
        rcases V with ⟨v1, v2⟩ | ⟨v1, v2, l5, v3, v4, v5⟩
        rotate_left
        · have := R4_u W v3; omega
        have o5' : o'.1 5 = 0 := by rw [v1.1 5 rfl]; exact k5
        have ko : MKp om o' := fr_tr kk v1 rfl rfl rfl
        obtain ⟨bo, hbo, D⟩ := rd67_s o5' h2
        rw [if_pos s2] at h1
        obtain ⟨bc, hbc, h1⟩ := bd h1
        rw [s1] at U
        obtain ⟨NO, NT⟩ := U3_n U
        have hs' : o'.2.1 1 = om.2.1 1 := ko.2.1 1 rfl
        have K2 : KRx (om.2.1 1) (om.1 2).toInt.toNat o' x2 := KRx_f K1 (v1.1 10 rfl) (v1.1 13 rfl) (v1.1 16 rfl) (v1.1 17 rfl) (v1.2.1 11 rfl) (v1.2.1 12 rfl) (v1.2.1 14 rfl) (v1.2.1 15 rfl) (v1.2.1 18 rfl) (v1.2.1 19 rfl) (v1.2.1 20 rfl) (v1.2.1 21 rfl) (v1.2.1 22 rfl) (v1.2.1 23 rfl) (v1.2.1 24 rfl)
        have hRf' : Rf (o'.2.1 22) (o'.2.1 23) (o'.2.1 19) := by rw [v1.2.1 22 rfl, v1.2.1 23 rfl, v1.2.1 19 rfl]; exact QK.2.2.2.2.1
        have G' : ∀ j : Nat, j < x2.2.2.2.1 → KGq (om.2.1 1) (om.1 2).toInt.toNat x2.2.1 x2.2.2.2.1 x2.2.2.2.2.1 (o'.2.1 25) j (nW (om.2.1 1) (om.1 2).toInt.toNat (x2.2.2.2.2.1 j)) := by rw [v1.2.1 25 rfl]; exact w3
        have q0 : q.1.toInt = 0 := by rw [s2]; rfl
        have hN : Nok (q.2.1.1 1).toInt (q.2.1.1 0).toInt (q.2.1.1 6).toInt (q.2.1.2.1 8) (q.2.1.2.1 13) (q.2.1.2.1 14) := Q.2.2.2.2.2.2.2.1.resolve_left (fun z => z q0)
        obtain ⟨n', z1, z2, z3, z4, z5⟩ := build_sim ho' hs' K2 s5 P x3 hRf' G' s6 NT NO s7 hN hbc hbo
        obtain ⟨bc', ebc', QB⟩ := sNl_buildInto q.2.1 o7 Q.2.1 hg7 Q.2.2.2.1 hN Q.2.2.2.2.2.2.1
        cases ebc'.symm.trans hbc
        have e36 : bo.1 36 = bc.2.1 3 := z1.2.2.2.1
        have kb : MKp om bo := fr_tr ko z3 rfl rfl rfl
        rcases fr_35 h1 with ⟨c1, er⟩ | ⟨c1, er⟩
        · rcases D with ⟨d, _⟩ | ⟨d1, d2, r1, r2, t1, t2, t3⟩
          · exact absurd (e36.trans c1) d
          obtain ⟨y0, y3, y38, y64, y85, yG, yN⟩ := rd_new P x3 (by rw [kb.2.1 1 rfl]) ho' K2 s5 z3 QB.2.1 z1 z2 z4 z5 t1 t2 t3
          subst er
          exact Or.inl ⟨rfl, y0, by show q.1 = rm.1; rw [s2, d2], by show q.2.1.1 2 = rm.2.1 3; rw [s4, y3], Or.inr ⟨s2, rfl, rfl, rfl, y38, y64, y85, yG, yN⟩⟩
        · rcases D with ⟨d1, d2⟩ | ⟨d, _⟩
          · subst er
            subst d2
            exact Or.inr ⟨rfl, rfl, rfl, by show bo.1 3 = om.1 3; rw [z3.1 3 rfl, v1.1 3 rfl, w2.1 3 rfl, rO.1 3 rfl]; rfl, fr_fp fr_rfl rfl, rfl, rfl, fr_fp (fr_fp kb rfl) rfl⟩
          · exact absurd (e36.symm.trans d) c1
theorem eq_line {o0 om : cf_O} {r rm : Int32 × cf_O} (e : o0.1 15 = om.1 3) (h1 : fF_line o0 = some r) (h2 : fM_line om = some rm) : r.1 = rm.1 ∧ r.2.1 30 = 0 ∧ rm.2.1 0 = 0 := by
  unfold fF_line fF_line_0 at h1
  unfold fM_line fM_line_0 at h2
  rw [opk] at h2
  rw [← Option.some.inj h1, ← Option.some.inj h2]
  exact ⟨e, rfl, rfl⟩
