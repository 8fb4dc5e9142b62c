def BsR (sg : Nat → Int32) (n : Nat) (x : NXq) (nl om : cf_O) (rc : cf_O × cf_O) (rm : cf_O) : Prop := ∃ m' : Nat, Rg (nW sg n x.2.1) m' rc.2 rm ∧ (∀ k : Nat, k + 1 < nW sg n x.2.2.1 → rc.2.2.1 7 k = rm.2.1 35 k) ∧ Fr (fr_M [29, 31, 36, 37] [26, 27, 30, 32, 33, 34, 35] []) om rm ∧ rc.2.1 0 = nl.1 0 ∧ rc.2.1 1 = nl.1 1
theorem build_sim {sg : Nat → Int32} {n : Nat} {x : NXq} {nl gr om rm : cf_O} {rc : cf_O × cf_O} (ho : okO I_M om) (hs : om.2.1 1 = sg) (K : KRx sg n om x) (C : KCx sg n nl x) (P : PNx sg n x) (x3 : x.1 = 3) (hRf : Rf (om.2.1 22) (om.2.1 23) (om.2.1 19)) (G1 : ∀ j : Nat, j < x.2.2.2.1 → KGq sg n x.2.1 x.2.2.2.1 x.2.2.2.2.1 (om.2.1 25) j (nW sg n (x.2.2.2.2.1 j))) (G2 : ∀ j : Nat, j < x.2.2.2.1 → KGq sg n x.2.1 x.2.2.2.1 x.2.2.2.2.1 (nl.2.1 13) j (nW sg n (x.2.2.2.2.1 j))) (NT : ∀ j : Nat, j < x.2.2.2.1 → ¬ tU sg n x.2.1 x.2.2.2.1 x.2.2.2.2.1 j) (NO : ¬ oU sg n x.2.1 x.2.2.1 x.2.2.2.1 x.2.2.2.2.1) (G3 : ∀ k : Nat, k + 1 < nW sg n x.2.2.1 → GvR sg n x.2.1 x.2.2.2.1 x.2.2.2.2.1 (keyq sg n x.2.2.1 (k + 1)) (nl.2.1 14 k).toInt) (hN : Nok (nl.1 1).toInt (nl.1 0).toInt (nl.1 6).toInt (nl.2.1 8) (nl.2.1 13) (nl.2.1 14)) (h1 : fNl_buildInto nl gr = some rc) (h2 : fM_build_ om = some rm) : BsR sg n x nl om rc rm := by
  have T0 := TbS_mk hs K C P x3 hRf G1 G2 NT
  have h8 := (P.1 (by omega)).1
  have a8 := h8.1
  have b8 := h8.2.1
  have a6 := (P.2.1 (by omega)).1.1
  have t30 := P.2.2.1
  have KI := K.2.1 (by omega)
  have KO := K.2.2.1 (by omega)
  have CI := C.2.2.1 (by omega)
  have CO := C.2.2.2.1 (by omega)
  have e17 := K.2.2.2.1
  have e6 := C.2.2.2.2.1
  have k10 := KI.1
  have c0 := CI.1
  have c1 := CO.1
  have e10 : ((om.1 10) + 1).toInt = (nW sg n x.2.1 : Int) := by rw [p_1 (by omega) (by omega)]; omega
  unfold fNl_buildInto fNl_buildInto_0 at h1
  obtain ⟨g1, hg1, h1⟩ := bd h1
  obtain ⟨n1, hn1, h1⟩ := bd h1
  obtain ⟨r1, r2, r3, r4, r5, r6, r7⟩ := restart_sp hg1
  obtain ⟨s1, s2⟩ := nlfill_sp hn1
  unfold fM_build_ fM_build__0 at h2
  rw [opk] at h2
  obtain ⟨o1, ho1, h2⟩ := bd h2
  obtain ⟨u1, u2, u3, u4, u5⟩ := begin_sp ho1
  obtain ⟨f, o2, v1, v2, h2⟩ := bclr_go (O := o1) (t := x.2.2.2.1) (by rw [u1.1 17 rfl]; exact e17) t30 cfFU 0 o1 rm fr_rfl (by decide) (by rw [show (0 : Int32).toInt = 0 from rfl]; omega) (fun j hj => absurd hj (by rw [show (0 : Int32).toInt = 0 from rfl]; omega)) h2
  have fo : Fr (fr_M [29, 31, 36, 37] [26, 27, 30, 32, 33, 34, 35] []) om o2 := fr_tr (fr_tr fr_rfl u1 rfl rfl rfl) v1 rfl rfl rfl
  have R : Rg (nW sg n x.2.1) 0 g1 o2 := Rg_0 (by omega) (by omega) (by rw [v1.1 31 rfl]; exact u2) r4 (by rw [v1.1 37 rfl, u4]; exact e10) (by rw [r2]; exact c0) (by rw [v1.1 36 rfl, u3, r5]) (fun k hk => by rw [v1.2.1 34 rfl]; exact u5 k hk) r7 r6
  have T : TbS sg (nW sg n x.2.1 - 1) x.2.2.2.1 (fun j => nW sg n (x.2.2.2.2.1 j) - 2) x.2.2.2.2.2.1 (fun j r => (wf sg n (x.2.2.2.2.2.2 j r) 0).toNat) (fun j => eB sg n (x.2.2.2.2.2.2 j 0)) n1 o2 := TbS_f T0 (fo.2.1 1 rfl) (fo.2.1 19 rfl) (fo.2.1 22 rfl) (fo.2.1 23 rfl) (fo.2.1 24 rfl) (fo.2.1 25 rfl) (s1.2.1 8 rfl) (s1.2.1 10 rfl) (s1.2.1 11 rfl) (s1.2.1 12 rfl) (s1.2.1 13 rfl)
  have L : LtS x.2.2.2.1 (nW sg n x.2.1 + 0) n1 o2 := fun j hj => Or.inl ⟨v2 j hj, s2 j (by omega)⟩
  have B : BdI sg n x om := ⟨KI, KO, e17, fun j hj => (K.2.2.2.2 j hj).1, fun i => (ho.2 12 i).2, fun i => (ho.2 21 i).2, fun i => (ho.2 15 i).2⟩
  have B2 := BdI_f B fo
  obtain ⟨m', z1, z2, z3, z4, z5⟩ := bout_go (b := nW sg n x.2.1) (by omega) (by omega) P x3 NO cfFU f 0 0 n1 g1 o2 rc rm T L R B2 (by rw [s1.1 1 rfl]; exact c1) (fun k hk => by
    rw [s1.2.1 14 rfl]
    refine ⟨G3 k hk, Dq_mk (inp := (nl.1 0).toInt) (tabs := (nl.1 6).toInt) (wi := nl.2.1 8) (so := nl.2.1 13) (by omega) (fun j hj => ?_) (hN k (by omega))⟩
    have jt : j < x.2.2.2.1 := by omega
    have t4 := T.2.2.2.1 j jt
    rw [s1.2.1 8 rfl] at t4
    refine ⟨t4.2.2.2.1, fun i hi => ?_⟩
    have t6 := (T.2.2.2.2.2.1 j i jt hi).1
    rw [s1.2.1 13 rfl] at t6
    exact t6) (by decide) (by rw [show (0 : Int32).toInt = 0 from rfl]; omega) (fun k hk => absurd hk (by rw [show (0 : Int32).toInt = 0 from rfl]; omega)) h1 h2
  exact ⟨m', z2, z3, fr_tr fo z4 rfl rfl rfl, by rw [z5.1 0 rfl]; exact r2, by rw [z5.1 1 rfl]; exact r3⟩
