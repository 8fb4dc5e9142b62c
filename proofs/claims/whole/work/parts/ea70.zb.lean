theorem apS_17 {o r : cf_O} {L : List Int32} (S : SbQ o L) (h : fSB_appendS_S17 o = some r) : SbQ r (L ++ wdL 17 5) := by
  unfold fSB_appendS_S17 fSB_appendS_S17_0 at h
  obtain ⟨w, hw, h⟩ := bd h
  have ew : r = w := (Option.some.inj h).symm
  subst ew
  unfold fAS_appendS_S17 fAS_appendS_S17_0 at hw
  rw [show fJString_length__S17 = some 5 from rfl, Option.bind_some] at hw
  unfold fAS_appendS_S17_13 at hw
  rw [opk] at hw
  obtain ⟨q, hq, hw⟩ := bd hw
  have Q := SbQ_e S hq
  unfold fAS_appendS_S17_24 fAS_putStringAt_S17 fAS_putStringAt_S17_0 at hw
  obtain ⟨y, hy, hw⟩ := bd hw
  obtain ⟨u, hu, hy⟩ := bd hy
  obtain ⟨z, hz, hy⟩ := bd hy
  have ez : y = z := (Option.some.inj hy).symm
  subst ez
  unfold fJString_getBytes_ABIB_S17_SB0 fJString_getBytes_ABIB_S17_SB0_0 at hz
  rw [show fJString_coder__S17 = some 0 from rfl, Option.bind_some, Q.1, if_pos rfl, opk, sl0] at hz
  obtain ⟨c, hz⟩ := ifn hz
  rw [opk] at hz
  have ey : y = cb q 0 17 (q.1 3) 5 := (Option.some.inj hz).symm
  subst ey
  unfold fAS_appendS_S17_33 at hw
  rw [opk, opk] at hw
  have er : r = fp (cb q 0 17 (q.1 3) 5) 3 ((q.1 3) + 5) := (Option.some.inj hw).symm
  rw [er]
  have c : ¬ (q.1 0).toNatClampNeg < (q.1 3).toNatClampNeg + 5 := fun z => c (Or.inr z)
  have t1 := tn_n (q.1 0)
  have t2 := tW Q.2.1
  exact cb_sp Q rfl (by have := Q.2.2.1; omega)
theorem lnM_st {v1 v2 : Int32} {v w : Nat} {om r : cf_O} {L : List Int32} (e1 : (v1 / 2).toInt = (v : Int)) (e2 : v2.toInt = (w : Int)) (hv : v < 1000) (hw : w ≤ 100) (R : RtM om L) : ∀ f : Nat, gM_literalName f 0 v1 v2 om = some r → (w = 0 ∧ r = om) ∨ (1 ≤ w ∧ ∃ (f' : Nat) (v3 : Int32) (q : cf_O), v3.toInt = ((w / 10 : Nat) : Int) ∧ gM_literalName f' 0 v1 v3 q = some r ∧ Fr (fr_M [96] [97] []) om q ∧ RtM q (L ++ (if v < w then [] else [Int32.ofNat (48 + v / w % 10)])))
  | 0, h => by cases h
  | f + 1, h => by
    have h : fM_literalName_38 (gM_literalName f) v1 v2 om = some r := h
    unfold fM_literalName_38 at h
    rcases ifc h with ⟨a, h⟩ | ⟨a, h⟩
    · have a := c_le a
      rw [show (0 : Int32).toInt = 0 from rfl] at a
      exact Or.inl ⟨by omega, (Option.some.inj h).symm⟩
    · have a := c_nle a
      rw [show (0 : Int32).toInt = 0 from rfl] at a
      refine Or.inr ⟨by omega, ?_⟩
      have d : (v2 / 10).toInt = ((w / 10 : Nat) : Int) := by rw [i_dv (y := 10) (by omega) (by decide), e2]; rfl
      rw [opk] at h
      rcases ifc h with ⟨c, h⟩ | ⟨c, h⟩
      · have c := Int32.lt_iff_toInt_lt.mp c
        unfold fM_literalName_65 at h
        rw [opk] at h
        refine ⟨f, v2 / 10, om, d, h, fr_rfl, ?_⟩
        rw [if_pos (by omega), List.append_nil]; exact R
      · have c : ¬ (v1 / 2).toInt < v2.toInt := fun z => c (Int32.lt_iff_toInt_lt.mpr z)
        rw [opk] at h
        have h := (ifn h).2
        rw [opk, opk, opk, opk, dg_i e1 e2 hv (by omega)] at h
        obtain ⟨q, hq, h⟩ := bd h
        obtain ⟨R2, f2⟩ := emM_sp R hq
        unfold fM_literalName_65 at h
        rw [opk] at h
        refine ⟨f, v2 / 10, q, d, h, f2, ?_⟩
        rw [if_neg (by omega)]
        rw [Int32.toInt32_toInt64] at R2
        exact R2
theorem litM_sp {b n x : Nat} {x2 v1 : Int32} {gr nl sc sb sb2 om om2 : cf_O} (RG : RGq b n gr om) (N : NaI nl gr om) (T : TwM sb om) (e1 : v1.toInt = (x : Int)) (e2 : x2.toInt = (x : Int)) (h2 : 2 ≤ x) (hv : x < 1000) (k1 : fSc_writeLiteral x2 sc nl sb = some sb2) (k2 : fM_literalName v1 om = some om2) : TwM sb2 om2 ∧ Fr (fr_M [96] [97] []) om om2 := by
  have R0 := RG.1
  have hf : (v1 / 2).toInt = ((x / 2 : Nat) : Int) := by rw [i_dv (y := 2) (by omega) (by decide), e1]; rfl
  unfold fM_literalName fM_literalName_0 at k2
  rw [opk] at k2
  rcases ifc k2 with ⟨a, k2⟩ | ⟨a, k2⟩
  · have a := c_eq a
    rw [md2_i (by omega), show (0 : Int32).toInt = 0 from rfl] at a
    rw [opk] at k2
    obtain ⟨q, hq, k2⟩ := bd k2
    have er : om2 = q := (Option.some.inj k2).symm
    subst er
    exact liwM_sp (v := x / 2) RG N T hf (by omega) (by omega) (by omega) k1 hq
  · have a : ¬ x % 2 = 0 := fun z => a (Int32.toInt_inj.mp (by rw [md2_i (by omega), show (0 : Int32).toInt = 0 from rfl]; omega))
    obtain ⟨L, S, R, A, l5⟩ := T
    have L9 := R.2.1.2
    obtain ⟨q1, c1, k2⟩ := bd k2
    obtain ⟨q2, c2, k2⟩ := bd k2
    obtain ⟨q3, c3, k2⟩ := bd k2
    obtain ⟨R1, f1⟩ := emM_sp R c1
    obtain ⟨R2, f2⟩ := emM_sp R1 c2
    obtain ⟨R3, f3⟩ := emM_sp R2 c3
    have R3 : RtM q3 (L ++ [32, 109, 95]) := by
      rw [List.append_assoc, List.append_assoc] at R3
      exact R3
    have f3 : Fr (fr_M [96] [97] []) om q3 := fr_tr (fr_tr f1 f2 rfl rfl rfl) f3 rfl rfl rfl
    have k2 : gM_literalName cfFU 0 v1 100 q3 = some om2 := k2
    have hw : x / 2 < 1000 := by omega
    have done : RtM om2 (L ++ [32, 109, 95] ++ dgL (x / 2)) ∧ Fr (fr_M [96] [97] []) om om2 := by
      rcases lnM_st (w := 100) hf rfl hw (by omega) R3 cfFU k2 with ⟨z, _⟩ | ⟨_, g1, w1, u1, z1, h, y1, T1⟩
      · omega
      rcases lnM_st (w := 10) hf z1 hw (by omega) T1 g1 h with ⟨z, _⟩ | ⟨_, g2, w2, u2, z2, h, y2, T2⟩
      · omega
      rcases lnM_st (w := 1) hf z2 hw (by omega) T2 g2 h with ⟨z, _⟩ | ⟨_, g3, w3, u3, z3, h, y3, T3⟩
      · omega
      rcases lnM_st (w := 0) hf z3 hw (by omega) T3 g3 h with ⟨_, er⟩ | ⟨z, _⟩
      · rw [er]
        refine ⟨?_, fr_tr (fr_tr (fr_tr f3 y1 rfl rfl rfl) y2 rfl rfl rfl) y3 rfl rfl rfl⟩
        generalize ev : x / 2 = v at T3
        have v1' : 1 ≤ v := by omega
        have ed : ((if v < 100 then ([] : List Int32) else [Int32.ofNat (48 + v / 100 % 10)]) ++ (if v < 10 then [] else [Int32.ofNat (48 + v / 10 % 10)])) ++ (if v < 1 then [] else [Int32.ofNat (48 + v / 1 % 10)]) = dgL v := by
          unfold dgL
          rw [Nat.div_one, if_neg (show ¬ v < 1 by omega)]
          by_cases c1 : v < 10
          · rw [if_pos c1, if_pos (by omega), if_pos c1, show v % 10 = v by omega]; rfl
          · rw [if_neg c1, if_neg c1]
            by_cases c2 : v < 100
            · rw [if_pos c2, if_pos c2, show v / 10 % 10 = v / 10 by omega]; rfl
            · rw [if_neg c2, if_neg c2, show v / 100 % 10 = v / 100 by omega]; rfl
        rw [List.append_assoc (L ++ [32, 109, 95]), List.append_assoc (L ++ [32, 109, 95]), ed] at T3
        exact T3
      · omega
    have es : (x2 >>> ((1 : Int32) &&& 31)).toInt = ((x / 2 : Nat) : Int) := by rw [i_s1 (by omega), e2]; rfl
    have ea : ¬ x2 &&& 1 = 0 := fun z => by
      have z := c_eq z
      rw [i_a1 (by omega), e2, show (0 : Int32).toInt = 0 from rfl] at z
      omega
    unfold fSc_writeLiteral fSc_writeLiteral_0 at k1
    rw [opk, opk, if_neg ea] at k1
    unfold fSc_writeLiteral_36 at k1
    rw [opk, if_neg ea] at k1
    obtain ⟨u, hu, k1⟩ := bd k1
    have S1 := apS_10 S hu
    rw [show wdL 10 3 = [32, 109, 95] from by decide +kernel] at S1
    unfold fSc_writeLiteral_56 fSc_writeLiteral_65 at k1
    obtain ⟨w, hw2, k1⟩ := bd k1
    have er : sb2 = w := (Option.some.inj k1).symm
    subst er
    have S2 := apI_sp S1 (by omega) (by omega) (by rw [List.length_append]; omega) (by rw [List.length_append]; show L.length + 3 ≤ _; omega) hw2
    rw [es] at S2
    refine ⟨⟨_, S2, done.1, AsQ_a (AsQ_a A (by unfold AsQ; decide)) (dgL_a hw), ?_⟩, done.2⟩
    rw [List.length_append, List.length_append]; omega
theorem pin_go {b n c x : Nat} {gr nl sc li mp OM : cf_O} {v5 v8 v1 v2 : Int32} {v6 : Int64} (RG : RGq b n gr OM) (N : NaI nl gr OM) (e5 : v5.toNatClampNeg < 418) (e3 : (mp.2.1 3 v5.toNatClampNeg).toInt = (x : Int)) (x2 : 2 ≤ x) (xN : x < 418) (e1 : v1.toInt = (x : Int)) (e6 : nv v6 = wvM mp x) (e8 : v8.toInt = (celW (wvM mp x) : Int)) (e2 : v2.toInt = (celW (wvM mp x) : Int)) (cl : celW (wvM mp x) < c) (Lq : LRq c li (OM.2.1 84)) (pin : ∀ k : Nat, k < 3 → (k : Int) < (OM.2.1 84 (4 * celW (wvM mp x) + 2)).toInt → (OM.2.1 87 (5 * x + 2 + k)).toInt = (pinW (wvM mp x) k : Int) ∧ 2 ≤ pinW (wvM mp x) k ∧ pinW (wvM mp x) k < 418) : ∀ (f1 f2 k : Nat) (v9 v3 : Int32) (sb om r : cf_O) (rc : cf_O × cf_O), v9.toInt = (k : Int) → v3.toInt = (k : Int) → k ≤ 3 → Fr (fr_M [96] [97] []) OM om → TwM sb om → gMp_writeTo f1 1 v5 v6 v8 v9 mp sc nl gr li sb = some rc → gM_writeInstance f2 0 v1 v2 v3 om = some r → ∃ (f : Nat) (sb' : cf_O), TwM sb' r ∧ Fr (fr_M [96] [97] []) OM r ∧ gMp_writeTo f 0 (v5 + 1) 0 0 0 mp sc nl gr li sb' = some rc
  | 0, f2, k, v9, v3, sb, om, r, rc, e9, ek, k3, F, T, h1, h2 => by cases h1
  | f1 + 1, 0, k, v9, v3, sb, om, r, rc, e9, ek, k3, F, T, h1, h2 => by cases h2
  | f1 + 1, f2 + 1, k, v9, v3, sb, om, r, rc, e9, ek, k3, F, T, h1, h2 => by
    have h1 : fMp_writeTo_63 (gMp_writeTo f1) v5 v6 v8 v9 mp sc nl gr li sb = some rc := h1
    have h2 : fM_writeInstance_57 (gM_writeInstance f2) v1 v2 v3 om = some r := h2
    unfold fMp_writeTo_63 at h1
    unfold fM_writeInstance_57 at h2
    have RG2 : RGq b n gr om := RGq_f RG (F.1 39 rfl) (F.1 40 rfl) (F.1 43 rfl) (F.2.1 44 rfl) (F.2.1 45 rfl) (F.2.1 46 rfl) (F.2.1 47 rfl)
    have N2 : NaI nl gr om := NaI_f N (F.1 39 rfl) (F.1 40 rfl) (F.2.1 41 rfl) (F.2.1 42 rfl)
    have hF := LRq_F Lq
    have c12 := hF.1
    have F1 := hF.2 _ cl
    have Le := (Lq.2 _ cl).1.2.2.1
    have h1 := (ifn h1).2
    rw [opk, tW e8, Le] at h1
    rw [opk, opk, tW (addk (k := 2) (mul4 e2 (by omega)) rfl (by omega) (by decide))] at h2
    have h2 := (ifn h2).2
    rw [opk, F.2.1 84 rfl] at h2
    rcases ifc h1 with ⟨a, h1⟩ | ⟨a, h1⟩
    · have a := c_le a
      rcases ifc h2 with ⟨_, h2⟩ | ⟨d, _⟩
      · have h1 := (ifn h1).2
        rw [opk] at h1
        obtain ⟨s1, a1, h1⟩ := bd h1
        obtain ⟨o1, b1, h2⟩ := bd h2
        obtain ⟨T1, G1⟩ := litM_sp RG2 N2 T e1 e3 x2 (by omega) a1 b1
        unfold fMp_writeTo_106 fMp_writeTo_115 at h1
        obtain ⟨s2, a2, h1⟩ := bd h1
        rw [opk] at h1
        obtain ⟨o2, b2, h2⟩ := bd h2
        have er : r = o2 := (Option.some.inj h2).symm
        subst er
        obtain ⟨T2, G2⟩ := twM_C T1 (by decide) (by decide) (by decide) a2 b2
        exact ⟨f1, s2, T2, fr_tr (fr_tr F G1 rfl rfl rfl) G2 rfl rfl rfl, h1⟩
      · exact absurd (Int32.le_iff_toInt_le.mpr (by omega)) d
    · have a := c_nle a
      rcases ifc h2 with ⟨d, _⟩ | ⟨_, h2⟩
      · have d := c_le d
        omega
      obtain ⟨z, hz, h1⟩ := bd h1
      have ez := pinOf_sp hz (by omega) (by omega)
      rw [e6, e9] at ez
      have ez : z.toInt = (pinW (wvM mp x) k : Int) := ez
      obtain ⟨p1, p2⟩ := pin k (by omega) (by omega)
      have a2 := addk (k := 2) (mul5 e1 (by omega)) (w := 2) rfl (by omega) (by decide)
      have a4 := addk a2 ek (by omega) (by omega)
      rw [opk, opk, opk, tW a4] at h2
      have h2 := (ifn h2).2
      rw [opk, F.2.1 87 rfl] at h2
      obtain ⟨o1, b1, h2⟩ := bd h2
      rw [opk] at h2
      unfold fMp_writeTo_85 at h1
      obtain ⟨s1, a1, h1⟩ := bd h1
      obtain ⟨T1, G1⟩ := litM_sp RG2 N2 T p1 ez p2.1 (by omega) a1 b1
      unfold fMp_writeTo_88 at h1
      rw [opk] at h1
      exact pin_go RG N e5 e3 x2 xN e1 e6 e8 e2 cl Lq pin f1 f2 (k + 1) (v9 + 1) (v3 + 1) s1 o1 r rc (by rw [pW (by omega) (by omega)]; omega) (by rw [pW (by omega) (by omega)]; omega) (by omega) (fr_tr F G1 rfl rfl rfl) T1 h1 h2
def InQ (c : Nat) (mp om : cf_O) (x : Nat) : Prop := (2 ≤ x ∧ x < 418) ∧ celW (wvM mp x) < c ∧ (om.2.1 87 (5 * x + 1)).toInt = (celW (wvM mp x) : Int) ∧ ∀ k : Nat, k < 3 → (k : Int) < (om.2.1 84 (4 * celW (wvM mp x) + 2)).toInt → (om.2.1 87 (5 * x + 2 + k)).toInt = (pinW (wvM mp x) k : Int) ∧ 2 ≤ pinW (wvM mp x) k ∧ pinW (wvM mp x) k < 418
theorem ins_go {b n c : Nat} {gr nl sc li mp OM : cf_O} {L : List Nat} (RG : RGq b n gr OM) (N : NaI nl gr OM) (Lq : LRq c li (OM.2.1 84)) (Nm' : NmL c li (OM.2.1 83)) (LC : LiC li mp mp L) (LR : LiR OM L) (HL : ∀ x ∈ L, InQ c mp OM x) : ∀ (D f1 f2 i : Nat) (v5 v1 : Int32) (sb om r : cf_O) (rc : cf_O × cf_O), L.length = i + D → v5.toInt = (i : Int) → v1.toInt = (i : Int) → Fr (fr_M [96] [97] []) OM om → TwM sb om → gMp_writeTo f1 0 v5 0 0 0 mp sc nl gr li sb = some rc → gM_writeMap f2 2 v1 om = some r → ∃ (g1 g2 : Nat) (sb' om' : cf_O), TwM sb' om' ∧ Fr (fr_M [96] [97] []) OM om' ∧ gMp_writeTo g1 2 0 0 0 0 mp sc nl gr li sb' = some rc ∧ gM_writeMap g2 3 0 om' = some r := by
  intro D
  induction D with
  | zero =>
    intro f1 f2 i v5 v1 sb om r rc hD e5 e1 F T h1 h2
    cases f1 with
    | zero => cases h1
    | succ f1 =>
      cases f2 with
      | zero => cases h2
      | succ f2 =>
        have h1 : fMp_writeTo_8 (gMp_writeTo f1) v5 mp sc nl gr li sb = some rc := h1
        have h2 : fM_writeMap_81 (gM_writeMap f2) v1 om = some r := h2
        unfold fMp_writeTo_8 at h1
        unfold fM_writeMap_81 at h2
        have l1 := LC.1
        have l2 := LR.1
        rw [if_pos (Int32.le_iff_toInt_le.mpr (by omega))] at h1
        rw [if_pos (Int32.le_iff_toInt_le.mpr (by rw [F.1 93 rfl]; omega))] at h2
        exact ⟨f1, f2, sb, om, T, F, h1, h2⟩
  | succ D ih =>
    intro f1 f2 i v5 v1 sb om r rc hD e5 e1 F T h1 h2
    cases f1 with
    | zero => cases h1
    | succ f1 =>
      cases f2 with
      | zero => cases h2
      | succ f2 =>
        have h1 : fMp_writeTo_8 (gMp_writeTo f1) v5 mp sc nl gr li sb = some rc := h1
        have h2 : fM_writeMap_81 (gM_writeMap f2) v1 om = some r := h2
        unfold fMp_writeTo_8 at h1
        unfold fM_writeMap_81 at h2
        have l1 := LC.1
        have l2 := LR.1
        have il : i < L.length := by omega
        have ex : L[i]? = some L[i] := List.getElem?_eq_getElem il
        have H := HL _ (List.getElem_mem il)
        generalize L[i] = x at ex H
        obtain ⟨⟨x2, xN⟩, cl, ec, pin⟩ := H
        have e3 := LC.2.1 i x ex
        have e94 := LR.2 i x ex
        have c12 := (LRq_F Lq).1
        rw [if_neg (fun z => by have z := c_le z; omega)] at h1
        have c9 := (ifn h1).1
        have i418 : i < 418 := by
          by_cases y : i < 418
          · exact y
          · exact absurd (Or.inr (by rw [tW e5]; omega)) c9
        have h1 := (ifn h1).2
        rw [opk, tW e5] at h1
        have h1 := (ifn h1).2
        rw [opk, tW e3] at h1
        obtain ⟨q, hq, h1⟩ := bd h1
        have eq := cellOf_sp hq
        have eq : q.toInt = (celW (wvM mp x) : Int) := eq
        rw [if_neg (fun z => by have z := c_le z; rw [F.1 93 rfl] at z; omega)] at h2
        have h2 := (ifn h2).2
        rw [opk, tW e1, F.2.1 94 rfl] at h2
        obtain ⟨o9, b9, h2⟩ := bd h2
        rw [opk] at h2
        -- the instance
        unfold fM_writeInstance fM_writeInstance_0 at b9
        rw [opk, opk, tW (addk (k := 1) (mul5 e94 (by omega)) rfl (by omega) (by decide))] at b9
        have b9 := (ifn b9).2
        rw [opk, F.2.1 87 rfl] at b9
        obtain ⟨p1, d1, b9⟩ := bd b9
        obtain ⟨p2, d2, b9⟩ := bd b9
        obtain ⟨p3, d3, b9⟩ := bd b9
        obtain ⟨p4, d4, b9⟩ := bd b9
        obtain ⟨p5, d5, b9⟩ := bd b9
        obtain ⟨p6, d6, b9⟩ := bd b9
        obtain ⟨K, S, R, A, l5⟩ := T
        obtain ⟨R1, F1⟩ := emM_sp R d1
        obtain ⟨R2, F2⟩ := emM_sp R1 d2
        obtain ⟨R3, F3⟩ := emM_sp R2 d3
        obtain ⟨R4, F4⟩ := emM_sp R3 d4
        obtain ⟨R5, F5⟩ := emM_sp R4 d5
        rw [List.append_assoc, List.append_assoc, List.append_assoc, List.append_assoc] at R5
        have G5 : Fr (fr_M [96] [97] []) OM p5 := fr_tr (fr_tr (fr_tr (fr_tr (fr_tr F F1 rfl rfl rfl) F2 rfl rfl rfl) F3 rfl rfl rfl) F4 rfl rfl rfl) F5 rfl rfl rfl
        unfold fMp_writeTo_36 at h1
        obtain ⟨s1, a1, h1⟩ := bd h1
        have S1 := apS_17 S a1
        have w17 : wdL 17 5 = [46, 103, 97, 116, 101] := by decide +kernel
        have T5 : TwM s1 p5 := ⟨_, S1, by rw [w17]; exact R5, AsQ_a A (by rw [w17]; unfold AsQ; decide), by rw [List.length_append]; omega⟩
        unfold fMp_writeTo_47 at h1
        have h1 := (ifn h1).2
        rw [opk, tW eq] at h1
        obtain ⟨s2, a2, h1⟩ := bd h1
        obtain ⟨T6, F6⟩ := twM_N3 T5 ec (by omega) (by rw [G5.2.1 83 rfl]; exact Nm' _ cl) a2 d6
        unfold fMp_writeTo_60 at h1
        obtain ⟨g1, s3, T7, F7, h1⟩ := pin_go RG N (by rw [tW e5]; exact i418) (by rw [tW e5]; exact e3) x2 xN e94 rfl eq ec cl Lq pin f1 cfFU 0 0 0 s2 p6 o9 rc rfl rfl (by decide) (fr_tr G5 F6 rfl rfl rfl) T6 h1 b9
        exact ih g1 f2 (i + 1) (v5 + 1) (v1 + 1) s3 o9 r rc (by omega) (by rw [pW (by omega) (by omega)]; omega) (by rw [pW (by omega) (by omega)]; omega) F7 T7 h1 h2
