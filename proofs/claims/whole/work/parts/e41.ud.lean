def BdI (sg : Nat → Int32) (n : Nat) (x : NXq) (om : cf_O) : Prop := KRi sg n om x.2.1 ∧ KRo sg n om x.2.2.1 ∧ (om.1 17).toInt = (x.2.2.2.1 : Int) ∧ (∀ j : Nat, j < x.2.2.2.1 → KRt sg n om j (x.2.2.2.2.1 j)) ∧ (∀ i : Nat, (om.2.1 12 i).toInt ≤ 1600) ∧ (∀ i : Nat, (om.2.1 21 i).toInt ≤ 1600) ∧ ∀ i : Nat, (om.2.1 15 i).toInt ≤ 1600
theorem BdI_f {sg : Nat → Int32} {n : Nat} {x : NXq} {om om' : cf_O} (B : BdI sg n x om) (f : Fr (fr_M [29, 31, 36, 37] [26, 27, 30, 32, 33, 34, 35] []) om om') : BdI sg n x om' := by
  unfold BdI KRi KRo KRt
  rw [f.1 10 rfl, f.1 13 rfl, f.1 16 rfl, f.1 17 rfl, f.2.1 11 rfl, f.2.1 12 rfl, f.2.1 14 rfl, f.2.1 15 rfl, f.2.1 18 rfl, f.2.1 19 rfl, f.2.1 20 rfl, f.2.1 21 rfl]; exact B
theorem ft_0 {v1 : Int32} {om q : cf_O} (h : fM_findTable v1 om = some q) : gM_findTable cfFU 0 0 0 0 (xp (fp om 29 1) 30 0 v1) = some q := by
  unfold fM_findTable fM_findTable_0 at h
  rw [opk, if_neg (by decide), opk, show (0 : Int32).toNatClampNeg = 0 from rfl] at h
  exact h
theorem ft_e {f : Nat} {om q : cf_O} (e : (om.1 29).toInt = 0) (h : gM_findTable f 0 0 0 0 om = some q) : q = om := by
  cases f with
  | zero => cases h
  | succ f =>
    rcases ifc h with ⟨_, h⟩ | ⟨a, _⟩
    · exact (Option.some.inj h).symm
    · have a : (0 : Int32).toInt < (om.1 29).toInt := c_nle a
      rw [show (0 : Int32).toInt = 0 from rfl] at a
      omega
theorem lit_lo {d : Nat} {v1 v3 : Int32} {nl gr : cf_O} {rc : Int32 × cf_O × cf_O} (h8 : v1.toInt < 8) (h : fNl_literalOfD d v1 v3 nl gr = some rc) : rc = (2 * (v1 + 1), nl, gr) := by
  cases d with
  | zero => cases h
  | succ d =>
    rcases ifc (show (if (8 : Int32) ≤ v1 then _ else _) = some rc from h) with ⟨a, _⟩ | ⟨_, h⟩
    · have a : 8 ≤ v1.toInt := c_le a
      omega
    · exact (Option.some.inj h).symm
theorem lit_hi {d : Nat} {v1 v3 : Int32} {nl gr : cf_O} {rc : Int32 × cf_O × cf_O} (h8 : 8 ≤ v1.toInt) (h38 : v1.toInt < 38) (hn : 0 ≤ (nl.2.1 16 (v1.toInt - 8).toNat).toInt) (h : fNl_literalOfD d v1 v3 nl gr = some rc) : rc = (nl.2.1 16 (v1.toInt - 8).toNat, nl, gr) := by
  cases d with
  | zero => cases h
  | succ d =>
    rcases ifc (show (if (8 : Int32) ≤ v1 then _ else _) = some rc from h) with ⟨_, h⟩ | ⟨a, _⟩
    · have e8 : (v1 - 8).toInt = v1.toInt - 8 := i_sub' (by omega) (by omega) (by decide) (by decide)
      have i8 : (v1 - 8).toNatClampNeg = (v1.toInt - 8).toNat := by have := tn_n (v1 - 8); omega
      have h := (ifn h).2
      rw [i8] at h
      rcases ifc h with ⟨a, _⟩ | ⟨_, h⟩
      · rw [a] at hn; exact absurd hn (by decide)
      · have h := (ifn h).2
        have h : some (op_mx (nl.2.1 16 (v1 - 8).toNatClampNeg) 0, nl, gr) = some rc := h
        rw [i8] at h
        have emx : op_mx (nl.2.1 16 (v1.toInt - 8).toNat) 0 = nl.2.1 16 (v1.toInt - 8).toNat := Int32.toInt_inj.mp (by rw [mx_n, show (0 : Int32).toInt = 0 from rfl]; omega)
        rw [emx] at h
        exact (Option.some.inj h).symm
    · have a : v1.toInt < 8 := c_nle a
      omega
def BoR (sg : Nat → Int32) (n b m oL : Nat) (gr om : cf_O) (rc : cf_O × cf_O) (rm : cf_O) : Prop := ∃ m' : Nat, m ≤ m' ∧ Rg b m' rc.2 rm ∧ (∀ k : Nat, k + 1 < nW sg n oL → rc.2.2.1 7 k = rm.2.1 35 k) ∧ Fr (fr_M [29, 31, 36] [26, 27, 30, 32, 33, 34, 35] []) om rm ∧ Fr (fr_M [2, 3] [4, 5, 6, 7, 8, 9] []) gr rc.2
theorem b86 {f2 : Nat} {v1 v2 l : Int32} {om rm : cf_O} {k : Nat} (vi : v1.toNatClampNeg = k) (hl : ∀ r : Int32, fM_literal v2 om = some r → r = l) (h : fM_build__86 (gM_build_ f2) v1 v2 om = some rm) : gM_build_ f2 1 (v1 + 1) (xp om 35 k l) = some rm := by
  obtain ⟨q, hq, h⟩ := bd h
  have h := (ifn h).2
  rw [hl q hq, vi] at h
  exact h
theorem bout_go {sg : Nat → Int32} {n : Nat} {x : NXq} {N b : Nat} {w c : Nat → Nat} {rf : Nat → Nat → Nat} {en : Nat → Int} (eb : b = N + 1) (eN : N + 1 = nW sg n x.2.1) (P : PNx sg n x) (x3 : x.1 = 3) (NO : ¬ oU sg n x.2.1 x.2.2.1 x.2.2.2.1 x.2.2.2.2.1) : ∀ (f1 f2 : Nat) (v2 : Int32) (m : Nat) (nl gr om : cf_O) (rc : cf_O × cf_O) (rm : cf_O), TbS sg N x.2.2.2.1 w c rf en nl om → LtS x.2.2.2.1 (b + m) nl om → Rg b m gr om → BdI sg n x om → (nl.1 1).toInt + 1 = (nW sg n x.2.2.1 : Int) → (∀ k : Nat, k + 1 < nW sg n x.2.2.1 → GvR sg n x.2.1 x.2.2.2.1 x.2.2.2.2.1 (keyq sg n x.2.2.1 (k + 1)) (nl.2.1 14 k).toInt ∧ Dq w om 30 (nl.2.1 14 k).toInt) → 0 ≤ v2.toInt → v2.toInt + 1 ≤ (nW sg n x.2.2.1 : Int) → (∀ k : Nat, (k : Int) < v2.toInt → gr.2.1 7 k = om.2.1 35 k) → gNl_buildInto f1 0 v2 nl gr = some rc → gM_build_ f2 1 v2 om = some rm → BoR sg n b m x.2.2.1 gr om rc rm
  | 0, f2, v2, m, nl, gr, om, rc, rm, T, L, R, B, e1, G, h0, h1, hz, q1, q2 => by cases q1
  | f1 + 1, 0, v2, m, nl, gr, om, rc, rm, T, L, R, B, e1, G, h0, h1, hz, q1, q2 => by cases q2
  | f1 + 1, f2 + 1, v2, m, nl, gr, om, rc, rm, T, L, R, B, e1, G, h0, h1, hz, q1, q2 => by
    have B0 := B
    obtain ⟨KI, KO, e17, KT, b12, b21, b15⟩ := B
    have h6 := (P.2.1 (by omega)).1
    have a6 := h6.2.1
    have h8 := (P.1 (by omega)).1
    have t30 := P.2.2.1
    have o13 := KO.1
    rcases ifc q1 with ⟨a, q1⟩ | ⟨a, q1⟩
    · have a := c_le a
      rcases ifc q2 with ⟨_, q2⟩ | ⟨d, _⟩
      · rw [← Option.some.inj q1, ← Option.some.inj q2]
        exact ⟨m, Nat.le_refl m, R, fun k hk => hz k (by omega), fr_rfl, fr_rfl⟩
      · have d := c_nle d; omega
    · have a := c_nle a
      rcases ifc q2 with ⟨d, _⟩ | ⟨_, q2⟩
      · have d := c_le d; omega
      have vi : v2.toNatClampNeg = v2.toInt.toNat := by have := tn_n v2; omega
      have e2 := p_1 (v := v2) h0 (by omega)
      have q1 := (ifn q1).2
      rw [vi] at q1
      obtain ⟨lc, hlc, q1⟩ := bd q1
      have q1 := (ifn q1).2
      have q2 := (ifn q2).2
      have q2 := (ifn q2).2
      obtain ⟨g, hg, q2⟩ := bd q2
      rw [vi] at hg
      have ww := KO.2.2 v2.toInt.toNat (by omega)
      have hg := giver_sq (n := n) (tL := x.2.2.2.2.1) b12 b21 T.1 (by rw [ww.1]; exact wf_0) (b15 _) (by rw [ww.1, ww.2]; exact h6.2.2.1 _ (by omega) (by omega)) (by rw [ww.1, ww.2]; exact Nms_w h6 (by omega)) KI h8 e17 t30 (fun j hj => ⟨KT j hj, (P.2.2.2.2 j hj).1⟩) hg
      rw [ww.1, ww.2] at hg
      have hg : GvR sg n x.2.1 x.2.2.2.1 x.2.2.2.2.1 (keyq sg n x.2.2.1 (v2.toInt.toNat + 1)) g.toInt := hg
      obtain ⟨g14, D⟩ := G v2.toInt.toNat (by omega)
      have eg : g = nl.2.1 14 v2.toInt.toNat := Int32.toInt_inj.mp (GvR_u P (by omega) hg g14)
      rw [← eg] at hlc D
      -- the next output
      have nx : ∀ (m' : Nat) (nl' gr' om' : cf_O) (l : Int32), m ≤ m' → TbS sg N x.2.2.2.1 w c rf en nl' om' → LtS x.2.2.2.1 (b + m') nl' om' → Rg b m' gr' om' → Fr (fr_M [29, 31, 36] [26, 27, 30, 32, 33, 34] []) om om' → Fr (fr_M [] [16] []) nl nl' → Fr (fr_M [2, 3] [4, 5, 6, 8, 9] []) gr gr' → gNl_buildInto f1 0 (v2 + 1) nl' (xp gr' 7 v2.toInt.toNat l) = some rc → gM_build_ f2 1 (v2 + 1) (xp om' 35 v2.toInt.toNat l) = some rm → BoR sg n b m x.2.2.1 gr om rc rm := fun m' nl' gr' om' l mm T' L' R' fo fn fg h1 h2 => by
        have fo2 : Fr (fr_M [29, 31, 36] [26, 27, 30, 32, 33, 34, 35] []) om (xp om' 35 v2.toInt.toNat l) := fr_xp (fr_tr fr_rfl fo rfl rfl rfl) rfl
        have fg2 : Fr (fr_M [2, 3] [4, 5, 6, 7, 8, 9] []) gr (xp gr' 7 v2.toInt.toNat l) := fr_xp (fr_tr fr_rfl fg rfl rfl rfl) rfl
        have T2 : TbS sg N x.2.2.2.1 w c rf en nl' (xp om' 35 v2.toInt.toNat l) := TbS_f T' rfl rfl rfl rfl rfl rfl rfl rfl rfl rfl rfl
        obtain ⟨m3, c1, c2, c3, c4, c5⟩ := bout_go eb eN P x3 NO f1 f2 (v2 + 1) m' nl' (xp gr' 7 v2.toInt.toNat l) (xp om' 35 v2.toInt.toNat l) rc rm T2 L' R' (BdI_f B0 (fr_tr fr_rfl fo2 rfl rfl rfl)) (by rw [fn.1 1 rfl]; exact e1) (fun k hk => by rw [fn.2.1 14 rfl]; exact ⟨(G k hk).1, Dq_c (fo2.2.1 25 rfl) (G k hk).2⟩) (by omega) (by omega) (fun k hk => by
          show upd (gr'.2.1 7) v2.toInt.toNat l k = upd (om'.2.1 35) v2.toInt.toNat l k
          by_cases ek : k = v2.toInt.toNat
          · rw [ek, up_s, up_s]
          · rw [up_o ek, up_o ek, fg.2.1 7 rfl, fo.2.1 35 rfl]; exact hz k (by omega)) h1 h2
        exact ⟨m3, by omega, c2, c3, fr_tr fo2 c4 rfl rfl rfl, fr_tr fg2 c5 rfl rfl rfl⟩
      rw [opk, opk] at q1
      -- who gives the name
      rcases hg with ⟨-, hg⟩ | ⟨i, gi, i1, -⟩ | ⟨j, gj, hj, -⟩
      · exact absurd ⟨v2.toInt.toNat, by omega, hg⟩ NO
      · have i8 := h8.2.1
        have elc := lit_lo (by omega) (show fNl_literalOfD 31 g 0 nl gr = some lc from hlc)
        rw [elc] at q1
        rcases ifc q2 with ⟨_, q2⟩ | ⟨d, _⟩
        · have q2 := b86 (l := 2 * (g + 1)) vi (fun r hr => by
            rcases lit_sp hr with ⟨_, z⟩ | ⟨z, _⟩
            · exact z
            · omega) q2
          exact nx m nl gr om (2 * (g + 1)) (Nat.le_refl m) T L R fr_rfl fr_rfl fr_rfl q1 q2
        · have d : 7 < g.toInt := c_nle d
          omega
      · rcases ifc q2 with ⟨d, _⟩ | ⟨_, q2⟩
        · have d : g.toInt ≤ 7 := c_le d
          omega
        have e8 : (g - 8).toInt = (j : Int) := by rw [i_sub' (by omega) (by omega) (by decide) (by decide), gj, show (8 : Int32).toInt = 8 from rfl]; omega
        have i8 : (g - 8).toNatClampNeg = j := by have := tn_n (g - 8); omega
        have q2 := (ifn q2).2
        rw [i8] at q2
        rcases L j hj with z | z
        · rcases ifc q2 with ⟨_, q2⟩ | ⟨d, _⟩
          · obtain ⟨o5, ho5, q2⟩ := bd q2
            have ho5 := ft_0 ho5
            obtain ⟨n', f', om', G1, G2, G3, G4, G5, G6, G7, G8, G9, G10, G11, G12, G13⟩ := find_sim eb 31 30 g 0 m j 0 nl gr (xp (fp om 29 1) 30 0 (g - 8)) lc cfFU o5 (by omega) hj (by decide) (by omega) (by omega) (Dq_c (om := om) (om' := xp (fp om 29 1) 30 0 (g - 8)) rfl D) (TbS_f T rfl rfl rfl rfl rfl rfl rfl rfl rfl rfl rfl) L R z.1 (by show (1 : Int32).toInt = ((0 : Nat) : Int) + 1; rfl) (by show (upd (om.2.1 30) 0 (g - 8) 0).toInt = _; rw [up_s]; exact e8) hlc ho5
            have eo := ft_e (by rw [G7]; rfl) G13
            subst eo
            have fo : Fr (fr_M [29, 31, 36] [26, 27, 30, 32, 33, 34] []) om o5 := fr_tr (fr_xp (fr_fp fr_rfl rfl) rfl) G9 rfl rfl rfl
            have q2 := b86 (l := lc.1) vi (fun r hr => by
              rcases lit_sp hr with ⟨y, _⟩ | ⟨_, y⟩
              · omega
              · rw [y, i8]; exact G12.symm) q2
            exact nx n' lc.2.1 lc.2.2 o5 lc.1 G1 G3 G4 G2 fo G10 G11 q1 q2
          · exact absurd z.1 d
        · rcases ifc q2 with ⟨d, _⟩ | ⟨_, q2⟩
          · rw [z.1] at d; exact absurd d (by decide)
          · have gj' : (g.toInt - 8).toNat = j := by omega
            have elc := lit_hi (by omega) (by omega) (by rw [gj', z.2.1]; exact z.2.2.1) (show fNl_literalOfD 31 g 0 nl gr = some lc from hlc)
            rw [gj'] at elc
            rw [elc] at q1
            have q2 := b86 (l := nl.2.1 16 j) vi (fun r hr => by
              rcases lit_sp hr with ⟨y, _⟩ | ⟨_, y⟩
              · omega
              · rw [y, i8]; exact z.2.1.symm) q2
            exact nx m nl gr om (nl.2.1 16 j) (Nat.le_refl m) T L R fr_rfl fr_rfl fr_rfl q1 q2
