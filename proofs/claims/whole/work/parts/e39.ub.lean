def FsR (sg : Nat → Int32) (N t b : Nat) (w c : Nat → Nat) (rf : Nat → Nat → Nat) (en : Nat → Int) (n j d : Nat) (nl gr om : cf_O) (rc : Int32 × cf_O × cf_O) (rm : cf_O) : Prop := ∃ (n' f : Nat) (om' : cf_O), n ≤ n' ∧ Rg b n' rc.2.2 om' ∧ TbS sg N t w c rf en rc.2.1 om' ∧ LtS t (b + n') rc.2.1 om' ∧ om'.2.1 27 j = 1 ∧ (∀ i : Nat, om.2.1 27 i = 1 → om'.2.1 27 i = 1) ∧ (om'.1 29).toInt = (d : Int) ∧ (∀ i : Nat, i < d → om'.2.1 30 i = om.2.1 30 i) ∧ Fr (fr_M [29, 31, 36] [26, 27, 30, 32, 33, 34] []) om om' ∧ Fr (fr_M [] [16] []) nl rc.2.1 ∧ Fr (fr_M [2, 3] [4, 5, 6, 8, 9] []) gr rc.2.2 ∧ rc.1 = om'.2.1 26 j ∧ gM_findTable f 0 0 0 0 om' = some rm
theorem TbS_o {sg : Nat → Int32} {N t : Nat} {w c : Nat → Nat} {rf : Nat → Nat → Nat} {en : Nat → Int} {nl om nl' om' : cf_O} (T : TbS sg N t w c rf en nl om) (fo : Fr (fr_M [29, 31, 36] [26, 27, 30, 32, 33, 34] []) om om') (fn : Fr (fr_M [] [16] []) nl nl') : TbS sg N t w c rf en nl' om' := TbS_f T (fo.2.1 1 rfl) (fo.2.1 19 rfl) (fo.2.1 22 rfl) (fo.2.1 23 rfl) (fo.2.1 24 rfl) (fo.2.1 25 rfl) (fn.2.1 8 rfl) (fn.2.1 10 rfl) (fn.2.1 11 rfl) (fn.2.1 12 rfl) (fn.2.1 13 rfl)
def Dq (w : Nat → Nat) (om : cf_O) : Nat → Int → Prop
  | 0, s => s < 8
  | m + 1, s => s < 8 ∨ ∀ k : Nat, k < w (s - 8).toNat → Dq w om m (om.2.1 25 (6 * (s - 8).toNat + k)).toInt
theorem Dq_c {w : Nat → Nat} {om om' : cf_O} (h : om'.2.1 25 = om.2.1 25) : ∀ {m : Nat} {s : Int}, Dq w om m s → Dq w om' m s
  | 0, s, q => q
  | m + 1, s, q => by
    rcases q with q | q
    · exact Or.inl q
    · refine Or.inr (fun k hk => ?_)
      rw [h]; exact Dq_c h (q k hk)
theorem find_loop {sg : Nat → Int32} {N t b : Nat} {w c : Nat → Nat} {rf : Nat → Nat → Nat} {en : Nat → Int} {self : Int32 → Int32 → cf_O → cf_O → Option (Int32 × cf_O × cf_O)} {m : Nat} (eb : b = N + 1)
    (I1 : ∀ (v1 v3 : Int32) (nl gr : cf_O) (rc : Int32 × cf_O × cf_O), v1.toInt < 8 → self v1 v3 nl gr = some rc → rc.2 = (nl, gr))
    (I2 : ∀ (v1 v3 : Int32) (nl gr : cf_O) (rc : Int32 × cf_O × cf_O), 8 ≤ v1.toInt → v1.toInt < 38 → ¬ nl.2.1 16 (v1.toInt - 8).toNat = -1 → self v1 v3 nl gr = some rc → rc.2 = (nl, gr))
    (I3 : ∀ (v1 v3 : Int32) (n j d : Nat) (nl gr om : cf_O) (rc : Int32 × cf_O × cf_O) (f2 : Nat) (rm : cf_O), v1.toInt = 8 + (j : Int) → j < t → v3.toInt = 30 - (m : Int) → Dq w om m v1.toInt → TbS sg N t w c rf en nl om → LtS t (b + n) nl om → Rg b n gr om → om.2.1 27 j = 0 → (om.1 29).toInt = (d : Int) + 1 → d + m ≤ 30 → (om.2.1 30 d).toInt = (j : Int) → self v1 v3 nl gr = some rc → gM_findTable f2 0 0 0 0 om = some rm → FsR sg N t b w c rf en n j d nl gr om rc rm)
    {v3 v4 : Int32} {j d : Nat} (m30 : m < 30) (e3 : v3.toInt = 29 - (m : Int)) (ej : v4.toInt = (j : Int)) (hj : j < t) (hd : d + m ≤ 29) :
    ∀ (f1 : Nat) (v5 : Int32) (n : Nat) (nl gr om : cf_O) (rc : Int32 × cf_O × cf_O) (f2 : Nat) (rm : cf_O), 0 ≤ v5.toInt → v5.toInt ≤ (w j : Int) → (∀ k : Nat, k < w j → Dq w om m (om.2.1 25 (6 * j + k)).toInt) → TbS sg N t w c rf en nl om → LtS t (b + n) nl om → Fddq w om j v5.toInt.toNat → Rg b n gr om → (om.1 29).toInt = (d : Int) + 1 → (om.2.1 30 d).toInt = (j : Int) → gNl_literalOf self f1 0 v3 v4 v5 nl gr = some rc → gM_findTable f2 0 0 0 0 om = some rm → FsR sg N t b w c rf en n j d nl gr om rc rm
  | 0, v5, n, nl, gr, om, rc, f2, rm, k0, k1, D, T, L, F, R, e29, e30, h1, h2 => by cases h1
  | f1 + 1, v5, n, nl, gr, om, rc, f2, rm, k0, k1, D, T, L, F, R, e29, e30, h1, h2 => by
    have T0 := T
    obtain ⟨T1, T2, T3, T4, T5, T6, T7⟩ := T
    obtain ⟨w5, c16, w1, w2, c1, c2⟩ := T4 j hj
    have vi : v4.toNatClampNeg = j := by have := tn_n v4; omega
    have e5 := p_1 (v := v5) k0 (by omega)
    -- the reference, from the pile's top to the end of the look
    have top : ∀ (f2 : Nat) (om : cf_O), TbS sg N t w c rf en nl om → LtS t (b + n) nl om → (om.1 29).toInt = (d : Int) + 1 → (om.2.1 30 d).toInt = (j : Int) → gM_findTable f2 0 0 0 0 om = some rm → ∃ (u : Int32), u.toInt = (j : Int) ∧ SkR w om rm j u := fun f2 om T L e29 e30 h2 => by
      cases f2 with
      | zero => cases h2
      | succ f2 =>
        rcases ifc h2 with ⟨a, _⟩ | ⟨_, h2⟩
        · have a : (om.1 29).toInt ≤ 0 := c_le a
          omega
        have em : ((om.1 29) - 1).toInt = (d : Int) := by rw [i_sub' (by omega) (by omega) (by decide) (by decide), e29, show (1 : Int32).toInt = 1 from rfl]; omega
        have di : ((om.1 29) - 1).toNatClampNeg = d := by have := tn_n ((om.1 29) - 1); omega
        have h2 := (ifn h2).2
        rw [di] at h2
        have h2 := (ifn h2).2
        have ti : (om.2.1 30 d).toNatClampNeg = j := by have := tn_n (om.2.1 30 d); omega
        rw [ti] at h2
        have w1' := (T.2.2.2.1 j hj).2.2.1
        have ex : (om.2.1 19 j - 2).toInt = (w j : Int) - 1 := by rw [Int32.toInt_sub, w1', i_bm (by rw [show (2 : Int32).toInt = 2 from rfl]; omega) (by rw [show (2 : Int32).toInt = 2 from rfl]; omega), show (2 : Int32).toInt = 2 from rfl]; omega
        exact ⟨om.2.1 30 d, e30, seek_go T L e30 hj f2 (-1) (om.2.1 19 j - 2) rm (by omega) (by omega) (Or.inl ⟨rfl, fun k k1 k2 => by omega⟩) h2⟩
    have h1 := (ifn h1).2
    rw [vi] at h1
    rcases ifc h1 with ⟨a, h1⟩ | ⟨a, h1⟩
    · -- all inputs have their literals
      have a := c_le a
      have ew : v5.toInt.toNat = w j := by omega
      rw [ew] at F
      obtain ⟨u, eu, X⟩ := top f2 om T0 L e29 e30 h2
      have X := X.resolve_right (fun ⟨p, f, v, p1, p2, p3, p4, p5, _⟩ => by
        have z := F p p1 p1 (by omega)
        rw [show ((om.2.1 25 (6 * j + p)).toInt - 8).toNat = v.toInt.toNat from by omega, p4] at z
        exact absurd z (by decide))
      obtain ⟨_, f, h2⟩ := X
      have euv : u = v4 := Int32.toInt_inj.mp (by rw [eu, ej])
      rw [euv] at h2
      obtain ⟨q, hq, h2⟩ := bd h2
      obtain ⟨g, hg, h1⟩ := bd h1
      obtain ⟨n', S1, S2, S3, S4, S5, S6, S7⟩ := sum_sim ej hj eb cfFU cfFU 0 0 n gr om g q T0 L F R (by decide) (by rw [show (0 : Int32).toInt = 0 from rfl]; have := R.1.2.2.2.2.2.1; omega) (by decide) (by rw [show (0 : Int32).toInt = 0 from rfl]; omega) hg hq
      have h1 := (ifn h1).2
      rw [opk] at h1
      have h1 := (ifn h1).2
      have h1 : some (op_mx (upd (nl.2.1 16) j g.1 v4.toNatClampNeg) 0, xp nl 16 j g.1, g.2) = some rc := h1
      rw [vi, up_s] at h1
      have emx : op_mx g.1 0 = g.1 := Int32.toInt_inj.mp (by rw [mx_n, S3, show (0 : Int32).toInt = 0 from rfl]; omega)
      rw [emx] at h1
      have erc := (Option.some.inj h1).symm
      subst erc
      have e29' : ((q.2.1 29) - 1).toInt = (d : Int) := by rw [S6.1 29 rfl, i_sub' (by omega) (by omega) (by decide) (by decide), e29, show (1 : Int32).toInt = 1 from rfl]; omega
      refine ⟨n', f, fp (xp (xp q.2 26 j q.1) 27 j 1) 29 ((q.2.1 29) - 1), S1, ?_, ?_, fun i hi => ?_, ?_, fun i hi => ?_, e29', fun i hi => ?_, ?_, fr_xp fr_rfl rfl, S7, ?_, h2⟩
      · exact S2
      · refine TbS_f T0 (S6.2.1 1 rfl) (S6.2.1 19 rfl) (S6.2.1 22 rfl) (S6.2.1 23 rfl) (S6.2.1 24 rfl) (S6.2.1 25 rfl) rfl rfl rfl rfl rfl
      · show (upd (q.2.2.1 27) j 1 i = 0 ∧ upd (nl.2.1 16) j g.1 i = -1) ∨ (upd (q.2.2.1 27) j 1 i = 1 ∧ upd (nl.2.1 16) j g.1 i = upd (q.2.2.1 26) j q.1 i ∧ 0 ≤ (upd (q.2.2.1 26) j q.1 i).toInt ∧ (upd (q.2.2.1 26) j q.1 i).toInt < 2 * ((b + n' : Nat) : Int))
        by_cases ei : i = j
        · rw [ei, up_s, up_s, up_s]
          exact Or.inr ⟨rfl, S3, S4, S5⟩
        · rw [up_o ei, up_o ei, up_o ei, S6.2.1 27 rfl, S6.2.1 26 rfl]
          rcases L i hi with z | z
          · exact Or.inl z
          · exact Or.inr ⟨z.1, z.2.1, z.2.2.1, by have := z.2.2.2; omega⟩
      · show upd (q.2.2.1 27) j 1 j = 1
        rw [up_s]
      · show upd (q.2.2.1 27) j 1 i = 1
        by_cases ei : i = j
        · rw [ei, up_s]
        · rw [up_o ei, S6.2.1 27 rfl]; exact hi
      · show q.2.2.1 30 i = om.2.1 30 i
        rw [S6.2.1 30 rfl]
      · exact fr_fp (fr_xp (fr_xp (fr_tr fr_rfl S6 rfl rfl rfl) rfl) rfl) rfl
      · show g.1 = upd (q.2.2.1 26) j q.1 j
        rw [up_s]; exact S3
    · -- one more input
      have a := c_nle a
      have m6 : (v4 * 6).toInt = 6 * (j : Int) := by rw [Int32.toInt_mul, ej, i_bm (by rw [show (6 : Int32).toInt = 6 from rfl]; omega) (by rw [show (6 : Int32).toInt = 6 from rfl]; omega), show (6 : Int32).toInt = 6 from rfl]; omega
      have m7 : (v4 * 6 + v5).toInt = 6 * (j : Int) + v5.toInt := by rw [Int32.toInt_add, m6, i_bm (by omega) (by omega)]
      have mi : (v4 * 6 + v5).toNatClampNeg = 6 * j + v5.toInt.toNat := by have := tn_n (v4 * 6 + v5); omega
      have h1 := (ifn h1).2
      rw [mi] at h1
      obtain ⟨q, hq, h1⟩ := bd h1
      obtain ⟨s1, s2⟩ := T6 j v5.toInt.toNat hj (by omega)
      rw [← s1] at hq
      have e31 : (v3 + 1).toInt = 30 - (m : Int) := by rw [p_1 (by omega) (by omega)]; omega
      have Dk := D v5.toInt.toNat (by omega)
      -- nothing changes, where the literal is there
      have ide : q.2 = (nl, gr) → (8 ≤ (om.2.1 25 (6 * j + v5.toInt.toNat)).toInt → om.2.1 27 ((om.2.1 25 (6 * j + v5.toInt.toNat)).toInt - 8).toNat = 1) → FsR sg N t b w c rf en n j d nl gr om rc rm := fun eq fd => by
        have h1 : gNl_literalOf self f1 0 v3 v4 (v5 + 1) q.2.1 q.2.2 = some rc := h1
        rw [eq] at h1
        refine find_loop eb I1 I2 I3 m30 e3 ej hj hd f1 (v5 + 1) n nl gr om rc f2 rm (by omega) (by omega) D T0 L (fun k k1 k2 k3 => ?_) R e29 e30 h1 h2
        by_cases ek : k = v5.toInt.toNat
        · rw [ek] at k3 ⊢; exact fd k3
        · exact F k (by omega) k2 k3
      by_cases lo : (om.2.1 25 (6 * j + v5.toInt.toNat)).toInt < 8
      · exact ide (I1 _ _ _ _ _ lo hq) (fun z => by omega)
      · have s2 := s2.resolve_left (by omega)
        rcases L ((om.2.1 25 (6 * j + v5.toInt.toNat)).toInt - 8).toNat (by omega) with z | z
        · -- a table that is wanting
          obtain ⟨u, eu, ⟨F2, _⟩ | ⟨p, f, v, p1, p2, p3, p4, p5, h2'⟩⟩ := top f2 om T0 L e29 e30 h2
          · have y := F2 v5.toInt.toNat (by omega) (by omega) (by omega)
            rw [z.1] at y; exact absurd y (by decide)
          have ep : p = v5.toInt.toNat := by
            rcases Nat.lt_trichotomy p v5.toInt.toNat with l | l | l
            · have y := F p l p1 (by omega)
              rw [show ((om.2.1 25 (6 * j + p)).toInt - 8).toNat = v.toInt.toNat from by omega, p4] at y
              exact absurd y (by decide)
            · exact l
            · have y := p5 v5.toInt.toNat l (by omega) (by omega)
              rw [z.1] at y; exact absurd y (by decide)
          subst ep
          have oi : (om.1 29).toNatClampNeg = d + 1 := by have := tn_n (om.1 29); omega
          rw [oi] at h2'
          have vj : v.toInt.toNat < t := by omega
          have m1 : 1 ≤ m := by
            cases m with
            | zero =>
              have Dk : (om.2.1 25 (6 * j + v5.toInt.toNat)).toInt < 8 := Dk
              omega
            | succ m => omega
          have e29n : ((om.1 29) + 1).toInt = ((d + 1 : Nat) : Int) + 1 := by rw [p_1 (by omega) (by omega), e29]; omega
          obtain ⟨n', f', om', G1, G2, G3, G4, G5, G6, G7, G8, G9, G10, G11, G12, G13⟩ := I3 (om.2.1 25 (6 * j + v5.toInt.toNat)) (v3 + 1) n v.toInt.toNat (d + 1) nl gr (fp (xp om 30 (d + 1) v) 29 ((om.1 29) + 1)) q f rm (by omega) vj e31 (Dq_c (om := om) (om' := fp (xp om 30 (d + 1) v) 29 ((om.1 29) + 1)) rfl Dk) (TbS_f T0 rfl rfl rfl rfl rfl rfl rfl rfl rfl rfl rfl) L R p4 e29n (by omega) (by show (upd (om.2.1 30) (d + 1) v (d + 1)).toInt = _; rw [up_s]; omega) hq h2'
          have fo : Fr (fr_M [29, 31, 36] [26, 27, 30, 32, 33, 34] []) om om' := fr_tr (fr_fp (fr_xp fr_rfl rfl) rfl) G9 rfl rfl rfl
          have e30' : om'.2.1 30 d = om.2.1 30 d := by
            rw [G8 d (by omega)]
            exact up_o (f := om.2.1 30) (by omega)
          obtain ⟨n3, f3, om3, H1, H2, H3, H4, H5, H6, H7, H8, H9, H10, H11, H12, H13⟩ := find_loop eb I1 I2 I3 m30 e3 ej hj hd f1 (v5 + 1) n' q.2.1 q.2.2 om' rc f' rm (by omega) (by omega) (fun k hk => by rw [fo.2.1 25 rfl]; exact Dq_c (fo.2.1 25 rfl) (D k hk)) G3 G4 (fun k k1 k2 k3 => by
            rw [fo.2.1 25 rfl] at k3 ⊢
            by_cases ek : k = v5.toInt.toNat
            · rw [ek, show ((om.2.1 25 (6 * j + v5.toInt.toNat)).toInt - 8).toNat = v.toInt.toNat from by omega]; exact G5
            · exact G6 _ (F k (by omega) k2 k3)) G2 (by rw [G7]; omega) (by rw [e30']; exact e30) h1 G13
          exact ⟨n3, f3, om3, by omega, H2, H3, H4, H5, fun i hi => H6 i (G6 i hi), H7, fun i hi => by rw [H8 i hi, G8 i (by omega)]; exact up_o (f := om.2.1 30) (by omega), fr_tr fo H9 rfl rfl rfl, fr_tr G10 H10 rfl rfl rfl, fr_tr G11 H11 rfl rfl rfl, H12, H13⟩
        · refine ide (I2 _ _ _ _ _ (by omega) (by omega) ?_ hq) (fun _ => z.1)
          rw [z.2.1]
          exact fun y => by rw [y] at z; exact absurd z.2.2.1 (by decide)
theorem self_0 {d : Nat} {v1 v3 : Int32} {nl gr : cf_O} {rc : Int32 × cf_O × cf_O} (h8 : v1.toInt < 8) (h : fNl_literalOfD d v1 v3 nl gr = some rc) : rc.2 = (nl, gr) := by
  cases d with
  | zero => cases h
  | succ d =>
    rcases ifc (show (if (8 : Int32) ≤ v1 then _ else _) = some rc from h) with ⟨a, _⟩ | ⟨_, h⟩
    · have a : 8 ≤ v1.toInt := c_le a
      omega
    · rw [← Option.some.inj h]
theorem self_1 {d : Nat} {v1 v3 : Int32} {nl gr : cf_O} {rc : Int32 × cf_O × cf_O} (h8 : 8 ≤ v1.toInt) (h38 : v1.toInt < 38) (hn : ¬ nl.2.1 16 (v1.toInt - 8).toNat = -1) (h : fNl_literalOfD d v1 v3 nl gr = some rc) : rc.2 = (nl, gr) := by
  cases d with
  | zero => cases h
  | succ d =>
    rcases ifc (show (if (8 : Int32) ≤ v1 then _ else _) = some rc from h) with ⟨_, h⟩ | ⟨a, _⟩
    · have e8 : (v1 - 8).toInt = v1.toInt - 8 := i_sub' (by omega) (by omega) (by decide) (by decide)
      have i8 : (v1 - 8).toNatClampNeg = (v1.toInt - 8).toNat := by have := tn_n (v1 - 8); omega
      have h := (ifn h).2
      rw [i8] at h
      rcases ifc h with ⟨a, _⟩ | ⟨_, h⟩
      · exact absurd a hn
      · have h := (ifn h).2
        rw [← Option.some.inj h]
    · have a : v1.toInt < 8 := c_nle a
      omega
theorem find_sim {sg : Nat → Int32} {N t b : Nat} {w c : Nat → Nat} {rf : Nat → Nat → Nat} {en : Nat → Int} (eb : b = N + 1) : ∀ (dd m : Nat) (v1 v3 : Int32) (n j d : Nat) (nl gr om : cf_O) (rc : Int32 × cf_O × cf_O) (f2 : Nat) (rm : cf_O), v1.toInt = 8 + (j : Int) → j < t → v3.toInt = 30 - (m : Int) → m ≤ 30 → d + m ≤ 30 → Dq w om m v1.toInt → TbS sg N t w c rf en nl om → LtS t (b + n) nl om → Rg b n gr om → om.2.1 27 j = 0 → (om.1 29).toInt = (d : Int) + 1 → (om.2.1 30 d).toInt = (j : Int) → fNl_literalOfD dd v1 v3 nl gr = some rc → gM_findTable f2 0 0 0 0 om = some rm → FsR sg N t b w c rf en n j d nl gr om rc rm
  | 0, m, v1, v3, n, j, d, nl, gr, om, rc, f2, rm, e1, hj, e3, m30, hd, D, T, L, R, uj, e29, e30, h1, h2 => by cases h1
  | dd + 1, 0, v1, v3, n, j, d, nl, gr, om, rc, f2, rm, e1, hj, e3, m30, hd, D, T, L, R, uj, e29, e30, h1, h2 => by
    have D : v1.toInt < 8 := D
    omega
  | dd + 1, m + 1, v1, v3, n, j, d, nl, gr, om, rc, f2, rm, e1, hj, e3, m30, hd, D, T, L, R, uj, e29, e30, h1, h2 => by
    have t30 := T.2.1
    have D : v1.toInt < 8 ∨ ∀ k : Nat, k < w (v1.toInt - 8).toNat → Dq w om m (om.2.1 25 (6 * (v1.toInt - 8).toNat + k)).toInt := D
    have D := D.resolve_left (by omega)
    rw [show (v1.toInt - 8).toNat = j from by omega] at D
    have h1 := ift (show (if (8 : Int32) ≤ v1 then _ else _) = some rc from h1) (Int32.le_iff_toInt_le.mpr (by show (8 : Int) ≤ v1.toInt; omega))
    have e8 : (v1 - 8).toInt = (j : Int) := by rw [i_sub' (by omega) (by omega) (by decide) (by decide), e1, show (8 : Int32).toInt = 8 from rfl]; omega
    have i8 : (v1 - 8).toNatClampNeg = j := by have := tn_n (v1 - 8); omega
    have h1 := (ifn h1).2
    rw [i8] at h1
    have l1 : nl.2.1 16 j = -1 := by
      rcases L j hj with z | z
      · exact z.2
      · rw [z.1] at uj; exact absurd uj (by decide)
    have h1 := ift h1 l1
    rcases ifc h1 with ⟨a, _⟩ | ⟨_, h1⟩
    · have a : 30 ≤ v3.toInt := c_le a
      omega
    refine find_loop (self := fNl_literalOfD dd) (m := m) (d := d) eb (fun _ _ _ _ _ q h => self_0 q h) (fun _ _ _ _ _ q1 q2 q3 h => self_1 q1 q2 q3 h) (fun v1 v3 n j d' nl gr om rc f2 rm x1 x2 x3 x4 x5 x6 x7 x8 x9 x10 x11 x12 x13 => ?_) (by omega) (by omega) e8 hj (by omega) cfFU 0 n nl gr om rc f2 rm (by decide) (by rw [show (0 : Int32).toInt = 0 from rfl]; omega) D T L (fun k k1 => absurd k1 (by rw [show (0 : Int32).toInt = 0 from rfl]; exact Nat.not_lt_zero k)) R e29 e30 h1 h2
    exact find_sim eb dd m v1 v3 n j d' nl gr om rc f2 rm x1 x2 (by omega) (by omega) x10 x4 x5 x6 x7 x8 x9 x11 x12 x13
