theorem mw_14 {rc : Nat → Int32 → cf_O → cf_O → cf_O → cf_O → cf_O → Option (cf_O × cf_O × cf_O)} {v5 : Int32} {re gr gt cu co : cf_O} {r : cf_O × cf_O × cf_O} (h : fRe_makeRewritten_14 rc v5 re gr gt cu co = some r) : ∃ z : Int32, fGr_size gr = some z ∧ ((z.toInt ≤ v5.toInt ∧ ∃ u : cf_O, fRe_takeResults re gr gt = some u ∧ r = (re, u, co)) ∨ (v5.toInt < z.toInt ∧ ((re.2.1 0 v5.toNatClampNeg = 0 ∧ rc 0 (v5 + 1) re gr gt cu co = some r) ∨ (¬ re.2.1 0 v5.toNatClampNeg = 0 ∧ ∃ (bo : Int64) (cn sm : cf_O) (cost : Int32) (fb : Int32 × cf_O), fCu_bestOf v5 cu = some bo ∧ fCo_find v5 bo co gr = some cn ∧ fRe_findSum (cn.1 1) (cn.1 0) re = some sm ∧ fRe_sumCost sm = some cost ∧ fRe_freedBy v5 sm gr cn = some fb ∧ ((fb.1.toInt ≤ cost.toInt ∧ ∃ q : Int32 × cf_O, fRe_freshAnd v5 fb.2 gr gt = some q ∧ rc 0 (v5 + 1) (xp fb.2 4 v5.toNatClampNeg q.1) gr q.2 cu cn = some r) ∨ (cost.toInt < fb.1.toInt ∧ ∃ q : Int32 × cf_O, fRe_freshSum fb.2 gt cn = some q ∧ rc 0 (v5 + 1) (xp fb.2 4 v5.toNatClampNeg q.1) gr q.2 cu cn = some r)))))) := by
  have k113 : ∀ (s : Int32) (re gt cn : cf_O), fRe_makeRewritten_113 rc v5 v5 s re gr gt cu cn = some r → rc 0 (v5 + 1) (xp re 4 v5.toNatClampNeg s) gr gt cu cn = some r := fun s re gt cn z => by
    unfold fRe_makeRewritten_113 at z
    have z := (ifn z).2
    rw [opk] at z
    exact z
  unfold fRe_makeRewritten_14 at h
  obtain ⟨z, hz, h⟩ := bd h
  refine ⟨z, hz, ?_⟩
  rcases ifc h with ⟨a, h⟩ | ⟨a, h⟩
  · obtain ⟨u, hu, h⟩ := bd h
    exact Or.inl ⟨c_le a, u, hu, (Option.some.inj h).symm⟩
  · refine Or.inr ⟨c_nle a, ?_⟩
    have h := (ifn h).2
    rw [opk] at h
    rcases ifc h with ⟨c, h⟩ | ⟨c, h⟩
    · exact Or.inl ⟨c, h⟩
    · obtain ⟨bo, hbo, h⟩ := bd h
      obtain ⟨cn, hcn, h⟩ := bd h
      obtain ⟨sm, hsm, h⟩ := bd h
      obtain ⟨cost, hco, h⟩ := bd h
      obtain ⟨fb, hfb, h⟩ := bd h
      refine Or.inr ⟨c, bo, cn, sm, cost, fb, hbo, hcn, hsm, hco, hfb, ?_⟩
      rcases ifc h with ⟨d, h⟩ | ⟨d, h⟩
      · unfold fRe_makeRewritten_82 at h
        rw [if_pos rfl] at h
        obtain ⟨q, hq, h⟩ := bd h
        exact Or.inl ⟨c_le d, q, hq, k113 _ _ _ _ h⟩
      · unfold fRe_makeRewritten_82 at h
        rw [if_neg (by decide)] at h
        obtain ⟨q, hq, h⟩ := bd h
        exact Or.inr ⟨c_nle d, q, hq, k113 _ _ _ _ h⟩
def FinA (om : cf_O) (r : Int32 × cf_O) : Prop := ∃ q : Int32 × cf_O, fM_finish om = some q ∧ (((q.2.1 0).toInt ≤ 0 ∧ r = q) ∨ (0 < (q.2.1 0).toInt ∧ ∃ u : cf_O, fM_again q.2 = some u ∧ r = (q.1, u)))
theorem rw_63 {rc : Nat → Int32 → cf_O → Option (Int32 × cf_O)} {v1 : Int32} {om : cf_O} {r : Int32 × cf_O} (h : fM_rewrite_63 rc v1 om = some r) : ((om.1 43).toInt ≤ v1.toInt ∧ FinA om r) ∨ (v1.toInt < (om.1 43).toInt ∧ ∃ q : Int32, fM_base om = some q ∧ ((om.2.1 49 (q + v1).toNatClampNeg = 0 ∧ rc 0 (v1 + 1) om = some r) ∨ (¬ om.2.1 49 (q + v1).toNatClampNeg = 0 ∧ ∃ t s f : Int32 × cf_O, fM_table (q + v1) om = some t ∧ fM_sum t.1 (t.2.2.1 59 (om.2.1 63 (q + v1).toNatClampNeg).toNatClampNeg) t.2 = some s ∧ fM_freed (q + v1) s.2 = some f ∧ ((f.1.toInt ≤ s.1.toInt ∧ ∃ a : Int32 × cf_O, fM_and (f.2.2.1 51 (f.2.2.1 44 v1.toNatClampNeg / 2).toNatClampNeg ^^^ (f.2.2.1 44 v1.toNatClampNeg &&& 1)) (f.2.2.1 51 (f.2.2.1 45 v1.toNatClampNeg / 2).toNatClampNeg ^^^ (f.2.2.1 45 v1.toNatClampNeg &&& 1)) f.2 = some a ∧ rc 0 (v1 + 1) (xp a.2 51 (q + v1).toNatClampNeg a.1) = some r) ∨ (s.1.toInt < f.1.toInt ∧ ∃ a : Int32 × cf_O, fM_build_I (om.2.1 63 (q + v1).toNatClampNeg) f.2 = some a ∧ rc 0 (v1 + 1) (xp a.2 51 (q + v1).toNatClampNeg a.1) = some r))))) := by
  unfold fM_rewrite_63 at h
  rcases ifc h with ⟨a, h⟩ | ⟨a, h⟩
  · obtain ⟨q, hq, h⟩ := bd h
    refine Or.inl ⟨c_le a, q, hq, ?_⟩
    rcases ifc h with ⟨c, h⟩ | ⟨c, h⟩
    · exact Or.inl ⟨c_le c, (Option.some.inj h).symm⟩
    · obtain ⟨u, hu, h⟩ := bd h
      exact Or.inr ⟨c_nle c, u, hu, (Option.some.inj h).symm⟩
  · obtain ⟨q, hq, h⟩ := bd h
    refine Or.inr ⟨c_nle a, q, hq, ?_⟩
    rw [opk] at h
    have h := (ifn h).2
    rw [opk] at h
    rcases ifc h with ⟨c, h⟩ | ⟨c, h⟩
    · exact Or.inl ⟨c, h⟩
    · have h := (ifn h).2
      rw [opk] at h
      obtain ⟨t, ht, h⟩ := bd h
      have h := (ifn h).2
      rw [opk] at h
      obtain ⟨s, hs, h⟩ := bd h
      obtain ⟨f, hf, h⟩ := bd h
      refine Or.inr ⟨c, t, s, f, ht, hs, hf, ?_⟩
      have k197 : ∀ (x : Int32) (o : cf_O), fM_rewrite_197 rc v1 (q + v1) x o = some r → rc 0 (v1 + 1) (xp o 51 (q + v1).toNatClampNeg x) = some r := fun x o z => by
        unfold fM_rewrite_197 at z
        have z := (ifn z).2
        rw [opk] at z
        exact z
      rcases ifc h with ⟨d, h⟩ | ⟨d, h⟩
      · unfold fM_rewrite_129 at h
        rw [if_pos rfl] at h
        have h := (ifn h).2
        rw [opk, opk] at h
        have h := (ifn h).2
        rw [opk] at h
        have h := (ifn h).2
        rw [opk, opk, opk] at h
        have h := (ifn h).2
        rw [opk, opk] at h
        have h := (ifn h).2
        rw [opk] at h
        have h := (ifn h).2
        rw [opk, opk, opk] at h
        obtain ⟨a, ha, h⟩ := bd h
        exact Or.inl ⟨c_le d, a, ha, k197 _ _ h⟩
      · unfold fM_rewrite_129 at h
        rw [if_neg (by decide)] at h
        obtain ⟨a, ha, h⟩ := bd h
        exact Or.inr ⟨c_nle d, a, ha, k197 _ _ h⟩
theorem TbQ_nn {s : Nat} {t : Int32} (hs : s < 5) (h : TbQ s t) : 0 ≤ t.toInt := by
  have z := h 31 (by decide) (by have := (pw4 hs).1; omega)
  unfold bt at z
  rw [Nat.testBit_eq_decide_div_mod_eq] at z
  have z := of_decide_eq_false z
  have l := t.toBitVec.isLt
  have e : t.toInt = if 2 * t.toBitVec.toNat < 2 ^ 32 then (t.toBitVec.toNat : Int) else (t.toBitVec.toNat : Int) - ((2 ^ 32 : Nat) : Int) := BitVec.toInt_eq_toNat_cond t.toBitVec
  generalize t.toBitVec.toNat = N at z l e
  rw [show (2 : Nat) ^ 31 = 2147483648 from by decide] at z
  rw [show (2 : Nat) ^ 32 = 4294967296 from by decide] at e l
  rw [if_pos (by omega)] at e
  omega
theorem frd_same {b n g : Nat} {C : List Int} {gr co : cf_O} {B : Nat → Bool} {us ut : Nat → Int32} (G : GW b n gr) (hg : g < b + n) (hc : CvG b gr C g) (gC : ¬ (g : Int) ∈ C) (T : BtS gr C g (fun k => co.2.1 3 k = 1)) (T2 : BtS gr C g (fun k => B k = true)) (hu : ∀ k : Nat, k < b + n → us k = ut k) : frB (fun k => decide (co.2.1 3 k = 1)) gr us (g + 1) g = frB B gr ut (b + n) g := by
  have G0 := G.1
  have ee : ∀ k : Nat, k < 209 → decide (co.2.1 3 k = 1) = B k := fun k hk => by
    have z := BtS_u (show g < 209 by omega) T T2 (g + 1) k (by omega) hk
    cases w : B k with
    | true => exact decide_eq_true (z.mpr w)
    | false => exact decide_eq_false (fun q => by rw [z.mp q] at w; cases w)
  refine frB_e g (fun k hk => ⟨ee k (by omega), ?_, hu k (by omega)⟩)
  rw [cnB_e (g + 1) (fun p hp => ee p (by omega))]
  have z := cnB_hi (B := B) (gr := gr) (k := k) (N := g + 1) (b + n - (g + 1)) (fun p p1 p2 => by
    cases w : B p with
    | false => rfl
    | true =>
      have := (BtS_c G hg hc gC T2 (g + 1) p (by omega) (by omega) w).2.1
      omega)
  rw [show g + 1 + (b + n - (g + 1)) = b + n by omega] at z
  exact z.symm
def RwK (b n : Nat) (gr cu OM : cf_O) : Prop := CutS b n 4 cu OM ∧ (∀ k j : Nat, k < b + n → (j : Int) < (OM.2.1 57 k).toInt → CvG b gr (cutL (OM.2.1 59) (OM.2.1 58) (301 * k + j)) k) ∧ Cz ((b : Int) + (n : Int)) (b : Int) (n : Int) (OM.2.1 44) (OM.2.1 45) (OM.2.1 57) (OM.2.1 59) (OM.2.1 58)
abbrev fRw : fr_S := fr_M [31, 36, 70] [32, 33, 34, 51, 68, 69, 75] []
def RwC (b n m : Nat) (gr GT OM : cf_O) (rc : cf_O × cf_O × cf_O) (rm : Int32 × cf_O) : Prop := ∃ (m' : Nat) (gt' om' : cf_O), m ≤ m' ∧ BrC b n gr rc.1 om' ∧ FqR b n (b + m') rc.1 om' ∧ Rg b m' gt' om' ∧ Fr fRw OM om' ∧ Fr (fr_M [2, 3] [4, 5, 6, 8, 9] []) GT gt' ∧ fRe_takeResults rc.1 gr gt' = some rc.2.1 ∧ PbI rc.1 ∧ FinA om' rm
theorem rwg_go {b n : Nat} {gr cu GT OM : cf_O} (K : RwK b n gr cu OM) : ∀ (f1 f2 : Nat) (v5 v1 : Int32) (g m : Nat) (re gt om co : cf_O) (rc : cf_O × cf_O × cf_O) (rm : Int32 × cf_O), v1.toInt = (g : Int) → g ≤ n → v5.toInt = ((b + g : Nat) : Int) → BrC b n gr re om → FqR b g (b + m) re om → Rg b m gt om → PbI re → Fr fRw OM om → Fr (fr_M [2, 3] [4, 5, 6, 8, 9] []) GT gt → gRe_makeRewritten f1 0 v5 re gr gt cu co = some rc → gM_rewrite f2 0 v1 om = some rm → RwC b n m gr GT OM rc rm := by
  intro f1
  induction f1 with
  | zero => intro f2 v5 v1 g m re gt om co rc rm e1 gn e5 B F R P fo fg q1 q2; cases q1
  | succ f1 ih =>
    intro f2 v5 v1 g m re gt om co rc rm e1 gn e5 B F R P fo fg q1 q2
    cases f2 with
    | zero => cases q2
    | succ f2 =>
    have q1 : fRe_makeRewritten_14 (gRe_makeRewritten f1) v5 re gr gt cu co = some rc := q1
    have q2 : fM_rewrite_63 (gM_rewrite f2) v1 om = some rm := q2
    have B0 := B
    obtain ⟨G, R0, N, LK⟩ := B
    have G0 := G.1
    have n43 := R0.1.1
    obtain ⟨z, hz, q1⟩ := mw_14 q1
    have ez := size_sp G hz
    rcases q1 with ⟨a, u, hu, er⟩ | ⟨a, q1⟩
    · rcases rw_63 q2 with ⟨_, q2⟩ | ⟨d, _⟩
      · have eg : g = n := by omega
        subst eg; subst er
        exact ⟨m, gt, om, Nat.le_refl m, B0, F, R, fo, fg, hu, P, q2⟩
      · omega
    · rcases rw_63 q2 with ⟨d, _⟩ | ⟨d, q, hq, q2⟩
      · omega
      have eb := base_sp R0 hq
      have eqv : (q + v1).toInt = ((b + g : Nat) : Int) := by rw [Int32.toInt_add, eb, i_bm (by omega) (by omega)]; omega
      generalize q + v1 = v2 at q2 eqv
      rw [tW eqv] at q2
      rw [tW e5] at q1
      have p5 := p_1 (v := v5) (by omega) (by omega)
      have p1 := p_1 (v := v1) (by omega) (by omega)
      have nb := N (b + g) (by omega)
      -- the next gate
      have nx : ∀ (m' : Nat) (re' gt' om' co' : cf_O) (s : Int32), m ≤ m' → Rg b m' gt' om' → Fr fRw om om' → Fr (fr_M [2, 3] [4, 5, 6, 8, 9] []) gt gt' → Fr (fr_M [11] [2, 10] []) re re' → om'.2.1 51 = om.2.1 51 → 0 ≤ s.toInt → s.toInt < 2 * ((b + m' : Nat) : Int) → gRe_makeRewritten f1 0 (v5 + 1) (xp re' 4 (b + g) s) gr gt' cu co' = some rc → gM_rewrite f2 0 (v1 + 1) (xp om' 51 (b + g) s) = some rm → RwC b n m gr GT OM rc rm := fun m' re' gt' om' co' s mm R' fo' fg' fr' h51 s0 s1 h1 h2 => by
        have fom : Fr fRw om (xp om' 51 (b + g) s) := fr_xp fo' rfl
        obtain ⟨m3, gt3, om3, D1, D2, D3, D4, D5, D6, D7⟩ := ih f2 (v5 + 1) (v1 + 1) (g + 1) m' (xp re' 4 (b + g) s) gt' (xp om' 51 (b + g) s) co' rc rm (by omega) (by omega) (by omega) (BrC_f B0 (fr'.2.1 0 rfl) (fr'.2.1 1 rfl) (fom.1 39 rfl) (fom.1 40 rfl) (fom.1 43 rfl) (fom.2.1 44 rfl) (fom.2.1 45 rfl) (fom.2.1 46 rfl) (fom.2.1 47 rfl) (fom.2.1 48 rfl) (fom.2.1 49 rfl)) (fun k hk hc => by
          show upd (om'.2.1 51) (b + g) s k = upd (re'.2.1 4) (b + g) s k ∧ 0 ≤ (upd (re'.2.1 4) (b + g) s k).toInt ∧ (upd (re'.2.1 4) (b + g) s k).toInt < 2 * ((b + m' : Nat) : Int)
          have hc : k < b ∨ ¬ re'.2.1 0 k = 0 := hc
          rw [fr'.2.1 0 rfl] at hc
          by_cases ek : k = b + g
          · rw [ek, up_s, up_s]; exact ⟨rfl, s0, s1⟩
          · have fk := F k (by omega) hc
            rw [up_o ek, up_o ek, h51, fr'.2.1 4 rfl]; exact ⟨fk.1, fk.2.1, by have := fk.2.2; omega⟩) (Rg_f R' rfl rfl rfl rfl rfl rfl) (fun p hp => by
          show re'.2.1 8 p = _ ∧ re'.2.1 9 p = _
          rw [fr'.2.1 8 rfl, fr'.2.1 9 rfl]; exact P p hp) (fr_tr fo fom rfl rfl rfl) (fr_tr fg fg' rfl rfl rfl) h1 h2
        exact ⟨m3, gt3, om3, by omega, D2, D3, D4, D5, D6, D7⟩
      rcases q1 with ⟨c, q1⟩ | ⟨c, bo, cn, sm, cost, fb, hbo, hcn, hsm, hco, hfb, q1⟩
      · -- not needed
        rcases q2 with ⟨_, q2⟩ | ⟨y, _⟩
        · refine ih f2 (v5 + 1) (v1 + 1) (g + 1) m re gt om co rc rm (by omega) (by omega) (by omega) B0 (fun k hk hc => ?_) R P fo fg q1 q2
          by_cases ek : k = b + g
          · rw [ek] at hc
            rcases hc with hc | hc
            · omega
            · exact absurd c hc
          · exact F k (by omega) hc
        · rw [nb.1] at y; exact absurd c y
      · rcases q2 with ⟨y, _⟩ | ⟨_, t, s, f, ht, hs, hf, q2⟩
        · rw [nb.1] at y; exact absurd y c
        -- the cut
        obtain ⟨K1, K2, K3⟩ := K
        obtain ⟨l, cc, l1, l2, l3, l4, l5, l6, l7, j, l8, l9⟩ := K1 (b + g) v5 bo (by omega) (by omega) e5 hbo
        have cov : CvG b gr (upL l) (b + g) := by
          have y := K2 (b + g) j (by omega) l8
          rw [← l9, l7] at y; exact y
        have gC : ¬ ((b + g : Nat) : Int) ∈ upL l := fun y => by
          have := Fall_lt l2 (up_n.mp y); omega
        have ul : (upL l).length = l.length := up_l
        have sdl := up_sd l2
        obtain ⟨W, hV⟩ := CV_ex (C := upL l) G sdl
        obtain ⟨⟨o1, o2, o3, o4⟩, o5⟩ := cone_sp G (by omega) l1 l2 (by omega) (by omega) cov hV e5 hcn
        -- the reference's table
        have e63 : (om.2.1 63 (b + g)).toInt = (cc : Int) := by rw [fo.2.1 63 rfl]; exact l5
        have hC : CtM cc (upL l) om := by
          refine ⟨l6, by rw [fo.2.1 59 rfl, fo.2.1 58 rfl]; exact l7, ?_, by omega⟩
          have y := cutL_len (om.2.1 59) (om.2.1 58) cc
          rw [fo.2.1 59 rfl, fo.2.1 58 rfl, l7] at y
          rw [fo.2.1 59 rfl]; omega
        obtain ⟨t1, t2⟩ := table_sp G R0 hV (by omega) eqv e63 hC ht
        have et : t.1 = cn.1 1 := bt_e (fun i hi => by rw [t1 i hi, o3 i hi])
        have s5 : l.length < 5 := by omega
        have TB : TbQ l.length (cn.1 1) := fun i hi h2 => by
          rw [o3 i hi, ul, decide_eq_false (by omega)]; rfl
        -- the sums
        have e59 : (t.2.2.1 59 (om.2.1 63 (b + g)).toNatClampNeg).toInt = (l.length : Int) := by
          rw [tW e63, t2.2.1 59 rfl, hC.2.2.1, ul]
        obtain ⟨s1, s2, s3, s4⟩ := msum_sp s5 e59 (by rw [et]; exact TbQ_nn s5 TB) hs
        rw [et] at s1 s2 s4
        obtain ⟨c1, c2⟩ := fsum_sp s5 (by rw [o1, ul]) TB P hsm
        have P1 : PbI sm := fun p hp => by rw [c2.2.1 8 rfl, c2.2.1 9 rfl]; exact P p hp
        have ln : (smN l.length (bt (cn.1 1)) (2 ^ l.length) 0 []).length ≤ 16 := by
          have := smN_l (s := l.length) (T := bt (cn.1 1)) (2 ^ l.length) 0 []
          have z0 : ([] : List Nat).length = 0 := rfl
          have := (pw4 s5).1
          omega
        have cost1 := scost_sp s5 P1 c1 s4 ln hco
        -- what is freed
        obtain ⟨z0, hz0⟩ : ∃ y : Nat, (upL l)[0]? = some (y : Int) := by
          obtain ⟨x, hx⟩ : ∃ x, l[l.length - 1 - 0]? = some x := ⟨l[l.length - 1 - 0], List.getElem?_eq_getElem (by omega)⟩
          exact ⟨x, by rw [up_g (by omega), hx]; rfl⟩
        have zm : ∀ y ∈ upL l, (z0 : Int) ≤ y := fun y hy => by
          obtain ⟨j, hj⟩ := List.mem_iff_getElem?.mp hy
          by_cases j0 : j = 0
          · rw [j0, hz0] at hj
            have := Option.some.inj hj; omega
          · have := sd_lt sdl (show 0 < j by omega) hz0 hj; omega
        have zg : z0 < b + g := by
          have := Fall_lt l2 (up_n.mp (List.mem_of_getElem? hz0)); omega
        obtain ⟨f1', f2'⟩ := fby_sp G (by omega) cov gC o4 zm zg (o2 0 z0 hz0) e5 hfb
        have fos : Fr fRw om s.2 := fr_tr (fr_tr fr_rfl t2 rfl rfl rfl) s3 rfl rfl rfl
        have Rs : RGq b n gr s.2 := RGq_f R0 (fos.1 39 rfl) (fos.1 40 rfl) (fos.1 43 rfl) (fos.2.1 44 rfl) (fos.2.1 45 rfl) (fos.2.1 46 rfl) (fos.2.1 47 rfl)
        obtain ⟨BB, T2, h1', h2'⟩ := freed_sp G Rs (CtM_f hC (fos.2.1 59 rfl) (fos.2.1 58 rfl)) (by omega) (by omega) cov gC eqv (by rw [fos.2.1 63 rfl]; exact e63) hf
        have same := frd_same (us := sm.2.1 1) (ut := s.2.2.1 48) G (by omega) cov gC o4 T2 (fun k hk => by rw [c2.2.1 1 rfl, fos.2.1 48 rfl]; exact (N k hk).2.symm)
        rw [same] at f1'
        have fof : Fr fRw om f.2 := fr_tr fos h2' rfl rfl rfl
        have frf : Fr (fr_M [11] [2, 10] []) re fb.2 := fr_tr (fr_tr fr_rfl c2 rfl rfl rfl) f2' rfl rfl rfl
        have Rf : Rg b m gt f.2 := by
          have y1 : Rg b m gt t.2 := Rg_f R (t2.1 31 rfl) (t2.1 36 rfl) (t2.1 37 rfl) (t2.2.1 32 rfl) (t2.2.1 33 rfl) (t2.2.1 34 rfl)
          have y2 : Rg b m gt s.2 := Rg_f y1 (s3.1 31 rfl) (s3.1 36 rfl) (s3.1 37 rfl) (s3.2.1 32 rfl) (s3.2.1 33 rfl) (s3.2.1 34 rfl)
          exact Rg_f y2 (h2'.1 31 rfl) (h2'.1 36 rfl) (h2'.1 37 rfl) (h2'.2.1 32 rfl) (h2'.2.1 33 rfl) (h2'.2.1 34 rfl)
        have f51 : f.2.2.1 51 = om.2.1 51 := by rw [h2'.2.1 51 rfl, s3.2.1 51 rfl, t2.2.1 51 rfl]
        have kl := BrC_k B0 (by omega) c (Or.inl rfl)
        have kh := BrC_k B0 (by omega) c (Or.inr rfl)
        have fl := F _ kl.2.1 (Or.inr kl.2.2)
        have fh := F _ kh.2.1 (Or.inr kh.2.2)
        rcases q1 with ⟨d1, w, hw, q1⟩ | ⟨d1, w, hw, q1⟩
        · rcases q2 with ⟨_, w', hw', q2⟩ | ⟨d2, _⟩
          · have i5 : v5.toNatClampNeg = b + g := tW e5
            have hw := fra_sp (by rw [i5]; omega) (by rw [i5]; omega) hw
            rw [i5, frf.2.1 4 rfl] at hw
            have gl := R0.2.1 g (by omega)
            rw [tW e1, fof.2.1 44 rfl, fof.2.1 45 rfl, gl.1, gl.2, hf_i (by omega), hf_i (by omega), f51, fl.1, fh.1] at hw'
            have xl := xa_b (x := gr.2.1 4 (b + g)) fl.2.1 fl.2.2 (by omega)
            have xh := xa_b (x := gr.2.1 5 (b + g)) fh.2.1 fh.2.2 (by omega)
            obtain ⟨C1, m', C2, C3, C4, C5, C6, C7, C8⟩ := eq_and Rf xl.1 xl.2 xh.1 xh.2 hw hw'
            rw [C1] at q1
            exact nx m' fb.2 w.2 w'.2 cn w'.1 C2 C3 (fr_tr fof C6 rfl rfl rfl) C7 frf (by rw [C6.2.1 51 rfl]; exact f51) C4 C5 q1 q2
          · omega
        · rcases q2 with ⟨d2, _⟩ | ⟨_, w', hw', q2⟩
          · omega
          · have hn : ∀ x : Nat, (x : Int) ∈ upL l → ¬ re.2.1 0 x = 0 := fun x hx => by
              have hx2 := hx
              rw [← l7] at hx2
              unfold cutL at hx2
              obtain ⟨k, k1, k2⟩ := tab_mem.mp hx2
              have y := K3 (b + g) cc (by omega) (by omega) (by omega) (fun i => ¬ re.2.1 0 i = 0) (fun g' j' i' h1 h2 h3 h4 => by
                have ej : j' = b + g' := by omega
                rw [ej] at h3
                have r44 := R0.2.1 g' (by omega)
                rw [fo.2.1 44 rfl, fo.2.1 45 rfl] at r44
                rw [r44.1, r44.2] at h4
                rcases h4 with h4 | h4
                · have y := (BrC_k B0 (by omega) h3 (Or.inl rfl))
                  rw [show i' = (gr.2.1 4 (b + g')).toInt.toNat / 2 by omega]; exact y.2.2
                · have y := (BrC_k B0 (by omega) h3 (Or.inr rfl))
                  rw [show i' = (gr.2.1 5 (b + g')).toInt.toNat / 2 by omega]; exact y.2.2) c
              exact y k x (by omega) (by omega)
            have FC : FqC (upL l) (b + m) fb.2 f.2 := fun x hx => by
              have xl := Fall_lt l2 (up_n.mp hx)
              have y := F x (by omega) (Or.inr (hn x hx))
              rw [f51, frf.2.1 4 rfl]; exact y
            have SC : SpC fb.2 (smN l.length (bt (cn.1 1)) (2 ^ l.length) 0 []) := ⟨by rw [f2'.1 11 rfl]; exact c1.1, fun k p hp => by rw [f2'.2.1 10 rfl]; exact c1.2 k p hp⟩
            have SE : SpE f.2 (smN l.length (bt (cn.1 1)) (2 ^ l.length) 0 []) := ⟨by rw [h2'.1 70 rfl]; exact s2.1, fun k p hp => by rw [h2'.2.1 69 rfl]; exact s2.2 k p hp⟩
            have bm := R.1
            obtain ⟨z1, m', Z1, Z2, Z3, Z4, Z5, Z6⟩ := fss_go (b := b) (c := cc) (C := upL l) (fun p hp => by have := s4 p hp; have := (pw4 s5).2; omega) ln (by omega) o1 o2 (fun y hy => by have := zm y hy; omega) SC e63 (cfFU + 1) cfFU cfFU 0 0 0 0 m gt f.2 w w' (Nat.lt_succ_self _) rfl rfl (Nat.zero_le _) (fun _ => rfl) Rf FC (CtM_f hC (fof.2.1 59 rfl) (fof.2.1 58 rfl)) SE (by decide) (by rw [show (0 : Int32).toInt = 0 from rfl]; omega) hw hw'
            rw [z1] at q1
            exact nx m' fb.2 w.2 w'.2 cn w'.1 Z1 Z2 (fr_tr fof Z5 rfl rfl rfl) Z6 frf (by rw [Z5.2.1 51 rfl]; exact f51) Z3 Z4 q1 q2
