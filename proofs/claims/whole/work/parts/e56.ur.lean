theorem leaves_sim {b n g M : Nat} {gr re om rc rm : cf_O} {v2 v1 : Int32} (B : BlC b n gr re om) (gn : g < n) (nz : ¬ re.2.1 0 (b + g) = 0) (F : ∀ k : Nat, k < b + g → (k < b ∨ (¬ re.2.1 0 k = 0 ∧ re.2.1 3 k = 0)) → om.2.1 51 k = re.2.1 4 k ∧ 0 ≤ (re.2.1 4 k).toInt ∧ (re.2.1 4 k).toInt < 2 * (M : Int)) (e2 : v2.toInt = ((b + g : Nat) : Int)) (e1 : v1.toInt = (g : Int)) (q1 : fRe_findLeaves v2 re gr = some rc) (q2 : fM_leaves v1 om = some rm) : LvC M re om rc rm := by
  have B0 := B
  obtain ⟨G, R, N, A, LK⟩ := B
  have G0 := G.1
  have z0 : (0 : Int32).toNatClampNeg = 0 := rfl
  unfold fRe_findLeaves fRe_findLeaves_0 at q1
  rw [opk, opk, if_neg (by decide), opk, z0] at q1
  generalize cfFU = F1 at q1
  unfold fM_leaves fM_leaves_0 at q2
  rw [opk, opk] at q2
  have q2 := (ifn q2).2
  rw [opk, if_neg (by decide), opk] at q2
  have q2 := (ifn q2).2
  rw [opk, if_neg (by decide), opk, z0, show (1 : Int32).toNatClampNeg = 1 from rfl] at q2
  have i1 : v1.toNatClampNeg = g := by have := tn_n v1; omega
  rw [i1] at q2
  have rg := R.2.1 g gn
  have q2 : gM_leaves cfFU 0 (xp (xp (fp (fp om 52 0) 54 2) 55 0 (om.2.1 45 g)) 55 1 (om.2.1 44 g)) = some rm := q2
  rw [rg.1, rg.2] at q2
  generalize cfFU = F2 at q2
  cases F1 with
  | zero => cases q1
  | succ F1 =>
    have q1 : fRe_findLeaves_19 (gRe_findLeaves F1) v2 1 0 (xp (fp re 7 0) 5 0 (2 * v2)) gr = some rc := q1
    have m2 : (2 * v2).toInt = 2 * ((b + g : Nat) : Int) := by rw [Int32.toInt_mul, e2, i_bm (by rw [show (2 : Int32).toInt = 2 from rfl]; omega) (by rw [show (2 : Int32).toInt = 2 from rfl]; omega)]; rfl
    rcases fl_19 q1 with ⟨a, _⟩ | ⟨_, a, _⟩ | ⟨_, _, w, x, ew, ex, q1⟩
    · exact absurd a (by decide)
    · exact absurd a (by decide)
    · have ew : w = 0 := by rw [ew]; decide
      subst ew
      rw [z0] at ex q1
      have ex : x = upd (re.2.1 5) 0 (2 * v2) 0 := ex
      rw [up_s] at ex
      have xs : x >>> ((1 : Int32) &&& 31) = v2 := Int32.toInt_inj.mp (by rw [i_s1 (by rw [ex, m2]; omega), ex, m2, e2]; omega)
      rw [xs] at q1
      have i2 : v2.toNatClampNeg = b + g := by have := tn_n v2; omega
      rw [i2] at q1
      rcases q1 with ⟨_, q1⟩ | ⟨z, _⟩
      · have q1 : gRe_findLeaves F1 0 v2 2 1 (xp (xp (xp (fp re 7 0) 5 0 (2 * v2)) 5 0 (gr.2.1 5 (b + g))) 5 1 (gr.2.1 4 (b + g))) gr = some rc := q1
        have nz' : ¬ (om.2.1 49 (b + g)).toInt = 0 := fun z => nz (Int32.toInt_inj.mp (by rw [← (N (b + g) (by omega)).1, z]; rfl))
        have L0 : Lv ((2 : Nat) : Int) ((0 : Nat) : Int) (b : Int) (n : Int) g (upd (upd (om.2.1 55) 0 (gr.2.1 5 (b + g))) 1 (gr.2.1 4 (b + g))) (om.2.1 44) (om.2.1 45) (om.2.1 49) := Lv_0 (j := b + g) rfl rfl (by omega) (by omega) (by omega) nz' (by rw [rg.2]) (by rw [rg.1]) rfl rfl
        refine lv_go B0 gn F e2 F1 F2 2 1 2 0 (xp (xp (xp (fp re 7 0) 5 0 (2 * v2)) 5 0 (gr.2.1 5 (b + g))) 5 1 (gr.2.1 4 (b + g))) (xp (xp (fp (fp om 52 0) 54 2) 55 0 (gr.2.1 5 (b + g))) 55 1 (gr.2.1 4 (b + g))) rc rm (fr_xp (fr_xp (fr_xp (fr_fp fr_rfl rfl) rfl) rfl) rfl) (fr_xp (fr_xp (fr_fp (fr_fp fr_rfl rfl) rfl) rfl) rfl) rfl rfl rfl rfl (by decide) L0 (fun k hk => ?_) (fun k hk => absurd hk (Nat.not_lt_zero k)) q1 q2
        show upd (upd (om.2.1 55) 0 (gr.2.1 5 (b + g))) 1 (gr.2.1 4 (b + g)) k = upd (upd (upd (re.2.1 5) 0 (2 * v2)) 0 (gr.2.1 5 (b + g))) 1 (gr.2.1 4 (b + g)) k
        by_cases c1 : k = 1
        · rw [c1, up_s, up_s]
        · rw [up_o c1, up_o c1, show k = 0 from by omega, up_s, up_s]
      · exact absurd rfl z
def RwS (M r : Nat) (re om : cf_O) : Prop := ∀ k : Nat, k < r → om.2.1 53 k = re.2.1 6 k ∧ 0 ≤ (re.2.1 6 k).toInt ∧ (re.2.1 6 k).toInt < 2 * (M : Int)
theorem ctl_43 {rc : Nat → Int32 → Int32 → Int32 → cf_O → cf_O → Option (Int32 × cf_O)} {v2 v3 : Int32} {re gt : cf_O} : fRe_takeLeast_43 rc v2 v3 re gt = rc 0 v2 (v3 + 1) 0 re gt := by
  unfold fRe_takeLeast_43
  rw [opk]
theorem rtl_46 {rc : Nat → Int32 → Int32 → Int32 → cf_O → Option (Int32 × cf_O)} {v2 s0 : Int32} {om : cf_O} : fM_takeLeast_46 rc v2 s0 om = rc 0 s0 (v2 + 1) 0 om := by
  unfold fM_takeLeast_46
  rw [opk]
def TlC (M r : Nat) (RE OM : cf_O) (rg rm : Int32 × cf_O) : Prop := rg.1 = rm.1 ∧ 0 ≤ rg.1.toInt ∧ rg.1.toInt < 2 * (M : Int) ∧ Fr (fr_M [7] [6] []) RE rg.2 ∧ Fr (fr_M [52] [53] []) OM rm.2 ∧ (rg.2.1 7).toInt = (r : Int) - 1 ∧ (rm.2.1 52).toInt = (r : Int) - 1 ∧ RwS M r rg.2 rm.2
theorem tl1_go {M r : Nat} {gt RE OM : cf_O} (r2 : r ≤ 202) : ∀ (f1 f2 : Nat) (x v : Int32) (re om : cf_O) (rg rm : Int32 × cf_O), 0 ≤ x.toInt → x.toInt < 2 * (M : Int) → Fr (fr_M [7] [6] []) RE re → Fr (fr_M [52] [53] []) OM om → (re.1 7).toInt = (r : Int) - 1 → (om.1 52).toInt = (r : Int) - 1 → 0 ≤ v.toInt → RwS M r re om → gRe_takeLeast f1 1 0 x v re gt = some rg → gM_takeLeast f2 1 0 x v om = some rm → TlC M r RE OM rg rm
  | 0, f2, x, v, re, om, rg, rm, x0, x1, fr, fo, e7, e52, v0, W, q1, q2 => by cases q1
  | f1 + 1, 0, x, v, re, om, rg, rm, x0, x1, fr, fo, e7, e52, v0, W, q1, q2 => by cases q2
  | f1 + 1, f2 + 1, x, v, re, om, rg, rm, x0, x1, fr, fo, e7, e52, v0, W, q1, q2 => by
    have q1 : fRe_takeLeast_69 (gRe_takeLeast f1) x v re gt = some rg := q1
    have q2 : fM_takeLeast_72 (gM_takeLeast f2) x v om = some rm := q2
    unfold fRe_takeLeast_69 at q1
    unfold fM_takeLeast_72 at q2
    rcases ifc q1 with ⟨a, q1⟩ | ⟨a, q1⟩
    · have a := c_le a
      rcases ifc q2 with ⟨_, q2⟩ | ⟨d, _⟩
      · have e1 := (Option.some.inj q1).symm
        have e2 := (Option.some.inj q2).symm
        subst e1; subst e2
        exact ⟨rfl, x0, x1, fr, fo, e7, e52, W⟩
      · have d := c_nle d; omega
    · have a := c_nle a
      rcases ifc q2 with ⟨d, _⟩ | ⟨_, q2⟩
      · have d := c_le d; omega
      have e1 := p_1 (v := v) v0 (by omega)
      have iv : v.toNatClampNeg = v.toInt.toNat := by have := tn_n v; omega
      have iv1 : (v + 1).toNatClampNeg = v.toInt.toNat + 1 := by have := tn_n (v + 1); omega
      rw [opk] at q1 q2
      have q1 := (ifn q1).2
      have q2 := (ifn q2).2
      rw [opk] at q1 q2
      have q1 := (ifn q1).2
      have q2 := (ifn q2).2
      rw [opk, opk, iv, iv1] at q1 q2
      have w1 := W (v.toInt.toNat + 1) (by omega)
      rw [w1.1] at q2
      refine tl1_go r2 f1 f2 x (v + 1) (xp re 6 v.toInt.toNat (re.2.1 6 (v.toInt.toNat + 1))) (xp om 53 v.toInt.toNat (re.2.1 6 (v.toInt.toNat + 1))) rg rm x0 x1 (fr_xp fr rfl) (fr_xp fo rfl) e7 e52 (by omega) (fun k hk => ?_) q1 q2
      show upd (om.2.1 53) v.toInt.toNat (re.2.1 6 (v.toInt.toNat + 1)) k = upd (re.2.1 6) v.toInt.toNat (re.2.1 6 (v.toInt.toNat + 1)) k ∧ 0 ≤ (upd (re.2.1 6) v.toInt.toNat (re.2.1 6 (v.toInt.toNat + 1)) k).toInt ∧ (upd (re.2.1 6) v.toInt.toNat (re.2.1 6 (v.toInt.toNat + 1)) k).toInt < 2 * (M : Int)
      by_cases e : k = v.toInt.toNat
      · rw [e, up_s, up_s]; exact ⟨rfl, w1.2⟩
      · rw [up_o e, up_o e]; exact W k hk
theorem tl0_go {b m r : Nat} {gt RE OM : cf_O} (R : Rg b m gt OM) (r2 : r ≤ 202) (e7 : (RE.1 7).toInt = (r : Int)) (e52 : (OM.1 52).toInt = (r : Int)) (W : RwS (b + m) r RE OM) : ∀ (f1 f2 : Nat) (p k : Int32) (rg rm : Int32 × cf_O), 0 ≤ p.toInt → p.toInt < (r : Int) → 1 ≤ k.toInt → gRe_takeLeast f1 0 p k 0 RE gt = some rg → gM_takeLeast f2 0 p k 0 OM = some rm → TlC (b + m) r RE OM rg rm
  | 0, f2, p, k, rg, rm, p0, p1, k0, q1, q2 => by cases q1
  | f1 + 1, 0, p, k, rg, rm, p0, p1, k0, q1, q2 => by cases q2
  | f1 + 1, f2 + 1, p, k, rg, rm, p0, p1, k0, q1, q2 => by
    have q1 : fRe_takeLeast_4 (gRe_takeLeast f1) p k RE gt = some rg := q1
    have q2 : fM_takeLeast_4 (gM_takeLeast f2) p k OM = some rm := q2
    have ip : p.toNatClampNeg = p.toInt.toNat := by have := tn_n p; omega
    have wp := W p.toInt.toNat (by omega)
    have R0 := R.1
    unfold fRe_takeLeast_4 at q1
    unfold fM_takeLeast_4 at q2
    rcases ifc q1 with ⟨a, q1⟩ | ⟨a, q1⟩
    · have a := c_le a
      rcases ifc q2 with ⟨_, q2⟩ | ⟨d, _⟩
      · have q1 := (ifn q1).2
        have q2 := (ifn q2).2
        rw [opk, opk, opk, ip] at q1 q2
        rw [wp.1] at q2
        refine tl1_go r2 f1 f2 (RE.2.1 6 p.toInt.toNat) p (fp RE 7 ((RE.1 7) - 1)) (fp OM 52 ((OM.1 52) - 1)) rg rm wp.2.1 wp.2.2 (fr_fp fr_rfl rfl) (fr_fp fr_rfl rfl) ?_ ?_ p0 W q1 q2
        · show ((RE.1 7) - 1).toInt = _
          rw [i_sub' (by omega) (by omega) (by decide) (by decide), e7]; rfl
        · show ((OM.1 52) - 1).toInt = _
          rw [i_sub' (by omega) (by omega) (by decide) (by decide), e52]; rfl
      · have d := c_nle d; omega
    · have a := c_nle a
      rcases ifc q2 with ⟨d, _⟩ | ⟨_, q2⟩
      · have d := c_le d; omega
      have ik : k.toNatClampNeg = k.toInt.toNat := by have := tn_n k; omega
      have e1 := p_1 (v := k) (by omega) (by omega)
      have wk := W k.toInt.toNat (by omega)
      have q1 := (ifn q1).2
      have q2 := (ifn q2).2
      rw [opk, opk] at q1 q2
      have q1 := (ifn q1).2
      have q2 := (ifn q2).2
      rw [opk] at q1 q2
      have q1 := (ifn q1).2
      have q2 := (ifn q2).2
      rw [opk, opk] at q1 q2
      have q1 := (ifn q1).2
      have q2 := (ifn q2).2
      rw [opk, ip, ik, sr_i wp.2.1, sr_i wk.2.1] at q1
      rw [opk, ip, ik, wp.1, wk.1, hf_i wp.2.1, hf_i wk.2.1] at q2
      have l1 := R.2.2.1 ((RE.2.1 6 p.toInt.toNat).toInt.toNat / 2) (by omega)
      have l2 := R.2.2.1 ((RE.2.1 6 k.toInt.toNat).toInt.toNat / 2) (by omega)
      rw [l1.1, l2.1] at q2
      rcases ifc q1 with ⟨c, q1⟩ | ⟨c, q1⟩
      · rcases ifc q2 with ⟨_, q2⟩ | ⟨d, _⟩
        · rw [ctl_43] at q1
          rw [rtl_46] at q2
          exact tl0_go R r2 e7 e52 W f1 f2 p (k + 1) rg rm p0 p1 (by omega) q1 q2
        · exact absurd c d
      · rcases ifc q2 with ⟨d, _⟩ | ⟨_, q2⟩
        · exact absurd d c
        · rw [ctl_43] at q1
          rw [rtl_46] at q2
          exact tl0_go R r2 e7 e52 W f1 f2 k (k + 1) rg rm (by omega) (by omega) (by omega) q1 q2
theorem tl_sim {b m r : Nat} {gt re om : cf_O} {rg rm : Int32 × cf_O} (R : Rg b m gt om) (r2 : r ≤ 202) (r1 : 1 ≤ r) (e7 : (re.1 7).toInt = (r : Int)) (e52 : (om.1 52).toInt = (r : Int)) (W : RwS (b + m) r re om) (q1 : fRe_takeLeast re gt = some rg) (q2 : fM_takeLeast om = some rm) : TlC (b + m) r re om rg rm := by
  unfold fRe_takeLeast fRe_takeLeast_0 at q1
  unfold fM_takeLeast fM_takeLeast_0 at q2
  exact tl0_go R r2 e7 e52 W cfFU cfFU 0 1 rg rm (by decide) (by rw [show (0 : Int32).toInt = 0 from rfl]; omega) (by decide) q1 q2
