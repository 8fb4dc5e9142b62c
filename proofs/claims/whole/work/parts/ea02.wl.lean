theorem gand_1 {y : Int32} {gt : cf_O} {w : Int32 × cf_O} (y0 : 0 ≤ y.toInt) (h : fGr_and 1 y gt = some w) : w = (y, gt) := by
  unfold fGr_and fGr_and_0 at h
  rw [opk, opk] at h
  have em := mn_i 1 y
  have ex := mx_i 1 y
  rw [show (1 : Int32).toInt = 1 from rfl] at em ex
  rcases ifc h with ⟨a, h⟩ | ⟨a, h⟩
  · rw [a, show (0 : Int32).toInt = 0 from rfl] at em
    rw [← Option.some.inj h, a, show y = 0 from Int32.toInt_inj.mp (by rw [show (0 : Int32).toInt = 0 from rfl]; omega)]
  · have y1 : 1 ≤ y.toInt := by
      rcases Int.lt_or_le y.toInt 1 with q | q
      · exact absurd (Int32.toInt_inj.mp (by rw [em, show (0 : Int32).toInt = 0 from rfl]; omega)) a
      · exact q
    have e1 : op_mn 1 y = 1 := Int32.toInt_inj.mp (by rw [em, show (1 : Int32).toInt = 1 from rfl]; omega)
    have e2 : op_mx 1 y = y := Int32.toInt_inj.mp (by rw [ex]; omega)
    rw [e1, e2] at h
    rcases ifc h with ⟨c, h⟩ | ⟨c, h⟩
    · rw [← Option.some.inj h, ← c]
    · rcases ifc h with ⟨d, h⟩ | ⟨d, h⟩
      · rw [← Option.some.inj h]
      · exact absurd rfl d
theorem gor_sp {x y : Int32} {gt : cf_O} {w : Int32 × cf_O} (h : fGr_or x y gt = some w) : ∃ q : Int32 × cf_O, fGr_and (x ^^^ 1) (y ^^^ 1) gt = some q ∧ w = (q.1 ^^^ 1, q.2) := by
  unfold fGr_or fGr_or_0 at h
  rw [opk, opk] at h
  obtain ⟨q, hq, h⟩ := bd h
  rw [opk] at h
  exact ⟨q, hq, (Option.some.inj h).symm⟩
theorem gor_0 {y : Int32} {gt : cf_O} {w : Int32 × cf_O} (y0 : 0 ≤ y.toInt) (h : fGr_or 0 y gt = some w) : w = (y, gt) := by
  obtain ⟨q, hq, ew⟩ := gor_sp h
  have hq : fGr_and 1 (y ^^^ 1) gt = some q := hq
  have e := gand_1 (by have := i_x1 y0; omega) hq
  rw [ew, e]
  show (y ^^^ 1 ^^^ 1, gt) = (y, gt)
  rw [Int32.xor_assoc, Int32.xor_self, Int32.xor_zero]
theorem dgc_t : ∀ p : Nat, p < 81 → ∀ t : Nat, t < 5 → ¬ cf_powers t = 0 ∧ (Int32.ofNat p / cf_powers t - Int32.ofNat p / cf_powers t / 3 * 3) = Int32.ofNat (dgN p t) := by decide +kernel
theorem dg_3 (p t : Nat) : dgN p t = 0 ∨ dgN p t = 1 ∨ dgN p t = 2 := by
  have : dgN p t < 3 := Nat.mod_lt _ (by decide)
  omega
theorem fsm_20 {rc : Nat → Int32 → Int32 → Int32 → Int32 → cf_O → cf_O → cf_O → Option (Int32 × cf_O)} {v3 v4 v5 v6 : Int32} {re gt co : cf_O} {r : Int32 × cf_O} {p t k : Nat} (hp : p < 81) (ht : t < 5) (e6 : v6.toInt = (t : Int)) (e4 : v4.toInt = (k : Int)) (es : re.2.1 10 k = Int32.ofNat p) (h : fRe_freshSum_20 rc v3 v4 v5 v6 re gt co = some r) : ((co.1 0).toInt ≤ v6.toInt ∧ ∃ q : Int32 × cf_O, fGr_or v3 v5 gt = some q ∧ rc 0 q.1 (v4 + 1) 0 0 re q.2 co = some r) ∨ (v6.toInt < (co.1 0).toInt ∧ ((dgN p t = 0 ∧ rc 1 v3 v4 v5 (v6 + 1) re gt co = some r) ∨ (dgN p t = 1 ∧ ∃ q : Int32 × cf_O, fGr_and v5 (re.2.1 4 (co.2.1 2 t).toNatClampNeg) gt = some q ∧ rc 1 v3 v4 q.1 (v6 + 1) re q.2 co = some r) ∨ (dgN p t = 2 ∧ ∃ q : Int32 × cf_O, fGr_and v5 (re.2.1 4 (co.2.1 2 t).toNatClampNeg ^^^ 1) gt = some q ∧ rc 1 v3 v4 q.1 (v6 + 1) re q.2 co = some r))) := by
  unfold fRe_freshSum_20 at h
  rcases ifc h with ⟨a, h⟩ | ⟨a, h⟩
  · obtain ⟨q, hq, h⟩ := bd h
    rw [opk] at h
    exact Or.inl ⟨c_le a, q, hq, h⟩
  · refine Or.inr ⟨c_nle a, ?_⟩
    have h := (ifn h).2
    rw [opk, tW e4, es] at h
    have h := (ifn h).2
    rw [opk, tW e6] at h
    have h := (ifn h).2
    rw [opk, opk, (dgc_t p hp t ht).2] at h
    have d1 := dg_3 p t
    rcases ifc h with ⟨c, h⟩ | ⟨c, h⟩
    · refine Or.inl ⟨?_, h⟩
      rcases d1 with d | d | d
      · exact d
      · rw [d] at c; exact absurd c (by decide)
      · rw [d] at c; exact absurd c (by decide)
    · have h := (ifn h).2
      rw [opk] at h
      have h := (ifn h).2
      rw [opk, opk, opk] at h
      obtain ⟨q, hq, h⟩ := bd h
      refine Or.inr ?_
      rcases d1 with d | d | d
      · rw [d] at c; exact absurd rfl c
      · rw [d, show Int32.ofNat 1 - 1 = 0 from by decide, Int32.xor_zero] at hq
        exact Or.inl ⟨d, q, hq, h⟩
      · rw [d, show Int32.ofNat 2 - 1 = 1 from by decide] at hq
        exact Or.inr ⟨d, q, hq, h⟩
theorem bui_18 {rc : Nat → Int32 → Int32 → Int32 → Int32 → Int32 → cf_O → Option (Int32 × cf_O)} {v1 v2 v3 v4 v5 : Int32} {om : cf_O} {r : Int32 × cf_O} {c p t k : Nat} {C : List Int} (hp : p < 81) (ht : t < 5) (e1 : v1.toInt = (c : Int)) (e5 : v5.toInt = (t : Int)) (e3 : v3.toInt = (k : Int)) (hC : CtM c C om) (es : om.2.1 69 k = Int32.ofNat p) (h : fM_build_I_18 rc v1 v2 v3 v4 v5 om = some r) : ((C.length : Int) ≤ v5.toInt ∧ ((v3 = 0 ∧ rc 0 v1 v4 (v3 + 1) 0 0 om = some r) ∨ (¬ v3 = 0 ∧ ∃ q : Int32 × cf_O, fM_and (v2 ^^^ 1) (v4 ^^^ 1) om = some q ∧ rc 0 v1 (q.1 ^^^ 1) (v3 + 1) 0 0 q.2 = some r))) ∨ (v5.toInt < (C.length : Int) ∧ ((dgN p t = 0 ∧ rc 1 v1 v2 v3 v4 (v5 + 1) om = some r) ∨ (dgN p t = 1 ∧ ∃ q : Int32 × cf_O, fM_and v4 (om.2.1 51 (om.2.1 58 (5 * c + t)).toNatClampNeg) om = some q ∧ rc 1 v1 v2 v3 q.1 (v5 + 1) q.2 = some r) ∨ (dgN p t = 2 ∧ ∃ q : Int32 × cf_O, fM_and v4 (om.2.1 51 (om.2.1 58 (5 * c + t)).toNatClampNeg ^^^ 1) om = some q ∧ rc 1 v1 v2 v3 q.1 (v5 + 1) q.2 = some r))) := by
  obtain ⟨c1, c2, c3, c4⟩ := hC
  unfold fM_build_I_18 at h
  have h := (ifn h).2
  rw [opk, tW e1] at h
  rcases ifc h with ⟨a, h⟩ | ⟨a, h⟩
  · have a := c_le a
    refine Or.inl ⟨by omega, ?_⟩
    rcases ifc h with ⟨d, h⟩ | ⟨d, h⟩
    · exact Or.inl ⟨d, h⟩
    · rw [opk, opk] at h
      obtain ⟨q, hq, h⟩ := bd h
      exact Or.inr ⟨d, q, hq, h⟩
  · have a := c_nle a
    refine Or.inr ⟨by omega, ?_⟩
    have h := (ifn h).2
    rw [opk, tW e3, es] at h
    obtain ⟨d, hd, h⟩ := bd h
    rw [on_i e5, dg_t p hp t ht] at hd
    have ed := (Option.some.inj hd).symm
    rw [opk, opk, ix5 e1 e5 c1 ht] at h
    have h := (ifn h).2
    rw [opk] at h
    have h := (ifn h).2
    rw [opk] at h
    have d1 := dg_3 p t
    rcases ifc h with ⟨y, h⟩ | ⟨y, h⟩
    · refine Or.inl ⟨?_, h⟩
      rw [ed] at y
      rcases d1 with d | d | d
      · exact d
      · rw [d] at y; exact absurd y (by decide)
      · rw [d] at y; exact absurd y (by decide)
    · refine Or.inr ?_
      rcases ifc h with ⟨z, h⟩ | ⟨z, h⟩
      · obtain ⟨q, hq, h⟩ := bd h
        refine Or.inl ⟨?_, q, hq, h⟩
        rw [ed] at z
        rcases d1 with d | d | d
        · rw [d] at z; exact absurd z (by decide)
        · exact d
        · rw [d] at z; exact absurd z (by decide)
      · rw [opk] at h
        obtain ⟨q, hq, h⟩ := bd h
        refine Or.inr ⟨?_, q, hq, h⟩
        rcases d1 with d | d | d
        · rw [ed, d] at y; exact absurd rfl y
        · rw [ed, d] at z; exact absurd rfl z
        · exact d
def FqC (C : List Int) (M : Nat) (re om : cf_O) : Prop := ∀ x : Nat, (x : Int) ∈ C → om.2.1 51 x = re.2.1 4 x ∧ 0 ≤ (re.2.1 4 x).toInt ∧ (re.2.1 4 x).toInt < 2 * (M : Int)
theorem FqC_f {C : List Int} {M N : Nat} {re om om' : cf_O} (h : FqC C M re om) (e : om'.2.1 51 = om.2.1 51) (hm : M ≤ N) : FqC C N re om' := fun x hx => by
  have q := h x hx
  rw [e]; exact ⟨q.1, q.2.1, by omega⟩
def PrC (b m : Nat) (gt om : cf_O) (p' : Int32) (m' : Nat) (gt' om' : cf_O) : Prop := m ≤ m' ∧ Rg b m' gt' om' ∧ 0 ≤ p'.toInt ∧ p'.toInt < 2 * ((b + m' : Nat) : Int) ∧ Fr (fr_M [31, 36] [32, 33, 34] []) om om' ∧ Fr (fr_M [2, 3] [4, 5, 6, 8, 9] []) gt gt'
theorem fsp_go {b c p k : Nat} {C : List Int} {w v4 v1 al vp : Int32} {re co : cf_O} (hp : p < 81) (c4 : C.length ≤ 4) (e0 : (co.1 0).toInt = (C.length : Int)) (hn : ∀ j x : Nat, C[j]? = some (x : Int) → (co.2.1 2 j).toInt = (x : Int)) (hpos : ∀ z ∈ C, 0 ≤ z) (e4 : v4.toInt = (k : Int)) (es : re.2.1 10 k = Int32.ofNat p) (e1 : v1.toInt = (c : Int)) (ep : vp.toInt = (k : Int)) : ∀ (f1 f2 t : Nat) (pr v6 vk : Int32) (m : Nat) (gt om : cf_O) (rc rm : Int32 × cf_O), v6.toInt = (t : Int) → vk.toInt = (t : Int) → t ≤ C.length → Rg b m gt om → FqC C (b + m) re om → CtM c C om → om.2.1 69 k = Int32.ofNat p → 0 ≤ pr.toInt → pr.toInt < 2 * ((b + m : Nat) : Int) → gRe_freshSum f1 1 w v4 pr v6 re gt co = some rc → gM_build_I f2 1 v1 al vp pr vk om = some rm → ∃ (m' f3 f4 : Nat) (p' : Int32) (gt' om' : cf_O), f3 < f1 ∧ PrC b m gt om p' m' gt' om' ∧ (∃ q : Int32 × cf_O, fGr_or w p' gt' = some q ∧ gRe_freshSum f3 0 q.1 (v4 + 1) 0 0 re q.2 co = some rc) ∧ ((vp = 0 ∧ gM_build_I f4 0 v1 p' (vp + 1) 0 0 om' = some rm) ∨ (¬ vp = 0 ∧ ∃ q : Int32 × cf_O, fM_and (al ^^^ 1) (p' ^^^ 1) om' = some q ∧ gM_build_I f4 0 v1 (q.1 ^^^ 1) (vp + 1) 0 0 q.2 = some rm))
  | 0, f2, t, pr, v6, vk, m, gt, om, rc, rm, e6, ek, tl, R, F, hC, em, p0, p1, h1, h2 => by cases h1
  | f1 + 1, 0, t, pr, v6, vk, m, gt, om, rc, rm, e6, ek, tl, R, F, hC, em, p0, p1, h1, h2 => by cases h2
  | f1 + 1, f2 + 1, t, pr, v6, vk, m, gt, om, rc, rm, e6, ek, tl, R, F, hC, em, p0, p1, h1, h2 => by
    have h1 : fRe_freshSum_20 (gRe_freshSum f1) w v4 pr v6 re gt co = some rc := h1
    have h2 : fM_build_I_18 (gM_build_I f2) v1 al vp pr vk om = some rm := h2
    have p6 := pW (v := v6) (by omega) (by omega)
    have pk := pW (v := vk) (by omega) (by omega)
    rcases fsm_20 hp (by omega) e6 e4 es h1 with ⟨a, h1⟩ | ⟨a, h1⟩
    · rcases bui_18 hp (by omega) e1 ek ep hC em h2 with ⟨_, h2⟩ | ⟨d, _⟩
      · exact ⟨m, f1, f2, pr, gt, om, Nat.lt_succ_self _, ⟨Nat.le_refl m, R, p0, p1, fr_rfl, fr_rfl⟩, h1, h2⟩
      · omega
    · rcases bui_18 hp (by omega) e1 ek ep hC em h2 with ⟨d, _⟩ | ⟨_, h2⟩
      · omega
      have ct := CtM_g (t := t) hC (by omega)
      obtain ⟨x, ex⟩ : ∃ x : Nat, (om.2.1 58 (5 * c + t)).toInt = (x : Int) := ⟨(om.2.1 58 (5 * c + t)).toInt.toNat, by
        have := hpos _ (List.mem_of_getElem? ct); omega⟩
      rw [ex] at ct
      have cx := hn t x ct
      have fx := F x (List.mem_of_getElem? ct)
      rw [tW cx] at h1
      rw [tW ex, fx.1] at h2
      have nx : ∀ (q q' : Int32 × cf_O), AnC b m gt om q q' → gRe_freshSum f1 1 w v4 q.1 (v6 + 1) re q.2 co = some rc → gM_build_I f2 1 v1 al vp q'.1 (vk + 1) q'.2 = some rm → ∃ (m' f3 f4 : Nat) (p' : Int32) (gt' om' : cf_O), f3 < f1 + 1 ∧ PrC b m gt om p' m' gt' om' ∧ (∃ q : Int32 × cf_O, fGr_or w p' gt' = some q ∧ gRe_freshSum f3 0 q.1 (v4 + 1) 0 0 re q.2 co = some rc) ∧ ((vp = 0 ∧ gM_build_I f4 0 v1 p' (vp + 1) 0 0 om' = some rm) ∨ (¬ vp = 0 ∧ ∃ q : Int32 × cf_O, fM_and (al ^^^ 1) (p' ^^^ 1) om' = some q ∧ gM_build_I f4 0 v1 (q.1 ^^^ 1) (vp + 1) 0 0 q.2 = some rm)) := fun q q' A g1 g2 => by
        obtain ⟨C1, n', C2, C3, C4, C5, C6, C7, C8⟩ := A
        rw [C1] at g1
        obtain ⟨m', f3, f4, p', gt', om', D0, ⟨D1, D2, D3, D4, D5, D6⟩, E1, E2⟩ := fsp_go (b := b) hp c4 e0 hn hpos e4 es e1 ep f1 f2 (t + 1) q'.1 (v6 + 1) (vk + 1) n' q.2 q'.2 rc rm (by omega) (by omega) (by omega) C3 (FqC_f F (C6.2.1 51 rfl) (by omega)) (CtM_f hC (C6.2.1 59 rfl) (C6.2.1 58 rfl)) (by rw [C6.2.1 69 rfl]; exact em) C4 C5 g1 g2
        exact ⟨m', f3, f4, p', gt', om', by omega, ⟨by omega, D2, D3, D4, fr_tr C6 D5 rfl rfl rfl, fr_tr C7 D6 rfl rfl rfl⟩, E1, E2⟩
      rcases h1 with ⟨d, h1⟩ | ⟨d, q, hq, h1⟩ | ⟨d, q, hq, h1⟩
      · rcases h2 with ⟨_, h2⟩ | ⟨d2, _⟩ | ⟨d2, _⟩
        · obtain ⟨m', f3, f4, p', gt', om', D0, D⟩ := fsp_go (b := b) hp c4 e0 hn hpos e4 es e1 ep f1 f2 (t + 1) pr (v6 + 1) (vk + 1) m gt om rc rm (by omega) (by omega) (by omega) R F hC em p0 p1 h1 h2
          exact ⟨m', f3, f4, p', gt', om', by omega, D⟩
        · omega
        · omega
      · rcases h2 with ⟨d2, _⟩ | ⟨_, q', hq', h2⟩ | ⟨d2, _⟩
        · omega
        · exact nx q q' (eq_and R p0 p1 fx.2.1 fx.2.2 hq hq') h1 h2
        · omega
      · rcases h2 with ⟨d2, _⟩ | ⟨d2, _⟩ | ⟨_, q', hq', h2⟩
        · omega
        · omega
        · have xb := x1_b fx.2.1 fx.2.2
          exact nx q q' (eq_and R p0 p1 xb.1 xb.2 hq hq') h1 h2
theorem fss_go {b c : Nat} {C : List Int} {ps : List Nat} {v1 : Int32} {re co : cf_O} (hps : ∀ p ∈ ps, p < 81) (hl : ps.length ≤ 16) (c4 : C.length ≤ 4) (e0 : (co.1 0).toInt = (C.length : Int)) (hn : ∀ j x : Nat, C[j]? = some (x : Int) → (co.2.1 2 j).toInt = (x : Int)) (hpos : ∀ z ∈ C, 0 ≤ z) (SC : SpC re ps) (e1 : v1.toInt = (c : Int)) : ∀ (N f1 f2 k : Nat) (w v4 vp : Int32) (m : Nat) (gt om : cf_O) (rc rm : Int32 × cf_O), f1 < N → v4.toInt = (k : Int) → vp.toInt = (k : Int) → k ≤ ps.length → (k = 0 → w = 0) → Rg b m gt om → FqC C (b + m) re om → CtM c C om → SpE om ps → 0 ≤ w.toInt → w.toInt < 2 * ((b + m : Nat) : Int) → gRe_freshSum f1 0 w v4 0 0 re gt co = some rc → gM_build_I f2 0 v1 w vp 0 0 om = some rm → rc.1 = rm.1 ∧ ∃ m' : Nat, PrC b m gt om rm.1 m' rc.2 rm.2
  | 0, f1, f2, k, w, v4, vp, m, gt, om, rc, rm, fN, e4, ep, kl, kw, R, F, hC, SE, w0, w1, h1, h2 => by omega
  | N + 1, 0, f2, k, w, v4, vp, m, gt, om, rc, rm, fN, e4, ep, kl, kw, R, F, hC, SE, w0, w1, h1, h2 => by cases h1
  | N + 1, f1 + 1, 0, k, w, v4, vp, m, gt, om, rc, rm, fN, e4, ep, kl, kw, R, F, hC, SE, w0, w1, h1, h2 => by cases h2
  | N + 1, f1 + 1, f2 + 1, k, w, v4, vp, m, gt, om, rc, rm, fN, e4, ep, kl, kw, R, F, hC, SE, w0, w1, h1, h2 => by
    have h1 : fRe_freshSum_5 (gRe_freshSum f1) w v4 re gt co = some rc := h1
    have h2 : fM_build_I_4 (gM_build_I f2) v1 w vp om = some rm := h2
    unfold fRe_freshSum_5 at h1
    unfold fM_build_I_4 at h2
    have s1 := SC.1
    have s2 := SE.1
    rcases ifc h1 with ⟨a, h1⟩ | ⟨a, h1⟩
    · have a := c_le a
      rcases ifc h2 with ⟨_, h2⟩ | ⟨d, _⟩
      · rw [← Option.some.inj h1, ← Option.some.inj h2]
        exact ⟨rfl, m, Nat.le_refl m, R, w0, w1, fr_rfl, fr_rfl⟩
      · exact absurd (Int32.le_iff_toInt_le.mpr (by omega)) d
    · have a := c_nle a
      rcases ifc h2 with ⟨d, _⟩ | ⟨_, h2⟩
      · have d := c_le d; omega
      obtain ⟨p, hp⟩ : ∃ p, ps[k]? = some p := ⟨ps[k], List.getElem?_eq_getElem (by omega)⟩
      have b1 := R.1
      obtain ⟨m', f3, f4, p', gt', om', D0, ⟨D1, D2, D3, D4, D5, D6⟩, ⟨q, hq, h1⟩, h2⟩ := fsp_go (b := b) (hps p (List.mem_of_getElem? hp)) c4 e0 hn hpos e4 (SC.2 k p hp) e1 ep f1 f2 0 1 0 0 m gt om rc rm rfl rfl (Nat.zero_le _) R F hC (SE.2 k p hp) (by decide) (by rw [show (1 : Int32).toInt = 1 from rfl]; omega) h1 h2
      have p4 := pW (v := v4) (by omega) (by omega)
      have pp := pW (v := vp) (by omega) (by omega)
      have SE' : SpE om' ps := ⟨by rw [D5.1 70 rfl]; exact s2, fun j y hj => by rw [D5.2.1 69 rfl]; exact SE.2 j y hj⟩
      rcases h2 with ⟨vz, h2⟩ | ⟨vz, q', hq', h2⟩
      · have k0 : k = 0 := by rw [vz, show (0 : Int32).toInt = 0 from rfl] at ep; omega
        rw [kw k0] at hq
        have eq := gor_0 D3 hq
        rw [eq] at h1
        obtain ⟨z1, m2, Z1, Z2, Z3, Z4, Z5, Z6⟩ := fss_go (b := b) hps hl c4 e0 hn hpos SC e1 N f3 f4 (k + 1) p' (v4 + 1) (vp + 1) m' gt' om' rc rm (by omega) (by omega) (by omega) (by omega) (fun z => by omega) D2 (FqC_f F (D5.2.1 51 rfl) (by omega)) (CtM_f hC (D5.2.1 59 rfl) (D5.2.1 58 rfl)) SE' D3 D4 h1 h2
        exact ⟨z1, m2, by omega, Z2, Z3, Z4, fr_tr D5 Z5 rfl rfl rfl, fr_tr D6 Z6 rfl rfl rfl⟩
      · obtain ⟨u, hu, eu⟩ := gor_sp hq
        have wb := x1_b (x := w) (m := b + m') w0 (by omega)
        have pb := x1_b D3 D4
        obtain ⟨C1, n', C2, C3, C4, C5, C6, C7, C8⟩ := eq_and D2 wb.1 wb.2 pb.1 pb.2 hu hq'
        rw [eu] at h1
        have h1 : gRe_freshSum f3 0 (u.1 ^^^ 1) (v4 + 1) 0 0 re u.2 co = some rc := h1
        rw [C1] at h1
        have xb := x1_b C4 C5
        have SE2 : SpE q'.2 ps := ⟨by rw [C6.1 70 rfl]; exact SE'.1, fun j y hj => by rw [C6.2.1 69 rfl]; exact SE'.2 j y hj⟩
        obtain ⟨z1, m2, Z1, Z2, Z3, Z4, Z5, Z6⟩ := fss_go (b := b) hps hl c4 e0 hn hpos SC e1 N f3 f4 (k + 1) (q'.1 ^^^ 1) (v4 + 1) (vp + 1) n' u.2 q'.2 rc rm (by omega) (by omega) (by omega) (by omega) (fun z => by omega) C3 (FqC_f (FqC_f F (D5.2.1 51 rfl) (show b + m ≤ b + m' by omega)) (C6.2.1 51 rfl) (by omega)) (CtM_f (CtM_f hC (D5.2.1 59 rfl) (D5.2.1 58 rfl)) (C6.2.1 59 rfl) (C6.2.1 58 rfl)) SE2 xb.1 xb.2 h1 h2
        exact ⟨z1, m2, by omega, Z2, Z3, Z4, fr_tr (fr_tr D5 C6 rfl rfl rfl) Z5 rfl rfl rfl, fr_tr (fr_tr D6 C7 rfl rfl rfl) Z6 rfl rfl rfl⟩
