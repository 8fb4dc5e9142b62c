theorem Rg_f {b m : Nat} {gt om om' : cf_O} (R : Rg b m gt om) (a31 : om'.1 31 = om.1 31) (a36 : om'.1 36 = om.1 36) (a37 : om'.1 37 = om.1 37) (a32 : om'.2.1 32 = om.2.1 32) (a33 : om'.2.1 33 = om.2.1 33) (a34 : om'.2.1 34 = om.2.1 34) : Rg b m gt om' := by
  unfold Rg at R ⊢
  rw [a31, a36, a37, a32, a33, a34]; exact R
theorem RGq_f {b n : Nat} {gr om om' : cf_O} (R : RGq b n gr om) (o39 : om'.1 39 = om.1 39) (o40 : om'.1 40 = om.1 40) (o43 : om'.1 43 = om.1 43) (a44 : om'.2.1 44 = om.2.1 44) (a45 : om'.2.1 45 = om.2.1 45) (a46 : om'.2.1 46 = om.2.1 46) (a47 : om'.2.1 47 = om.2.1 47) : RGq b n gr om' := by
  unfold RGq at R ⊢
  rw [o39, o40, o43, a44, a45, a46, a47]; exact R
theorem jr_2 {rc : Nat → Int32 → cf_O → cf_O → Option (Int32 × cf_O × cf_O)} {v : Int32} {re gt : cf_O} {r : Int32 × cf_O × cf_O} (h : fRe_joinRow_2 rc v re gt = some r) : ((209 < v.toInt ∨ (re.1 7).toInt ≤ 1) ∧ r = (re.2.1 6 0, re, gt)) ∨ (v.toInt ≤ 209 ∧ 1 < (re.1 7).toInt ∧ ∃ p q s : Int32 × cf_O, fRe_takeLeast re gt = some p ∧ fRe_takeLeast p.2 gt = some q ∧ fGr_and p.1 q.1 gt = some s ∧ rc 0 (v + 1) (fp (xp q.2 6 (q.2.1 7).toNatClampNeg s.1) 7 ((q.2.1 7) + 1)) s.2 = some r) := by
  have k62 : fRe_joinRow_62 rc re gt = some r → r = (re.2.1 6 0, re, gt) := fun z => by
    unfold fRe_joinRow_62 at z
    rw [if_neg (by decide), opk, show (0 : Int32).toNatClampNeg = 0 from rfl] at z
    exact (Option.some.inj z).symm
  unfold fRe_joinRow_2 at h
  rcases ifc h with ⟨a, h⟩ | ⟨a, h⟩
  · exact Or.inl ⟨Or.inl (c_lt a), k62 h⟩
  · have a : v.toInt ≤ 209 := c_nlt a
    rcases ifc h with ⟨c, h⟩ | ⟨c, h⟩
    · exact Or.inl ⟨Or.inr (c_le c), k62 h⟩
    · obtain ⟨p, hp, h⟩ := bd h
      obtain ⟨q, hq, h⟩ := bd h
      obtain ⟨s, hs, h⟩ := bd h
      have h := (ifn h).2
      rw [opk, opk, opk, opk] at h
      exact Or.inr ⟨a, c_nle c, p, q, s, hp, hq, hs, h⟩
theorem rb_85 {rc : Nat → Int32 → cf_O → Option (Int32 × cf_O)} {v1 : Int32} {om : cf_O} {r : Int32 × cf_O} (h : fM_balance_85 rc v1 om = some r) : ((om.1 52).toInt ≤ 1 ∧ ∃ q : Int32, fM_base om = some q ∧ rc 0 (v1 + 1) (xp om 51 (q + v1).toNatClampNeg (om.2.1 53 0)) = some r) ∨ (1 < (om.1 52).toInt ∧ ∃ p q s : Int32 × cf_O, fM_takeLeast om = some p ∧ fM_takeLeast p.2 = some q ∧ fM_and p.1 q.1 q.2 = some s ∧ rc 1 v1 (fp (xp s.2 53 (q.2.1 52).toNatClampNeg s.1) 52 ((s.2.1 52) + 1)) = some r) := by
  unfold fM_balance_85 at h
  rcases ifc h with ⟨a, h⟩ | ⟨a, h⟩
  · obtain ⟨q, hq, h⟩ := bd h
    rw [opk, if_neg (by decide), opk, show (0 : Int32).toNatClampNeg = 0 from rfl] at h
    have h := (ifn h).2
    rw [opk] at h
    unfold fM_balance_148 at h
    rw [opk] at h
    exact Or.inl ⟨c_le a, q, hq, h⟩
  · obtain ⟨p, hp, h⟩ := bd h
    obtain ⟨q, hq, h⟩ := bd h
    obtain ⟨s, hs, h⟩ := bd h
    have h := (ifn h).2
    rw [opk, opk, opk] at h
    exact Or.inr ⟨c_nle a, p, q, s, hp, hq, hs, h⟩
def JrC (b g m : Nat) (v1 : Int32) (GT RE OM : cf_O) (rc : Int32 × cf_O × cf_O) (rm : Int32 × cf_O) : Prop := ∃ (m' f : Nat) (om' : cf_O), m ≤ m' ∧ Rg b m' rc.2.2 om' ∧ 0 ≤ rc.1.toInt ∧ rc.1.toInt < 2 * ((b + m' : Nat) : Int) ∧ Fr (fr_M [7] [6] []) RE rc.2.1 ∧ Fr (fr_M [31, 36, 52] [32, 33, 34, 53] []) OM om' ∧ Fr (fr_M [2, 3] [4, 5, 6, 8, 9] []) GT rc.2.2 ∧ gM_balance f 0 (v1 + 1) (xp om' 51 (b + g) rc.1) = some rm
theorem jr_go {b n g : Nat} {gr GT RE OM : cf_O} {v1 : Int32} (R0 : RGq b n gr OM) (e1 : v1.toInt = (g : Int)) (gn : g < n) : ∀ (f1 f2 : Nat) (v : Int32) (r m : Nat) (gt re om : cf_O) (rc : Int32 × cf_O × cf_O) (rm : Int32 × cf_O), Rg b m gt om → 1 ≤ r → 0 ≤ v.toInt → v.toInt + (r : Int) ≤ 202 → (re.1 7).toInt = (r : Int) → (om.1 52).toInt = (r : Int) → RwS (b + m) r re om → Fr (fr_M [7] [6] []) RE re → Fr (fr_M [31, 36, 52] [32, 33, 34, 53] []) OM om → Fr (fr_M [2, 3] [4, 5, 6, 8, 9] []) GT gt → gRe_joinRow f1 0 v re gt = some rc → gM_balance f2 1 v1 om = some rm → JrC b g m v1 GT RE OM rc rm
  | 0, f2, v, r, m, gt, re, om, rc, rm, R, r1, v0, vr, e7, e52, W, fr, fo, fg, q1, q2 => by cases q1
  | f1 + 1, 0, v, r, m, gt, re, om, rc, rm, R, r1, v0, vr, e7, e52, W, fr, fo, fg, q1, q2 => by cases q2
  | f1 + 1, f2 + 1, v, r, m, gt, re, om, rc, rm, R, r1, v0, vr, e7, e52, W, fr, fo, fg, q1, q2 => by
    have q1 : fRe_joinRow_2 (gRe_joinRow f1) v re gt = some rc := q1
    have q2 : fM_balance_85 (gM_balance f2) v1 om = some rm := q2
    have R0n := R0.1
    rcases jr_2 q1 with ⟨a, er⟩ | ⟨a, a2, p, q, s, hp, hq, hs, q1⟩
    · rcases rb_85 q2 with ⟨_, q, hq, q2⟩ | ⟨d, _⟩
      · have eb := base_sp (RGq_f R0 (fo.1 39 rfl) (fo.1 40 rfl) (fo.1 43 rfl) (fo.2.1 44 rfl) (fo.2.1 45 rfl) (fo.2.1 46 rfl) (fo.2.1 47 rfl)) hq
        have eqv : (q + v1).toInt = ((b + g : Nat) : Int) := by rw [Int32.toInt_add, eb, i_bm (by omega) (by omega)]; omega
        have iq : (q + v1).toNatClampNeg = b + g := by have := tn_n (q + v1); omega
        have w0 := W 0 (by omega)
        rw [iq, w0.1] at q2
        subst er
        exact ⟨m, f2, om, Nat.le_refl m, R, w0.2.1, w0.2.2, fr, fo, fg, q2⟩
      · omega
    · rcases rb_85 q2 with ⟨d, _⟩ | ⟨d, p', q', s', hp', hq', hs', q2⟩
      · omega
      obtain ⟨A1, A2, A3, A4, A5, A6, A7, A8⟩ := tl_sim R (by omega) r1 e7 e52 W hp hp'
      have R2 : Rg b m gt p'.2 := Rg_f R (A5.1 31 rfl) (A5.1 36 rfl) (A5.1 37 rfl) (A5.2.1 32 rfl) (A5.2.1 33 rfl) (A5.2.1 34 rfl)
      obtain ⟨B1, B2, B3, B4, B5, B6, B7, B8⟩ := tl_sim (r := r - 1) R2 (by omega) (by omega) (by omega) (by omega) (fun k hk => A8 k (by omega)) hq hq'
      have R3 : Rg b m gt q'.2 := Rg_f R2 (B5.1 31 rfl) (B5.1 36 rfl) (B5.1 37 rfl) (B5.2.1 32 rfl) (B5.2.1 33 rfl) (B5.2.1 34 rfl)
      rw [← A1, ← B1] at hs'
      obtain ⟨C1, m', C2, C3, C4, C5, C6, C7, C8⟩ := eq_and R3 A2 A3 B2 B3 hs hs'
      have i7 : (q.2.1 7).toNatClampNeg = r - 2 := by have := tn_n (q.2.1 7); omega
      have i52 : (q'.2.1 52).toNatClampNeg = r - 2 := by have := tn_n (q'.2.1 52); omega
      have s52 : s'.2.1 52 = q'.2.1 52 := C6.1 52 rfl
      have p7 := p_1 (v := q.2.1 7) (by omega) (by omega)
      have p52 := p_1 (v := q'.2.1 52) (by omega) (by omega)
      have pv := p_1 (v := v) v0 (by omega)
      rw [i7, C1] at q1
      rw [i52, s52] at q2
      obtain ⟨m3, f, om3, D1, D2, D3, D4, D5, D6, D7, D8⟩ := jr_go R0 e1 gn f1 f2 (v + 1) (r - 1) m' s.2 (fp (xp q.2 6 (r - 2) s'.1) 7 ((q.2.1 7) + 1)) (fp (xp s'.2 53 (r - 2) s'.1) 52 ((q'.2.1 52) + 1)) rc rm C3 (by omega) (by omega) (by omega) (by show ((q.2.1 7) + 1).toInt = _; omega) (by show ((q'.2.1 52) + 1).toInt = _; omega) (fun k hk => by
        show upd (s'.2.2.1 53) (r - 2) s'.1 k = upd (q.2.2.1 6) (r - 2) s'.1 k ∧ 0 ≤ (upd (q.2.2.1 6) (r - 2) s'.1 k).toInt ∧ (upd (q.2.2.1 6) (r - 2) s'.1 k).toInt < 2 * ((b + m' : Nat) : Int)
        by_cases e : k = r - 2
        · rw [e, up_s, up_s]; exact ⟨rfl, C4, C5⟩
        · have b8 := B8 k (by omega)
          rw [up_o e, up_o e, C6.2.1 53 rfl]
          exact ⟨b8.1, b8.2.1, by have := b8.2.2; omega⟩) (fr_fp (fr_xp (fr_tr (fr_tr fr A4 rfl rfl rfl) B4 rfl rfl rfl) rfl) rfl) (fr_fp (fr_xp (fr_tr (fr_tr (fr_tr fo A5 rfl rfl rfl) B5 rfl rfl rfl) C6 rfl rfl rfl) rfl) rfl) (fr_tr fg C7 rfl rfl rfl) q1 q2
      exact ⟨m3, f, om3, by omega, D2, D3, D4, D5, D6, D7, D8⟩
