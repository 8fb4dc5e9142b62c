theorem mb_18 {rc : Nat → Int32 → cf_O → cf_O → cf_O → Option (cf_O × cf_O)} {v3 : Int32} {re gr gt : cf_O} {r : cf_O × cf_O} (h : fRe_makeBalanced_18 rc v3 re gr gt = some r) : ∃ z : Int32, fGr_size gr = some z ∧ ((z.toInt ≤ v3.toInt ∧ ∃ u : cf_O, fRe_takeResults re gr gt = some u ∧ r = (re, u)) ∨ (v3.toInt < z.toInt ∧ (((re.2.1 0 v3.toNatClampNeg = 0 ∨ ¬ re.2.1 3 v3.toNatClampNeg = 0) ∧ rc 0 (v3 + 1) re gr gt = some r) ∨ (¬ re.2.1 0 v3.toNatClampNeg = 0 ∧ re.2.1 3 v3.toNatClampNeg = 0 ∧ ∃ (u : cf_O) (w : Int32 × cf_O × cf_O), fRe_findLeaves v3 re gr = some u ∧ fRe_joinRow u gt = some w ∧ rc 0 (v3 + 1) (xp w.2.1 4 v3.toNatClampNeg w.1) gr w.2.2 = some r)))) := by
  have k61 : ∀ (re gt : cf_O), fRe_makeBalanced_61 rc v3 re gr gt = some r → rc 0 (v3 + 1) re gr gt = some r := fun re gt z => by
    unfold fRe_makeBalanced_61 at z
    rw [opk] at z
    exact z
  unfold fRe_makeBalanced_18 at h
  obtain ⟨z, hz, h⟩ := bd h
  refine ⟨z, hz, ?_⟩
  rcases ifc h with ⟨a, h⟩ | ⟨a, h⟩
  · obtain ⟨u, hu, h⟩ := bd h
    exact Or.inl ⟨c_le a, u, hu, (Option.some.inj h).symm⟩
  · refine Or.inr ⟨c_nle a, ?_⟩
    have h := (ifn h).2
    rw [opk] at h
    rcases ifc h with ⟨c, h⟩ | ⟨c, h⟩
    · exact Or.inl ⟨Or.inl c, k61 _ _ h⟩
    · have h := (ifn h).2
      rw [opk] at h
      rcases ifc h with ⟨d, h⟩ | ⟨d, h⟩
      · obtain ⟨u, hu, h⟩ := bd h
        obtain ⟨w, hw, h⟩ := bd h
        have h := (ifn h).2
        rw [opk] at h
        exact Or.inr ⟨c, d, u, w, hu, hw, k61 _ _ h⟩
      · exact Or.inl ⟨Or.inr d, k61 _ _ h⟩
theorem rb_41 {rc : Nat → Int32 → cf_O → Option (Int32 × cf_O)} {v1 : Int32} {om : cf_O} {r : Int32 × cf_O} (h : fM_balance_41 rc v1 om = some r) : ((om.1 43).toInt ≤ v1.toInt ∧ fM_finish om = some r) ∨ (v1.toInt < (om.1 43).toInt ∧ ∃ q : Int32, fM_base om = some q ∧ (((om.2.1 49 (q + v1).toNatClampNeg = 0 ∨ ¬ om.2.1 50 (q + v1).toNatClampNeg = 0) ∧ rc 0 (v1 + 1) om = some r) ∨ (¬ om.2.1 49 (q + v1).toNatClampNeg = 0 ∧ om.2.1 50 (q + v1).toNatClampNeg = 0 ∧ ∃ u : cf_O, fM_leaves v1 om = some u ∧ rc 1 v1 u = some r))) := by
  have k148 : fM_balance_148 rc v1 om = some r → rc 0 (v1 + 1) om = some r := fun z => by
    unfold fM_balance_148 at z
    rw [opk] at z
    exact z
  unfold fM_balance_41 at h
  rcases ifc h with ⟨a, h⟩ | ⟨a, h⟩
  · obtain ⟨u, hu, h⟩ := bd h
    have e := Option.some.inj h
    refine Or.inl ⟨c_le a, ?_⟩
    rw [hu, ← e]
  · obtain ⟨q, hq, h⟩ := bd h
    refine Or.inr ⟨c_nle a, q, hq, ?_⟩
    rw [opk] at h
    have h := (ifn h).2
    rw [opk] at h
    rcases ifc h with ⟨c, h⟩ | ⟨c, h⟩
    · exact Or.inl ⟨Or.inl c, k148 h⟩
    · obtain ⟨q', hq', h2⟩ := bd h
      have eq : q' = q := Option.some.inj (hq'.symm.trans hq)
      rw [eq, opk] at h2
      have h2 := (ifn h2).2
      rw [opk] at h2
      rcases ifc h2 with ⟨d, h2⟩ | ⟨d, h2⟩
      · obtain ⟨u, hu, h2⟩ := bd h2
        exact Or.inr ⟨c, d, u, hu, h2⟩
      · exact Or.inl ⟨Or.inr d, k148 h2⟩
def FqS (b g M : Nat) (re om : cf_O) : Prop := ∀ k : Nat, k < b + g → (k < b ∨ (¬ re.2.1 0 k = 0 ∧ re.2.1 3 k = 0)) → om.2.1 51 k = re.2.1 4 k ∧ 0 ≤ (re.2.1 4 k).toInt ∧ (re.2.1 4 k).toInt < 2 * (M : Int)
def BgC (b n m : Nat) (gr GT RE OM : cf_O) (rc : cf_O × cf_O) (rm : Int32 × cf_O) : Prop := ∃ (m' : Nat) (gt' om' : cf_O), m ≤ m' ∧ BlC b n gr rc.1 om' ∧ FqS b n (b + m') rc.1 om' ∧ Rg b m' gt' om' ∧ Fr (fr_M [7] [4, 5, 6] []) RE rc.1 ∧ Fr (fr_M [31, 36, 52, 54] [32, 33, 34, 51, 53, 55] []) OM om' ∧ Fr (fr_M [2, 3] [4, 5, 6, 8, 9] []) GT gt' ∧ fRe_takeResults rc.1 gr gt' = some rc.2 ∧ fM_finish om' = some rm
theorem bl_go {b n : Nat} {gr GT RE OM : cf_O} : ∀ (f1 f2 : Nat) (v3 v1 : Int32) (g m : Nat) (re gt om : cf_O) (rc : cf_O × cf_O) (rm : Int32 × cf_O), v1.toInt = (g : Int) → g ≤ n → v3.toInt = ((b + g : Nat) : Int) → BlC b n gr re om → FqS b g (b + m) re om → Rg b m gt om → Fr (fr_M [7] [4, 5, 6] []) RE re → Fr (fr_M [31, 36, 52, 54] [32, 33, 34, 51, 53, 55] []) OM om → Fr (fr_M [2, 3] [4, 5, 6, 8, 9] []) GT gt → gRe_makeBalanced f1 0 v3 re gr gt = some rc → gM_balance f2 0 v1 om = some rm → BgC b n m gr GT RE OM rc rm
  | 0, f2, v3, v1, g, m, re, gt, om, rc, rm, e1, gn, e3, B, F, R, fr, fo, fg, q1, q2 => by cases q1
  | f1 + 1, 0, v3, v1, g, m, re, gt, om, rc, rm, e1, gn, e3, B, F, R, fr, fo, fg, q1, q2 => by cases q2
  | f1 + 1, f2 + 1, v3, v1, g, m, re, gt, om, rc, rm, e1, gn, e3, B, F, R, fr, fo, fg, q1, q2 => by
    have q1 : fRe_makeBalanced_18 (gRe_makeBalanced f1) v3 re gr gt = some rc := q1
    have q2 : fM_balance_41 (gM_balance f2) v1 om = some rm := q2
    have B0 := B
    obtain ⟨G, R0, N, A, LK⟩ := B
    have G0 := G.1
    have n43 := R0.1.1
    obtain ⟨z, hz, q1⟩ := mb_18 q1
    have ez := size_sp G hz
    rcases q1 with ⟨a, u, hu, er⟩ | ⟨a, q1⟩
    · rcases rb_41 q2 with ⟨_, q2⟩ | ⟨d, _⟩
      · have eg : g = n := by omega
        subst eg; subst er
        exact ⟨m, gt, om, Nat.le_refl m, B0, F, R, fr, fo, fg, hu, q2⟩
      · omega
    · rcases rb_41 q2 with ⟨d, _⟩ | ⟨d, q, hq, q2⟩
      · omega
      have eb := base_sp R0 hq
      have eqv : (q + v1).toInt = ((b + g : Nat) : Int) := by rw [Int32.toInt_add, eb, i_bm (by omega) (by omega)]; omega
      have iq : (q + v1).toNatClampNeg = b + g := by have := tn_n (q + v1); omega
      have i3 : v3.toNatClampNeg = b + g := by have := tn_n v3; omega
      have p3 := p_1 (v := v3) (by omega) (by omega)
      have p1 := p_1 (v := v1) (by omega) (by omega)
      rw [i3] at q1
      rw [iq] at q2
      have nb := N (b + g) (by omega)
      have ab := A.1 (b + g) (by omega) (by omega)
      rw [nb.1, ab] at q2
      rcases q1 with ⟨c, q1⟩ | ⟨c, c2, u, w, hu, hw, q1⟩
      · rcases q2 with ⟨_, q2⟩ | ⟨d1, d2, _⟩
        · refine bl_go f1 f2 (v3 + 1) (v1 + 1) (g + 1) m re gt om rc rm (by omega) (by omega) (by omega) B0 (fun k hk hc => ?_) R fr fo fg q1 q2
          by_cases ek : k = b + g
          · exfalso
            rw [ek] at hc
            rcases hc with hc | ⟨h1, h2⟩
            · omega
            · exact c.elim (fun y => h1 y) (fun y => y h2)
          · exact F k (by omega) hc
        · exact absurd (c.elim (fun y => d1 y) (fun y => y d2)) id
      · rcases q2 with ⟨d, _⟩ | ⟨_, _, u', hu', q2⟩
        · exact absurd (d.elim (fun y => c y) (fun y => y c2)) id
        · obtain ⟨L1, L2, r, L3, L4, L50, L5, L6⟩ := leaves_sim (M := b + m) B0 (by omega) c F e3 e1 hu hu'
          have hw : fRe_joinRow u gt = some w := hw
          unfold fRe_joinRow fRe_joinRow_0 at hw
          have R' : Rg b m gt u' := Rg_f R (L2.1 31 rfl) (L2.1 36 rfl) (L2.1 37 rfl) (L2.2.1 32 rfl) (L2.2.1 33 rfl) (L2.2.1 34 rfl)
          have R0' : RGq b n gr u' := RGq_f R0 (L2.1 39 rfl) (L2.1 40 rfl) (L2.1 43 rfl) (L2.2.1 44 rfl) (L2.2.1 45 rfl) (L2.2.1 46 rfl) (L2.2.1 47 rfl)
          obtain ⟨m', f, om', J1, J2, J3, J4, J5, J6, J7, J8⟩ := jr_go (g := g) (RE := u) (OM := u') (GT := gt) R0' e1 (by omega) cfFU f2 0 r m gt u u' w rm R' (by omega) (by decide) (by rw [show (0 : Int32).toInt = 0 from rfl]; omega) L3 L4 L6 fr_rfl fr_rfl fr_rfl hw q2
          have fre : Fr (fr_M [7] [4, 5, 6] []) re (xp w.2.1 4 (b + g) w.1) := fr_xp (fr_tr (fr_tr fr_rfl L1 rfl rfl rfl) J5 rfl rfl rfl) rfl
          have fom : Fr (fr_M [31, 36, 52, 54] [32, 33, 34, 51, 53, 55] []) om (xp om' 51 (b + g) w.1) := fr_xp (fr_tr (fr_tr fr_rfl L2 rfl rfl rfl) J6 rfl rfl rfl) rfl
          have e51 : om'.2.1 51 = om.2.1 51 := (J6.2.1 51 rfl).trans (L2.2.1 51 rfl)
          have e4 : w.2.1.2.1 4 = re.2.1 4 := (J5.2.1 4 rfl).trans (L1.2.1 4 rfl)
          obtain ⟨m3, gt3, om3, D1, D2, D3, D4, D5, D6, D7, D8⟩ := bl_go (RE := xp w.2.1 4 (b + g) w.1) (OM := xp om' 51 (b + g) w.1) (GT := w.2.2) f1 f (v3 + 1) (v1 + 1) (g + 1) m' (xp w.2.1 4 (b + g) w.1) w.2.2 (xp om' 51 (b + g) w.1) rc rm (by omega) (by omega) (by omega) (BlC_f B0 (fre.2.1 0 rfl) (fre.2.1 1 rfl) (fre.2.1 3 rfl) (fom.1 39 rfl) (fom.1 40 rfl) (fom.1 43 rfl) (fom.2.1 44 rfl) (fom.2.1 45 rfl) (fom.2.1 46 rfl) (fom.2.1 47 rfl) (fom.2.1 48 rfl) (fom.2.1 49 rfl) (fom.2.1 50 rfl)) (fun k hk hc => by
            rw [fre.2.1 0 rfl, fre.2.1 3 rfl] at hc
            show upd (om'.2.1 51) (b + g) w.1 k = upd (w.2.1.2.1 4) (b + g) w.1 k ∧ 0 ≤ (upd (w.2.1.2.1 4) (b + g) w.1 k).toInt ∧ (upd (w.2.1.2.1 4) (b + g) w.1 k).toInt < 2 * ((b + m' : Nat) : Int)
            by_cases ek : k = b + g
            · rw [ek, up_s, up_s]; exact ⟨rfl, J3, J4⟩
            · have fk := F k (by omega) hc
              rw [up_o ek, up_o ek, e51, e4]; exact ⟨fk.1, fk.2.1, by have := fk.2.2; omega⟩) J2 fr_rfl fr_rfl fr_rfl q1 J8
          exact ⟨m3, gt3, om3, by omega, D2, D3, D4, fr_tr (fr_tr fr fre rfl rfl rfl) D5 rfl rfl rfl, fr_tr (fr_tr fo fom rfl rfl rfl) D6 rfl rfl rfl, fr_tr (fr_tr fg J7 rfl rfl rfl) D7 rfl rfl rfl, D8⟩
