def SmQ (V : Nat → Nat → Bool) (N k g : Nat) : Prop := ∀ i : Nat, i < N → V k i = V g i
def OpQ (V : Nat → Nat → Bool) (N k g : Nat) : Prop := ∀ i : Nat, i < N → ¬ V k i = V g i
def LkQ (V : Nat → Nat → Bool) (N b : Nat) (nd : Nat → Int32) (g k : Nat) : Prop := (k < b ∨ ¬ nd k = 0) ∧ (SmQ V N k g ∨ OpQ V N k g)
theorem SmQ_256 {b n k g : Nat} {gr : cf_O} {V : Nat → Nat → Bool} (G : GW b n gr) (S : VSq b n gr V) (hk : k < b + n) (hg : g < b + n) : (∀ i : Nat, i < 256 → V k i = V g i) ↔ SmQ V (2 ^ (b - 1)) k g := by
  have G0 := G.1
  have p2 : 2 ^ (b - 1) ≤ 256 := Nat.le_trans (Nat.pow_le_pow_right (by decide) (show b - 1 ≤ 8 by omega)) (by decide)
  have p0 : 0 < 2 ^ (b - 1) := Nat.pow_pos (by decide)
  refine ⟨fun h i hi => h i (by omega), fun h i _ => ?_⟩
  rw [VS_m G S hk, VS_m G S hg]; exact h _ (Nat.mod_lt _ p0)
theorem OpQ_256 {b n k g : Nat} {gr : cf_O} {V : Nat → Nat → Bool} (G : GW b n gr) (S : VSq b n gr V) (hk : k < b + n) (hg : g < b + n) : (∀ i : Nat, i < 256 → ¬ V k i = V g i) ↔ OpQ V (2 ^ (b - 1)) k g := by
  have G0 := G.1
  have p2 : 2 ^ (b - 1) ≤ 256 := Nat.le_trans (Nat.pow_le_pow_right (by decide) (show b - 1 ≤ 8 by omega)) (by decide)
  have p0 : 0 < 2 ^ (b - 1) := Nat.pow_pos (by decide)
  refine ⟨fun h i hi => h i (by omega), fun h i _ => ?_⟩
  rw [VS_m G S hk, VS_m G S hg]; exact h _ (Nat.mod_lt _ p0)
theorem bnot_ne {x y : Bool} : (!x) = y ↔ ¬ x = y := by cases x <;> cases y <;> decide
theorem lvq_e {V : Nat → Nat → Bool} {x : Int32} {k i : Nat} (h : x.toInt = 2 * (k : Int)) : lvq V x i = V k i := by
  unfold lvq od
  rw [show x.toInt.toNat / 2 = k from by omega, decide_eq_false (by omega), Bool.xor_false]
theorem lvq_o {V : Nat → Nat → Bool} {x : Int32} {k i : Nat} (h : x.toInt = 2 * (k : Int) + 1) : lvq V x i = !(V k i) := by
  unfold lvq od
  rw [show x.toInt.toNat / 2 = k from by omega, decide_eq_true (by omega), Bool.xor_true]
def LaC (V : Nat → Nat → Bool) (N b : Nat) (nd : Nat → Int32) (g : Nat) (r : Int32) : Prop := (r = -1 ∧ ∀ k : Nat, k < g → ¬ LkQ V N b nd g k) ∨ (∃ k : Nat, k < g ∧ LkQ V N b nd g k ∧ (∀ j : Nat, j < k → ¬ LkQ V N b nd g j) ∧ ((SmQ V N k g ∧ r.toInt = 2 * (k : Int)) ∨ (¬ SmQ V N k g ∧ OpQ V N k g ∧ r.toInt = 2 * (k : Int) + 1)))
theorem la_go {b n g : Nat} {V : Nat → Nat → Bool} {gr re fu : cf_O} {v2 : Int32} (G : GW b n gr) (S : VSq b n gr V) (B : FuB b n V fu) (e2 : v2.toInt = (g : Int)) (hg : g < b + n) : ∀ (fuel : Nat) (v4 r : Int32) (k : Nat), v4.toInt = (k : Int) → k ≤ g → (∀ j : Nat, j < k → ¬ LkQ V (2 ^ (b - 1)) b (re.2.1 0) g j) → gRe_literalAlike fuel 0 v2 v4 re gr fu = some r → LaC V (2 ^ (b - 1)) b (re.2.1 0) g r
  | 0, v4, r, k, e4, kg, hz, h => by cases h
  | fuel + 1, v4, r, k, e4, kg, hz, h => by
    have G0 := G.1
    have h : fRe_literalAlike_3 (gRe_literalAlike fuel) v2 v4 re gr fu = some r := h
    unfold fRe_literalAlike_3 at h
    have p4 := p_1 (v := v4) (by omega) (by omega)
    have k73 : ¬ LkQ V (2 ^ (b - 1)) b (re.2.1 0) g k → k < g → fRe_literalAlike_73 (gRe_literalAlike fuel) v2 v4 re gr fu = some r → LaC V (2 ^ (b - 1)) b (re.2.1 0) g r := fun nl kl z => by
      unfold fRe_literalAlike_73 at z
      rw [opk] at z
      refine la_go G S B e2 hg fuel (v4 + 1) r (k + 1) (by omega) (by omega) (fun j hj => ?_) z
      by_cases e : j = k
      · rw [e]; exact nl
      · exact hz j (by omega)
    rcases ifc h with ⟨a, h⟩ | ⟨a, h⟩
    · have a := c_le a
      refine Or.inl ⟨(Option.some.inj h).symm, fun j hj => hz j (by omega)⟩
    · have a := c_nle a
      have m2 : ∀ (u : Int32) (c : Nat), u.toInt = (c : Int) → c < b + n → (2 * u).toInt = 2 * (c : Int) := fun u c eu hc => by
        rw [Int32.toInt_mul, eu, i_bm (by rw [show (2 : Int32).toInt = 2 from rfl]; omega) (by rw [show (2 : Int32).toInt = 2 from rfl]; omega)]; rfl
      have mk := m2 v4 k e4 (by omega)
      have mg := m2 v2 g e2 hg
      have mo : (2 * v4 + 1).toInt = 2 * (k : Int) + 1 := by rw [p_1 (by omega) (by omega), mk]
      have k31 : (k < b ∨ ¬ re.2.1 0 k = 0) → fRe_literalAlike_31 (gRe_literalAlike fuel) v2 v4 re gr fu = some r → LaC V (2 ^ (b - 1)) b (re.2.1 0) g r := fun hh z => by
        unfold fRe_literalAlike_31 at z
        rw [opk, opk] at z
        obtain ⟨q, hq, z⟩ := bd z
        have y1 := Yn_i (same_sp B (by omega) (by omega) (by omega) (by omega) (by omega) hq) (Q := SmQ V (2 ^ (b - 1)) k g) (Iff.trans ⟨fun w i hi => by have := w i hi; rw [lvq_e mk, lvq_e mg] at this; exact this, fun w i hi => by rw [lvq_e mk, lvq_e mg]; exact w i hi⟩ (SmQ_256 G S (by omega) hg))
        rcases ifc z with ⟨c, z⟩ | ⟨c, z⟩
        · have n1 := Yn_0 y1 c
          rw [opk, opk, opk] at z
          obtain ⟨t, ht, z⟩ := bd z
          have y2 := Yn_i (same_sp B (by omega) (by omega) (by omega) (by omega) (by omega) ht) (Q := OpQ V (2 ^ (b - 1)) k g) (Iff.trans ⟨fun w i hi => bnot_ne.mp (by have := w i hi; rw [lvq_o mo, lvq_e mg] at this; exact this), fun w i hi => by rw [lvq_o mo, lvq_e mg]; exact bnot_ne.mpr (w i hi)⟩ (OpQ_256 G S (by omega) hg))
          rcases ifc z with ⟨d, z⟩ | ⟨d, z⟩
          · exact k73 (fun w => w.2.elim n1 (Yn_0 y2 d)) (by omega) z
          · rw [opk, opk] at z
            rw [← Option.some.inj z]
            exact Or.inr ⟨k, by omega, ⟨hh, Or.inr (Yn_1 y2 d)⟩, hz, Or.inr ⟨n1, Yn_1 y2 d, mo⟩⟩
        · rw [opk] at z
          rw [← Option.some.inj z]
          exact Or.inr ⟨k, by omega, ⟨hh, Or.inl (Yn_1 y1 c)⟩, hz, Or.inl ⟨Yn_1 y1 c, mk⟩⟩
      obtain ⟨q, hq, h⟩ := bd h
      have yq := isGate_sp G hq
      rcases ifc h with ⟨c, h⟩ | ⟨c, h⟩
      · have nq := Yn_0 yq c
        exact k31 (Or.inl (by omega)) h
      · have gq := Yn_1 yq c
        have i4 : v4.toNatClampNeg = k := by have := tn_n v4; omega
        have h := (ifn h).2
        rw [opk, i4] at h
        rcases ifc h with ⟨d, h⟩ | ⟨d, h⟩
        · exact k73 (fun w => w.1.elim (fun y => by omega) (fun y => y d)) (by omega) h
        · exact k31 (Or.inr d) h
theorem la_sp {b n g : Nat} {V : Nat → Nat → Bool} {gr re fu : cf_O} {v2 r : Int32} (G : GW b n gr) (S : VSq b n gr V) (B : FuB b n V fu) (e2 : v2.toInt = (g : Int)) (hg : g < b + n) (h : fRe_literalAlike v2 re gr fu = some r) : LaC V (2 ^ (b - 1)) b (re.2.1 0) g r := by
  unfold fRe_literalAlike fRe_literalAlike_0 at h
  exact la_go G S B e2 hg cfFU 0 r 0 rfl (Nat.zero_le g) (fun j hj => absurd hj (Nat.not_lt_zero j)) h
theorem rr_140 {rc : Nat → Int32 → Int32 → Int32 → Int32 → cf_O → Option (Int32 × cf_O)} {v1 v2 v4 s0 : Int32} {om : cf_O} : fM_reduce_140 rc v1 v2 v4 s0 om = rc 1 v1 v2 s0 (v4 + (-1)) om := by
  unfold fM_reduce_140
  rw [opk]
theorem rr_67 {rc : Nat → Int32 → Int32 → Int32 → Int32 → cf_O → Option (Int32 × cf_O)} {v1 v2 v3 v4 : Int32} {om : cf_O} {r : Int32 × cf_O} (h : fM_reduce_67 rc v1 v2 v3 v4 om = some r) : ((v4.toInt < 0 ∨ om.2.1 49 v2.toNatClampNeg = 0) ∧ fM_reduce_147 rc v1 v2 v3 om = some r) ∨ (0 ≤ v4.toInt ∧ ¬ om.2.1 49 v2.toNatClampNeg = 0 ∧ ∃ q : Int32, fM_base om = some q ∧ ((q.toInt ≤ v4.toInt ∧ om.2.1 49 v4.toNatClampNeg = 0 ∧ rc 1 v1 v2 v3 (v4 + (-1)) om = some r) ∨ ((v4.toInt < q.toInt ∨ ¬ om.2.1 49 v4.toNatClampNeg = 0) ∧ ∃ s : Int32, fM_agree v4 v2 0 om = some s ∧ ((¬ s = 0 ∧ rc 1 v1 v2 v4 (v4 + (-1)) om = some r) ∨ (s = 0 ∧ ∃ t : Int32, fM_agree v4 v2 1 om = some t ∧ ((t = 0 ∧ rc 1 v1 v2 v3 (v4 + (-1)) om = some r) ∨ (¬ t = 0 ∧ rc 1 v1 v2 v4 (v4 + (-1)) om = some r))))))) := by
  have k139 : fM_reduce_139 rc v1 v2 v3 v4 om = some r → rc 1 v1 v2 v3 (v4 + (-1)) om = some r := fun z => by
    unfold fM_reduce_139 at z
    rw [rr_140] at z
    exact z
  have k134 : fM_reduce_134 rc v1 v2 v4 om = some r → rc 1 v1 v2 v4 (v4 + (-1)) om = some r := fun z => by
    unfold fM_reduce_134 at z
    rw [rr_140] at z
    exact z
  have k100 : fM_reduce_100 rc v1 v2 v3 v4 om = some r → ∃ s : Int32, fM_agree v4 v2 0 om = some s ∧ ((¬ s = 0 ∧ rc 1 v1 v2 v4 (v4 + (-1)) om = some r) ∨ (s = 0 ∧ ∃ t : Int32, fM_agree v4 v2 1 om = some t ∧ ((t = 0 ∧ rc 1 v1 v2 v3 (v4 + (-1)) om = some r) ∨ (¬ t = 0 ∧ rc 1 v1 v2 v4 (v4 + (-1)) om = some r)))) := fun z => by
    unfold fM_reduce_100 fM_reduce_105 at z
    rw [if_neg (by decide)] at z
    obtain ⟨s, hs, z⟩ := bd z
    refine ⟨s, hs, ?_⟩
    rcases ifc z with ⟨a, z⟩ | ⟨a, z⟩
    · obtain ⟨t, ht, z⟩ := bd z
      refine Or.inr ⟨a, t, ht, ?_⟩
      rcases ifc z with ⟨c, z⟩ | ⟨c, z⟩
      · exact Or.inl ⟨c, k139 z⟩
      · exact Or.inr ⟨c, k134 z⟩
    · exact Or.inl ⟨a, k134 z⟩
  unfold fM_reduce_67 at h
  rcases ifc h with ⟨a, h⟩ | ⟨a, h⟩
  · exact Or.inl ⟨Or.inl (c_lt a), h⟩
  · have a : 0 ≤ v4.toInt := c_nlt a
    have h := (ifn h).2
    rw [opk] at h
    rcases ifc h with ⟨c, h⟩ | ⟨c, h⟩
    · exact Or.inl ⟨Or.inr c, h⟩
    · obtain ⟨q, hq, h⟩ := bd h
      refine Or.inr ⟨a, c, q, hq, ?_⟩
      rcases ifc h with ⟨d, h⟩ | ⟨d, h⟩
      · exact Or.inr ⟨Or.inl (c_lt d), k100 h⟩
      · have h := (ifn h).2
        rw [opk] at h
        rcases ifc h with ⟨e, h⟩ | ⟨e, h⟩
        · unfold fM_reduce_105 at h
          rw [if_pos rfl] at h
          exact Or.inl ⟨c_nlt d, e, k139 h⟩
        · exact Or.inr ⟨Or.inr e, k100 h⟩
def LeC (V : Nat → Nat → Bool) (N b : Nat) (nd : Nat → Int32) (g lo : Nat) (v3 : Int32) : Prop := (v3 = -1 ∧ ∀ k : Nat, lo ≤ k → k < g → ¬ LkQ V N b nd g k) ∨ (∃ k : Nat, v3.toInt = (k : Int) ∧ lo ≤ k ∧ k < g ∧ LkQ V N b nd g k ∧ ∀ j : Nat, lo ≤ j → j < k → ¬ LkQ V N b nd g j)
theorem rl_go {b n g : Nat} {V : Nat → Nat → Bool} {gr om : cf_O} {v1 v2 : Int32} (G : GW b n gr) (S : VSq b n gr V) (R : RGq b n gr om) (I : ReI b n (2 ^ (b - 1)) V om) (e2 : v2.toInt = (g : Int)) (hg : g < b + n) (nz : ¬ om.2.1 49 g = 0) : ∀ (fuel : Nat) (v3 v4 : Int32) (rm : Int32 × cf_O) (k : Nat), v4.toInt = (k : Int) - 1 → k ≤ g → LeC V (2 ^ (b - 1)) b (om.2.1 49) g k v3 → gM_reduce fuel 1 v1 v2 v3 v4 om = some rm → ∃ (f : Nat) (w : Int32), LeC V (2 ^ (b - 1)) b (om.2.1 49) g 0 w ∧ fM_reduce_147 (gM_reduce f) v1 v2 w om = some rm
  | 0, v3, v4, rm, k, e4, kg, L, h => by cases h
  | fuel + 1, v3, v4, rm, k, e4, kg, L, h => by
    have G0 := G.1
    have h : fM_reduce_67 (gM_reduce fuel) v1 v2 v3 v4 om = some rm := h
    have i2 : v2.toNatClampNeg = g := by have := tn_n v2; omega
    rcases rr_67 h with ⟨a, h⟩ | ⟨a, _, q, hq, h⟩
    · rcases a with a | a
      · rw [show k = 0 from by omega] at L
        exact ⟨fuel, v3, L, h⟩
      · rw [i2] at a; exact absurd a nz
    · have eb := base_sp R hq
      have m4 := m_1g (v := v4) a
      generalize v4 + (-1) = w4 at h m4
      obtain ⟨j, hj⟩ : ∃ j : Nat, k = j + 1 := ⟨k - 1, by omega⟩
      have e4j : v4.toInt = (j : Int) := by omega
      have i4 : v4.toNatClampNeg = j := by have := tn_n v4; omega
      rw [i4] at h
      -- not this one
      have no : ¬ LkQ V (2 ^ (b - 1)) b (om.2.1 49) g j → gM_reduce fuel 1 v1 v2 v3 w4 om = some rm → ∃ (f : Nat) (w : Int32), LeC V (2 ^ (b - 1)) b (om.2.1 49) g 0 w ∧ fM_reduce_147 (gM_reduce f) v1 v2 w om = some rm := fun nl z => by
        refine rl_go G S R I e2 hg nz fuel v3 w4 rm j (by omega) (by omega) ?_ z
        rcases L with ⟨l1, l2⟩ | ⟨t, l1, l2, l3, l4, l5⟩
        · refine Or.inl ⟨l1, fun u u1 u2 => ?_⟩
          by_cases e : u = j
          · rw [e]; exact nl
          · exact l2 u (by omega) u2
        · refine Or.inr ⟨t, l1, by omega, l3, l4, fun u u1 u2 => ?_⟩
          by_cases e : u = j
          · rw [e]; exact nl
          · exact l5 u (by omega) u2
      have yes : LkQ V (2 ^ (b - 1)) b (om.2.1 49) g j → gM_reduce fuel 1 v1 v2 v4 w4 om = some rm → ∃ (f : Nat) (w : Int32), LeC V (2 ^ (b - 1)) b (om.2.1 49) g 0 w ∧ fM_reduce_147 (gM_reduce f) v1 v2 w om = some rm := fun yl z =>
        rl_go G S R I e2 hg nz fuel v4 w4 rm j (by omega) (by omega) (Or.inr ⟨j, e4j, Nat.le_refl j, by omega, yl, fun u u1 u2 => by omega⟩) z
      rcases h with ⟨c, d, h⟩ | ⟨c, s, hs, h⟩
      · exact no (fun w => w.1.elim (fun y => by omega) (fun y => y d)) h
      · have hh : j < b ∨ ¬ om.2.1 49 j = 0 := c.imp (fun y => by omega) id
        have y1 := Yn_i (agree_sp G R I e4j e2 (by omega) hg hs) (Q := SmQ V (2 ^ (b - 1)) j g) ⟨fun w i hi => (w i hi).1 rfl, fun w i hi => ⟨fun _ => w i hi, fun z => absurd rfl z⟩⟩
        rcases h with ⟨s0, h⟩ | ⟨s0, t, ht, h⟩
        · exact yes ⟨hh, Or.inl (Yn_1 y1 s0)⟩ h
        · have n1 := Yn_0 y1 s0
          have y2 := Yn_i (agree_sp G R I e4j e2 (by omega) hg ht) (Q := OpQ V (2 ^ (b - 1)) j g) ⟨fun w i hi => (w i hi).2 (by decide), fun w i hi => ⟨fun z => absurd z (by decide), fun _ => w i hi⟩⟩
          rcases h with ⟨t0, h⟩ | ⟨t0, h⟩
          · exact no (fun w => w.2.elim n1 (Yn_0 y2 t0)) h
          · exact yes ⟨hh, Or.inr (Yn_1 y2 t0)⟩ h
