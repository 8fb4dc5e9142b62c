def plN (p k : Nat) : Nat := p / 8 ^ k % 8
def eoB (s p : Nat) : Bool := (List.range s).all (fun j => (List.range s).any (fun k => plN p k / 2 == j))
def ixA (f : Nat → Nat → Bool) (i : Nat) : Nat → Nat
  | 0 => 0
  | k + 1 => ixA f i k + (if f k i then 2 ^ k else 0)
theorem ixA_l {f : Nat → Nat → Bool} {i : Nat} : ∀ k : Nat, ixA f i k < 2 ^ k
  | 0 => by show 0 < 1; decide
  | k + 1 => by
    have := ixA_l (f := f) (i := i) k
    have e : 2 ^ (k + 1) = 2 ^ k * 2 := Nat.pow_succ ..
    show ixA f i k + (if f k i then 2 ^ k else 0) < _
    split <;> omega
theorem ixA_c {f h : Nat → Nat → Bool} {i : Nat} : ∀ k : Nat, (∀ j : Nat, j < k → f j i = h j i) → ixA f i k = ixA h i k
  | 0, _ => rfl
  | k + 1, e => by
    show ixA f i k + (if f k i then 2 ^ k else 0) = ixA h i k + (if h k i then 2 ^ k else 0)
    rw [ixA_c k (fun j hj => e j (by omega)), e k (by omega)]
def plF (p : Nat) : Nat → Nat → Bool := fun k i => i.testBit (plN p k / 2) ^^ decide (plN p k % 2 = 1)
def GvQ (tb : Int32) (s p : Nat) (f : Nat → Bool) : Prop := ∀ i : Nat, i < 2 ^ s → bt tb (ixA (plF p) i s) = f i
def ptL (C : List Int) (p k : Nat) : Nat := 2 * (C.getD (plN p k / 2) 0).toNat + plN p k % 2
theorem sb_i {t : Int32} {j : Nat} (t0 : 0 ≤ t.toInt) (hj : j < 30) : t >>> (Int32.ofNat j &&& 31) &&& 1 = bI (bt t j) := by
  have h := tbit t0 hj
  cases z : bt t j with
  | true => exact h.1.mpr z
  | false => exact h.2.mpr z
theorem bI_ec {a c : Bool} : bI a = bI c ↔ a = c := by cases a <;> cases c <;> decide
theorem ix_st1 : ∀ k : Nat, k < 3 → ∀ a : Nat, a < 8 → a < 2 ^ k → (Int32.ofNat a ||| (bI true <<< (Int32.ofNat k &&& 31))).toInt = ((a + 2 ^ k : Nat) : Int) := by decide +kernel
theorem ix_st0 : ∀ k : Nat, k < 3 → ∀ a : Nat, a < 8 → a < 2 ^ k → (Int32.ofNat a ||| (bI false <<< (Int32.ofNat k &&& 31))).toInt = ((a : Nat) : Int) := by decide +kernel
theorem ix_st {v6 v7 : Int32} {f : Nat → Nat → Bool} {i k : Nat} (hk : k < 3) (e6 : v6.toInt = (ixA f i k : Int)) (e7 : v7.toInt = (k : Int)) : (v6 ||| (bI (f k i) <<< (v7 &&& 31))).toInt = (ixA f i (k + 1) : Int) := by
  have l := ixA_l (f := f) (i := i) k
  have l8 : 2 ^ k ≤ 2 ^ 2 := Nat.pow_le_pow_right (by decide) (by omega)
  rw [on_i e6, on_i e7]
  show _ = ((ixA f i k + (if f k i then 2 ^ k else 0) : Nat) : Int)
  cases f k i with
  | true => rw [if_pos rfl]; exact ix_st1 k hk _ (by omega) l
  | false => rw [if_neg (by decide), Nat.add_zero]; exact ix_st0 k hk _ (by omega) l
def GmQ (om : cf_O) (l s c : Nat) (f : Nat → Nat → Bool) (L : Nat → Bool) (x : Nat → Nat) : Prop := (∀ k : Nat, k < s → (om.2.1 90 (2 + k)).toInt = (x k : Int) ∧ ∃ u : Nat → Bool, MkE (om.2.1 91 (x k / 2)) u ∧ ∀ i : Nat, i < 8 → f k i = (u i ^^ decide (x k % 2 = 1))) ∧ (∃ u : Nat → Bool, MkE (om.2.1 91 (l / 2)) u ∧ ∀ i : Nat, i < 8 → L i = (u i ^^ decide (l % 2 = 1))) ∧ (0 ≤ (om.2.1 84 (4 * c + 3)).toInt ∧ c < 12)
theorem gv_go {l s c : Nat} {f : Nat → Nat → Bool} {L : Nat → Bool} {x : Nat → Nat} {om : cf_O} {v1 v2 v3 : Int32} (Q : GmQ om l s c f L x) (e1 : v1.toInt = (l : Int)) (e2 : v2.toInt = (s : Int)) (hs : s ≤ 3) (e3 : v3.toInt = (c : Int)) : ∀ fu : Nat,
    (∀ (i : Nat) (v4 v5 w6 w7 r : Int32), v5.toInt = (i : Int) → i ≤ 8 → ((v4 = 1 ∧ ∀ j : Nat, j < i → bt (om.2.1 84 (4 * c + 3)) (ixA f j s) = L j) ∨ (v4 = 0 ∧ ∃ j : Nat, j < 8 ∧ ¬ bt (om.2.1 84 (4 * c + 3)) (ixA f j s) = L j)) → gM_gives fu 0 v1 v2 v3 v4 v5 w6 w7 om = some r → (r = 1 ∧ ∀ j : Nat, j < 8 → bt (om.2.1 84 (4 * c + 3)) (ixA f j s) = L j) ∨ (r = 0 ∧ ∃ j : Nat, j < 8 ∧ ¬ bt (om.2.1 84 (4 * c + 3)) (ixA f j s) = L j)) ∧
    (∀ (i k : Nat) (v4 v5 v6 v7 r : Int32), v5.toInt = (i : Int) → i < 8 → k ≤ s → v7.toInt = (k : Int) → v6.toInt = (ixA f i k : Int) → ((v4 = 1 ∧ ∀ j : Nat, j < i → bt (om.2.1 84 (4 * c + 3)) (ixA f j s) = L j) ∨ (v4 = 0 ∧ ∃ j : Nat, j < 8 ∧ ¬ bt (om.2.1 84 (4 * c + 3)) (ixA f j s) = L j)) → gM_gives fu 1 v1 v2 v3 v4 v5 v6 v7 om = some r → (r = 1 ∧ ∀ j : Nat, j < 8 → bt (om.2.1 84 (4 * c + 3)) (ixA f j s) = L j) ∨ (r = 0 ∧ ∃ j : Nat, j < 8 ∧ ¬ bt (om.2.1 84 (4 * c + 3)) (ixA f j s) = L j))
  | 0 => ⟨fun _ _ _ _ _ _ _ _ _ h => (by cases h), fun _ _ _ _ _ _ _ _ _ _ _ _ _ h => (by cases h)⟩
  | fu + 1 => by
    obtain ⟨i0, i1⟩ := gv_go Q e1 e2 hs e3 fu
    obtain ⟨Q1, ⟨u, Q2, Q3⟩, Q4, Q5⟩ := Q
    refine ⟨?_, ?_⟩
    · intro i v4 v5 w6 w7 r e5 hi A h
      have h : fM_gives_13 (gM_gives fu) v1 v2 v3 v4 v5 om = some r := h
      unfold fM_gives_13 at h
      rcases ifc h with ⟨a, h⟩ | ⟨a, h⟩
      · have a : 8 ≤ v5.toInt := c_le a
        have e := b01_sp h
        subst e
        rcases A with ⟨p, q⟩ | ⟨p, q⟩
        · exact Or.inl ⟨p, fun j hj => q j (by omega)⟩
        · exact Or.inr ⟨p, q⟩
      · have a : v5.toInt < 8 := c_nle a
        exact i1 i 0 v4 v5 0 0 r e5 (by omega) (Nat.zero_le _) rfl rfl A h
    · intro i k v4 v5 v6 v7 r e5 hi hk e7 e6 A h
      have h : fM_gives_26 (gM_gives fu) v1 v2 v3 v4 v5 v6 v7 om = some r := h
      unfold fM_gives_26 at h
      have p5 := pW (v := v5) (by omega) (by omega)
      have p7 := pW (v := v7) (by omega) (by omega)
      have n101 : (∃ j : Nat, j < 8 ∧ ¬ bt (om.2.1 84 (4 * c + 3)) (ixA f j s) = L j) → fM_gives_101 (gM_gives fu) v1 v2 v3 v5 om = some r → (r = 1 ∧ ∀ j : Nat, j < 8 → bt (om.2.1 84 (4 * c + 3)) (ixA f j s) = L j) ∨ (r = 0 ∧ ∃ j : Nat, j < 8 ∧ ¬ bt (om.2.1 84 (4 * c + 3)) (ixA f j s) = L j) := fun ne z => by
        unfold fM_gives_101 fM_gives_102 at z
        rw [opk] at z
        exact i0 (i + 1) 0 (v5 + 1) 0 0 r (by omega) (by omega) (Or.inr ⟨rfl, ne⟩) z
      rcases ifc h with ⟨a, h⟩ | ⟨a, h⟩
      · have a := c_le a
        have ek : k = s := by omega
        subst ek
        rcases ifc h with ⟨z4, h⟩ | ⟨z4, h⟩
        · rcases A with ⟨p, q⟩ | ⟨p, q⟩
          · rw [p] at z4; exact absurd z4 (by decide)
          · exact n101 q h
        · have A1 : v4 = 1 ∧ ∀ j : Nat, j < i → bt (om.2.1 84 (4 * c + 3)) (ixA f j k) = L j := A.resolve_right (fun q => z4 q.1)
          have m4 : (4 * v3).toInt = 4 * (c : Int) := by rw [Int32.toInt_mul, e3, show (4 : Int32).toInt = 4 from rfl, i_bm (by omega) (by omega)]
          have a4 : (4 * v3 + 3).toInt = ((4 * c + 3 : Nat) : Int) := by rw [Int32.toInt_add, m4, show (3 : Int32).toInt = 3 from rfl, i_bm (by omega) (by omega)]; omega
          have l8 : 2 ^ k ≤ 2 ^ 3 := Nat.pow_le_pow_right (by decide) (by omega)
          have ll := ixA_l (f := f) (i := i) k
          rw [opk, opk, tW a4] at h
          have h := (ifn h).2
          rw [opk, on_i e6, opk, opk, sb_i Q4 (by omega)] at h
          obtain ⟨q9, hq9, h⟩ := bd h
          have Mq := lmask_sp e1 Q2 hq9
          have mq : bt q9 i = L i := by
            rw [Mq i (by omega), decide_eq_true hi, Bool.true_and]; exact (Q3 i hi).symm
          rw [opk, on_i e5, opk, sb_i (MkE_n Mq).1 (by omega), mq] at h
          rcases ifc h with ⟨c2, h⟩ | ⟨c2, h⟩
          · have c2 := bI_ec.mp c2
            unfold fM_gives_102 at h
            rw [opk, ← on_i e5] at h
            refine i0 (i + 1) 1 (v5 + 1) 0 0 r (by omega) (by omega) (Or.inl ⟨rfl, fun j hj => ?_⟩) h
            by_cases ej : j = i
            · rw [ej]; exact c2
            · exact A1.2 j (by omega)
          · have c2 : ¬ bt (om.2.1 84 (4 * c + 3)) (ixA f i k) = L i := fun z => c2 (bI_ec.mpr z)
            rw [← on_i e5] at h
            exact n101 ⟨i, hi, c2⟩ h
      · have a := c_nle a
        have a2 : (2 + v7).toInt = ((2 + k : Nat) : Int) := by rw [Int32.toInt_add, e7, show (2 : Int32).toInt = 2 from rfl, i_bm (by omega) (by omega)]; omega
        obtain ⟨y1, w, y2, y3⟩ := Q1 k (by omega)
        rw [opk, tW a2] at h
        have h := (ifn h).2
        rw [opk] at h
        obtain ⟨q18, hq18, h⟩ := bd h
        have Mq := lmask_sp y1 y2 hq18
        have mq : bt q18 i = f k i := by
          rw [Mq i (by omega), decide_eq_true hi, Bool.true_and]; exact (y3 i hi).symm
        rw [opk, on_i e5, opk, sb_i (MkE_n Mq).1 (by omega), mq, opk, opk, opk, ← on_i e5] at h
        exact i1 i (k + 1) v4 v5 _ (v7 + 1) r e5 hi (by omega) (by omega) (ix_st (by omega) e6 e7) A h
theorem gives_sp {l s c : Nat} {f : Nat → Nat → Bool} {L : Nat → Bool} {x : Nat → Nat} {om : cf_O} {v1 v2 r : Int32} (Q : GmQ om l s c f L x) (e1 : v1.toInt = (l : Int)) (e2 : v2.toInt = (s : Int)) (hs : s ≤ 3) (e3 : (om.2.1 90 1).toInt = (c : Int)) (h : fM_gives v1 v2 om = some r) : (r = 1 ∧ ∀ j : Nat, j < 8 → bt (om.2.1 84 (4 * c + 3)) (ixA f j s) = L j) ∨ (r = 0 ∧ ∃ j : Nat, j < 8 ∧ ¬ bt (om.2.1 84 (4 * c + 3)) (ixA f j s) = L j) := by
  unfold fM_gives fM_gives_0 at h
  have h := (ifn h).2
  rw [opk] at h
  exact (gv_go Q e1 e2 hs e3 cfFU).1 0 1 0 0 0 r rfl (by decide) (Or.inl ⟨rfl, fun j hj => absurd hj (by omega)⟩) h
