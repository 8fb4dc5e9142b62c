theorem pc_cn : ∀ (k x : Nat), pcN k x = cnF (fun j => x.testBit j) k
  | 0, _ => rfl
  | k + 1, x => by
    show x % 2 + pcN k (x / 2) = _
    rw [pc_cn k (x / 2), Nat.add_comm k 1, cnF_a (m := 1) k]
    have e1 : cnF (fun j => x.testBit j) 1 = x % 2 := by
      show 0 + (if x.testBit 0 then 1 else 0) = _
      rw [Nat.testBit_zero]
      by_cases c : x % 2 = 1
      · rw [decide_eq_true c, if_pos rfl]; omega
      · rw [decide_eq_false c, if_neg (by decide)]; omega
    rw [e1]
    congr 1
    refine cnF_e k (fun i _ => ?_)
    rw [Nat.add_comm 1 i, Nat.testBit_succ]
theorem shr_t : ∀ x : Nat, x < 257 → ∀ k : Nat, k < 9 → (Int32.ofNat x >>> (Int32.ofNat k &&& 31)) = Int32.ofNat (x / 2 ^ k) := by decide +kernel
theorem cnF_p {F : Nat → Bool} {N : Nat} (hN : 0 < N) (hF : ∀ i : Nat, F i = F (i % N)) : ∀ c : Nat, cnF F (c * N) = c * cnF F N
  | 0 => by rw [Nat.zero_mul, Nat.zero_mul]; rfl
  | c + 1 => by
    rw [Nat.succ_mul, cnF_a, cnF_p hN hF c, Nat.succ_mul]
    congr 1
    refine cnF_e N (fun i _ => ?_)
    rw [hF (c * N + i), hF i, Nat.mul_add_mod_self_right]
theorem ons_go {b n m : Nat} {x v2 : Int32} {fu : cf_O} {V : Nat → Nat → Bool} (B : FuB b n V fu) (x0 : 0 ≤ x.toInt) (x1 : x.toInt < 2 * ((b + n : Nat) : Int)) (bn : b + n ≤ 209) (e2 : v2.toInt = (m : Int)) (hm : m ≤ 8) : ∀ (f w : Nat) (v3 v4 r : Int32), v4.toInt = (w : Int) → w ≤ 4 → v3.toInt = (cnF (lvq V x) (64 * w) : Int) → gFu_ones f 0 x v2 v3 v4 fu = some r → r.toInt = ((cnF (lvq V x) 256 / 2 ^ (8 - m) : Nat) : Int)
  | 0, w, v3, v4, r, e4, hw, e3, h => by cases h
  | f + 1, w, v3, v4, r, e4, hw, e3, h => by
    have h : fFu_ones_5 (gFu_ones f) x v2 v3 v4 fu = some r := h
    unfold fFu_ones_5 at h
    have cl := cnF_le (f := lvq V x) (64 * w)
    rcases ifc h with ⟨a, h⟩ | ⟨a, h⟩
    · have a : 4 ≤ v4.toInt := c_le a
      have ew : w = 4 := by omega
      subst ew
      rw [opk, opk] at h
      have ex : (8 - v2).toInt = ((8 - m : Nat) : Int) := by rw [i_sub' (by decide) (by decide) (by omega) (by omega), show (8 : Int32).toInt = 8 from rfl]; omega
      rw [on_i ex, on_i e3, shr_t _ (by omega) _ (by omega)] at h
      rw [← Option.some.inj h]
      have dl : cnF (lvq V x) (64 * 4) / 2 ^ (8 - m) ≤ cnF (lvq V x) (64 * 4) := Nat.div_le_self _ _
      exact ofiN (by omega)
    · have a : v4.toInt < 4 := c_nle a
      obtain ⟨p, hp, h⟩ := bd h
      obtain ⟨q, hq, h⟩ := bd h
      rw [opk, opk] at h
      have bp := wd_sp B x0 x1 bn (by omega) a hp
      have eq := bc_sp hq
      rw [pc_cn] at eq
      have ec : cnF (fun j => (nv p).testBit j) 64 = cnF (fun i => lvq V x (64 * w + i)) 64 := cnF_e 64 (fun j hj => by
        have z := bp j hj
        rw [show v4.toInt.toNat = w by omega] at z
        exact z)
      rw [ec] at eq
      have cq := cnF_le (f := fun i => lvq V x (64 * w + i)) 64
      have ca := cnF_a (f := lvq V x) (m := 64 * w) 64
      exact ons_go B x0 x1 bn e2 hm f (w + 1) (v3 + q) (v4 + 1) r (by rw [pW (by omega) (by omega)]; omega) (by omega) (by rw [Int32.toInt_add, i_bm (by omega) (by omega), show 64 * (w + 1) = 64 * w + 64 by omega, ca]; omega) h
theorem ons_sp {b n : Nat} {gr : cf_O} {x v2 r : Int32} {fu : cf_O} {V : Nat → Nat → Bool} (G : GW b n gr) (S : VSq b n gr V) (B : FuB b n V fu) (x0 : 0 ≤ x.toInt) (x1 : x.toInt < 2 * ((b + n : Nat) : Int)) (e2 : v2.toInt = ((b - 1 : Nat) : Int)) (h : fFu_ones x v2 fu = some r) : r.toInt = (cnF (lvq V x) (2 ^ (b - 1)) : Int) := by
  have G0 := G.1
  have z := ons_go (m := b - 1) B x0 x1 (by omega) e2 (by omega) cfFU 0 0 0 r rfl (by omega) rfl h
  have p0 : 0 < 2 ^ (b - 1) := Nat.pow_pos (by decide)
  have per := cnF_p (F := lvq V x) (N := 2 ^ (b - 1)) p0 (fun i => by unfold lvq; rw [VS_m G S (by omega)]) (2 ^ (8 - (b - 1)))
  rw [← Nat.pow_add, show 8 - (b - 1) + (b - 1) = 8 by omega, show (2 : Nat) ^ 8 = 256 from by decide] at per
  rw [z, per, Nat.mul_div_cancel_left _ (Nat.pow_pos (by decide))]
def hgB (F : Nat → Bool) (m k : Nat) : Bool := (List.range (2 ^ m)).any (fun i => F i != F (i ^^^ 2 ^ k))
def FaQ (F : Nat → Bool) (m : Nat) (r : Int32) : Prop := (r = -1 ∧ ∀ k : Nat, k < m → hgB F m k = false) ∨ ∃ k : Nat, k < m ∧ r.toInt = (k : Int) ∧ hgB F m k = true ∧ ∀ j : Nat, j < k → hgB F m j = false
theorem FaQ_u {F : Nat → Bool} {m : Nat} {r s : Int32} (h : FaQ F m r) (k : FaQ F m s) : r = s := by
  rcases h with ⟨a, c⟩ | ⟨i, a, c, d, e⟩ <;> rcases k with ⟨a2, c2⟩ | ⟨j, a2, c2, d2, e2⟩
  · rw [a, a2]
  · rw [c j a2] at d2; cases d2
  · rw [c2 i a] at d; cases d
  · rcases Nat.lt_trichotomy i j with l | l | l
    · rw [e2 i l] at d; cases d
    · exact Int32.toInt_inj.mp (by rw [c, c2, l])
    · rw [e j l] at d2; cases d2
theorem xr_t : ∀ i : Nat, i < 256 → ∀ k : Nat, k < 8 → (Int32.ofNat i ^^^ ((1 : Int32) <<< (Int32.ofNat k &&& 31))) = Int32.ofNat (i ^^^ 2 ^ k) := by decide +kernel
theorem xr_b {i k m : Nat} (hi : i < 2 ^ m) (hk : k < m) : i ^^^ 2 ^ k < 2 ^ m := Nat.xor_lt_two_pow hi (Nat.pow_lt_pow_right (by decide) hk)
theorem fas_go {b n m : Nat} {x v2 : Int32} {fu : cf_O} {V : Nat → Nat → Bool} (B : FuB b n V fu) (x0 : 0 ≤ x.toInt) (x1 : x.toInt < 2 * ((b + n : Nat) : Int)) (bn : b + n ≤ 209) (e2 : v2.toInt = (m : Int)) (hm : m ≤ 8) : ∀ f : Nat,
    (∀ (k : Nat) (v3 r : Int32), v3.toInt = (k : Int) → k ≤ m → (∀ j : Nat, j < k → hgB (lvq V x) m j = false) → gFu_firstAsked f 0 x v2 v3 0 fu = some r → FaQ (lvq V x) m r) ∧
    (∀ (k i : Nat) (v3 v4 r : Int32), v3.toInt = (k : Int) → k < m → v4.toInt = (i : Int) → i ≤ 2 ^ m → (∀ j : Nat, j < k → hgB (lvq V x) m j = false) → (∀ j : Nat, j < i → lvq V x j = lvq V x (j ^^^ 2 ^ k)) → gFu_firstAsked f 1 x v2 v3 v4 fu = some r → FaQ (lvq V x) m r)
  | 0 => ⟨fun _ _ _ _ _ _ h => (by cases h), fun _ _ _ _ _ _ _ _ _ _ _ h => (by cases h)⟩
  | f + 1 => by
    obtain ⟨i0, i1⟩ := fas_go B x0 x1 bn e2 hm f
    have p9 : 2 ^ m ≤ 256 := Nat.le_trans (Nat.pow_le_pow_right (by decide) hm) (by decide)
    refine ⟨?_, ?_⟩
    · intro k v3 r e3 hk H h
      have h : fFu_firstAsked_2 (gFu_firstAsked f) x v2 v3 fu = some r := h
      unfold fFu_firstAsked_2 at h
      rcases ifc h with ⟨a, h⟩ | ⟨a, h⟩
      · have a := c_le a
        exact Or.inl ⟨(Option.some.inj h).symm, fun j hj => H j (by omega)⟩
      · have a := c_nle a
        exact i1 k 0 v3 0 r e3 (by omega) rfl (Nat.zero_le _) H (fun j hj => absurd hj (by omega)) h
    · intro k i v3 v4 r e3 hk e4 hi H J h
      have h : fFu_firstAsked_10 (gFu_firstAsked f) x v2 v3 v4 fu = some r := h
      unfold fFu_firstAsked_10 at h
      rw [opk] at h
      have es := s1_9 m (by omega)
      rw [← on_i e2] at es
      rcases ifc h with ⟨a, h⟩ | ⟨a, h⟩
      · have a := c_le a
        rw [opk] at h
        refine i0 (k + 1) (v3 + 1) r (by rw [pW (by omega) (by omega)]; omega) (by omega) (fun j hj => ?_) h
        by_cases ej : j = k
        · subst ej
          unfold hgB
          refine List.any_eq_false.mpr (fun y hy => ?_)
          have hy := List.mem_range.mp hy
          rw [J y (by omega), bne_self_eq_false]; decide
        · exact H j (by omega)
      · have a := c_nle a
        obtain ⟨q, hq, h⟩ := bd h
        rw [opk, opk] at h
        have ex := xr_t i (by omega) k (by omega)
        rw [← on_i e4, ← on_i e3] at ex
        have xb := xr_b (show i < 2 ^ m by omega) hk
        rw [ex] at h
        have ei : (Int32.ofNat (i ^^^ 2 ^ k)).toInt = ((i ^^^ 2 ^ k : Nat) : Int) := ofiN (by omega)
        obtain ⟨q2, hq2, h⟩ := bd h
        have b1 := bit_sp B x0 x1 bn (by omega) (by omega) hq
        have b2 := bit_sp B x0 x1 bn (by omega) (by omega) hq2
        rw [show v4.toInt.toNat = i by omega] at b1
        rw [show (Int32.ofNat (i ^^^ 2 ^ k)).toInt.toNat = i ^^^ 2 ^ k by omega] at b2
        rw [b1, b2] at h
        rcases ifc h with ⟨c, h⟩ | ⟨c, h⟩
        · rw [opk] at h
          refine i1 k (i + 1) v3 (v4 + 1) r e3 hk (by rw [pW (by omega) (by omega)]; omega) (by omega) H (fun j hj => ?_) h
          by_cases ej : j = i
          · rw [ej]; exact bI_i.mp c
          · exact J j (by omega)
        · have c : ¬ lvq V x i = lvq V x (i ^^^ 2 ^ k) := fun z => c (bI_i.mpr z)
          rw [← Option.some.inj h]
          refine Or.inr ⟨k, hk, e3, ?_, H⟩
          exact List.any_eq_true.mpr ⟨i, List.mem_range.mpr (by omega), bne_iff_ne.mpr c⟩
theorem p2s {m k : Nat} (h : k < m) : 2 ^ (m - k) = 2 * 2 ^ (m - (k + 1)) := by
  rw [show m - k = (m - (k + 1)) + 1 by omega, Nat.pow_succ]; omega
theorem alB_i {F : Nat → Bool} {m k a c : Nat} : alB F m k a c = true ↔ ∀ r : Nat, r < 2 ^ (m - k) → F (a + 2 ^ k * r) = F (c + 2 ^ k * r) := by
  unfold alB
  rw [List.all_eq_true]
  constructor
  · intro h r hr; exact eq_of_beq (h r (List.mem_range.mpr hr))
  · intro h r hr; exact beq_iff_eq.mpr (h r (List.mem_range.mp hr))
theorem ev_x (a k r : Nat) : a + 2 ^ k * (2 * r) = a + 2 ^ (k + 1) * r := by rw [Nat.pow_succ, Nat.mul_assoc]
theorem od_x (a k r : Nat) : a + 2 ^ k * (2 * r + 1) = a + 2 ^ k + 2 ^ (k + 1) * r := by rw [Nat.mul_add, Nat.pow_succ, Nat.mul_assoc]; omega
theorem al_s {F : Nat → Bool} {m k a c : Nat} (h : k < m) : alB F m k a c = true ↔ (alB F m (k + 1) a c = true ∧ alB F m (k + 1) (a + 2 ^ k) (c + 2 ^ k) = true) := by
  rw [alB_i, alB_i, alB_i]
  have p := p2s h
  constructor
  · intro q
    refine ⟨fun r hr => ?_, fun r hr => ?_⟩
    · have z := q (2 * r) (by omega)
      rw [ev_x, ev_x] at z; exact z
    · have z := q (2 * r + 1) (by omega)
      rw [od_x, od_x] at z; exact z
  · rintro ⟨q1, q2⟩ r hr
    rcases Nat.mod_two_eq_zero_or_one r with e | e
    · obtain ⟨s, hs⟩ : ∃ s, r = 2 * s := ⟨r / 2, by omega⟩
      subst hs
      rw [ev_x, ev_x]; exact q1 s (by omega)
    · obtain ⟨s, hs⟩ : ∃ s, r = 2 * s + 1 := ⟨r / 2, by omega⟩
      subst hs
      rw [od_x, od_x]; exact q2 s (by omega)
theorem dp_s {F : Nat → Bool} {m k a : Nat} (h : k < m) : dpB F m k a = true ↔ ¬ alB F m (k + 1) a (a + 2 ^ k) = true := by
  have p := p2s h
  rw [alB_i]
  unfold dpB
  rw [List.any_eq_true]
  constructor
  · rintro ⟨r, hr, q⟩ z
    have hr := List.mem_range.mp hr
    have q := bne_iff_ne.mp q
    rcases Nat.mod_two_eq_zero_or_one r with e | e
    · obtain ⟨s, hs⟩ : ∃ s, r = 2 * s := ⟨r / 2, by omega⟩
      subst hs
      have fl : flp (2 * s) = 2 * s + 1 := by unfold flp; rw [if_pos (by omega)]
      rw [fl, ev_x, od_x] at q
      exact q (z s (by omega))
    · obtain ⟨s, hs⟩ : ∃ s, r = 2 * s + 1 := ⟨r / 2, by omega⟩
      subst hs
      have fl : flp (2 * s + 1) = 2 * s := by unfold flp; rw [if_neg (by omega)]; omega
      rw [fl, ev_x, od_x] at q
      exact q (z s (by omega)).symm
  · intro z
    refine Classical.byContradiction (fun y => z (fun r hr => ?_))
    refine Classical.byContradiction (fun w => y ⟨2 * r, List.mem_range.mpr (by omega), ?_⟩)
    have fl : flp (2 * r) = 2 * r + 1 := by unfold flp; rw [if_pos (by omega)]
    rw [fl, ev_x, od_x]
    exact bne_iff_ne.mpr w
def PaI (F : Nat → Bool) (m k : Nat) (P : Nat → Int32) (L : Int) : Prop := (∀ i j : Nat, i < 2 ^ k → j < 2 ^ k → (P i = P j ↔ alB F m k i j = true)) ∧ ∀ i : Nat, i < 2 ^ k → 0 ≤ (P i).toInt ∧ (P i).toInt < L
theorem qof_go {z o v3 : Int32} {a : Nat} {fu : cf_O} (e3 : v3.toInt = (a : Int)) (ha : a ≤ 128) : ∀ (f q : Nat) (v4 r : Int32), v4.toInt = (q : Int) → q ≤ a → (∀ j : Nat, j < q → ¬ (fu.2.1 3 j = z ∧ fu.2.1 4 j = o)) → gFu_questionOf f 0 z o v3 v4 fu = some r → (∃ j : Nat, j < a ∧ r.toInt = (j : Int) ∧ fu.2.1 3 j = z ∧ fu.2.1 4 j = o) ∨ (r.toInt = (a : Int) ∧ ∀ j : Nat, j < a → ¬ (fu.2.1 3 j = z ∧ fu.2.1 4 j = o))
  | 0, q, v4, r, e4, hq, H, h => by cases h
  | f + 1, q, v4, r, e4, hq, H, h => by
    have h : fFu_questionOf_3 (gFu_questionOf f) z o v3 v4 fu = some r := h
    unfold fFu_questionOf_3 at h
    rcases ifc h with ⟨a1, h⟩ | ⟨a1, h⟩
    · have a1 := c_le a1
      rw [← Option.some.inj h]
      exact Or.inr ⟨e3, fun j hj => H j (by omega)⟩
    · have a1 := c_nle a1
      have h := (ifn h).2
      rw [opk, tW e4] at h
      have nx : ¬ (fu.2.1 3 q = z ∧ fu.2.1 4 q = o) → fFu_questionOf_34 (gFu_questionOf f) z o v3 v4 fu = some r → _ := fun y w => qof_go e3 ha f (q + 1) (v4 + 1) r (by rw [pW (by omega) (by omega)]; omega) (by omega) (fun j hj => by
        by_cases ej : j = q
        · rw [ej]; exact y
        · exact H j (by omega)) w
      rcases ifc h with ⟨c, h⟩ | ⟨c, h⟩
      · have h := (ifn h).2
        rw [opk] at h
        rcases ifc h with ⟨d, h⟩ | ⟨d, h⟩
        · rw [← Option.some.inj h]
          exact Or.inl ⟨q, by omega, e4, c, d⟩
        · exact nx (fun y => d y.2) h
      · exact nx (fun y => c y.1) h
